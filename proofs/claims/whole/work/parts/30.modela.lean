theorem cy_X9_thrown : CY yX9_thrown RX9 cX9_thrown 1 (some .int) 0 := ⟨q10, q897, rfl, by decide, by decide, by decide +kernel⟩
def f_X9_thrown_0 (S : ST)  : Option (Int32 × ST) := some ((fi S 51), S)
set_option maxHeartbeats 4000000 in
set_option maxRecDepth 100000 in
theorem b_X9_thrown_0 {p : Program} {l : Launch} {e : Env} {s : State} {m : MethodId} {args : Array Value} {below : List Frame} {meth : Method} {c : Code} {x : CX} {res : Int32 × ST} (F : MF p m meth c cX9_thrown 1 s args RX9 (some .int)) : ∀ (H : Heap) (locs : List Loc) (ls : Array Slot) (S : ST), WD x s S H locs → lv_has ls 1 [(0, .ref (x.2.2 (80)))] → f_X9_thrown_0 S = some res → W p l e ({ frames := 0, cells := 0, slots := 0, locals := 0 } : Room) s m args below meth c H locs 0 0 (MQ below (QI x res.2 res.1 s.heap.size) args s 0 0 (AA x s.heap.size)) (F0 m 0 ls []) := by
  intro H locs ls S w hl hf
  unfold f_X9_thrown_0 at hf
  refine lv_aload_n F.1 F.2.1 dX9_thrown_0 rfl (lv_at hl 0 rfl) ?_
  refine g_MD_refusal F w q866 dX9_thrown_1 ?_
  exact r_iret F w (oi_s hf) dX9_thrown_4
def f_X9_thrown (S : ST)  : Option (Int32 × ST) := f_X9_thrown_0 S
set_option maxHeartbeats 4000000 in
set_option maxRecDepth 100000 in
theorem k_X9_thrown (l : Launch) (x : CX) (S : ST)  {res : Int32 × ST} (hf : f_X9_thrown S  = some res) (sz : Nat) : Met l yX9_thrown (Cond.code yX9_thrown cX9_thrown 1 (some .int) :: GW) ({ frames := 0, cells := 0, slots := 0, locals := 0 } : Room) (PC x S sz [.ref (x.2.2 (80))]) (QI x res.2 res.1 sz) 0 0 (AA x sz) := by
  refine Met.ofW (cc := cX9_thrown) (maxL := 1) (ret := (some .int)) (by decide) rfl ?_
  intro p e s m args below meth c s₁ B hml hv
  obtain ⟨rfl, rfl, hPW⟩ := hv
  have F : MF p m meth c cX9_thrown 1 s _ RX9 (some .int) := MF.of B hml
  have w := WD.of hPW
  have hl := lv_entry ([.ref (x.2.2 (80))]) (n := 1) (Nat.le_of_ble_eq_true rfl)
  rw [lg_entry_eq]
  generalize (lg_sl ([.ref (x.2.2 (80))]) ++ List.replicate (1 - (lg_sl ([.ref (x.2.2 (80))])).length) Slot.unset).toArray = ls at hl ⊢
  have hl : lv_has ls 1 [(0, .ref (x.2.2 (80)))] := hl
  unfold f_X9_thrown at hf
  exact b_X9_thrown_0 F  _ _ _ _ w  (lv_sub hl [0] rfl) hf
theorem cy_X9_refused : CY yX9_refused RX9 cX9_refused 2 (some .boolean) 1 := ⟨q10, q905, rfl, by decide, by decide, by decide +kernel⟩
def f_X9_refused_14 (S : ST) (as0 : Int32) : Option (Int32 × ST) := oG (isB as0) (some (as0, S))
set_option maxHeartbeats 4000000 in
set_option maxRecDepth 100000 in
theorem b_X9_refused_14 {p : Program} {l : Launch} {e : Env} {s : State} {m : MethodId} {args : Array Value} {below : List Frame} {meth : Method} {c : Code} {x : CX} {res : Int32 × ST} (F : MF p m meth c cX9_refused 2 s args RX9 (some .boolean)) : ∀ (H : Heap) (locs : List Loc) (ls : Array Slot) (S : ST), WD x s S H locs → ∀ (as0 : Int32), lv_has ls 2 [] → f_X9_refused_14 S as0 = some res → W p l e ({ frames := 0, cells := 0, slots := 0, locals := 0 } : Room) s m args below meth c H locs 0 0 (MQ below (QI x res.2 res.1 s.heap.size) args s 0 0 (AA x s.heap.size)) (F0 m 14 ls [.int as0]) := by
  intro H locs ls S w as0 hl hf
  unfold f_X9_refused_14 at hf
  obtain ⟨hz1, hf⟩ := oi_g hf
  exact r_zret F w (isB_nar hz1) (oi_s hf) dX9_refused_14
def f_X9_refused_0 (S : ST) (a1 : Int32) : Option (Int32 × ST) := oL (sI S 51 a1) (fun (S1 : ST) => (if a1 ≤ 0 then f_X9_refused_14 S1 0 else f_X9_refused_14 S1 1))
set_option maxHeartbeats 4000000 in
set_option maxRecDepth 100000 in
theorem b_X9_refused_0 {p : Program} {l : Launch} {e : Env} {s : State} {m : MethodId} {args : Array Value} {below : List Frame} {meth : Method} {c : Code} {x : CX} {res : Int32 × ST} (F : MF p m meth c cX9_refused 2 s args RX9 (some .boolean)) : ∀ (H : Heap) (locs : List Loc) (ls : Array Slot) (S : ST), WD x s S H locs → ∀ (a1 : Int32), lv_has ls 2 [(0, .ref (x.2.2 (80))), (1, .int a1)] → f_X9_refused_0 S a1 = some res → W p l e ({ frames := 0, cells := 0, slots := 0, locals := 0 } : Room) s m args below meth c H locs 0 0 (MQ below (QI x res.2 res.1 s.heap.size) args s 0 0 (AA x s.heap.size)) (F0 m 0 ls []) := by
  intro H locs ls S w a1 hl hf
  unfold f_X9_refused_0 at hf
  refine lv_aload_n F.1 F.2.1 dX9_refused_0 rfl (lv_at hl 0 rfl) ?_
  refine lv_iload_n F.1 F.2.1 dX9_refused_1 rfl (lv_at hl 1 rfl) ?_
  refine p_MD_refusal F w q866 dX9_refused_2 (fun H locs w => ?_)
  obtain ⟨S1, e_S1⟩ : ∃ y : ST, y = sI S 51 a1 := ⟨_, rfl⟩
  replace w : WD x s S1 H locs := by rw [e_S1]; exact w
  replace hf := oi_l hf e_S1
  refine lv_iload_n F.1 F.2.1 dX9_refused_5 rfl (lv_at hl 1 rfl) ?_
  refine lv_if_le (tgt := 13) F.1 F.2.1 dX9_refused_6 (by decide) (fun c2 => ?_) (fun c2 => ?_)
  · replace hf := oi_t hf c2
    refine lv_iconst (v := 0) F.1 F.2.1 dX9_refused_13 (by decide) ?_
    exact b_X9_refused_14 F  _ _ _ _ w 0 (lv_sub hl [] rfl) hf
  · replace hf := oi_f hf c2
    refine lv_iconst (v := 1) F.1 F.2.1 dX9_refused_9 (by decide) ?_
    refine lv_goto (tgt := 14) F.1 F.2.1 dX9_refused_10 (by decide) ?_
    exact b_X9_refused_14 F  _ _ _ _ w 1 (lv_sub hl [] rfl) hf
def f_X9_refused (S : ST) (a1 : Int32) : Option (Int32 × ST) := f_X9_refused_0 S a1
set_option maxHeartbeats 4000000 in
set_option maxRecDepth 100000 in
theorem k_X9_refused (l : Launch) (x : CX) (S : ST) (a1 : Int32) {res : Int32 × ST} (hf : f_X9_refused S a1 = some res) (sz : Nat) : Met l yX9_refused (Cond.code yX9_refused cX9_refused 2 (some .boolean) :: GW) ({ frames := 0, cells := 0, slots := 0, locals := 0 } : Room) (PC x S sz [.ref (x.2.2 (80)), .int a1]) (QI x res.2 res.1 sz) 0 0 (AA x sz) := by
  refine Met.ofW (cc := cX9_refused) (maxL := 2) (ret := (some .boolean)) (by decide) rfl ?_
  intro p e s m args below meth c s₁ B hml hv
  obtain ⟨rfl, rfl, hPW⟩ := hv
  have F : MF p m meth c cX9_refused 2 s _ RX9 (some .boolean) := MF.of B hml
  have w := WD.of hPW
  have hl := lv_entry ([.ref (x.2.2 (80)), .int a1]) (n := 2) (Nat.le_of_ble_eq_true rfl)
  rw [lg_entry_eq]
  generalize (lg_sl ([.ref (x.2.2 (80)), .int a1]) ++ List.replicate (2 - (lg_sl ([.ref (x.2.2 (80)), .int a1])).length) Slot.unset).toArray = ls at hl ⊢
  have hl : lv_has ls 2 [(0, .ref (x.2.2 (80))), (1, .int a1)] := hl
  unfold f_X9_refused at hf
  exact b_X9_refused_0 F  _ _ _ _ w a1 (lv_sub hl [0, 1] rfl) hf
theorem cy_X9_within : CY yX9_within RX9 cX9_within 3 (some .boolean) 3 := ⟨q10, q915, rfl, by decide, by decide, by decide +kernel⟩
def f_X9_within_15 (S : ST) (as0 : Int32) : Option (Int32 × ST) := oG (isB as0) (some (as0, S))
set_option maxHeartbeats 4000000 in
set_option maxRecDepth 100000 in
theorem b_X9_within_15 {p : Program} {l : Launch} {e : Env} {s : State} {m : MethodId} {args : Array Value} {below : List Frame} {meth : Method} {c : Code} {x : CX} {res : Int32 × ST} (F : MF p m meth c cX9_within 3 s args RX9 (some .boolean)) : ∀ (H : Heap) (locs : List Loc) (ls : Array Slot) (S : ST), WD x s S H locs → ∀ (as0 : Int32), lv_has ls 3 [] → f_X9_within_15 S as0 = some res → W p l e ({ frames := 0, cells := 0, slots := 0, locals := 0 } : Room) s m args below meth c H locs 0 0 (MQ below (QI x res.2 res.1 s.heap.size) args s 0 0 (AA x s.heap.size)) (F0 m 15 ls [.int as0]) := by
  intro H locs ls S w as0 hl hf
  unfold f_X9_within_15 at hf
  obtain ⟨hz1, hf⟩ := oi_g hf
  exact r_zret F w (isB_nar hz1) (oi_s hf) dX9_within_15
def f_X9_within_14 (S : ST)  : Option (Int32 × ST) := f_X9_within_15 S 0
set_option maxHeartbeats 4000000 in
set_option maxRecDepth 100000 in
theorem b_X9_within_14 {p : Program} {l : Launch} {e : Env} {s : State} {m : MethodId} {args : Array Value} {below : List Frame} {meth : Method} {c : Code} {x : CX} {res : Int32 × ST} (F : MF p m meth c cX9_within 3 s args RX9 (some .boolean)) : ∀ (H : Heap) (locs : List Loc) (ls : Array Slot) (S : ST), WD x s S H locs → lv_has ls 3 [] → f_X9_within_14 S = some res → W p l e ({ frames := 0, cells := 0, slots := 0, locals := 0 } : Room) s m args below meth c H locs 0 0 (MQ below (QI x res.2 res.1 s.heap.size) args s 0 0 (AA x s.heap.size)) (F0 m 14 ls []) := by
  intro H locs ls S w hl hf
  unfold f_X9_within_14 at hf
  refine lv_iconst (v := 0) F.1 F.2.1 dX9_within_14 (by decide) ?_
  exact b_X9_within_15 F  _ _ _ _ w 0 (lv_sub hl [] rfl) hf
def f_X9_within_0 (S : ST) (a0 : Int32) (a1 : Int32) (a2 : Int32) : Option (Int32 × ST) := (if a0 < a1 then f_X9_within_14 S else (if a2 < a0 then f_X9_within_14 S else f_X9_within_15 S 1))
set_option maxHeartbeats 4000000 in
set_option maxRecDepth 100000 in
theorem b_X9_within_0 {p : Program} {l : Launch} {e : Env} {s : State} {m : MethodId} {args : Array Value} {below : List Frame} {meth : Method} {c : Code} {x : CX} {res : Int32 × ST} (F : MF p m meth c cX9_within 3 s args RX9 (some .boolean)) : ∀ (H : Heap) (locs : List Loc) (ls : Array Slot) (S : ST), WD x s S H locs → ∀ (a0 : Int32) (a1 : Int32) (a2 : Int32), lv_has ls 3 [(0, .int a0), (1, .int a1), (2, .int a2)] → f_X9_within_0 S a0 a1 a2 = some res → W p l e ({ frames := 0, cells := 0, slots := 0, locals := 0 } : Room) s m args below meth c H locs 0 0 (MQ below (QI x res.2 res.1 s.heap.size) args s 0 0 (AA x s.heap.size)) (F0 m 0 ls []) := by
  intro H locs ls S w a0 a1 a2 hl hf
  unfold f_X9_within_0 at hf
  refine lv_iload_n F.1 F.2.1 dX9_within_0 rfl (lv_at hl 0 rfl) ?_
  refine lv_iload_n F.1 F.2.1 dX9_within_1 rfl (lv_at hl 1 rfl) ?_
  refine lv_icmp_lt (tgt := 14) F.1 F.2.1 dX9_within_2 (by decide) (fun c1 => ?_) (fun c1 => ?_)
  · replace hf := oi_t hf c1
    exact b_X9_within_14 F  _ _ _ _ w  (lv_sub hl [] rfl) hf
  · replace hf := oi_f hf c1
    refine lv_iload_n F.1 F.2.1 dX9_within_5 rfl (lv_at hl 0 rfl) ?_
    refine lv_iload_n F.1 F.2.1 dX9_within_6 rfl (lv_at hl 2 rfl) ?_
    refine lv_icmp_gt (tgt := 14) F.1 F.2.1 dX9_within_7 (by decide) (fun c2 => ?_) (fun c2 => ?_)
    · replace hf := oi_t hf c2
      exact b_X9_within_14 F  _ _ _ _ w  (lv_sub hl [] rfl) hf
    · replace hf := oi_f hf c2
      refine lv_iconst (v := 1) F.1 F.2.1 dX9_within_10 (by decide) ?_
      refine lv_goto (tgt := 15) F.1 F.2.1 dX9_within_11 (by decide) ?_
      exact b_X9_within_15 F  _ _ _ _ w 1 (lv_sub hl [] rfl) hf
def f_X9_within (S : ST) (a0 : Int32) (a1 : Int32) (a2 : Int32) : Option (Int32 × ST) := f_X9_within_0 S a0 a1 a2
set_option maxHeartbeats 4000000 in
set_option maxRecDepth 100000 in
theorem k_X9_within (l : Launch) (x : CX) (S : ST) (a0 : Int32) (a1 : Int32) (a2 : Int32) {res : Int32 × ST} (hf : f_X9_within S a0 a1 a2 = some res) (sz : Nat) : Met l yX9_within (Cond.code yX9_within cX9_within 3 (some .boolean) :: GW) ({ frames := 0, cells := 0, slots := 0, locals := 0 } : Room) (PC x S sz [.int a0, .int a1, .int a2]) (QI x res.2 res.1 sz) 0 0 (AA x sz) := by
  refine Met.ofW (cc := cX9_within) (maxL := 3) (ret := (some .boolean)) (by decide) rfl ?_
  intro p e s m args below meth c s₁ B hml hv
  obtain ⟨rfl, rfl, hPW⟩ := hv
  have F : MF p m meth c cX9_within 3 s _ RX9 (some .boolean) := MF.of B hml
  have w := WD.of hPW
  have hl := lv_entry ([.int a0, .int a1, .int a2]) (n := 3) (Nat.le_of_ble_eq_true rfl)
  rw [lg_entry_eq]
  generalize (lg_sl ([.int a0, .int a1, .int a2]) ++ List.replicate (3 - (lg_sl ([.int a0, .int a1, .int a2])).length) Slot.unset).toArray = ls at hl ⊢
  have hl : lv_has ls 3 [(0, .int a0), (1, .int a1), (2, .int a2)] := hl
  unfold f_X9_within at hf
  exact b_X9_within_0 F  _ _ _ _ w a0 a1 a2 (lv_sub hl [0, 1, 2] rfl) hf
theorem cy_X9_isSet : CY yX9_isSet RX9 cX9_isSet 1 (some .boolean) 1 := ⟨q10, q912, rfl, by decide, by decide, by decide +kernel⟩
def f_X9_isSet_0 (S : ST) (a0 : Int32) : Option (Int32 × ST) := oB (f_X9_within S a0 0 3) (fun (r2 : Int32) (S1 : ST) => oG (isB r2) (some (r2, S1)))
set_option maxHeartbeats 4000000 in
set_option maxRecDepth 100000 in
theorem b_X9_isSet_0 {p : Program} {l : Launch} {e : Env} {s : State} {m : MethodId} {args : Array Value} {below : List Frame} {meth : Method} {c : Code} {x : CX} {res : Int32 × ST} (F : MF p m meth c cX9_isSet 1 s args RX9 (some .boolean)) : ∀ (H : Heap) (locs : List Loc) (ls : Array Slot) (S : ST), WD x s S H locs → ∀ (a0 : Int32), lv_has ls 1 [(0, .int a0)] → f_X9_isSet_0 S a0 = some res → W p l e ({ frames := 1, cells := 0, slots := 0, locals := 22 } : Room) s m args below meth c H locs 0 0 (MQ below (QI x res.2 res.1 s.heap.size) args s 0 0 (AA x s.heap.size)) (F0 m 0 ls []) := by
  intro H locs ls S w a0 hl hf
  unfold f_X9_isSet_0 at hf
  refine lv_iload_n F.1 F.2.1 dX9_isSet_0 rfl (lv_at hl 0 rfl) ?_
  refine lv_iconst (v := 0) F.1 F.2.1 dX9_isSet_1 (by decide) ?_
  refine lv_iconst (v := 3) F.1 F.2.1 dX9_isSet_2 (by decide) ?_
  obtain ⟨r2, S1, hc, hf⟩ := oi_b hf
  refine k_i0 (S' := S1) (r := r2) w (runS (As := [.int a0, .int 0, .int 3]) (rest := []) F w (k_X9_within l x S a0 0 3 hc H.size) cy_X9_within q913 q914 ⟨rfl, rfl⟩ ⟨Nat.le_of_ble_eq_true rfl, Nat.le_of_ble_eq_true rfl⟩ rfl rfl hl.1 (Nat.le_of_ble_eq_true rfl) ⟨Nat.le_of_ble_eq_true rfl, Nat.le_of_ble_eq_true rfl⟩ dX9_isSet_3) (fun H locs w => ?_)
  obtain ⟨hz3, hf⟩ := oi_g hf
  exact r_zret F w (isB_nar hz3) (oi_s hf) dX9_isSet_6
def f_X9_isSet (S : ST) (a0 : Int32) : Option (Int32 × ST) := f_X9_isSet_0 S a0
set_option maxHeartbeats 4000000 in
set_option maxRecDepth 100000 in
theorem k_X9_isSet (l : Launch) (x : CX) (S : ST) (a0 : Int32) {res : Int32 × ST} (hf : f_X9_isSet S a0 = some res) (sz : Nat) : Met l yX9_isSet (Cond.code yX9_isSet cX9_isSet 1 (some .boolean) :: GW) ({ frames := 1, cells := 0, slots := 0, locals := 22 } : Room) (PC x S sz [.int a0]) (QI x res.2 res.1 sz) 0 0 (AA x sz) := by
  refine Met.ofW (cc := cX9_isSet) (maxL := 1) (ret := (some .boolean)) (by decide) rfl ?_
  intro p e s m args below meth c s₁ B hml hv
  obtain ⟨rfl, rfl, hPW⟩ := hv
  have F : MF p m meth c cX9_isSet 1 s _ RX9 (some .boolean) := MF.of B hml
  have w := WD.of hPW
  have hl := lv_entry ([.int a0]) (n := 1) (Nat.le_of_ble_eq_true rfl)
  rw [lg_entry_eq]
  generalize (lg_sl ([.int a0]) ++ List.replicate (1 - (lg_sl ([.int a0])).length) Slot.unset).toArray = ls at hl ⊢
  have hl : lv_has ls 1 [(0, .int a0)] := hl
  unfold f_X9_isSet at hf
  exact b_X9_isSet_0 F  _ _ _ _ w a0 (lv_sub hl [0] rfl) hf
theorem cy_X9_many : CY yX9_many RX9 cX9_many 2 (some .int) 1 := ⟨q10, q923, rfl, by decide, by decide, by decide +kernel⟩
def f_X9_many_0 (S : ST) (a1 : Int32) : Option (Int32 × ST) := oG (inB ((1 : Int32) + ((25 : Int32) * a1)) 101) (some ((ai S 30 (Int32.toNatClampNeg ((1 : Int32) + ((25 : Int32) * a1)))), S))
set_option maxHeartbeats 4000000 in
set_option maxRecDepth 100000 in
theorem b_X9_many_0 {p : Program} {l : Launch} {e : Env} {s : State} {m : MethodId} {args : Array Value} {below : List Frame} {meth : Method} {c : Code} {x : CX} {res : Int32 × ST} (F : MF p m meth c cX9_many 2 s args RX9 (some .int)) : ∀ (H : Heap) (locs : List Loc) (ls : Array Slot) (S : ST), WD x s S H locs → ∀ (a1 : Int32), lv_has ls 2 [(0, .ref (x.2.2 (80))), (1, .int a1)] → f_X9_many_0 S a1 = some res → W p l e ({ frames := 0, cells := 0, slots := 0, locals := 0 } : Room) s m args below meth c H locs 0 0 (MQ below (QI x res.2 res.1 s.heap.size) args s 0 0 (AA x s.heap.size)) (F0 m 0 ls []) := by
  intro H locs ls S w a1 hl hf
  unfold f_X9_many_0 at hf
  refine lv_aload_n F.1 F.2.1 dX9_many_0 rfl (lv_at hl 0 rfl) ?_
  refine g_MD_now F w q863 dX9_many_1 ?_
  refine lv_iconst (v := 1) F.1 F.2.1 dX9_many_4 (by decide) ?_
  refine lv_bipush (v := 25) F.1 F.2.1 dX9_many_5 (by decide) ?_
  refine lv_iload_n F.1 F.2.1 dX9_many_7 rfl (lv_at hl 1 rfl) ?_
  refine lv_imul F.1 F.2.1 dX9_many_8 ?_
  refine lv_iadd F.1 F.2.1 dX9_many_9 ?_
  obtain ⟨hb1, hf⟩ := oi_g hf
  refine r_iald F w (k := 81) (f := ai S 30) (by decide) rfl hb1 dX9_many_10 ?_
  exact r_iret F w (oi_s hf) dX9_many_11
def f_X9_many (S : ST) (a1 : Int32) : Option (Int32 × ST) := f_X9_many_0 S a1
set_option maxHeartbeats 4000000 in
set_option maxRecDepth 100000 in
theorem k_X9_many (l : Launch) (x : CX) (S : ST) (a1 : Int32) {res : Int32 × ST} (hf : f_X9_many S a1 = some res) (sz : Nat) : Met l yX9_many (Cond.code yX9_many cX9_many 2 (some .int) :: GW) ({ frames := 0, cells := 0, slots := 0, locals := 0 } : Room) (PC x S sz [.ref (x.2.2 (80)), .int a1]) (QI x res.2 res.1 sz) 0 0 (AA x sz) := by
  refine Met.ofW (cc := cX9_many) (maxL := 2) (ret := (some .int)) (by decide) rfl ?_
  intro p e s m args below meth c s₁ B hml hv
  obtain ⟨rfl, rfl, hPW⟩ := hv
  have F : MF p m meth c cX9_many 2 s _ RX9 (some .int) := MF.of B hml
  have w := WD.of hPW
  have hl := lv_entry ([.ref (x.2.2 (80)), .int a1]) (n := 2) (Nat.le_of_ble_eq_true rfl)
  rw [lg_entry_eq]
  generalize (lg_sl ([.ref (x.2.2 (80)), .int a1]) ++ List.replicate (2 - (lg_sl ([.ref (x.2.2 (80)), .int a1])).length) Slot.unset).toArray = ls at hl ⊢
  have hl : lv_has ls 2 [(0, .ref (x.2.2 (80))), (1, .int a1)] := hl
  unfold f_X9_many at hf
  exact b_X9_many_0 F  _ _ _ _ w a1 (lv_sub hl [0, 1] rfl) hf
theorem cy_X9_markAt : CY yX9_markAt RX9 cX9_markAt 3 (some .int) 2 := ⟨q10, q927, rfl, by decide, by decide, by decide +kernel⟩
def f_X9_markAt_0 (S : ST) (a1 : Int32) (a2 : Int32) : Option (Int32 × ST) := oG (inB ((((1 : Int32) + ((25 : Int32) * a1)) + (1 : Int32)) + a2) 101) (some ((ai S 30 (Int32.toNatClampNeg ((((1 : Int32) + ((25 : Int32) * a1)) + (1 : Int32)) + a2))), S))
set_option maxHeartbeats 4000000 in
set_option maxRecDepth 100000 in
theorem b_X9_markAt_0 {p : Program} {l : Launch} {e : Env} {s : State} {m : MethodId} {args : Array Value} {below : List Frame} {meth : Method} {c : Code} {x : CX} {res : Int32 × ST} (F : MF p m meth c cX9_markAt 3 s args RX9 (some .int)) : ∀ (H : Heap) (locs : List Loc) (ls : Array Slot) (S : ST), WD x s S H locs → ∀ (a1 : Int32) (a2 : Int32), lv_has ls 3 [(0, .ref (x.2.2 (80))), (1, .int a1), (2, .int a2)] → f_X9_markAt_0 S a1 a2 = some res → W p l e ({ frames := 0, cells := 0, slots := 0, locals := 0 } : Room) s m args below meth c H locs 0 0 (MQ below (QI x res.2 res.1 s.heap.size) args s 0 0 (AA x s.heap.size)) (F0 m 0 ls []) := by
  intro H locs ls S w a1 a2 hl hf
  unfold f_X9_markAt_0 at hf
  refine lv_aload_n F.1 F.2.1 dX9_markAt_0 rfl (lv_at hl 0 rfl) ?_
  refine g_MD_now F w q863 dX9_markAt_1 ?_
  refine lv_iconst (v := 1) F.1 F.2.1 dX9_markAt_4 (by decide) ?_
  refine lv_bipush (v := 25) F.1 F.2.1 dX9_markAt_5 (by decide) ?_
  refine lv_iload_n F.1 F.2.1 dX9_markAt_7 rfl (lv_at hl 1 rfl) ?_
  refine lv_imul F.1 F.2.1 dX9_markAt_8 ?_
  refine lv_iadd F.1 F.2.1 dX9_markAt_9 ?_
  refine lv_iconst (v := 1) F.1 F.2.1 dX9_markAt_10 (by decide) ?_
  refine lv_iadd F.1 F.2.1 dX9_markAt_11 ?_
  refine lv_iload_n F.1 F.2.1 dX9_markAt_12 rfl (lv_at hl 2 rfl) ?_
  refine lv_iadd F.1 F.2.1 dX9_markAt_13 ?_
  obtain ⟨hb1, hf⟩ := oi_g hf
  refine r_iald F w (k := 81) (f := ai S 30) (by decide) rfl hb1 dX9_markAt_14 ?_
  exact r_iret F w (oi_s hf) dX9_markAt_15
def f_X9_markAt (S : ST) (a1 : Int32) (a2 : Int32) : Option (Int32 × ST) := f_X9_markAt_0 S a1 a2
set_option maxHeartbeats 4000000 in
set_option maxRecDepth 100000 in
theorem k_X9_markAt (l : Launch) (x : CX) (S : ST) (a1 : Int32) (a2 : Int32) {res : Int32 × ST} (hf : f_X9_markAt S a1 a2 = some res) (sz : Nat) : Met l yX9_markAt (Cond.code yX9_markAt cX9_markAt 3 (some .int) :: GW) ({ frames := 0, cells := 0, slots := 0, locals := 0 } : Room) (PC x S sz [.ref (x.2.2 (80)), .int a1, .int a2]) (QI x res.2 res.1 sz) 0 0 (AA x sz) := by
  refine Met.ofW (cc := cX9_markAt) (maxL := 3) (ret := (some .int)) (by decide) rfl ?_
  intro p e s m args below meth c s₁ B hml hv
  obtain ⟨rfl, rfl, hPW⟩ := hv
  have F : MF p m meth c cX9_markAt 3 s _ RX9 (some .int) := MF.of B hml
  have w := WD.of hPW
  have hl := lv_entry ([.ref (x.2.2 (80)), .int a1, .int a2]) (n := 3) (Nat.le_of_ble_eq_true rfl)
  rw [lg_entry_eq]
  generalize (lg_sl ([.ref (x.2.2 (80)), .int a1, .int a2]) ++ List.replicate (3 - (lg_sl ([.ref (x.2.2 (80)), .int a1, .int a2])).length) Slot.unset).toArray = ls at hl ⊢
  have hl : lv_has ls 3 [(0, .ref (x.2.2 (80))), (1, .int a1), (2, .int a2)] := hl
  unfold f_X9_markAt at hf
  exact b_X9_markAt_0 F  _ _ _ _ w a1 a2 (lv_sub hl [0, 1, 2] rfl) hf
theorem cy_X9_modulus : CY yX9_modulus RX9 cX9_modulus 1 (some .int) 0 := ⟨q10, q1027, rfl, by decide, by decide, by decide +kernel⟩
def f_X9_modulus_0 (S : ST)  : Option (Int32 × ST) := oG (inB 0 101) (some ((ai S 30 (Int32.toNatClampNeg 0)), S))
set_option maxHeartbeats 4000000 in
set_option maxRecDepth 100000 in
theorem b_X9_modulus_0 {p : Program} {l : Launch} {e : Env} {s : State} {m : MethodId} {args : Array Value} {below : List Frame} {meth : Method} {c : Code} {x : CX} {res : Int32 × ST} (F : MF p m meth c cX9_modulus 1 s args RX9 (some .int)) : ∀ (H : Heap) (locs : List Loc) (ls : Array Slot) (S : ST), WD x s S H locs → lv_has ls 1 [(0, .ref (x.2.2 (80)))] → f_X9_modulus_0 S = some res → W p l e ({ frames := 0, cells := 0, slots := 0, locals := 0 } : Room) s m args below meth c H locs 0 0 (MQ below (QI x res.2 res.1 s.heap.size) args s 0 0 (AA x s.heap.size)) (F0 m 0 ls []) := by
  intro H locs ls S w hl hf
  unfold f_X9_modulus_0 at hf
  refine lv_aload_n F.1 F.2.1 dX9_modulus_0 rfl (lv_at hl 0 rfl) ?_
  refine g_MD_now F w q863 dX9_modulus_1 ?_
  refine lv_iconst (v := 0) F.1 F.2.1 dX9_modulus_4 (by decide) ?_
  obtain ⟨hb1, hf⟩ := oi_g hf
  refine r_iald F w (k := 81) (f := ai S 30) (by decide) rfl hb1 dX9_modulus_5 ?_
  exact r_iret F w (oi_s hf) dX9_modulus_6
def f_X9_modulus (S : ST)  : Option (Int32 × ST) := f_X9_modulus_0 S
set_option maxHeartbeats 4000000 in
set_option maxRecDepth 100000 in
theorem k_X9_modulus (l : Launch) (x : CX) (S : ST)  {res : Int32 × ST} (hf : f_X9_modulus S  = some res) (sz : Nat) : Met l yX9_modulus (Cond.code yX9_modulus cX9_modulus 1 (some .int) :: GW) ({ frames := 0, cells := 0, slots := 0, locals := 0 } : Room) (PC x S sz [.ref (x.2.2 (80))]) (QI x res.2 res.1 sz) 0 0 (AA x sz) := by
  refine Met.ofW (cc := cX9_modulus) (maxL := 1) (ret := (some .int)) (by decide) rfl ?_
  intro p e s m args below meth c s₁ B hml hv
  obtain ⟨rfl, rfl, hPW⟩ := hv
  have F : MF p m meth c cX9_modulus 1 s _ RX9 (some .int) := MF.of B hml
  have w := WD.of hPW
  have hl := lv_entry ([.ref (x.2.2 (80))]) (n := 1) (Nat.le_of_ble_eq_true rfl)
  rw [lg_entry_eq]
  generalize (lg_sl ([.ref (x.2.2 (80))]) ++ List.replicate (1 - (lg_sl ([.ref (x.2.2 (80))])).length) Slot.unset).toArray = ls at hl ⊢
  have hl : lv_has ls 1 [(0, .ref (x.2.2 (80)))] := hl
  unfold f_X9_modulus at hf
  exact b_X9_modulus_0 F  _ _ _ _ w  (lv_sub hl [0] rfl) hf
theorem cy_X9_saves : CY yX9_saves RX9 cX9_saves 2 none 0 := ⟨q10, q931, rfl, by decide, by decide, by decide +kernel⟩
def f_X9_saves_50 : Nat → ST → Int32 → Option (ST)
  | 0, _, _ => none
  | n + 1, S, a1 => (if 101 ≤ a1 then oL (sI S 50 ((fi S 50) + (1 : Int32))) (fun (S2 : ST) => some S2) else oG (inB a1 101) (oG (inB (((101 : Int32) * (fi S 50)) + a1) 404) (oL (sA S 31 (upd (ai S 31) (Int32.toNatClampNeg (((101 : Int32) * (fi S 50)) + a1)) (ai S 30 (Int32.toNatClampNeg a1)))) (fun (S5 : ST) => oL (a1 + 1) (fun (v6 : Int32) => (f_X9_saves_50 n) S5 v6)))))
set_option maxHeartbeats 4000000 in
set_option maxRecDepth 100000 in
theorem b_X9_saves_50 {p : Program} {l : Launch} {e : Env} {s : State} {m : MethodId} {args : Array Value} {below : List Frame} {meth : Method} {c : Code} {x : CX} {res : ST} (F : MF p m meth c cX9_saves 2 s args RX9 none) : ∀ (n : Nat), ∀ (H : Heap) (locs : List Loc) (ls : Array Slot) (S : ST), WD x s S H locs → ∀ (a1 : Int32), lv_has ls 2 [(0, .ref (x.2.2 (80))), (1, .int a1)] → f_X9_saves_50 n S a1 = some res → W p l e ({ frames := 0, cells := 0, slots := 0, locals := 0 } : Room) s m args below meth c H locs 0 0 (MQ below (QV x res s.heap.size) args s 0 0 (AA x s.heap.size)) (F0 m 50 ls []) := by
  intro n
  induction n with
  | zero =>
    intro H locs ls S w a1 hl hf
    have hf : (none : Option (ST)) = some res := hf
    cases hf
  | succ n ih =>
    intro H locs ls S w a1 hl hf
    unfold f_X9_saves_50 at hf
    refine lv_iload_n F.1 F.2.1 dX9_saves_50 rfl (lv_at hl 1 rfl) ?_
    refine lv_bipush (v := 101) F.1 F.2.1 dX9_saves_51 (by decide) ?_
    refine lv_icmp_ge (tgt := 82) F.1 F.2.1 dX9_saves_53 (by decide) (fun c1 => ?_) (fun c1 => ?_)
    · replace hf := oi_t hf c1
      refine lv_aload_n F.1 F.2.1 dX9_saves_82 rfl (lv_at hl 0 rfl) ?_
      refine lv_dup F.1 F.2.1 dX9_saves_83 rfl ?_
      refine g_MD_saved F w q865 dX9_saves_84 ?_
      refine lv_iconst (v := 1) F.1 F.2.1 dX9_saves_87 (by decide) ?_
      refine lv_iadd F.1 F.2.1 dX9_saves_88 ?_
      refine p_MD_saved F w q865 dX9_saves_89 (fun H locs w => ?_)
      obtain ⟨S2, e_S2⟩ : ∃ y : ST, y = sI S 50 ((fi S 50) + (1 : Int32)) := ⟨_, rfl⟩
      replace w : WD x s S2 H locs := by rw [e_S2]; exact w
      replace hf := oi_l hf e_S2
      exact r_vret F w (oi_s hf) dX9_saves_92
    · replace hf := oi_f hf c1
      refine lv_aload_n F.1 F.2.1 dX9_saves_56 rfl (lv_at hl 0 rfl) ?_
      refine g_MD_past F w q864 dX9_saves_57 ?_
      refine lv_bipush (v := 101) F.1 F.2.1 dX9_saves_60 (by decide) ?_
      refine lv_aload_n F.1 F.2.1 dX9_saves_62 rfl (lv_at hl 0 rfl) ?_
      refine g_MD_saved F w q865 dX9_saves_63 ?_
      refine lv_imul F.1 F.2.1 dX9_saves_66 ?_
      refine lv_iload_n F.1 F.2.1 dX9_saves_67 rfl (lv_at hl 1 rfl) ?_
      refine lv_iadd F.1 F.2.1 dX9_saves_68 ?_
      refine lv_aload_n F.1 F.2.1 dX9_saves_69 rfl (lv_at hl 0 rfl) ?_
      refine g_MD_now F w q863 dX9_saves_70 ?_
      refine lv_iload_n F.1 F.2.1 dX9_saves_73 rfl (lv_at hl 1 rfl) ?_
      obtain ⟨hb3, hf⟩ := oi_g hf
      refine r_iald F w (k := 81) (f := ai S 30) (by decide) rfl hb3 dX9_saves_74 ?_
      obtain ⟨hb4, hf⟩ := oi_g hf
      refine r_iast F w (k := 82) (a := 31) (n := 404) (by decide) (fun S9 => rfl) rfl hb4 dX9_saves_75 (fun H locs w => ?_)
      obtain ⟨S5, e_S5⟩ : ∃ y : ST, y = sA S 31 (upd (ai S 31) (Int32.toNatClampNeg (((101 : Int32) * (fi S 50)) + a1)) (ai S 30 (Int32.toNatClampNeg a1))) := ⟨_, rfl⟩
      replace w : WD x s S5 H locs := by rw [e_S5]; exact w
      replace hf := oi_l hf e_S5
      obtain ⟨v6, e_v6⟩ : ∃ y : Int32, y = (a1 + 1) := ⟨_, rfl⟩
      replace hf := oi_l hf e_v6
      refine lv_iinc (v := v6) (lv' := [(1, .int v6), (0, .ref (x.2.2 (80)))]) F.1 F.2.1 dX9_saves_76 hl (k := 1) rfl (by rw [e_v6]; rfl) (by decide) rfl (fun ls hl => ?_)
      refine lv_goto (tgt := 50) F.1 F.2.1 dX9_saves_79 (by decide) ?_
      exact ih _ _ _ _ w v6 (lv_sub hl [1, 0] rfl) hf
def f_X9_saves_48 (S : ST)  : Option (ST) := f_X9_saves_50 FU S 0
set_option maxHeartbeats 4000000 in
set_option maxRecDepth 100000 in
theorem b_X9_saves_48 {p : Program} {l : Launch} {e : Env} {s : State} {m : MethodId} {args : Array Value} {below : List Frame} {meth : Method} {c : Code} {x : CX} {res : ST} (F : MF p m meth c cX9_saves 2 s args RX9 none) : ∀ (H : Heap) (locs : List Loc) (ls : Array Slot) (S : ST), WD x s S H locs → lv_has ls 2 [(0, .ref (x.2.2 (80)))] → f_X9_saves_48 S = some res → W p l e ({ frames := 0, cells := 0, slots := 0, locals := 0 } : Room) s m args below meth c H locs 0 0 (MQ below (QV x res s.heap.size) args s 0 0 (AA x s.heap.size)) (F0 m 48 ls []) := by
  intro H locs ls S w hl hf
  unfold f_X9_saves_48 at hf
  refine lv_iconst (v := 0) F.1 F.2.1 dX9_saves_48 (by decide) ?_
  refine lv_istore_n (lv' := [(1, .int 0), (0, .ref (x.2.2 (80)))]) F.1 F.2.1 dX9_saves_49 rfl hl (by decide) rfl (fun ls hl => ?_)
  exact b_X9_saves_50 F FU _ _ _ _ w 0 (lv_sub hl [1, 0] rfl) hf
def f_X9_saves_10 : Nat → ST → Int32 → Option (ST)
  | 0, _, _ => none
  | n + 1, S, a1 => (if 303 ≤ a1 then oL (sI S 50 ((fi S 50) - (1 : Int32))) (fun (S2 : ST) => f_X9_saves_48 S2) else oG (inB (a1 + (101 : Int32)) 404) (oG (inB a1 404) (oL (sA S 31 (upd (ai S 31) (Int32.toNatClampNeg a1) (ai S 31 (Int32.toNatClampNeg (a1 + (101 : Int32)))))) (fun (S5 : ST) => oL (a1 + 1) (fun (v6 : Int32) => (f_X9_saves_10 n) S5 v6)))))
set_option maxHeartbeats 4000000 in
set_option maxRecDepth 100000 in
theorem b_X9_saves_10 {p : Program} {l : Launch} {e : Env} {s : State} {m : MethodId} {args : Array Value} {below : List Frame} {meth : Method} {c : Code} {x : CX} {res : ST} (F : MF p m meth c cX9_saves 2 s args RX9 none) : ∀ (n : Nat), ∀ (H : Heap) (locs : List Loc) (ls : Array Slot) (S : ST), WD x s S H locs → ∀ (a1 : Int32), lv_has ls 2 [(0, .ref (x.2.2 (80))), (1, .int a1)] → f_X9_saves_10 n S a1 = some res → W p l e ({ frames := 0, cells := 0, slots := 0, locals := 0 } : Room) s m args below meth c H locs 0 0 (MQ below (QV x res s.heap.size) args s 0 0 (AA x s.heap.size)) (F0 m 10 ls []) := by
  intro n
  induction n with
  | zero =>
    intro H locs ls S w a1 hl hf
    have hf : (none : Option (ST)) = some res := hf
    cases hf
  | succ n ih =>
    intro H locs ls S w a1 hl hf
    unfold f_X9_saves_10 at hf
    refine lv_iload_n F.1 F.2.1 dX9_saves_10 rfl (lv_at hl 1 rfl) ?_
    refine lv_sipush (v := 303) F.1 F.2.1 dX9_saves_11 (by decide) ?_
    refine lv_icmp_ge (tgt := 38) F.1 F.2.1 dX9_saves_14 (by decide) (fun c1 => ?_) (fun c1 => ?_)
    · replace hf := oi_t hf c1
      refine lv_aload_n F.1 F.2.1 dX9_saves_38 rfl (lv_at hl 0 rfl) ?_
      refine lv_dup F.1 F.2.1 dX9_saves_39 rfl ?_
      refine g_MD_saved F w q865 dX9_saves_40 ?_
      refine lv_iconst (v := 1) F.1 F.2.1 dX9_saves_43 (by decide) ?_
      refine lv_isub F.1 F.2.1 dX9_saves_44 ?_
      refine p_MD_saved F w q865 dX9_saves_45 (fun H locs w => ?_)
      obtain ⟨S2, e_S2⟩ : ∃ y : ST, y = sI S 50 ((fi S 50) - (1 : Int32)) := ⟨_, rfl⟩
      replace w : WD x s S2 H locs := by rw [e_S2]; exact w
      replace hf := oi_l hf e_S2
      exact b_X9_saves_48 F  _ _ _ _ w  (lv_sub hl [0] rfl) hf
    · replace hf := oi_f hf c1
      refine lv_aload_n F.1 F.2.1 dX9_saves_17 rfl (lv_at hl 0 rfl) ?_
      refine g_MD_past F w q864 dX9_saves_18 ?_
      refine lv_iload_n F.1 F.2.1 dX9_saves_21 rfl (lv_at hl 1 rfl) ?_
      refine lv_aload_n F.1 F.2.1 dX9_saves_22 rfl (lv_at hl 0 rfl) ?_
      refine g_MD_past F w q864 dX9_saves_23 ?_
      refine lv_iload_n F.1 F.2.1 dX9_saves_26 rfl (lv_at hl 1 rfl) ?_
      refine lv_bipush (v := 101) F.1 F.2.1 dX9_saves_27 (by decide) ?_
      refine lv_iadd F.1 F.2.1 dX9_saves_29 ?_
      obtain ⟨hb3, hf⟩ := oi_g hf
      refine r_iald F w (k := 82) (f := ai S 31) (by decide) rfl hb3 dX9_saves_30 ?_
      obtain ⟨hb4, hf⟩ := oi_g hf
      refine r_iast F w (k := 82) (a := 31) (n := 404) (by decide) (fun S9 => rfl) rfl hb4 dX9_saves_31 (fun H locs w => ?_)
      obtain ⟨S5, e_S5⟩ : ∃ y : ST, y = sA S 31 (upd (ai S 31) (Int32.toNatClampNeg a1) (ai S 31 (Int32.toNatClampNeg (a1 + (101 : Int32))))) := ⟨_, rfl⟩
      replace w : WD x s S5 H locs := by rw [e_S5]; exact w
      replace hf := oi_l hf e_S5
      obtain ⟨v6, e_v6⟩ : ∃ y : Int32, y = (a1 + 1) := ⟨_, rfl⟩
      replace hf := oi_l hf e_v6
      refine lv_iinc (v := v6) (lv' := [(1, .int v6), (0, .ref (x.2.2 (80)))]) F.1 F.2.1 dX9_saves_32 hl (k := 1) rfl (by rw [e_v6]; rfl) (by decide) rfl (fun ls hl => ?_)
      refine lv_goto (tgt := 10) F.1 F.2.1 dX9_saves_35 (by decide) ?_
      exact ih _ _ _ _ w v6 (lv_sub hl [1, 0] rfl) hf
def f_X9_saves_0 (S : ST)  : Option (ST) := (if (fi S 50) = 4 then f_X9_saves_10 FU S 0 else f_X9_saves_48 S)
set_option maxHeartbeats 4000000 in
set_option maxRecDepth 100000 in
theorem b_X9_saves_0 {p : Program} {l : Launch} {e : Env} {s : State} {m : MethodId} {args : Array Value} {below : List Frame} {meth : Method} {c : Code} {x : CX} {res : ST} (F : MF p m meth c cX9_saves 2 s args RX9 none) : ∀ (H : Heap) (locs : List Loc) (ls : Array Slot) (S : ST), WD x s S H locs → lv_has ls 2 [(0, .ref (x.2.2 (80)))] → f_X9_saves_0 S = some res → W p l e ({ frames := 0, cells := 0, slots := 0, locals := 0 } : Room) s m args below meth c H locs 0 0 (MQ below (QV x res s.heap.size) args s 0 0 (AA x s.heap.size)) (F0 m 0 ls []) := by
  intro H locs ls S w hl hf
  unfold f_X9_saves_0 at hf
  refine lv_aload_n F.1 F.2.1 dX9_saves_0 rfl (lv_at hl 0 rfl) ?_
  refine g_MD_saved F w q865 dX9_saves_1 ?_
  refine lv_iconst (v := 4) F.1 F.2.1 dX9_saves_4 (by decide) ?_
  refine lv_icmp_ne (tgt := 48) F.1 F.2.1 dX9_saves_5 (by decide) (fun c1 => ?_) (fun c1 => ?_)
  · replace hf := oi_f hf c1
    exact b_X9_saves_48 F  _ _ _ _ w  (lv_sub hl [0] rfl) hf
  · replace hf := oi_t hf c1
    refine lv_iconst (v := 0) F.1 F.2.1 dX9_saves_8 (by decide) ?_
    refine lv_istore_n (lv' := [(1, .int 0), (0, .ref (x.2.2 (80)))]) F.1 F.2.1 dX9_saves_9 rfl hl (by decide) rfl (fun ls hl => ?_)
    exact b_X9_saves_10 F FU _ _ _ _ w 0 (lv_sub hl [1, 0] rfl) hf
def f_X9_saves (S : ST)  : Option (ST) := f_X9_saves_0 S
set_option maxHeartbeats 4000000 in
set_option maxRecDepth 100000 in
theorem k_X9_saves (l : Launch) (x : CX) (S : ST)  {res : ST} (hf : f_X9_saves S  = some res) (sz : Nat) : Met l yX9_saves (Cond.code yX9_saves cX9_saves 2 none :: GW) ({ frames := 0, cells := 0, slots := 0, locals := 0 } : Room) (PC x S sz [.ref (x.2.2 (80))]) (QV x res sz) 0 0 (AA x sz) := by
  refine Met.ofW (cc := cX9_saves) (maxL := 2) (ret := none) (by decide) rfl ?_
  intro p e s m args below meth c s₁ B hml hv
  obtain ⟨rfl, rfl, hPW⟩ := hv
  have F : MF p m meth c cX9_saves 2 s _ RX9 none := MF.of B hml
  have w := WD.of hPW
  have hl := lv_entry ([.ref (x.2.2 (80))]) (n := 2) (Nat.le_of_ble_eq_true rfl)
  rw [lg_entry_eq]
  generalize (lg_sl ([.ref (x.2.2 (80))]) ++ List.replicate (2 - (lg_sl ([.ref (x.2.2 (80))])).length) Slot.unset).toArray = ls at hl ⊢
  have hl : lv_has ls 2 [(0, .ref (x.2.2 (80)))] := hl
  unfold f_X9_saves at hf
  exact b_X9_saves_0 F  _ _ _ _ w  (lv_sub hl [0] rfl) hf
theorem cy_X9_undo : CY yX9_undo RX9 cX9_undo 2 (some .int) 0 := ⟨q10, q901, rfl, by decide, by decide, by decide +kernel⟩
def f_X9_undo_33 : Nat → ST → Int32 → Option (Int32 × ST)
  | 0, _, _ => none
  | n + 1, S, a1 => (if 101 ≤ a1 then some ((fi S 50), S) else oG (inB (((101 : Int32) * (fi S 50)) + a1) 404) (oG (inB a1 101) (oL (sA S 30 (upd (ai S 30) (Int32.toNatClampNeg a1) (ai S 31 (Int32.toNatClampNeg (((101 : Int32) * (fi S 50)) + a1))))) (fun (S4 : ST) => oL (a1 + 1) (fun (v5 : Int32) => (f_X9_undo_33 n) S4 v5)))))
set_option maxHeartbeats 4000000 in
set_option maxRecDepth 100000 in
theorem b_X9_undo_33 {p : Program} {l : Launch} {e : Env} {s : State} {m : MethodId} {args : Array Value} {below : List Frame} {meth : Method} {c : Code} {x : CX} {res : Int32 × ST} (F : MF p m meth c cX9_undo 2 s args RX9 (some .int)) : ∀ (n : Nat), ∀ (H : Heap) (locs : List Loc) (ls : Array Slot) (S : ST), WD x s S H locs → ∀ (a1 : Int32), lv_has ls 2 [(0, .ref (x.2.2 (80))), (1, .int a1)] → f_X9_undo_33 n S a1 = some res → W p l e ({ frames := 1, cells := 0, slots := 0, locals := 21 } : Room) s m args below meth c H locs 0 0 (MQ below (QI x res.2 res.1 s.heap.size) args s 0 0 (AA x s.heap.size)) (F0 m 33 ls []) := by
  intro n
  induction n with
  | zero =>
    intro H locs ls S w a1 hl hf
    have hf : (none : Option (Int32 × ST)) = some res := hf
    cases hf
  | succ n ih =>
    intro H locs ls S w a1 hl hf
    unfold f_X9_undo_33 at hf
    refine lv_iload_n F.1 F.2.1 dX9_undo_33 rfl (lv_at hl 1 rfl) ?_
    refine lv_bipush (v := 101) F.1 F.2.1 dX9_undo_34 (by decide) ?_
    refine lv_icmp_ge (tgt := 65) F.1 F.2.1 dX9_undo_36 (by decide) (fun c1 => ?_) (fun c1 => ?_)
    · replace hf := oi_t hf c1
      refine lv_aload_n F.1 F.2.1 dX9_undo_65 rfl (lv_at hl 0 rfl) ?_
      refine g_MD_saved F w q865 dX9_undo_66 ?_
      exact r_iret F w (oi_s hf) dX9_undo_69
    · replace hf := oi_f hf c1
      refine lv_aload_n F.1 F.2.1 dX9_undo_39 rfl (lv_at hl 0 rfl) ?_
      refine g_MD_now F w q863 dX9_undo_40 ?_
      refine lv_iload_n F.1 F.2.1 dX9_undo_43 rfl (lv_at hl 1 rfl) ?_
      refine lv_aload_n F.1 F.2.1 dX9_undo_44 rfl (lv_at hl 0 rfl) ?_
      refine g_MD_past F w q864 dX9_undo_45 ?_
      refine lv_bipush (v := 101) F.1 F.2.1 dX9_undo_48 (by decide) ?_
      refine lv_aload_n F.1 F.2.1 dX9_undo_50 rfl (lv_at hl 0 rfl) ?_
      refine g_MD_saved F w q865 dX9_undo_51 ?_
      refine lv_imul F.1 F.2.1 dX9_undo_54 ?_
      refine lv_iload_n F.1 F.2.1 dX9_undo_55 rfl (lv_at hl 1 rfl) ?_
      refine lv_iadd F.1 F.2.1 dX9_undo_56 ?_
      obtain ⟨hb2, hf⟩ := oi_g hf
      refine r_iald F w (k := 82) (f := ai S 31) (by decide) rfl hb2 dX9_undo_57 ?_
      obtain ⟨hb3, hf⟩ := oi_g hf
      refine r_iast F w (k := 81) (a := 30) (n := 101) (by decide) (fun S9 => rfl) rfl hb3 dX9_undo_58 (fun H locs w => ?_)
      obtain ⟨S4, e_S4⟩ : ∃ y : ST, y = sA S 30 (upd (ai S 30) (Int32.toNatClampNeg a1) (ai S 31 (Int32.toNatClampNeg (((101 : Int32) * (fi S 50)) + a1)))) := ⟨_, rfl⟩
      replace w : WD x s S4 H locs := by rw [e_S4]; exact w
      replace hf := oi_l hf e_S4
      obtain ⟨v5, e_v5⟩ : ∃ y : Int32, y = (a1 + 1) := ⟨_, rfl⟩
      replace hf := oi_l hf e_v5
      refine lv_iinc (v := v5) (lv' := [(1, .int v5), (0, .ref (x.2.2 (80)))]) F.1 F.2.1 dX9_undo_59 hl (k := 1) rfl (by rw [e_v5]; rfl) (by decide) rfl (fun ls hl => ?_)
      refine lv_goto (tgt := 33) F.1 F.2.1 dX9_undo_62 (by decide) ?_
      exact ih _ _ _ _ w v5 (lv_sub hl [1, 0] rfl) hf
def f_X9_undo_13 (S : ST) (as0 : Int32) : Option (Int32 × ST) := oB (f_X9_refused S as0) (fun (r2 : Int32) (S1 : ST) => (if r2 = 0 then oL (sI S1 50 ((fi S1 50) - (1 : Int32))) (fun (S4 : ST) => f_X9_undo_33 FU S4 0) else some (0, S1)))
set_option maxHeartbeats 4000000 in
set_option maxRecDepth 100000 in
theorem b_X9_undo_13 {p : Program} {l : Launch} {e : Env} {s : State} {m : MethodId} {args : Array Value} {below : List Frame} {meth : Method} {c : Code} {x : CX} {res : Int32 × ST} (F : MF p m meth c cX9_undo 2 s args RX9 (some .int)) : ∀ (H : Heap) (locs : List Loc) (ls : Array Slot) (S : ST), WD x s S H locs → ∀ (as0 : Int32), lv_has ls 2 [(0, .ref (x.2.2 (80)))] → f_X9_undo_13 S as0 = some res → W p l e ({ frames := 1, cells := 0, slots := 0, locals := 21 } : Room) s m args below meth c H locs 0 0 (MQ below (QI x res.2 res.1 s.heap.size) args s 0 0 (AA x s.heap.size)) (F0 m 13 ls [.int as0, .ref (x.2.2 (80))]) := by
  intro H locs ls S w as0 hl hf
  unfold f_X9_undo_13 at hf
  obtain ⟨r2, S1, hc, hf⟩ := oi_b hf
  refine k_i0 (S' := S1) (r := r2) w (runV (As := [.int as0]) (rest := []) (kb := 80) F w (k_X9_refused l x S as0 hc H.size) cy_X9_refused q902 q904 qp19 ⟨rfl, rfl⟩ ⟨Nat.le_of_ble_eq_true rfl, Nat.le_of_ble_eq_true rfl⟩ (by decide) rfl rfl rfl rfl hl.1 (Nat.le_of_ble_eq_true rfl) ⟨Nat.le_of_ble_eq_true rfl, Nat.le_of_ble_eq_true rfl⟩ dX9_undo_13) (fun H locs w => ?_)
  refine lv_if_eq (tgt := 21) F.1 F.2.1 dX9_undo_16 (by decide) (fun c3 => ?_) (fun c3 => ?_)
  · replace hf := oi_t hf c3
    refine lv_aload_n F.1 F.2.1 dX9_undo_21 rfl (lv_at hl 0 rfl) ?_
    refine lv_dup F.1 F.2.1 dX9_undo_22 rfl ?_
    refine g_MD_saved F w q865 dX9_undo_23 ?_
    refine lv_iconst (v := 1) F.1 F.2.1 dX9_undo_26 (by decide) ?_
    refine lv_isub F.1 F.2.1 dX9_undo_27 ?_
    refine p_MD_saved F w q865 dX9_undo_28 (fun H locs w => ?_)
    obtain ⟨S4, e_S4⟩ : ∃ y : ST, y = sI S1 50 ((fi S1 50) - (1 : Int32)) := ⟨_, rfl⟩
    replace w : WD x s S4 H locs := by rw [e_S4]; exact w
    replace hf := oi_l hf e_S4
    refine lv_iconst (v := 0) F.1 F.2.1 dX9_undo_31 (by decide) ?_
    refine lv_istore_n (lv' := [(1, .int 0), (0, .ref (x.2.2 (80)))]) F.1 F.2.1 dX9_undo_32 rfl hl (by decide) rfl (fun ls hl => ?_)
    exact b_X9_undo_33 F FU _ _ _ _ w 0 (lv_sub hl [1, 0] rfl) hf
  · replace hf := oi_f hf c3
    refine lv_iconst (v := 0) F.1 F.2.1 dX9_undo_19 (by decide) ?_
    exact r_iret F w (oi_s hf) dX9_undo_20
def f_X9_undo_0 (S : ST)  : Option (Int32 × ST) := (if (fi S 50) = 0 then f_X9_undo_13 S 1 else f_X9_undo_13 S 0)
set_option maxHeartbeats 4000000 in
set_option maxRecDepth 100000 in
theorem b_X9_undo_0 {p : Program} {l : Launch} {e : Env} {s : State} {m : MethodId} {args : Array Value} {below : List Frame} {meth : Method} {c : Code} {x : CX} {res : Int32 × ST} (F : MF p m meth c cX9_undo 2 s args RX9 (some .int)) : ∀ (H : Heap) (locs : List Loc) (ls : Array Slot) (S : ST), WD x s S H locs → lv_has ls 2 [(0, .ref (x.2.2 (80)))] → f_X9_undo_0 S = some res → W p l e ({ frames := 1, cells := 0, slots := 0, locals := 21 } : Room) s m args below meth c H locs 0 0 (MQ below (QI x res.2 res.1 s.heap.size) args s 0 0 (AA x s.heap.size)) (F0 m 0 ls []) := by
  intro H locs ls S w hl hf
  unfold f_X9_undo_0 at hf
  refine lv_aload_n F.1 F.2.1 dX9_undo_0 rfl (lv_at hl 0 rfl) ?_
  refine lv_aload_n F.1 F.2.1 dX9_undo_1 rfl (lv_at hl 0 rfl) ?_
  refine g_MD_saved F w q865 dX9_undo_2 ?_
  refine lv_if_ne (tgt := 12) F.1 F.2.1 dX9_undo_5 (by decide) (fun c1 => ?_) (fun c1 => ?_)
  · replace hf := oi_f hf c1
    refine lv_iconst (v := 0) F.1 F.2.1 dX9_undo_12 (by decide) ?_
    exact b_X9_undo_13 F  _ _ _ _ w 0 (lv_sub hl [0] rfl) hf
  · replace hf := oi_t hf c1
    refine lv_iconst (v := 1) F.1 F.2.1 dX9_undo_8 (by decide) ?_
    refine lv_goto (tgt := 13) F.1 F.2.1 dX9_undo_9 (by decide) ?_
    exact b_X9_undo_13 F  _ _ _ _ w 1 (lv_sub hl [0] rfl) hf
def f_X9_undo (S : ST)  : Option (Int32 × ST) := f_X9_undo_0 S
set_option maxHeartbeats 4000000 in
set_option maxRecDepth 100000 in
theorem k_X9_undo (l : Launch) (x : CX) (S : ST)  {res : Int32 × ST} (hf : f_X9_undo S  = some res) (sz : Nat) : Met l yX9_undo (Cond.code yX9_undo cX9_undo 2 (some .int) :: GW) ({ frames := 1, cells := 0, slots := 0, locals := 21 } : Room) (PC x S sz [.ref (x.2.2 (80))]) (QI x res.2 res.1 sz) 0 0 (AA x sz) := by
  refine Met.ofW (cc := cX9_undo) (maxL := 2) (ret := (some .int)) (by decide) rfl ?_
  intro p e s m args below meth c s₁ B hml hv
  obtain ⟨rfl, rfl, hPW⟩ := hv
  have F : MF p m meth c cX9_undo 2 s _ RX9 (some .int) := MF.of B hml
  have w := WD.of hPW
  have hl := lv_entry ([.ref (x.2.2 (80))]) (n := 2) (Nat.le_of_ble_eq_true rfl)
  rw [lg_entry_eq]
  generalize (lg_sl ([.ref (x.2.2 (80))]) ++ List.replicate (2 - (lg_sl ([.ref (x.2.2 (80))])).length) Slot.unset).toArray = ls at hl ⊢
  have hl : lv_has ls 2 [(0, .ref (x.2.2 (80)))] := hl
  unfold f_X9_undo at hf
  exact b_X9_undo_0 F  _ _ _ _ w  (lv_sub hl [0] rfl) hf
theorem cy_X9_begins : CY yX9_begins RX9 cX9_begins 1 none 0 := ⟨q10, q939, rfl, by decide, by decide, by decide +kernel⟩
def f_X9_begins_0 (S : ST)  : Option (ST) := oL (sI S 52 0) (fun (S1 : ST) => some S1)
set_option maxHeartbeats 4000000 in
set_option maxRecDepth 100000 in
theorem b_X9_begins_0 {p : Program} {l : Launch} {e : Env} {s : State} {m : MethodId} {args : Array Value} {below : List Frame} {meth : Method} {c : Code} {x : CX} {res : ST} (F : MF p m meth c cX9_begins 1 s args RX9 none) : ∀ (H : Heap) (locs : List Loc) (ls : Array Slot) (S : ST), WD x s S H locs → lv_has ls 1 [(0, .ref (x.2.2 (80)))] → f_X9_begins_0 S = some res → W p l e ({ frames := 0, cells := 0, slots := 0, locals := 0 } : Room) s m args below meth c H locs 0 0 (MQ below (QV x res s.heap.size) args s 0 0 (AA x s.heap.size)) (F0 m 0 ls []) := by
  intro H locs ls S w hl hf
  unfold f_X9_begins_0 at hf
  refine lv_aload_n F.1 F.2.1 dX9_begins_0 rfl (lv_at hl 0 rfl) ?_
  refine lv_iconst (v := 0) F.1 F.2.1 dX9_begins_1 (by decide) ?_
  refine p_MD_madeMany F w q868 dX9_begins_2 (fun H locs w => ?_)
  obtain ⟨S1, e_S1⟩ : ∃ y : ST, y = sI S 52 0 := ⟨_, rfl⟩
  replace w : WD x s S1 H locs := by rw [e_S1]; exact w
  replace hf := oi_l hf e_S1
  exact r_vret F w (oi_s hf) dX9_begins_5
def f_X9_begins (S : ST)  : Option (ST) := f_X9_begins_0 S
set_option maxHeartbeats 4000000 in
set_option maxRecDepth 100000 in
theorem k_X9_begins (l : Launch) (x : CX) (S : ST)  {res : ST} (hf : f_X9_begins S  = some res) (sz : Nat) : Met l yX9_begins (Cond.code yX9_begins cX9_begins 1 none :: GW) ({ frames := 0, cells := 0, slots := 0, locals := 0 } : Room) (PC x S sz [.ref (x.2.2 (80))]) (QV x res sz) 0 0 (AA x sz) := by
  refine Met.ofW (cc := cX9_begins) (maxL := 1) (ret := none) (by decide) rfl ?_
  intro p e s m args below meth c s₁ B hml hv
  obtain ⟨rfl, rfl, hPW⟩ := hv
  have F : MF p m meth c cX9_begins 1 s _ RX9 none := MF.of B hml
  have w := WD.of hPW
  have hl := lv_entry ([.ref (x.2.2 (80))]) (n := 1) (Nat.le_of_ble_eq_true rfl)
  rw [lg_entry_eq]
  generalize (lg_sl ([.ref (x.2.2 (80))]) ++ List.replicate (1 - (lg_sl ([.ref (x.2.2 (80))])).length) Slot.unset).toArray = ls at hl ⊢
  have hl : lv_has ls 1 [(0, .ref (x.2.2 (80)))] := hl
  unfold f_X9_begins at hf
  exact b_X9_begins_0 F  _ _ _ _ w  (lv_sub hl [0] rfl) hf
theorem cy_X9_comes : CY yX9_comes RX9 cX9_comes 4 none 1 := ⟨q10, q943, rfl, by decide, by decide, by decide +kernel⟩
def f_X9_comes_50 : Nat → ST → Int32 → Int32 → Int32 → Option (ST)
  | 0, _, _, _, _ => none
  | n + 1, S, a1, a2, a3 => (if a3 ≤ a2 then oG (inB a2 24) (oL (sA S 32 (upd (ai S 32) (Int32.toNatClampNeg a2) a1)) (fun (S3 : ST) => oL (sI S3 52 ((fi S3 52) + (1 : Int32))) (fun (S4 : ST) => some S4))) else oG (inB (a3 - (1 : Int32)) 24) (oG (inB a3 24) (oL (sA S 32 (upd (ai S 32) (Int32.toNatClampNeg a3) (ai S 32 (Int32.toNatClampNeg (a3 - (1 : Int32)))))) (fun (S7 : ST) => oL (a3 + (-1)) (fun (v8 : Int32) => (f_X9_comes_50 n) S7 a1 a2 v8)))))
set_option maxHeartbeats 4000000 in
set_option maxRecDepth 100000 in
theorem b_X9_comes_50 {p : Program} {l : Launch} {e : Env} {s : State} {m : MethodId} {args : Array Value} {below : List Frame} {meth : Method} {c : Code} {x : CX} {res : ST} (F : MF p m meth c cX9_comes 4 s args RX9 none) : ∀ (n : Nat), ∀ (H : Heap) (locs : List Loc) (ls : Array Slot) (S : ST), WD x s S H locs → ∀ (a1 : Int32) (a2 : Int32) (a3 : Int32), lv_has ls 4 [(0, .ref (x.2.2 (80))), (1, .int a1), (2, .int a2), (3, .int a3)] → f_X9_comes_50 n S a1 a2 a3 = some res → W p l e ({ frames := 0, cells := 0, slots := 0, locals := 0 } : Room) s m args below meth c H locs 0 0 (MQ below (QV x res s.heap.size) args s 0 0 (AA x s.heap.size)) (F0 m 50 ls []) := by
  intro n
  induction n with
  | zero =>
    intro H locs ls S w a1 a2 a3 hl hf
    have hf : (none : Option (ST)) = some res := hf
    cases hf
  | succ n ih =>
    intro H locs ls S w a1 a2 a3 hl hf
    unfold f_X9_comes_50 at hf
    refine lv_iload_n F.1 F.2.1 dX9_comes_50 rfl (lv_at hl 3 rfl) ?_
    refine lv_iload_n F.1 F.2.1 dX9_comes_51 rfl (lv_at hl 2 rfl) ?_
    refine lv_icmp_le (tgt := 75) F.1 F.2.1 dX9_comes_52 (by decide) (fun c1 => ?_) (fun c1 => ?_)
    · replace hf := oi_t hf c1
      refine lv_aload_n F.1 F.2.1 dX9_comes_75 rfl (lv_at hl 0 rfl) ?_
      refine g_MD_made F w q867 dX9_comes_76 ?_
      refine lv_iload_n F.1 F.2.1 dX9_comes_79 rfl (lv_at hl 2 rfl) ?_
      refine lv_iload_n F.1 F.2.1 dX9_comes_80 rfl (lv_at hl 1 rfl) ?_
      obtain ⟨hb2, hf⟩ := oi_g hf
      refine r_iast F w (k := 83) (a := 32) (n := 24) (by decide) (fun S9 => rfl) rfl hb2 dX9_comes_81 (fun H locs w => ?_)
      obtain ⟨S3, e_S3⟩ : ∃ y : ST, y = sA S 32 (upd (ai S 32) (Int32.toNatClampNeg a2) a1) := ⟨_, rfl⟩
      replace w : WD x s S3 H locs := by rw [e_S3]; exact w
      replace hf := oi_l hf e_S3
      refine lv_aload_n F.1 F.2.1 dX9_comes_82 rfl (lv_at hl 0 rfl) ?_
      refine lv_dup F.1 F.2.1 dX9_comes_83 rfl ?_
      refine g_MD_madeMany F w q868 dX9_comes_84 ?_
      refine lv_iconst (v := 1) F.1 F.2.1 dX9_comes_87 (by decide) ?_
      refine lv_iadd F.1 F.2.1 dX9_comes_88 ?_
      refine p_MD_madeMany F w q868 dX9_comes_89 (fun H locs w => ?_)
      obtain ⟨S4, e_S4⟩ : ∃ y : ST, y = sI S3 52 ((fi S3 52) + (1 : Int32)) := ⟨_, rfl⟩
      replace w : WD x s S4 H locs := by rw [e_S4]; exact w
      replace hf := oi_l hf e_S4
      exact r_vret F w (oi_s hf) dX9_comes_92
    · replace hf := oi_f hf c1
      refine lv_aload_n F.1 F.2.1 dX9_comes_55 rfl (lv_at hl 0 rfl) ?_
      refine g_MD_made F w q867 dX9_comes_56 ?_
      refine lv_iload_n F.1 F.2.1 dX9_comes_59 rfl (lv_at hl 3 rfl) ?_
      refine lv_aload_n F.1 F.2.1 dX9_comes_60 rfl (lv_at hl 0 rfl) ?_
      refine g_MD_made F w q867 dX9_comes_61 ?_
      refine lv_iload_n F.1 F.2.1 dX9_comes_64 rfl (lv_at hl 3 rfl) ?_
      refine lv_iconst (v := 1) F.1 F.2.1 dX9_comes_65 (by decide) ?_
      refine lv_isub F.1 F.2.1 dX9_comes_66 ?_
      obtain ⟨hb5, hf⟩ := oi_g hf
      refine r_iald F w (k := 83) (f := ai S 32) (by decide) rfl hb5 dX9_comes_67 ?_
      obtain ⟨hb6, hf⟩ := oi_g hf
      refine r_iast F w (k := 83) (a := 32) (n := 24) (by decide) (fun S9 => rfl) rfl hb6 dX9_comes_68 (fun H locs w => ?_)
      obtain ⟨S7, e_S7⟩ : ∃ y : ST, y = sA S 32 (upd (ai S 32) (Int32.toNatClampNeg a3) (ai S 32 (Int32.toNatClampNeg (a3 - (1 : Int32))))) := ⟨_, rfl⟩
      replace w : WD x s S7 H locs := by rw [e_S7]; exact w
      replace hf := oi_l hf e_S7
      obtain ⟨v8, e_v8⟩ : ∃ y : Int32, y = (a3 + (-1)) := ⟨_, rfl⟩
      replace hf := oi_l hf e_v8
      refine lv_iinc (v := v8) (lv' := [(3, .int v8), (0, .ref (x.2.2 (80))), (1, .int a1), (2, .int a2)]) F.1 F.2.1 dX9_comes_69 hl (k := 3) rfl (by rw [e_v8]; rfl) (by decide) rfl (fun ls hl => ?_)
      refine lv_goto (tgt := 50) F.1 F.2.1 dX9_comes_72 (by decide) ?_
      exact ih _ _ _ _ w a1 a2 v8 (lv_sub hl [1, 2, 3, 0] rfl) hf
def f_X9_comes_45 (S : ST) (a1 : Int32) (a2 : Int32) : Option (ST) := oL (fi S 52) (fun (v1 : Int32) => f_X9_comes_50 FU S a1 a2 v1)
set_option maxHeartbeats 4000000 in
set_option maxRecDepth 100000 in
theorem b_X9_comes_45 {p : Program} {l : Launch} {e : Env} {s : State} {m : MethodId} {args : Array Value} {below : List Frame} {meth : Method} {c : Code} {x : CX} {res : ST} (F : MF p m meth c cX9_comes 4 s args RX9 none) : ∀ (H : Heap) (locs : List Loc) (ls : Array Slot) (S : ST), WD x s S H locs → ∀ (a1 : Int32) (a2 : Int32), lv_has ls 4 [(0, .ref (x.2.2 (80))), (1, .int a1), (2, .int a2)] → f_X9_comes_45 S a1 a2 = some res → W p l e ({ frames := 0, cells := 0, slots := 0, locals := 0 } : Room) s m args below meth c H locs 0 0 (MQ below (QV x res s.heap.size) args s 0 0 (AA x s.heap.size)) (F0 m 45 ls []) := by
  intro H locs ls S w a1 a2 hl hf
  unfold f_X9_comes_45 at hf
  refine lv_aload_n F.1 F.2.1 dX9_comes_45 rfl (lv_at hl 0 rfl) ?_
  refine g_MD_madeMany F w q868 dX9_comes_46 ?_
  refine lv_topi (fun v1 e_v1 => ?_)
  replace hf := oi_l hf e_v1
  refine lv_istore_n (lv' := [(3, .int v1), (0, .ref (x.2.2 (80))), (1, .int a1), (2, .int a2)]) F.1 F.2.1 dX9_comes_49 rfl hl (by decide) rfl (fun ls hl => ?_)
  exact b_X9_comes_50 F FU _ _ _ _ w a1 a2 v1 (lv_sub hl [1, 2, 3, 0] rfl) hf
def f_X9_comes_26 (S : ST) (a1 : Int32) (a2 : Int32) : Option (ST) := (if (fi S 52) ≤ a2 then f_X9_comes_45 S a1 a2 else oG (inB a2 24) ((if (ai S 32 (Int32.toNatClampNeg a2)) = a1 then some S else f_X9_comes_45 S a1 a2)))
set_option maxHeartbeats 4000000 in
set_option maxRecDepth 100000 in
theorem b_X9_comes_26 {p : Program} {l : Launch} {e : Env} {s : State} {m : MethodId} {args : Array Value} {below : List Frame} {meth : Method} {c : Code} {x : CX} {res : ST} (F : MF p m meth c cX9_comes 4 s args RX9 none) : ∀ (H : Heap) (locs : List Loc) (ls : Array Slot) (S : ST), WD x s S H locs → ∀ (a1 : Int32) (a2 : Int32), lv_has ls 4 [(0, .ref (x.2.2 (80))), (1, .int a1), (2, .int a2)] → f_X9_comes_26 S a1 a2 = some res → W p l e ({ frames := 0, cells := 0, slots := 0, locals := 0 } : Room) s m args below meth c H locs 0 0 (MQ below (QV x res s.heap.size) args s 0 0 (AA x s.heap.size)) (F0 m 26 ls []) := by
  intro H locs ls S w a1 a2 hl hf
  unfold f_X9_comes_26 at hf
  refine lv_iload_n F.1 F.2.1 dX9_comes_26 rfl (lv_at hl 2 rfl) ?_
  refine lv_aload_n F.1 F.2.1 dX9_comes_27 rfl (lv_at hl 0 rfl) ?_
  refine g_MD_madeMany F w q868 dX9_comes_28 ?_
  refine lv_icmp_ge (tgt := 45) F.1 F.2.1 dX9_comes_31 (by decide) (fun c1 => ?_) (fun c1 => ?_)
  · replace hf := oi_t hf c1
    exact b_X9_comes_45 F  _ _ _ _ w a1 a2 (lv_sub hl [0, 1, 2] rfl) hf
  · replace hf := oi_f hf c1
    refine lv_aload_n F.1 F.2.1 dX9_comes_34 rfl (lv_at hl 0 rfl) ?_
    refine g_MD_made F w q867 dX9_comes_35 ?_
    refine lv_iload_n F.1 F.2.1 dX9_comes_38 rfl (lv_at hl 2 rfl) ?_
    obtain ⟨hb2, hf⟩ := oi_g hf
    refine r_iald F w (k := 83) (f := ai S 32) (by decide) rfl hb2 dX9_comes_39 ?_
    refine lv_iload_n F.1 F.2.1 dX9_comes_40 rfl (lv_at hl 1 rfl) ?_
    refine lv_icmp_ne (tgt := 45) F.1 F.2.1 dX9_comes_41 (by decide) (fun c3 => ?_) (fun c3 => ?_)
    · replace hf := oi_f hf c3
      exact b_X9_comes_45 F  _ _ _ _ w a1 a2 (lv_sub hl [0, 1, 2] rfl) hf
    · replace hf := oi_t hf c3
      exact r_vret F w (oi_s hf) dX9_comes_44
def f_X9_comes_2 : Nat → ST → Int32 → Int32 → Option (ST)
  | 0, _, _, _ => none
  | n + 1, S, a1, a2 => (if (fi S 52) ≤ a2 then f_X9_comes_26 S a1 a2 else oG (inB a2 24) ((if a1 ≤ (ai S 32 (Int32.toNatClampNeg a2)) then f_X9_comes_26 S a1 a2 else oL (a2 + 1) (fun (v4 : Int32) => (f_X9_comes_2 n) S a1 v4))))
set_option maxHeartbeats 4000000 in
set_option maxRecDepth 100000 in
theorem b_X9_comes_2 {p : Program} {l : Launch} {e : Env} {s : State} {m : MethodId} {args : Array Value} {below : List Frame} {meth : Method} {c : Code} {x : CX} {res : ST} (F : MF p m meth c cX9_comes 4 s args RX9 none) : ∀ (n : Nat), ∀ (H : Heap) (locs : List Loc) (ls : Array Slot) (S : ST), WD x s S H locs → ∀ (a1 : Int32) (a2 : Int32), lv_has ls 4 [(0, .ref (x.2.2 (80))), (1, .int a1), (2, .int a2)] → f_X9_comes_2 n S a1 a2 = some res → W p l e ({ frames := 0, cells := 0, slots := 0, locals := 0 } : Room) s m args below meth c H locs 0 0 (MQ below (QV x res s.heap.size) args s 0 0 (AA x s.heap.size)) (F0 m 2 ls []) := by
  intro n
  induction n with
  | zero =>
    intro H locs ls S w a1 a2 hl hf
    have hf : (none : Option (ST)) = some res := hf
    cases hf
  | succ n ih =>
    intro H locs ls S w a1 a2 hl hf
    unfold f_X9_comes_2 at hf
    refine lv_iload_n F.1 F.2.1 dX9_comes_2 rfl (lv_at hl 2 rfl) ?_
    refine lv_aload_n F.1 F.2.1 dX9_comes_3 rfl (lv_at hl 0 rfl) ?_
    refine g_MD_madeMany F w q868 dX9_comes_4 ?_
    refine lv_icmp_ge (tgt := 26) F.1 F.2.1 dX9_comes_7 (by decide) (fun c1 => ?_) (fun c1 => ?_)
    · replace hf := oi_t hf c1
      exact b_X9_comes_26 F  _ _ _ _ w a1 a2 (lv_sub hl [0, 1, 2] rfl) hf
    · replace hf := oi_f hf c1
      refine lv_aload_n F.1 F.2.1 dX9_comes_10 rfl (lv_at hl 0 rfl) ?_
      refine g_MD_made F w q867 dX9_comes_11 ?_
      refine lv_iload_n F.1 F.2.1 dX9_comes_14 rfl (lv_at hl 2 rfl) ?_
      obtain ⟨hb2, hf⟩ := oi_g hf
      refine r_iald F w (k := 83) (f := ai S 32) (by decide) rfl hb2 dX9_comes_15 ?_
      refine lv_iload_n F.1 F.2.1 dX9_comes_16 rfl (lv_at hl 1 rfl) ?_
      refine lv_icmp_ge (tgt := 26) F.1 F.2.1 dX9_comes_17 (by decide) (fun c3 => ?_) (fun c3 => ?_)
      · replace hf := oi_t hf c3
        exact b_X9_comes_26 F  _ _ _ _ w a1 a2 (lv_sub hl [0, 1, 2] rfl) hf
      · replace hf := oi_f hf c3
        obtain ⟨v4, e_v4⟩ : ∃ y : Int32, y = (a2 + 1) := ⟨_, rfl⟩
        replace hf := oi_l hf e_v4
        refine lv_iinc (v := v4) (lv' := [(2, .int v4), (0, .ref (x.2.2 (80))), (1, .int a1)]) F.1 F.2.1 dX9_comes_20 hl (k := 2) rfl (by rw [e_v4]; rfl) (by decide) rfl (fun ls hl => ?_)
        refine lv_goto (tgt := 2) F.1 F.2.1 dX9_comes_23 (by decide) ?_
        exact ih _ _ _ _ w a1 v4 (lv_sub hl [1, 2, 0] rfl) hf
def f_X9_comes_0 (S : ST) (a1 : Int32) : Option (ST) := f_X9_comes_2 FU S a1 0
set_option maxHeartbeats 4000000 in
set_option maxRecDepth 100000 in
theorem b_X9_comes_0 {p : Program} {l : Launch} {e : Env} {s : State} {m : MethodId} {args : Array Value} {below : List Frame} {meth : Method} {c : Code} {x : CX} {res : ST} (F : MF p m meth c cX9_comes 4 s args RX9 none) : ∀ (H : Heap) (locs : List Loc) (ls : Array Slot) (S : ST), WD x s S H locs → ∀ (a1 : Int32), lv_has ls 4 [(0, .ref (x.2.2 (80))), (1, .int a1)] → f_X9_comes_0 S a1 = some res → W p l e ({ frames := 0, cells := 0, slots := 0, locals := 0 } : Room) s m args below meth c H locs 0 0 (MQ below (QV x res s.heap.size) args s 0 0 (AA x s.heap.size)) (F0 m 0 ls []) := by
  intro H locs ls S w a1 hl hf
  unfold f_X9_comes_0 at hf
  refine lv_iconst (v := 0) F.1 F.2.1 dX9_comes_0 (by decide) ?_
  refine lv_istore_n (lv' := [(2, .int 0), (0, .ref (x.2.2 (80))), (1, .int a1)]) F.1 F.2.1 dX9_comes_1 rfl hl (by decide) rfl (fun ls hl => ?_)
  exact b_X9_comes_2 F FU _ _ _ _ w a1 0 (lv_sub hl [1, 2, 0] rfl) hf
def f_X9_comes (S : ST) (a1 : Int32) : Option (ST) := f_X9_comes_0 S a1
set_option maxHeartbeats 4000000 in
set_option maxRecDepth 100000 in
theorem k_X9_comes (l : Launch) (x : CX) (S : ST) (a1 : Int32) {res : ST} (hf : f_X9_comes S a1 = some res) (sz : Nat) : Met l yX9_comes (Cond.code yX9_comes cX9_comes 4 none :: GW) ({ frames := 0, cells := 0, slots := 0, locals := 0 } : Room) (PC x S sz [.ref (x.2.2 (80)), .int a1]) (QV x res sz) 0 0 (AA x sz) := by
  refine Met.ofW (cc := cX9_comes) (maxL := 4) (ret := none) (by decide) rfl ?_
  intro p e s m args below meth c s₁ B hml hv
  obtain ⟨rfl, rfl, hPW⟩ := hv
  have F : MF p m meth c cX9_comes 4 s _ RX9 none := MF.of B hml
  have w := WD.of hPW
  have hl := lv_entry ([.ref (x.2.2 (80)), .int a1]) (n := 4) (Nat.le_of_ble_eq_true rfl)
  rw [lg_entry_eq]
  generalize (lg_sl ([.ref (x.2.2 (80)), .int a1]) ++ List.replicate (4 - (lg_sl ([.ref (x.2.2 (80)), .int a1])).length) Slot.unset).toArray = ls at hl ⊢
  have hl : lv_has ls 4 [(0, .ref (x.2.2 (80))), (1, .int a1)] := hl
  unfold f_X9_comes at hf
  exact b_X9_comes_0 F  _ _ _ _ w a1 (lv_sub hl [0, 1] rfl) hf
theorem cy_X9_becomes : CY yX9_becomes RX9 cX9_becomes 4 (some .int) 1 := ⟨q10, q947, rfl, by decide, by decide, by decide +kernel⟩
def f_X9_becomes_42 : Nat → ST → Int32 → Int32 → Option (Int32 × ST)
  | 0, _, _, _ => none
  | n + 1, S, a2, a3 => (if (fi S 52) ≤ a3 then some ((fi S 52), S) else oG (inB a3 24) (oG (inB ((a2 + (1 : Int32)) + a3) 101) (oL (sA S 30 (upd (ai S 30) (Int32.toNatClampNeg ((a2 + (1 : Int32)) + a3)) (ai S 32 (Int32.toNatClampNeg a3)))) (fun (S4 : ST) => oL (a3 + 1) (fun (v5 : Int32) => (f_X9_becomes_42 n) S4 a2 v5)))))
set_option maxHeartbeats 4000000 in
set_option maxRecDepth 100000 in
theorem b_X9_becomes_42 {p : Program} {l : Launch} {e : Env} {s : State} {m : MethodId} {args : Array Value} {below : List Frame} {meth : Method} {c : Code} {x : CX} {res : Int32 × ST} (F : MF p m meth c cX9_becomes 4 s args RX9 (some .int)) : ∀ (n : Nat), ∀ (H : Heap) (locs : List Loc) (ls : Array Slot) (S : ST), WD x s S H locs → ∀ (a2 : Int32) (a3 : Int32), lv_has ls 4 [(0, .ref (x.2.2 (80))), (2, .int a2), (3, .int a3)] → f_X9_becomes_42 n S a2 a3 = some res → W p l e ({ frames := 0, cells := 0, slots := 0, locals := 0 } : Room) s m args below meth c H locs 0 0 (MQ below (QI x res.2 res.1 s.heap.size) args s 0 0 (AA x s.heap.size)) (F0 m 42 ls []) := by
  intro n
  induction n with
  | zero =>
    intro H locs ls S w a2 a3 hl hf
    have hf : (none : Option (Int32 × ST)) = some res := hf
    cases hf
  | succ n ih =>
    intro H locs ls S w a2 a3 hl hf
    unfold f_X9_becomes_42 at hf
    refine lv_iload_n F.1 F.2.1 dX9_becomes_42 rfl (lv_at hl 2 rfl) ?_
    refine lv_aload_n F.1 F.2.1 dX9_becomes_43 rfl (lv_at hl 0 rfl) ?_
    refine g_MD_madeMany F w q868 dX9_becomes_44 ?_
    refine lv_icmp_ge (tgt := 72) F.1 F.2.1 dX9_becomes_47 (by decide) (fun c1 => ?_) (fun c1 => ?_)
    · replace hf := oi_t hf c1
      refine lv_aload_n F.1 F.2.1 dX9_becomes_72 rfl (lv_at hl 0 rfl) ?_
      refine g_MD_madeMany F w q868 dX9_becomes_73 ?_
      exact r_iret F w (oi_s hf) dX9_becomes_76
    · replace hf := oi_f hf c1
      refine lv_aload_n F.1 F.2.1 dX9_becomes_50 rfl (lv_at hl 0 rfl) ?_
      refine g_MD_now F w q863 dX9_becomes_51 ?_
      refine lv_iload_n F.1 F.2.1 dX9_becomes_54 rfl (lv_at hl 1 rfl) ?_
      refine lv_iconst (v := 1) F.1 F.2.1 dX9_becomes_55 (by decide) ?_
      refine lv_iadd F.1 F.2.1 dX9_becomes_56 ?_
      refine lv_iload_n F.1 F.2.1 dX9_becomes_57 rfl (lv_at hl 2 rfl) ?_
      refine lv_iadd F.1 F.2.1 dX9_becomes_58 ?_
      refine lv_aload_n F.1 F.2.1 dX9_becomes_59 rfl (lv_at hl 0 rfl) ?_
      refine g_MD_made F w q867 dX9_becomes_60 ?_
      refine lv_iload_n F.1 F.2.1 dX9_becomes_63 rfl (lv_at hl 2 rfl) ?_
      obtain ⟨hb2, hf⟩ := oi_g hf
      refine r_iald F w (k := 83) (f := ai S 32) (by decide) rfl hb2 dX9_becomes_64 ?_
      obtain ⟨hb3, hf⟩ := oi_g hf
      refine r_iast F w (k := 81) (a := 30) (n := 101) (by decide) (fun S9 => rfl) rfl hb3 dX9_becomes_65 (fun H locs w => ?_)
      obtain ⟨S4, e_S4⟩ : ∃ y : ST, y = sA S 30 (upd (ai S 30) (Int32.toNatClampNeg ((a2 + (1 : Int32)) + a3)) (ai S 32 (Int32.toNatClampNeg a3))) := ⟨_, rfl⟩
      replace w : WD x s S4 H locs := by rw [e_S4]; exact w
      replace hf := oi_l hf e_S4
      obtain ⟨v5, e_v5⟩ : ∃ y : Int32, y = (a3 + 1) := ⟨_, rfl⟩
      replace hf := oi_l hf e_v5
      refine lv_iinc (v := v5) (lv' := [(3, .int v5), (0, .ref (x.2.2 (80))), (2, .int a2)]) F.1 F.2.1 dX9_becomes_66 hl (k := 2) rfl (by rw [e_v5]; rfl) (by decide) rfl (fun ls hl => ?_)
      refine lv_goto (tgt := 42) F.1 F.2.1 dX9_becomes_69 (by decide) ?_
      exact ih _ _ _ _ w a2 v5 (lv_sub hl [1, 2, 0] rfl) hf
def f_X9_becomes_9 : Nat → ST → Int32 → Int32 → Option (Int32 × ST)
  | 0, _, _, _ => none
  | n + 1, S, a2, a3 => (if 25 ≤ a3 then oG (inB a2 101) (oL (sA S 30 (upd (ai S 30) (Int32.toNatClampNeg a2) (fi S 52))) (fun (S3 : ST) => f_X9_becomes_42 FU S3 a2 0)) else oG (inB (a2 + a3) 101) (oL (sA S 30 (upd (ai S 30) (Int32.toNatClampNeg (a2 + a3)) 0)) (fun (S5 : ST) => oL (a3 + 1) (fun (v6 : Int32) => (f_X9_becomes_9 n) S5 a2 v6))))
set_option maxHeartbeats 4000000 in
set_option maxRecDepth 100000 in
theorem b_X9_becomes_9 {p : Program} {l : Launch} {e : Env} {s : State} {m : MethodId} {args : Array Value} {below : List Frame} {meth : Method} {c : Code} {x : CX} {res : Int32 × ST} (F : MF p m meth c cX9_becomes 4 s args RX9 (some .int)) : ∀ (n : Nat), ∀ (H : Heap) (locs : List Loc) (ls : Array Slot) (S : ST), WD x s S H locs → ∀ (a2 : Int32) (a3 : Int32), lv_has ls 4 [(0, .ref (x.2.2 (80))), (2, .int a2), (3, .int a3)] → f_X9_becomes_9 n S a2 a3 = some res → W p l e ({ frames := 0, cells := 0, slots := 0, locals := 0 } : Room) s m args below meth c H locs 0 0 (MQ below (QI x res.2 res.1 s.heap.size) args s 0 0 (AA x s.heap.size)) (F0 m 9 ls []) := by
  intro n
  induction n with
  | zero =>
    intro H locs ls S w a2 a3 hl hf
    have hf : (none : Option (Int32 × ST)) = some res := hf
    cases hf
  | succ n ih =>
    intro H locs ls S w a2 a3 hl hf
    unfold f_X9_becomes_9 at hf
    refine lv_iload_n F.1 F.2.1 dX9_becomes_9 rfl (lv_at hl 2 rfl) ?_
    refine lv_bipush (v := 25) F.1 F.2.1 dX9_becomes_10 (by decide) ?_
    refine lv_icmp_ge (tgt := 30) F.1 F.2.1 dX9_becomes_12 (by decide) (fun c1 => ?_) (fun c1 => ?_)
    · replace hf := oi_t hf c1
      refine lv_aload_n F.1 F.2.1 dX9_becomes_30 rfl (lv_at hl 0 rfl) ?_
      refine g_MD_now F w q863 dX9_becomes_31 ?_
      refine lv_iload_n F.1 F.2.1 dX9_becomes_34 rfl (lv_at hl 1 rfl) ?_
      refine lv_aload_n F.1 F.2.1 dX9_becomes_35 rfl (lv_at hl 0 rfl) ?_
      refine g_MD_madeMany F w q868 dX9_becomes_36 ?_
      obtain ⟨hb2, hf⟩ := oi_g hf
      refine r_iast F w (k := 81) (a := 30) (n := 101) (by decide) (fun S9 => rfl) rfl hb2 dX9_becomes_39 (fun H locs w => ?_)
      obtain ⟨S3, e_S3⟩ : ∃ y : ST, y = sA S 30 (upd (ai S 30) (Int32.toNatClampNeg a2) (fi S 52)) := ⟨_, rfl⟩
      replace w : WD x s S3 H locs := by rw [e_S3]; exact w
      replace hf := oi_l hf e_S3
      refine lv_iconst (v := 0) F.1 F.2.1 dX9_becomes_40 (by decide) ?_
      refine lv_istore_n (lv' := [(3, .int 0), (0, .ref (x.2.2 (80))), (2, .int a2)]) F.1 F.2.1 dX9_becomes_41 rfl hl (by decide) rfl (fun ls hl => ?_)
      exact b_X9_becomes_42 F FU _ _ _ _ w a2 0 (lv_sub hl [1, 2, 0] rfl) hf
    · replace hf := oi_f hf c1
      refine lv_aload_n F.1 F.2.1 dX9_becomes_15 rfl (lv_at hl 0 rfl) ?_
      refine g_MD_now F w q863 dX9_becomes_16 ?_
      refine lv_iload_n F.1 F.2.1 dX9_becomes_19 rfl (lv_at hl 1 rfl) ?_
      refine lv_iload_n F.1 F.2.1 dX9_becomes_20 rfl (lv_at hl 2 rfl) ?_
      refine lv_iadd F.1 F.2.1 dX9_becomes_21 ?_
      refine lv_iconst (v := 0) F.1 F.2.1 dX9_becomes_22 (by decide) ?_
      obtain ⟨hb4, hf⟩ := oi_g hf
      refine r_iast F w (k := 81) (a := 30) (n := 101) (by decide) (fun S9 => rfl) rfl hb4 dX9_becomes_23 (fun H locs w => ?_)
      obtain ⟨S5, e_S5⟩ : ∃ y : ST, y = sA S 30 (upd (ai S 30) (Int32.toNatClampNeg (a2 + a3)) 0) := ⟨_, rfl⟩
      replace w : WD x s S5 H locs := by rw [e_S5]; exact w
      replace hf := oi_l hf e_S5
      obtain ⟨v6, e_v6⟩ : ∃ y : Int32, y = (a3 + 1) := ⟨_, rfl⟩
      replace hf := oi_l hf e_v6
      refine lv_iinc (v := v6) (lv' := [(3, .int v6), (0, .ref (x.2.2 (80))), (2, .int a2)]) F.1 F.2.1 dX9_becomes_24 hl (k := 2) rfl (by rw [e_v6]; rfl) (by decide) rfl (fun ls hl => ?_)
      refine lv_goto (tgt := 9) F.1 F.2.1 dX9_becomes_27 (by decide) ?_
      exact ih _ _ _ _ w a2 v6 (lv_sub hl [1, 2, 0] rfl) hf
def f_X9_becomes_0 (S : ST) (a1 : Int32) : Option (Int32 × ST) := oL ((1 : Int32) + ((25 : Int32) * a1)) (fun (v1 : Int32) => f_X9_becomes_9 FU S v1 0)
set_option maxHeartbeats 4000000 in
set_option maxRecDepth 100000 in
theorem b_X9_becomes_0 {p : Program} {l : Launch} {e : Env} {s : State} {m : MethodId} {args : Array Value} {below : List Frame} {meth : Method} {c : Code} {x : CX} {res : Int32 × ST} (F : MF p m meth c cX9_becomes 4 s args RX9 (some .int)) : ∀ (H : Heap) (locs : List Loc) (ls : Array Slot) (S : ST), WD x s S H locs → ∀ (a1 : Int32), lv_has ls 4 [(0, .ref (x.2.2 (80))), (1, .int a1)] → f_X9_becomes_0 S a1 = some res → W p l e ({ frames := 0, cells := 0, slots := 0, locals := 0 } : Room) s m args below meth c H locs 0 0 (MQ below (QI x res.2 res.1 s.heap.size) args s 0 0 (AA x s.heap.size)) (F0 m 0 ls []) := by
  intro H locs ls S w a1 hl hf
  unfold f_X9_becomes_0 at hf
  refine lv_iconst (v := 1) F.1 F.2.1 dX9_becomes_0 (by decide) ?_
  refine lv_bipush (v := 25) F.1 F.2.1 dX9_becomes_1 (by decide) ?_
  refine lv_iload_n F.1 F.2.1 dX9_becomes_3 rfl (lv_at hl 1 rfl) ?_
  refine lv_imul F.1 F.2.1 dX9_becomes_4 ?_
  refine lv_iadd F.1 F.2.1 dX9_becomes_5 ?_
  refine lv_topi (fun v1 e_v1 => ?_)
  replace hf := oi_l hf e_v1
  refine lv_istore_n (lv' := [(2, .int v1), (0, .ref (x.2.2 (80))), (1, .int a1)]) F.1 F.2.1 dX9_becomes_6 rfl hl (by decide) rfl (fun ls hl => ?_)
  refine lv_iconst (v := 0) F.1 F.2.1 dX9_becomes_7 (by decide) ?_
  refine lv_istore_n (lv' := [(3, .int 0), (2, .int v1), (0, .ref (x.2.2 (80))), (1, .int a1)]) F.1 F.2.1 dX9_becomes_8 rfl hl (by decide) rfl (fun ls hl => ?_)
  exact b_X9_becomes_9 F FU _ _ _ _ w v1 0 (lv_sub hl [2, 1, 0] rfl) hf
def f_X9_becomes (S : ST) (a1 : Int32) : Option (Int32 × ST) := f_X9_becomes_0 S a1
set_option maxHeartbeats 4000000 in
set_option maxRecDepth 100000 in
theorem k_X9_becomes (l : Launch) (x : CX) (S : ST) (a1 : Int32) {res : Int32 × ST} (hf : f_X9_becomes S a1 = some res) (sz : Nat) : Met l yX9_becomes (Cond.code yX9_becomes cX9_becomes 4 (some .int) :: GW) ({ frames := 0, cells := 0, slots := 0, locals := 0 } : Room) (PC x S sz [.ref (x.2.2 (80)), .int a1]) (QI x res.2 res.1 sz) 0 0 (AA x sz) := by
  refine Met.ofW (cc := cX9_becomes) (maxL := 4) (ret := (some .int)) (by decide) rfl ?_
  intro p e s m args below meth c s₁ B hml hv
  obtain ⟨rfl, rfl, hPW⟩ := hv
  have F : MF p m meth c cX9_becomes 4 s _ RX9 (some .int) := MF.of B hml
  have w := WD.of hPW
  have hl := lv_entry ([.ref (x.2.2 (80)), .int a1]) (n := 4) (Nat.le_of_ble_eq_true rfl)
  rw [lg_entry_eq]
  generalize (lg_sl ([.ref (x.2.2 (80)), .int a1]) ++ List.replicate (4 - (lg_sl ([.ref (x.2.2 (80)), .int a1])).length) Slot.unset).toArray = ls at hl ⊢
  have hl : lv_has ls 4 [(0, .ref (x.2.2 (80))), (1, .int a1)] := hl
  unfold f_X9_becomes at hf
  exact b_X9_becomes_0 F  _ _ _ _ w a1 (lv_sub hl [0, 1] rfl) hf
theorem cy_X9_lengthOf : CY yX9_lengthOf RX9 cX9_lengthOf 2 (some .int) 1 := ⟨q10, q975, rfl, by decide, by decide, by decide +kernel⟩
def f_X9_lengthOf_32 (S : ST) (as0 : Int32) : Option (Int32 × ST) := some (as0, S)
set_option maxHeartbeats 4000000 in
set_option maxRecDepth 100000 in
theorem b_X9_lengthOf_32 {p : Program} {l : Launch} {e : Env} {s : State} {m : MethodId} {args : Array Value} {below : List Frame} {meth : Method} {c : Code} {x : CX} {res : Int32 × ST} (F : MF p m meth c cX9_lengthOf 2 s args RX9 (some .int)) : ∀ (H : Heap) (locs : List Loc) (ls : Array Slot) (S : ST), WD x s S H locs → ∀ (as0 : Int32), lv_has ls 2 [] → f_X9_lengthOf_32 S as0 = some res → W p l e ({ frames := 1, cells := 0, slots := 0, locals := 22 } : Room) s m args below meth c H locs 0 0 (MQ below (QI x res.2 res.1 s.heap.size) args s 0 0 (AA x s.heap.size)) (F0 m 32 ls [.int as0]) := by
  intro H locs ls S w as0 hl hf
  unfold f_X9_lengthOf_32 at hf
  exact r_iret F w (oi_s hf) dX9_lengthOf_32
def f_X9_lengthOf_0 (S : ST) (a1 : Int32) : Option (Int32 × ST) := oB (f_X9_many S a1) (fun (r2 : Int32) (S1 : ST) => (if 2 ≤ r2 then oB (f_X9_many S1 a1) (fun (r5 : Int32) (S4 : ST) => oB (f_X9_markAt S4 a1 (r5 - (1 : Int32))) (fun (r7 : Int32) (S6 : ST) => oB (f_X9_markAt S6 a1 0) (fun (r9 : Int32) (S8 : ST) => f_X9_lengthOf_32 S8 (r7 - r9)))) else f_X9_lengthOf_32 S1 0))
set_option maxHeartbeats 4000000 in
set_option maxRecDepth 100000 in
theorem b_X9_lengthOf_0 {p : Program} {l : Launch} {e : Env} {s : State} {m : MethodId} {args : Array Value} {below : List Frame} {meth : Method} {c : Code} {x : CX} {res : Int32 × ST} (F : MF p m meth c cX9_lengthOf 2 s args RX9 (some .int)) : ∀ (H : Heap) (locs : List Loc) (ls : Array Slot) (S : ST), WD x s S H locs → ∀ (a1 : Int32), lv_has ls 2 [(0, .ref (x.2.2 (80))), (1, .int a1)] → f_X9_lengthOf_0 S a1 = some res → W p l e ({ frames := 1, cells := 0, slots := 0, locals := 22 } : Room) s m args below meth c H locs 0 0 (MQ below (QI x res.2 res.1 s.heap.size) args s 0 0 (AA x s.heap.size)) (F0 m 0 ls []) := by
  intro H locs ls S w a1 hl hf
  unfold f_X9_lengthOf_0 at hf
  refine lv_aload_n F.1 F.2.1 dX9_lengthOf_0 rfl (lv_at hl 0 rfl) ?_
  refine lv_iload_n F.1 F.2.1 dX9_lengthOf_1 rfl (lv_at hl 1 rfl) ?_
  obtain ⟨r2, S1, hc, hf⟩ := oi_b hf
  refine k_i0 (S' := S1) (r := r2) w (runV (As := [.int a1]) (rest := []) (kb := 80) F w (k_X9_many l x S a1 hc H.size) cy_X9_many q920 q922 qp21 ⟨rfl, rfl⟩ ⟨Nat.le_of_ble_eq_true rfl, Nat.le_of_ble_eq_true rfl⟩ (by decide) rfl rfl rfl rfl hl.1 (Nat.le_of_ble_eq_true rfl) ⟨Nat.le_of_ble_eq_true rfl, Nat.le_of_ble_eq_true rfl⟩ dX9_lengthOf_2) (fun H locs w => ?_)
  refine lv_iconst (v := 2) F.1 F.2.1 dX9_lengthOf_5 (by decide) ?_
  refine lv_icmp_ge (tgt := 13) F.1 F.2.1 dX9_lengthOf_6 (by decide) (fun c3 => ?_) (fun c3 => ?_)
  · replace hf := oi_t hf c3
    refine lv_aload_n F.1 F.2.1 dX9_lengthOf_13 rfl (lv_at hl 0 rfl) ?_
    refine lv_iload_n F.1 F.2.1 dX9_lengthOf_14 rfl (lv_at hl 1 rfl) ?_
    refine lv_aload_n F.1 F.2.1 dX9_lengthOf_15 rfl (lv_at hl 0 rfl) ?_
    refine lv_iload_n F.1 F.2.1 dX9_lengthOf_16 rfl (lv_at hl 1 rfl) ?_
    obtain ⟨r5, S4, hc, hf⟩ := oi_b hf
    refine k_i0 (S' := S4) (r := r5) w (runV (As := [.int a1]) (rest := [.int a1, .ref (x.2.2 (80))]) (kb := 80) F w (k_X9_many l x S1 a1 hc H.size) cy_X9_many q920 q922 qp21 ⟨rfl, rfl⟩ ⟨Nat.le_of_ble_eq_true rfl, Nat.le_of_ble_eq_true rfl⟩ (by decide) rfl rfl rfl rfl hl.1 (Nat.le_of_ble_eq_true rfl) ⟨Nat.le_of_ble_eq_true rfl, Nat.le_of_ble_eq_true rfl⟩ dX9_lengthOf_17) (fun H locs w => ?_)
    refine lv_iconst (v := 1) F.1 F.2.1 dX9_lengthOf_20 (by decide) ?_
    refine lv_isub F.1 F.2.1 dX9_lengthOf_21 ?_
    obtain ⟨r7, S6, hc, hf⟩ := oi_b hf
    refine k_i0 (S' := S6) (r := r7) w (runV (As := [.int a1, .int (r5 - (1 : Int32))]) (rest := []) (kb := 80) F w (k_X9_markAt l x S4 a1 (r5 - (1 : Int32)) hc H.size) cy_X9_markAt q924 q926 qp22 ⟨rfl, rfl⟩ ⟨Nat.le_of_ble_eq_true rfl, Nat.le_of_ble_eq_true rfl⟩ (by decide) rfl rfl rfl rfl hl.1 (Nat.le_of_ble_eq_true rfl) ⟨Nat.le_of_ble_eq_true rfl, Nat.le_of_ble_eq_true rfl⟩ dX9_lengthOf_22) (fun H locs w => ?_)
    refine lv_aload_n F.1 F.2.1 dX9_lengthOf_25 rfl (lv_at hl 0 rfl) ?_
    refine lv_iload_n F.1 F.2.1 dX9_lengthOf_26 rfl (lv_at hl 1 rfl) ?_
    refine lv_iconst (v := 0) F.1 F.2.1 dX9_lengthOf_27 (by decide) ?_
    obtain ⟨r9, S8, hc, hf⟩ := oi_b hf
    refine k_i0 (S' := S8) (r := r9) w (runV (As := [.int a1, .int 0]) (rest := [.int r7]) (kb := 80) F w (k_X9_markAt l x S6 a1 0 hc H.size) cy_X9_markAt q924 q926 qp22 ⟨rfl, rfl⟩ ⟨Nat.le_of_ble_eq_true rfl, Nat.le_of_ble_eq_true rfl⟩ (by decide) rfl rfl rfl rfl hl.1 (Nat.le_of_ble_eq_true rfl) ⟨Nat.le_of_ble_eq_true rfl, Nat.le_of_ble_eq_true rfl⟩ dX9_lengthOf_28) (fun H locs w => ?_)
    refine lv_isub F.1 F.2.1 dX9_lengthOf_31 ?_
    exact b_X9_lengthOf_32 F  _ _ _ _ w (r7 - r9) (lv_sub hl [] rfl) hf
  · replace hf := oi_f hf c3
    refine lv_iconst (v := 0) F.1 F.2.1 dX9_lengthOf_9 (by decide) ?_
    refine lv_goto (tgt := 32) F.1 F.2.1 dX9_lengthOf_10 (by decide) ?_
    exact b_X9_lengthOf_32 F  _ _ _ _ w 0 (lv_sub hl [] rfl) hf
def f_X9_lengthOf (S : ST) (a1 : Int32) : Option (Int32 × ST) := f_X9_lengthOf_0 S a1
set_option maxHeartbeats 4000000 in
set_option maxRecDepth 100000 in
theorem k_X9_lengthOf (l : Launch) (x : CX) (S : ST) (a1 : Int32) {res : Int32 × ST} (hf : f_X9_lengthOf S a1 = some res) (sz : Nat) : Met l yX9_lengthOf (Cond.code yX9_lengthOf cX9_lengthOf 2 (some .int) :: GW) ({ frames := 1, cells := 0, slots := 0, locals := 22 } : Room) (PC x S sz [.ref (x.2.2 (80)), .int a1]) (QI x res.2 res.1 sz) 0 0 (AA x sz) := by
  refine Met.ofW (cc := cX9_lengthOf) (maxL := 2) (ret := (some .int)) (by decide) rfl ?_
  intro p e s m args below meth c s₁ B hml hv
  obtain ⟨rfl, rfl, hPW⟩ := hv
  have F : MF p m meth c cX9_lengthOf 2 s _ RX9 (some .int) := MF.of B hml
  have w := WD.of hPW
  have hl := lv_entry ([.ref (x.2.2 (80)), .int a1]) (n := 2) (Nat.le_of_ble_eq_true rfl)
  rw [lg_entry_eq]
  generalize (lg_sl ([.ref (x.2.2 (80)), .int a1]) ++ List.replicate (2 - (lg_sl ([.ref (x.2.2 (80)), .int a1])).length) Slot.unset).toArray = ls at hl ⊢
  have hl : lv_has ls 2 [(0, .ref (x.2.2 (80))), (1, .int a1)] := hl
  unfold f_X9_lengthOf at hf
  exact b_X9_lengthOf_0 F  _ _ _ _ w a1 (lv_sub hl [0, 1] rfl) hf
theorem cy_X9_numberOf : CY yX9_numberOf RX9 cX9_numberOf 5 (some .int) 2 := ⟨q10, q919, rfl, by decide, by decide, by decide +kernel⟩
def f_X9_numberOf_32 (k5 : ST → Int32 → Int32 → Int32 → Int32 → Option (Int32 × ST)) (S : ST) (a1 : Int32) (a2 : Int32) (a4 : Int32) (as0 : Int32) : Option (Int32 × ST) := oL (a4 + 1) (fun (v1 : Int32) => k5 S a1 a2 as0 v1)
set_option maxHeartbeats 4000000 in
set_option maxRecDepth 100000 in
theorem b_X9_numberOf_32 {p : Program} {l : Launch} {e : Env} {s : State} {m : MethodId} {args : Array Value} {below : List Frame} {meth : Method} {c : Code} {x : CX} {res : Int32 × ST} (F : MF p m meth c cX9_numberOf 5 s args RX9 (some .int)) (k5 : ST → Int32 → Int32 → Int32 → Int32 → Option (Int32 × ST)) (hk5 : ∀ (H : Heap) (locs : List Loc) (ls : Array Slot) (S : ST), WD x s S H locs → ∀ (a1 : Int32) (a2 : Int32) (a3 : Int32) (a4 : Int32), lv_has ls 5 [(0, .ref (x.2.2 (80))), (1, .int a1), (2, .int a2), (3, .int a3), (4, .int a4)] → k5 S a1 a2 a3 a4 = some res → W p l e ({ frames := 1, cells := 0, slots := 0, locals := 22 } : Room) s m args below meth c H locs 0 0 (MQ below (QI x res.2 res.1 s.heap.size) args s 0 0 (AA x s.heap.size)) (F0 m 5 ls [])) : ∀ (H : Heap) (locs : List Loc) (ls : Array Slot) (S : ST), WD x s S H locs → ∀ (a1 : Int32) (a2 : Int32) (a4 : Int32) (as0 : Int32), lv_has ls 5 [(0, .ref (x.2.2 (80))), (1, .int a1), (2, .int a2), (4, .int a4)] → f_X9_numberOf_32 k5 S a1 a2 a4 as0 = some res → W p l e ({ frames := 1, cells := 0, slots := 0, locals := 22 } : Room) s m args below meth c H locs 0 0 (MQ below (QI x res.2 res.1 s.heap.size) args s 0 0 (AA x s.heap.size)) (F0 m 32 ls [.int as0]) := by
  intro H locs ls S w a1 a2 a4 as0 hl hf
  unfold f_X9_numberOf_32 at hf
  refine lv_istore_n (lv' := [(3, .int as0), (0, .ref (x.2.2 (80))), (1, .int a1), (2, .int a2), (4, .int a4)]) F.1 F.2.1 dX9_numberOf_32 rfl hl (by decide) rfl (fun ls hl => ?_)
  obtain ⟨v1, e_v1⟩ : ∃ y : Int32, y = (a4 + 1) := ⟨_, rfl⟩
  replace hf := oi_l hf e_v1
  refine lv_iinc (v := v1) (lv' := [(4, .int v1), (3, .int as0), (0, .ref (x.2.2 (80))), (1, .int a1), (2, .int a2)]) F.1 F.2.1 dX9_numberOf_33 hl (k := 4) rfl (by rw [e_v1]; rfl) (by decide) rfl (fun ls hl => ?_)
  refine lv_goto (tgt := 5) F.1 F.2.1 dX9_numberOf_36 (by decide) ?_
  exact hk5 _ _ _ _ w a1 a2 as0 v1 (lv_sub hl [2, 3, 4, 1, 0] rfl) hf
def f_X9_numberOf_5 : Nat → ST → Int32 → Int32 → Int32 → Int32 → Option (Int32 × ST)
  | 0, _, _, _, _, _ => none
  | n + 1, S, a1, a2, a3, a4 => oB (f_X9_many S a1) (fun (r2 : Int32) (S1 : ST) => (if r2 ≤ a4 then some (a3, S1) else oB (f_X9_markAt S1 a1 a4) (fun (r5 : Int32) (S4 : ST) => (if r5 = a2 then f_X9_numberOf_32 (f_X9_numberOf_5 n) S4 a1 a2 a4 a4 else f_X9_numberOf_32 (f_X9_numberOf_5 n) S4 a1 a2 a4 a3))))
set_option maxHeartbeats 4000000 in
set_option maxRecDepth 100000 in
theorem b_X9_numberOf_5 {p : Program} {l : Launch} {e : Env} {s : State} {m : MethodId} {args : Array Value} {below : List Frame} {meth : Method} {c : Code} {x : CX} {res : Int32 × ST} (F : MF p m meth c cX9_numberOf 5 s args RX9 (some .int)) : ∀ (n : Nat), ∀ (H : Heap) (locs : List Loc) (ls : Array Slot) (S : ST), WD x s S H locs → ∀ (a1 : Int32) (a2 : Int32) (a3 : Int32) (a4 : Int32), lv_has ls 5 [(0, .ref (x.2.2 (80))), (1, .int a1), (2, .int a2), (3, .int a3), (4, .int a4)] → f_X9_numberOf_5 n S a1 a2 a3 a4 = some res → W p l e ({ frames := 1, cells := 0, slots := 0, locals := 22 } : Room) s m args below meth c H locs 0 0 (MQ below (QI x res.2 res.1 s.heap.size) args s 0 0 (AA x s.heap.size)) (F0 m 5 ls []) := by
  intro n
  induction n with
  | zero =>
    intro H locs ls S w a1 a2 a3 a4 hl hf
    have hf : (none : Option (Int32 × ST)) = some res := hf
    cases hf
  | succ n ih =>
    intro H locs ls S w a1 a2 a3 a4 hl hf
    unfold f_X9_numberOf_5 at hf
    refine lv_iload F.1 F.2.1 dX9_numberOf_5 (lv_at hl 4 rfl) ?_
    refine lv_aload_n F.1 F.2.1 dX9_numberOf_7 rfl (lv_at hl 0 rfl) ?_
    refine lv_iload_n F.1 F.2.1 dX9_numberOf_8 rfl (lv_at hl 1 rfl) ?_
    obtain ⟨r2, S1, hc, hf⟩ := oi_b hf
    refine k_i0 (S' := S1) (r := r2) w (runV (As := [.int a1]) (rest := [.int a4]) (kb := 80) F w (k_X9_many l x S a1 hc H.size) cy_X9_many q920 q922 qp21 ⟨rfl, rfl⟩ ⟨Nat.le_of_ble_eq_true rfl, Nat.le_of_ble_eq_true rfl⟩ (by decide) rfl rfl rfl rfl hl.1 (Nat.le_of_ble_eq_true rfl) ⟨Nat.le_of_ble_eq_true rfl, Nat.le_of_ble_eq_true rfl⟩ dX9_numberOf_9) (fun H locs w => ?_)
    refine lv_icmp_ge (tgt := 39) F.1 F.2.1 dX9_numberOf_12 (by decide) (fun c3 => ?_) (fun c3 => ?_)
    · replace hf := oi_t hf c3
      refine lv_iload_n F.1 F.2.1 dX9_numberOf_39 rfl (lv_at hl 3 rfl) ?_
      exact r_iret F w (oi_s hf) dX9_numberOf_40
    · replace hf := oi_f hf c3
      refine lv_aload_n F.1 F.2.1 dX9_numberOf_15 rfl (lv_at hl 0 rfl) ?_
      refine lv_iload_n F.1 F.2.1 dX9_numberOf_16 rfl (lv_at hl 1 rfl) ?_
      refine lv_iload F.1 F.2.1 dX9_numberOf_17 (lv_at hl 4 rfl) ?_
      obtain ⟨r5, S4, hc, hf⟩ := oi_b hf
      refine k_i0 (S' := S4) (r := r5) w (runV (As := [.int a1, .int a4]) (rest := []) (kb := 80) F w (k_X9_markAt l x S1 a1 a4 hc H.size) cy_X9_markAt q924 q926 qp22 ⟨rfl, rfl⟩ ⟨Nat.le_of_ble_eq_true rfl, Nat.le_of_ble_eq_true rfl⟩ (by decide) rfl rfl rfl rfl hl.1 (Nat.le_of_ble_eq_true rfl) ⟨Nat.le_of_ble_eq_true rfl, Nat.le_of_ble_eq_true rfl⟩ dX9_numberOf_19) (fun H locs w => ?_)
      refine lv_iload_n F.1 F.2.1 dX9_numberOf_22 rfl (lv_at hl 2 rfl) ?_
      refine lv_icmp_ne (tgt := 31) F.1 F.2.1 dX9_numberOf_23 (by decide) (fun c6 => ?_) (fun c6 => ?_)
      · replace hf := oi_f hf c6
        refine lv_iload_n F.1 F.2.1 dX9_numberOf_31 rfl (lv_at hl 3 rfl) ?_
        exact b_X9_numberOf_32 F (f_X9_numberOf_5 n) ih _ _ _ _ w a1 a2 a4 a3 (lv_sub hl [0, 1, 2, 4] rfl) hf
      · replace hf := oi_t hf c6
        refine lv_iload F.1 F.2.1 dX9_numberOf_26 (lv_at hl 4 rfl) ?_
        refine lv_goto (tgt := 32) F.1 F.2.1 dX9_numberOf_28 (by decide) ?_
        exact b_X9_numberOf_32 F (f_X9_numberOf_5 n) ih _ _ _ _ w a1 a2 a4 a4 (lv_sub hl [0, 1, 2, 4] rfl) hf
def f_X9_numberOf_0 (S : ST) (a1 : Int32) (a2 : Int32) : Option (Int32 × ST) := f_X9_numberOf_5 FU S a1 a2 (-1) 0
set_option maxHeartbeats 4000000 in
set_option maxRecDepth 100000 in
theorem b_X9_numberOf_0 {p : Program} {l : Launch} {e : Env} {s : State} {m : MethodId} {args : Array Value} {below : List Frame} {meth : Method} {c : Code} {x : CX} {res : Int32 × ST} (F : MF p m meth c cX9_numberOf 5 s args RX9 (some .int)) : ∀ (H : Heap) (locs : List Loc) (ls : Array Slot) (S : ST), WD x s S H locs → ∀ (a1 : Int32) (a2 : Int32), lv_has ls 5 [(0, .ref (x.2.2 (80))), (1, .int a1), (2, .int a2)] → f_X9_numberOf_0 S a1 a2 = some res → W p l e ({ frames := 1, cells := 0, slots := 0, locals := 22 } : Room) s m args below meth c H locs 0 0 (MQ below (QI x res.2 res.1 s.heap.size) args s 0 0 (AA x s.heap.size)) (F0 m 0 ls []) := by
  intro H locs ls S w a1 a2 hl hf
  unfold f_X9_numberOf_0 at hf
  refine lv_iconst (v := (-1)) F.1 F.2.1 dX9_numberOf_0 (by decide) ?_
  refine lv_istore_n (lv' := [(3, .int (-1)), (0, .ref (x.2.2 (80))), (1, .int a1), (2, .int a2)]) F.1 F.2.1 dX9_numberOf_1 rfl hl (by decide) rfl (fun ls hl => ?_)
  refine lv_iconst (v := 0) F.1 F.2.1 dX9_numberOf_2 (by decide) ?_
  refine lv_istore (lv' := [(4, .int 0), (3, .int (-1)), (0, .ref (x.2.2 (80))), (1, .int a1), (2, .int a2)]) F.1 F.2.1 dX9_numberOf_3 hl (by decide) rfl (fun ls hl => ?_)
  exact b_X9_numberOf_5 F FU _ _ _ _ w a1 a2 (-1) 0 (lv_sub hl [2, 3, 4, 1, 0] rfl) hf
def f_X9_numberOf (S : ST) (a1 : Int32) (a2 : Int32) : Option (Int32 × ST) := f_X9_numberOf_0 S a1 a2
set_option maxHeartbeats 4000000 in
set_option maxRecDepth 100000 in
theorem k_X9_numberOf (l : Launch) (x : CX) (S : ST) (a1 : Int32) (a2 : Int32) {res : Int32 × ST} (hf : f_X9_numberOf S a1 a2 = some res) (sz : Nat) : Met l yX9_numberOf (Cond.code yX9_numberOf cX9_numberOf 5 (some .int) :: GW) ({ frames := 1, cells := 0, slots := 0, locals := 22 } : Room) (PC x S sz [.ref (x.2.2 (80)), .int a1, .int a2]) (QI x res.2 res.1 sz) 0 0 (AA x sz) := by
  refine Met.ofW (cc := cX9_numberOf) (maxL := 5) (ret := (some .int)) (by decide) rfl ?_
  intro p e s m args below meth c s₁ B hml hv
  obtain ⟨rfl, rfl, hPW⟩ := hv
  have F : MF p m meth c cX9_numberOf 5 s _ RX9 (some .int) := MF.of B hml
  have w := WD.of hPW
  have hl := lv_entry ([.ref (x.2.2 (80)), .int a1, .int a2]) (n := 5) (Nat.le_of_ble_eq_true rfl)
  rw [lg_entry_eq]
  generalize (lg_sl ([.ref (x.2.2 (80)), .int a1, .int a2]) ++ List.replicate (5 - (lg_sl ([.ref (x.2.2 (80)), .int a1, .int a2])).length) Slot.unset).toArray = ls at hl ⊢
  have hl : lv_has ls 5 [(0, .ref (x.2.2 (80))), (1, .int a1), (2, .int a2)] := hl
  unfold f_X9_numberOf at hf
  exact b_X9_numberOf_0 F  _ _ _ _ w a1 a2 (lv_sub hl [0, 1, 2] rfl) hf
theorem cy_X9_takes : CY yX9_takes RX9 cX9_takes 4 none 2 := ⟨q10, q935, rfl, by decide, by decide, by decide +kernel⟩
def f_X9_takes_35 (k6 : ST → Int32 → Int32 → Int32 → Option (ST)) (S : ST) (a1 : Int32) (a2 : Int32) (a3 : Int32) : Option (ST) := oL (a3 + 1) (fun (v1 : Int32) => k6 S a1 a2 v1)
set_option maxHeartbeats 4000000 in
set_option maxRecDepth 100000 in
theorem b_X9_takes_35 {p : Program} {l : Launch} {e : Env} {s : State} {m : MethodId} {args : Array Value} {below : List Frame} {meth : Method} {c : Code} {x : CX} {res : ST} (F : MF p m meth c cX9_takes 4 s args RX9 none) (k6 : ST → Int32 → Int32 → Int32 → Option (ST)) (hk6 : ∀ (H : Heap) (locs : List Loc) (ls : Array Slot) (S : ST), WD x s S H locs → ∀ (a1 : Int32) (a2 : Int32) (a3 : Int32), lv_has ls 4 [(0, .ref (x.2.2 (80))), (1, .int a1), (2, .int a2), (3, .int a3)] → k6 S a1 a2 a3 = some res → W p l e ({ frames := 1, cells := 0, slots := 0, locals := 23 } : Room) s m args below meth c H locs 0 0 (MQ below (QV x res s.heap.size) args s 0 0 (AA x s.heap.size)) (F0 m 6 ls [])) : ∀ (H : Heap) (locs : List Loc) (ls : Array Slot) (S : ST), WD x s S H locs → ∀ (a1 : Int32) (a2 : Int32) (a3 : Int32), lv_has ls 4 [(0, .ref (x.2.2 (80))), (1, .int a1), (2, .int a2), (3, .int a3)] → f_X9_takes_35 k6 S a1 a2 a3 = some res → W p l e ({ frames := 1, cells := 0, slots := 0, locals := 23 } : Room) s m args below meth c H locs 0 0 (MQ below (QV x res s.heap.size) args s 0 0 (AA x s.heap.size)) (F0 m 35 ls []) := by
  intro H locs ls S w a1 a2 a3 hl hf
  unfold f_X9_takes_35 at hf
  obtain ⟨v1, e_v1⟩ : ∃ y : Int32, y = (a3 + 1) := ⟨_, rfl⟩
  replace hf := oi_l hf e_v1
  refine lv_iinc (v := v1) (lv' := [(3, .int v1), (0, .ref (x.2.2 (80))), (1, .int a1), (2, .int a2)]) F.1 F.2.1 dX9_takes_35 hl (k := 3) rfl (by rw [e_v1]; rfl) (by decide) rfl (fun ls hl => ?_)
  refine lv_goto (tgt := 6) F.1 F.2.1 dX9_takes_38 (by decide) ?_
  exact hk6 _ _ _ _ w a1 a2 v1 (lv_sub hl [1, 2, 3, 0] rfl) hf
def f_X9_takes_6 : Nat → ST → Int32 → Int32 → Int32 → Option (ST)
  | 0, _, _, _, _ => none
  | n + 1, S, a1, a2, a3 => oB (f_X9_many S a1) (fun (r2 : Int32) (S1 : ST) => (if r2 ≤ a3 then some S1 else oB (f_X9_markAt S1 a1 a3) (fun (r5 : Int32) (S4 : ST) => (if r5 = a2 then f_X9_takes_35 (f_X9_takes_6 n) S4 a1 a2 a3 else oB (f_X9_markAt S4 a1 a3) (fun (r8 : Int32) (S7 : ST) => oV (f_X9_comes S7 r8) (fun (S9 : ST) => f_X9_takes_35 (f_X9_takes_6 n) S9 a1 a2 a3))))))
set_option maxHeartbeats 4000000 in
set_option maxRecDepth 100000 in
theorem b_X9_takes_6 {p : Program} {l : Launch} {e : Env} {s : State} {m : MethodId} {args : Array Value} {below : List Frame} {meth : Method} {c : Code} {x : CX} {res : ST} (F : MF p m meth c cX9_takes 4 s args RX9 none) : ∀ (n : Nat), ∀ (H : Heap) (locs : List Loc) (ls : Array Slot) (S : ST), WD x s S H locs → ∀ (a1 : Int32) (a2 : Int32) (a3 : Int32), lv_has ls 4 [(0, .ref (x.2.2 (80))), (1, .int a1), (2, .int a2), (3, .int a3)] → f_X9_takes_6 n S a1 a2 a3 = some res → W p l e ({ frames := 1, cells := 0, slots := 0, locals := 23 } : Room) s m args below meth c H locs 0 0 (MQ below (QV x res s.heap.size) args s 0 0 (AA x s.heap.size)) (F0 m 6 ls []) := by
  intro n
  induction n with
  | zero =>
    intro H locs ls S w a1 a2 a3 hl hf
    have hf : (none : Option (ST)) = some res := hf
    cases hf
  | succ n ih =>
    intro H locs ls S w a1 a2 a3 hl hf
    unfold f_X9_takes_6 at hf
    refine lv_iload_n F.1 F.2.1 dX9_takes_6 rfl (lv_at hl 3 rfl) ?_
    refine lv_aload_n F.1 F.2.1 dX9_takes_7 rfl (lv_at hl 0 rfl) ?_
    refine lv_iload_n F.1 F.2.1 dX9_takes_8 rfl (lv_at hl 1 rfl) ?_
    obtain ⟨r2, S1, hc, hf⟩ := oi_b hf
    refine k_i0 (S' := S1) (r := r2) w (runV (As := [.int a1]) (rest := [.int a3]) (kb := 80) F w (k_X9_many l x S a1 hc H.size) cy_X9_many q920 q922 qp21 ⟨rfl, rfl⟩ ⟨Nat.le_of_ble_eq_true rfl, Nat.le_of_ble_eq_true rfl⟩ (by decide) rfl rfl rfl rfl hl.1 (Nat.le_of_ble_eq_true rfl) ⟨Nat.le_of_ble_eq_true rfl, Nat.le_of_ble_eq_true rfl⟩ dX9_takes_9) (fun H locs w => ?_)
    refine lv_icmp_ge (tgt := 41) F.1 F.2.1 dX9_takes_12 (by decide) (fun c3 => ?_) (fun c3 => ?_)
    · replace hf := oi_t hf c3
      exact r_vret F w (oi_s hf) dX9_takes_41
    · replace hf := oi_f hf c3
      refine lv_aload_n F.1 F.2.1 dX9_takes_15 rfl (lv_at hl 0 rfl) ?_
      refine lv_iload_n F.1 F.2.1 dX9_takes_16 rfl (lv_at hl 1 rfl) ?_
      refine lv_iload_n F.1 F.2.1 dX9_takes_17 rfl (lv_at hl 3 rfl) ?_
      obtain ⟨r5, S4, hc, hf⟩ := oi_b hf
      refine k_i0 (S' := S4) (r := r5) w (runV (As := [.int a1, .int a3]) (rest := []) (kb := 80) F w (k_X9_markAt l x S1 a1 a3 hc H.size) cy_X9_markAt q924 q926 qp22 ⟨rfl, rfl⟩ ⟨Nat.le_of_ble_eq_true rfl, Nat.le_of_ble_eq_true rfl⟩ (by decide) rfl rfl rfl rfl hl.1 (Nat.le_of_ble_eq_true rfl) ⟨Nat.le_of_ble_eq_true rfl, Nat.le_of_ble_eq_true rfl⟩ dX9_takes_18) (fun H locs w => ?_)
      refine lv_iload_n F.1 F.2.1 dX9_takes_21 rfl (lv_at hl 2 rfl) ?_
      refine lv_icmp_eq (tgt := 35) F.1 F.2.1 dX9_takes_22 (by decide) (fun c6 => ?_) (fun c6 => ?_)
      · replace hf := oi_t hf c6
        exact b_X9_takes_35 F (f_X9_takes_6 n) ih _ _ _ _ w a1 a2 a3 (lv_sub hl [0, 1, 2, 3] rfl) hf
      · replace hf := oi_f hf c6
        refine lv_aload_n F.1 F.2.1 dX9_takes_25 rfl (lv_at hl 0 rfl) ?_
        refine lv_aload_n F.1 F.2.1 dX9_takes_26 rfl (lv_at hl 0 rfl) ?_
        refine lv_iload_n F.1 F.2.1 dX9_takes_27 rfl (lv_at hl 1 rfl) ?_
        refine lv_iload_n F.1 F.2.1 dX9_takes_28 rfl (lv_at hl 3 rfl) ?_
        obtain ⟨r8, S7, hc, hf⟩ := oi_b hf
        refine k_i0 (S' := S7) (r := r8) w (runV (As := [.int a1, .int a3]) (rest := [.ref (x.2.2 (80))]) (kb := 80) F w (k_X9_markAt l x S4 a1 a3 hc H.size) cy_X9_markAt q924 q926 qp22 ⟨rfl, rfl⟩ ⟨Nat.le_of_ble_eq_true rfl, Nat.le_of_ble_eq_true rfl⟩ (by decide) rfl rfl rfl rfl hl.1 (Nat.le_of_ble_eq_true rfl) ⟨Nat.le_of_ble_eq_true rfl, Nat.le_of_ble_eq_true rfl⟩ dX9_takes_29) (fun H locs w => ?_)
        obtain ⟨S9, hc, hf⟩ := oi_v hf
        refine k_v0 (S' := S9) w (runV (As := [.int r8]) (rest := []) (kb := 80) F w (k_X9_comes l x S7 r8 hc H.size) cy_X9_comes q940 q942 qp26 ⟨rfl, rfl⟩ ⟨Nat.le_of_ble_eq_true rfl, Nat.le_of_ble_eq_true rfl⟩ (by decide) rfl rfl rfl rfl hl.1 (Nat.le_of_ble_eq_true rfl) ⟨Nat.le_of_ble_eq_true rfl, Nat.le_of_ble_eq_true rfl⟩ dX9_takes_32) (fun H locs w => ?_)
        exact b_X9_takes_35 F (f_X9_takes_6 n) ih _ _ _ _ w a1 a2 a3 (lv_sub hl [0, 1, 2, 3] rfl) hf
def f_X9_takes_0 (S : ST) (a1 : Int32) (a2 : Int32) : Option (ST) := oV (f_X9_begins S) (fun (S1 : ST) => f_X9_takes_6 FU S1 a1 a2 0)
set_option maxHeartbeats 4000000 in
set_option maxRecDepth 100000 in
theorem b_X9_takes_0 {p : Program} {l : Launch} {e : Env} {s : State} {m : MethodId} {args : Array Value} {below : List Frame} {meth : Method} {c : Code} {x : CX} {res : ST} (F : MF p m meth c cX9_takes 4 s args RX9 none) : ∀ (H : Heap) (locs : List Loc) (ls : Array Slot) (S : ST), WD x s S H locs → ∀ (a1 : Int32) (a2 : Int32), lv_has ls 4 [(0, .ref (x.2.2 (80))), (1, .int a1), (2, .int a2)] → f_X9_takes_0 S a1 a2 = some res → W p l e ({ frames := 1, cells := 0, slots := 0, locals := 23 } : Room) s m args below meth c H locs 0 0 (MQ below (QV x res s.heap.size) args s 0 0 (AA x s.heap.size)) (F0 m 0 ls []) := by
  intro H locs ls S w a1 a2 hl hf
  unfold f_X9_takes_0 at hf
  refine lv_aload_n F.1 F.2.1 dX9_takes_0 rfl (lv_at hl 0 rfl) ?_
  obtain ⟨S1, hc, hf⟩ := oi_v hf
  refine k_v0 (S' := S1) w (runV (As := []) (rest := []) (kb := 80) F w (k_X9_begins l x S hc H.size) cy_X9_begins q936 q938 qp25 ⟨rfl, rfl⟩ ⟨Nat.le_of_ble_eq_true rfl, Nat.le_of_ble_eq_true rfl⟩ (by decide) rfl rfl rfl rfl hl.1 (Nat.le_of_ble_eq_true rfl) ⟨Nat.le_of_ble_eq_true rfl, Nat.le_of_ble_eq_true rfl⟩ dX9_takes_1) (fun H locs w => ?_)
  refine lv_iconst (v := 0) F.1 F.2.1 dX9_takes_4 (by decide) ?_
  refine lv_istore_n (lv' := [(3, .int 0), (0, .ref (x.2.2 (80))), (1, .int a1), (2, .int a2)]) F.1 F.2.1 dX9_takes_5 rfl hl (by decide) rfl (fun ls hl => ?_)
  exact b_X9_takes_6 F FU _ _ _ _ w a1 a2 0 (lv_sub hl [1, 2, 3, 0] rfl) hf
def f_X9_takes (S : ST) (a1 : Int32) (a2 : Int32) : Option (ST) := f_X9_takes_0 S a1 a2
set_option maxHeartbeats 4000000 in
set_option maxRecDepth 100000 in
theorem k_X9_takes (l : Launch) (x : CX) (S : ST) (a1 : Int32) (a2 : Int32) {res : ST} (hf : f_X9_takes S a1 a2 = some res) (sz : Nat) : Met l yX9_takes (Cond.code yX9_takes cX9_takes 4 none :: GW) ({ frames := 1, cells := 0, slots := 0, locals := 23 } : Room) (PC x S sz [.ref (x.2.2 (80)), .int a1, .int a2]) (QV x res sz) 0 0 (AA x sz) := by
  refine Met.ofW (cc := cX9_takes) (maxL := 4) (ret := none) (by decide) rfl ?_
  intro p e s m args below meth c s₁ B hml hv
  obtain ⟨rfl, rfl, hPW⟩ := hv
  have F : MF p m meth c cX9_takes 4 s _ RX9 none := MF.of B hml
  have w := WD.of hPW
  have hl := lv_entry ([.ref (x.2.2 (80)), .int a1, .int a2]) (n := 4) (Nat.le_of_ble_eq_true rfl)
  rw [lg_entry_eq]
  generalize (lg_sl ([.ref (x.2.2 (80)), .int a1, .int a2]) ++ List.replicate (4 - (lg_sl ([.ref (x.2.2 (80)), .int a1, .int a2])).length) Slot.unset).toArray = ls at hl ⊢
  have hl : lv_has ls 4 [(0, .ref (x.2.2 (80))), (1, .int a1), (2, .int a2)] := hl
  unfold f_X9_takes at hf
  exact b_X9_takes_0 F  _ _ _ _ w a1 a2 (lv_sub hl [0, 1, 2] rfl) hf
theorem cy_X9_add : CY yX9_add RX9 cX9_add 3 (some .int) 2 := ⟨q10, q909, rfl, by decide, by decide, by decide +kernel⟩
def f_X9_add_52 (S : ST) (a1 : Int32) (a2 : Int32) (as0 : Int32) : Option (Int32 × ST) := oB (f_X9_refused S as0) (fun (r2 : Int32) (S1 : ST) => (if r2 = 0 then oV (f_X9_saves S1) (fun (S4 : ST) => oV (f_X9_takes S4 a1 (-1)) (fun (S5 : ST) => oV (f_X9_comes S5 a2) (fun (S6 : ST) => oB (f_X9_becomes S6 a1) (fun (r8 : Int32) (S7 : ST) => oB (f_X9_numberOf S7 a1 a2) (fun (r10 : Int32) (S9 : ST) => some (r10, S9)))))) else some (0, S1)))
set_option maxHeartbeats 4000000 in
set_option maxRecDepth 100000 in
theorem b_X9_add_52 {p : Program} {l : Launch} {e : Env} {s : State} {m : MethodId} {args : Array Value} {below : List Frame} {meth : Method} {c : Code} {x : CX} {res : Int32 × ST} (F : MF p m meth c cX9_add 3 s args RX9 (some .int)) : ∀ (H : Heap) (locs : List Loc) (ls : Array Slot) (S : ST), WD x s S H locs → ∀ (a1 : Int32) (a2 : Int32) (as0 : Int32), lv_has ls 3 [(0, .ref (x.2.2 (80))), (1, .int a1), (2, .int a2)] → f_X9_add_52 S a1 a2 as0 = some res → W p l e ({ frames := 2, cells := 0, slots := 0, locals := 46 } : Room) s m args below meth c H locs 0 0 (MQ below (QI x res.2 res.1 s.heap.size) args s 0 0 (AA x s.heap.size)) (F0 m 52 ls [.int as0, .ref (x.2.2 (80))]) := by
  intro H locs ls S w a1 a2 as0 hl hf
  unfold f_X9_add_52 at hf
  obtain ⟨r2, S1, hc, hf⟩ := oi_b hf
  refine k_i0 (S' := S1) (r := r2) w (runV (As := [.int as0]) (rest := []) (kb := 80) F w (k_X9_refused l x S as0 hc H.size) cy_X9_refused q902 q904 qp19 ⟨rfl, rfl⟩ ⟨Nat.le_of_ble_eq_true rfl, Nat.le_of_ble_eq_true rfl⟩ (by decide) rfl rfl rfl rfl hl.1 (Nat.le_of_ble_eq_true rfl) ⟨Nat.le_of_ble_eq_true rfl, Nat.le_of_ble_eq_true rfl⟩ dX9_add_52) (fun H locs w => ?_)
  refine lv_if_eq (tgt := 60) F.1 F.2.1 dX9_add_55 (by decide) (fun c3 => ?_) (fun c3 => ?_)
  · replace hf := oi_t hf c3
    refine lv_aload_n F.1 F.2.1 dX9_add_60 rfl (lv_at hl 0 rfl) ?_
    obtain ⟨S4, hc, hf⟩ := oi_v hf
    refine k_v0 (S' := S4) w (runV (As := []) (rest := []) (kb := 80) F w (k_X9_saves l x S1 hc H.size) cy_X9_saves q928 q930 qp23 ⟨rfl, rfl⟩ ⟨Nat.le_of_ble_eq_true rfl, Nat.le_of_ble_eq_true rfl⟩ (by decide) rfl rfl rfl rfl hl.1 (Nat.le_of_ble_eq_true rfl) ⟨Nat.le_of_ble_eq_true rfl, Nat.le_of_ble_eq_true rfl⟩ dX9_add_61) (fun H locs w => ?_)
    refine lv_aload_n F.1 F.2.1 dX9_add_64 rfl (lv_at hl 0 rfl) ?_
    refine lv_iload_n F.1 F.2.1 dX9_add_65 rfl (lv_at hl 1 rfl) ?_
    refine lv_iconst (v := (-1)) F.1 F.2.1 dX9_add_66 (by decide) ?_
    obtain ⟨S5, hc, hf⟩ := oi_v hf
    refine k_v0 (S' := S5) w (runV (As := [.int a1, .int (-1)]) (rest := []) (kb := 80) F w (k_X9_takes l x S4 a1 (-1) hc H.size) cy_X9_takes q932 q934 qp24 ⟨rfl, rfl⟩ ⟨Nat.le_of_ble_eq_true rfl, Nat.le_of_ble_eq_true rfl⟩ (by decide) rfl rfl rfl rfl hl.1 (Nat.le_of_ble_eq_true rfl) ⟨Nat.le_of_ble_eq_true rfl, Nat.le_of_ble_eq_true rfl⟩ dX9_add_67) (fun H locs w => ?_)
    refine lv_aload_n F.1 F.2.1 dX9_add_70 rfl (lv_at hl 0 rfl) ?_
    refine lv_iload_n F.1 F.2.1 dX9_add_71 rfl (lv_at hl 2 rfl) ?_
    obtain ⟨S6, hc, hf⟩ := oi_v hf
    refine k_v0 (S' := S6) w (runV (As := [.int a2]) (rest := []) (kb := 80) F w (k_X9_comes l x S5 a2 hc H.size) cy_X9_comes q940 q942 qp26 ⟨rfl, rfl⟩ ⟨Nat.le_of_ble_eq_true rfl, Nat.le_of_ble_eq_true rfl⟩ (by decide) rfl rfl rfl rfl hl.1 (Nat.le_of_ble_eq_true rfl) ⟨Nat.le_of_ble_eq_true rfl, Nat.le_of_ble_eq_true rfl⟩ dX9_add_72) (fun H locs w => ?_)
    refine lv_aload_n F.1 F.2.1 dX9_add_75 rfl (lv_at hl 0 rfl) ?_
    refine lv_iload_n F.1 F.2.1 dX9_add_76 rfl (lv_at hl 1 rfl) ?_
    obtain ⟨r8, S7, hc, hf⟩ := oi_b hf
    refine k_i0 (S' := S7) (r := r8) w (runV (As := [.int a1]) (rest := []) (kb := 80) F w (k_X9_becomes l x S6 a1 hc H.size) cy_X9_becomes q944 q946 qp27 ⟨rfl, rfl⟩ ⟨Nat.le_of_ble_eq_true rfl, Nat.le_of_ble_eq_true rfl⟩ (by decide) rfl rfl rfl rfl hl.1 (Nat.le_of_ble_eq_true rfl) ⟨Nat.le_of_ble_eq_true rfl, Nat.le_of_ble_eq_true rfl⟩ dX9_add_77) (fun H locs w => ?_)
    refine lv_pop F.1 F.2.1 dX9_add_80 rfl ?_
    refine lv_aload_n F.1 F.2.1 dX9_add_81 rfl (lv_at hl 0 rfl) ?_
    refine lv_iload_n F.1 F.2.1 dX9_add_82 rfl (lv_at hl 1 rfl) ?_
    refine lv_iload_n F.1 F.2.1 dX9_add_83 rfl (lv_at hl 2 rfl) ?_
    obtain ⟨r10, S9, hc, hf⟩ := oi_b hf
    refine k_i0 (S' := S9) (r := r10) w (runV (As := [.int a1, .int a2]) (rest := []) (kb := 80) F w (k_X9_numberOf l x S7 a1 a2 hc H.size) cy_X9_numberOf q916 q918 qp20 ⟨rfl, rfl⟩ ⟨Nat.le_of_ble_eq_true rfl, Nat.le_of_ble_eq_true rfl⟩ (by decide) rfl rfl rfl rfl hl.1 (Nat.le_of_ble_eq_true rfl) ⟨Nat.le_of_ble_eq_true rfl, Nat.le_of_ble_eq_true rfl⟩ dX9_add_84) (fun H locs w => ?_)
    exact r_iret F w (oi_s hf) dX9_add_87
  · replace hf := oi_f hf c3
    refine lv_iconst (v := 0) F.1 F.2.1 dX9_add_58 (by decide) ?_
    exact r_iret F w (oi_s hf) dX9_add_59
def f_X9_add_47 (S : ST) (a1 : Int32) (a2 : Int32) : Option (Int32 × ST) := f_X9_add_52 S a1 a2 3
set_option maxHeartbeats 4000000 in
set_option maxRecDepth 100000 in
theorem b_X9_add_47 {p : Program} {l : Launch} {e : Env} {s : State} {m : MethodId} {args : Array Value} {below : List Frame} {meth : Method} {c : Code} {x : CX} {res : Int32 × ST} (F : MF p m meth c cX9_add 3 s args RX9 (some .int)) : ∀ (H : Heap) (locs : List Loc) (ls : Array Slot) (S : ST), WD x s S H locs → ∀ (a1 : Int32) (a2 : Int32), lv_has ls 3 [(0, .ref (x.2.2 (80))), (1, .int a1), (2, .int a2)] → f_X9_add_47 S a1 a2 = some res → W p l e ({ frames := 2, cells := 0, slots := 0, locals := 46 } : Room) s m args below meth c H locs 0 0 (MQ below (QI x res.2 res.1 s.heap.size) args s 0 0 (AA x s.heap.size)) (F0 m 47 ls [.ref (x.2.2 (80))]) := by
  intro H locs ls S w a1 a2 hl hf
  unfold f_X9_add_47 at hf
  refine lv_iconst (v := 3) F.1 F.2.1 dX9_add_47 (by decide) ?_
  refine lv_goto (tgt := 52) F.1 F.2.1 dX9_add_48 (by decide) ?_
  exact b_X9_add_52 F  _ _ _ _ w a1 a2 3 (lv_sub hl [0, 1, 2] rfl) hf
def f_X9_add_0 (S : ST) (a1 : Int32) (a2 : Int32) : Option (Int32 × ST) := oB (f_X9_isSet S a1) (fun (r2 : Int32) (S1 : ST) => (if r2 = 0 then f_X9_add_52 S1 a1 a2 1 else oB (f_X9_within S1 a2 0 2000) (fun (r5 : Int32) (S4 : ST) => (if r5 = 0 then f_X9_add_52 S4 a1 a2 2 else oB (f_X9_numberOf S4 a1 a2) (fun (r8 : Int32) (S7 : ST) => (if r8 = (-1) then oB (f_X9_many S7 a1) (fun (r11 : Int32) (S10 : ST) => (if r11 = 24 then f_X9_add_47 S10 a1 a2 else f_X9_add_52 S10 a1 a2 0)) else f_X9_add_47 S7 a1 a2))))))
set_option maxHeartbeats 4000000 in
set_option maxRecDepth 100000 in
theorem b_X9_add_0 {p : Program} {l : Launch} {e : Env} {s : State} {m : MethodId} {args : Array Value} {below : List Frame} {meth : Method} {c : Code} {x : CX} {res : Int32 × ST} (F : MF p m meth c cX9_add 3 s args RX9 (some .int)) : ∀ (H : Heap) (locs : List Loc) (ls : Array Slot) (S : ST), WD x s S H locs → ∀ (a1 : Int32) (a2 : Int32), lv_has ls 3 [(0, .ref (x.2.2 (80))), (1, .int a1), (2, .int a2)] → f_X9_add_0 S a1 a2 = some res → W p l e ({ frames := 2, cells := 0, slots := 0, locals := 46 } : Room) s m args below meth c H locs 0 0 (MQ below (QI x res.2 res.1 s.heap.size) args s 0 0 (AA x s.heap.size)) (F0 m 0 ls []) := by
  intro H locs ls S w a1 a2 hl hf
  unfold f_X9_add_0 at hf
  refine lv_aload_n F.1 F.2.1 dX9_add_0 rfl (lv_at hl 0 rfl) ?_
  refine lv_iload_n F.1 F.2.1 dX9_add_1 rfl (lv_at hl 1 rfl) ?_
  obtain ⟨r2, S1, hc, hf⟩ := oi_b hf
  refine k_i0 (S' := S1) (r := r2) w (runS (As := [.int a1]) (rest := [.ref (x.2.2 (80))]) F w (k_X9_isSet l x S a1 hc H.size) cy_X9_isSet q910 q911 ⟨rfl, rfl⟩ ⟨Nat.le_of_ble_eq_true rfl, Nat.le_of_ble_eq_true rfl⟩ rfl rfl hl.1 (Nat.le_of_ble_eq_true rfl) ⟨Nat.le_of_ble_eq_true rfl, Nat.le_of_ble_eq_true rfl⟩ dX9_add_2) (fun H locs w => ?_)
  refine lv_if_ne (tgt := 12) F.1 F.2.1 dX9_add_5 (by decide) (fun c3 => ?_) (fun c3 => ?_)
  · replace hf := oi_f hf c3
    refine lv_iload_n F.1 F.2.1 dX9_add_12 rfl (lv_at hl 2 rfl) ?_
    refine lv_iconst (v := 0) F.1 F.2.1 dX9_add_13 (by decide) ?_
    refine lv_sipush (v := 2000) F.1 F.2.1 dX9_add_14 (by decide) ?_
    obtain ⟨r5, S4, hc, hf⟩ := oi_b hf
    refine k_i0 (S' := S4) (r := r5) w (runS (As := [.int a2, .int 0, .int 2000]) (rest := [.ref (x.2.2 (80))]) F w (k_X9_within l x S1 a2 0 2000 hc H.size) cy_X9_within q913 q914 ⟨rfl, rfl⟩ ⟨Nat.le_of_ble_eq_true rfl, Nat.le_of_ble_eq_true rfl⟩ rfl rfl hl.1 (Nat.le_of_ble_eq_true rfl) ⟨Nat.le_of_ble_eq_true rfl, Nat.le_of_ble_eq_true rfl⟩ dX9_add_17) (fun H locs w => ?_)
    refine lv_if_ne (tgt := 27) F.1 F.2.1 dX9_add_20 (by decide) (fun c6 => ?_) (fun c6 => ?_)
    · replace hf := oi_f hf c6
      refine lv_aload_n F.1 F.2.1 dX9_add_27 rfl (lv_at hl 0 rfl) ?_
      refine lv_iload_n F.1 F.2.1 dX9_add_28 rfl (lv_at hl 1 rfl) ?_
      refine lv_iload_n F.1 F.2.1 dX9_add_29 rfl (lv_at hl 2 rfl) ?_
      obtain ⟨r8, S7, hc, hf⟩ := oi_b hf
      refine k_i0 (S' := S7) (r := r8) w (runV (As := [.int a1, .int a2]) (rest := [.ref (x.2.2 (80))]) (kb := 80) F w (k_X9_numberOf l x S4 a1 a2 hc H.size) cy_X9_numberOf q916 q918 qp20 ⟨rfl, rfl⟩ ⟨Nat.le_of_ble_eq_true rfl, Nat.le_of_ble_eq_true rfl⟩ (by decide) rfl rfl rfl rfl hl.1 (Nat.le_of_ble_eq_true rfl) ⟨Nat.le_of_ble_eq_true rfl, Nat.le_of_ble_eq_true rfl⟩ dX9_add_30) (fun H locs w => ?_)
      refine lv_iconst (v := (-1)) F.1 F.2.1 dX9_add_33 (by decide) ?_
      refine lv_icmp_ne (tgt := 47) F.1 F.2.1 dX9_add_34 (by decide) (fun c9 => ?_) (fun c9 => ?_)
      · replace hf := oi_f hf c9
        exact b_X9_add_47 F  _ _ _ _ w a1 a2 (lv_sub hl [0, 1, 2] rfl) hf
      · replace hf := oi_t hf c9
        refine lv_aload_n F.1 F.2.1 dX9_add_37 rfl (lv_at hl 0 rfl) ?_
        refine lv_iload_n F.1 F.2.1 dX9_add_38 rfl (lv_at hl 1 rfl) ?_
        obtain ⟨r11, S10, hc, hf⟩ := oi_b hf
        refine k_i0 (S' := S10) (r := r11) w (runV (As := [.int a1]) (rest := [.ref (x.2.2 (80))]) (kb := 80) F w (k_X9_many l x S7 a1 hc H.size) cy_X9_many q920 q922 qp21 ⟨rfl, rfl⟩ ⟨Nat.le_of_ble_eq_true rfl, Nat.le_of_ble_eq_true rfl⟩ (by decide) rfl rfl rfl rfl hl.1 (Nat.le_of_ble_eq_true rfl) ⟨Nat.le_of_ble_eq_true rfl, Nat.le_of_ble_eq_true rfl⟩ dX9_add_39) (fun H locs w => ?_)
        refine lv_bipush (v := 24) F.1 F.2.1 dX9_add_42 (by decide) ?_
        refine lv_icmp_ne (tgt := 51) F.1 F.2.1 dX9_add_44 (by decide) (fun c12 => ?_) (fun c12 => ?_)
        · replace hf := oi_f hf c12
          refine lv_iconst (v := 0) F.1 F.2.1 dX9_add_51 (by decide) ?_
          exact b_X9_add_52 F  _ _ _ _ w a1 a2 0 (lv_sub hl [0, 1, 2] rfl) hf
        · replace hf := oi_t hf c12
          exact b_X9_add_47 F  _ _ _ _ w a1 a2 (lv_sub hl [0, 1, 2] rfl) hf
    · replace hf := oi_t hf c6
      refine lv_iconst (v := 2) F.1 F.2.1 dX9_add_23 (by decide) ?_
      refine lv_goto (tgt := 52) F.1 F.2.1 dX9_add_24 (by decide) ?_
      exact b_X9_add_52 F  _ _ _ _ w a1 a2 2 (lv_sub hl [0, 1, 2] rfl) hf
  · replace hf := oi_t hf c3
    refine lv_iconst (v := 1) F.1 F.2.1 dX9_add_8 (by decide) ?_
    refine lv_goto (tgt := 52) F.1 F.2.1 dX9_add_9 (by decide) ?_
    exact b_X9_add_52 F  _ _ _ _ w a1 a2 1 (lv_sub hl [0, 1, 2] rfl) hf
def f_X9_add (S : ST) (a1 : Int32) (a2 : Int32) : Option (Int32 × ST) := f_X9_add_0 S a1 a2
set_option maxHeartbeats 4000000 in
set_option maxRecDepth 100000 in
theorem k_X9_add (l : Launch) (x : CX) (S : ST) (a1 : Int32) (a2 : Int32) {res : Int32 × ST} (hf : f_X9_add S a1 a2 = some res) (sz : Nat) : Met l yX9_add (Cond.code yX9_add cX9_add 3 (some .int) :: GW) ({ frames := 2, cells := 0, slots := 0, locals := 46 } : Room) (PC x S sz [.ref (x.2.2 (80)), .int a1, .int a2]) (QI x res.2 res.1 sz) 0 0 (AA x sz) := by
  refine Met.ofW (cc := cX9_add) (maxL := 3) (ret := (some .int)) (by decide) rfl ?_
  intro p e s m args below meth c s₁ B hml hv
  obtain ⟨rfl, rfl, hPW⟩ := hv
  have F : MF p m meth c cX9_add 3 s _ RX9 (some .int) := MF.of B hml
  have w := WD.of hPW
  have hl := lv_entry ([.ref (x.2.2 (80)), .int a1, .int a2]) (n := 3) (Nat.le_of_ble_eq_true rfl)
  rw [lg_entry_eq]
  generalize (lg_sl ([.ref (x.2.2 (80)), .int a1, .int a2]) ++ List.replicate (3 - (lg_sl ([.ref (x.2.2 (80)), .int a1, .int a2])).length) Slot.unset).toArray = ls at hl ⊢
  have hl : lv_has ls 3 [(0, .ref (x.2.2 (80))), (1, .int a1), (2, .int a2)] := hl
  unfold f_X9_add at hf
  exact b_X9_add_0 F  _ _ _ _ w a1 a2 (lv_sub hl [0, 1, 2] rfl) hf
theorem cy_X9_remove : CY yX9_remove RX9 cX9_remove 3 (some .int) 2 := ⟨q10, q951, rfl, by decide, by decide, by decide +kernel⟩
def f_X9_remove_27 (S : ST) (a1 : Int32) (a2 : Int32) (as0 : Int32) : Option (Int32 × ST) := oB (f_X9_refused S as0) (fun (r2 : Int32) (S1 : ST) => (if r2 = 0 then oV (f_X9_saves S1) (fun (S4 : ST) => oV (f_X9_takes S4 a1 a2) (fun (S5 : ST) => oB (f_X9_becomes S5 a1) (fun (r7 : Int32) (S6 : ST) => some (r7, S6)))) else some (0, S1)))
set_option maxHeartbeats 4000000 in
set_option maxRecDepth 100000 in
theorem b_X9_remove_27 {p : Program} {l : Launch} {e : Env} {s : State} {m : MethodId} {args : Array Value} {below : List Frame} {meth : Method} {c : Code} {x : CX} {res : Int32 × ST} (F : MF p m meth c cX9_remove 3 s args RX9 (some .int)) : ∀ (H : Heap) (locs : List Loc) (ls : Array Slot) (S : ST), WD x s S H locs → ∀ (a1 : Int32) (a2 : Int32) (as0 : Int32), lv_has ls 3 [(0, .ref (x.2.2 (80))), (1, .int a1), (2, .int a2)] → f_X9_remove_27 S a1 a2 as0 = some res → W p l e ({ frames := 2, cells := 0, slots := 0, locals := 46 } : Room) s m args below meth c H locs 0 0 (MQ below (QI x res.2 res.1 s.heap.size) args s 0 0 (AA x s.heap.size)) (F0 m 27 ls [.int as0, .ref (x.2.2 (80))]) := by
  intro H locs ls S w a1 a2 as0 hl hf
  unfold f_X9_remove_27 at hf
  obtain ⟨r2, S1, hc, hf⟩ := oi_b hf
  refine k_i0 (S' := S1) (r := r2) w (runV (As := [.int as0]) (rest := []) (kb := 80) F w (k_X9_refused l x S as0 hc H.size) cy_X9_refused q902 q904 qp19 ⟨rfl, rfl⟩ ⟨Nat.le_of_ble_eq_true rfl, Nat.le_of_ble_eq_true rfl⟩ (by decide) rfl rfl rfl rfl hl.1 (Nat.le_of_ble_eq_true rfl) ⟨Nat.le_of_ble_eq_true rfl, Nat.le_of_ble_eq_true rfl⟩ dX9_remove_27) (fun H locs w => ?_)
  refine lv_if_eq (tgt := 35) F.1 F.2.1 dX9_remove_30 (by decide) (fun c3 => ?_) (fun c3 => ?_)
  · replace hf := oi_t hf c3
    refine lv_aload_n F.1 F.2.1 dX9_remove_35 rfl (lv_at hl 0 rfl) ?_
    obtain ⟨S4, hc, hf⟩ := oi_v hf
    refine k_v0 (S' := S4) w (runV (As := []) (rest := []) (kb := 80) F w (k_X9_saves l x S1 hc H.size) cy_X9_saves q928 q930 qp23 ⟨rfl, rfl⟩ ⟨Nat.le_of_ble_eq_true rfl, Nat.le_of_ble_eq_true rfl⟩ (by decide) rfl rfl rfl rfl hl.1 (Nat.le_of_ble_eq_true rfl) ⟨Nat.le_of_ble_eq_true rfl, Nat.le_of_ble_eq_true rfl⟩ dX9_remove_36) (fun H locs w => ?_)
    refine lv_aload_n F.1 F.2.1 dX9_remove_39 rfl (lv_at hl 0 rfl) ?_
    refine lv_iload_n F.1 F.2.1 dX9_remove_40 rfl (lv_at hl 1 rfl) ?_
    refine lv_iload_n F.1 F.2.1 dX9_remove_41 rfl (lv_at hl 2 rfl) ?_
    obtain ⟨S5, hc, hf⟩ := oi_v hf
    refine k_v0 (S' := S5) w (runV (As := [.int a1, .int a2]) (rest := []) (kb := 80) F w (k_X9_takes l x S4 a1 a2 hc H.size) cy_X9_takes q932 q934 qp24 ⟨rfl, rfl⟩ ⟨Nat.le_of_ble_eq_true rfl, Nat.le_of_ble_eq_true rfl⟩ (by decide) rfl rfl rfl rfl hl.1 (Nat.le_of_ble_eq_true rfl) ⟨Nat.le_of_ble_eq_true rfl, Nat.le_of_ble_eq_true rfl⟩ dX9_remove_42) (fun H locs w => ?_)
    refine lv_aload_n F.1 F.2.1 dX9_remove_45 rfl (lv_at hl 0 rfl) ?_
    refine lv_iload_n F.1 F.2.1 dX9_remove_46 rfl (lv_at hl 1 rfl) ?_
    obtain ⟨r7, S6, hc, hf⟩ := oi_b hf
    refine k_i0 (S' := S6) (r := r7) w (runV (As := [.int a1]) (rest := []) (kb := 80) F w (k_X9_becomes l x S5 a1 hc H.size) cy_X9_becomes q944 q946 qp27 ⟨rfl, rfl⟩ ⟨Nat.le_of_ble_eq_true rfl, Nat.le_of_ble_eq_true rfl⟩ (by decide) rfl rfl rfl rfl hl.1 (Nat.le_of_ble_eq_true rfl) ⟨Nat.le_of_ble_eq_true rfl, Nat.le_of_ble_eq_true rfl⟩ dX9_remove_47) (fun H locs w => ?_)
    exact r_iret F w (oi_s hf) dX9_remove_50
  · replace hf := oi_f hf c3
    refine lv_iconst (v := 0) F.1 F.2.1 dX9_remove_33 (by decide) ?_
    exact r_iret F w (oi_s hf) dX9_remove_34
def f_X9_remove_0 (S : ST) (a1 : Int32) (a2 : Int32) : Option (Int32 × ST) := oB (f_X9_isSet S a1) (fun (r2 : Int32) (S1 : ST) => (if r2 = 0 then f_X9_remove_27 S1 a1 a2 1 else oB (f_X9_numberOf S1 a1 a2) (fun (r5 : Int32) (S4 : ST) => (if r5 = (-1) then f_X9_remove_27 S4 a1 a2 2 else f_X9_remove_27 S4 a1 a2 0))))
set_option maxHeartbeats 4000000 in
set_option maxRecDepth 100000 in
theorem b_X9_remove_0 {p : Program} {l : Launch} {e : Env} {s : State} {m : MethodId} {args : Array Value} {below : List Frame} {meth : Method} {c : Code} {x : CX} {res : Int32 × ST} (F : MF p m meth c cX9_remove 3 s args RX9 (some .int)) : ∀ (H : Heap) (locs : List Loc) (ls : Array Slot) (S : ST), WD x s S H locs → ∀ (a1 : Int32) (a2 : Int32), lv_has ls 3 [(0, .ref (x.2.2 (80))), (1, .int a1), (2, .int a2)] → f_X9_remove_0 S a1 a2 = some res → W p l e ({ frames := 2, cells := 0, slots := 0, locals := 46 } : Room) s m args below meth c H locs 0 0 (MQ below (QI x res.2 res.1 s.heap.size) args s 0 0 (AA x s.heap.size)) (F0 m 0 ls []) := by
  intro H locs ls S w a1 a2 hl hf
  unfold f_X9_remove_0 at hf
  refine lv_aload_n F.1 F.2.1 dX9_remove_0 rfl (lv_at hl 0 rfl) ?_
  refine lv_iload_n F.1 F.2.1 dX9_remove_1 rfl (lv_at hl 1 rfl) ?_
  obtain ⟨r2, S1, hc, hf⟩ := oi_b hf
  refine k_i0 (S' := S1) (r := r2) w (runS (As := [.int a1]) (rest := [.ref (x.2.2 (80))]) F w (k_X9_isSet l x S a1 hc H.size) cy_X9_isSet q910 q911 ⟨rfl, rfl⟩ ⟨Nat.le_of_ble_eq_true rfl, Nat.le_of_ble_eq_true rfl⟩ rfl rfl hl.1 (Nat.le_of_ble_eq_true rfl) ⟨Nat.le_of_ble_eq_true rfl, Nat.le_of_ble_eq_true rfl⟩ dX9_remove_2) (fun H locs w => ?_)
  refine lv_if_ne (tgt := 12) F.1 F.2.1 dX9_remove_5 (by decide) (fun c3 => ?_) (fun c3 => ?_)
  · replace hf := oi_f hf c3
    refine lv_aload_n F.1 F.2.1 dX9_remove_12 rfl (lv_at hl 0 rfl) ?_
    refine lv_iload_n F.1 F.2.1 dX9_remove_13 rfl (lv_at hl 1 rfl) ?_
    refine lv_iload_n F.1 F.2.1 dX9_remove_14 rfl (lv_at hl 2 rfl) ?_
    obtain ⟨r5, S4, hc, hf⟩ := oi_b hf
    refine k_i0 (S' := S4) (r := r5) w (runV (As := [.int a1, .int a2]) (rest := [.ref (x.2.2 (80))]) (kb := 80) F w (k_X9_numberOf l x S1 a1 a2 hc H.size) cy_X9_numberOf q916 q918 qp20 ⟨rfl, rfl⟩ ⟨Nat.le_of_ble_eq_true rfl, Nat.le_of_ble_eq_true rfl⟩ (by decide) rfl rfl rfl rfl hl.1 (Nat.le_of_ble_eq_true rfl) ⟨Nat.le_of_ble_eq_true rfl, Nat.le_of_ble_eq_true rfl⟩ dX9_remove_15) (fun H locs w => ?_)
    refine lv_iconst (v := (-1)) F.1 F.2.1 dX9_remove_18 (by decide) ?_
    refine lv_icmp_ne (tgt := 26) F.1 F.2.1 dX9_remove_19 (by decide) (fun c6 => ?_) (fun c6 => ?_)
    · replace hf := oi_f hf c6
      refine lv_iconst (v := 0) F.1 F.2.1 dX9_remove_26 (by decide) ?_
      exact b_X9_remove_27 F  _ _ _ _ w a1 a2 0 (lv_sub hl [0, 1, 2] rfl) hf
    · replace hf := oi_t hf c6
      refine lv_iconst (v := 2) F.1 F.2.1 dX9_remove_22 (by decide) ?_
      refine lv_goto (tgt := 27) F.1 F.2.1 dX9_remove_23 (by decide) ?_
      exact b_X9_remove_27 F  _ _ _ _ w a1 a2 2 (lv_sub hl [0, 1, 2] rfl) hf
  · replace hf := oi_t hf c3
    refine lv_iconst (v := 1) F.1 F.2.1 dX9_remove_8 (by decide) ?_
    refine lv_goto (tgt := 27) F.1 F.2.1 dX9_remove_9 (by decide) ?_
    exact b_X9_remove_27 F  _ _ _ _ w a1 a2 1 (lv_sub hl [0, 1, 2] rfl) hf
def f_X9_remove (S : ST) (a1 : Int32) (a2 : Int32) : Option (Int32 × ST) := f_X9_remove_0 S a1 a2
set_option maxHeartbeats 4000000 in
set_option maxRecDepth 100000 in
theorem k_X9_remove (l : Launch) (x : CX) (S : ST) (a1 : Int32) (a2 : Int32) {res : Int32 × ST} (hf : f_X9_remove S a1 a2 = some res) (sz : Nat) : Met l yX9_remove (Cond.code yX9_remove cX9_remove 3 (some .int) :: GW) ({ frames := 2, cells := 0, slots := 0, locals := 46 } : Room) (PC x S sz [.ref (x.2.2 (80)), .int a1, .int a2]) (QI x res.2 res.1 sz) 0 0 (AA x sz) := by
  refine Met.ofW (cc := cX9_remove) (maxL := 3) (ret := (some .int)) (by decide) rfl ?_
  intro p e s m args below meth c s₁ B hml hv
  obtain ⟨rfl, rfl, hPW⟩ := hv
  have F : MF p m meth c cX9_remove 3 s _ RX9 (some .int) := MF.of B hml
  have w := WD.of hPW
  have hl := lv_entry ([.ref (x.2.2 (80)), .int a1, .int a2]) (n := 3) (Nat.le_of_ble_eq_true rfl)
  rw [lg_entry_eq]
  generalize (lg_sl ([.ref (x.2.2 (80)), .int a1, .int a2]) ++ List.replicate (3 - (lg_sl ([.ref (x.2.2 (80)), .int a1, .int a2])).length) Slot.unset).toArray = ls at hl ⊢
  have hl : lv_has ls 3 [(0, .ref (x.2.2 (80))), (1, .int a1), (2, .int a2)] := hl
  unfold f_X9_remove at hf
  exact b_X9_remove_0 F  _ _ _ _ w a1 a2 (lv_sub hl [0, 1, 2] rfl) hf
theorem cy_X9_clear : CY yX9_clear RX9 cX9_clear 3 (some .int) 1 := ⟨q10, q955, rfl, by decide, by decide, by decide +kernel⟩
def f_X9_clear_13 (S : ST) (a1 : Int32) (as0 : Int32) : Option (Int32 × ST) := oB (f_X9_refused S as0) (fun (r2 : Int32) (S1 : ST) => (if r2 = 0 then oV (f_X9_saves S1) (fun (S4 : ST) => oB (f_X9_many S4 a1) (fun (r6 : Int32) (S5 : ST) => oV (f_X9_begins S5) (fun (S7 : ST) => oB (f_X9_becomes S7 a1) (fun (r9 : Int32) (S8 : ST) => some (r6, S8))))) else some (0, S1)))
set_option maxHeartbeats 4000000 in
set_option maxRecDepth 100000 in
theorem b_X9_clear_13 {p : Program} {l : Launch} {e : Env} {s : State} {m : MethodId} {args : Array Value} {below : List Frame} {meth : Method} {c : Code} {x : CX} {res : Int32 × ST} (F : MF p m meth c cX9_clear 3 s args RX9 (some .int)) : ∀ (H : Heap) (locs : List Loc) (ls : Array Slot) (S : ST), WD x s S H locs → ∀ (a1 : Int32) (as0 : Int32), lv_has ls 3 [(0, .ref (x.2.2 (80))), (1, .int a1)] → f_X9_clear_13 S a1 as0 = some res → W p l e ({ frames := 2, cells := 0, slots := 0, locals := 42 } : Room) s m args below meth c H locs 0 0 (MQ below (QI x res.2 res.1 s.heap.size) args s 0 0 (AA x s.heap.size)) (F0 m 13 ls [.int as0, .ref (x.2.2 (80))]) := by
  intro H locs ls S w a1 as0 hl hf
  unfold f_X9_clear_13 at hf
  obtain ⟨r2, S1, hc, hf⟩ := oi_b hf
  refine k_i0 (S' := S1) (r := r2) w (runV (As := [.int as0]) (rest := []) (kb := 80) F w (k_X9_refused l x S as0 hc H.size) cy_X9_refused q902 q904 qp19 ⟨rfl, rfl⟩ ⟨Nat.le_of_ble_eq_true rfl, Nat.le_of_ble_eq_true rfl⟩ (by decide) rfl rfl rfl rfl hl.1 (Nat.le_of_ble_eq_true rfl) ⟨Nat.le_of_ble_eq_true rfl, Nat.le_of_ble_eq_true rfl⟩ dX9_clear_13) (fun H locs w => ?_)
  refine lv_if_eq (tgt := 21) F.1 F.2.1 dX9_clear_16 (by decide) (fun c3 => ?_) (fun c3 => ?_)
  · replace hf := oi_t hf c3
    refine lv_aload_n F.1 F.2.1 dX9_clear_21 rfl (lv_at hl 0 rfl) ?_
    obtain ⟨S4, hc, hf⟩ := oi_v hf
    refine k_v0 (S' := S4) w (runV (As := []) (rest := []) (kb := 80) F w (k_X9_saves l x S1 hc H.size) cy_X9_saves q928 q930 qp23 ⟨rfl, rfl⟩ ⟨Nat.le_of_ble_eq_true rfl, Nat.le_of_ble_eq_true rfl⟩ (by decide) rfl rfl rfl rfl hl.1 (Nat.le_of_ble_eq_true rfl) ⟨Nat.le_of_ble_eq_true rfl, Nat.le_of_ble_eq_true rfl⟩ dX9_clear_22) (fun H locs w => ?_)
    refine lv_aload_n F.1 F.2.1 dX9_clear_25 rfl (lv_at hl 0 rfl) ?_
    refine lv_iload_n F.1 F.2.1 dX9_clear_26 rfl (lv_at hl 1 rfl) ?_
    obtain ⟨r6, S5, hc, hf⟩ := oi_b hf
    refine k_i0 (S' := S5) (r := r6) w (runV (As := [.int a1]) (rest := []) (kb := 80) F w (k_X9_many l x S4 a1 hc H.size) cy_X9_many q920 q922 qp21 ⟨rfl, rfl⟩ ⟨Nat.le_of_ble_eq_true rfl, Nat.le_of_ble_eq_true rfl⟩ (by decide) rfl rfl rfl rfl hl.1 (Nat.le_of_ble_eq_true rfl) ⟨Nat.le_of_ble_eq_true rfl, Nat.le_of_ble_eq_true rfl⟩ dX9_clear_27) (fun H locs w => ?_)
    refine lv_istore_n (lv' := [(2, .int r6), (0, .ref (x.2.2 (80))), (1, .int a1)]) F.1 F.2.1 dX9_clear_30 rfl hl (by decide) rfl (fun ls hl => ?_)
    refine lv_aload_n F.1 F.2.1 dX9_clear_31 rfl (lv_at hl 1 rfl) ?_
    obtain ⟨S7, hc, hf⟩ := oi_v hf
    refine k_v0 (S' := S7) w (runV (As := []) (rest := []) (kb := 80) F w (k_X9_begins l x S5 hc H.size) cy_X9_begins q936 q938 qp25 ⟨rfl, rfl⟩ ⟨Nat.le_of_ble_eq_true rfl, Nat.le_of_ble_eq_true rfl⟩ (by decide) rfl rfl rfl rfl hl.1 (Nat.le_of_ble_eq_true rfl) ⟨Nat.le_of_ble_eq_true rfl, Nat.le_of_ble_eq_true rfl⟩ dX9_clear_32) (fun H locs w => ?_)
    refine lv_aload_n F.1 F.2.1 dX9_clear_35 rfl (lv_at hl 1 rfl) ?_
    refine lv_iload_n F.1 F.2.1 dX9_clear_36 rfl (lv_at hl 2 rfl) ?_
    obtain ⟨r9, S8, hc, hf⟩ := oi_b hf
    refine k_i0 (S' := S8) (r := r9) w (runV (As := [.int a1]) (rest := []) (kb := 80) F w (k_X9_becomes l x S7 a1 hc H.size) cy_X9_becomes q944 q946 qp27 ⟨rfl, rfl⟩ ⟨Nat.le_of_ble_eq_true rfl, Nat.le_of_ble_eq_true rfl⟩ (by decide) rfl rfl rfl rfl hl.1 (Nat.le_of_ble_eq_true rfl) ⟨Nat.le_of_ble_eq_true rfl, Nat.le_of_ble_eq_true rfl⟩ dX9_clear_37) (fun H locs w => ?_)
    refine lv_pop F.1 F.2.1 dX9_clear_40 rfl ?_
    refine lv_iload_n F.1 F.2.1 dX9_clear_41 rfl (lv_at hl 0 rfl) ?_
    exact r_iret F w (oi_s hf) dX9_clear_42
  · replace hf := oi_f hf c3
    refine lv_iconst (v := 0) F.1 F.2.1 dX9_clear_19 (by decide) ?_
    exact r_iret F w (oi_s hf) dX9_clear_20
def f_X9_clear_0 (S : ST) (a1 : Int32) : Option (Int32 × ST) := oB (f_X9_isSet S a1) (fun (r2 : Int32) (S1 : ST) => (if r2 = 0 then f_X9_clear_13 S1 a1 1 else f_X9_clear_13 S1 a1 0))
set_option maxHeartbeats 4000000 in
set_option maxRecDepth 100000 in
theorem b_X9_clear_0 {p : Program} {l : Launch} {e : Env} {s : State} {m : MethodId} {args : Array Value} {below : List Frame} {meth : Method} {c : Code} {x : CX} {res : Int32 × ST} (F : MF p m meth c cX9_clear 3 s args RX9 (some .int)) : ∀ (H : Heap) (locs : List Loc) (ls : Array Slot) (S : ST), WD x s S H locs → ∀ (a1 : Int32), lv_has ls 3 [(0, .ref (x.2.2 (80))), (1, .int a1)] → f_X9_clear_0 S a1 = some res → W p l e ({ frames := 2, cells := 0, slots := 0, locals := 42 } : Room) s m args below meth c H locs 0 0 (MQ below (QI x res.2 res.1 s.heap.size) args s 0 0 (AA x s.heap.size)) (F0 m 0 ls []) := by
  intro H locs ls S w a1 hl hf
  unfold f_X9_clear_0 at hf
  refine lv_aload_n F.1 F.2.1 dX9_clear_0 rfl (lv_at hl 0 rfl) ?_
  refine lv_iload_n F.1 F.2.1 dX9_clear_1 rfl (lv_at hl 1 rfl) ?_
  obtain ⟨r2, S1, hc, hf⟩ := oi_b hf
  refine k_i0 (S' := S1) (r := r2) w (runS (As := [.int a1]) (rest := [.ref (x.2.2 (80))]) F w (k_X9_isSet l x S a1 hc H.size) cy_X9_isSet q910 q911 ⟨rfl, rfl⟩ ⟨Nat.le_of_ble_eq_true rfl, Nat.le_of_ble_eq_true rfl⟩ rfl rfl hl.1 (Nat.le_of_ble_eq_true rfl) ⟨Nat.le_of_ble_eq_true rfl, Nat.le_of_ble_eq_true rfl⟩ dX9_clear_2) (fun H locs w => ?_)
  refine lv_if_eq (tgt := 12) F.1 F.2.1 dX9_clear_5 (by decide) (fun c3 => ?_) (fun c3 => ?_)
  · replace hf := oi_t hf c3
    refine lv_iconst (v := 1) F.1 F.2.1 dX9_clear_12 (by decide) ?_
    exact b_X9_clear_13 F  _ _ _ _ w a1 1 (lv_sub hl [0, 1] rfl) hf
  · replace hf := oi_f hf c3
    refine lv_iconst (v := 0) F.1 F.2.1 dX9_clear_8 (by decide) ?_
    refine lv_goto (tgt := 13) F.1 F.2.1 dX9_clear_9 (by decide) ?_
    exact b_X9_clear_13 F  _ _ _ _ w a1 0 (lv_sub hl [0, 1] rfl) hf
def f_X9_clear (S : ST) (a1 : Int32) : Option (Int32 × ST) := f_X9_clear_0 S a1
set_option maxHeartbeats 4000000 in
set_option maxRecDepth 100000 in
theorem k_X9_clear (l : Launch) (x : CX) (S : ST) (a1 : Int32) {res : Int32 × ST} (hf : f_X9_clear S a1 = some res) (sz : Nat) : Met l yX9_clear (Cond.code yX9_clear cX9_clear 3 (some .int) :: GW) ({ frames := 2, cells := 0, slots := 0, locals := 42 } : Room) (PC x S sz [.ref (x.2.2 (80)), .int a1]) (QI x res.2 res.1 sz) 0 0 (AA x sz) := by
  refine Met.ofW (cc := cX9_clear) (maxL := 3) (ret := (some .int)) (by decide) rfl ?_
  intro p e s m args below meth c s₁ B hml hv
  obtain ⟨rfl, rfl, hPW⟩ := hv
  have F : MF p m meth c cX9_clear 3 s _ RX9 (some .int) := MF.of B hml
  have w := WD.of hPW
  have hl := lv_entry ([.ref (x.2.2 (80)), .int a1]) (n := 3) (Nat.le_of_ble_eq_true rfl)
  rw [lg_entry_eq]
  generalize (lg_sl ([.ref (x.2.2 (80)), .int a1]) ++ List.replicate (3 - (lg_sl ([.ref (x.2.2 (80)), .int a1])).length) Slot.unset).toArray = ls at hl ⊢
  have hl : lv_has ls 3 [(0, .ref (x.2.2 (80))), (1, .int a1)] := hl
  unfold f_X9_clear at hf
  exact b_X9_clear_0 F  _ _ _ _ w a1 (lv_sub hl [0, 1] rfl) hf
theorem cy_X9_copy : CY yX9_copy RX9 cX9_copy 3 (some .int) 2 := ⟨q10, q959, rfl, by decide, by decide, by decide +kernel⟩
def f_X9_copy_20 (S : ST) (a1 : Int32) (a2 : Int32) (as0 : Int32) : Option (Int32 × ST) := oB (f_X9_refused S as0) (fun (r2 : Int32) (S1 : ST) => (if r2 = 0 then oV (f_X9_saves S1) (fun (S4 : ST) => oV (f_X9_takes S4 a1 (-1)) (fun (S5 : ST) => oB (f_X9_becomes S5 a2) (fun (r7 : Int32) (S6 : ST) => some (r7, S6)))) else some (0, S1)))
set_option maxHeartbeats 4000000 in
set_option maxRecDepth 100000 in
theorem b_X9_copy_20 {p : Program} {l : Launch} {e : Env} {s : State} {m : MethodId} {args : Array Value} {below : List Frame} {meth : Method} {c : Code} {x : CX} {res : Int32 × ST} (F : MF p m meth c cX9_copy 3 s args RX9 (some .int)) : ∀ (H : Heap) (locs : List Loc) (ls : Array Slot) (S : ST), WD x s S H locs → ∀ (a1 : Int32) (a2 : Int32) (as0 : Int32), lv_has ls 3 [(0, .ref (x.2.2 (80))), (1, .int a1), (2, .int a2)] → f_X9_copy_20 S a1 a2 as0 = some res → W p l e ({ frames := 2, cells := 0, slots := 0, locals := 46 } : Room) s m args below meth c H locs 0 0 (MQ below (QI x res.2 res.1 s.heap.size) args s 0 0 (AA x s.heap.size)) (F0 m 20 ls [.int as0, .ref (x.2.2 (80))]) := by
  intro H locs ls S w a1 a2 as0 hl hf
  unfold f_X9_copy_20 at hf
  obtain ⟨r2, S1, hc, hf⟩ := oi_b hf
  refine k_i0 (S' := S1) (r := r2) w (runV (As := [.int as0]) (rest := []) (kb := 80) F w (k_X9_refused l x S as0 hc H.size) cy_X9_refused q902 q904 qp19 ⟨rfl, rfl⟩ ⟨Nat.le_of_ble_eq_true rfl, Nat.le_of_ble_eq_true rfl⟩ (by decide) rfl rfl rfl rfl hl.1 (Nat.le_of_ble_eq_true rfl) ⟨Nat.le_of_ble_eq_true rfl, Nat.le_of_ble_eq_true rfl⟩ dX9_copy_20) (fun H locs w => ?_)
  refine lv_if_eq (tgt := 28) F.1 F.2.1 dX9_copy_23 (by decide) (fun c3 => ?_) (fun c3 => ?_)
  · replace hf := oi_t hf c3
    refine lv_aload_n F.1 F.2.1 dX9_copy_28 rfl (lv_at hl 0 rfl) ?_
    obtain ⟨S4, hc, hf⟩ := oi_v hf
    refine k_v0 (S' := S4) w (runV (As := []) (rest := []) (kb := 80) F w (k_X9_saves l x S1 hc H.size) cy_X9_saves q928 q930 qp23 ⟨rfl, rfl⟩ ⟨Nat.le_of_ble_eq_true rfl, Nat.le_of_ble_eq_true rfl⟩ (by decide) rfl rfl rfl rfl hl.1 (Nat.le_of_ble_eq_true rfl) ⟨Nat.le_of_ble_eq_true rfl, Nat.le_of_ble_eq_true rfl⟩ dX9_copy_29) (fun H locs w => ?_)
    refine lv_aload_n F.1 F.2.1 dX9_copy_32 rfl (lv_at hl 0 rfl) ?_
    refine lv_iload_n F.1 F.2.1 dX9_copy_33 rfl (lv_at hl 1 rfl) ?_
    refine lv_iconst (v := (-1)) F.1 F.2.1 dX9_copy_34 (by decide) ?_
    obtain ⟨S5, hc, hf⟩ := oi_v hf
    refine k_v0 (S' := S5) w (runV (As := [.int a1, .int (-1)]) (rest := []) (kb := 80) F w (k_X9_takes l x S4 a1 (-1) hc H.size) cy_X9_takes q932 q934 qp24 ⟨rfl, rfl⟩ ⟨Nat.le_of_ble_eq_true rfl, Nat.le_of_ble_eq_true rfl⟩ (by decide) rfl rfl rfl rfl hl.1 (Nat.le_of_ble_eq_true rfl) ⟨Nat.le_of_ble_eq_true rfl, Nat.le_of_ble_eq_true rfl⟩ dX9_copy_35) (fun H locs w => ?_)
    refine lv_aload_n F.1 F.2.1 dX9_copy_38 rfl (lv_at hl 0 rfl) ?_
    refine lv_iload_n F.1 F.2.1 dX9_copy_39 rfl (lv_at hl 2 rfl) ?_
    obtain ⟨r7, S6, hc, hf⟩ := oi_b hf
    refine k_i0 (S' := S6) (r := r7) w (runV (As := [.int a2]) (rest := []) (kb := 80) F w (k_X9_becomes l x S5 a2 hc H.size) cy_X9_becomes q944 q946 qp27 ⟨rfl, rfl⟩ ⟨Nat.le_of_ble_eq_true rfl, Nat.le_of_ble_eq_true rfl⟩ (by decide) rfl rfl rfl rfl hl.1 (Nat.le_of_ble_eq_true rfl) ⟨Nat.le_of_ble_eq_true rfl, Nat.le_of_ble_eq_true rfl⟩ dX9_copy_40) (fun H locs w => ?_)
    exact r_iret F w (oi_s hf) dX9_copy_43
  · replace hf := oi_f hf c3
    refine lv_iconst (v := 0) F.1 F.2.1 dX9_copy_26 (by decide) ?_
    exact r_iret F w (oi_s hf) dX9_copy_27
def f_X9_copy_19 (S : ST) (a1 : Int32) (a2 : Int32) : Option (Int32 × ST) := f_X9_copy_20 S a1 a2 1
set_option maxHeartbeats 4000000 in
set_option maxRecDepth 100000 in
theorem b_X9_copy_19 {p : Program} {l : Launch} {e : Env} {s : State} {m : MethodId} {args : Array Value} {below : List Frame} {meth : Method} {c : Code} {x : CX} {res : Int32 × ST} (F : MF p m meth c cX9_copy 3 s args RX9 (some .int)) : ∀ (H : Heap) (locs : List Loc) (ls : Array Slot) (S : ST), WD x s S H locs → ∀ (a1 : Int32) (a2 : Int32), lv_has ls 3 [(0, .ref (x.2.2 (80))), (1, .int a1), (2, .int a2)] → f_X9_copy_19 S a1 a2 = some res → W p l e ({ frames := 2, cells := 0, slots := 0, locals := 46 } : Room) s m args below meth c H locs 0 0 (MQ below (QI x res.2 res.1 s.heap.size) args s 0 0 (AA x s.heap.size)) (F0 m 19 ls [.ref (x.2.2 (80))]) := by
  intro H locs ls S w a1 a2 hl hf
  unfold f_X9_copy_19 at hf
  refine lv_iconst (v := 1) F.1 F.2.1 dX9_copy_19 (by decide) ?_
  exact b_X9_copy_20 F  _ _ _ _ w a1 a2 1 (lv_sub hl [0, 1, 2] rfl) hf
def f_X9_copy_0 (S : ST) (a1 : Int32) (a2 : Int32) : Option (Int32 × ST) := oB (f_X9_isSet S a1) (fun (r2 : Int32) (S1 : ST) => (if r2 = 0 then f_X9_copy_19 S1 a1 a2 else oB (f_X9_isSet S1 a2) (fun (r5 : Int32) (S4 : ST) => (if r5 = 0 then f_X9_copy_19 S4 a1 a2 else f_X9_copy_20 S4 a1 a2 0))))
set_option maxHeartbeats 4000000 in
set_option maxRecDepth 100000 in
theorem b_X9_copy_0 {p : Program} {l : Launch} {e : Env} {s : State} {m : MethodId} {args : Array Value} {below : List Frame} {meth : Method} {c : Code} {x : CX} {res : Int32 × ST} (F : MF p m meth c cX9_copy 3 s args RX9 (some .int)) : ∀ (H : Heap) (locs : List Loc) (ls : Array Slot) (S : ST), WD x s S H locs → ∀ (a1 : Int32) (a2 : Int32), lv_has ls 3 [(0, .ref (x.2.2 (80))), (1, .int a1), (2, .int a2)] → f_X9_copy_0 S a1 a2 = some res → W p l e ({ frames := 2, cells := 0, slots := 0, locals := 46 } : Room) s m args below meth c H locs 0 0 (MQ below (QI x res.2 res.1 s.heap.size) args s 0 0 (AA x s.heap.size)) (F0 m 0 ls []) := by
  intro H locs ls S w a1 a2 hl hf
  unfold f_X9_copy_0 at hf
  refine lv_aload_n F.1 F.2.1 dX9_copy_0 rfl (lv_at hl 0 rfl) ?_
  refine lv_iload_n F.1 F.2.1 dX9_copy_1 rfl (lv_at hl 1 rfl) ?_
  obtain ⟨r2, S1, hc, hf⟩ := oi_b hf
  refine k_i0 (S' := S1) (r := r2) w (runS (As := [.int a1]) (rest := [.ref (x.2.2 (80))]) F w (k_X9_isSet l x S a1 hc H.size) cy_X9_isSet q910 q911 ⟨rfl, rfl⟩ ⟨Nat.le_of_ble_eq_true rfl, Nat.le_of_ble_eq_true rfl⟩ rfl rfl hl.1 (Nat.le_of_ble_eq_true rfl) ⟨Nat.le_of_ble_eq_true rfl, Nat.le_of_ble_eq_true rfl⟩ dX9_copy_2) (fun H locs w => ?_)
  refine lv_if_eq (tgt := 19) F.1 F.2.1 dX9_copy_5 (by decide) (fun c3 => ?_) (fun c3 => ?_)
  · replace hf := oi_t hf c3
    exact b_X9_copy_19 F  _ _ _ _ w a1 a2 (lv_sub hl [0, 1, 2] rfl) hf
  · replace hf := oi_f hf c3
    refine lv_iload_n F.1 F.2.1 dX9_copy_8 rfl (lv_at hl 2 rfl) ?_
    obtain ⟨r5, S4, hc, hf⟩ := oi_b hf
    refine k_i0 (S' := S4) (r := r5) w (runS (As := [.int a2]) (rest := [.ref (x.2.2 (80))]) F w (k_X9_isSet l x S1 a2 hc H.size) cy_X9_isSet q910 q911 ⟨rfl, rfl⟩ ⟨Nat.le_of_ble_eq_true rfl, Nat.le_of_ble_eq_true rfl⟩ rfl rfl hl.1 (Nat.le_of_ble_eq_true rfl) ⟨Nat.le_of_ble_eq_true rfl, Nat.le_of_ble_eq_true rfl⟩ dX9_copy_9) (fun H locs w => ?_)
    refine lv_if_eq (tgt := 19) F.1 F.2.1 dX9_copy_12 (by decide) (fun c6 => ?_) (fun c6 => ?_)
    · replace hf := oi_t hf c6
      exact b_X9_copy_19 F  _ _ _ _ w a1 a2 (lv_sub hl [0, 1, 2] rfl) hf
    · replace hf := oi_f hf c6
      refine lv_iconst (v := 0) F.1 F.2.1 dX9_copy_15 (by decide) ?_
      refine lv_goto (tgt := 20) F.1 F.2.1 dX9_copy_16 (by decide) ?_
      exact b_X9_copy_20 F  _ _ _ _ w a1 a2 0 (lv_sub hl [0, 1, 2] rfl) hf
def f_X9_copy (S : ST) (a1 : Int32) (a2 : Int32) : Option (Int32 × ST) := f_X9_copy_0 S a1 a2
set_option maxHeartbeats 4000000 in
set_option maxRecDepth 100000 in
theorem k_X9_copy (l : Launch) (x : CX) (S : ST) (a1 : Int32) (a2 : Int32) {res : Int32 × ST} (hf : f_X9_copy S a1 a2 = some res) (sz : Nat) : Met l yX9_copy (Cond.code yX9_copy cX9_copy 3 (some .int) :: GW) ({ frames := 2, cells := 0, slots := 0, locals := 46 } : Room) (PC x S sz [.ref (x.2.2 (80)), .int a1, .int a2]) (QI x res.2 res.1 sz) 0 0 (AA x sz) := by
  refine Met.ofW (cc := cX9_copy) (maxL := 3) (ret := (some .int)) (by decide) rfl ?_
  intro p e s m args below meth c s₁ B hml hv
  obtain ⟨rfl, rfl, hPW⟩ := hv
  have F : MF p m meth c cX9_copy 3 s _ RX9 (some .int) := MF.of B hml
  have w := WD.of hPW
  have hl := lv_entry ([.ref (x.2.2 (80)), .int a1, .int a2]) (n := 3) (Nat.le_of_ble_eq_true rfl)
  rw [lg_entry_eq]
  generalize (lg_sl ([.ref (x.2.2 (80)), .int a1, .int a2]) ++ List.replicate (3 - (lg_sl ([.ref (x.2.2 (80)), .int a1, .int a2])).length) Slot.unset).toArray = ls at hl ⊢
  have hl : lv_has ls 3 [(0, .ref (x.2.2 (80))), (1, .int a1), (2, .int a2)] := hl
  unfold f_X9_copy at hf
  exact b_X9_copy_0 F  _ _ _ _ w a1 a2 (lv_sub hl [0, 1, 2] rfl) hf
theorem cy_X9_size : CY yX9_size RX9 cX9_size 2 (some .int) 1 := ⟨q10, q963, rfl, by decide, by decide, by decide +kernel⟩
def f_X9_size_28 (S : ST) (as0 : Int32) : Option (Int32 × ST) := some (as0, S)
set_option maxHeartbeats 4000000 in
set_option maxRecDepth 100000 in
theorem b_X9_size_28 {p : Program} {l : Launch} {e : Env} {s : State} {m : MethodId} {args : Array Value} {below : List Frame} {meth : Method} {c : Code} {x : CX} {res : Int32 × ST} (F : MF p m meth c cX9_size 2 s args RX9 (some .int)) : ∀ (H : Heap) (locs : List Loc) (ls : Array Slot) (S : ST), WD x s S H locs → ∀ (as0 : Int32), lv_has ls 2 [] → f_X9_size_28 S as0 = some res → W p l e ({ frames := 2, cells := 0, slots := 0, locals := 42 } : Room) s m args below meth c H locs 0 0 (MQ below (QI x res.2 res.1 s.heap.size) args s 0 0 (AA x s.heap.size)) (F0 m 28 ls [.int as0]) := by
  intro H locs ls S w as0 hl hf
  unfold f_X9_size_28 at hf
  exact r_iret F w (oi_s hf) dX9_size_28
def f_X9_size_13 (S : ST) (a1 : Int32) (as0 : Int32) : Option (Int32 × ST) := oB (f_X9_refused S as0) (fun (r2 : Int32) (S1 : ST) => (if r2 = 0 then oB (f_X9_many S1 a1) (fun (r5 : Int32) (S4 : ST) => f_X9_size_28 S4 r5) else f_X9_size_28 S1 0))
set_option maxHeartbeats 4000000 in
set_option maxRecDepth 100000 in
theorem b_X9_size_13 {p : Program} {l : Launch} {e : Env} {s : State} {m : MethodId} {args : Array Value} {below : List Frame} {meth : Method} {c : Code} {x : CX} {res : Int32 × ST} (F : MF p m meth c cX9_size 2 s args RX9 (some .int)) : ∀ (H : Heap) (locs : List Loc) (ls : Array Slot) (S : ST), WD x s S H locs → ∀ (a1 : Int32) (as0 : Int32), lv_has ls 2 [(0, .ref (x.2.2 (80))), (1, .int a1)] → f_X9_size_13 S a1 as0 = some res → W p l e ({ frames := 2, cells := 0, slots := 0, locals := 42 } : Room) s m args below meth c H locs 0 0 (MQ below (QI x res.2 res.1 s.heap.size) args s 0 0 (AA x s.heap.size)) (F0 m 13 ls [.int as0, .ref (x.2.2 (80))]) := by
  intro H locs ls S w a1 as0 hl hf
  unfold f_X9_size_13 at hf
  obtain ⟨r2, S1, hc, hf⟩ := oi_b hf
  refine k_i0 (S' := S1) (r := r2) w (runV (As := [.int as0]) (rest := []) (kb := 80) F w (k_X9_refused l x S as0 hc H.size) cy_X9_refused q902 q904 qp19 ⟨rfl, rfl⟩ ⟨Nat.le_of_ble_eq_true rfl, Nat.le_of_ble_eq_true rfl⟩ (by decide) rfl rfl rfl rfl hl.1 (Nat.le_of_ble_eq_true rfl) ⟨Nat.le_of_ble_eq_true rfl, Nat.le_of_ble_eq_true rfl⟩ dX9_size_13) (fun H locs w => ?_)
  refine lv_if_eq (tgt := 23) F.1 F.2.1 dX9_size_16 (by decide) (fun c3 => ?_) (fun c3 => ?_)
  · replace hf := oi_t hf c3
    refine lv_aload_n F.1 F.2.1 dX9_size_23 rfl (lv_at hl 0 rfl) ?_
    refine lv_iload_n F.1 F.2.1 dX9_size_24 rfl (lv_at hl 1 rfl) ?_
    obtain ⟨r5, S4, hc, hf⟩ := oi_b hf
    refine k_i0 (S' := S4) (r := r5) w (runV (As := [.int a1]) (rest := []) (kb := 80) F w (k_X9_many l x S1 a1 hc H.size) cy_X9_many q920 q922 qp21 ⟨rfl, rfl⟩ ⟨Nat.le_of_ble_eq_true rfl, Nat.le_of_ble_eq_true rfl⟩ (by decide) rfl rfl rfl rfl hl.1 (Nat.le_of_ble_eq_true rfl) ⟨Nat.le_of_ble_eq_true rfl, Nat.le_of_ble_eq_true rfl⟩ dX9_size_25) (fun H locs w => ?_)
    exact b_X9_size_28 F  _ _ _ _ w r5 (lv_sub hl [] rfl) hf
  · replace hf := oi_f hf c3
    refine lv_iconst (v := 0) F.1 F.2.1 dX9_size_19 (by decide) ?_
    refine lv_goto (tgt := 28) F.1 F.2.1 dX9_size_20 (by decide) ?_
    exact b_X9_size_28 F  _ _ _ _ w 0 (lv_sub hl [] rfl) hf
def f_X9_size_0 (S : ST) (a1 : Int32) : Option (Int32 × ST) := oB (f_X9_isSet S a1) (fun (r2 : Int32) (S1 : ST) => (if r2 = 0 then f_X9_size_13 S1 a1 1 else f_X9_size_13 S1 a1 0))
set_option maxHeartbeats 4000000 in
set_option maxRecDepth 100000 in
theorem b_X9_size_0 {p : Program} {l : Launch} {e : Env} {s : State} {m : MethodId} {args : Array Value} {below : List Frame} {meth : Method} {c : Code} {x : CX} {res : Int32 × ST} (F : MF p m meth c cX9_size 2 s args RX9 (some .int)) : ∀ (H : Heap) (locs : List Loc) (ls : Array Slot) (S : ST), WD x s S H locs → ∀ (a1 : Int32), lv_has ls 2 [(0, .ref (x.2.2 (80))), (1, .int a1)] → f_X9_size_0 S a1 = some res → W p l e ({ frames := 2, cells := 0, slots := 0, locals := 42 } : Room) s m args below meth c H locs 0 0 (MQ below (QI x res.2 res.1 s.heap.size) args s 0 0 (AA x s.heap.size)) (F0 m 0 ls []) := by
  intro H locs ls S w a1 hl hf
  unfold f_X9_size_0 at hf
  refine lv_aload_n F.1 F.2.1 dX9_size_0 rfl (lv_at hl 0 rfl) ?_
  refine lv_iload_n F.1 F.2.1 dX9_size_1 rfl (lv_at hl 1 rfl) ?_
  obtain ⟨r2, S1, hc, hf⟩ := oi_b hf
  refine k_i0 (S' := S1) (r := r2) w (runS (As := [.int a1]) (rest := [.ref (x.2.2 (80))]) F w (k_X9_isSet l x S a1 hc H.size) cy_X9_isSet q910 q911 ⟨rfl, rfl⟩ ⟨Nat.le_of_ble_eq_true rfl, Nat.le_of_ble_eq_true rfl⟩ rfl rfl hl.1 (Nat.le_of_ble_eq_true rfl) ⟨Nat.le_of_ble_eq_true rfl, Nat.le_of_ble_eq_true rfl⟩ dX9_size_2) (fun H locs w => ?_)
  refine lv_if_eq (tgt := 12) F.1 F.2.1 dX9_size_5 (by decide) (fun c3 => ?_) (fun c3 => ?_)
  · replace hf := oi_t hf c3
    refine lv_iconst (v := 1) F.1 F.2.1 dX9_size_12 (by decide) ?_
    exact b_X9_size_13 F  _ _ _ _ w a1 1 (lv_sub hl [0, 1] rfl) hf
  · replace hf := oi_f hf c3
    refine lv_iconst (v := 0) F.1 F.2.1 dX9_size_8 (by decide) ?_
    refine lv_goto (tgt := 13) F.1 F.2.1 dX9_size_9 (by decide) ?_
    exact b_X9_size_13 F  _ _ _ _ w a1 0 (lv_sub hl [0, 1] rfl) hf
def f_X9_size (S : ST) (a1 : Int32) : Option (Int32 × ST) := f_X9_size_0 S a1
set_option maxHeartbeats 4000000 in
set_option maxRecDepth 100000 in
theorem k_X9_size (l : Launch) (x : CX) (S : ST) (a1 : Int32) {res : Int32 × ST} (hf : f_X9_size S a1 = some res) (sz : Nat) : Met l yX9_size (Cond.code yX9_size cX9_size 2 (some .int) :: GW) ({ frames := 2, cells := 0, slots := 0, locals := 42 } : Room) (PC x S sz [.ref (x.2.2 (80)), .int a1]) (QI x res.2 res.1 sz) 0 0 (AA x sz) := by
  refine Met.ofW (cc := cX9_size) (maxL := 2) (ret := (some .int)) (by decide) rfl ?_
  intro p e s m args below meth c s₁ B hml hv
  obtain ⟨rfl, rfl, hPW⟩ := hv
  have F : MF p m meth c cX9_size 2 s _ RX9 (some .int) := MF.of B hml
  have w := WD.of hPW
  have hl := lv_entry ([.ref (x.2.2 (80)), .int a1]) (n := 2) (Nat.le_of_ble_eq_true rfl)
  rw [lg_entry_eq]
  generalize (lg_sl ([.ref (x.2.2 (80)), .int a1]) ++ List.replicate (2 - (lg_sl ([.ref (x.2.2 (80)), .int a1])).length) Slot.unset).toArray = ls at hl ⊢
  have hl : lv_has ls 2 [(0, .ref (x.2.2 (80))), (1, .int a1)] := hl
  unfold f_X9_size at hf
  exact b_X9_size_0 F  _ _ _ _ w a1 (lv_sub hl [0, 1] rfl) hf
theorem cy_X9_mark : CY yX9_mark RX9 cX9_mark 3 (some .int) 2 := ⟨q10, q967, rfl, by decide, by decide, by decide +kernel⟩
def f_X9_mark_44 (S : ST) (as0 : Int32) : Option (Int32 × ST) := some (as0, S)
set_option maxHeartbeats 4000000 in
set_option maxRecDepth 100000 in
theorem b_X9_mark_44 {p : Program} {l : Launch} {e : Env} {s : State} {m : MethodId} {args : Array Value} {below : List Frame} {meth : Method} {c : Code} {x : CX} {res : Int32 × ST} (F : MF p m meth c cX9_mark 3 s args RX9 (some .int)) : ∀ (H : Heap) (locs : List Loc) (ls : Array Slot) (S : ST), WD x s S H locs → ∀ (as0 : Int32), lv_has ls 3 [] → f_X9_mark_44 S as0 = some res → W p l e ({ frames := 2, cells := 0, slots := 0, locals := 42 } : Room) s m args below meth c H locs 0 0 (MQ below (QI x res.2 res.1 s.heap.size) args s 0 0 (AA x s.heap.size)) (F0 m 44 ls [.int as0]) := by
  intro H locs ls S w as0 hl hf
  unfold f_X9_mark_44 at hf
  exact r_iret F w (oi_s hf) dX9_mark_44
def f_X9_mark_28 (S : ST) (a1 : Int32) (a2 : Int32) (as0 : Int32) : Option (Int32 × ST) := oB (f_X9_refused S as0) (fun (r2 : Int32) (S1 : ST) => (if r2 = 0 then oB (f_X9_markAt S1 a1 a2) (fun (r5 : Int32) (S4 : ST) => f_X9_mark_44 S4 r5) else f_X9_mark_44 S1 0))
set_option maxHeartbeats 4000000 in
set_option maxRecDepth 100000 in
theorem b_X9_mark_28 {p : Program} {l : Launch} {e : Env} {s : State} {m : MethodId} {args : Array Value} {below : List Frame} {meth : Method} {c : Code} {x : CX} {res : Int32 × ST} (F : MF p m meth c cX9_mark 3 s args RX9 (some .int)) : ∀ (H : Heap) (locs : List Loc) (ls : Array Slot) (S : ST), WD x s S H locs → ∀ (a1 : Int32) (a2 : Int32) (as0 : Int32), lv_has ls 3 [(0, .ref (x.2.2 (80))), (1, .int a1), (2, .int a2)] → f_X9_mark_28 S a1 a2 as0 = some res → W p l e ({ frames := 2, cells := 0, slots := 0, locals := 42 } : Room) s m args below meth c H locs 0 0 (MQ below (QI x res.2 res.1 s.heap.size) args s 0 0 (AA x s.heap.size)) (F0 m 28 ls [.int as0, .ref (x.2.2 (80))]) := by
  intro H locs ls S w a1 a2 as0 hl hf
  unfold f_X9_mark_28 at hf
  obtain ⟨r2, S1, hc, hf⟩ := oi_b hf
  refine k_i0 (S' := S1) (r := r2) w (runV (As := [.int as0]) (rest := []) (kb := 80) F w (k_X9_refused l x S as0 hc H.size) cy_X9_refused q902 q904 qp19 ⟨rfl, rfl⟩ ⟨Nat.le_of_ble_eq_true rfl, Nat.le_of_ble_eq_true rfl⟩ (by decide) rfl rfl rfl rfl hl.1 (Nat.le_of_ble_eq_true rfl) ⟨Nat.le_of_ble_eq_true rfl, Nat.le_of_ble_eq_true rfl⟩ dX9_mark_28) (fun H locs w => ?_)
  refine lv_if_eq (tgt := 38) F.1 F.2.1 dX9_mark_31 (by decide) (fun c3 => ?_) (fun c3 => ?_)
  · replace hf := oi_t hf c3
    refine lv_aload_n F.1 F.2.1 dX9_mark_38 rfl (lv_at hl 0 rfl) ?_
    refine lv_iload_n F.1 F.2.1 dX9_mark_39 rfl (lv_at hl 1 rfl) ?_
    refine lv_iload_n F.1 F.2.1 dX9_mark_40 rfl (lv_at hl 2 rfl) ?_
    obtain ⟨r5, S4, hc, hf⟩ := oi_b hf
    refine k_i0 (S' := S4) (r := r5) w (runV (As := [.int a1, .int a2]) (rest := []) (kb := 80) F w (k_X9_markAt l x S1 a1 a2 hc H.size) cy_X9_markAt q924 q926 qp22 ⟨rfl, rfl⟩ ⟨Nat.le_of_ble_eq_true rfl, Nat.le_of_ble_eq_true rfl⟩ (by decide) rfl rfl rfl rfl hl.1 (Nat.le_of_ble_eq_true rfl) ⟨Nat.le_of_ble_eq_true rfl, Nat.le_of_ble_eq_true rfl⟩ dX9_mark_41) (fun H locs w => ?_)
    exact b_X9_mark_44 F  _ _ _ _ w r5 (lv_sub hl [] rfl) hf
  · replace hf := oi_f hf c3
    refine lv_iconst (v := 0) F.1 F.2.1 dX9_mark_34 (by decide) ?_
    refine lv_goto (tgt := 44) F.1 F.2.1 dX9_mark_35 (by decide) ?_
    exact b_X9_mark_44 F  _ _ _ _ w 0 (lv_sub hl [] rfl) hf
def f_X9_mark_27 (S : ST) (a1 : Int32) (a2 : Int32) : Option (Int32 × ST) := f_X9_mark_28 S a1 a2 1
set_option maxHeartbeats 4000000 in
set_option maxRecDepth 100000 in
theorem b_X9_mark_27 {p : Program} {l : Launch} {e : Env} {s : State} {m : MethodId} {args : Array Value} {below : List Frame} {meth : Method} {c : Code} {x : CX} {res : Int32 × ST} (F : MF p m meth c cX9_mark 3 s args RX9 (some .int)) : ∀ (H : Heap) (locs : List Loc) (ls : Array Slot) (S : ST), WD x s S H locs → ∀ (a1 : Int32) (a2 : Int32), lv_has ls 3 [(0, .ref (x.2.2 (80))), (1, .int a1), (2, .int a2)] → f_X9_mark_27 S a1 a2 = some res → W p l e ({ frames := 2, cells := 0, slots := 0, locals := 42 } : Room) s m args below meth c H locs 0 0 (MQ below (QI x res.2 res.1 s.heap.size) args s 0 0 (AA x s.heap.size)) (F0 m 27 ls [.ref (x.2.2 (80))]) := by
  intro H locs ls S w a1 a2 hl hf
  unfold f_X9_mark_27 at hf
  refine lv_iconst (v := 1) F.1 F.2.1 dX9_mark_27 (by decide) ?_
  exact b_X9_mark_28 F  _ _ _ _ w a1 a2 1 (lv_sub hl [0, 1, 2] rfl) hf
def f_X9_mark_0 (S : ST) (a1 : Int32) (a2 : Int32) : Option (Int32 × ST) := oB (f_X9_isSet S a1) (fun (r2 : Int32) (S1 : ST) => (if r2 = 0 then f_X9_mark_27 S1 a1 a2 else oB (f_X9_many S1 a1) (fun (r5 : Int32) (S4 : ST) => oB (f_X9_within S4 a2 0 (r5 - (1 : Int32))) (fun (r7 : Int32) (S6 : ST) => (if r7 = 0 then f_X9_mark_27 S6 a1 a2 else f_X9_mark_28 S6 a1 a2 0)))))
set_option maxHeartbeats 4000000 in
set_option maxRecDepth 100000 in
theorem b_X9_mark_0 {p : Program} {l : Launch} {e : Env} {s : State} {m : MethodId} {args : Array Value} {below : List Frame} {meth : Method} {c : Code} {x : CX} {res : Int32 × ST} (F : MF p m meth c cX9_mark 3 s args RX9 (some .int)) : ∀ (H : Heap) (locs : List Loc) (ls : Array Slot) (S : ST), WD x s S H locs → ∀ (a1 : Int32) (a2 : Int32), lv_has ls 3 [(0, .ref (x.2.2 (80))), (1, .int a1), (2, .int a2)] → f_X9_mark_0 S a1 a2 = some res → W p l e ({ frames := 2, cells := 0, slots := 0, locals := 42 } : Room) s m args below meth c H locs 0 0 (MQ below (QI x res.2 res.1 s.heap.size) args s 0 0 (AA x s.heap.size)) (F0 m 0 ls []) := by
  intro H locs ls S w a1 a2 hl hf
  unfold f_X9_mark_0 at hf
  refine lv_aload_n F.1 F.2.1 dX9_mark_0 rfl (lv_at hl 0 rfl) ?_
  refine lv_iload_n F.1 F.2.1 dX9_mark_1 rfl (lv_at hl 1 rfl) ?_
  obtain ⟨r2, S1, hc, hf⟩ := oi_b hf
  refine k_i0 (S' := S1) (r := r2) w (runS (As := [.int a1]) (rest := [.ref (x.2.2 (80))]) F w (k_X9_isSet l x S a1 hc H.size) cy_X9_isSet q910 q911 ⟨rfl, rfl⟩ ⟨Nat.le_of_ble_eq_true rfl, Nat.le_of_ble_eq_true rfl⟩ rfl rfl hl.1 (Nat.le_of_ble_eq_true rfl) ⟨Nat.le_of_ble_eq_true rfl, Nat.le_of_ble_eq_true rfl⟩ dX9_mark_2) (fun H locs w => ?_)
  refine lv_if_eq (tgt := 27) F.1 F.2.1 dX9_mark_5 (by decide) (fun c3 => ?_) (fun c3 => ?_)
  · replace hf := oi_t hf c3
    exact b_X9_mark_27 F  _ _ _ _ w a1 a2 (lv_sub hl [0, 1, 2] rfl) hf
  · replace hf := oi_f hf c3
    refine lv_iload_n F.1 F.2.1 dX9_mark_8 rfl (lv_at hl 2 rfl) ?_
    refine lv_iconst (v := 0) F.1 F.2.1 dX9_mark_9 (by decide) ?_
    refine lv_aload_n F.1 F.2.1 dX9_mark_10 rfl (lv_at hl 0 rfl) ?_
    refine lv_iload_n F.1 F.2.1 dX9_mark_11 rfl (lv_at hl 1 rfl) ?_
    obtain ⟨r5, S4, hc, hf⟩ := oi_b hf
    refine k_i0 (S' := S4) (r := r5) w (runV (As := [.int a1]) (rest := [.int 0, .int a2, .ref (x.2.2 (80))]) (kb := 80) F w (k_X9_many l x S1 a1 hc H.size) cy_X9_many q920 q922 qp21 ⟨rfl, rfl⟩ ⟨Nat.le_of_ble_eq_true rfl, Nat.le_of_ble_eq_true rfl⟩ (by decide) rfl rfl rfl rfl hl.1 (Nat.le_of_ble_eq_true rfl) ⟨Nat.le_of_ble_eq_true rfl, Nat.le_of_ble_eq_true rfl⟩ dX9_mark_12) (fun H locs w => ?_)
    refine lv_iconst (v := 1) F.1 F.2.1 dX9_mark_15 (by decide) ?_
    refine lv_isub F.1 F.2.1 dX9_mark_16 ?_
    obtain ⟨r7, S6, hc, hf⟩ := oi_b hf
    refine k_i0 (S' := S6) (r := r7) w (runS (As := [.int a2, .int 0, .int (r5 - (1 : Int32))]) (rest := [.ref (x.2.2 (80))]) F w (k_X9_within l x S4 a2 0 (r5 - (1 : Int32)) hc H.size) cy_X9_within q913 q914 ⟨rfl, rfl⟩ ⟨Nat.le_of_ble_eq_true rfl, Nat.le_of_ble_eq_true rfl⟩ rfl rfl hl.1 (Nat.le_of_ble_eq_true rfl) ⟨Nat.le_of_ble_eq_true rfl, Nat.le_of_ble_eq_true rfl⟩ dX9_mark_17) (fun H locs w => ?_)
    refine lv_if_eq (tgt := 27) F.1 F.2.1 dX9_mark_20 (by decide) (fun c8 => ?_) (fun c8 => ?_)
    · replace hf := oi_t hf c8
      exact b_X9_mark_27 F  _ _ _ _ w a1 a2 (lv_sub hl [0, 1, 2] rfl) hf
    · replace hf := oi_f hf c8
      refine lv_iconst (v := 0) F.1 F.2.1 dX9_mark_23 (by decide) ?_
      refine lv_goto (tgt := 28) F.1 F.2.1 dX9_mark_24 (by decide) ?_
      exact b_X9_mark_28 F  _ _ _ _ w a1 a2 0 (lv_sub hl [0, 1, 2] rfl) hf
def f_X9_mark (S : ST) (a1 : Int32) (a2 : Int32) : Option (Int32 × ST) := f_X9_mark_0 S a1 a2
set_option maxHeartbeats 4000000 in
set_option maxRecDepth 100000 in
theorem k_X9_mark (l : Launch) (x : CX) (S : ST) (a1 : Int32) (a2 : Int32) {res : Int32 × ST} (hf : f_X9_mark S a1 a2 = some res) (sz : Nat) : Met l yX9_mark (Cond.code yX9_mark cX9_mark 3 (some .int) :: GW) ({ frames := 2, cells := 0, slots := 0, locals := 42 } : Room) (PC x S sz [.ref (x.2.2 (80)), .int a1, .int a2]) (QI x res.2 res.1 sz) 0 0 (AA x sz) := by
  refine Met.ofW (cc := cX9_mark) (maxL := 3) (ret := (some .int)) (by decide) rfl ?_
  intro p e s m args below meth c s₁ B hml hv
  obtain ⟨rfl, rfl, hPW⟩ := hv
  have F : MF p m meth c cX9_mark 3 s _ RX9 (some .int) := MF.of B hml
  have w := WD.of hPW
  have hl := lv_entry ([.ref (x.2.2 (80)), .int a1, .int a2]) (n := 3) (Nat.le_of_ble_eq_true rfl)
  rw [lg_entry_eq]
  generalize (lg_sl ([.ref (x.2.2 (80)), .int a1, .int a2]) ++ List.replicate (3 - (lg_sl ([.ref (x.2.2 (80)), .int a1, .int a2])).length) Slot.unset).toArray = ls at hl ⊢
  have hl : lv_has ls 3 [(0, .ref (x.2.2 (80))), (1, .int a1), (2, .int a2)] := hl
  unfold f_X9_mark at hf
  exact b_X9_mark_0 F  _ _ _ _ w a1 a2 (lv_sub hl [0, 1, 2] rfl) hf
theorem cy_X9_length : CY yX9_length RX9 cX9_length 2 (some .int) 1 := ⟨q10, q971, rfl, by decide, by decide, by decide +kernel⟩
def f_X9_length_28 (S : ST) (as0 : Int32) : Option (Int32 × ST) := some (as0, S)
set_option maxHeartbeats 4000000 in
set_option maxRecDepth 100000 in
theorem b_X9_length_28 {p : Program} {l : Launch} {e : Env} {s : State} {m : MethodId} {args : Array Value} {below : List Frame} {meth : Method} {c : Code} {x : CX} {res : Int32 × ST} (F : MF p m meth c cX9_length 2 s args RX9 (some .int)) : ∀ (H : Heap) (locs : List Loc) (ls : Array Slot) (S : ST), WD x s S H locs → ∀ (as0 : Int32), lv_has ls 2 [] → f_X9_length_28 S as0 = some res → W p l e ({ frames := 2, cells := 0, slots := 0, locals := 43 } : Room) s m args below meth c H locs 0 0 (MQ below (QI x res.2 res.1 s.heap.size) args s 0 0 (AA x s.heap.size)) (F0 m 28 ls [.int as0]) := by
  intro H locs ls S w as0 hl hf
  unfold f_X9_length_28 at hf
  exact r_iret F w (oi_s hf) dX9_length_28
def f_X9_length_13 (S : ST) (a1 : Int32) (as0 : Int32) : Option (Int32 × ST) := oB (f_X9_refused S as0) (fun (r2 : Int32) (S1 : ST) => (if r2 = 0 then oB (f_X9_lengthOf S1 a1) (fun (r5 : Int32) (S4 : ST) => f_X9_length_28 S4 r5) else f_X9_length_28 S1 0))
set_option maxHeartbeats 4000000 in
set_option maxRecDepth 100000 in
theorem b_X9_length_13 {p : Program} {l : Launch} {e : Env} {s : State} {m : MethodId} {args : Array Value} {below : List Frame} {meth : Method} {c : Code} {x : CX} {res : Int32 × ST} (F : MF p m meth c cX9_length 2 s args RX9 (some .int)) : ∀ (H : Heap) (locs : List Loc) (ls : Array Slot) (S : ST), WD x s S H locs → ∀ (a1 : Int32) (as0 : Int32), lv_has ls 2 [(0, .ref (x.2.2 (80))), (1, .int a1)] → f_X9_length_13 S a1 as0 = some res → W p l e ({ frames := 2, cells := 0, slots := 0, locals := 43 } : Room) s m args below meth c H locs 0 0 (MQ below (QI x res.2 res.1 s.heap.size) args s 0 0 (AA x s.heap.size)) (F0 m 13 ls [.int as0, .ref (x.2.2 (80))]) := by
  intro H locs ls S w a1 as0 hl hf
  unfold f_X9_length_13 at hf
  obtain ⟨r2, S1, hc, hf⟩ := oi_b hf
  refine k_i0 (S' := S1) (r := r2) w (runV (As := [.int as0]) (rest := []) (kb := 80) F w (k_X9_refused l x S as0 hc H.size) cy_X9_refused q902 q904 qp19 ⟨rfl, rfl⟩ ⟨Nat.le_of_ble_eq_true rfl, Nat.le_of_ble_eq_true rfl⟩ (by decide) rfl rfl rfl rfl hl.1 (Nat.le_of_ble_eq_true rfl) ⟨Nat.le_of_ble_eq_true rfl, Nat.le_of_ble_eq_true rfl⟩ dX9_length_13) (fun H locs w => ?_)
  refine lv_if_eq (tgt := 23) F.1 F.2.1 dX9_length_16 (by decide) (fun c3 => ?_) (fun c3 => ?_)
  · replace hf := oi_t hf c3
    refine lv_aload_n F.1 F.2.1 dX9_length_23 rfl (lv_at hl 0 rfl) ?_
    refine lv_iload_n F.1 F.2.1 dX9_length_24 rfl (lv_at hl 1 rfl) ?_
    obtain ⟨r5, S4, hc, hf⟩ := oi_b hf
    refine k_i0 (S' := S4) (r := r5) w (runV (As := [.int a1]) (rest := []) (kb := 80) F w (k_X9_lengthOf l x S1 a1 hc H.size) cy_X9_lengthOf q972 q974 qp28 ⟨rfl, rfl⟩ ⟨Nat.le_of_ble_eq_true rfl, Nat.le_of_ble_eq_true rfl⟩ (by decide) rfl rfl rfl rfl hl.1 (Nat.le_of_ble_eq_true rfl) ⟨Nat.le_of_ble_eq_true rfl, Nat.le_of_ble_eq_true rfl⟩ dX9_length_25) (fun H locs w => ?_)
    exact b_X9_length_28 F  _ _ _ _ w r5 (lv_sub hl [] rfl) hf
  · replace hf := oi_f hf c3
    refine lv_iconst (v := 0) F.1 F.2.1 dX9_length_19 (by decide) ?_
    refine lv_goto (tgt := 28) F.1 F.2.1 dX9_length_20 (by decide) ?_
    exact b_X9_length_28 F  _ _ _ _ w 0 (lv_sub hl [] rfl) hf
def f_X9_length_0 (S : ST) (a1 : Int32) : Option (Int32 × ST) := oB (f_X9_isSet S a1) (fun (r2 : Int32) (S1 : ST) => (if r2 = 0 then f_X9_length_13 S1 a1 1 else f_X9_length_13 S1 a1 0))
set_option maxHeartbeats 4000000 in
set_option maxRecDepth 100000 in
theorem b_X9_length_0 {p : Program} {l : Launch} {e : Env} {s : State} {m : MethodId} {args : Array Value} {below : List Frame} {meth : Method} {c : Code} {x : CX} {res : Int32 × ST} (F : MF p m meth c cX9_length 2 s args RX9 (some .int)) : ∀ (H : Heap) (locs : List Loc) (ls : Array Slot) (S : ST), WD x s S H locs → ∀ (a1 : Int32), lv_has ls 2 [(0, .ref (x.2.2 (80))), (1, .int a1)] → f_X9_length_0 S a1 = some res → W p l e ({ frames := 2, cells := 0, slots := 0, locals := 43 } : Room) s m args below meth c H locs 0 0 (MQ below (QI x res.2 res.1 s.heap.size) args s 0 0 (AA x s.heap.size)) (F0 m 0 ls []) := by
  intro H locs ls S w a1 hl hf
  unfold f_X9_length_0 at hf
  refine lv_aload_n F.1 F.2.1 dX9_length_0 rfl (lv_at hl 0 rfl) ?_
  refine lv_iload_n F.1 F.2.1 dX9_length_1 rfl (lv_at hl 1 rfl) ?_
  obtain ⟨r2, S1, hc, hf⟩ := oi_b hf
  refine k_i0 (S' := S1) (r := r2) w (runS (As := [.int a1]) (rest := [.ref (x.2.2 (80))]) F w (k_X9_isSet l x S a1 hc H.size) cy_X9_isSet q910 q911 ⟨rfl, rfl⟩ ⟨Nat.le_of_ble_eq_true rfl, Nat.le_of_ble_eq_true rfl⟩ rfl rfl hl.1 (Nat.le_of_ble_eq_true rfl) ⟨Nat.le_of_ble_eq_true rfl, Nat.le_of_ble_eq_true rfl⟩ dX9_length_2) (fun H locs w => ?_)
  refine lv_if_eq (tgt := 12) F.1 F.2.1 dX9_length_5 (by decide) (fun c3 => ?_) (fun c3 => ?_)
  · replace hf := oi_t hf c3
    refine lv_iconst (v := 1) F.1 F.2.1 dX9_length_12 (by decide) ?_
    exact b_X9_length_13 F  _ _ _ _ w a1 1 (lv_sub hl [0, 1] rfl) hf
  · replace hf := oi_f hf c3
    refine lv_iconst (v := 0) F.1 F.2.1 dX9_length_8 (by decide) ?_
    refine lv_goto (tgt := 13) F.1 F.2.1 dX9_length_9 (by decide) ?_
    exact b_X9_length_13 F  _ _ _ _ w a1 0 (lv_sub hl [0, 1] rfl) hf
def f_X9_length (S : ST) (a1 : Int32) : Option (Int32 × ST) := f_X9_length_0 S a1
set_option maxHeartbeats 4000000 in
set_option maxRecDepth 100000 in
theorem k_X9_length (l : Launch) (x : CX) (S : ST) (a1 : Int32) {res : Int32 × ST} (hf : f_X9_length S a1 = some res) (sz : Nat) : Met l yX9_length (Cond.code yX9_length cX9_length 2 (some .int) :: GW) ({ frames := 2, cells := 0, slots := 0, locals := 43 } : Room) (PC x S sz [.ref (x.2.2 (80)), .int a1]) (QI x res.2 res.1 sz) 0 0 (AA x sz) := by
  refine Met.ofW (cc := cX9_length) (maxL := 2) (ret := (some .int)) (by decide) rfl ?_
  intro p e s m args below meth c s₁ B hml hv
  obtain ⟨rfl, rfl, hPW⟩ := hv
  have F : MF p m meth c cX9_length 2 s _ RX9 (some .int) := MF.of B hml
  have w := WD.of hPW
  have hl := lv_entry ([.ref (x.2.2 (80)), .int a1]) (n := 2) (Nat.le_of_ble_eq_true rfl)
  rw [lg_entry_eq]
  generalize (lg_sl ([.ref (x.2.2 (80)), .int a1]) ++ List.replicate (2 - (lg_sl ([.ref (x.2.2 (80)), .int a1])).length) Slot.unset).toArray = ls at hl ⊢
  have hl : lv_has ls 2 [(0, .ref (x.2.2 (80))), (1, .int a1)] := hl
  unfold f_X9_length at hf
  exact b_X9_length_0 F  _ _ _ _ w a1 (lv_sub hl [0, 1] rfl) hf
theorem cy_X9_pairs : CY yX9_pairs RX9 cX9_pairs 6 (some .int) 2 := ⟨q10, q983, rfl, by decide, by decide, by decide +kernel⟩
def f_X9_pairs_50 (k5 : ST → Int32 → Int32 → Int32 → Int32 → Option (Int32 × ST)) (k18 : ST → Int32 → Int32 → Int32 → Int32 → Int32 → Option (Int32 × ST)) (S : ST) (a1 : Int32) (a2 : Int32) (a4 : Int32) (a5 : Int32) (as0 : Int32) (as1 : Int32) : Option (Int32 × ST) := oL (as1 + as0) (fun (v1 : Int32) => oL (a5 + 1) (fun (v2 : Int32) => k18 S a1 a2 v1 a4 v2))
set_option maxHeartbeats 4000000 in
set_option maxRecDepth 100000 in
theorem b_X9_pairs_50 {p : Program} {l : Launch} {e : Env} {s : State} {m : MethodId} {args : Array Value} {below : List Frame} {meth : Method} {c : Code} {x : CX} {res : Int32 × ST} (F : MF p m meth c cX9_pairs 6 s args RX9 (some .int)) (k5 : ST → Int32 → Int32 → Int32 → Int32 → Option (Int32 × ST)) (hk5 : ∀ (H : Heap) (locs : List Loc) (ls : Array Slot) (S : ST), WD x s S H locs → ∀ (a1 : Int32) (a2 : Int32) (a3 : Int32) (a4 : Int32), lv_has ls 6 [(0, .ref (x.2.2 (80))), (1, .int a1), (2, .int a2), (3, .int a3), (4, .int a4)] → k5 S a1 a2 a3 a4 = some res → W p l e ({ frames := 1, cells := 0, slots := 0, locals := 22 } : Room) s m args below meth c H locs 0 0 (MQ below (QI x res.2 res.1 s.heap.size) args s 0 0 (AA x s.heap.size)) (F0 m 5 ls [])) (k18 : ST → Int32 → Int32 → Int32 → Int32 → Int32 → Option (Int32 × ST)) (hk18 : ∀ (H : Heap) (locs : List Loc) (ls : Array Slot) (S : ST), WD x s S H locs → ∀ (a1 : Int32) (a2 : Int32) (a3 : Int32) (a4 : Int32) (a5 : Int32), lv_has ls 6 [(0, .ref (x.2.2 (80))), (1, .int a1), (2, .int a2), (3, .int a3), (4, .int a4), (5, .int a5)] → k18 S a1 a2 a3 a4 a5 = some res → W p l e ({ frames := 1, cells := 0, slots := 0, locals := 22 } : Room) s m args below meth c H locs 0 0 (MQ below (QI x res.2 res.1 s.heap.size) args s 0 0 (AA x s.heap.size)) (F0 m 18 ls [])) : ∀ (H : Heap) (locs : List Loc) (ls : Array Slot) (S : ST), WD x s S H locs → ∀ (a1 : Int32) (a2 : Int32) (a4 : Int32) (a5 : Int32) (as0 : Int32) (as1 : Int32), lv_has ls 6 [(0, .ref (x.2.2 (80))), (1, .int a1), (2, .int a2), (4, .int a4), (5, .int a5)] → f_X9_pairs_50 k5 k18 S a1 a2 a4 a5 as0 as1 = some res → W p l e ({ frames := 1, cells := 0, slots := 0, locals := 22 } : Room) s m args below meth c H locs 0 0 (MQ below (QI x res.2 res.1 s.heap.size) args s 0 0 (AA x s.heap.size)) (F0 m 50 ls [.int as0, .int as1]) := by
  intro H locs ls S w a1 a2 a4 a5 as0 as1 hl hf
  unfold f_X9_pairs_50 at hf
  refine lv_iadd F.1 F.2.1 dX9_pairs_50 ?_
  refine lv_topi (fun v1 e_v1 => ?_)
  replace hf := oi_l hf e_v1
  refine lv_istore_n (lv' := [(3, .int v1), (0, .ref (x.2.2 (80))), (1, .int a1), (2, .int a2), (4, .int a4), (5, .int a5)]) F.1 F.2.1 dX9_pairs_51 rfl hl (by decide) rfl (fun ls hl => ?_)
  obtain ⟨v2, e_v2⟩ : ∃ y : Int32, y = (a5 + 1) := ⟨_, rfl⟩
  replace hf := oi_l hf e_v2
  refine lv_iinc (v := v2) (lv' := [(5, .int v2), (3, .int v1), (0, .ref (x.2.2 (80))), (1, .int a1), (2, .int a2), (4, .int a4)]) F.1 F.2.1 dX9_pairs_52 hl (k := 5) rfl (by rw [e_v2]; rfl) (by decide) rfl (fun ls hl => ?_)
  refine lv_goto (tgt := 18) F.1 F.2.1 dX9_pairs_55 (by decide) ?_
  exact hk18 _ _ _ _ w a1 a2 v1 a4 v2 (lv_sub hl [2, 3, 4, 1, 5, 0] rfl) hf
def f_X9_pairs_18 (k5 : ST → Int32 → Int32 → Int32 → Int32 → Option (Int32 × ST)) : Nat → ST → Int32 → Int32 → Int32 → Int32 → Int32 → Option (Int32 × ST)
  | 0, _, _, _, _, _, _ => none
  | n + 1, S, a1, a2, a3, a4, a5 => (if a4 ≤ a5 then oL (a4 + 1) (fun (v2 : Int32) => k5 S a1 a2 a3 v2) else oB (f_X9_markAt S a1 a4) (fun (r4 : Int32) (S3 : ST) => oB (f_X9_markAt S3 a1 a5) (fun (r6 : Int32) (S5 : ST) => (if (r4 - r6) = a2 then f_X9_pairs_50 k5 (f_X9_pairs_18 k5 n) S5 a1 a2 a4 a5 1 a3 else f_X9_pairs_50 k5 (f_X9_pairs_18 k5 n) S5 a1 a2 a4 a5 0 a3))))
set_option maxHeartbeats 4000000 in
set_option maxRecDepth 100000 in
theorem b_X9_pairs_18 {p : Program} {l : Launch} {e : Env} {s : State} {m : MethodId} {args : Array Value} {below : List Frame} {meth : Method} {c : Code} {x : CX} {res : Int32 × ST} (F : MF p m meth c cX9_pairs 6 s args RX9 (some .int)) (k5 : ST → Int32 → Int32 → Int32 → Int32 → Option (Int32 × ST)) (hk5 : ∀ (H : Heap) (locs : List Loc) (ls : Array Slot) (S : ST), WD x s S H locs → ∀ (a1 : Int32) (a2 : Int32) (a3 : Int32) (a4 : Int32), lv_has ls 6 [(0, .ref (x.2.2 (80))), (1, .int a1), (2, .int a2), (3, .int a3), (4, .int a4)] → k5 S a1 a2 a3 a4 = some res → W p l e ({ frames := 1, cells := 0, slots := 0, locals := 22 } : Room) s m args below meth c H locs 0 0 (MQ below (QI x res.2 res.1 s.heap.size) args s 0 0 (AA x s.heap.size)) (F0 m 5 ls [])) : ∀ (n : Nat), ∀ (H : Heap) (locs : List Loc) (ls : Array Slot) (S : ST), WD x s S H locs → ∀ (a1 : Int32) (a2 : Int32) (a3 : Int32) (a4 : Int32) (a5 : Int32), lv_has ls 6 [(0, .ref (x.2.2 (80))), (1, .int a1), (2, .int a2), (3, .int a3), (4, .int a4), (5, .int a5)] → f_X9_pairs_18 k5 n S a1 a2 a3 a4 a5 = some res → W p l e ({ frames := 1, cells := 0, slots := 0, locals := 22 } : Room) s m args below meth c H locs 0 0 (MQ below (QI x res.2 res.1 s.heap.size) args s 0 0 (AA x s.heap.size)) (F0 m 18 ls []) := by
  intro n
  induction n with
  | zero =>
    intro H locs ls S w a1 a2 a3 a4 a5 hl hf
    have hf : (none : Option (Int32 × ST)) = some res := hf
    cases hf
  | succ n ih =>
    intro H locs ls S w a1 a2 a3 a4 a5 hl hf
    unfold f_X9_pairs_18 at hf
    refine lv_iload F.1 F.2.1 dX9_pairs_18 (lv_at hl 5 rfl) ?_
    refine lv_iload F.1 F.2.1 dX9_pairs_20 (lv_at hl 4 rfl) ?_
    refine lv_icmp_ge (tgt := 58) F.1 F.2.1 dX9_pairs_22 (by decide) (fun c1 => ?_) (fun c1 => ?_)
    · replace hf := oi_t hf c1
      obtain ⟨v2, e_v2⟩ : ∃ y : Int32, y = (a4 + 1) := ⟨_, rfl⟩
      replace hf := oi_l hf e_v2
      refine lv_iinc (v := v2) (lv' := [(4, .int v2), (0, .ref (x.2.2 (80))), (1, .int a1), (2, .int a2), (3, .int a3), (5, .int a5)]) F.1 F.2.1 dX9_pairs_58 hl (k := 4) rfl (by rw [e_v2]; rfl) (by decide) rfl (fun ls hl => ?_)
      refine lv_goto (tgt := 5) F.1 F.2.1 dX9_pairs_61 (by decide) ?_
      exact hk5 _ _ _ _ w a1 a2 a3 v2 (lv_sub hl [1, 2, 3, 4, 0] rfl) hf
    · replace hf := oi_f hf c1
      refine lv_iload_n F.1 F.2.1 dX9_pairs_25 rfl (lv_at hl 3 rfl) ?_
      refine lv_aload_n F.1 F.2.1 dX9_pairs_26 rfl (lv_at hl 0 rfl) ?_
      refine lv_iload_n F.1 F.2.1 dX9_pairs_27 rfl (lv_at hl 1 rfl) ?_
      refine lv_iload F.1 F.2.1 dX9_pairs_28 (lv_at hl 4 rfl) ?_
      obtain ⟨r4, S3, hc, hf⟩ := oi_b hf
      refine k_i0 (S' := S3) (r := r4) w (runV (As := [.int a1, .int a4]) (rest := [.int a3]) (kb := 80) F w (k_X9_markAt l x S a1 a4 hc H.size) cy_X9_markAt q924 q926 qp22 ⟨rfl, rfl⟩ ⟨Nat.le_of_ble_eq_true rfl, Nat.le_of_ble_eq_true rfl⟩ (by decide) rfl rfl rfl rfl hl.1 (Nat.le_of_ble_eq_true rfl) ⟨Nat.le_of_ble_eq_true rfl, Nat.le_of_ble_eq_true rfl⟩ dX9_pairs_30) (fun H locs w => ?_)
      refine lv_aload_n F.1 F.2.1 dX9_pairs_33 rfl (lv_at hl 0 rfl) ?_
      refine lv_iload_n F.1 F.2.1 dX9_pairs_34 rfl (lv_at hl 1 rfl) ?_
      refine lv_iload F.1 F.2.1 dX9_pairs_35 (lv_at hl 5 rfl) ?_
      obtain ⟨r6, S5, hc, hf⟩ := oi_b hf
      refine k_i0 (S' := S5) (r := r6) w (runV (As := [.int a1, .int a5]) (rest := [.int r4, .int a3]) (kb := 80) F w (k_X9_markAt l x S3 a1 a5 hc H.size) cy_X9_markAt q924 q926 qp22 ⟨rfl, rfl⟩ ⟨Nat.le_of_ble_eq_true rfl, Nat.le_of_ble_eq_true rfl⟩ (by decide) rfl rfl rfl rfl hl.1 (Nat.le_of_ble_eq_true rfl) ⟨Nat.le_of_ble_eq_true rfl, Nat.le_of_ble_eq_true rfl⟩ dX9_pairs_37) (fun H locs w => ?_)
      refine lv_isub F.1 F.2.1 dX9_pairs_40 ?_
      refine lv_iload_n F.1 F.2.1 dX9_pairs_41 rfl (lv_at hl 2 rfl) ?_
      refine lv_icmp_ne (tgt := 49) F.1 F.2.1 dX9_pairs_42 (by decide) (fun c7 => ?_) (fun c7 => ?_)
      · replace hf := oi_f hf c7
        refine lv_iconst (v := 0) F.1 F.2.1 dX9_pairs_49 (by decide) ?_
        exact b_X9_pairs_50 F k5 hk5 (f_X9_pairs_18 k5 n) ih _ _ _ _ w a1 a2 a4 a5 0 a3 (lv_sub hl [0, 1, 2, 4, 5] rfl) hf
      · replace hf := oi_t hf c7
        refine lv_iconst (v := 1) F.1 F.2.1 dX9_pairs_45 (by decide) ?_
        refine lv_goto (tgt := 50) F.1 F.2.1 dX9_pairs_46 (by decide) ?_
        exact b_X9_pairs_50 F k5 hk5 (f_X9_pairs_18 k5 n) ih _ _ _ _ w a1 a2 a4 a5 1 a3 (lv_sub hl [0, 1, 2, 4, 5] rfl) hf
def f_X9_pairs_5 : Nat → ST → Int32 → Int32 → Int32 → Int32 → Option (Int32 × ST)
  | 0, _, _, _, _, _ => none
  | n + 1, S, a1, a2, a3, a4 => oB (f_X9_many S a1) (fun (r2 : Int32) (S1 : ST) => (if r2 ≤ a4 then some (a3, S1) else f_X9_pairs_18 (f_X9_pairs_5 n) FU S1 a1 a2 a3 a4 0))
set_option maxHeartbeats 4000000 in
set_option maxRecDepth 100000 in
theorem b_X9_pairs_5 {p : Program} {l : Launch} {e : Env} {s : State} {m : MethodId} {args : Array Value} {below : List Frame} {meth : Method} {c : Code} {x : CX} {res : Int32 × ST} (F : MF p m meth c cX9_pairs 6 s args RX9 (some .int)) : ∀ (n : Nat), ∀ (H : Heap) (locs : List Loc) (ls : Array Slot) (S : ST), WD x s S H locs → ∀ (a1 : Int32) (a2 : Int32) (a3 : Int32) (a4 : Int32), lv_has ls 6 [(0, .ref (x.2.2 (80))), (1, .int a1), (2, .int a2), (3, .int a3), (4, .int a4)] → f_X9_pairs_5 n S a1 a2 a3 a4 = some res → W p l e ({ frames := 1, cells := 0, slots := 0, locals := 22 } : Room) s m args below meth c H locs 0 0 (MQ below (QI x res.2 res.1 s.heap.size) args s 0 0 (AA x s.heap.size)) (F0 m 5 ls []) := by
  intro n
  induction n with
  | zero =>
    intro H locs ls S w a1 a2 a3 a4 hl hf
    have hf : (none : Option (Int32 × ST)) = some res := hf
    cases hf
  | succ n ih =>
    intro H locs ls S w a1 a2 a3 a4 hl hf
    unfold f_X9_pairs_5 at hf
    refine lv_iload F.1 F.2.1 dX9_pairs_5 (lv_at hl 4 rfl) ?_
    refine lv_aload_n F.1 F.2.1 dX9_pairs_7 rfl (lv_at hl 0 rfl) ?_
    refine lv_iload_n F.1 F.2.1 dX9_pairs_8 rfl (lv_at hl 1 rfl) ?_
    obtain ⟨r2, S1, hc, hf⟩ := oi_b hf
    refine k_i0 (S' := S1) (r := r2) w (runV (As := [.int a1]) (rest := [.int a4]) (kb := 80) F w (k_X9_many l x S a1 hc H.size) cy_X9_many q920 q922 qp21 ⟨rfl, rfl⟩ ⟨Nat.le_of_ble_eq_true rfl, Nat.le_of_ble_eq_true rfl⟩ (by decide) rfl rfl rfl rfl hl.1 (Nat.le_of_ble_eq_true rfl) ⟨Nat.le_of_ble_eq_true rfl, Nat.le_of_ble_eq_true rfl⟩ dX9_pairs_9) (fun H locs w => ?_)
    refine lv_icmp_ge (tgt := 64) F.1 F.2.1 dX9_pairs_12 (by decide) (fun c3 => ?_) (fun c3 => ?_)
    · replace hf := oi_t hf c3
      refine lv_iload_n F.1 F.2.1 dX9_pairs_64 rfl (lv_at hl 3 rfl) ?_
      exact r_iret F w (oi_s hf) dX9_pairs_65
    · replace hf := oi_f hf c3
      refine lv_iconst (v := 0) F.1 F.2.1 dX9_pairs_15 (by decide) ?_
      refine lv_istore (lv' := [(5, .int 0), (0, .ref (x.2.2 (80))), (1, .int a1), (2, .int a2), (3, .int a3), (4, .int a4)]) F.1 F.2.1 dX9_pairs_16 hl (by decide) rfl (fun ls hl => ?_)
      exact b_X9_pairs_18 F (f_X9_pairs_5 n) ih FU _ _ _ _ w a1 a2 a3 a4 0 (lv_sub hl [1, 2, 3, 4, 5, 0] rfl) hf
def f_X9_pairs_0 (S : ST) (a1 : Int32) (a2 : Int32) : Option (Int32 × ST) := f_X9_pairs_5 FU S a1 a2 0 0
set_option maxHeartbeats 4000000 in
set_option maxRecDepth 100000 in
theorem b_X9_pairs_0 {p : Program} {l : Launch} {e : Env} {s : State} {m : MethodId} {args : Array Value} {below : List Frame} {meth : Method} {c : Code} {x : CX} {res : Int32 × ST} (F : MF p m meth c cX9_pairs 6 s args RX9 (some .int)) : ∀ (H : Heap) (locs : List Loc) (ls : Array Slot) (S : ST), WD x s S H locs → ∀ (a1 : Int32) (a2 : Int32), lv_has ls 6 [(0, .ref (x.2.2 (80))), (1, .int a1), (2, .int a2)] → f_X9_pairs_0 S a1 a2 = some res → W p l e ({ frames := 1, cells := 0, slots := 0, locals := 22 } : Room) s m args below meth c H locs 0 0 (MQ below (QI x res.2 res.1 s.heap.size) args s 0 0 (AA x s.heap.size)) (F0 m 0 ls []) := by
  intro H locs ls S w a1 a2 hl hf
  unfold f_X9_pairs_0 at hf
  refine lv_iconst (v := 0) F.1 F.2.1 dX9_pairs_0 (by decide) ?_
  refine lv_istore_n (lv' := [(3, .int 0), (0, .ref (x.2.2 (80))), (1, .int a1), (2, .int a2)]) F.1 F.2.1 dX9_pairs_1 rfl hl (by decide) rfl (fun ls hl => ?_)
  refine lv_iconst (v := 0) F.1 F.2.1 dX9_pairs_2 (by decide) ?_
  refine lv_istore (lv' := [(4, .int 0), (3, .int 0), (0, .ref (x.2.2 (80))), (1, .int a1), (2, .int a2)]) F.1 F.2.1 dX9_pairs_3 hl (by decide) rfl (fun ls hl => ?_)
  exact b_X9_pairs_5 F FU _ _ _ _ w a1 a2 0 0 (lv_sub hl [2, 3, 4, 1, 0] rfl) hf
def f_X9_pairs (S : ST) (a1 : Int32) (a2 : Int32) : Option (Int32 × ST) := f_X9_pairs_0 S a1 a2
set_option maxHeartbeats 4000000 in
set_option maxRecDepth 100000 in
theorem k_X9_pairs (l : Launch) (x : CX) (S : ST) (a1 : Int32) (a2 : Int32) {res : Int32 × ST} (hf : f_X9_pairs S a1 a2 = some res) (sz : Nat) : Met l yX9_pairs (Cond.code yX9_pairs cX9_pairs 6 (some .int) :: GW) ({ frames := 1, cells := 0, slots := 0, locals := 22 } : Room) (PC x S sz [.ref (x.2.2 (80)), .int a1, .int a2]) (QI x res.2 res.1 sz) 0 0 (AA x sz) := by
  refine Met.ofW (cc := cX9_pairs) (maxL := 6) (ret := (some .int)) (by decide) rfl ?_
  intro p e s m args below meth c s₁ B hml hv
  obtain ⟨rfl, rfl, hPW⟩ := hv
  have F : MF p m meth c cX9_pairs 6 s _ RX9 (some .int) := MF.of B hml
  have w := WD.of hPW
  have hl := lv_entry ([.ref (x.2.2 (80)), .int a1, .int a2]) (n := 6) (Nat.le_of_ble_eq_true rfl)
  rw [lg_entry_eq]
  generalize (lg_sl ([.ref (x.2.2 (80)), .int a1, .int a2]) ++ List.replicate (6 - (lg_sl ([.ref (x.2.2 (80)), .int a1, .int a2])).length) Slot.unset).toArray = ls at hl ⊢
  have hl : lv_has ls 6 [(0, .ref (x.2.2 (80))), (1, .int a1), (2, .int a2)] := hl
  unfold f_X9_pairs at hf
  exact b_X9_pairs_0 F  _ _ _ _ w a1 a2 (lv_sub hl [0, 1, 2] rfl) hf
theorem cy_X9_multiplicity : CY yX9_multiplicity RX9 cX9_multiplicity 3 (some .int) 2 := ⟨q10, q979, rfl, by decide, by decide, by decide +kernel⟩
def f_X9_multiplicity_44 (S : ST) (as0 : Int32) : Option (Int32 × ST) := some (as0, S)
set_option maxHeartbeats 4000000 in
set_option maxRecDepth 100000 in
theorem b_X9_multiplicity_44 {p : Program} {l : Launch} {e : Env} {s : State} {m : MethodId} {args : Array Value} {below : List Frame} {meth : Method} {c : Code} {x : CX} {res : Int32 × ST} (F : MF p m meth c cX9_multiplicity 3 s args RX9 (some .int)) : ∀ (H : Heap) (locs : List Loc) (ls : Array Slot) (S : ST), WD x s S H locs → ∀ (as0 : Int32), lv_has ls 3 [] → f_X9_multiplicity_44 S as0 = some res → W p l e ({ frames := 2, cells := 0, slots := 0, locals := 47 } : Room) s m args below meth c H locs 0 0 (MQ below (QI x res.2 res.1 s.heap.size) args s 0 0 (AA x s.heap.size)) (F0 m 44 ls [.int as0]) := by
  intro H locs ls S w as0 hl hf
  unfold f_X9_multiplicity_44 at hf
  exact r_iret F w (oi_s hf) dX9_multiplicity_44
def f_X9_multiplicity_28 (S : ST) (a1 : Int32) (a2 : Int32) (as0 : Int32) : Option (Int32 × ST) := oB (f_X9_refused S as0) (fun (r2 : Int32) (S1 : ST) => (if r2 = 0 then oB (f_X9_pairs S1 a1 a2) (fun (r5 : Int32) (S4 : ST) => f_X9_multiplicity_44 S4 r5) else f_X9_multiplicity_44 S1 0))
set_option maxHeartbeats 4000000 in
set_option maxRecDepth 100000 in
theorem b_X9_multiplicity_28 {p : Program} {l : Launch} {e : Env} {s : State} {m : MethodId} {args : Array Value} {below : List Frame} {meth : Method} {c : Code} {x : CX} {res : Int32 × ST} (F : MF p m meth c cX9_multiplicity 3 s args RX9 (some .int)) : ∀ (H : Heap) (locs : List Loc) (ls : Array Slot) (S : ST), WD x s S H locs → ∀ (a1 : Int32) (a2 : Int32) (as0 : Int32), lv_has ls 3 [(0, .ref (x.2.2 (80))), (1, .int a1), (2, .int a2)] → f_X9_multiplicity_28 S a1 a2 as0 = some res → W p l e ({ frames := 2, cells := 0, slots := 0, locals := 47 } : Room) s m args below meth c H locs 0 0 (MQ below (QI x res.2 res.1 s.heap.size) args s 0 0 (AA x s.heap.size)) (F0 m 28 ls [.int as0, .ref (x.2.2 (80))]) := by
  intro H locs ls S w a1 a2 as0 hl hf
  unfold f_X9_multiplicity_28 at hf
  obtain ⟨r2, S1, hc, hf⟩ := oi_b hf
  refine k_i0 (S' := S1) (r := r2) w (runV (As := [.int as0]) (rest := []) (kb := 80) F w (k_X9_refused l x S as0 hc H.size) cy_X9_refused q902 q904 qp19 ⟨rfl, rfl⟩ ⟨Nat.le_of_ble_eq_true rfl, Nat.le_of_ble_eq_true rfl⟩ (by decide) rfl rfl rfl rfl hl.1 (Nat.le_of_ble_eq_true rfl) ⟨Nat.le_of_ble_eq_true rfl, Nat.le_of_ble_eq_true rfl⟩ dX9_multiplicity_28) (fun H locs w => ?_)
  refine lv_if_eq (tgt := 38) F.1 F.2.1 dX9_multiplicity_31 (by decide) (fun c3 => ?_) (fun c3 => ?_)
  · replace hf := oi_t hf c3
    refine lv_aload_n F.1 F.2.1 dX9_multiplicity_38 rfl (lv_at hl 0 rfl) ?_
    refine lv_iload_n F.1 F.2.1 dX9_multiplicity_39 rfl (lv_at hl 1 rfl) ?_
    refine lv_iload_n F.1 F.2.1 dX9_multiplicity_40 rfl (lv_at hl 2 rfl) ?_
    obtain ⟨r5, S4, hc, hf⟩ := oi_b hf
    refine k_i0 (S' := S4) (r := r5) w (runV (As := [.int a1, .int a2]) (rest := []) (kb := 80) F w (k_X9_pairs l x S1 a1 a2 hc H.size) cy_X9_pairs q980 q982 qp29 ⟨rfl, rfl⟩ ⟨Nat.le_of_ble_eq_true rfl, Nat.le_of_ble_eq_true rfl⟩ (by decide) rfl rfl rfl rfl hl.1 (Nat.le_of_ble_eq_true rfl) ⟨Nat.le_of_ble_eq_true rfl, Nat.le_of_ble_eq_true rfl⟩ dX9_multiplicity_41) (fun H locs w => ?_)
    exact b_X9_multiplicity_44 F  _ _ _ _ w r5 (lv_sub hl [] rfl) hf
  · replace hf := oi_f hf c3
    refine lv_iconst (v := 0) F.1 F.2.1 dX9_multiplicity_34 (by decide) ?_
    refine lv_goto (tgt := 44) F.1 F.2.1 dX9_multiplicity_35 (by decide) ?_
    exact b_X9_multiplicity_44 F  _ _ _ _ w 0 (lv_sub hl [] rfl) hf
def f_X9_multiplicity_0 (S : ST) (a1 : Int32) (a2 : Int32) : Option (Int32 × ST) := oB (f_X9_isSet S a1) (fun (r2 : Int32) (S1 : ST) => (if r2 = 0 then f_X9_multiplicity_28 S1 a1 a2 1 else oB (f_X9_within S1 a2 1 2000) (fun (r5 : Int32) (S4 : ST) => (if r5 = 0 then f_X9_multiplicity_28 S4 a1 a2 2 else f_X9_multiplicity_28 S4 a1 a2 0))))
set_option maxHeartbeats 4000000 in
set_option maxRecDepth 100000 in
theorem b_X9_multiplicity_0 {p : Program} {l : Launch} {e : Env} {s : State} {m : MethodId} {args : Array Value} {below : List Frame} {meth : Method} {c : Code} {x : CX} {res : Int32 × ST} (F : MF p m meth c cX9_multiplicity 3 s args RX9 (some .int)) : ∀ (H : Heap) (locs : List Loc) (ls : Array Slot) (S : ST), WD x s S H locs → ∀ (a1 : Int32) (a2 : Int32), lv_has ls 3 [(0, .ref (x.2.2 (80))), (1, .int a1), (2, .int a2)] → f_X9_multiplicity_0 S a1 a2 = some res → W p l e ({ frames := 2, cells := 0, slots := 0, locals := 47 } : Room) s m args below meth c H locs 0 0 (MQ below (QI x res.2 res.1 s.heap.size) args s 0 0 (AA x s.heap.size)) (F0 m 0 ls []) := by
  intro H locs ls S w a1 a2 hl hf
  unfold f_X9_multiplicity_0 at hf
  refine lv_aload_n F.1 F.2.1 dX9_multiplicity_0 rfl (lv_at hl 0 rfl) ?_
  refine lv_iload_n F.1 F.2.1 dX9_multiplicity_1 rfl (lv_at hl 1 rfl) ?_
  obtain ⟨r2, S1, hc, hf⟩ := oi_b hf
  refine k_i0 (S' := S1) (r := r2) w (runS (As := [.int a1]) (rest := [.ref (x.2.2 (80))]) F w (k_X9_isSet l x S a1 hc H.size) cy_X9_isSet q910 q911 ⟨rfl, rfl⟩ ⟨Nat.le_of_ble_eq_true rfl, Nat.le_of_ble_eq_true rfl⟩ rfl rfl hl.1 (Nat.le_of_ble_eq_true rfl) ⟨Nat.le_of_ble_eq_true rfl, Nat.le_of_ble_eq_true rfl⟩ dX9_multiplicity_2) (fun H locs w => ?_)
  refine lv_if_ne (tgt := 12) F.1 F.2.1 dX9_multiplicity_5 (by decide) (fun c3 => ?_) (fun c3 => ?_)
  · replace hf := oi_f hf c3
    refine lv_iload_n F.1 F.2.1 dX9_multiplicity_12 rfl (lv_at hl 2 rfl) ?_
    refine lv_iconst (v := 1) F.1 F.2.1 dX9_multiplicity_13 (by decide) ?_
    refine lv_sipush (v := 2000) F.1 F.2.1 dX9_multiplicity_14 (by decide) ?_
    obtain ⟨r5, S4, hc, hf⟩ := oi_b hf
    refine k_i0 (S' := S4) (r := r5) w (runS (As := [.int a2, .int 1, .int 2000]) (rest := [.ref (x.2.2 (80))]) F w (k_X9_within l x S1 a2 1 2000 hc H.size) cy_X9_within q913 q914 ⟨rfl, rfl⟩ ⟨Nat.le_of_ble_eq_true rfl, Nat.le_of_ble_eq_true rfl⟩ rfl rfl hl.1 (Nat.le_of_ble_eq_true rfl) ⟨Nat.le_of_ble_eq_true rfl, Nat.le_of_ble_eq_true rfl⟩ dX9_multiplicity_17) (fun H locs w => ?_)
    refine lv_if_eq (tgt := 27) F.1 F.2.1 dX9_multiplicity_20 (by decide) (fun c6 => ?_) (fun c6 => ?_)
    · replace hf := oi_t hf c6
      refine lv_iconst (v := 2) F.1 F.2.1 dX9_multiplicity_27 (by decide) ?_
      exact b_X9_multiplicity_28 F  _ _ _ _ w a1 a2 2 (lv_sub hl [0, 1, 2] rfl) hf
    · replace hf := oi_f hf c6
      refine lv_iconst (v := 0) F.1 F.2.1 dX9_multiplicity_23 (by decide) ?_
      refine lv_goto (tgt := 28) F.1 F.2.1 dX9_multiplicity_24 (by decide) ?_
      exact b_X9_multiplicity_28 F  _ _ _ _ w a1 a2 0 (lv_sub hl [0, 1, 2] rfl) hf
  · replace hf := oi_t hf c3
    refine lv_iconst (v := 1) F.1 F.2.1 dX9_multiplicity_8 (by decide) ?_
    refine lv_goto (tgt := 28) F.1 F.2.1 dX9_multiplicity_9 (by decide) ?_
    exact b_X9_multiplicity_28 F  _ _ _ _ w a1 a2 1 (lv_sub hl [0, 1, 2] rfl) hf
def f_X9_multiplicity (S : ST) (a1 : Int32) (a2 : Int32) : Option (Int32 × ST) := f_X9_multiplicity_0 S a1 a2
set_option maxHeartbeats 4000000 in
set_option maxRecDepth 100000 in
theorem k_X9_multiplicity (l : Launch) (x : CX) (S : ST) (a1 : Int32) (a2 : Int32) {res : Int32 × ST} (hf : f_X9_multiplicity S a1 a2 = some res) (sz : Nat) : Met l yX9_multiplicity (Cond.code yX9_multiplicity cX9_multiplicity 3 (some .int) :: GW) ({ frames := 2, cells := 0, slots := 0, locals := 47 } : Room) (PC x S sz [.ref (x.2.2 (80)), .int a1, .int a2]) (QI x res.2 res.1 sz) 0 0 (AA x sz) := by
  refine Met.ofW (cc := cX9_multiplicity) (maxL := 3) (ret := (some .int)) (by decide) rfl ?_
  intro p e s m args below meth c s₁ B hml hv
  obtain ⟨rfl, rfl, hPW⟩ := hv
  have F : MF p m meth c cX9_multiplicity 3 s _ RX9 (some .int) := MF.of B hml
  have w := WD.of hPW
  have hl := lv_entry ([.ref (x.2.2 (80)), .int a1, .int a2]) (n := 3) (Nat.le_of_ble_eq_true rfl)
  rw [lg_entry_eq]
  generalize (lg_sl ([.ref (x.2.2 (80)), .int a1, .int a2]) ++ List.replicate (3 - (lg_sl ([.ref (x.2.2 (80)), .int a1, .int a2])).length) Slot.unset).toArray = ls at hl ⊢
  have hl : lv_has ls 3 [(0, .ref (x.2.2 (80))), (1, .int a1), (2, .int a2)] := hl
  unfold f_X9_multiplicity at hf
  exact b_X9_multiplicity_0 F  _ _ _ _ w a1 a2 (lv_sub hl [0, 1, 2] rfl) hf
theorem cy_X9_counts : CY yX9_counts RX9 cX9_counts 4 none 1 := ⟨q10, q999, rfl, by decide, by decide, by decide +kernel⟩
def f_X9_counts_13 (k2 : ST → Int32 → Int32 → Option (ST)) : Nat → ST → Int32 → Int32 → Int32 → Option (ST)
  | 0, _, _, _, _ => none
  | n + 1, S, a1, a2, a3 => (if a2 ≤ a3 then oL (a2 + 1) (fun (v2 : Int32) => k2 S a1 v2) else oB (f_X9_markAt S a1 a2) (fun (r4 : Int32) (S3 : ST) => oB (f_X9_markAt S3 a1 a3) (fun (r6 : Int32) (S5 : ST) => oG (inB (r4 - r6) 2001) (oG (inB (r4 - r6) 2001) (oL (sA S5 33 (upd (ai S5 33) (Int32.toNatClampNeg (r4 - r6)) ((ai S5 33 (Int32.toNatClampNeg (r4 - r6))) + (1 : Int32)))) (fun (S9 : ST) => oL (a3 + 1) (fun (v10 : Int32) => (f_X9_counts_13 k2 n) S9 a1 a2 v10)))))))
set_option maxHeartbeats 4000000 in
set_option maxRecDepth 100000 in
theorem b_X9_counts_13 {p : Program} {l : Launch} {e : Env} {s : State} {m : MethodId} {args : Array Value} {below : List Frame} {meth : Method} {c : Code} {x : CX} {res : ST} (F : MF p m meth c cX9_counts 4 s args RX9 none) (k2 : ST → Int32 → Int32 → Option (ST)) (hk2 : ∀ (H : Heap) (locs : List Loc) (ls : Array Slot) (S : ST), WD x s S H locs → ∀ (a1 : Int32) (a2 : Int32), lv_has ls 4 [(0, .ref (x.2.2 (80))), (1, .int a1), (2, .int a2)] → k2 S a1 a2 = some res → W p l e ({ frames := 1, cells := 0, slots := 0, locals := 22 } : Room) s m args below meth c H locs 0 0 (MQ below (QV x res s.heap.size) args s 0 0 (AA x s.heap.size)) (F0 m 2 ls [])) : ∀ (n : Nat), ∀ (H : Heap) (locs : List Loc) (ls : Array Slot) (S : ST), WD x s S H locs → ∀ (a1 : Int32) (a2 : Int32) (a3 : Int32), lv_has ls 4 [(0, .ref (x.2.2 (80))), (1, .int a1), (2, .int a2), (3, .int a3)] → f_X9_counts_13 k2 n S a1 a2 a3 = some res → W p l e ({ frames := 1, cells := 0, slots := 0, locals := 22 } : Room) s m args below meth c H locs 0 0 (MQ below (QV x res s.heap.size) args s 0 0 (AA x s.heap.size)) (F0 m 13 ls []) := by
  intro n
  induction n with
  | zero =>
    intro H locs ls S w a1 a2 a3 hl hf
    have hf : (none : Option (ST)) = some res := hf
    cases hf
  | succ n ih =>
    intro H locs ls S w a1 a2 a3 hl hf
    unfold f_X9_counts_13 at hf
    refine lv_iload_n F.1 F.2.1 dX9_counts_13 rfl (lv_at hl 3 rfl) ?_
    refine lv_iload_n F.1 F.2.1 dX9_counts_14 rfl (lv_at hl 2 rfl) ?_
    refine lv_icmp_ge (tgt := 46) F.1 F.2.1 dX9_counts_15 (by decide) (fun c1 => ?_) (fun c1 => ?_)
    · replace hf := oi_t hf c1
      obtain ⟨v2, e_v2⟩ : ∃ y : Int32, y = (a2 + 1) := ⟨_, rfl⟩
      replace hf := oi_l hf e_v2
      refine lv_iinc (v := v2) (lv' := [(2, .int v2), (0, .ref (x.2.2 (80))), (1, .int a1), (3, .int a3)]) F.1 F.2.1 dX9_counts_46 hl (k := 2) rfl (by rw [e_v2]; rfl) (by decide) rfl (fun ls hl => ?_)
      refine lv_goto (tgt := 2) F.1 F.2.1 dX9_counts_49 (by decide) ?_
      exact hk2 _ _ _ _ w a1 v2 (lv_sub hl [1, 2, 0] rfl) hf
    · replace hf := oi_f hf c1
      refine lv_aload_n F.1 F.2.1 dX9_counts_18 rfl (lv_at hl 0 rfl) ?_
      refine g_MD_often F w q869 dX9_counts_19 ?_
      refine lv_aload_n F.1 F.2.1 dX9_counts_22 rfl (lv_at hl 0 rfl) ?_
      refine lv_iload_n F.1 F.2.1 dX9_counts_23 rfl (lv_at hl 1 rfl) ?_
      refine lv_iload_n F.1 F.2.1 dX9_counts_24 rfl (lv_at hl 2 rfl) ?_
      obtain ⟨r4, S3, hc, hf⟩ := oi_b hf
      refine k_i0 (S' := S3) (r := r4) w (runV (As := [.int a1, .int a2]) (rest := [.ref (x.2.2 (84))]) (kb := 80) F w (k_X9_markAt l x S a1 a2 hc H.size) cy_X9_markAt q924 q926 qp22 ⟨rfl, rfl⟩ ⟨Nat.le_of_ble_eq_true rfl, Nat.le_of_ble_eq_true rfl⟩ (by decide) rfl rfl rfl rfl hl.1 (Nat.le_of_ble_eq_true rfl) ⟨Nat.le_of_ble_eq_true rfl, Nat.le_of_ble_eq_true rfl⟩ dX9_counts_25) (fun H locs w => ?_)
      refine lv_aload_n F.1 F.2.1 dX9_counts_28 rfl (lv_at hl 0 rfl) ?_
      refine lv_iload_n F.1 F.2.1 dX9_counts_29 rfl (lv_at hl 1 rfl) ?_
      refine lv_iload_n F.1 F.2.1 dX9_counts_30 rfl (lv_at hl 3 rfl) ?_
      obtain ⟨r6, S5, hc, hf⟩ := oi_b hf
      refine k_i0 (S' := S5) (r := r6) w (runV (As := [.int a1, .int a3]) (rest := [.int r4, .ref (x.2.2 (84))]) (kb := 80) F w (k_X9_markAt l x S3 a1 a3 hc H.size) cy_X9_markAt q924 q926 qp22 ⟨rfl, rfl⟩ ⟨Nat.le_of_ble_eq_true rfl, Nat.le_of_ble_eq_true rfl⟩ (by decide) rfl rfl rfl rfl hl.1 (Nat.le_of_ble_eq_true rfl) ⟨Nat.le_of_ble_eq_true rfl, Nat.le_of_ble_eq_true rfl⟩ dX9_counts_31) (fun H locs w => ?_)
      refine lv_isub F.1 F.2.1 dX9_counts_34 ?_
      refine lv_dup2_11 F.1 F.2.1 dX9_counts_35 rfl rfl ?_
      obtain ⟨hb7, hf⟩ := oi_g hf
      refine r_iald F w (k := 84) (f := ai S5 33) (by decide) rfl hb7 dX9_counts_36 ?_
      refine lv_iconst (v := 1) F.1 F.2.1 dX9_counts_37 (by decide) ?_
      refine lv_iadd F.1 F.2.1 dX9_counts_38 ?_
      obtain ⟨hb8, hf⟩ := oi_g hf
      refine r_iast F w (k := 84) (a := 33) (n := 2001) (by decide) (fun S9 => rfl) rfl hb8 dX9_counts_39 (fun H locs w => ?_)
      obtain ⟨S9, e_S9⟩ : ∃ y : ST, y = sA S5 33 (upd (ai S5 33) (Int32.toNatClampNeg (r4 - r6)) ((ai S5 33 (Int32.toNatClampNeg (r4 - r6))) + (1 : Int32))) := ⟨_, rfl⟩
      replace w : WD x s S9 H locs := by rw [e_S9]; exact w
      replace hf := oi_l hf e_S9
      obtain ⟨v10, e_v10⟩ : ∃ y : Int32, y = (a3 + 1) := ⟨_, rfl⟩
      replace hf := oi_l hf e_v10
      refine lv_iinc (v := v10) (lv' := [(3, .int v10), (0, .ref (x.2.2 (80))), (1, .int a1), (2, .int a2)]) F.1 F.2.1 dX9_counts_40 hl (k := 3) rfl (by rw [e_v10]; rfl) (by decide) rfl (fun ls hl => ?_)
      refine lv_goto (tgt := 13) F.1 F.2.1 dX9_counts_43 (by decide) ?_
      exact ih _ _ _ _ w a1 a2 v10 (lv_sub hl [1, 2, 3, 0] rfl) hf
def f_X9_counts_2 : Nat → ST → Int32 → Int32 → Option (ST)
  | 0, _, _, _ => none
  | n + 1, S, a1, a2 => oB (f_X9_many S a1) (fun (r2 : Int32) (S1 : ST) => (if r2 ≤ a2 then some S1 else f_X9_counts_13 (f_X9_counts_2 n) FU S1 a1 a2 0))
set_option maxHeartbeats 4000000 in
set_option maxRecDepth 100000 in
theorem b_X9_counts_2 {p : Program} {l : Launch} {e : Env} {s : State} {m : MethodId} {args : Array Value} {below : List Frame} {meth : Method} {c : Code} {x : CX} {res : ST} (F : MF p m meth c cX9_counts 4 s args RX9 none) : ∀ (n : Nat), ∀ (H : Heap) (locs : List Loc) (ls : Array Slot) (S : ST), WD x s S H locs → ∀ (a1 : Int32) (a2 : Int32), lv_has ls 4 [(0, .ref (x.2.2 (80))), (1, .int a1), (2, .int a2)] → f_X9_counts_2 n S a1 a2 = some res → W p l e ({ frames := 1, cells := 0, slots := 0, locals := 22 } : Room) s m args below meth c H locs 0 0 (MQ below (QV x res s.heap.size) args s 0 0 (AA x s.heap.size)) (F0 m 2 ls []) := by
  intro n
  induction n with
  | zero =>
    intro H locs ls S w a1 a2 hl hf
    have hf : (none : Option (ST)) = some res := hf
    cases hf
  | succ n ih =>
    intro H locs ls S w a1 a2 hl hf
    unfold f_X9_counts_2 at hf
    refine lv_iload_n F.1 F.2.1 dX9_counts_2 rfl (lv_at hl 2 rfl) ?_
    refine lv_aload_n F.1 F.2.1 dX9_counts_3 rfl (lv_at hl 0 rfl) ?_
    refine lv_iload_n F.1 F.2.1 dX9_counts_4 rfl (lv_at hl 1 rfl) ?_
    obtain ⟨r2, S1, hc, hf⟩ := oi_b hf
    refine k_i0 (S' := S1) (r := r2) w (runV (As := [.int a1]) (rest := [.int a2]) (kb := 80) F w (k_X9_many l x S a1 hc H.size) cy_X9_many q920 q922 qp21 ⟨rfl, rfl⟩ ⟨Nat.le_of_ble_eq_true rfl, Nat.le_of_ble_eq_true rfl⟩ (by decide) rfl rfl rfl rfl hl.1 (Nat.le_of_ble_eq_true rfl) ⟨Nat.le_of_ble_eq_true rfl, Nat.le_of_ble_eq_true rfl⟩ dX9_counts_5) (fun H locs w => ?_)
    refine lv_icmp_ge (tgt := 52) F.1 F.2.1 dX9_counts_8 (by decide) (fun c3 => ?_) (fun c3 => ?_)
    · replace hf := oi_t hf c3
      exact r_vret F w (oi_s hf) dX9_counts_52
    · replace hf := oi_f hf c3
      refine lv_iconst (v := 0) F.1 F.2.1 dX9_counts_11 (by decide) ?_
      refine lv_istore_n (lv' := [(3, .int 0), (0, .ref (x.2.2 (80))), (1, .int a1), (2, .int a2)]) F.1 F.2.1 dX9_counts_12 rfl hl (by decide) rfl (fun ls hl => ?_)
      exact b_X9_counts_13 F (f_X9_counts_2 n) ih FU _ _ _ _ w a1 a2 0 (lv_sub hl [1, 2, 3, 0] rfl) hf
def f_X9_counts_0 (S : ST) (a1 : Int32) : Option (ST) := f_X9_counts_2 FU S a1 0
set_option maxHeartbeats 4000000 in
set_option maxRecDepth 100000 in
theorem b_X9_counts_0 {p : Program} {l : Launch} {e : Env} {s : State} {m : MethodId} {args : Array Value} {below : List Frame} {meth : Method} {c : Code} {x : CX} {res : ST} (F : MF p m meth c cX9_counts 4 s args RX9 none) : ∀ (H : Heap) (locs : List Loc) (ls : Array Slot) (S : ST), WD x s S H locs → ∀ (a1 : Int32), lv_has ls 4 [(0, .ref (x.2.2 (80))), (1, .int a1)] → f_X9_counts_0 S a1 = some res → W p l e ({ frames := 1, cells := 0, slots := 0, locals := 22 } : Room) s m args below meth c H locs 0 0 (MQ below (QV x res s.heap.size) args s 0 0 (AA x s.heap.size)) (F0 m 0 ls []) := by
  intro H locs ls S w a1 hl hf
  unfold f_X9_counts_0 at hf
  refine lv_iconst (v := 0) F.1 F.2.1 dX9_counts_0 (by decide) ?_
  refine lv_istore_n (lv' := [(2, .int 0), (0, .ref (x.2.2 (80))), (1, .int a1)]) F.1 F.2.1 dX9_counts_1 rfl hl (by decide) rfl (fun ls hl => ?_)
  exact b_X9_counts_2 F FU _ _ _ _ w a1 0 (lv_sub hl [1, 2, 0] rfl) hf
def f_X9_counts (S : ST) (a1 : Int32) : Option (ST) := f_X9_counts_0 S a1
set_option maxHeartbeats 4000000 in
set_option maxRecDepth 100000 in
theorem k_X9_counts (l : Launch) (x : CX) (S : ST) (a1 : Int32) {res : ST} (hf : f_X9_counts S a1 = some res) (sz : Nat) : Met l yX9_counts (Cond.code yX9_counts cX9_counts 4 none :: GW) ({ frames := 1, cells := 0, slots := 0, locals := 22 } : Room) (PC x S sz [.ref (x.2.2 (80)), .int a1]) (QV x res sz) 0 0 (AA x sz) := by
  refine Met.ofW (cc := cX9_counts) (maxL := 4) (ret := none) (by decide) rfl ?_
  intro p e s m args below meth c s₁ B hml hv
  obtain ⟨rfl, rfl, hPW⟩ := hv
  have F : MF p m meth c cX9_counts 4 s _ RX9 none := MF.of B hml
  have w := WD.of hPW
  have hl := lv_entry ([.ref (x.2.2 (80)), .int a1]) (n := 4) (Nat.le_of_ble_eq_true rfl)
  rw [lg_entry_eq]
  generalize (lg_sl ([.ref (x.2.2 (80)), .int a1]) ++ List.replicate (4 - (lg_sl ([.ref (x.2.2 (80)), .int a1])).length) Slot.unset).toArray = ls at hl ⊢
  have hl : lv_has ls 4 [(0, .ref (x.2.2 (80))), (1, .int a1)] := hl
  unfold f_X9_counts at hf
  exact b_X9_counts_0 F  _ _ _ _ w a1 (lv_sub hl [0, 1] rfl) hf
