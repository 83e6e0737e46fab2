theorem cy_X8_makeDifferenceSet : CY yX8_makeDifferenceSet RX8 cX8_makeDifferenceSet 4 (some .boolean) 3 := ⟨q1, q833, rfl, by decide, by decide, by decide +kernel⟩
def f_X8_makeDifferenceSet_0 (S : ST) (a1 : Int32) (a2 : Int32) (a3 : Int32) : Option (Int32 × ST) := oV (f_X2_empty S 20) (fun (S1 : ST) => oV (f_X2_push S1 20 0) (fun (S2 : ST) => oV (f_X5_wipe S2) (fun (S3 : ST) => oB (f_X5_countMark S3 20 1 a1 1) (fun (r5 : Int32) (S4 : ST) => oV (f_X2_push S4 20 1) (fun (S6 : ST) => oB (f_X8_finishDifferenceSet S6 20 (a2 - (2 : Int32)) a1 a3) (fun (r8 : Int32) (S7 : ST) => oG (isB r8) (some (r8, S7))))))))
set_option maxHeartbeats 4000000 in
set_option maxRecDepth 100000 in
theorem b_X8_makeDifferenceSet_0 {p : Program} {l : Launch} {e : Env} {s : State} {m : MethodId} {args : Array Value} {below : List Frame} {meth : Method} {c : Code} {x : CX} {res : Int32 × ST} (F : MF p m meth c cX8_makeDifferenceSet 4 s args RX8 (some .boolean)) : ∀ (H : Heap) (locs : List Loc) (ls : Array Slot) (S : ST), WD x s S H locs → ∀ (a1 : Int32) (a2 : Int32) (a3 : Int32), lv_has ls 4 [(0, .ref (x.2.2 (79))), (1, .int a1), (2, .int a2), (3, .int a3)] → f_X8_makeDifferenceSet_0 S a1 a2 a3 = some res → W p l e ({ frames := 27, cells := 0, slots := 0, locals := 676 } : Room) s m args below meth c H locs 0 0 (MQ below (QI x res.2 res.1 s.heap.size) args s 0 0 (AA x s.heap.size)) (F0 m 0 ls []) := by
  intro H locs ls S w a1 a2 a3 hl hf
  unfold f_X8_makeDifferenceSet_0 at hf
  refine lv_aload_n F.1 F.2.1 dX8_makeDifferenceSet_0 rfl (lv_at hl 0 rfl) ?_
  refine g_RW_made F w q164 dX8_makeDifferenceSet_1 ?_
  obtain ⟨S1, hc, hf⟩ := oi_v hf
  refine k_v0 (S' := S1) w (runV (As := []) (rest := []) (kb := 2 * 20) F w (k_X2_empty l x S 20 (by decide) hc H.size) cy_X2_empty q504 q455 q456 ⟨rfl, rfl⟩ ⟨Nat.le_of_ble_eq_true rfl, Nat.le_of_ble_eq_true rfl⟩ (k_ms (by decide)) (enc_ms x S (by decide)) rfl rfl rfl hl.1 (Nat.le_of_ble_eq_true rfl) ⟨Nat.le_of_ble_eq_true rfl, Nat.le_of_ble_eq_true rfl⟩ dX8_makeDifferenceSet_4) (fun H locs w => ?_)
  refine lv_aload_n F.1 F.2.1 dX8_makeDifferenceSet_7 rfl (lv_at hl 0 rfl) ?_
  refine g_RW_made F w q164 dX8_makeDifferenceSet_8 ?_
  refine lv_iconst (v := 0) F.1 F.2.1 dX8_makeDifferenceSet_11 (by decide) ?_
  obtain ⟨S2, hc, hf⟩ := oi_v hf
  refine k_v0 (S' := S2) w (runV (As := [.int 0]) (rest := []) (kb := 2 * 20) F w (k_X2_push l x S1 20 0 (by decide) hc H.size) cy_X2_push q653 q459 q460 ⟨rfl, rfl⟩ ⟨Nat.le_of_ble_eq_true rfl, Nat.le_of_ble_eq_true rfl⟩ (k_ms (by decide)) (enc_ms x S1 (by decide)) rfl rfl rfl hl.1 (Nat.le_of_ble_eq_true rfl) ⟨Nat.le_of_ble_eq_true rfl, Nat.le_of_ble_eq_true rfl⟩ dX8_makeDifferenceSet_12) (fun H locs w => ?_)
  refine lv_aload_n F.1 F.2.1 dX8_makeDifferenceSet_15 rfl (lv_at hl 0 rfl) ?_
  refine g_RW_tally F w q170 dX8_makeDifferenceSet_16 ?_
  obtain ⟨S3, hc, hf⟩ := oi_v hf
  refine k_v0 (S' := S3) w (runV (As := []) (rest := []) (kb := 75) F w (k_X5_wipe l x S2 hc H.size) cy_X5_wipe q834 q270 q271 ⟨rfl, rfl⟩ ⟨Nat.le_of_ble_eq_true rfl, Nat.le_of_ble_eq_true rfl⟩ (by decide) rfl rfl rfl rfl hl.1 (Nat.le_of_ble_eq_true rfl) ⟨Nat.le_of_ble_eq_true rfl, Nat.le_of_ble_eq_true rfl⟩ dX8_makeDifferenceSet_19) (fun H locs w => ?_)
  refine lv_aload_n F.1 F.2.1 dX8_makeDifferenceSet_22 rfl (lv_at hl 0 rfl) ?_
  refine g_RW_tally F w q170 dX8_makeDifferenceSet_23 ?_
  refine lv_aload_n F.1 F.2.1 dX8_makeDifferenceSet_26 rfl (lv_at hl 0 rfl) ?_
  refine g_RW_made F w q164 dX8_makeDifferenceSet_27 ?_
  refine lv_iconst (v := 1) F.1 F.2.1 dX8_makeDifferenceSet_30 (by decide) ?_
  refine lv_iload_n F.1 F.2.1 dX8_makeDifferenceSet_31 rfl (lv_at hl 1 rfl) ?_
  refine lv_iconst (v := 1) F.1 F.2.1 dX8_makeDifferenceSet_32 (by decide) ?_
  obtain ⟨r5, S4, hc, hf⟩ := oi_b hf
  refine k_i0 (S' := S4) (r := r5) w (runV (As := [.ref (x.2.2 (2 * 20)), .int 1, .int a1, .int 1]) (rest := []) (kb := 75) F w (k_X5_countMark l x S3 20 1 a1 1 (by decide) hc H.size) cy_X5_countMark q835 q836 q837 ⟨rfl, rfl⟩ ⟨Nat.le_of_ble_eq_true rfl, Nat.le_of_ble_eq_true rfl⟩ (by decide) rfl rfl rfl rfl hl.1 (Nat.le_of_ble_eq_true rfl) ⟨Nat.le_of_ble_eq_true rfl, Nat.le_of_ble_eq_true rfl⟩ dX8_makeDifferenceSet_33) (fun H locs w => ?_)
  refine lv_pop F.1 F.2.1 dX8_makeDifferenceSet_36 rfl ?_
  refine lv_aload_n F.1 F.2.1 dX8_makeDifferenceSet_37 rfl (lv_at hl 0 rfl) ?_
  refine g_RW_made F w q164 dX8_makeDifferenceSet_38 ?_
  refine lv_iconst (v := 1) F.1 F.2.1 dX8_makeDifferenceSet_41 (by decide) ?_
  obtain ⟨S6, hc, hf⟩ := oi_v hf
  refine k_v0 (S' := S6) w (runV (As := [.int 1]) (rest := []) (kb := 2 * 20) F w (k_X2_push l x S4 20 1 (by decide) hc H.size) cy_X2_push q653 q459 q460 ⟨rfl, rfl⟩ ⟨Nat.le_of_ble_eq_true rfl, Nat.le_of_ble_eq_true rfl⟩ (k_ms (by decide)) (enc_ms x S4 (by decide)) rfl rfl rfl hl.1 (Nat.le_of_ble_eq_true rfl) ⟨Nat.le_of_ble_eq_true rfl, Nat.le_of_ble_eq_true rfl⟩ dX8_makeDifferenceSet_42) (fun H locs w => ?_)
  refine lv_aload_n F.1 F.2.1 dX8_makeDifferenceSet_45 rfl (lv_at hl 0 rfl) ?_
  refine g_RW_made F w q164 dX8_makeDifferenceSet_46 ?_
  refine lv_aload_n F.1 F.2.1 dX8_makeDifferenceSet_49 rfl (lv_at hl 0 rfl) ?_
  refine g_RW_tally F w q170 dX8_makeDifferenceSet_50 ?_
  refine lv_iload_n F.1 F.2.1 dX8_makeDifferenceSet_53 rfl (lv_at hl 2 rfl) ?_
  refine lv_iconst (v := 2) F.1 F.2.1 dX8_makeDifferenceSet_54 (by decide) ?_
  refine lv_isub F.1 F.2.1 dX8_makeDifferenceSet_55 ?_
  refine lv_iload_n F.1 F.2.1 dX8_makeDifferenceSet_56 rfl (lv_at hl 1 rfl) ?_
  refine lv_iload_n F.1 F.2.1 dX8_makeDifferenceSet_57 rfl (lv_at hl 3 rfl) ?_
  obtain ⟨r8, S7, hc, hf⟩ := oi_b hf
  refine k_i0 (S' := S7) (r := r8) w (runS (As := [.ref (x.2.2 (2 * 20)), .ref (x.2.2 (75)), .int (a2 - (2 : Int32)), .int a1, .int a3]) (rest := []) F w (k_X8_finishDifferenceSet l x S6 20 (a2 - (2 : Int32)) a1 a3 (by decide) hc H.size) cy_X8_finishDifferenceSet q842 q843 ⟨rfl, rfl⟩ ⟨Nat.le_of_ble_eq_true rfl, Nat.le_of_ble_eq_true rfl⟩ rfl rfl hl.1 (Nat.le_of_ble_eq_true rfl) ⟨Nat.le_of_ble_eq_true rfl, Nat.le_of_ble_eq_true rfl⟩ dX8_makeDifferenceSet_58) (fun H locs w => ?_)
  obtain ⟨hz9, hf⟩ := oi_g hf
  exact r_zret F w (isB_nar hz9) (oi_s hf) dX8_makeDifferenceSet_61
def f_X8_makeDifferenceSet (S : ST) (a1 : Int32) (a2 : Int32) (a3 : Int32) : Option (Int32 × ST) := f_X8_makeDifferenceSet_0 S a1 a2 a3
set_option maxHeartbeats 4000000 in
set_option maxRecDepth 100000 in
theorem k_X8_makeDifferenceSet (l : Launch) (x : CX) (S : ST) (a1 : Int32) (a2 : Int32) (a3 : Int32) {res : Int32 × ST} (hf : f_X8_makeDifferenceSet S a1 a2 a3 = some res) (sz : Nat) : Met l yX8_makeDifferenceSet (Cond.code yX8_makeDifferenceSet cX8_makeDifferenceSet 4 (some .boolean) :: GW) ({ frames := 27, cells := 0, slots := 0, locals := 676 } : Room) (PC x S sz [.ref (x.2.2 (79)), .int a1, .int a2, .int a3]) (QI x res.2 res.1 sz) 0 0 (AA x sz) := by
  refine Met.ofW (cc := cX8_makeDifferenceSet) (maxL := 4) (ret := (some .boolean)) (by decide) rfl ?_
  intro p e s m args below meth c s₁ B hml hv
  obtain ⟨rfl, rfl, hPW⟩ := hv
  have F : MF p m meth c cX8_makeDifferenceSet 4 s _ RX8 (some .boolean) := MF.of B hml
  have w := WD.of hPW
  have hl := lv_entry ([.ref (x.2.2 (79)), .int a1, .int a2, .int a3]) (n := 4) (Nat.le_of_ble_eq_true rfl)
  rw [lg_entry_eq]
  generalize (lg_sl ([.ref (x.2.2 (79)), .int a1, .int a2, .int a3]) ++ List.replicate (4 - (lg_sl ([.ref (x.2.2 (79)), .int a1, .int a2, .int a3])).length) Slot.unset).toArray = ls at hl ⊢
  have hl : lv_has ls 4 [(0, .ref (x.2.2 (79))), (1, .int a1), (2, .int a2), (3, .int a3)] := hl
  unfold f_X8_makeDifferenceSet at hf
  exact b_X8_makeDifferenceSet_0 F  _ _ _ _ w a1 a2 a3 (lv_sub hl [0, 1, 2, 3] rfl) hf
theorem cy_X8_mixed : CY yX8_mixed RX8 cX8_mixed 4 (some .long) 2 := ⟨q1, q235, rfl, by decide, by decide, by decide +kernel⟩
def f_X8_mixed_0 (S : ST) (a0 : Int64) (a2 : Int64) : Option (Int64 × ST) := some ((((31 : Int64) * a0) + a2), S)
set_option maxHeartbeats 4000000 in
set_option maxRecDepth 100000 in
theorem b_X8_mixed_0 {p : Program} {l : Launch} {e : Env} {s : State} {m : MethodId} {args : Array Value} {below : List Frame} {meth : Method} {c : Code} {x : CX} {res : Int64 × ST} (F : MF p m meth c cX8_mixed 4 s args RX8 (some .long)) : ∀ (H : Heap) (locs : List Loc) (ls : Array Slot) (S : ST), WD x s S H locs → ∀ (a0 : Int64) (a2 : Int64), lv_has ls 4 [(0, .long a0), (2, .long a2)] → f_X8_mixed_0 S a0 a2 = some res → W p l e ({ frames := 0, cells := 0, slots := 0, locals := 0 } : Room) s m args below meth c H locs 0 0 (MQ below (QL x res.2 res.1 s.heap.size) args s 0 0 (AA x s.heap.size)) (F0 m 0 ls []) := by
  intro H locs ls S w a0 a2 hl hf
  unfold f_X8_mixed_0 at hf
  refine lv_ldc2 (v := 31) F.1 F.2.1 F.2.2.2.1 (F.2.2.2.2.1 _ q236) dX8_mixed_0 ?_
  refine lv_lload_n F.1 F.2.1 dX8_mixed_3 rfl (lv_at hl 0 rfl) ?_
  refine lv_lmul F.1 F.2.1 dX8_mixed_4 ?_
  refine lv_lload_n F.1 F.2.1 dX8_mixed_5 rfl (lv_at hl 1 rfl) ?_
  refine lv_ladd F.1 F.2.1 dX8_mixed_6 ?_
  exact r_lret F w (oi_s hf) dX8_mixed_7
def f_X8_mixed (S : ST) (a0 : Int64) (a2 : Int64) : Option (Int64 × ST) := f_X8_mixed_0 S a0 a2
set_option maxHeartbeats 4000000 in
set_option maxRecDepth 100000 in
theorem k_X8_mixed (l : Launch) (x : CX) (S : ST) (a0 : Int64) (a2 : Int64) {res : Int64 × ST} (hf : f_X8_mixed S a0 a2 = some res) (sz : Nat) : Met l yX8_mixed (Cond.code yX8_mixed cX8_mixed 4 (some .long) :: GW) ({ frames := 0, cells := 0, slots := 0, locals := 0 } : Room) (PC x S sz [.long a0, .long a2]) (QL x res.2 res.1 sz) 0 0 (AA x sz) := by
  refine Met.ofW (cc := cX8_mixed) (maxL := 4) (ret := (some .long)) (by decide) rfl ?_
  intro p e s m args below meth c s₁ B hml hv
  obtain ⟨rfl, rfl, hPW⟩ := hv
  have F : MF p m meth c cX8_mixed 4 s _ RX8 (some .long) := MF.of B hml
  have w := WD.of hPW
  have hl := lv_entry ([.long a0, .long a2]) (n := 4) (Nat.le_of_ble_eq_true rfl)
  rw [lg_entry_eq]
  generalize (lg_sl ([.long a0, .long a2]) ++ List.replicate (4 - (lg_sl ([.long a0, .long a2])).length) Slot.unset).toArray = ls at hl ⊢
  have hl : lv_has ls 4 [(0, .long a0), (2, .long a2)] := hl
  unfold f_X8_mixed at hf
  exact b_X8_mixed_0 F  _ _ _ _ w a0 a2 (lv_sub hl [0, 1] rfl) hf
theorem cy_X8_mixedSet : CY yX8_mixedSet RX8 cX8_mixedSet 8 (some .long) 3 := ⟨q1, q240, rfl, by decide, by decide, by decide +kernel⟩
def f_X8_mixedSet_132 (S : ST) (a5 : Int64) : Option (Int64 × ST) := some (a5, S)
set_option maxHeartbeats 4000000 in
set_option maxRecDepth 100000 in
theorem b_X8_mixedSet_132 {p : Program} {l : Launch} {e : Env} {s : State} {m : MethodId} {args : Array Value} {below : List Frame} {meth : Method} {c : Code} {x : CX} {res : Int64 × ST} (F : MF p m meth c cX8_mixedSet 8 s args RX8 (some .long)) : ∀ (H : Heap) (locs : List Loc) (ls : Array Slot) (S : ST), WD x s S H locs → ∀ (a5 : Int64), lv_has ls 8 [(5, .long a5)] → f_X8_mixedSet_132 S a5 = some res → W p l e ({ frames := 4, cells := 0, slots := 0, locals := 93 } : Room) s m args below meth c H locs 0 0 (MQ below (QL x res.2 res.1 s.heap.size) args s 0 0 (AA x s.heap.size)) (F0 m 132 ls []) := by
  intro H locs ls S w a5 hl hf
  unfold f_X8_mixedSet_132 at hf
  refine lv_lload F.1 F.2.1 dX8_mixedSet_132 (lv_at hl 0 rfl) ?_
  exact r_lret F w (oi_s hf) dX8_mixedSet_134
def f_X8_mixedSet_58 (S : ST) (i3 : Nat) (i4 : Nat) (as0 : Int64) (as1 : Int64) : Option (Int64 × ST) := oB (f_X8_mixed S as1 as0) (fun (r2 : Int64) (S1 : ST) => oB (f_X3_unbroken S1 i4) (fun (r4 : Int32) (S3 : ST) => oB (f_X8_mixed S3 r2 (Int32.toInt64 r4)) (fun (r6 : Int64) (S5 : ST) => oB (f_X0_ones S5 (i4 + 1)) (fun (r8 : Int32) (S7 : ST) => oB (f_X8_mixed S7 r6 (Int32.toInt64 r8)) (fun (r10 : Int64) (S9 : ST) => oB (f_X2_greatest S9 i3) (fun (r12 : Int32) (S11 : ST) => (if (fi S11 (30 + 0)) ≤ r12 then f_X8_mixedSet_132 S11 r10 else oB (f_X8_indexOf S11 i3) (fun (r15 : Int32) (S14 : ST) => oB (f_X8_mixed S14 r10 (Int32.toInt64 r15)) (fun (r17 : Int64) (S16 : ST) => oB (f_X8_countMultipliers S16 i3) (fun (r19 : Int32) (S18 : ST) => oB (f_X8_mixed S18 r17 (Int32.toInt64 r19)) (fun (r21 : Int64) (S20 : ST) => f_X8_mixedSet_132 S20 r21)))))))))))
set_option maxHeartbeats 4000000 in
set_option maxRecDepth 100000 in
theorem b_X8_mixedSet_58 {p : Program} {l : Launch} {e : Env} {s : State} {m : MethodId} {args : Array Value} {below : List Frame} {meth : Method} {c : Code} {x : CX} {res : Int64 × ST} (F : MF p m meth c cX8_mixedSet 8 s args RX8 (some .long)) : ∀ (H : Heap) (locs : List Loc) (ls : Array Slot) (S : ST), WD x s S H locs → ∀ (i3 : Nat) (i4 : Nat) (as0 : Int64) (as1 : Int64), i3 < 22 → i4 < 4 → lv_has ls 8 [(0, .ref (x.2.2 (79))), (3, .ref (x.2.2 (2 * i3))), (4, .ref (x.2.2 (58 + i4)))] → f_X8_mixedSet_58 S i3 i4 as0 as1 = some res → W p l e ({ frames := 4, cells := 0, slots := 0, locals := 93 } : Room) s m args below meth c H locs 0 0 (MQ below (QL x res.2 res.1 s.heap.size) args s 0 0 (AA x s.heap.size)) (F0 m 58 ls [.long as0, .long as1]) := by
  intro H locs ls S w i3 i4 as0 as1 h3 h4 hl hf
  unfold f_X8_mixedSet_58 at hf
  obtain ⟨r2, S1, hc, hf⟩ := oi_b hf
  refine k_l0 (S' := S1) (r := r2) w (runS (As := [.long as1, .long as0]) (rest := []) F w (k_X8_mixed l x S as1 as0 hc H.size) cy_X8_mixed q233 q234 ⟨rfl, rfl⟩ ⟨Nat.le_of_ble_eq_true rfl, Nat.le_of_ble_eq_true rfl⟩ rfl rfl hl.1 (Nat.le_of_ble_eq_true rfl) ⟨Nat.le_of_ble_eq_true rfl, Nat.le_of_ble_eq_true rfl⟩ dX8_mixedSet_58) (fun H locs w => ?_)
  refine lv_lstore (lv' := [(5, .long r2), (0, .ref (x.2.2 (79))), (3, .ref (x.2.2 (2 * i3))), (4, .ref (x.2.2 (58 + i4)))]) F.1 F.2.1 dX8_mixedSet_61 hl (by decide) rfl (fun ls hl => ?_)
  refine lv_lload F.1 F.2.1 dX8_mixedSet_63 (lv_at hl 0 rfl) ?_
  refine lv_aload F.1 F.2.1 dX8_mixedSet_65 (lv_at hl 3 rfl) ?_
  obtain ⟨r4, S3, hc, hf⟩ := oi_b hf
  refine k_i0 (S' := S3) (r := r4) w (runV (As := []) (rest := [.long r2]) (kb := 58 + i4) F w (k_X3_unbroken l x S1 i4 h4 hc H.size) cy_X3_unbroken q242 q243 q244 ⟨rfl, rfl⟩ ⟨Nat.le_of_ble_eq_true rfl, Nat.le_of_ble_eq_true rfl⟩ (k_sp h4) (enc_sp x S1 h4) rfl rfl rfl hl.1 (Nat.le_of_ble_eq_true rfl) ⟨Nat.le_of_ble_eq_true rfl, Nat.le_of_ble_eq_true rfl⟩ dX8_mixedSet_67) (fun H locs w => ?_)
  refine lv_i2l (v := Int32.toInt64 r4) F.1 F.2.1 dX8_mixedSet_70 rfl ?_
  obtain ⟨r6, S5, hc, hf⟩ := oi_b hf
  refine k_l0 (S' := S5) (r := r6) w (runS (As := [.long r2, .long (Int32.toInt64 r4)]) (rest := []) F w (k_X8_mixed l x S3 r2 (Int32.toInt64 r4) hc H.size) cy_X8_mixed q233 q234 ⟨rfl, rfl⟩ ⟨Nat.le_of_ble_eq_true rfl, Nat.le_of_ble_eq_true rfl⟩ rfl rfl hl.1 (Nat.le_of_ble_eq_true rfl) ⟨Nat.le_of_ble_eq_true rfl, Nat.le_of_ble_eq_true rfl⟩ dX8_mixedSet_71) (fun H locs w => ?_)
  refine lv_lstore (lv' := [(5, .long r6), (0, .ref (x.2.2 (79))), (3, .ref (x.2.2 (2 * i3))), (4, .ref (x.2.2 (58 + i4)))]) F.1 F.2.1 dX8_mixedSet_74 hl (by decide) rfl (fun ls hl => ?_)
  refine lv_lload F.1 F.2.1 dX8_mixedSet_76 (lv_at hl 0 rfl) ?_
  refine lv_aload F.1 F.2.1 dX8_mixedSet_78 (lv_at hl 3 rfl) ?_
  refine gN_SP_row (i := i4) F w h4 (by simp [NF]) dX8_mixedSet_80 ?_
  obtain ⟨r8, S7, hc, hf⟩ := oi_b hf
  refine k_i0 (S' := S7) (r := r8) w (runV (As := []) (rest := [.long r6]) (kb := 48 + 2 * (i4 + 1)) F w (k_X0_ones l x S5 (i4 + 1) (Nat.succ_lt_succ h4) hc H.size) cy_X0_ones q246 q247 q248 ⟨rfl, rfl⟩ ⟨Nat.le_of_ble_eq_true rfl, Nat.le_of_ble_eq_true rfl⟩ (k_br (Nat.succ_lt_succ h4)) (enc_br x S5 (Nat.succ_lt_succ h4)) rfl rfl rfl hl.1 (Nat.le_of_ble_eq_true rfl) ⟨Nat.le_of_ble_eq_true rfl, Nat.le_of_ble_eq_true rfl⟩ dX8_mixedSet_83) (fun H locs w => ?_)
  refine lv_i2l (v := Int32.toInt64 r8) F.1 F.2.1 dX8_mixedSet_86 rfl ?_
  obtain ⟨r10, S9, hc, hf⟩ := oi_b hf
  refine k_l0 (S' := S9) (r := r10) w (runS (As := [.long r6, .long (Int32.toInt64 r8)]) (rest := []) F w (k_X8_mixed l x S7 r6 (Int32.toInt64 r8) hc H.size) cy_X8_mixed q233 q234 ⟨rfl, rfl⟩ ⟨Nat.le_of_ble_eq_true rfl, Nat.le_of_ble_eq_true rfl⟩ rfl rfl hl.1 (Nat.le_of_ble_eq_true rfl) ⟨Nat.le_of_ble_eq_true rfl, Nat.le_of_ble_eq_true rfl⟩ dX8_mixedSet_87) (fun H locs w => ?_)
  refine lv_lstore (lv' := [(5, .long r10), (0, .ref (x.2.2 (79))), (3, .ref (x.2.2 (2 * i3))), (4, .ref (x.2.2 (58 + i4)))]) F.1 F.2.1 dX8_mixedSet_90 hl (by decide) rfl (fun ls hl => ?_)
  refine lv_aload_n F.1 F.2.1 dX8_mixedSet_92 rfl (lv_at hl 2 rfl) ?_
  obtain ⟨r12, S11, hc, hf⟩ := oi_b hf
  refine k_i0 (S' := S11) (r := r12) w (runV (As := []) (rest := []) (kb := 2 * i3) F w (k_X2_greatest l x S9 i3 h3 hc H.size) cy_X2_greatest q256 q257 q258 ⟨rfl, rfl⟩ ⟨Nat.le_of_ble_eq_true rfl, Nat.le_of_ble_eq_true rfl⟩ (k_ms h3) (enc_ms x S9 h3) rfl rfl rfl hl.1 (Nat.le_of_ble_eq_true rfl) ⟨Nat.le_of_ble_eq_true rfl, Nat.le_of_ble_eq_true rfl⟩ dX8_mixedSet_93) (fun H locs w => ?_)
  refine lv_aload_n F.1 F.2.1 dX8_mixedSet_96 rfl (lv_at hl 1 rfl) ?_
  refine g_RW_now F w q162 dX8_mixedSet_97 ?_
  refine gN_ST_modulus (i := 0) F w (by decide) (by simp [NF]) dX8_mixedSet_100 ?_
  refine lv_icmp_ge (tgt := 132) F.1 F.2.1 dX8_mixedSet_103 (by decide) (fun c13 => ?_) (fun c13 => ?_)
  · replace hf := oi_t hf c13
    exact b_X8_mixedSet_132 F  _ _ _ _ w r10 (lv_sub hl [0] rfl) hf
  · replace hf := oi_f hf c13
    refine lv_lload F.1 F.2.1 dX8_mixedSet_106 (lv_at hl 0 rfl) ?_
    refine lv_aload_n F.1 F.2.1 dX8_mixedSet_108 rfl (lv_at hl 1 rfl) ?_
    refine lv_aload_n F.1 F.2.1 dX8_mixedSet_109 rfl (lv_at hl 2 rfl) ?_
    obtain ⟨r15, S14, hc, hf⟩ := oi_b hf
    refine k_i0 (S' := S14) (r := r15) w (runV (As := [.ref (x.2.2 (2 * i3))]) (rest := [.long r10]) (kb := 79) F w (k_X8_indexOf l x S11 i3 h3 hc H.size) cy_X8_indexOf q261 q263 qp3 ⟨rfl, rfl⟩ ⟨Nat.le_of_ble_eq_true rfl, Nat.le_of_ble_eq_true rfl⟩ (by decide) rfl rfl rfl rfl hl.1 (Nat.le_of_ble_eq_true rfl) ⟨Nat.le_of_ble_eq_true rfl, Nat.le_of_ble_eq_true rfl⟩ dX8_mixedSet_110) (fun H locs w => ?_)
    refine lv_i2l (v := Int32.toInt64 r15) F.1 F.2.1 dX8_mixedSet_113 rfl ?_
    obtain ⟨r17, S16, hc, hf⟩ := oi_b hf
    refine k_l0 (S' := S16) (r := r17) w (runS (As := [.long r10, .long (Int32.toInt64 r15)]) (rest := []) F w (k_X8_mixed l x S14 r10 (Int32.toInt64 r15) hc H.size) cy_X8_mixed q233 q234 ⟨rfl, rfl⟩ ⟨Nat.le_of_ble_eq_true rfl, Nat.le_of_ble_eq_true rfl⟩ rfl rfl hl.1 (Nat.le_of_ble_eq_true rfl) ⟨Nat.le_of_ble_eq_true rfl, Nat.le_of_ble_eq_true rfl⟩ dX8_mixedSet_114) (fun H locs w => ?_)
    refine lv_lstore (lv' := [(5, .long r17), (0, .ref (x.2.2 (79))), (3, .ref (x.2.2 (2 * i3))), (4, .ref (x.2.2 (58 + i4)))]) F.1 F.2.1 dX8_mixedSet_117 hl (by decide) rfl (fun ls hl => ?_)
    refine lv_lload F.1 F.2.1 dX8_mixedSet_119 (lv_at hl 0 rfl) ?_
    refine lv_aload_n F.1 F.2.1 dX8_mixedSet_121 rfl (lv_at hl 1 rfl) ?_
    refine lv_aload_n F.1 F.2.1 dX8_mixedSet_122 rfl (lv_at hl 2 rfl) ?_
    obtain ⟨r19, S18, hc, hf⟩ := oi_b hf
    refine k_i0 (S' := S18) (r := r19) w (runV (As := [.ref (x.2.2 (2 * i3))]) (rest := [.long r17]) (kb := 79) F w (k_X8_countMultipliers l x S16 i3 h3 hc H.size) cy_X8_countMultipliers q290 q292 qp4 ⟨rfl, rfl⟩ ⟨Nat.le_of_ble_eq_true rfl, Nat.le_of_ble_eq_true rfl⟩ (by decide) rfl rfl rfl rfl hl.1 (Nat.le_of_ble_eq_true rfl) ⟨Nat.le_of_ble_eq_true rfl, Nat.le_of_ble_eq_true rfl⟩ dX8_mixedSet_123) (fun H locs w => ?_)
    refine lv_i2l (v := Int32.toInt64 r19) F.1 F.2.1 dX8_mixedSet_126 rfl ?_
    obtain ⟨r21, S20, hc, hf⟩ := oi_b hf
    refine k_l0 (S' := S20) (r := r21) w (runS (As := [.long r17, .long (Int32.toInt64 r19)]) (rest := []) F w (k_X8_mixed l x S18 r17 (Int32.toInt64 r19) hc H.size) cy_X8_mixed q233 q234 ⟨rfl, rfl⟩ ⟨Nat.le_of_ble_eq_true rfl, Nat.le_of_ble_eq_true rfl⟩ rfl rfl hl.1 (Nat.le_of_ble_eq_true rfl) ⟨Nat.le_of_ble_eq_true rfl, Nat.le_of_ble_eq_true rfl⟩ dX8_mixedSet_127) (fun H locs w => ?_)
    refine lv_lstore (lv' := [(5, .long r21), (0, .ref (x.2.2 (79))), (3, .ref (x.2.2 (2 * i3))), (4, .ref (x.2.2 (58 + i4)))]) F.1 F.2.1 dX8_mixedSet_130 hl (by decide) rfl (fun ls hl => ?_)
    exact b_X8_mixedSet_132 F  _ _ _ _ w r21 (lv_sub hl [0] rfl) hf
def f_X8_mixedSet_14 : Nat → ST → Nat → Nat → Int64 → Int32 → Option (Int64 × ST)
  | 0, _, _, _, _, _ => none
  | n + 1, S, i3, i4, a5, a7 => (if (fi S i3) ≤ a7 then (if (fi S (40 + i4)) = 0 then f_X8_mixedSet_58 S i3 i4 0 a5 else f_X8_mixedSet_58 S i3 i4 1 a5) else oB (f_X2_at S i3 a7) (fun (r4 : Int32) (S3 : ST) => oB (f_X8_mixed S3 a5 (Int32.toInt64 r4)) (fun (r6 : Int64) (S5 : ST) => oL (a7 + 1) (fun (v7 : Int32) => (f_X8_mixedSet_14 n) S5 i3 i4 r6 v7))))
set_option maxHeartbeats 4000000 in
set_option maxRecDepth 100000 in
theorem b_X8_mixedSet_14 {p : Program} {l : Launch} {e : Env} {s : State} {m : MethodId} {args : Array Value} {below : List Frame} {meth : Method} {c : Code} {x : CX} {res : Int64 × ST} (F : MF p m meth c cX8_mixedSet 8 s args RX8 (some .long)) : ∀ (n : Nat), ∀ (H : Heap) (locs : List Loc) (ls : Array Slot) (S : ST), WD x s S H locs → ∀ (i3 : Nat) (i4 : Nat) (a5 : Int64) (a7 : Int32), i3 < 22 → i4 < 4 → lv_has ls 8 [(0, .ref (x.2.2 (79))), (3, .ref (x.2.2 (2 * i3))), (4, .ref (x.2.2 (58 + i4))), (5, .long a5), (7, .int a7)] → f_X8_mixedSet_14 n S i3 i4 a5 a7 = some res → W p l e ({ frames := 4, cells := 0, slots := 0, locals := 93 } : Room) s m args below meth c H locs 0 0 (MQ below (QL x res.2 res.1 s.heap.size) args s 0 0 (AA x s.heap.size)) (F0 m 14 ls []) := by
  intro n
  induction n with
  | zero =>
    intro H locs ls S w i3 i4 a5 a7 h3 h4 hl hf
    have hf : (none : Option (Int64 × ST)) = some res := hf
    cases hf
  | succ n ih =>
    intro H locs ls S w i3 i4 a5 a7 h3 h4 hl hf
    unfold f_X8_mixedSet_14 at hf
    refine lv_iload F.1 F.2.1 dX8_mixedSet_14 (lv_at hl 4 rfl) ?_
    refine lv_aload_n F.1 F.2.1 dX8_mixedSet_16 rfl (lv_at hl 1 rfl) ?_
    refine gN_MS_count (i := i3) F w h3 (by simp [NF]) dX8_mixedSet_17 ?_
    refine lv_icmp_ge (tgt := 43) F.1 F.2.1 dX8_mixedSet_20 (by decide) (fun c1 => ?_) (fun c1 => ?_)
    · replace hf := oi_t hf c1
      refine lv_lload F.1 F.2.1 dX8_mixedSet_43 (lv_at hl 3 rfl) ?_
      refine lv_aload F.1 F.2.1 dX8_mixedSet_45 (lv_at hl 2 rfl) ?_
      refine gN_SP_distinct (i := i4) F w h4 (by simp [NF]) dX8_mixedSet_47 ?_
      refine lv_if_eq (tgt := 57) F.1 F.2.1 dX8_mixedSet_50 (by decide) (fun c2 => ?_) (fun c2 => ?_)
      · replace hf := oi_t hf c2
        refine lv_lconst (v := 0) F.1 F.2.1 dX8_mixedSet_57 (by decide) ?_
        exact b_X8_mixedSet_58 F  _ _ _ _ w i3 i4 0 a5 h3 h4 (lv_sub hl [0, 1, 2] rfl) hf
      · replace hf := oi_f hf c2
        refine lv_lconst (v := 1) F.1 F.2.1 dX8_mixedSet_53 (by decide) ?_
        refine lv_goto (tgt := 58) F.1 F.2.1 dX8_mixedSet_54 (by decide) ?_
        exact b_X8_mixedSet_58 F  _ _ _ _ w i3 i4 1 a5 h3 h4 (lv_sub hl [0, 1, 2] rfl) hf
    · replace hf := oi_f hf c1
      refine lv_lload F.1 F.2.1 dX8_mixedSet_23 (lv_at hl 3 rfl) ?_
      refine lv_aload_n F.1 F.2.1 dX8_mixedSet_25 rfl (lv_at hl 1 rfl) ?_
      refine lv_iload F.1 F.2.1 dX8_mixedSet_26 (lv_at hl 4 rfl) ?_
      obtain ⟨r4, S3, hc, hf⟩ := oi_b hf
      refine k_i0 (S' := S3) (r := r4) w (runV (As := [.int a7]) (rest := [.long a5]) (kb := 2 * i3) F w (k_X2_at l x S i3 a7 h3 hc H.size) cy_X2_at q241 q217 q218 ⟨rfl, rfl⟩ ⟨Nat.le_of_ble_eq_true rfl, Nat.le_of_ble_eq_true rfl⟩ (k_ms h3) (enc_ms x S h3) rfl rfl rfl hl.1 (Nat.le_of_ble_eq_true rfl) ⟨Nat.le_of_ble_eq_true rfl, Nat.le_of_ble_eq_true rfl⟩ dX8_mixedSet_28) (fun H locs w => ?_)
      refine lv_i2l (v := Int32.toInt64 r4) F.1 F.2.1 dX8_mixedSet_31 rfl ?_
      obtain ⟨r6, S5, hc, hf⟩ := oi_b hf
      refine k_l0 (S' := S5) (r := r6) w (runS (As := [.long a5, .long (Int32.toInt64 r4)]) (rest := []) F w (k_X8_mixed l x S3 a5 (Int32.toInt64 r4) hc H.size) cy_X8_mixed q233 q234 ⟨rfl, rfl⟩ ⟨Nat.le_of_ble_eq_true rfl, Nat.le_of_ble_eq_true rfl⟩ rfl rfl hl.1 (Nat.le_of_ble_eq_true rfl) ⟨Nat.le_of_ble_eq_true rfl, Nat.le_of_ble_eq_true rfl⟩ dX8_mixedSet_32) (fun H locs w => ?_)
      refine lv_lstore (lv' := [(5, .long r6), (0, .ref (x.2.2 (79))), (3, .ref (x.2.2 (2 * i3))), (4, .ref (x.2.2 (58 + i4))), (7, .int a7)]) F.1 F.2.1 dX8_mixedSet_35 hl (by decide) rfl (fun ls hl => ?_)
      obtain ⟨v7, e_v7⟩ : ∃ y : Int32, y = (a7 + 1) := ⟨_, rfl⟩
      replace hf := oi_l hf e_v7
      refine lv_iinc (v := v7) (lv' := [(7, .int v7), (5, .long r6), (0, .ref (x.2.2 (79))), (3, .ref (x.2.2 (2 * i3))), (4, .ref (x.2.2 (58 + i4)))]) F.1 F.2.1 dX8_mixedSet_37 hl (k := 4) rfl (by rw [e_v7]; rfl) (by decide) rfl (fun ls hl => ?_)
      refine lv_goto (tgt := 14) F.1 F.2.1 dX8_mixedSet_40 (by decide) ?_
      exact ih _ _ _ _ w i3 i4 r6 v7 h3 h4 (lv_sub hl [2, 3, 4, 1, 0] rfl) hf
def f_X8_mixedSet_0 (S : ST) (a1 : Int64) (i3 : Nat) (i4 : Nat) : Option (Int64 × ST) := oB (f_X8_mixed S a1 (Int32.toInt64 (fi S i3))) (fun (r2 : Int64) (S1 : ST) => f_X8_mixedSet_14 FU S1 i3 i4 r2 0)
set_option maxHeartbeats 4000000 in
set_option maxRecDepth 100000 in
theorem b_X8_mixedSet_0 {p : Program} {l : Launch} {e : Env} {s : State} {m : MethodId} {args : Array Value} {below : List Frame} {meth : Method} {c : Code} {x : CX} {res : Int64 × ST} (F : MF p m meth c cX8_mixedSet 8 s args RX8 (some .long)) : ∀ (H : Heap) (locs : List Loc) (ls : Array Slot) (S : ST), WD x s S H locs → ∀ (a1 : Int64) (i3 : Nat) (i4 : Nat), i3 < 22 → i4 < 4 → lv_has ls 8 [(0, .ref (x.2.2 (79))), (1, .long a1), (3, .ref (x.2.2 (2 * i3))), (4, .ref (x.2.2 (58 + i4)))] → f_X8_mixedSet_0 S a1 i3 i4 = some res → W p l e ({ frames := 4, cells := 0, slots := 0, locals := 93 } : Room) s m args below meth c H locs 0 0 (MQ below (QL x res.2 res.1 s.heap.size) args s 0 0 (AA x s.heap.size)) (F0 m 0 ls []) := by
  intro H locs ls S w a1 i3 i4 h3 h4 hl hf
  unfold f_X8_mixedSet_0 at hf
  refine lv_lload_n F.1 F.2.1 dX8_mixedSet_0 rfl (lv_at hl 1 rfl) ?_
  refine lv_aload_n F.1 F.2.1 dX8_mixedSet_1 rfl (lv_at hl 2 rfl) ?_
  refine gN_MS_count (i := i3) F w h3 (by simp [NF]) dX8_mixedSet_2 ?_
  refine lv_i2l (v := Int32.toInt64 (fi S i3)) F.1 F.2.1 dX8_mixedSet_5 rfl ?_
  obtain ⟨r2, S1, hc, hf⟩ := oi_b hf
  refine k_l0 (S' := S1) (r := r2) w (runS (As := [.long a1, .long (Int32.toInt64 (fi S i3))]) (rest := []) F w (k_X8_mixed l x S a1 (Int32.toInt64 (fi S i3)) hc H.size) cy_X8_mixed q233 q234 ⟨rfl, rfl⟩ ⟨Nat.le_of_ble_eq_true rfl, Nat.le_of_ble_eq_true rfl⟩ rfl rfl hl.1 (Nat.le_of_ble_eq_true rfl) ⟨Nat.le_of_ble_eq_true rfl, Nat.le_of_ble_eq_true rfl⟩ dX8_mixedSet_6) (fun H locs w => ?_)
  refine lv_lstore (lv' := [(5, .long r2), (0, .ref (x.2.2 (79))), (1, .long a1), (3, .ref (x.2.2 (2 * i3))), (4, .ref (x.2.2 (58 + i4)))]) F.1 F.2.1 dX8_mixedSet_9 hl (by decide) rfl (fun ls hl => ?_)
  refine lv_iconst (v := 0) F.1 F.2.1 dX8_mixedSet_11 (by decide) ?_
  refine lv_istore (lv' := [(7, .int 0), (5, .long r2), (0, .ref (x.2.2 (79))), (1, .long a1), (3, .ref (x.2.2 (2 * i3))), (4, .ref (x.2.2 (58 + i4)))]) F.1 F.2.1 dX8_mixedSet_12 hl (by decide) rfl (fun ls hl => ?_)
  exact b_X8_mixedSet_14 F FU _ _ _ _ w i3 i4 r2 0 h3 h4 (lv_sub hl [2, 4, 5, 1, 0] rfl) hf
def f_X8_mixedSet (S : ST) (a1 : Int64) (i3 : Nat) (i4 : Nat) : Option (Int64 × ST) := f_X8_mixedSet_0 S a1 i3 i4
set_option maxHeartbeats 4000000 in
set_option maxRecDepth 100000 in
theorem k_X8_mixedSet (l : Launch) (x : CX) (S : ST) (a1 : Int64) (i3 : Nat) (i4 : Nat) (h3 : i3 < 22) (h4 : i4 < 4) {res : Int64 × ST} (hf : f_X8_mixedSet S a1 i3 i4 = some res) (sz : Nat) : Met l yX8_mixedSet (Cond.code yX8_mixedSet cX8_mixedSet 8 (some .long) :: GW) ({ frames := 4, cells := 0, slots := 0, locals := 93 } : Room) (PC x S sz [.ref (x.2.2 (79)), .long a1, .ref (x.2.2 (2 * i3)), .ref (x.2.2 (58 + i4))]) (QL x res.2 res.1 sz) 0 0 (AA x sz) := by
  refine Met.ofW (cc := cX8_mixedSet) (maxL := 8) (ret := (some .long)) (by decide) rfl ?_
  intro p e s m args below meth c s₁ B hml hv
  obtain ⟨rfl, rfl, hPW⟩ := hv
  have F : MF p m meth c cX8_mixedSet 8 s _ RX8 (some .long) := MF.of B hml
  have w := WD.of hPW
  have hl := lv_entry ([.ref (x.2.2 (79)), .long a1, .ref (x.2.2 (2 * i3)), .ref (x.2.2 (58 + i4))]) (n := 8) (Nat.le_of_ble_eq_true rfl)
  rw [lg_entry_eq]
  generalize (lg_sl ([.ref (x.2.2 (79)), .long a1, .ref (x.2.2 (2 * i3)), .ref (x.2.2 (58 + i4))]) ++ List.replicate (8 - (lg_sl ([.ref (x.2.2 (79)), .long a1, .ref (x.2.2 (2 * i3)), .ref (x.2.2 (58 + i4))])).length) Slot.unset).toArray = ls at hl ⊢
  have hl : lv_has ls 8 [(0, .ref (x.2.2 (79))), (1, .long a1), (3, .ref (x.2.2 (2 * i3))), (4, .ref (x.2.2 (58 + i4)))] := hl
  unfold f_X8_mixedSet at hf
  exact b_X8_mixedSet_0 F  _ _ _ _ w a1 i3 i4 h3 h4 (lv_sub hl [0, 1, 2, 3] rfl) hf
theorem cy_X8_digest : CY yX8_digest RX8 cX8_digest 4 (some .long) 0 := ⟨q1, q196, rfl, by decide, by decide, by decide +kernel⟩
def f_X8_digest_86 (k66 : ST → Int64 → Int32 → Option (Int64 × ST)) (S : ST) (a3 : Int32) (as0 : Int64) (as1 : Int64) : Option (Int64 × ST) := oB (f_X8_mixed S as1 as0) (fun (r2 : Int64) (S1 : ST) => oL (a3 + 1) (fun (v3 : Int32) => k66 S1 r2 v3))
set_option maxHeartbeats 4000000 in
set_option maxRecDepth 100000 in
theorem b_X8_digest_86 {p : Program} {l : Launch} {e : Env} {s : State} {m : MethodId} {args : Array Value} {below : List Frame} {meth : Method} {c : Code} {x : CX} {res : Int64 × ST} (F : MF p m meth c cX8_digest 4 s args RX8 (some .long)) (k66 : ST → Int64 → Int32 → Option (Int64 × ST)) (hk66 : ∀ (H : Heap) (locs : List Loc) (ls : Array Slot) (S : ST), WD x s S H locs → ∀ (a1 : Int64) (a3 : Int32), lv_has ls 4 [(0, .ref (x.2.2 (79))), (1, .long a1), (3, .int a3)] → k66 S a1 a3 = some res → W p l e ({ frames := 5, cells := 0, slots := 0, locals := 120 } : Room) s m args below meth c H locs 0 0 (MQ below (QL x res.2 res.1 s.heap.size) args s 0 0 (AA x s.heap.size)) (F0 m 66 ls [])) : ∀ (H : Heap) (locs : List Loc) (ls : Array Slot) (S : ST), WD x s S H locs → ∀ (a3 : Int32) (as0 : Int64) (as1 : Int64), lv_has ls 4 [(0, .ref (x.2.2 (79))), (3, .int a3)] → f_X8_digest_86 k66 S a3 as0 as1 = some res → W p l e ({ frames := 5, cells := 0, slots := 0, locals := 120 } : Room) s m args below meth c H locs 0 0 (MQ below (QL x res.2 res.1 s.heap.size) args s 0 0 (AA x s.heap.size)) (F0 m 86 ls [.long as0, .long as1]) := by
  intro H locs ls S w a3 as0 as1 hl hf
  unfold f_X8_digest_86 at hf
  obtain ⟨r2, S1, hc, hf⟩ := oi_b hf
  refine k_l0 (S' := S1) (r := r2) w (runS (As := [.long as1, .long as0]) (rest := []) F w (k_X8_mixed l x S as1 as0 hc H.size) cy_X8_mixed q233 q234 ⟨rfl, rfl⟩ ⟨Nat.le_of_ble_eq_true rfl, Nat.le_of_ble_eq_true rfl⟩ rfl rfl hl.1 (Nat.le_of_ble_eq_true rfl) ⟨Nat.le_of_ble_eq_true rfl, Nat.le_of_ble_eq_true rfl⟩ dX8_digest_86) (fun H locs w => ?_)
  refine lv_lstore_n (lv' := [(1, .long r2), (0, .ref (x.2.2 (79))), (3, .int a3)]) F.1 F.2.1 dX8_digest_89 rfl hl (by decide) rfl (fun ls hl => ?_)
  obtain ⟨v3, e_v3⟩ : ∃ y : Int32, y = (a3 + 1) := ⟨_, rfl⟩
  replace hf := oi_l hf e_v3
  refine lv_iinc (v := v3) (lv' := [(3, .int v3), (1, .long r2), (0, .ref (x.2.2 (79)))]) F.1 F.2.1 dX8_digest_90 hl (k := 2) rfl (by rw [e_v3]; rfl) (by decide) rfl (fun ls hl => ?_)
  refine lv_goto (tgt := 66) F.1 F.2.1 dX8_digest_93 (by decide) ?_
  exact hk66 _ _ _ _ w r2 v3 (lv_sub hl [2, 1, 0] rfl) hf
def f_X8_digest_66 : Nat → ST → Int64 → Int32 → Option (Int64 × ST)
  | 0, _, _, _ => none
  | n + 1, S, a1, a3 => (if 15 < a3 then some (a1, S) else oB (f_X8_formFamily S a3) (fun (r3 : Int32) (S2 : ST) => (if r3 = 0 then f_X8_digest_86 (f_X8_digest_66 n) S2 a3 0 a1 else f_X8_digest_86 (f_X8_digest_66 n) S2 a3 1 a1)))
set_option maxHeartbeats 4000000 in
set_option maxRecDepth 100000 in
theorem b_X8_digest_66 {p : Program} {l : Launch} {e : Env} {s : State} {m : MethodId} {args : Array Value} {below : List Frame} {meth : Method} {c : Code} {x : CX} {res : Int64 × ST} (F : MF p m meth c cX8_digest 4 s args RX8 (some .long)) : ∀ (n : Nat), ∀ (H : Heap) (locs : List Loc) (ls : Array Slot) (S : ST), WD x s S H locs → ∀ (a1 : Int64) (a3 : Int32), lv_has ls 4 [(0, .ref (x.2.2 (79))), (1, .long a1), (3, .int a3)] → f_X8_digest_66 n S a1 a3 = some res → W p l e ({ frames := 5, cells := 0, slots := 0, locals := 120 } : Room) s m args below meth c H locs 0 0 (MQ below (QL x res.2 res.1 s.heap.size) args s 0 0 (AA x s.heap.size)) (F0 m 66 ls []) := by
  intro n
  induction n with
  | zero =>
    intro H locs ls S w a1 a3 hl hf
    have hf : (none : Option (Int64 × ST)) = some res := hf
    cases hf
  | succ n ih =>
    intro H locs ls S w a1 a3 hl hf
    unfold f_X8_digest_66 at hf
    refine lv_iload_n F.1 F.2.1 dX8_digest_66 rfl (lv_at hl 2 rfl) ?_
    refine lv_bipush (v := 15) F.1 F.2.1 dX8_digest_67 (by decide) ?_
    refine lv_icmp_gt (tgt := 96) F.1 F.2.1 dX8_digest_69 (by decide) (fun c1 => ?_) (fun c1 => ?_)
    · replace hf := oi_t hf c1
      refine lv_lload_n F.1 F.2.1 dX8_digest_96 rfl (lv_at hl 1 rfl) ?_
      exact r_lret F w (oi_s hf) dX8_digest_97
    · replace hf := oi_f hf c1
      refine lv_lload_n F.1 F.2.1 dX8_digest_72 rfl (lv_at hl 1 rfl) ?_
      refine lv_aload_n F.1 F.2.1 dX8_digest_73 rfl (lv_at hl 0 rfl) ?_
      refine lv_iload_n F.1 F.2.1 dX8_digest_74 rfl (lv_at hl 2 rfl) ?_
      obtain ⟨r3, S2, hc, hf⟩ := oi_b hf
      refine k_i0 (S' := S2) (r := r3) w (runV (As := [.int a3]) (rest := [.long a1]) (kb := 79) F w (k_X8_formFamily l x S a3 hc H.size) cy_X8_formFamily q328 q330 qp8 ⟨rfl, rfl⟩ ⟨Nat.le_of_ble_eq_true rfl, Nat.le_of_ble_eq_true rfl⟩ (by decide) rfl rfl rfl rfl hl.1 (Nat.le_of_ble_eq_true rfl) ⟨Nat.le_of_ble_eq_true rfl, Nat.le_of_ble_eq_true rfl⟩ dX8_digest_75) (fun H locs w => ?_)
      refine lv_if_eq (tgt := 85) F.1 F.2.1 dX8_digest_78 (by decide) (fun c4 => ?_) (fun c4 => ?_)
      · replace hf := oi_t hf c4
        refine lv_lconst (v := 0) F.1 F.2.1 dX8_digest_85 (by decide) ?_
        exact b_X8_digest_86 F (f_X8_digest_66 n) ih _ _ _ _ w a3 0 a1 (lv_sub hl [0, 2] rfl) hf
      · replace hf := oi_f hf c4
        refine lv_lconst (v := 1) F.1 F.2.1 dX8_digest_81 (by decide) ?_
        refine lv_goto (tgt := 86) F.1 F.2.1 dX8_digest_82 (by decide) ?_
        exact b_X8_digest_86 F (f_X8_digest_66 n) ih _ _ _ _ w a3 1 a1 (lv_sub hl [0, 2] rfl) hf
def f_X8_digest_32 : Nat → ST → Int64 → Int32 → Option (Int64 × ST)
  | 0, _, _, _ => none
  | n + 1, S, a1, a3 => (if 4 ≤ a3 then f_X8_digest_66 FU S a1 0 else oG (inB a3 4) (oG (inB a3 4) (oB (f_X8_mixedSet S a1 ((Int32.toNatClampNeg a3)) ((Int32.toNatClampNeg a3))) (fun (r5 : Int64) (S4 : ST) => oL (a3 + 1) (fun (v6 : Int32) => (f_X8_digest_32 n) S4 r5 v6)))))
set_option maxHeartbeats 4000000 in
set_option maxRecDepth 100000 in
theorem b_X8_digest_32 {p : Program} {l : Launch} {e : Env} {s : State} {m : MethodId} {args : Array Value} {below : List Frame} {meth : Method} {c : Code} {x : CX} {res : Int64 × ST} (F : MF p m meth c cX8_digest 4 s args RX8 (some .long)) : ∀ (n : Nat), ∀ (H : Heap) (locs : List Loc) (ls : Array Slot) (S : ST), WD x s S H locs → ∀ (a1 : Int64) (a3 : Int32), lv_has ls 4 [(0, .ref (x.2.2 (79))), (1, .long a1), (3, .int a3)] → f_X8_digest_32 n S a1 a3 = some res → W p l e ({ frames := 5, cells := 0, slots := 0, locals := 120 } : Room) s m args below meth c H locs 0 0 (MQ below (QL x res.2 res.1 s.heap.size) args s 0 0 (AA x s.heap.size)) (F0 m 32 ls []) := by
  intro n
  induction n with
  | zero =>
    intro H locs ls S w a1 a3 hl hf
    have hf : (none : Option (Int64 × ST)) = some res := hf
    cases hf
  | succ n ih =>
    intro H locs ls S w a1 a3 hl hf
    unfold f_X8_digest_32 at hf
    refine lv_iload_n F.1 F.2.1 dX8_digest_32 rfl (lv_at hl 2 rfl) ?_
    refine lv_iconst (v := 4) F.1 F.2.1 dX8_digest_33 (by decide) ?_
    refine lv_icmp_ge (tgt := 64) F.1 F.2.1 dX8_digest_34 (by decide) (fun c1 => ?_) (fun c1 => ?_)
    · replace hf := oi_t hf c1
      refine lv_iconst (v := 0) F.1 F.2.1 dX8_digest_64 (by decide) ?_
      refine lv_istore_n (lv' := [(3, .int 0), (0, .ref (x.2.2 (79))), (1, .long a1)]) F.1 F.2.1 dX8_digest_65 rfl hl (by decide) rfl (fun ls hl => ?_)
      exact b_X8_digest_66 F FU _ _ _ _ w a1 0 (lv_sub hl [1, 2, 0] rfl) hf
    · replace hf := oi_f hf c1
      refine lv_aload_n F.1 F.2.1 dX8_digest_37 rfl (lv_at hl 0 rfl) ?_
      refine lv_lload_n F.1 F.2.1 dX8_digest_38 rfl (lv_at hl 1 rfl) ?_
      refine lv_aload_n F.1 F.2.1 dX8_digest_39 rfl (lv_at hl 0 rfl) ?_
      refine g_RW_now F w q162 dX8_digest_40 ?_
      refine gN_ST_sets (i := 0) F w (by decide) (by simp [NF]) dX8_digest_43 ?_
      refine lv_iload_n F.1 F.2.1 dX8_digest_46 rfl (lv_at hl 2 rfl) ?_
      obtain ⟨hb2, hf⟩ := oi_g hf
      refine r_now F w hb2 dX8_digest_47 ?_
      refine lv_aload_n F.1 F.2.1 dX8_digest_48 rfl (lv_at hl 0 rfl) ?_
      refine g_RW_spans F w q169 dX8_digest_49 ?_
      refine lv_iload_n F.1 F.2.1 dX8_digest_52 rfl (lv_at hl 2 rfl) ?_
      obtain ⟨hb3, hf⟩ := oi_g hf
      refine r_spans F w hb3 dX8_digest_53 ?_
      obtain ⟨r5, S4, hc, hf⟩ := oi_b hf
      refine k_l0 (S' := S4) (r := r5) w (runV (As := [.long a1, .ref (x.2.2 (2 * ((Int32.toNatClampNeg a3)))), .ref (x.2.2 (58 + ((Int32.toNatClampNeg a3))))]) (rest := []) (kb := 79) F w (k_X8_mixedSet l x S a1 ((Int32.toNatClampNeg a3)) ((Int32.toNatClampNeg a3)) (Nat.lt_of_lt_of_le (inB_lt hb2) (by decide)) (inB_lt hb3) hc H.size) cy_X8_mixedSet q237 q239 qp2 ⟨rfl, rfl⟩ ⟨Nat.le_of_ble_eq_true rfl, Nat.le_of_ble_eq_true rfl⟩ (by decide) rfl rfl rfl rfl hl.1 (Nat.le_of_ble_eq_true rfl) ⟨Nat.le_of_ble_eq_true rfl, Nat.le_of_ble_eq_true rfl⟩ dX8_digest_54) (fun H locs w => ?_)
      refine lv_lstore_n (lv' := [(1, .long r5), (0, .ref (x.2.2 (79))), (3, .int a3)]) F.1 F.2.1 dX8_digest_57 rfl hl (by decide) rfl (fun ls hl => ?_)
      obtain ⟨v6, e_v6⟩ : ∃ y : Int32, y = (a3 + 1) := ⟨_, rfl⟩
      replace hf := oi_l hf e_v6
      refine lv_iinc (v := v6) (lv' := [(3, .int v6), (1, .long r5), (0, .ref (x.2.2 (79)))]) F.1 F.2.1 dX8_digest_58 hl (k := 2) rfl (by rw [e_v6]; rfl) (by decide) rfl (fun ls hl => ?_)
      refine lv_goto (tgt := 32) F.1 F.2.1 dX8_digest_61 (by decide) ?_
      exact ih _ _ _ _ w r5 v6 (lv_sub hl [2, 1, 0] rfl) hf
def f_X8_digest_0 (S : ST)  : Option (Int64 × ST) := oV (f_X8_measureAll S) (fun (S1 : ST) => oB (f_X8_mixed S1 12467 (Int32.toInt64 (fi S1 37))) (fun (r3 : Int64) (S2 : ST) => oB (f_X8_mixed S2 r3 (Int32.toInt64 (fi S2 (30 + 0)))) (fun (r5 : Int64) (S4 : ST) => f_X8_digest_32 FU S4 r5 0)))
set_option maxHeartbeats 4000000 in
set_option maxRecDepth 100000 in
theorem b_X8_digest_0 {p : Program} {l : Launch} {e : Env} {s : State} {m : MethodId} {args : Array Value} {below : List Frame} {meth : Method} {c : Code} {x : CX} {res : Int64 × ST} (F : MF p m meth c cX8_digest 4 s args RX8 (some .long)) : ∀ (H : Heap) (locs : List Loc) (ls : Array Slot) (S : ST), WD x s S H locs → lv_has ls 4 [(0, .ref (x.2.2 (79)))] → f_X8_digest_0 S = some res → W p l e ({ frames := 5, cells := 0, slots := 0, locals := 120 } : Room) s m args below meth c H locs 0 0 (MQ below (QL x res.2 res.1 s.heap.size) args s 0 0 (AA x s.heap.size)) (F0 m 0 ls []) := by
  intro H locs ls S w hl hf
  unfold f_X8_digest_0 at hf
  refine lv_aload_n F.1 F.2.1 dX8_digest_0 rfl (lv_at hl 0 rfl) ?_
  obtain ⟨S1, hc, hf⟩ := oi_v hf
  refine k_v0 (S' := S1) w (runV (As := []) (rest := []) (kb := 79) F w (k_X8_measureAll l x S hc H.size) cy_X8_measureAll q197 q199 qp0 ⟨rfl, rfl⟩ ⟨Nat.le_of_ble_eq_true rfl, Nat.le_of_ble_eq_true rfl⟩ (by decide) rfl rfl rfl rfl hl.1 (Nat.le_of_ble_eq_true rfl) ⟨Nat.le_of_ble_eq_true rfl, Nat.le_of_ble_eq_true rfl⟩ dX8_digest_1) (fun H locs w => ?_)
  refine lv_ldc2 (v := 12467) F.1 F.2.1 F.2.2.2.1 (F.2.2.2.2.1 _ q232) dX8_digest_4 ?_
  refine lv_aload_n F.1 F.2.1 dX8_digest_7 rfl (lv_at hl 0 rfl) ?_
  refine g_RW_saved F w q163 dX8_digest_8 ?_
  refine gN_US_depth F w (by simp [NF]) dX8_digest_11 ?_
  refine lv_i2l (v := Int32.toInt64 (fi S1 37)) F.1 F.2.1 dX8_digest_14 rfl ?_
  obtain ⟨r3, S2, hc, hf⟩ := oi_b hf
  refine k_l0 (S' := S2) (r := r3) w (runS (As := [.long 12467, .long (Int32.toInt64 (fi S1 37))]) (rest := []) F w (k_X8_mixed l x S1 12467 (Int32.toInt64 (fi S1 37)) hc H.size) cy_X8_mixed q233 q234 ⟨rfl, rfl⟩ ⟨Nat.le_of_ble_eq_true rfl, Nat.le_of_ble_eq_true rfl⟩ rfl rfl hl.1 (Nat.le_of_ble_eq_true rfl) ⟨Nat.le_of_ble_eq_true rfl, Nat.le_of_ble_eq_true rfl⟩ dX8_digest_15) (fun H locs w => ?_)
  refine lv_aload_n F.1 F.2.1 dX8_digest_18 rfl (lv_at hl 0 rfl) ?_
  refine g_RW_now F w q162 dX8_digest_19 ?_
  refine gN_ST_modulus (i := 0) F w (by decide) (by simp [NF]) dX8_digest_22 ?_
  refine lv_i2l (v := Int32.toInt64 (fi S2 (30 + 0))) F.1 F.2.1 dX8_digest_25 rfl ?_
  obtain ⟨r5, S4, hc, hf⟩ := oi_b hf
  refine k_l0 (S' := S4) (r := r5) w (runS (As := [.long r3, .long (Int32.toInt64 (fi S2 (30 + 0)))]) (rest := []) F w (k_X8_mixed l x S2 r3 (Int32.toInt64 (fi S2 (30 + 0))) hc H.size) cy_X8_mixed q233 q234 ⟨rfl, rfl⟩ ⟨Nat.le_of_ble_eq_true rfl, Nat.le_of_ble_eq_true rfl⟩ rfl rfl hl.1 (Nat.le_of_ble_eq_true rfl) ⟨Nat.le_of_ble_eq_true rfl, Nat.le_of_ble_eq_true rfl⟩ dX8_digest_26) (fun H locs w => ?_)
  refine lv_lstore_n (lv' := [(1, .long r5), (0, .ref (x.2.2 (79)))]) F.1 F.2.1 dX8_digest_29 rfl hl (by decide) rfl (fun ls hl => ?_)
  refine lv_iconst (v := 0) F.1 F.2.1 dX8_digest_30 (by decide) ?_
  refine lv_istore_n (lv' := [(3, .int 0), (1, .long r5), (0, .ref (x.2.2 (79)))]) F.1 F.2.1 dX8_digest_31 rfl hl (by decide) rfl (fun ls hl => ?_)
  exact b_X8_digest_32 F FU _ _ _ _ w r5 0 (lv_sub hl [2, 1, 0] rfl) hf
def f_X8_digest (S : ST)  : Option (Int64 × ST) := f_X8_digest_0 S
set_option maxHeartbeats 4000000 in
set_option maxRecDepth 100000 in
theorem k_X8_digest (l : Launch) (x : CX) (S : ST)  {res : Int64 × ST} (hf : f_X8_digest S  = some res) (sz : Nat) : Met l yX8_digest (Cond.code yX8_digest cX8_digest 4 (some .long) :: GW) ({ frames := 5, cells := 0, slots := 0, locals := 120 } : Room) (PC x S sz [.ref (x.2.2 (79))]) (QL x res.2 res.1 sz) 0 0 (AA x sz) := by
  refine Met.ofW (cc := cX8_digest) (maxL := 4) (ret := (some .long)) (by decide) rfl ?_
  intro p e s m args below meth c s₁ B hml hv
  obtain ⟨rfl, rfl, hPW⟩ := hv
  have F : MF p m meth c cX8_digest 4 s _ RX8 (some .long) := MF.of B hml
  have w := WD.of hPW
  have hl := lv_entry ([.ref (x.2.2 (79))]) (n := 4) (Nat.le_of_ble_eq_true rfl)
  rw [lg_entry_eq]
  generalize (lg_sl ([.ref (x.2.2 (79))]) ++ List.replicate (4 - (lg_sl ([.ref (x.2.2 (79))])).length) Slot.unset).toArray = ls at hl ⊢
  have hl : lv_has ls 4 [(0, .ref (x.2.2 (79)))] := hl
  unfold f_X8_digest at hf
  exact b_X8_digest_0 F  _ _ _ _ w  (lv_sub hl [0] rfl) hf
