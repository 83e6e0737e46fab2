theorem cy_J7_fill_d0a16 : CY yJ7_fill_d0a16 RJ7 cJ7_fill_d0a16 5 none 2 := ⟨q19, q215, rfl, by decide, by decide, by decide +kernel⟩
def f_J7_fill_d0a16_6 : Nat → ST → Nat → Int64 → Int32 → Int32 → Option (ST)
  | 0, _, _, _, _, _ => none
  | n + 1, S, i0, a1, a3, a4 => (if a4 ≤ a3 then some S else oG (inB a3 32) (oL (sB S i0 (vp_updL (al S i0) (Int32.toNatClampNeg a3) a1)) (fun (S3 : ST) => oL (a3 + 1) (fun (v4 : Int32) => (f_J7_fill_d0a16_6 n) S3 i0 a1 v4 a4))))
set_option maxHeartbeats 4000000 in
set_option maxRecDepth 100000 in
theorem b_J7_fill_d0a16_6 {p : Program} {l : Launch} {e : Env} {s : State} {m : MethodId} {args : Array Value} {below : List Frame} {meth : Method} {c : Code} {x : CX} {res : ST} (F : MF p m meth c cJ7_fill_d0a16 5 s args RJ7 none) : ∀ (n : Nat), ∀ (H : Heap) (locs : List Loc) (ls : Array Slot) (S : ST), WD x s S H locs → ∀ (i0 : Nat) (a1 : Int64) (a3 : Int32) (a4 : Int32), i0 < 5 → lv_has ls 5 [(0, .ref (x.2.2 (49 + 2 * i0))), (1, .long a1), (3, .int a3), (4, .int a4)] → f_J7_fill_d0a16_6 n S i0 a1 a3 a4 = some res → W p l e ({ frames := 0, cells := 0, slots := 0, locals := 0 } : Room) s m args below meth c H locs 0 0 (MQ below (QV x res s.heap.size) args s 0 0 (AA x s.heap.size)) (F0 m 6 ls []) := by
  intro n
  induction n with
  | zero =>
    intro H locs ls S w i0 a1 a3 a4 h0 hl hf
    have hf : (none : Option (ST)) = some res := hf
    cases hf
  | succ n ih =>
    intro H locs ls S w i0 a1 a3 a4 h0 hl hf
    unfold f_J7_fill_d0a16_6 at hf
    refine lv_iload_n F.1 F.2.1 dJ7_fill_d0a16_6 rfl (lv_at hl 2 rfl) ?_
    refine lv_iload F.1 F.2.1 dJ7_fill_d0a16_7 (lv_at hl 3 rfl) ?_
    refine lv_icmp_ge (tgt := 22) F.1 F.2.1 dJ7_fill_d0a16_9 (by decide) (fun c1 => ?_) (fun c1 => ?_)
    · replace hf := oi_t hf c1
      exact r_vret F w (oi_s hf) dJ7_fill_d0a16_22
    · replace hf := oi_f hf c1
      refine lv_aload_n F.1 F.2.1 dJ7_fill_d0a16_12 rfl (lv_at hl 0 rfl) ?_
      refine lv_iload_n F.1 F.2.1 dJ7_fill_d0a16_13 rfl (lv_at hl 2 rfl) ?_
      refine lv_lload_n F.1 F.2.1 dJ7_fill_d0a16_14 rfl (lv_at hl 1 rfl) ?_
      obtain ⟨hb2, hf⟩ := oi_g hf
      refine r_last F w (k := 49 + 2 * i0) (a := i0) (n := 32) (k_bw h0) (fun S9 => (enc_bw x S9 h0)) (cB_bw h0) hb2 dJ7_fill_d0a16_15 (fun H locs w => ?_)
      obtain ⟨S3, e_S3⟩ : ∃ y : ST, y = sB S i0 (vp_updL (al S i0) (Int32.toNatClampNeg a3) a1) := ⟨_, rfl⟩
      replace w : WD x s S3 H locs := by rw [e_S3]; exact w
      replace hf := oi_l hf e_S3
      obtain ⟨v4, e_v4⟩ : ∃ y : Int32, y = (a3 + 1) := ⟨_, rfl⟩
      replace hf := oi_l hf e_v4
      refine lv_iinc (v := v4) (lv' := [(3, .int v4), (0, .ref (x.2.2 (49 + 2 * i0))), (1, .long a1), (4, .int a4)]) F.1 F.2.1 dJ7_fill_d0a16_16 hl (k := 2) rfl (by rw [e_v4]; rfl) (by decide) rfl (fun ls hl => ?_)
      refine lv_goto (tgt := 6) F.1 F.2.1 dJ7_fill_d0a16_19 (by decide) ?_
      exact ih _ _ _ _ w i0 a1 v4 a4 h0 (lv_sub hl [1, 2, 0, 3] rfl) hf
def f_J7_fill_d0a16_0 (S : ST) (i0 : Nat) (a1 : Int64) : Option (ST) := f_J7_fill_d0a16_6 FU S i0 a1 0 32
set_option maxHeartbeats 4000000 in
set_option maxRecDepth 100000 in
theorem b_J7_fill_d0a16_0 {p : Program} {l : Launch} {e : Env} {s : State} {m : MethodId} {args : Array Value} {below : List Frame} {meth : Method} {c : Code} {x : CX} {res : ST} (F : MF p m meth c cJ7_fill_d0a16 5 s args RJ7 none) : ∀ (H : Heap) (locs : List Loc) (ls : Array Slot) (S : ST), WD x s S H locs → ∀ (i0 : Nat) (a1 : Int64), i0 < 5 → lv_has ls 5 [(0, .ref (x.2.2 (49 + 2 * i0))), (1, .long a1)] → f_J7_fill_d0a16_0 S i0 a1 = some res → W p l e ({ frames := 0, cells := 0, slots := 0, locals := 0 } : Room) s m args below meth c H locs 0 0 (MQ below (QV x res s.heap.size) args s 0 0 (AA x s.heap.size)) (F0 m 0 ls []) := by
  intro H locs ls S w i0 a1 h0 hl hf
  unfold f_J7_fill_d0a16_0 at hf
  refine lv_iconst (v := 0) F.1 F.2.1 dJ7_fill_d0a16_0 (by decide) ?_
  refine lv_istore_n (lv' := [(3, .int 0), (0, .ref (x.2.2 (49 + 2 * i0))), (1, .long a1)]) F.1 F.2.1 dJ7_fill_d0a16_1 rfl hl (by decide) rfl (fun ls hl => ?_)
  refine lv_aload_n F.1 F.2.1 dJ7_fill_d0a16_2 rfl (lv_at hl 1 rfl) ?_
  refine r_alenL F w (k := 49 + 2 * i0) (v := 32) (f := al S i0) (k_bw h0) (enc_bw x S h0) (by decide) dJ7_fill_d0a16_3 ?_
  refine lv_istore (lv' := [(4, .int 32), (3, .int 0), (0, .ref (x.2.2 (49 + 2 * i0))), (1, .long a1)]) F.1 F.2.1 dJ7_fill_d0a16_4 hl (by decide) rfl (fun ls hl => ?_)
  exact b_J7_fill_d0a16_6 F FU _ _ _ _ w i0 a1 0 32 h0 (lv_sub hl [2, 3, 1, 0] rfl) hf
def f_J7_fill_d0a16 (S : ST) (i0 : Nat) (a1 : Int64) : Option (ST) := f_J7_fill_d0a16_0 S i0 a1
set_option maxHeartbeats 4000000 in
set_option maxRecDepth 100000 in
theorem k_J7_fill_d0a16 (l : Launch) (x : CX) (S : ST) (i0 : Nat) (a1 : Int64) (h0 : i0 < 5) {res : ST} (hf : f_J7_fill_d0a16 S i0 a1 = some res) (sz : Nat) : Met l yJ7_fill_d0a16 (Cond.code yJ7_fill_d0a16 cJ7_fill_d0a16 5 none :: GW) ({ frames := 0, cells := 0, slots := 0, locals := 0 } : Room) (PC x S sz [.ref (x.2.2 (49 + 2 * i0)), .long a1]) (QV x res sz) 0 0 (AA x sz) := by
  refine Met.ofW (cc := cJ7_fill_d0a16) (maxL := 5) (ret := none) (by decide) rfl ?_
  intro p e s m args below meth c s₁ B hml hv
  obtain ⟨rfl, rfl, hPW⟩ := hv
  have F : MF p m meth c cJ7_fill_d0a16 5 s _ RJ7 none := MF.of B hml
  have w := WD.of hPW
  have hl := lv_entry ([.ref (x.2.2 (49 + 2 * i0)), .long a1]) (n := 5) (Nat.le_of_ble_eq_true rfl)
  rw [lg_entry_eq]
  generalize (lg_sl ([.ref (x.2.2 (49 + 2 * i0)), .long a1]) ++ List.replicate (5 - (lg_sl ([.ref (x.2.2 (49 + 2 * i0)), .long a1])).length) Slot.unset).toArray = ls at hl ⊢
  have hl : lv_has ls 5 [(0, .ref (x.2.2 (49 + 2 * i0))), (1, .long a1)] := hl
  unfold f_J7_fill_d0a16 at hf
  exact b_J7_fill_d0a16_0 F  _ _ _ _ w i0 a1 h0 (lv_sub hl [0, 1] rfl) hf
theorem cy_X2_at : CY yX2_at RX2 cX2_at 2 (some .int) 1 := ⟨q3, q219, rfl, by decide, by decide, by decide +kernel⟩
def f_X2_at_22 (S : ST) (as0 : Int32) : Option (Int32 × ST) := some (as0, S)
set_option maxHeartbeats 4000000 in
set_option maxRecDepth 100000 in
theorem b_X2_at_22 {p : Program} {l : Launch} {e : Env} {s : State} {m : MethodId} {args : Array Value} {below : List Frame} {meth : Method} {c : Code} {x : CX} {res : Int32 × ST} (F : MF p m meth c cX2_at 2 s args RX2 (some .int)) : ∀ (H : Heap) (locs : List Loc) (ls : Array Slot) (S : ST), WD x s S H locs → ∀ (as0 : Int32), lv_has ls 2 [] → f_X2_at_22 S as0 = some res → W p l e ({ frames := 0, cells := 0, slots := 0, locals := 0 } : Room) s m args below meth c H locs 0 0 (MQ below (QI x res.2 res.1 s.heap.size) args s 0 0 (AA x s.heap.size)) (F0 m 22 ls [.int as0]) := by
  intro H locs ls S w as0 hl hf
  unfold f_X2_at_22 at hf
  exact r_iret F w (oi_s hf) dX2_at_22
def f_X2_at_21 (S : ST)  : Option (Int32 × ST) := f_X2_at_22 S (-1)
set_option maxHeartbeats 4000000 in
set_option maxRecDepth 100000 in
theorem b_X2_at_21 {p : Program} {l : Launch} {e : Env} {s : State} {m : MethodId} {args : Array Value} {below : List Frame} {meth : Method} {c : Code} {x : CX} {res : Int32 × ST} (F : MF p m meth c cX2_at 2 s args RX2 (some .int)) : ∀ (H : Heap) (locs : List Loc) (ls : Array Slot) (S : ST), WD x s S H locs → lv_has ls 2 [] → f_X2_at_21 S = some res → W p l e ({ frames := 0, cells := 0, slots := 0, locals := 0 } : Room) s m args below meth c H locs 0 0 (MQ below (QI x res.2 res.1 s.heap.size) args s 0 0 (AA x s.heap.size)) (F0 m 21 ls []) := by
  intro H locs ls S w hl hf
  unfold f_X2_at_21 at hf
  refine lv_iconst (v := (-1)) F.1 F.2.1 dX2_at_21 (by decide) ?_
  exact b_X2_at_22 F  _ _ _ _ w (-1) (lv_sub hl [] rfl) hf
def f_X2_at_0 (S : ST) (i0 : Nat) (a1 : Int32) : Option (Int32 × ST) := (if a1 < 0 then f_X2_at_21 S else (if (fi S i0) ≤ a1 then f_X2_at_21 S else oG (inB a1 24) (f_X2_at_22 S (ai S i0 (Int32.toNatClampNeg a1)))))
set_option maxHeartbeats 4000000 in
set_option maxRecDepth 100000 in
theorem b_X2_at_0 {p : Program} {l : Launch} {e : Env} {s : State} {m : MethodId} {args : Array Value} {below : List Frame} {meth : Method} {c : Code} {x : CX} {res : Int32 × ST} (F : MF p m meth c cX2_at 2 s args RX2 (some .int)) : ∀ (H : Heap) (locs : List Loc) (ls : Array Slot) (S : ST), WD x s S H locs → ∀ (i0 : Nat) (a1 : Int32), i0 < 22 → lv_has ls 2 [(0, .ref (x.2.2 (2 * i0))), (1, .int a1)] → f_X2_at_0 S i0 a1 = some res → W p l e ({ frames := 0, cells := 0, slots := 0, locals := 0 } : Room) s m args below meth c H locs 0 0 (MQ below (QI x res.2 res.1 s.heap.size) args s 0 0 (AA x s.heap.size)) (F0 m 0 ls []) := by
  intro H locs ls S w i0 a1 h0 hl hf
  unfold f_X2_at_0 at hf
  refine lv_iload_n F.1 F.2.1 dX2_at_0 rfl (lv_at hl 1 rfl) ?_
  refine lv_if_lt (tgt := 21) F.1 F.2.1 dX2_at_1 (by decide) (fun c1 => ?_) (fun c1 => ?_)
  · replace hf := oi_t hf c1
    exact b_X2_at_21 F  _ _ _ _ w  (lv_sub hl [] rfl) hf
  · replace hf := oi_f hf c1
    refine lv_iload_n F.1 F.2.1 dX2_at_4 rfl (lv_at hl 1 rfl) ?_
    refine lv_aload_n F.1 F.2.1 dX2_at_5 rfl (lv_at hl 0 rfl) ?_
    refine g_MS_count (i := i0) F w h0 q45 dX2_at_6 ?_
    refine lv_icmp_ge (tgt := 21) F.1 F.2.1 dX2_at_9 (by decide) (fun c2 => ?_) (fun c2 => ?_)
    · replace hf := oi_t hf c2
      exact b_X2_at_21 F  _ _ _ _ w  (lv_sub hl [] rfl) hf
    · replace hf := oi_f hf c2
      refine lv_aload_n F.1 F.2.1 dX2_at_12 rfl (lv_at hl 0 rfl) ?_
      refine g_MS_marks (i := i0) F w h0 q44 dX2_at_13 ?_
      refine lv_iload_n F.1 F.2.1 dX2_at_16 rfl (lv_at hl 1 rfl) ?_
      obtain ⟨hb3, hf⟩ := oi_g hf
      refine r_iald F w (k := 2 * i0 + 1) (f := ai S i0) (k_ma (Nat.lt_trans h0 (by decide))) (enc_ma x S (Nat.lt_trans h0 (by decide))) hb3 dX2_at_17 ?_
      refine lv_goto (tgt := 22) F.1 F.2.1 dX2_at_18 (by decide) ?_
      exact b_X2_at_22 F  _ _ _ _ w (ai S i0 (Int32.toNatClampNeg a1)) (lv_sub hl [] rfl) hf
def f_X2_at (S : ST) (i0 : Nat) (a1 : Int32) : Option (Int32 × ST) := f_X2_at_0 S i0 a1
set_option maxHeartbeats 4000000 in
set_option maxRecDepth 100000 in
theorem k_X2_at (l : Launch) (x : CX) (S : ST) (i0 : Nat) (a1 : Int32) (h0 : i0 < 22) {res : Int32 × ST} (hf : f_X2_at S i0 a1 = some res) (sz : Nat) : Met l yX2_at (Cond.code yX2_at cX2_at 2 (some .int) :: GW) ({ frames := 0, cells := 0, slots := 0, locals := 0 } : Room) (PC x S sz [.ref (x.2.2 (2 * i0)), .int a1]) (QI x res.2 res.1 sz) 0 0 (AA x sz) := by
  refine Met.ofW (cc := cX2_at) (maxL := 2) (ret := (some .int)) (by decide) rfl ?_
  intro p e s m args below meth c s₁ B hml hv
  obtain ⟨rfl, rfl, hPW⟩ := hv
  have F : MF p m meth c cX2_at 2 s _ RX2 (some .int) := MF.of B hml
  have w := WD.of hPW
  have hl := lv_entry ([.ref (x.2.2 (2 * i0)), .int a1]) (n := 2) (Nat.le_of_ble_eq_true rfl)
  rw [lg_entry_eq]
  generalize (lg_sl ([.ref (x.2.2 (2 * i0)), .int a1]) ++ List.replicate (2 - (lg_sl ([.ref (x.2.2 (2 * i0)), .int a1])).length) Slot.unset).toArray = ls at hl ⊢
  have hl : lv_has ls 2 [(0, .ref (x.2.2 (2 * i0))), (1, .int a1)] := hl
  unfold f_X2_at at hf
  exact b_X2_at_0 F  _ _ _ _ w i0 a1 h0 (lv_sub hl [0, 1] rfl) hf
theorem cy_J13_bitCount_95d88 : CY yJ13_bitCount_95d88 RJ13 cJ13_bitCount_95d88 2 (some .int) 1 := ⟨q21, q252, rfl, by decide, by decide, by decide +kernel⟩
def f_J13_bitCount_95d88_0 (S : ST) (a0 : Int64) : Option (Int32 × ST) := oL (a0 - (((Int64.toUInt64 a0 >>> ((Int32.toInt64 1).toUInt64 &&& Int64.toUInt64 63)).toInt64) &&& (6148914691236517205 : Int64))) (fun (v1 : Int64) => oL ((v1 &&& (3689348814741910323 : Int64)) + (((Int64.toUInt64 v1 >>> ((Int32.toInt64 2).toUInt64 &&& Int64.toUInt64 63)).toInt64) &&& (3689348814741910323 : Int64))) (fun (v2 : Int64) => oL ((v2 + ((Int64.toUInt64 v2 >>> ((Int32.toInt64 4).toUInt64 &&& Int64.toUInt64 63)).toInt64)) &&& (1085102592571150095 : Int64)) (fun (v3 : Int64) => oL (v3 + ((Int64.toUInt64 v3 >>> ((Int32.toInt64 8).toUInt64 &&& Int64.toUInt64 63)).toInt64)) (fun (v4 : Int64) => oL (v4 + ((Int64.toUInt64 v4 >>> ((Int32.toInt64 16).toUInt64 &&& Int64.toUInt64 63)).toInt64)) (fun (v5 : Int64) => oL (v5 + ((Int64.toUInt64 v5 >>> ((Int32.toInt64 32).toUInt64 &&& Int64.toUInt64 63)).toInt64)) (fun (v6 : Int64) => some (((Int64.toInt32 v6) &&& (127 : Int32)), S)))))))
set_option maxHeartbeats 4000000 in
set_option maxRecDepth 100000 in
theorem b_J13_bitCount_95d88_0 {p : Program} {l : Launch} {e : Env} {s : State} {m : MethodId} {args : Array Value} {below : List Frame} {meth : Method} {c : Code} {x : CX} {res : Int32 × ST} (F : MF p m meth c cJ13_bitCount_95d88 2 s args RJ13 (some .int)) : ∀ (H : Heap) (locs : List Loc) (ls : Array Slot) (S : ST), WD x s S H locs → ∀ (a0 : Int64), lv_has ls 2 [(0, .long a0)] → f_J13_bitCount_95d88_0 S a0 = some res → W p l e ({ frames := 0, cells := 0, slots := 0, locals := 0 } : Room) s m args below meth c H locs 0 0 (MQ below (QI x res.2 res.1 s.heap.size) args s 0 0 (AA x s.heap.size)) (F0 m 0 ls []) := by
  intro H locs ls S w a0 hl hf
  unfold f_J13_bitCount_95d88_0 at hf
  refine lv_lload_n F.1 F.2.1 dJ13_bitCount_95d88_0 rfl (lv_at hl 0 rfl) ?_
  refine lv_lload_n F.1 F.2.1 dJ13_bitCount_95d88_1 rfl (lv_at hl 0 rfl) ?_
  refine lv_iconst (v := 1) F.1 F.2.1 dJ13_bitCount_95d88_2 (by decide) ?_
  refine lv_lushr (v := (Int64.toUInt64 a0 >>> ((Int32.toInt64 1).toUInt64 &&& Int64.toUInt64 63)).toInt64) F.1 F.2.1 dJ13_bitCount_95d88_3 rfl ?_
  refine lv_ldc2 (v := 6148914691236517205) F.1 F.2.1 F.2.2.2.1 (F.2.2.2.2.1 _ q253) dJ13_bitCount_95d88_4 ?_
  refine lv_land F.1 F.2.1 dJ13_bitCount_95d88_7 ?_
  refine lv_lsub F.1 F.2.1 dJ13_bitCount_95d88_8 ?_
  refine lv_topl (fun v1 e_v1 => ?_)
  replace hf := oi_l hf e_v1
  refine lv_lstore_n (lv' := [(0, .long v1)]) F.1 F.2.1 dJ13_bitCount_95d88_9 rfl hl (by decide) rfl (fun ls hl => ?_)
  refine lv_lload_n F.1 F.2.1 dJ13_bitCount_95d88_10 rfl (lv_at hl 0 rfl) ?_
  refine lv_ldc2 (v := 3689348814741910323) F.1 F.2.1 F.2.2.2.1 (F.2.2.2.2.1 _ q254) dJ13_bitCount_95d88_11 ?_
  refine lv_land F.1 F.2.1 dJ13_bitCount_95d88_14 ?_
  refine lv_lload_n F.1 F.2.1 dJ13_bitCount_95d88_15 rfl (lv_at hl 0 rfl) ?_
  refine lv_iconst (v := 2) F.1 F.2.1 dJ13_bitCount_95d88_16 (by decide) ?_
  refine lv_lushr (v := (Int64.toUInt64 v1 >>> ((Int32.toInt64 2).toUInt64 &&& Int64.toUInt64 63)).toInt64) F.1 F.2.1 dJ13_bitCount_95d88_17 rfl ?_
  refine lv_ldc2 (v := 3689348814741910323) F.1 F.2.1 F.2.2.2.1 (F.2.2.2.2.1 _ q254) dJ13_bitCount_95d88_18 ?_
  refine lv_land F.1 F.2.1 dJ13_bitCount_95d88_21 ?_
  refine lv_ladd F.1 F.2.1 dJ13_bitCount_95d88_22 ?_
  refine lv_topl (fun v2 e_v2 => ?_)
  replace hf := oi_l hf e_v2
  refine lv_lstore_n (lv' := [(0, .long v2)]) F.1 F.2.1 dJ13_bitCount_95d88_23 rfl hl (by decide) rfl (fun ls hl => ?_)
  refine lv_lload_n F.1 F.2.1 dJ13_bitCount_95d88_24 rfl (lv_at hl 0 rfl) ?_
  refine lv_lload_n F.1 F.2.1 dJ13_bitCount_95d88_25 rfl (lv_at hl 0 rfl) ?_
  refine lv_iconst (v := 4) F.1 F.2.1 dJ13_bitCount_95d88_26 (by decide) ?_
  refine lv_lushr (v := (Int64.toUInt64 v2 >>> ((Int32.toInt64 4).toUInt64 &&& Int64.toUInt64 63)).toInt64) F.1 F.2.1 dJ13_bitCount_95d88_27 rfl ?_
  refine lv_ladd F.1 F.2.1 dJ13_bitCount_95d88_28 ?_
  refine lv_ldc2 (v := 1085102592571150095) F.1 F.2.1 F.2.2.2.1 (F.2.2.2.2.1 _ q255) dJ13_bitCount_95d88_29 ?_
  refine lv_land F.1 F.2.1 dJ13_bitCount_95d88_32 ?_
  refine lv_topl (fun v3 e_v3 => ?_)
  replace hf := oi_l hf e_v3
  refine lv_lstore_n (lv' := [(0, .long v3)]) F.1 F.2.1 dJ13_bitCount_95d88_33 rfl hl (by decide) rfl (fun ls hl => ?_)
  refine lv_lload_n F.1 F.2.1 dJ13_bitCount_95d88_34 rfl (lv_at hl 0 rfl) ?_
  refine lv_lload_n F.1 F.2.1 dJ13_bitCount_95d88_35 rfl (lv_at hl 0 rfl) ?_
  refine lv_bipush (v := 8) F.1 F.2.1 dJ13_bitCount_95d88_36 (by decide) ?_
  refine lv_lushr (v := (Int64.toUInt64 v3 >>> ((Int32.toInt64 8).toUInt64 &&& Int64.toUInt64 63)).toInt64) F.1 F.2.1 dJ13_bitCount_95d88_38 rfl ?_
  refine lv_ladd F.1 F.2.1 dJ13_bitCount_95d88_39 ?_
  refine lv_topl (fun v4 e_v4 => ?_)
  replace hf := oi_l hf e_v4
  refine lv_lstore_n (lv' := [(0, .long v4)]) F.1 F.2.1 dJ13_bitCount_95d88_40 rfl hl (by decide) rfl (fun ls hl => ?_)
  refine lv_lload_n F.1 F.2.1 dJ13_bitCount_95d88_41 rfl (lv_at hl 0 rfl) ?_
  refine lv_lload_n F.1 F.2.1 dJ13_bitCount_95d88_42 rfl (lv_at hl 0 rfl) ?_
  refine lv_bipush (v := 16) F.1 F.2.1 dJ13_bitCount_95d88_43 (by decide) ?_
  refine lv_lushr (v := (Int64.toUInt64 v4 >>> ((Int32.toInt64 16).toUInt64 &&& Int64.toUInt64 63)).toInt64) F.1 F.2.1 dJ13_bitCount_95d88_45 rfl ?_
  refine lv_ladd F.1 F.2.1 dJ13_bitCount_95d88_46 ?_
  refine lv_topl (fun v5 e_v5 => ?_)
  replace hf := oi_l hf e_v5
  refine lv_lstore_n (lv' := [(0, .long v5)]) F.1 F.2.1 dJ13_bitCount_95d88_47 rfl hl (by decide) rfl (fun ls hl => ?_)
  refine lv_lload_n F.1 F.2.1 dJ13_bitCount_95d88_48 rfl (lv_at hl 0 rfl) ?_
  refine lv_lload_n F.1 F.2.1 dJ13_bitCount_95d88_49 rfl (lv_at hl 0 rfl) ?_
  refine lv_bipush (v := 32) F.1 F.2.1 dJ13_bitCount_95d88_50 (by decide) ?_
  refine lv_lushr (v := (Int64.toUInt64 v5 >>> ((Int32.toInt64 32).toUInt64 &&& Int64.toUInt64 63)).toInt64) F.1 F.2.1 dJ13_bitCount_95d88_52 rfl ?_
  refine lv_ladd F.1 F.2.1 dJ13_bitCount_95d88_53 ?_
  refine lv_topl (fun v6 e_v6 => ?_)
  replace hf := oi_l hf e_v6
  refine lv_lstore_n (lv' := [(0, .long v6)]) F.1 F.2.1 dJ13_bitCount_95d88_54 rfl hl (by decide) rfl (fun ls hl => ?_)
  refine lv_lload_n F.1 F.2.1 dJ13_bitCount_95d88_55 rfl (lv_at hl 0 rfl) ?_
  refine lv_l2i (v := Int64.toInt32 v6) F.1 F.2.1 dJ13_bitCount_95d88_56 rfl ?_
  refine lv_bipush (v := 127) F.1 F.2.1 dJ13_bitCount_95d88_57 (by decide) ?_
  refine lv_iand F.1 F.2.1 dJ13_bitCount_95d88_59 ?_
  exact r_iret F w (oi_s hf) dJ13_bitCount_95d88_60
def f_J13_bitCount_95d88 (S : ST) (a0 : Int64) : Option (Int32 × ST) := f_J13_bitCount_95d88_0 S a0
set_option maxHeartbeats 4000000 in
set_option maxRecDepth 100000 in
theorem k_J13_bitCount_95d88 (l : Launch) (x : CX) (S : ST) (a0 : Int64) {res : Int32 × ST} (hf : f_J13_bitCount_95d88 S a0 = some res) (sz : Nat) : Met l yJ13_bitCount_95d88 (Cond.code yJ13_bitCount_95d88 cJ13_bitCount_95d88 2 (some .int) :: GW) ({ frames := 0, cells := 0, slots := 0, locals := 0 } : Room) (PC x S sz [.long a0]) (QI x res.2 res.1 sz) 0 0 (AA x sz) := by
  refine Met.ofW (cc := cJ13_bitCount_95d88) (maxL := 2) (ret := (some .int)) (by decide) rfl ?_
  intro p e s m args below meth c s₁ B hml hv
  obtain ⟨rfl, rfl, hPW⟩ := hv
  have F : MF p m meth c cJ13_bitCount_95d88 2 s _ RJ13 (some .int) := MF.of B hml
  have w := WD.of hPW
  have hl := lv_entry ([.long a0]) (n := 2) (Nat.le_of_ble_eq_true rfl)
  rw [lg_entry_eq]
  generalize (lg_sl ([.long a0]) ++ List.replicate (2 - (lg_sl ([.long a0])).length) Slot.unset).toArray = ls at hl ⊢
  have hl : lv_has ls 2 [(0, .long a0)] := hl
  unfold f_J13_bitCount_95d88 at hf
  exact b_J13_bitCount_95d88_0 F  _ _ _ _ w a0 (lv_sub hl [0] rfl) hf
theorem cy_X2_empty : CY yX2_empty RX2 cX2_empty 1 none 0 := ⟨q3, q457, rfl, by decide, by decide, by decide +kernel⟩
def f_X2_empty_0 (S : ST) (i0 : Nat) : Option (ST) := oL (sI S i0 0) (fun (S1 : ST) => some S1)
set_option maxHeartbeats 4000000 in
set_option maxRecDepth 100000 in
theorem b_X2_empty_0 {p : Program} {l : Launch} {e : Env} {s : State} {m : MethodId} {args : Array Value} {below : List Frame} {meth : Method} {c : Code} {x : CX} {res : ST} (F : MF p m meth c cX2_empty 1 s args RX2 none) : ∀ (H : Heap) (locs : List Loc) (ls : Array Slot) (S : ST), WD x s S H locs → ∀ (i0 : Nat), i0 < 22 → lv_has ls 1 [(0, .ref (x.2.2 (2 * i0)))] → f_X2_empty_0 S i0 = some res → W p l e ({ frames := 0, cells := 0, slots := 0, locals := 0 } : Room) s m args below meth c H locs 0 0 (MQ below (QV x res s.heap.size) args s 0 0 (AA x s.heap.size)) (F0 m 0 ls []) := by
  intro H locs ls S w i0 h0 hl hf
  unfold f_X2_empty_0 at hf
  refine lv_aload_n F.1 F.2.1 dX2_empty_0 rfl (lv_at hl 0 rfl) ?_
  refine lv_iconst (v := 0) F.1 F.2.1 dX2_empty_1 (by decide) ?_
  refine p_MS_count (i := i0) F w h0 q45 dX2_empty_2 (fun H locs w => ?_)
  obtain ⟨S1, e_S1⟩ : ∃ y : ST, y = sI S i0 0 := ⟨_, rfl⟩
  replace w : WD x s S1 H locs := by rw [e_S1]; exact w
  replace hf := oi_l hf e_S1
  exact r_vret F w (oi_s hf) dX2_empty_5
def f_X2_empty (S : ST) (i0 : Nat) : Option (ST) := f_X2_empty_0 S i0
set_option maxHeartbeats 4000000 in
set_option maxRecDepth 100000 in
theorem k_X2_empty (l : Launch) (x : CX) (S : ST) (i0 : Nat) (h0 : i0 < 22) {res : ST} (hf : f_X2_empty S i0 = some res) (sz : Nat) : Met l yX2_empty (Cond.code yX2_empty cX2_empty 1 none :: GW) ({ frames := 0, cells := 0, slots := 0, locals := 0 } : Room) (PC x S sz [.ref (x.2.2 (2 * i0))]) (QV x res sz) 0 0 (AA x sz) := by
  refine Met.ofW (cc := cX2_empty) (maxL := 1) (ret := none) (by decide) rfl ?_
  intro p e s m args below meth c s₁ B hml hv
  obtain ⟨rfl, rfl, hPW⟩ := hv
  have F : MF p m meth c cX2_empty 1 s _ RX2 none := MF.of B hml
  have w := WD.of hPW
  have hl := lv_entry ([.ref (x.2.2 (2 * i0))]) (n := 1) (Nat.le_of_ble_eq_true rfl)
  rw [lg_entry_eq]
  generalize (lg_sl ([.ref (x.2.2 (2 * i0))]) ++ List.replicate (1 - (lg_sl ([.ref (x.2.2 (2 * i0))])).length) Slot.unset).toArray = ls at hl ⊢
  have hl : lv_has ls 1 [(0, .ref (x.2.2 (2 * i0)))] := hl
  unfold f_X2_empty at hf
  exact b_X2_empty_0 F  _ _ _ _ w i0 h0 (lv_sub hl [0] rfl) hf
theorem cy_J6_numberOfTrailingZeros_0f7a4 : CY yJ6_numberOfTrailingZeros_0f7a4 RJ6 cJ6_numberOfTrailingZeros_0f7a4 2 (some .int) 1 := ⟨q22, q642, rfl, by decide, by decide, by decide +kernel⟩
def f_J6_numberOfTrailingZeros_0f7a4_74 (S : ST) (a0 : Int32) (a1 : Int32) : Option (Int32 × ST) := some ((a1 + ((Int32.toUInt32 a0 >>> (Int32.toUInt32 1 &&& Int32.toUInt32 31)).toInt32)), S)
set_option maxHeartbeats 4000000 in
set_option maxRecDepth 100000 in
theorem b_J6_numberOfTrailingZeros_0f7a4_74 {p : Program} {l : Launch} {e : Env} {s : State} {m : MethodId} {args : Array Value} {below : List Frame} {meth : Method} {c : Code} {x : CX} {res : Int32 × ST} (F : MF p m meth c cJ6_numberOfTrailingZeros_0f7a4 2 s args RJ6 (some .int)) : ∀ (H : Heap) (locs : List Loc) (ls : Array Slot) (S : ST), WD x s S H locs → ∀ (a0 : Int32) (a1 : Int32), lv_has ls 2 [(0, .int a0), (1, .int a1)] → f_J6_numberOfTrailingZeros_0f7a4_74 S a0 a1 = some res → W p l e ({ frames := 0, cells := 0, slots := 0, locals := 0 } : Room) s m args below meth c H locs 0 0 (MQ below (QI x res.2 res.1 s.heap.size) args s 0 0 (AA x s.heap.size)) (F0 m 74 ls []) := by
  intro H locs ls S w a0 a1 hl hf
  unfold f_J6_numberOfTrailingZeros_0f7a4_74 at hf
  refine lv_iload_n F.1 F.2.1 dJ6_numberOfTrailingZeros_0f7a4_74 rfl (lv_at hl 1 rfl) ?_
  refine lv_iload_n F.1 F.2.1 dJ6_numberOfTrailingZeros_0f7a4_75 rfl (lv_at hl 0 rfl) ?_
  refine lv_iconst (v := 1) F.1 F.2.1 dJ6_numberOfTrailingZeros_0f7a4_76 (by decide) ?_
  refine lv_iushr (v := (Int32.toUInt32 a0 >>> (Int32.toUInt32 1 &&& Int32.toUInt32 31)).toInt32) F.1 F.2.1 dJ6_numberOfTrailingZeros_0f7a4_77 rfl ?_
  refine lv_iadd F.1 F.2.1 dJ6_numberOfTrailingZeros_0f7a4_78 ?_
  exact r_iret F w (oi_s hf) dJ6_numberOfTrailingZeros_0f7a4_79
def f_J6_numberOfTrailingZeros_0f7a4_62 (S : ST) (a0 : Int32) (a1 : Int32) : Option (Int32 × ST) := (if a0 ≤ 4 then f_J6_numberOfTrailingZeros_0f7a4_74 S a0 a1 else oL (a1 + 2) (fun (v2 : Int32) => oL ((Int32.toUInt32 a0 >>> (Int32.toUInt32 2 &&& Int32.toUInt32 31)).toInt32) (fun (v3 : Int32) => f_J6_numberOfTrailingZeros_0f7a4_74 S v3 v2)))
set_option maxHeartbeats 4000000 in
set_option maxRecDepth 100000 in
theorem b_J6_numberOfTrailingZeros_0f7a4_62 {p : Program} {l : Launch} {e : Env} {s : State} {m : MethodId} {args : Array Value} {below : List Frame} {meth : Method} {c : Code} {x : CX} {res : Int32 × ST} (F : MF p m meth c cJ6_numberOfTrailingZeros_0f7a4 2 s args RJ6 (some .int)) : ∀ (H : Heap) (locs : List Loc) (ls : Array Slot) (S : ST), WD x s S H locs → ∀ (a0 : Int32) (a1 : Int32), lv_has ls 2 [(0, .int a0), (1, .int a1)] → f_J6_numberOfTrailingZeros_0f7a4_62 S a0 a1 = some res → W p l e ({ frames := 0, cells := 0, slots := 0, locals := 0 } : Room) s m args below meth c H locs 0 0 (MQ below (QI x res.2 res.1 s.heap.size) args s 0 0 (AA x s.heap.size)) (F0 m 62 ls []) := by
  intro H locs ls S w a0 a1 hl hf
  unfold f_J6_numberOfTrailingZeros_0f7a4_62 at hf
  refine lv_iload_n F.1 F.2.1 dJ6_numberOfTrailingZeros_0f7a4_62 rfl (lv_at hl 0 rfl) ?_
  refine lv_iconst (v := 4) F.1 F.2.1 dJ6_numberOfTrailingZeros_0f7a4_63 (by decide) ?_
  refine lv_icmp_le (tgt := 74) F.1 F.2.1 dJ6_numberOfTrailingZeros_0f7a4_64 (by decide) (fun c1 => ?_) (fun c1 => ?_)
  · replace hf := oi_t hf c1
    exact b_J6_numberOfTrailingZeros_0f7a4_74 F  _ _ _ _ w a0 a1 (lv_sub hl [0, 1] rfl) hf
  · replace hf := oi_f hf c1
    obtain ⟨v2, e_v2⟩ : ∃ y : Int32, y = (a1 + 2) := ⟨_, rfl⟩
    replace hf := oi_l hf e_v2
    refine lv_iinc (v := v2) (lv' := [(1, .int v2), (0, .int a0)]) F.1 F.2.1 dJ6_numberOfTrailingZeros_0f7a4_67 hl (k := 1) rfl (by rw [e_v2]; rfl) (by decide) rfl (fun ls hl => ?_)
    refine lv_iload_n F.1 F.2.1 dJ6_numberOfTrailingZeros_0f7a4_70 rfl (lv_at hl 1 rfl) ?_
    refine lv_iconst (v := 2) F.1 F.2.1 dJ6_numberOfTrailingZeros_0f7a4_71 (by decide) ?_
    refine lv_iushr (v := (Int32.toUInt32 a0 >>> (Int32.toUInt32 2 &&& Int32.toUInt32 31)).toInt32) F.1 F.2.1 dJ6_numberOfTrailingZeros_0f7a4_72 rfl ?_
    refine lv_topi (fun v3 e_v3 => ?_)
    replace hf := oi_l hf e_v3
    refine lv_istore_n (lv' := [(0, .int v3), (1, .int v2)]) F.1 F.2.1 dJ6_numberOfTrailingZeros_0f7a4_73 rfl hl (by decide) rfl (fun ls hl => ?_)
    exact b_J6_numberOfTrailingZeros_0f7a4_74 F  _ _ _ _ w v3 v2 (lv_sub hl [0, 1] rfl) hf
def f_J6_numberOfTrailingZeros_0f7a4_49 (S : ST) (a0 : Int32) (a1 : Int32) : Option (Int32 × ST) := (if a0 ≤ 16 then f_J6_numberOfTrailingZeros_0f7a4_62 S a0 a1 else oL (a1 + 4) (fun (v2 : Int32) => oL ((Int32.toUInt32 a0 >>> (Int32.toUInt32 4 &&& Int32.toUInt32 31)).toInt32) (fun (v3 : Int32) => f_J6_numberOfTrailingZeros_0f7a4_62 S v3 v2)))
set_option maxHeartbeats 4000000 in
set_option maxRecDepth 100000 in
theorem b_J6_numberOfTrailingZeros_0f7a4_49 {p : Program} {l : Launch} {e : Env} {s : State} {m : MethodId} {args : Array Value} {below : List Frame} {meth : Method} {c : Code} {x : CX} {res : Int32 × ST} (F : MF p m meth c cJ6_numberOfTrailingZeros_0f7a4 2 s args RJ6 (some .int)) : ∀ (H : Heap) (locs : List Loc) (ls : Array Slot) (S : ST), WD x s S H locs → ∀ (a0 : Int32) (a1 : Int32), lv_has ls 2 [(0, .int a0), (1, .int a1)] → f_J6_numberOfTrailingZeros_0f7a4_49 S a0 a1 = some res → W p l e ({ frames := 0, cells := 0, slots := 0, locals := 0 } : Room) s m args below meth c H locs 0 0 (MQ below (QI x res.2 res.1 s.heap.size) args s 0 0 (AA x s.heap.size)) (F0 m 49 ls []) := by
  intro H locs ls S w a0 a1 hl hf
  unfold f_J6_numberOfTrailingZeros_0f7a4_49 at hf
  refine lv_iload_n F.1 F.2.1 dJ6_numberOfTrailingZeros_0f7a4_49 rfl (lv_at hl 0 rfl) ?_
  refine lv_bipush (v := 16) F.1 F.2.1 dJ6_numberOfTrailingZeros_0f7a4_50 (by decide) ?_
  refine lv_icmp_le (tgt := 62) F.1 F.2.1 dJ6_numberOfTrailingZeros_0f7a4_52 (by decide) (fun c1 => ?_) (fun c1 => ?_)
  · replace hf := oi_t hf c1
    exact b_J6_numberOfTrailingZeros_0f7a4_62 F  _ _ _ _ w a0 a1 (lv_sub hl [0, 1] rfl) hf
  · replace hf := oi_f hf c1
    obtain ⟨v2, e_v2⟩ : ∃ y : Int32, y = (a1 + 4) := ⟨_, rfl⟩
    replace hf := oi_l hf e_v2
    refine lv_iinc (v := v2) (lv' := [(1, .int v2), (0, .int a0)]) F.1 F.2.1 dJ6_numberOfTrailingZeros_0f7a4_55 hl (k := 1) rfl (by rw [e_v2]; rfl) (by decide) rfl (fun ls hl => ?_)
    refine lv_iload_n F.1 F.2.1 dJ6_numberOfTrailingZeros_0f7a4_58 rfl (lv_at hl 1 rfl) ?_
    refine lv_iconst (v := 4) F.1 F.2.1 dJ6_numberOfTrailingZeros_0f7a4_59 (by decide) ?_
    refine lv_iushr (v := (Int32.toUInt32 a0 >>> (Int32.toUInt32 4 &&& Int32.toUInt32 31)).toInt32) F.1 F.2.1 dJ6_numberOfTrailingZeros_0f7a4_60 rfl ?_
    refine lv_topi (fun v3 e_v3 => ?_)
    replace hf := oi_l hf e_v3
    refine lv_istore_n (lv' := [(0, .int v3), (1, .int v2)]) F.1 F.2.1 dJ6_numberOfTrailingZeros_0f7a4_61 rfl hl (by decide) rfl (fun ls hl => ?_)
    exact b_J6_numberOfTrailingZeros_0f7a4_62 F  _ _ _ _ w v3 v2 (lv_sub hl [0, 1] rfl) hf
def f_J6_numberOfTrailingZeros_0f7a4_34 (S : ST) (a0 : Int32) (a1 : Int32) : Option (Int32 × ST) := (if a0 ≤ 256 then f_J6_numberOfTrailingZeros_0f7a4_49 S a0 a1 else oL (a1 + 8) (fun (v2 : Int32) => oL ((Int32.toUInt32 a0 >>> (Int32.toUInt32 8 &&& Int32.toUInt32 31)).toInt32) (fun (v3 : Int32) => f_J6_numberOfTrailingZeros_0f7a4_49 S v3 v2)))
set_option maxHeartbeats 4000000 in
set_option maxRecDepth 100000 in
theorem b_J6_numberOfTrailingZeros_0f7a4_34 {p : Program} {l : Launch} {e : Env} {s : State} {m : MethodId} {args : Array Value} {below : List Frame} {meth : Method} {c : Code} {x : CX} {res : Int32 × ST} (F : MF p m meth c cJ6_numberOfTrailingZeros_0f7a4 2 s args RJ6 (some .int)) : ∀ (H : Heap) (locs : List Loc) (ls : Array Slot) (S : ST), WD x s S H locs → ∀ (a0 : Int32) (a1 : Int32), lv_has ls 2 [(0, .int a0), (1, .int a1)] → f_J6_numberOfTrailingZeros_0f7a4_34 S a0 a1 = some res → W p l e ({ frames := 0, cells := 0, slots := 0, locals := 0 } : Room) s m args below meth c H locs 0 0 (MQ below (QI x res.2 res.1 s.heap.size) args s 0 0 (AA x s.heap.size)) (F0 m 34 ls []) := by
  intro H locs ls S w a0 a1 hl hf
  unfold f_J6_numberOfTrailingZeros_0f7a4_34 at hf
  refine lv_iload_n F.1 F.2.1 dJ6_numberOfTrailingZeros_0f7a4_34 rfl (lv_at hl 0 rfl) ?_
  refine lv_sipush (v := 256) F.1 F.2.1 dJ6_numberOfTrailingZeros_0f7a4_35 (by decide) ?_
  refine lv_icmp_le (tgt := 49) F.1 F.2.1 dJ6_numberOfTrailingZeros_0f7a4_38 (by decide) (fun c1 => ?_) (fun c1 => ?_)
  · replace hf := oi_t hf c1
    exact b_J6_numberOfTrailingZeros_0f7a4_49 F  _ _ _ _ w a0 a1 (lv_sub hl [0, 1] rfl) hf
  · replace hf := oi_f hf c1
    obtain ⟨v2, e_v2⟩ : ∃ y : Int32, y = (a1 + 8) := ⟨_, rfl⟩
    replace hf := oi_l hf e_v2
    refine lv_iinc (v := v2) (lv' := [(1, .int v2), (0, .int a0)]) F.1 F.2.1 dJ6_numberOfTrailingZeros_0f7a4_41 hl (k := 1) rfl (by rw [e_v2]; rfl) (by decide) rfl (fun ls hl => ?_)
    refine lv_iload_n F.1 F.2.1 dJ6_numberOfTrailingZeros_0f7a4_44 rfl (lv_at hl 1 rfl) ?_
    refine lv_bipush (v := 8) F.1 F.2.1 dJ6_numberOfTrailingZeros_0f7a4_45 (by decide) ?_
    refine lv_iushr (v := (Int32.toUInt32 a0 >>> (Int32.toUInt32 8 &&& Int32.toUInt32 31)).toInt32) F.1 F.2.1 dJ6_numberOfTrailingZeros_0f7a4_47 rfl ?_
    refine lv_topi (fun v3 e_v3 => ?_)
    replace hf := oi_l hf e_v3
    refine lv_istore_n (lv' := [(0, .int v3), (1, .int v2)]) F.1 F.2.1 dJ6_numberOfTrailingZeros_0f7a4_48 rfl hl (by decide) rfl (fun ls hl => ?_)
    exact b_J6_numberOfTrailingZeros_0f7a4_49 F  _ _ _ _ w v3 v2 (lv_sub hl [0, 1] rfl) hf
def f_J6_numberOfTrailingZeros_0f7a4_0 (S : ST) (a0 : Int32) : Option (Int32 × ST) := oL ((a0 ^^^ ((-1) : Int32)) &&& (a0 - (1 : Int32))) (fun (v1 : Int32) => (if 0 < v1 then (if v1 ≤ 65536 then f_J6_numberOfTrailingZeros_0f7a4_34 S v1 1 else oL (1 + 16) (fun (v4 : Int32) => oL ((Int32.toUInt32 v1 >>> (Int32.toUInt32 16 &&& Int32.toUInt32 31)).toInt32) (fun (v5 : Int32) => f_J6_numberOfTrailingZeros_0f7a4_34 S v5 v4))) else some ((v1 &&& (32 : Int32)), S)))
set_option maxHeartbeats 4000000 in
set_option maxRecDepth 100000 in
theorem b_J6_numberOfTrailingZeros_0f7a4_0 {p : Program} {l : Launch} {e : Env} {s : State} {m : MethodId} {args : Array Value} {below : List Frame} {meth : Method} {c : Code} {x : CX} {res : Int32 × ST} (F : MF p m meth c cJ6_numberOfTrailingZeros_0f7a4 2 s args RJ6 (some .int)) : ∀ (H : Heap) (locs : List Loc) (ls : Array Slot) (S : ST), WD x s S H locs → ∀ (a0 : Int32), lv_has ls 2 [(0, .int a0)] → f_J6_numberOfTrailingZeros_0f7a4_0 S a0 = some res → W p l e ({ frames := 0, cells := 0, slots := 0, locals := 0 } : Room) s m args below meth c H locs 0 0 (MQ below (QI x res.2 res.1 s.heap.size) args s 0 0 (AA x s.heap.size)) (F0 m 0 ls []) := by
  intro H locs ls S w a0 hl hf
  unfold f_J6_numberOfTrailingZeros_0f7a4_0 at hf
  refine lv_iload_n F.1 F.2.1 dJ6_numberOfTrailingZeros_0f7a4_0 rfl (lv_at hl 0 rfl) ?_
  refine lv_iconst (v := (-1)) F.1 F.2.1 dJ6_numberOfTrailingZeros_0f7a4_1 (by decide) ?_
  refine lv_ixor F.1 F.2.1 dJ6_numberOfTrailingZeros_0f7a4_2 ?_
  refine lv_iload_n F.1 F.2.1 dJ6_numberOfTrailingZeros_0f7a4_3 rfl (lv_at hl 0 rfl) ?_
  refine lv_iconst (v := 1) F.1 F.2.1 dJ6_numberOfTrailingZeros_0f7a4_4 (by decide) ?_
  refine lv_isub F.1 F.2.1 dJ6_numberOfTrailingZeros_0f7a4_5 ?_
  refine lv_iand F.1 F.2.1 dJ6_numberOfTrailingZeros_0f7a4_6 ?_
  refine lv_topi (fun v1 e_v1 => ?_)
  replace hf := oi_l hf e_v1
  refine lv_istore_n (lv' := [(0, .int v1)]) F.1 F.2.1 dJ6_numberOfTrailingZeros_0f7a4_7 rfl hl (by decide) rfl (fun ls hl => ?_)
  refine lv_iload_n F.1 F.2.1 dJ6_numberOfTrailingZeros_0f7a4_8 rfl (lv_at hl 0 rfl) ?_
  refine lv_if_gt (tgt := 17) F.1 F.2.1 dJ6_numberOfTrailingZeros_0f7a4_9 (by decide) (fun c2 => ?_) (fun c2 => ?_)
  · replace hf := oi_t hf c2
    refine lv_iconst (v := 1) F.1 F.2.1 dJ6_numberOfTrailingZeros_0f7a4_17 (by decide) ?_
    refine lv_istore_n (lv' := [(1, .int 1), (0, .int v1)]) F.1 F.2.1 dJ6_numberOfTrailingZeros_0f7a4_18 rfl hl (by decide) rfl (fun ls hl => ?_)
    refine lv_iload_n F.1 F.2.1 dJ6_numberOfTrailingZeros_0f7a4_19 rfl (lv_at hl 1 rfl) ?_
    refine lv_ldcw (v := 65536) F.1 F.2.1 F.2.2.2.1 (F.2.2.2.2.1 _ q643) dJ6_numberOfTrailingZeros_0f7a4_20 ?_
    refine lv_icmp_le (tgt := 34) F.1 F.2.1 dJ6_numberOfTrailingZeros_0f7a4_23 (by decide) (fun c3 => ?_) (fun c3 => ?_)
    · replace hf := oi_t hf c3
      exact b_J6_numberOfTrailingZeros_0f7a4_34 F  _ _ _ _ w v1 1 (lv_sub hl [1, 0] rfl) hf
    · replace hf := oi_f hf c3
      obtain ⟨v4, e_v4⟩ : ∃ y : Int32, y = (1 + 16) := ⟨_, rfl⟩
      replace hf := oi_l hf e_v4
      refine lv_iinc (v := v4) (lv' := [(1, .int v4), (0, .int v1)]) F.1 F.2.1 dJ6_numberOfTrailingZeros_0f7a4_26 hl (k := 0) rfl (by rw [e_v4]; rfl) (by decide) rfl (fun ls hl => ?_)
      refine lv_iload_n F.1 F.2.1 dJ6_numberOfTrailingZeros_0f7a4_29 rfl (lv_at hl 1 rfl) ?_
      refine lv_bipush (v := 16) F.1 F.2.1 dJ6_numberOfTrailingZeros_0f7a4_30 (by decide) ?_
      refine lv_iushr (v := (Int32.toUInt32 v1 >>> (Int32.toUInt32 16 &&& Int32.toUInt32 31)).toInt32) F.1 F.2.1 dJ6_numberOfTrailingZeros_0f7a4_32 rfl ?_
      refine lv_topi (fun v5 e_v5 => ?_)
      replace hf := oi_l hf e_v5
      refine lv_istore_n (lv' := [(0, .int v5), (1, .int v4)]) F.1 F.2.1 dJ6_numberOfTrailingZeros_0f7a4_33 rfl hl (by decide) rfl (fun ls hl => ?_)
      exact b_J6_numberOfTrailingZeros_0f7a4_34 F  _ _ _ _ w v5 v4 (lv_sub hl [0, 1] rfl) hf
  · replace hf := oi_f hf c2
    refine lv_iload_n F.1 F.2.1 dJ6_numberOfTrailingZeros_0f7a4_12 rfl (lv_at hl 0 rfl) ?_
    refine lv_bipush (v := 32) F.1 F.2.1 dJ6_numberOfTrailingZeros_0f7a4_13 (by decide) ?_
    refine lv_iand F.1 F.2.1 dJ6_numberOfTrailingZeros_0f7a4_15 ?_
    exact r_iret F w (oi_s hf) dJ6_numberOfTrailingZeros_0f7a4_16
def f_J6_numberOfTrailingZeros_0f7a4 (S : ST) (a0 : Int32) : Option (Int32 × ST) := f_J6_numberOfTrailingZeros_0f7a4_0 S a0
set_option maxHeartbeats 4000000 in
set_option maxRecDepth 100000 in
theorem k_J6_numberOfTrailingZeros_0f7a4 (l : Launch) (x : CX) (S : ST) (a0 : Int32) {res : Int32 × ST} (hf : f_J6_numberOfTrailingZeros_0f7a4 S a0 = some res) (sz : Nat) : Met l yJ6_numberOfTrailingZeros_0f7a4 (Cond.code yJ6_numberOfTrailingZeros_0f7a4 cJ6_numberOfTrailingZeros_0f7a4 2 (some .int) :: GW) ({ frames := 0, cells := 0, slots := 0, locals := 0 } : Room) (PC x S sz [.int a0]) (QI x res.2 res.1 sz) 0 0 (AA x sz) := by
  refine Met.ofW (cc := cJ6_numberOfTrailingZeros_0f7a4) (maxL := 2) (ret := (some .int)) (by decide) rfl ?_
  intro p e s m args below meth c s₁ B hml hv
  obtain ⟨rfl, rfl, hPW⟩ := hv
  have F : MF p m meth c cJ6_numberOfTrailingZeros_0f7a4 2 s _ RJ6 (some .int) := MF.of B hml
  have w := WD.of hPW
  have hl := lv_entry ([.int a0]) (n := 2) (Nat.le_of_ble_eq_true rfl)
  rw [lg_entry_eq]
  generalize (lg_sl ([.int a0]) ++ List.replicate (2 - (lg_sl ([.int a0])).length) Slot.unset).toArray = ls at hl ⊢
  have hl : lv_has ls 2 [(0, .int a0)] := hl
  unfold f_J6_numberOfTrailingZeros_0f7a4 at hf
  exact b_J6_numberOfTrailingZeros_0f7a4_0 F  _ _ _ _ w a0 (lv_sub hl [0] rfl) hf
theorem cy_J13_numberOfTrailingZeros_95d88 : CY yJ13_numberOfTrailingZeros_95d88 RJ13 cJ13_numberOfTrailingZeros_95d88 3 (some .int) 1 := ⟨q21, q639, rfl, by decide, by decide, by decide +kernel⟩
def f_J13_numberOfTrailingZeros_95d88_25 (S : ST) (as0 : Int32) : Option (Int32 × ST) := some (as0, S)
set_option maxHeartbeats 4000000 in
set_option maxRecDepth 100000 in
theorem b_J13_numberOfTrailingZeros_95d88_25 {p : Program} {l : Launch} {e : Env} {s : State} {m : MethodId} {args : Array Value} {below : List Frame} {meth : Method} {c : Code} {x : CX} {res : Int32 × ST} (F : MF p m meth c cJ13_numberOfTrailingZeros_95d88 3 s args RJ13 (some .int)) : ∀ (H : Heap) (locs : List Loc) (ls : Array Slot) (S : ST), WD x s S H locs → ∀ (as0 : Int32), lv_has ls 3 [] → f_J13_numberOfTrailingZeros_95d88_25 S as0 = some res → W p l e ({ frames := 1, cells := 0, slots := 0, locals := 21 } : Room) s m args below meth c H locs 0 0 (MQ below (QI x res.2 res.1 s.heap.size) args s 0 0 (AA x s.heap.size)) (F0 m 25 ls [.int as0]) := by
  intro H locs ls S w as0 hl hf
  unfold f_J13_numberOfTrailingZeros_95d88_25 at hf
  exact r_iret F w (oi_s hf) dJ13_numberOfTrailingZeros_95d88_25
def f_J13_numberOfTrailingZeros_95d88_0 (S : ST) (a0 : Int64) : Option (Int32 × ST) := oL (Int64.toInt32 a0) (fun (v1 : Int32) => (if v1 = 0 then oB (f_J6_numberOfTrailingZeros_0f7a4 S (Int64.toInt32 ((Int64.toUInt64 a0 >>> ((Int32.toInt64 32).toUInt64 &&& Int64.toUInt64 63)).toInt64))) (fun (r6 : Int32) (S5 : ST) => f_J13_numberOfTrailingZeros_95d88_25 S5 ((32 : Int32) + r6)) else oB (f_J6_numberOfTrailingZeros_0f7a4 S v1) (fun (r4 : Int32) (S3 : ST) => f_J13_numberOfTrailingZeros_95d88_25 S3 r4)))
set_option maxHeartbeats 4000000 in
set_option maxRecDepth 100000 in
theorem b_J13_numberOfTrailingZeros_95d88_0 {p : Program} {l : Launch} {e : Env} {s : State} {m : MethodId} {args : Array Value} {below : List Frame} {meth : Method} {c : Code} {x : CX} {res : Int32 × ST} (F : MF p m meth c cJ13_numberOfTrailingZeros_95d88 3 s args RJ13 (some .int)) : ∀ (H : Heap) (locs : List Loc) (ls : Array Slot) (S : ST), WD x s S H locs → ∀ (a0 : Int64), lv_has ls 3 [(0, .long a0)] → f_J13_numberOfTrailingZeros_95d88_0 S a0 = some res → W p l e ({ frames := 1, cells := 0, slots := 0, locals := 21 } : Room) s m args below meth c H locs 0 0 (MQ below (QI x res.2 res.1 s.heap.size) args s 0 0 (AA x s.heap.size)) (F0 m 0 ls []) := by
  intro H locs ls S w a0 hl hf
  unfold f_J13_numberOfTrailingZeros_95d88_0 at hf
  refine lv_lload_n F.1 F.2.1 dJ13_numberOfTrailingZeros_95d88_0 rfl (lv_at hl 0 rfl) ?_
  refine lv_l2i (v := Int64.toInt32 a0) F.1 F.2.1 dJ13_numberOfTrailingZeros_95d88_1 rfl ?_
  refine lv_topi (fun v1 e_v1 => ?_)
  replace hf := oi_l hf e_v1
  refine lv_istore_n (lv' := [(2, .int v1), (0, .long a0)]) F.1 F.2.1 dJ13_numberOfTrailingZeros_95d88_2 rfl hl (by decide) rfl (fun ls hl => ?_)
  refine lv_iload_n F.1 F.2.1 dJ13_numberOfTrailingZeros_95d88_3 rfl (lv_at hl 0 rfl) ?_
  refine lv_if_ne (tgt := 21) F.1 F.2.1 dJ13_numberOfTrailingZeros_95d88_4 (by decide) (fun c2 => ?_) (fun c2 => ?_)
  · replace hf := oi_f hf c2
    refine lv_iload_n F.1 F.2.1 dJ13_numberOfTrailingZeros_95d88_21 rfl (lv_at hl 0 rfl) ?_
    obtain ⟨r4, S3, hc, hf⟩ := oi_b hf
    refine k_i0 (S' := S3) (r := r4) w (runS (As := [.int v1]) (rest := []) F w (k_J6_numberOfTrailingZeros_0f7a4 l x S v1 hc H.size) cy_J6_numberOfTrailingZeros_0f7a4 q640 q641 ⟨rfl, rfl⟩ ⟨Nat.le_of_ble_eq_true rfl, Nat.le_of_ble_eq_true rfl⟩ rfl rfl hl.1 (Nat.le_of_ble_eq_true rfl) ⟨Nat.le_of_ble_eq_true rfl, Nat.le_of_ble_eq_true rfl⟩ dJ13_numberOfTrailingZeros_95d88_22) (fun H locs w => ?_)
    exact b_J13_numberOfTrailingZeros_95d88_25 F  _ _ _ _ w r4 (lv_sub hl [] rfl) hf
  · replace hf := oi_t hf c2
    refine lv_bipush (v := 32) F.1 F.2.1 dJ13_numberOfTrailingZeros_95d88_7 (by decide) ?_
    refine lv_lload_n F.1 F.2.1 dJ13_numberOfTrailingZeros_95d88_9 rfl (lv_at hl 1 rfl) ?_
    refine lv_bipush (v := 32) F.1 F.2.1 dJ13_numberOfTrailingZeros_95d88_10 (by decide) ?_
    refine lv_lushr (v := (Int64.toUInt64 a0 >>> ((Int32.toInt64 32).toUInt64 &&& Int64.toUInt64 63)).toInt64) F.1 F.2.1 dJ13_numberOfTrailingZeros_95d88_12 rfl ?_
    refine lv_l2i (v := Int64.toInt32 ((Int64.toUInt64 a0 >>> ((Int32.toInt64 32).toUInt64 &&& Int64.toUInt64 63)).toInt64)) F.1 F.2.1 dJ13_numberOfTrailingZeros_95d88_13 rfl ?_
    obtain ⟨r6, S5, hc, hf⟩ := oi_b hf
    refine k_i0 (S' := S5) (r := r6) w (runS (As := [.int (Int64.toInt32 ((Int64.toUInt64 a0 >>> ((Int32.toInt64 32).toUInt64 &&& Int64.toUInt64 63)).toInt64))]) (rest := [.int 32]) F w (k_J6_numberOfTrailingZeros_0f7a4 l x S (Int64.toInt32 ((Int64.toUInt64 a0 >>> ((Int32.toInt64 32).toUInt64 &&& Int64.toUInt64 63)).toInt64)) hc H.size) cy_J6_numberOfTrailingZeros_0f7a4 q640 q641 ⟨rfl, rfl⟩ ⟨Nat.le_of_ble_eq_true rfl, Nat.le_of_ble_eq_true rfl⟩ rfl rfl hl.1 (Nat.le_of_ble_eq_true rfl) ⟨Nat.le_of_ble_eq_true rfl, Nat.le_of_ble_eq_true rfl⟩ dJ13_numberOfTrailingZeros_95d88_14) (fun H locs w => ?_)
    refine lv_iadd F.1 F.2.1 dJ13_numberOfTrailingZeros_95d88_17 ?_
    refine lv_goto (tgt := 25) F.1 F.2.1 dJ13_numberOfTrailingZeros_95d88_18 (by decide) ?_
    exact b_J13_numberOfTrailingZeros_95d88_25 F  _ _ _ _ w ((32 : Int32) + r6) (lv_sub hl [] rfl) hf
def f_J13_numberOfTrailingZeros_95d88 (S : ST) (a0 : Int64) : Option (Int32 × ST) := f_J13_numberOfTrailingZeros_95d88_0 S a0
set_option maxHeartbeats 4000000 in
set_option maxRecDepth 100000 in
theorem k_J13_numberOfTrailingZeros_95d88 (l : Launch) (x : CX) (S : ST) (a0 : Int64) {res : Int32 × ST} (hf : f_J13_numberOfTrailingZeros_95d88 S a0 = some res) (sz : Nat) : Met l yJ13_numberOfTrailingZeros_95d88 (Cond.code yJ13_numberOfTrailingZeros_95d88 cJ13_numberOfTrailingZeros_95d88 3 (some .int) :: GW) ({ frames := 1, cells := 0, slots := 0, locals := 21 } : Room) (PC x S sz [.long a0]) (QI x res.2 res.1 sz) 0 0 (AA x sz) := by
  refine Met.ofW (cc := cJ13_numberOfTrailingZeros_95d88) (maxL := 3) (ret := (some .int)) (by decide) rfl ?_
  intro p e s m args below meth c s₁ B hml hv
  obtain ⟨rfl, rfl, hPW⟩ := hv
  have F : MF p m meth c cJ13_numberOfTrailingZeros_95d88 3 s _ RJ13 (some .int) := MF.of B hml
  have w := WD.of hPW
  have hl := lv_entry ([.long a0]) (n := 3) (Nat.le_of_ble_eq_true rfl)
  rw [lg_entry_eq]
  generalize (lg_sl ([.long a0]) ++ List.replicate (3 - (lg_sl ([.long a0])).length) Slot.unset).toArray = ls at hl ⊢
  have hl : lv_has ls 3 [(0, .long a0)] := hl
  unfold f_J13_numberOfTrailingZeros_95d88 at hf
  exact b_J13_numberOfTrailingZeros_95d88_0 F  _ _ _ _ w a0 (lv_sub hl [0] rfl) hf
theorem cy_X2_push : CY yX2_push RX2 cX2_push 2 none 1 := ⟨q3, q461, rfl, by decide, by decide, by decide +kernel⟩
def f_X2_push_29 (S : ST)  : Option (ST) := some S
set_option maxHeartbeats 4000000 in
set_option maxRecDepth 100000 in
theorem b_X2_push_29 {p : Program} {l : Launch} {e : Env} {s : State} {m : MethodId} {args : Array Value} {below : List Frame} {meth : Method} {c : Code} {x : CX} {res : ST} (F : MF p m meth c cX2_push 2 s args RX2 none) : ∀ (H : Heap) (locs : List Loc) (ls : Array Slot) (S : ST), WD x s S H locs → lv_has ls 2 [] → f_X2_push_29 S = some res → W p l e ({ frames := 0, cells := 0, slots := 0, locals := 0 } : Room) s m args below meth c H locs 0 0 (MQ below (QV x res s.heap.size) args s 0 0 (AA x s.heap.size)) (F0 m 29 ls []) := by
  intro H locs ls S w hl hf
  unfold f_X2_push_29 at hf
  exact r_vret F w (oi_s hf) dX2_push_29
def f_X2_push_0 (S : ST) (i0 : Nat) (a1 : Int32) : Option (ST) := (if 24 ≤ (fi S i0) then f_X2_push_29 S else oG (inB (fi S i0) 24) (oL (sA S i0 (upd (ai S i0) (Int32.toNatClampNeg (fi S i0)) a1)) (fun (S3 : ST) => oL (sI S3 i0 ((fi S3 i0) + (1 : Int32))) (fun (S4 : ST) => f_X2_push_29 S4))))
set_option maxHeartbeats 4000000 in
set_option maxRecDepth 100000 in
theorem b_X2_push_0 {p : Program} {l : Launch} {e : Env} {s : State} {m : MethodId} {args : Array Value} {below : List Frame} {meth : Method} {c : Code} {x : CX} {res : ST} (F : MF p m meth c cX2_push 2 s args RX2 none) : ∀ (H : Heap) (locs : List Loc) (ls : Array Slot) (S : ST), WD x s S H locs → ∀ (i0 : Nat) (a1 : Int32), i0 < 22 → lv_has ls 2 [(0, .ref (x.2.2 (2 * i0))), (1, .int a1)] → f_X2_push_0 S i0 a1 = some res → W p l e ({ frames := 0, cells := 0, slots := 0, locals := 0 } : Room) s m args below meth c H locs 0 0 (MQ below (QV x res s.heap.size) args s 0 0 (AA x s.heap.size)) (F0 m 0 ls []) := by
  intro H locs ls S w i0 a1 h0 hl hf
  unfold f_X2_push_0 at hf
  refine lv_aload_n F.1 F.2.1 dX2_push_0 rfl (lv_at hl 0 rfl) ?_
  refine g_MS_count (i := i0) F w h0 q45 dX2_push_1 ?_
  refine lv_bipush (v := 24) F.1 F.2.1 dX2_push_4 (by decide) ?_
  refine lv_icmp_ge (tgt := 29) F.1 F.2.1 dX2_push_6 (by decide) (fun c1 => ?_) (fun c1 => ?_)
  · replace hf := oi_t hf c1
    exact b_X2_push_29 F  _ _ _ _ w  (lv_sub hl [] rfl) hf
  · replace hf := oi_f hf c1
    refine lv_aload_n F.1 F.2.1 dX2_push_9 rfl (lv_at hl 0 rfl) ?_
    refine g_MS_marks (i := i0) F w h0 q44 dX2_push_10 ?_
    refine lv_aload_n F.1 F.2.1 dX2_push_13 rfl (lv_at hl 0 rfl) ?_
    refine g_MS_count (i := i0) F w h0 q45 dX2_push_14 ?_
    refine lv_iload_n F.1 F.2.1 dX2_push_17 rfl (lv_at hl 1 rfl) ?_
    obtain ⟨hb2, hf⟩ := oi_g hf
    refine r_iast F w (k := 2 * i0 + 1) (a := i0) (n := 24) (k_ma (Nat.lt_trans h0 (by decide))) (fun S9 => (enc_ma x S9 (Nat.lt_trans h0 (by decide)))) (cA_ma (Nat.lt_trans h0 (by decide))) hb2 dX2_push_18 (fun H locs w => ?_)
    obtain ⟨S3, e_S3⟩ : ∃ y : ST, y = sA S i0 (upd (ai S i0) (Int32.toNatClampNeg (fi S i0)) a1) := ⟨_, rfl⟩
    replace w : WD x s S3 H locs := by rw [e_S3]; exact w
    replace hf := oi_l hf e_S3
    refine lv_aload_n F.1 F.2.1 dX2_push_19 rfl (lv_at hl 0 rfl) ?_
    refine lv_dup F.1 F.2.1 dX2_push_20 rfl ?_
    refine g_MS_count (i := i0) F w h0 q45 dX2_push_21 ?_
    refine lv_iconst (v := 1) F.1 F.2.1 dX2_push_24 (by decide) ?_
    refine lv_iadd F.1 F.2.1 dX2_push_25 ?_
    refine p_MS_count (i := i0) F w h0 q45 dX2_push_26 (fun H locs w => ?_)
    obtain ⟨S4, e_S4⟩ : ∃ y : ST, y = sI S3 i0 ((fi S3 i0) + (1 : Int32)) := ⟨_, rfl⟩
    replace w : WD x s S4 H locs := by rw [e_S4]; exact w
    replace hf := oi_l hf e_S4
    exact b_X2_push_29 F  _ _ _ _ w  (lv_sub hl [] rfl) hf
def f_X2_push (S : ST) (i0 : Nat) (a1 : Int32) : Option (ST) := f_X2_push_0 S i0 a1
set_option maxHeartbeats 4000000 in
set_option maxRecDepth 100000 in
theorem k_X2_push (l : Launch) (x : CX) (S : ST) (i0 : Nat) (a1 : Int32) (h0 : i0 < 22) {res : ST} (hf : f_X2_push S i0 a1 = some res) (sz : Nat) : Met l yX2_push (Cond.code yX2_push cX2_push 2 none :: GW) ({ frames := 0, cells := 0, slots := 0, locals := 0 } : Room) (PC x S sz [.ref (x.2.2 (2 * i0)), .int a1]) (QV x res sz) 0 0 (AA x sz) := by
  refine Met.ofW (cc := cX2_push) (maxL := 2) (ret := none) (by decide) rfl ?_
  intro p e s m args below meth c s₁ B hml hv
  obtain ⟨rfl, rfl, hPW⟩ := hv
  have F : MF p m meth c cX2_push 2 s _ RX2 none := MF.of B hml
  have w := WD.of hPW
  have hl := lv_entry ([.ref (x.2.2 (2 * i0)), .int a1]) (n := 2) (Nat.le_of_ble_eq_true rfl)
  rw [lg_entry_eq]
  generalize (lg_sl ([.ref (x.2.2 (2 * i0)), .int a1]) ++ List.replicate (2 - (lg_sl ([.ref (x.2.2 (2 * i0)), .int a1])).length) Slot.unset).toArray = ls at hl ⊢
  have hl : lv_has ls 2 [(0, .ref (x.2.2 (2 * i0))), (1, .int a1)] := hl
  unfold f_X2_push at hf
  exact b_X2_push_0 F  _ _ _ _ w i0 a1 h0 (lv_sub hl [0, 1] rfl) hf
theorem cy_X2_greatest : CY yX2_greatest RX2 cX2_greatest 1 (some .int) 0 := ⟨q3, q259, rfl, by decide, by decide, by decide +kernel⟩
def f_X2_greatest_0 (S : ST) (i0 : Nat) : Option (Int32 × ST) := oB (f_X2_at S i0 ((fi S i0) - (1 : Int32))) (fun (r2 : Int32) (S1 : ST) => some (r2, S1))
set_option maxHeartbeats 4000000 in
set_option maxRecDepth 100000 in
theorem b_X2_greatest_0 {p : Program} {l : Launch} {e : Env} {s : State} {m : MethodId} {args : Array Value} {below : List Frame} {meth : Method} {c : Code} {x : CX} {res : Int32 × ST} (F : MF p m meth c cX2_greatest 1 s args RX2 (some .int)) : ∀ (H : Heap) (locs : List Loc) (ls : Array Slot) (S : ST), WD x s S H locs → ∀ (i0 : Nat), i0 < 22 → lv_has ls 1 [(0, .ref (x.2.2 (2 * i0)))] → f_X2_greatest_0 S i0 = some res → W p l e ({ frames := 1, cells := 0, slots := 0, locals := 21 } : Room) s m args below meth c H locs 0 0 (MQ below (QI x res.2 res.1 s.heap.size) args s 0 0 (AA x s.heap.size)) (F0 m 0 ls []) := by
  intro H locs ls S w i0 h0 hl hf
  unfold f_X2_greatest_0 at hf
  refine lv_aload_n F.1 F.2.1 dX2_greatest_0 rfl (lv_at hl 0 rfl) ?_
  refine lv_aload_n F.1 F.2.1 dX2_greatest_1 rfl (lv_at hl 0 rfl) ?_
  refine g_MS_count (i := i0) F w h0 q45 dX2_greatest_2 ?_
  refine lv_iconst (v := 1) F.1 F.2.1 dX2_greatest_5 (by decide) ?_
  refine lv_isub F.1 F.2.1 dX2_greatest_6 ?_
  obtain ⟨r2, S1, hc, hf⟩ := oi_b hf
  refine k_i0 (S' := S1) (r := r2) w (runV (As := [.int ((fi S i0) - (1 : Int32))]) (rest := []) (kb := 2 * i0) F w (k_X2_at l x S i0 ((fi S i0) - (1 : Int32)) h0 hc H.size) cy_X2_at q260 q217 q218 ⟨rfl, rfl⟩ ⟨Nat.le_of_ble_eq_true rfl, Nat.le_of_ble_eq_true rfl⟩ (k_ms h0) (enc_ms x S h0) rfl rfl rfl hl.1 (Nat.le_of_ble_eq_true rfl) ⟨Nat.le_of_ble_eq_true rfl, Nat.le_of_ble_eq_true rfl⟩ dX2_greatest_7) (fun H locs w => ?_)
  exact r_iret F w (oi_s hf) dX2_greatest_10
def f_X2_greatest (S : ST) (i0 : Nat) : Option (Int32 × ST) := f_X2_greatest_0 S i0
set_option maxHeartbeats 4000000 in
set_option maxRecDepth 100000 in
theorem k_X2_greatest (l : Launch) (x : CX) (S : ST) (i0 : Nat) (h0 : i0 < 22) {res : Int32 × ST} (hf : f_X2_greatest S i0 = some res) (sz : Nat) : Met l yX2_greatest (Cond.code yX2_greatest cX2_greatest 1 (some .int) :: GW) ({ frames := 1, cells := 0, slots := 0, locals := 21 } : Room) (PC x S sz [.ref (x.2.2 (2 * i0))]) (QI x res.2 res.1 sz) 0 0 (AA x sz) := by
  refine Met.ofW (cc := cX2_greatest) (maxL := 1) (ret := (some .int)) (by decide) rfl ?_
  intro p e s m args below meth c s₁ B hml hv
  obtain ⟨rfl, rfl, hPW⟩ := hv
  have F : MF p m meth c cX2_greatest 1 s _ RX2 (some .int) := MF.of B hml
  have w := WD.of hPW
  have hl := lv_entry ([.ref (x.2.2 (2 * i0))]) (n := 1) (Nat.le_of_ble_eq_true rfl)
  rw [lg_entry_eq]
  generalize (lg_sl ([.ref (x.2.2 (2 * i0))]) ++ List.replicate (1 - (lg_sl ([.ref (x.2.2 (2 * i0))])).length) Slot.unset).toArray = ls at hl ⊢
  have hl : lv_has ls 1 [(0, .ref (x.2.2 (2 * i0)))] := hl
  unfold f_X2_greatest at hf
  exact b_X2_greatest_0 F  _ _ _ _ w i0 h0 (lv_sub hl [0] rfl) hf
theorem cy_X2_span : CY yX2_span RX2 cX2_span 1 (some .int) 0 := ⟨q3, q537, rfl, by decide, by decide, by decide +kernel⟩
def f_X2_span_22 (S : ST) (as0 : Int32) : Option (Int32 × ST) := some (as0, S)
set_option maxHeartbeats 4000000 in
set_option maxRecDepth 100000 in
theorem b_X2_span_22 {p : Program} {l : Launch} {e : Env} {s : State} {m : MethodId} {args : Array Value} {below : List Frame} {meth : Method} {c : Code} {x : CX} {res : Int32 × ST} (F : MF p m meth c cX2_span 1 s args RX2 (some .int)) : ∀ (H : Heap) (locs : List Loc) (ls : Array Slot) (S : ST), WD x s S H locs → ∀ (as0 : Int32), lv_has ls 1 [] → f_X2_span_22 S as0 = some res → W p l e ({ frames := 2, cells := 0, slots := 0, locals := 41 } : Room) s m args below meth c H locs 0 0 (MQ below (QI x res.2 res.1 s.heap.size) args s 0 0 (AA x s.heap.size)) (F0 m 22 ls [.int as0]) := by
  intro H locs ls S w as0 hl hf
  unfold f_X2_span_22 at hf
  exact r_iret F w (oi_s hf) dX2_span_22
def f_X2_span_0 (S : ST) (i0 : Nat) : Option (Int32 × ST) := (if 2 ≤ (fi S i0) then oB (f_X2_greatest S i0) (fun (r3 : Int32) (S2 : ST) => oB (f_X2_at S2 i0 0) (fun (r5 : Int32) (S4 : ST) => f_X2_span_22 S4 (r3 - r5))) else f_X2_span_22 S 0)
set_option maxHeartbeats 4000000 in
set_option maxRecDepth 100000 in
theorem b_X2_span_0 {p : Program} {l : Launch} {e : Env} {s : State} {m : MethodId} {args : Array Value} {below : List Frame} {meth : Method} {c : Code} {x : CX} {res : Int32 × ST} (F : MF p m meth c cX2_span 1 s args RX2 (some .int)) : ∀ (H : Heap) (locs : List Loc) (ls : Array Slot) (S : ST), WD x s S H locs → ∀ (i0 : Nat), i0 < 22 → lv_has ls 1 [(0, .ref (x.2.2 (2 * i0)))] → f_X2_span_0 S i0 = some res → W p l e ({ frames := 2, cells := 0, slots := 0, locals := 41 } : Room) s m args below meth c H locs 0 0 (MQ below (QI x res.2 res.1 s.heap.size) args s 0 0 (AA x s.heap.size)) (F0 m 0 ls []) := by
  intro H locs ls S w i0 h0 hl hf
  unfold f_X2_span_0 at hf
  refine lv_aload_n F.1 F.2.1 dX2_span_0 rfl (lv_at hl 0 rfl) ?_
  refine g_MS_count (i := i0) F w h0 q45 dX2_span_1 ?_
  refine lv_iconst (v := 2) F.1 F.2.1 dX2_span_4 (by decide) ?_
  refine lv_icmp_ge (tgt := 12) F.1 F.2.1 dX2_span_5 (by decide) (fun c1 => ?_) (fun c1 => ?_)
  · replace hf := oi_t hf c1
    refine lv_aload_n F.1 F.2.1 dX2_span_12 rfl (lv_at hl 0 rfl) ?_
    obtain ⟨r3, S2, hc, hf⟩ := oi_b hf
    refine k_i0 (S' := S2) (r := r3) w (runV (As := []) (rest := []) (kb := 2 * i0) F w (k_X2_greatest l x S i0 h0 hc H.size) cy_X2_greatest q538 q257 q258 ⟨rfl, rfl⟩ ⟨Nat.le_of_ble_eq_true rfl, Nat.le_of_ble_eq_true rfl⟩ (k_ms h0) (enc_ms x S h0) rfl rfl rfl hl.1 (Nat.le_of_ble_eq_true rfl) ⟨Nat.le_of_ble_eq_true rfl, Nat.le_of_ble_eq_true rfl⟩ dX2_span_13) (fun H locs w => ?_)
    refine lv_aload_n F.1 F.2.1 dX2_span_16 rfl (lv_at hl 0 rfl) ?_
    refine lv_iconst (v := 0) F.1 F.2.1 dX2_span_17 (by decide) ?_
    obtain ⟨r5, S4, hc, hf⟩ := oi_b hf
    refine k_i0 (S' := S4) (r := r5) w (runV (As := [.int 0]) (rest := [.int r3]) (kb := 2 * i0) F w (k_X2_at l x S2 i0 0 h0 hc H.size) cy_X2_at q260 q217 q218 ⟨rfl, rfl⟩ ⟨Nat.le_of_ble_eq_true rfl, Nat.le_of_ble_eq_true rfl⟩ (k_ms h0) (enc_ms x S2 h0) rfl rfl rfl hl.1 (Nat.le_of_ble_eq_true rfl) ⟨Nat.le_of_ble_eq_true rfl, Nat.le_of_ble_eq_true rfl⟩ dX2_span_18) (fun H locs w => ?_)
    refine lv_isub F.1 F.2.1 dX2_span_21 ?_
    exact b_X2_span_22 F  _ _ _ _ w (r3 - r5) (lv_sub hl [] rfl) hf
  · replace hf := oi_f hf c1
    refine lv_iconst (v := 0) F.1 F.2.1 dX2_span_8 (by decide) ?_
    refine lv_goto (tgt := 22) F.1 F.2.1 dX2_span_9 (by decide) ?_
    exact b_X2_span_22 F  _ _ _ _ w 0 (lv_sub hl [] rfl) hf
def f_X2_span (S : ST) (i0 : Nat) : Option (Int32 × ST) := f_X2_span_0 S i0
set_option maxHeartbeats 4000000 in
set_option maxRecDepth 100000 in
theorem k_X2_span (l : Launch) (x : CX) (S : ST) (i0 : Nat) (h0 : i0 < 22) {res : Int32 × ST} (hf : f_X2_span S i0 = some res) (sz : Nat) : Met l yX2_span (Cond.code yX2_span cX2_span 1 (some .int) :: GW) ({ frames := 2, cells := 0, slots := 0, locals := 41 } : Room) (PC x S sz [.ref (x.2.2 (2 * i0))]) (QI x res.2 res.1 sz) 0 0 (AA x sz) := by
  refine Met.ofW (cc := cX2_span) (maxL := 1) (ret := (some .int)) (by decide) rfl ?_
  intro p e s m args below meth c s₁ B hml hv
  obtain ⟨rfl, rfl, hPW⟩ := hv
  have F : MF p m meth c cX2_span 1 s _ RX2 (some .int) := MF.of B hml
  have w := WD.of hPW
  have hl := lv_entry ([.ref (x.2.2 (2 * i0))]) (n := 1) (Nat.le_of_ble_eq_true rfl)
  rw [lg_entry_eq]
  generalize (lg_sl ([.ref (x.2.2 (2 * i0))]) ++ List.replicate (1 - (lg_sl ([.ref (x.2.2 (2 * i0))])).length) Slot.unset).toArray = ls at hl ⊢
  have hl : lv_has ls 1 [(0, .ref (x.2.2 (2 * i0)))] := hl
  unfold f_X2_span at hf
  exact b_X2_span_0 F  _ _ _ _ w i0 h0 (lv_sub hl [0] rfl) hf
theorem cy_X2_countBelow : CY yX2_countBelow RX2 cX2_countBelow 4 (some .int) 1 := ⟨q3, q432, rfl, by decide, by decide, by decide +kernel⟩
def f_X2_countBelow_25 (k4 : ST → Nat → Int32 → Int32 → Int32 → Option (Int32 × ST)) (S : ST) (i0 : Nat) (a1 : Int32) (a2 : Int32) (a3 : Int32) : Option (Int32 × ST) := oL (a3 + 1) (fun (v1 : Int32) => k4 S i0 a1 a2 v1)
set_option maxHeartbeats 4000000 in
set_option maxRecDepth 100000 in
theorem b_X2_countBelow_25 {p : Program} {l : Launch} {e : Env} {s : State} {m : MethodId} {args : Array Value} {below : List Frame} {meth : Method} {c : Code} {x : CX} {res : Int32 × ST} (F : MF p m meth c cX2_countBelow 4 s args RX2 (some .int)) (k4 : ST → Nat → Int32 → Int32 → Int32 → Option (Int32 × ST)) (hk4 : ∀ (H : Heap) (locs : List Loc) (ls : Array Slot) (S : ST), WD x s S H locs → ∀ (i0 : Nat) (a1 : Int32) (a2 : Int32) (a3 : Int32), i0 < 22 → lv_has ls 4 [(0, .ref (x.2.2 (2 * i0))), (1, .int a1), (2, .int a2), (3, .int a3)] → k4 S i0 a1 a2 a3 = some res → W p l e ({ frames := 0, cells := 0, slots := 0, locals := 0 } : Room) s m args below meth c H locs 0 0 (MQ below (QI x res.2 res.1 s.heap.size) args s 0 0 (AA x s.heap.size)) (F0 m 4 ls [])) : ∀ (H : Heap) (locs : List Loc) (ls : Array Slot) (S : ST), WD x s S H locs → ∀ (i0 : Nat) (a1 : Int32) (a2 : Int32) (a3 : Int32), i0 < 22 → lv_has ls 4 [(0, .ref (x.2.2 (2 * i0))), (1, .int a1), (2, .int a2), (3, .int a3)] → f_X2_countBelow_25 k4 S i0 a1 a2 a3 = some res → W p l e ({ frames := 0, cells := 0, slots := 0, locals := 0 } : Room) s m args below meth c H locs 0 0 (MQ below (QI x res.2 res.1 s.heap.size) args s 0 0 (AA x s.heap.size)) (F0 m 25 ls []) := by
  intro H locs ls S w i0 a1 a2 a3 h0 hl hf
  unfold f_X2_countBelow_25 at hf
  obtain ⟨v1, e_v1⟩ : ∃ y : Int32, y = (a3 + 1) := ⟨_, rfl⟩
  replace hf := oi_l hf e_v1
  refine lv_iinc (v := v1) (lv' := [(3, .int v1), (0, .ref (x.2.2 (2 * i0))), (1, .int a1), (2, .int a2)]) F.1 F.2.1 dX2_countBelow_25 hl (k := 3) rfl (by rw [e_v1]; rfl) (by decide) rfl (fun ls hl => ?_)
  refine lv_goto (tgt := 4) F.1 F.2.1 dX2_countBelow_28 (by decide) ?_
  exact hk4 _ _ _ _ w i0 a1 a2 v1 h0 (lv_sub hl [1, 2, 3, 0] rfl) hf
def f_X2_countBelow_4 : Nat → ST → Nat → Int32 → Int32 → Int32 → Option (Int32 × ST)
  | 0, _, _, _, _, _ => none
  | n + 1, S, i0, a1, a2, a3 => (if (fi S i0) ≤ a3 then some (a2, S) else oG (inB a3 24) ((if a1 ≤ (ai S i0 (Int32.toNatClampNeg a3)) then f_X2_countBelow_25 (f_X2_countBelow_4 n) S i0 a1 a2 a3 else oL (a2 + 1) (fun (v4 : Int32) => f_X2_countBelow_25 (f_X2_countBelow_4 n) S i0 a1 v4 a3))))
set_option maxHeartbeats 4000000 in
set_option maxRecDepth 100000 in
theorem b_X2_countBelow_4 {p : Program} {l : Launch} {e : Env} {s : State} {m : MethodId} {args : Array Value} {below : List Frame} {meth : Method} {c : Code} {x : CX} {res : Int32 × ST} (F : MF p m meth c cX2_countBelow 4 s args RX2 (some .int)) : ∀ (n : Nat), ∀ (H : Heap) (locs : List Loc) (ls : Array Slot) (S : ST), WD x s S H locs → ∀ (i0 : Nat) (a1 : Int32) (a2 : Int32) (a3 : Int32), i0 < 22 → lv_has ls 4 [(0, .ref (x.2.2 (2 * i0))), (1, .int a1), (2, .int a2), (3, .int a3)] → f_X2_countBelow_4 n S i0 a1 a2 a3 = some res → W p l e ({ frames := 0, cells := 0, slots := 0, locals := 0 } : Room) s m args below meth c H locs 0 0 (MQ below (QI x res.2 res.1 s.heap.size) args s 0 0 (AA x s.heap.size)) (F0 m 4 ls []) := by
  intro n
  induction n with
  | zero =>
    intro H locs ls S w i0 a1 a2 a3 h0 hl hf
    have hf : (none : Option (Int32 × ST)) = some res := hf
    cases hf
  | succ n ih =>
    intro H locs ls S w i0 a1 a2 a3 h0 hl hf
    unfold f_X2_countBelow_4 at hf
    refine lv_iload_n F.1 F.2.1 dX2_countBelow_4 rfl (lv_at hl 3 rfl) ?_
    refine lv_aload_n F.1 F.2.1 dX2_countBelow_5 rfl (lv_at hl 0 rfl) ?_
    refine g_MS_count (i := i0) F w h0 q45 dX2_countBelow_6 ?_
    refine lv_icmp_ge (tgt := 31) F.1 F.2.1 dX2_countBelow_9 (by decide) (fun c1 => ?_) (fun c1 => ?_)
    · replace hf := oi_t hf c1
      refine lv_iload_n F.1 F.2.1 dX2_countBelow_31 rfl (lv_at hl 2 rfl) ?_
      exact r_iret F w (oi_s hf) dX2_countBelow_32
    · replace hf := oi_f hf c1
      refine lv_aload_n F.1 F.2.1 dX2_countBelow_12 rfl (lv_at hl 0 rfl) ?_
      refine g_MS_marks (i := i0) F w h0 q44 dX2_countBelow_13 ?_
      refine lv_iload_n F.1 F.2.1 dX2_countBelow_16 rfl (lv_at hl 3 rfl) ?_
      obtain ⟨hb2, hf⟩ := oi_g hf
      refine r_iald F w (k := 2 * i0 + 1) (f := ai S i0) (k_ma (Nat.lt_trans h0 (by decide))) (enc_ma x S (Nat.lt_trans h0 (by decide))) hb2 dX2_countBelow_17 ?_
      refine lv_iload_n F.1 F.2.1 dX2_countBelow_18 rfl (lv_at hl 1 rfl) ?_
      refine lv_icmp_ge (tgt := 25) F.1 F.2.1 dX2_countBelow_19 (by decide) (fun c3 => ?_) (fun c3 => ?_)
      · replace hf := oi_t hf c3
        exact b_X2_countBelow_25 F (f_X2_countBelow_4 n) ih _ _ _ _ w i0 a1 a2 a3 h0 (lv_sub hl [0, 1, 2, 3] rfl) hf
      · replace hf := oi_f hf c3
        obtain ⟨v4, e_v4⟩ : ∃ y : Int32, y = (a2 + 1) := ⟨_, rfl⟩
        replace hf := oi_l hf e_v4
        refine lv_iinc (v := v4) (lv' := [(2, .int v4), (0, .ref (x.2.2 (2 * i0))), (1, .int a1), (3, .int a3)]) F.1 F.2.1 dX2_countBelow_22 hl (k := 2) rfl (by rw [e_v4]; rfl) (by decide) rfl (fun ls hl => ?_)
        exact b_X2_countBelow_25 F (f_X2_countBelow_4 n) ih _ _ _ _ w i0 a1 v4 a3 h0 (lv_sub hl [1, 2, 0, 3] rfl) hf
def f_X2_countBelow_0 (S : ST) (i0 : Nat) (a1 : Int32) : Option (Int32 × ST) := f_X2_countBelow_4 FU S i0 a1 0 0
set_option maxHeartbeats 4000000 in
set_option maxRecDepth 100000 in
theorem b_X2_countBelow_0 {p : Program} {l : Launch} {e : Env} {s : State} {m : MethodId} {args : Array Value} {below : List Frame} {meth : Method} {c : Code} {x : CX} {res : Int32 × ST} (F : MF p m meth c cX2_countBelow 4 s args RX2 (some .int)) : ∀ (H : Heap) (locs : List Loc) (ls : Array Slot) (S : ST), WD x s S H locs → ∀ (i0 : Nat) (a1 : Int32), i0 < 22 → lv_has ls 4 [(0, .ref (x.2.2 (2 * i0))), (1, .int a1)] → f_X2_countBelow_0 S i0 a1 = some res → W p l e ({ frames := 0, cells := 0, slots := 0, locals := 0 } : Room) s m args below meth c H locs 0 0 (MQ below (QI x res.2 res.1 s.heap.size) args s 0 0 (AA x s.heap.size)) (F0 m 0 ls []) := by
  intro H locs ls S w i0 a1 h0 hl hf
  unfold f_X2_countBelow_0 at hf
  refine lv_iconst (v := 0) F.1 F.2.1 dX2_countBelow_0 (by decide) ?_
  refine lv_istore_n (lv' := [(2, .int 0), (0, .ref (x.2.2 (2 * i0))), (1, .int a1)]) F.1 F.2.1 dX2_countBelow_1 rfl hl (by decide) rfl (fun ls hl => ?_)
  refine lv_iconst (v := 0) F.1 F.2.1 dX2_countBelow_2 (by decide) ?_
  refine lv_istore_n (lv' := [(3, .int 0), (2, .int 0), (0, .ref (x.2.2 (2 * i0))), (1, .int a1)]) F.1 F.2.1 dX2_countBelow_3 rfl hl (by decide) rfl (fun ls hl => ?_)
  exact b_X2_countBelow_4 F FU _ _ _ _ w i0 a1 0 0 h0 (lv_sub hl [2, 3, 1, 0] rfl) hf
def f_X2_countBelow (S : ST) (i0 : Nat) (a1 : Int32) : Option (Int32 × ST) := f_X2_countBelow_0 S i0 a1
set_option maxHeartbeats 4000000 in
set_option maxRecDepth 100000 in
theorem k_X2_countBelow (l : Launch) (x : CX) (S : ST) (i0 : Nat) (a1 : Int32) (h0 : i0 < 22) {res : Int32 × ST} (hf : f_X2_countBelow S i0 a1 = some res) (sz : Nat) : Met l yX2_countBelow (Cond.code yX2_countBelow cX2_countBelow 4 (some .int) :: GW) ({ frames := 0, cells := 0, slots := 0, locals := 0 } : Room) (PC x S sz [.ref (x.2.2 (2 * i0)), .int a1]) (QI x res.2 res.1 sz) 0 0 (AA x sz) := by
  refine Met.ofW (cc := cX2_countBelow) (maxL := 4) (ret := (some .int)) (by decide) rfl ?_
  intro p e s m args below meth c s₁ B hml hv
  obtain ⟨rfl, rfl, hPW⟩ := hv
  have F : MF p m meth c cX2_countBelow 4 s _ RX2 (some .int) := MF.of B hml
  have w := WD.of hPW
  have hl := lv_entry ([.ref (x.2.2 (2 * i0)), .int a1]) (n := 4) (Nat.le_of_ble_eq_true rfl)
  rw [lg_entry_eq]
  generalize (lg_sl ([.ref (x.2.2 (2 * i0)), .int a1]) ++ List.replicate (4 - (lg_sl ([.ref (x.2.2 (2 * i0)), .int a1])).length) Slot.unset).toArray = ls at hl ⊢
  have hl : lv_has ls 4 [(0, .ref (x.2.2 (2 * i0))), (1, .int a1)] := hl
  unfold f_X2_countBelow at hf
  exact b_X2_countBelow_0 F  _ _ _ _ w i0 a1 h0 (lv_sub hl [0, 1] rfl) hf
theorem cy_X2_pairsApart : CY yX2_pairsApart RX2 cX2_pairsApart 5 (some .int) 1 := ⟨q3, q550, rfl, by decide, by decide, by decide +kernel⟩
def f_X2_pairsApart_42 (k4 : ST → Nat → Int32 → Int32 → Int32 → Option (Int32 × ST)) (k15 : ST → Nat → Int32 → Int32 → Int32 → Int32 → Option (Int32 × ST)) (S : ST) (i0 : Nat) (a1 : Int32) (a2 : Int32) (a3 : Int32) (a4 : Int32) : Option (Int32 × ST) := oL (a4 + 1) (fun (v1 : Int32) => k15 S i0 a1 a2 a3 v1)
set_option maxHeartbeats 4000000 in
set_option maxRecDepth 100000 in
theorem b_X2_pairsApart_42 {p : Program} {l : Launch} {e : Env} {s : State} {m : MethodId} {args : Array Value} {below : List Frame} {meth : Method} {c : Code} {x : CX} {res : Int32 × ST} (F : MF p m meth c cX2_pairsApart 5 s args RX2 (some .int)) (k4 : ST → Nat → Int32 → Int32 → Int32 → Option (Int32 × ST)) (hk4 : ∀ (H : Heap) (locs : List Loc) (ls : Array Slot) (S : ST), WD x s S H locs → ∀ (i0 : Nat) (a1 : Int32) (a2 : Int32) (a3 : Int32), i0 < 22 → lv_has ls 5 [(0, .ref (x.2.2 (2 * i0))), (1, .int a1), (2, .int a2), (3, .int a3)] → k4 S i0 a1 a2 a3 = some res → W p l e ({ frames := 0, cells := 0, slots := 0, locals := 0 } : Room) s m args below meth c H locs 0 0 (MQ below (QI x res.2 res.1 s.heap.size) args s 0 0 (AA x s.heap.size)) (F0 m 4 ls [])) (k15 : ST → Nat → Int32 → Int32 → Int32 → Int32 → Option (Int32 × ST)) (hk15 : ∀ (H : Heap) (locs : List Loc) (ls : Array Slot) (S : ST), WD x s S H locs → ∀ (i0 : Nat) (a1 : Int32) (a2 : Int32) (a3 : Int32) (a4 : Int32), i0 < 22 → lv_has ls 5 [(0, .ref (x.2.2 (2 * i0))), (1, .int a1), (2, .int a2), (3, .int a3), (4, .int a4)] → k15 S i0 a1 a2 a3 a4 = some res → W p l e ({ frames := 0, cells := 0, slots := 0, locals := 0 } : Room) s m args below meth c H locs 0 0 (MQ below (QI x res.2 res.1 s.heap.size) args s 0 0 (AA x s.heap.size)) (F0 m 15 ls [])) : ∀ (H : Heap) (locs : List Loc) (ls : Array Slot) (S : ST), WD x s S H locs → ∀ (i0 : Nat) (a1 : Int32) (a2 : Int32) (a3 : Int32) (a4 : Int32), i0 < 22 → lv_has ls 5 [(0, .ref (x.2.2 (2 * i0))), (1, .int a1), (2, .int a2), (3, .int a3), (4, .int a4)] → f_X2_pairsApart_42 k4 k15 S i0 a1 a2 a3 a4 = some res → W p l e ({ frames := 0, cells := 0, slots := 0, locals := 0 } : Room) s m args below meth c H locs 0 0 (MQ below (QI x res.2 res.1 s.heap.size) args s 0 0 (AA x s.heap.size)) (F0 m 42 ls []) := by
  intro H locs ls S w i0 a1 a2 a3 a4 h0 hl hf
  unfold f_X2_pairsApart_42 at hf
  obtain ⟨v1, e_v1⟩ : ∃ y : Int32, y = (a4 + 1) := ⟨_, rfl⟩
  replace hf := oi_l hf e_v1
  refine lv_iinc (v := v1) (lv' := [(4, .int v1), (0, .ref (x.2.2 (2 * i0))), (1, .int a1), (2, .int a2), (3, .int a3)]) F.1 F.2.1 dX2_pairsApart_42 hl (k := 4) rfl (by rw [e_v1]; rfl) (by decide) rfl (fun ls hl => ?_)
  refine lv_goto (tgt := 15) F.1 F.2.1 dX2_pairsApart_45 (by decide) ?_
  exact hk15 _ _ _ _ w i0 a1 a2 a3 v1 h0 (lv_sub hl [1, 2, 3, 4, 0] rfl) hf
def f_X2_pairsApart_15 (k4 : ST → Nat → Int32 → Int32 → Int32 → Option (Int32 × ST)) : Nat → ST → Nat → Int32 → Int32 → Int32 → Int32 → Option (Int32 × ST)
  | 0, _, _, _, _, _, _ => none
  | n + 1, S, i0, a1, a2, a3, a4 => (if a3 ≤ a4 then oL (a3 + 1) (fun (v2 : Int32) => k4 S i0 a1 a2 v2) else oG (inB a3 24) (oG (inB a4 24) ((if ((ai S i0 (Int32.toNatClampNeg a3)) - (ai S i0 (Int32.toNatClampNeg a4))) = a1 then oL (a2 + 1) (fun (v6 : Int32) => f_X2_pairsApart_42 k4 (f_X2_pairsApart_15 k4 n) S i0 a1 v6 a3 a4) else f_X2_pairsApart_42 k4 (f_X2_pairsApart_15 k4 n) S i0 a1 a2 a3 a4))))
set_option maxHeartbeats 4000000 in
set_option maxRecDepth 100000 in
theorem b_X2_pairsApart_15 {p : Program} {l : Launch} {e : Env} {s : State} {m : MethodId} {args : Array Value} {below : List Frame} {meth : Method} {c : Code} {x : CX} {res : Int32 × ST} (F : MF p m meth c cX2_pairsApart 5 s args RX2 (some .int)) (k4 : ST → Nat → Int32 → Int32 → Int32 → Option (Int32 × ST)) (hk4 : ∀ (H : Heap) (locs : List Loc) (ls : Array Slot) (S : ST), WD x s S H locs → ∀ (i0 : Nat) (a1 : Int32) (a2 : Int32) (a3 : Int32), i0 < 22 → lv_has ls 5 [(0, .ref (x.2.2 (2 * i0))), (1, .int a1), (2, .int a2), (3, .int a3)] → k4 S i0 a1 a2 a3 = some res → W p l e ({ frames := 0, cells := 0, slots := 0, locals := 0 } : Room) s m args below meth c H locs 0 0 (MQ below (QI x res.2 res.1 s.heap.size) args s 0 0 (AA x s.heap.size)) (F0 m 4 ls [])) : ∀ (n : Nat), ∀ (H : Heap) (locs : List Loc) (ls : Array Slot) (S : ST), WD x s S H locs → ∀ (i0 : Nat) (a1 : Int32) (a2 : Int32) (a3 : Int32) (a4 : Int32), i0 < 22 → lv_has ls 5 [(0, .ref (x.2.2 (2 * i0))), (1, .int a1), (2, .int a2), (3, .int a3), (4, .int a4)] → f_X2_pairsApart_15 k4 n S i0 a1 a2 a3 a4 = some res → W p l e ({ frames := 0, cells := 0, slots := 0, locals := 0 } : Room) s m args below meth c H locs 0 0 (MQ below (QI x res.2 res.1 s.heap.size) args s 0 0 (AA x s.heap.size)) (F0 m 15 ls []) := by
  intro n
  induction n with
  | zero =>
    intro H locs ls S w i0 a1 a2 a3 a4 h0 hl hf
    have hf : (none : Option (Int32 × ST)) = some res := hf
    cases hf
  | succ n ih =>
    intro H locs ls S w i0 a1 a2 a3 a4 h0 hl hf
    unfold f_X2_pairsApart_15 at hf
    refine lv_iload F.1 F.2.1 dX2_pairsApart_15 (lv_at hl 4 rfl) ?_
    refine lv_iload_n F.1 F.2.1 dX2_pairsApart_17 rfl (lv_at hl 3 rfl) ?_
    refine lv_icmp_ge (tgt := 48) F.1 F.2.1 dX2_pairsApart_18 (by decide) (fun c1 => ?_) (fun c1 => ?_)
    · replace hf := oi_t hf c1
      obtain ⟨v2, e_v2⟩ : ∃ y : Int32, y = (a3 + 1) := ⟨_, rfl⟩
      replace hf := oi_l hf e_v2
      refine lv_iinc (v := v2) (lv' := [(3, .int v2), (0, .ref (x.2.2 (2 * i0))), (1, .int a1), (2, .int a2), (4, .int a4)]) F.1 F.2.1 dX2_pairsApart_48 hl (k := 3) rfl (by rw [e_v2]; rfl) (by decide) rfl (fun ls hl => ?_)
      refine lv_goto (tgt := 4) F.1 F.2.1 dX2_pairsApart_51 (by decide) ?_
      exact hk4 _ _ _ _ w i0 a1 a2 v2 h0 (lv_sub hl [1, 2, 3, 0] rfl) hf
    · replace hf := oi_f hf c1
      refine lv_aload_n F.1 F.2.1 dX2_pairsApart_21 rfl (lv_at hl 0 rfl) ?_
      refine g_MS_marks (i := i0) F w h0 q44 dX2_pairsApart_22 ?_
      refine lv_iload_n F.1 F.2.1 dX2_pairsApart_25 rfl (lv_at hl 3 rfl) ?_
      obtain ⟨hb3, hf⟩ := oi_g hf
      refine r_iald F w (k := 2 * i0 + 1) (f := ai S i0) (k_ma (Nat.lt_trans h0 (by decide))) (enc_ma x S (Nat.lt_trans h0 (by decide))) hb3 dX2_pairsApart_26 ?_
      refine lv_aload_n F.1 F.2.1 dX2_pairsApart_27 rfl (lv_at hl 0 rfl) ?_
      refine g_MS_marks (i := i0) F w h0 q44 dX2_pairsApart_28 ?_
      refine lv_iload F.1 F.2.1 dX2_pairsApart_31 (lv_at hl 4 rfl) ?_
      obtain ⟨hb4, hf⟩ := oi_g hf
      refine r_iald F w (k := 2 * i0 + 1) (f := ai S i0) (k_ma (Nat.lt_trans h0 (by decide))) (enc_ma x S (Nat.lt_trans h0 (by decide))) hb4 dX2_pairsApart_33 ?_
      refine lv_isub F.1 F.2.1 dX2_pairsApart_34 ?_
      refine lv_iload_n F.1 F.2.1 dX2_pairsApart_35 rfl (lv_at hl 1 rfl) ?_
      refine lv_icmp_ne (tgt := 42) F.1 F.2.1 dX2_pairsApart_36 (by decide) (fun c5 => ?_) (fun c5 => ?_)
      · replace hf := oi_f hf c5
        exact b_X2_pairsApart_42 F k4 hk4 (f_X2_pairsApart_15 k4 n) ih _ _ _ _ w i0 a1 a2 a3 a4 h0 (lv_sub hl [0, 1, 2, 3, 4] rfl) hf
      · replace hf := oi_t hf c5
        obtain ⟨v6, e_v6⟩ : ∃ y : Int32, y = (a2 + 1) := ⟨_, rfl⟩
        replace hf := oi_l hf e_v6
        refine lv_iinc (v := v6) (lv' := [(2, .int v6), (0, .ref (x.2.2 (2 * i0))), (1, .int a1), (3, .int a3), (4, .int a4)]) F.1 F.2.1 dX2_pairsApart_39 hl (k := 2) rfl (by rw [e_v6]; rfl) (by decide) rfl (fun ls hl => ?_)
        exact b_X2_pairsApart_42 F k4 hk4 (f_X2_pairsApart_15 k4 n) ih _ _ _ _ w i0 a1 v6 a3 a4 h0 (lv_sub hl [1, 2, 0, 3, 4] rfl) hf
def f_X2_pairsApart_4 : Nat → ST → Nat → Int32 → Int32 → Int32 → Option (Int32 × ST)
  | 0, _, _, _, _, _ => none
  | n + 1, S, i0, a1, a2, a3 => (if (fi S i0) ≤ a3 then some (a2, S) else f_X2_pairsApart_15 (f_X2_pairsApart_4 n) FU S i0 a1 a2 a3 0)
set_option maxHeartbeats 4000000 in
set_option maxRecDepth 100000 in
theorem b_X2_pairsApart_4 {p : Program} {l : Launch} {e : Env} {s : State} {m : MethodId} {args : Array Value} {below : List Frame} {meth : Method} {c : Code} {x : CX} {res : Int32 × ST} (F : MF p m meth c cX2_pairsApart 5 s args RX2 (some .int)) : ∀ (n : Nat), ∀ (H : Heap) (locs : List Loc) (ls : Array Slot) (S : ST), WD x s S H locs → ∀ (i0 : Nat) (a1 : Int32) (a2 : Int32) (a3 : Int32), i0 < 22 → lv_has ls 5 [(0, .ref (x.2.2 (2 * i0))), (1, .int a1), (2, .int a2), (3, .int a3)] → f_X2_pairsApart_4 n S i0 a1 a2 a3 = some res → W p l e ({ frames := 0, cells := 0, slots := 0, locals := 0 } : Room) s m args below meth c H locs 0 0 (MQ below (QI x res.2 res.1 s.heap.size) args s 0 0 (AA x s.heap.size)) (F0 m 4 ls []) := by
  intro n
  induction n with
  | zero =>
    intro H locs ls S w i0 a1 a2 a3 h0 hl hf
    have hf : (none : Option (Int32 × ST)) = some res := hf
    cases hf
  | succ n ih =>
    intro H locs ls S w i0 a1 a2 a3 h0 hl hf
    unfold f_X2_pairsApart_4 at hf
    refine lv_iload_n F.1 F.2.1 dX2_pairsApart_4 rfl (lv_at hl 3 rfl) ?_
    refine lv_aload_n F.1 F.2.1 dX2_pairsApart_5 rfl (lv_at hl 0 rfl) ?_
    refine g_MS_count (i := i0) F w h0 q45 dX2_pairsApart_6 ?_
    refine lv_icmp_ge (tgt := 54) F.1 F.2.1 dX2_pairsApart_9 (by decide) (fun c1 => ?_) (fun c1 => ?_)
    · replace hf := oi_t hf c1
      refine lv_iload_n F.1 F.2.1 dX2_pairsApart_54 rfl (lv_at hl 2 rfl) ?_
      exact r_iret F w (oi_s hf) dX2_pairsApart_55
    · replace hf := oi_f hf c1
      refine lv_iconst (v := 0) F.1 F.2.1 dX2_pairsApart_12 (by decide) ?_
      refine lv_istore (lv' := [(4, .int 0), (0, .ref (x.2.2 (2 * i0))), (1, .int a1), (2, .int a2), (3, .int a3)]) F.1 F.2.1 dX2_pairsApart_13 hl (by decide) rfl (fun ls hl => ?_)
      exact b_X2_pairsApart_15 F (f_X2_pairsApart_4 n) ih FU _ _ _ _ w i0 a1 a2 a3 0 h0 (lv_sub hl [1, 2, 3, 4, 0] rfl) hf
def f_X2_pairsApart_0 (S : ST) (i0 : Nat) (a1 : Int32) : Option (Int32 × ST) := f_X2_pairsApart_4 FU S i0 a1 0 1
set_option maxHeartbeats 4000000 in
set_option maxRecDepth 100000 in
theorem b_X2_pairsApart_0 {p : Program} {l : Launch} {e : Env} {s : State} {m : MethodId} {args : Array Value} {below : List Frame} {meth : Method} {c : Code} {x : CX} {res : Int32 × ST} (F : MF p m meth c cX2_pairsApart 5 s args RX2 (some .int)) : ∀ (H : Heap) (locs : List Loc) (ls : Array Slot) (S : ST), WD x s S H locs → ∀ (i0 : Nat) (a1 : Int32), i0 < 22 → lv_has ls 5 [(0, .ref (x.2.2 (2 * i0))), (1, .int a1)] → f_X2_pairsApart_0 S i0 a1 = some res → W p l e ({ frames := 0, cells := 0, slots := 0, locals := 0 } : Room) s m args below meth c H locs 0 0 (MQ below (QI x res.2 res.1 s.heap.size) args s 0 0 (AA x s.heap.size)) (F0 m 0 ls []) := by
  intro H locs ls S w i0 a1 h0 hl hf
  unfold f_X2_pairsApart_0 at hf
  refine lv_iconst (v := 0) F.1 F.2.1 dX2_pairsApart_0 (by decide) ?_
  refine lv_istore_n (lv' := [(2, .int 0), (0, .ref (x.2.2 (2 * i0))), (1, .int a1)]) F.1 F.2.1 dX2_pairsApart_1 rfl hl (by decide) rfl (fun ls hl => ?_)
  refine lv_iconst (v := 1) F.1 F.2.1 dX2_pairsApart_2 (by decide) ?_
  refine lv_istore_n (lv' := [(3, .int 1), (2, .int 0), (0, .ref (x.2.2 (2 * i0))), (1, .int a1)]) F.1 F.2.1 dX2_pairsApart_3 rfl hl (by decide) rfl (fun ls hl => ?_)
  exact b_X2_pairsApart_4 F FU _ _ _ _ w i0 a1 0 1 h0 (lv_sub hl [2, 3, 1, 0] rfl) hf
def f_X2_pairsApart (S : ST) (i0 : Nat) (a1 : Int32) : Option (Int32 × ST) := f_X2_pairsApart_0 S i0 a1
set_option maxHeartbeats 4000000 in
set_option maxRecDepth 100000 in
theorem k_X2_pairsApart (l : Launch) (x : CX) (S : ST) (i0 : Nat) (a1 : Int32) (h0 : i0 < 22) {res : Int32 × ST} (hf : f_X2_pairsApart S i0 a1 = some res) (sz : Nat) : Met l yX2_pairsApart (Cond.code yX2_pairsApart cX2_pairsApart 5 (some .int) :: GW) ({ frames := 0, cells := 0, slots := 0, locals := 0 } : Room) (PC x S sz [.ref (x.2.2 (2 * i0)), .int a1]) (QI x res.2 res.1 sz) 0 0 (AA x sz) := by
  refine Met.ofW (cc := cX2_pairsApart) (maxL := 5) (ret := (some .int)) (by decide) rfl ?_
  intro p e s m args below meth c s₁ B hml hv
  obtain ⟨rfl, rfl, hPW⟩ := hv
  have F : MF p m meth c cX2_pairsApart 5 s _ RX2 (some .int) := MF.of B hml
  have w := WD.of hPW
  have hl := lv_entry ([.ref (x.2.2 (2 * i0)), .int a1]) (n := 5) (Nat.le_of_ble_eq_true rfl)
  rw [lg_entry_eq]
  generalize (lg_sl ([.ref (x.2.2 (2 * i0)), .int a1]) ++ List.replicate (5 - (lg_sl ([.ref (x.2.2 (2 * i0)), .int a1])).length) Slot.unset).toArray = ls at hl ⊢
  have hl : lv_has ls 5 [(0, .ref (x.2.2 (2 * i0))), (1, .int a1)] := hl
  unfold f_X2_pairsApart at hf
  exact b_X2_pairsApart_0 F  _ _ _ _ w i0 a1 h0 (lv_sub hl [0, 1] rfl) hf
theorem cy_X2_pop : CY yX2_pop RX2 cX2_pop 1 none 0 := ⟨q3, q801, rfl, by decide, by decide, by decide +kernel⟩
def f_X2_pop_17 (S : ST)  : Option (ST) := some S
set_option maxHeartbeats 4000000 in
set_option maxRecDepth 100000 in
theorem b_X2_pop_17 {p : Program} {l : Launch} {e : Env} {s : State} {m : MethodId} {args : Array Value} {below : List Frame} {meth : Method} {c : Code} {x : CX} {res : ST} (F : MF p m meth c cX2_pop 1 s args RX2 none) : ∀ (H : Heap) (locs : List Loc) (ls : Array Slot) (S : ST), WD x s S H locs → lv_has ls 1 [] → f_X2_pop_17 S = some res → W p l e ({ frames := 0, cells := 0, slots := 0, locals := 0 } : Room) s m args below meth c H locs 0 0 (MQ below (QV x res s.heap.size) args s 0 0 (AA x s.heap.size)) (F0 m 17 ls []) := by
  intro H locs ls S w hl hf
  unfold f_X2_pop_17 at hf
  exact r_vret F w (oi_s hf) dX2_pop_17
def f_X2_pop_0 (S : ST) (i0 : Nat) : Option (ST) := (if (fi S i0) ≤ 0 then f_X2_pop_17 S else oL (sI S i0 ((fi S i0) - (1 : Int32))) (fun (S2 : ST) => f_X2_pop_17 S2))
set_option maxHeartbeats 4000000 in
set_option maxRecDepth 100000 in
theorem b_X2_pop_0 {p : Program} {l : Launch} {e : Env} {s : State} {m : MethodId} {args : Array Value} {below : List Frame} {meth : Method} {c : Code} {x : CX} {res : ST} (F : MF p m meth c cX2_pop 1 s args RX2 none) : ∀ (H : Heap) (locs : List Loc) (ls : Array Slot) (S : ST), WD x s S H locs → ∀ (i0 : Nat), i0 < 22 → lv_has ls 1 [(0, .ref (x.2.2 (2 * i0)))] → f_X2_pop_0 S i0 = some res → W p l e ({ frames := 0, cells := 0, slots := 0, locals := 0 } : Room) s m args below meth c H locs 0 0 (MQ below (QV x res s.heap.size) args s 0 0 (AA x s.heap.size)) (F0 m 0 ls []) := by
  intro H locs ls S w i0 h0 hl hf
  unfold f_X2_pop_0 at hf
  refine lv_aload_n F.1 F.2.1 dX2_pop_0 rfl (lv_at hl 0 rfl) ?_
  refine g_MS_count (i := i0) F w h0 q45 dX2_pop_1 ?_
  refine lv_if_le (tgt := 17) F.1 F.2.1 dX2_pop_4 (by decide) (fun c1 => ?_) (fun c1 => ?_)
  · replace hf := oi_t hf c1
    exact b_X2_pop_17 F  _ _ _ _ w  (lv_sub hl [] rfl) hf
  · replace hf := oi_f hf c1
    refine lv_aload_n F.1 F.2.1 dX2_pop_7 rfl (lv_at hl 0 rfl) ?_
    refine lv_dup F.1 F.2.1 dX2_pop_8 rfl ?_
    refine g_MS_count (i := i0) F w h0 q45 dX2_pop_9 ?_
    refine lv_iconst (v := 1) F.1 F.2.1 dX2_pop_12 (by decide) ?_
    refine lv_isub F.1 F.2.1 dX2_pop_13 ?_
    refine p_MS_count (i := i0) F w h0 q45 dX2_pop_14 (fun H locs w => ?_)
    obtain ⟨S2, e_S2⟩ : ∃ y : ST, y = sI S i0 ((fi S i0) - (1 : Int32)) := ⟨_, rfl⟩
    replace w : WD x s S2 H locs := by rw [e_S2]; exact w
    replace hf := oi_l hf e_S2
    exact b_X2_pop_17 F  _ _ _ _ w  (lv_sub hl [] rfl) hf
def f_X2_pop (S : ST) (i0 : Nat) : Option (ST) := f_X2_pop_0 S i0
set_option maxHeartbeats 4000000 in
set_option maxRecDepth 100000 in
theorem k_X2_pop (l : Launch) (x : CX) (S : ST) (i0 : Nat) (h0 : i0 < 22) {res : ST} (hf : f_X2_pop S i0 = some res) (sz : Nat) : Met l yX2_pop (Cond.code yX2_pop cX2_pop 1 none :: GW) ({ frames := 0, cells := 0, slots := 0, locals := 0 } : Room) (PC x S sz [.ref (x.2.2 (2 * i0))]) (QV x res sz) 0 0 (AA x sz) := by
  refine Met.ofW (cc := cX2_pop) (maxL := 1) (ret := none) (by decide) rfl ?_
  intro p e s m args below meth c s₁ B hml hv
  obtain ⟨rfl, rfl, hPW⟩ := hv
  have F : MF p m meth c cX2_pop 1 s _ RX2 none := MF.of B hml
  have w := WD.of hPW
  have hl := lv_entry ([.ref (x.2.2 (2 * i0))]) (n := 1) (Nat.le_of_ble_eq_true rfl)
  rw [lg_entry_eq]
  generalize (lg_sl ([.ref (x.2.2 (2 * i0))]) ++ List.replicate (1 - (lg_sl ([.ref (x.2.2 (2 * i0))])).length) Slot.unset).toArray = ls at hl ⊢
  have hl : lv_has ls 1 [(0, .ref (x.2.2 (2 * i0)))] := hl
  unfold f_X2_pop at hf
  exact b_X2_pop_0 F  _ _ _ _ w i0 h0 (lv_sub hl [0] rfl) hf
theorem cy_X2_take : CY yX2_take RX2 cX2_take 2 none 1 := ⟨q3, q477, rfl, by decide, by decide, by decide +kernel⟩
def f_X2_take_0 (S : ST) (i0 : Nat) (i1 : Nat) : Option (ST) := oL (sA S i0 (va_cpy (ai S i1) (ai S i0) 0 0 24)) (fun (S1 : ST) => oL (sI S1 i0 (fi S1 i1)) (fun (S2 : ST) => some S2))
set_option maxHeartbeats 4000000 in
set_option maxRecDepth 100000 in
theorem b_X2_take_0 {p : Program} {l : Launch} {e : Env} {s : State} {m : MethodId} {args : Array Value} {below : List Frame} {meth : Method} {c : Code} {x : CX} {res : ST} (F : MF p m meth c cX2_take 2 s args RX2 none) : ∀ (H : Heap) (locs : List Loc) (ls : Array Slot) (S : ST), WD x s S H locs → ∀ (i0 : Nat) (i1 : Nat), i0 < 22 → i1 < 22 → lv_has ls 2 [(0, .ref (x.2.2 (2 * i0))), (1, .ref (x.2.2 (2 * i1)))] → f_X2_take_0 S i0 i1 = some res → W p l e ({ frames := 1, cells := 0, slots := 0, locals := 64 } : Room) s m args below meth c H locs 0 0 (MQ below (QV x res s.heap.size) args s 0 0 (AA x s.heap.size)) (F0 m 0 ls []) := by
  intro H locs ls S w i0 i1 h0 h1 hl hf
  unfold f_X2_take_0 at hf
  refine lv_aload_n F.1 F.2.1 dX2_take_0 rfl (lv_at hl 1 rfl) ?_
  refine g_MS_marks (i := i1) F w h1 q44 dX2_take_1 ?_
  refine lv_iconst (v := 0) F.1 F.2.1 dX2_take_4 (by decide) ?_
  refine lv_aload_n F.1 F.2.1 dX2_take_5 rfl (lv_at hl 0 rfl) ?_
  refine g_MS_marks (i := i0) F w h0 q44 dX2_take_6 ?_
  refine lv_iconst (v := 0) F.1 F.2.1 dX2_take_9 (by decide) ?_
  refine lv_bipush (v := 24) F.1 F.2.1 dX2_take_10 (by decide) ?_
  refine r_copy F w (i := i0) (j := i1) (Nat.lt_trans h0 (by decide)) (Nat.lt_trans h1 (by decide)) (F.2.2.1.trans hl.1.symm) q478 (Nat.le_of_ble_eq_true rfl) (Nat.le_of_ble_eq_true rfl) dX2_take_12 (fun H locs w => ?_)
  obtain ⟨S1, e_S1⟩ : ∃ y : ST, y = sA S i0 (va_cpy (ai S i1) (ai S i0) 0 0 24) := ⟨_, rfl⟩
  replace w : WD x s S1 H locs := by rw [e_S1]; exact w
  replace hf := oi_l hf e_S1
  refine lv_aload_n F.1 F.2.1 dX2_take_15 rfl (lv_at hl 0 rfl) ?_
  refine lv_aload_n F.1 F.2.1 dX2_take_16 rfl (lv_at hl 1 rfl) ?_
  refine g_MS_count (i := i1) F w h1 q45 dX2_take_17 ?_
  refine p_MS_count (i := i0) F w h0 q45 dX2_take_20 (fun H locs w => ?_)
  obtain ⟨S2, e_S2⟩ : ∃ y : ST, y = sI S1 i0 (fi S1 i1) := ⟨_, rfl⟩
  replace w : WD x s S2 H locs := by rw [e_S2]; exact w
  replace hf := oi_l hf e_S2
  exact r_vret F w (oi_s hf) dX2_take_23
def f_X2_take (S : ST) (i0 : Nat) (i1 : Nat) : Option (ST) := f_X2_take_0 S i0 i1
set_option maxHeartbeats 4000000 in
set_option maxRecDepth 100000 in
theorem k_X2_take (l : Launch) (x : CX) (S : ST) (i0 : Nat) (i1 : Nat) (h0 : i0 < 22) (h1 : i1 < 22) {res : ST} (hf : f_X2_take S i0 i1 = some res) (sz : Nat) : Met l yX2_take (Cond.code yX2_take cX2_take 2 none :: GW) ({ frames := 1, cells := 0, slots := 0, locals := 64 } : Room) (PC x S sz [.ref (x.2.2 (2 * i0)), .ref (x.2.2 (2 * i1))]) (QV x res sz) 0 0 (AA x sz) := by
  refine Met.ofW (cc := cX2_take) (maxL := 2) (ret := none) (by decide) rfl ?_
  intro p e s m args below meth c s₁ B hml hv
  obtain ⟨rfl, rfl, hPW⟩ := hv
  have F : MF p m meth c cX2_take 2 s _ RX2 none := MF.of B hml
  have w := WD.of hPW
  have hl := lv_entry ([.ref (x.2.2 (2 * i0)), .ref (x.2.2 (2 * i1))]) (n := 2) (Nat.le_of_ble_eq_true rfl)
  rw [lg_entry_eq]
  generalize (lg_sl ([.ref (x.2.2 (2 * i0)), .ref (x.2.2 (2 * i1))]) ++ List.replicate (2 - (lg_sl ([.ref (x.2.2 (2 * i0)), .ref (x.2.2 (2 * i1))])).length) Slot.unset).toArray = ls at hl ⊢
  have hl : lv_has ls 2 [(0, .ref (x.2.2 (2 * i0))), (1, .ref (x.2.2 (2 * i1)))] := hl
  unfold f_X2_take at hf
  exact b_X2_take_0 F  _ _ _ _ w i0 i1 h0 h1 (lv_sub hl [0, 1] rfl) hf
theorem cy_X2_takeWith : CY yX2_takeWith RX2 cX2_takeWith 5 none 3 := ⟨q3, q453, rfl, by decide, by decide, by decide +kernel⟩
def f_X2_takeWith_37 : Nat → ST → Nat → Nat → Int32 → Option (ST)
  | 0, _, _, _, _ => none
  | n + 1, S, i0, i1, a4 => (if (fi S i1) ≤ a4 then some S else oB (f_X2_at S i1 a4) (fun (r3 : Int32) (S2 : ST) => oV (f_X2_push S2 i0 r3) (fun (S4 : ST) => oL (a4 + 1) (fun (v5 : Int32) => (f_X2_takeWith_37 n) S4 i0 i1 v5))))
set_option maxHeartbeats 4000000 in
set_option maxRecDepth 100000 in
theorem b_X2_takeWith_37 {p : Program} {l : Launch} {e : Env} {s : State} {m : MethodId} {args : Array Value} {below : List Frame} {meth : Method} {c : Code} {x : CX} {res : ST} (F : MF p m meth c cX2_takeWith 5 s args RX2 none) : ∀ (n : Nat), ∀ (H : Heap) (locs : List Loc) (ls : Array Slot) (S : ST), WD x s S H locs → ∀ (i0 : Nat) (i1 : Nat) (a4 : Int32), i0 < 22 → i1 < 22 → lv_has ls 5 [(0, .ref (x.2.2 (2 * i0))), (1, .ref (x.2.2 (2 * i1))), (4, .int a4)] → f_X2_takeWith_37 n S i0 i1 a4 = some res → W p l e ({ frames := 1, cells := 0, slots := 0, locals := 21 } : Room) s m args below meth c H locs 0 0 (MQ below (QV x res s.heap.size) args s 0 0 (AA x s.heap.size)) (F0 m 37 ls []) := by
  intro n
  induction n with
  | zero =>
    intro H locs ls S w i0 i1 a4 h0 h1 hl hf
    have hf : (none : Option (ST)) = some res := hf
    cases hf
  | succ n ih =>
    intro H locs ls S w i0 i1 a4 h0 h1 hl hf
    unfold f_X2_takeWith_37 at hf
    refine lv_iload F.1 F.2.1 dX2_takeWith_37 (lv_at hl 2 rfl) ?_
    refine lv_aload_n F.1 F.2.1 dX2_takeWith_39 rfl (lv_at hl 1 rfl) ?_
    refine g_MS_count (i := i1) F w h1 q45 dX2_takeWith_40 ?_
    refine lv_icmp_ge (tgt := 62) F.1 F.2.1 dX2_takeWith_43 (by decide) (fun c1 => ?_) (fun c1 => ?_)
    · replace hf := oi_t hf c1
      exact r_vret F w (oi_s hf) dX2_takeWith_62
    · replace hf := oi_f hf c1
      refine lv_aload_n F.1 F.2.1 dX2_takeWith_46 rfl (lv_at hl 0 rfl) ?_
      refine lv_aload_n F.1 F.2.1 dX2_takeWith_47 rfl (lv_at hl 1 rfl) ?_
      refine lv_iload F.1 F.2.1 dX2_takeWith_48 (lv_at hl 2 rfl) ?_
      obtain ⟨r3, S2, hc, hf⟩ := oi_b hf
      refine k_i0 (S' := S2) (r := r3) w (runV (As := [.int a4]) (rest := [.ref (x.2.2 (2 * i0))]) (kb := 2 * i1) F w (k_X2_at l x S i1 a4 h1 hc H.size) cy_X2_at q260 q217 q218 ⟨rfl, rfl⟩ ⟨Nat.le_of_ble_eq_true rfl, Nat.le_of_ble_eq_true rfl⟩ (k_ms h1) (enc_ms x S h1) rfl rfl rfl hl.1 (Nat.le_of_ble_eq_true rfl) ⟨Nat.le_of_ble_eq_true rfl, Nat.le_of_ble_eq_true rfl⟩ dX2_takeWith_50) (fun H locs w => ?_)
      obtain ⟨S4, hc, hf⟩ := oi_v hf
      refine k_v0 (S' := S4) w (runV (As := [.int r3]) (rest := []) (kb := 2 * i0) F w (k_X2_push l x S2 i0 r3 h0 hc H.size) cy_X2_push q458 q459 q460 ⟨rfl, rfl⟩ ⟨Nat.le_of_ble_eq_true rfl, Nat.le_of_ble_eq_true rfl⟩ (k_ms h0) (enc_ms x S2 h0) rfl rfl rfl hl.1 (Nat.le_of_ble_eq_true rfl) ⟨Nat.le_of_ble_eq_true rfl, Nat.le_of_ble_eq_true rfl⟩ dX2_takeWith_53) (fun H locs w => ?_)
      obtain ⟨v5, e_v5⟩ : ∃ y : Int32, y = (a4 + 1) := ⟨_, rfl⟩
      replace hf := oi_l hf e_v5
      refine lv_iinc (v := v5) (lv' := [(4, .int v5), (0, .ref (x.2.2 (2 * i0))), (1, .ref (x.2.2 (2 * i1)))]) F.1 F.2.1 dX2_takeWith_56 hl (k := 2) rfl (by rw [e_v5]; rfl) (by decide) rfl (fun ls hl => ?_)
      refine lv_goto (tgt := 37) F.1 F.2.1 dX2_takeWith_59 (by decide) ?_
      exact ih _ _ _ _ w i0 i1 v5 h0 h1 (lv_sub hl [1, 2, 0] rfl) hf
def f_X2_takeWith_7 : Nat → ST → Nat → Nat → Int32 → Int32 → Int32 → Option (ST)
  | 0, _, _, _, _, _, _ => none
  | n + 1, S, i0, i1, a2, a3, a4 => (if a2 ≤ a4 then oV (f_X2_push S i0 a3) (fun (S2 : ST) => f_X2_takeWith_37 FU S2 i0 i1 a2) else oB (f_X2_at S i1 a4) (fun (r4 : Int32) (S3 : ST) => oV (f_X2_push S3 i0 r4) (fun (S5 : ST) => oL (a4 + 1) (fun (v6 : Int32) => (f_X2_takeWith_7 n) S5 i0 i1 a2 a3 v6))))
set_option maxHeartbeats 4000000 in
set_option maxRecDepth 100000 in
theorem b_X2_takeWith_7 {p : Program} {l : Launch} {e : Env} {s : State} {m : MethodId} {args : Array Value} {below : List Frame} {meth : Method} {c : Code} {x : CX} {res : ST} (F : MF p m meth c cX2_takeWith 5 s args RX2 none) : ∀ (n : Nat), ∀ (H : Heap) (locs : List Loc) (ls : Array Slot) (S : ST), WD x s S H locs → ∀ (i0 : Nat) (i1 : Nat) (a2 : Int32) (a3 : Int32) (a4 : Int32), i0 < 22 → i1 < 22 → lv_has ls 5 [(0, .ref (x.2.2 (2 * i0))), (1, .ref (x.2.2 (2 * i1))), (2, .int a2), (3, .int a3), (4, .int a4)] → f_X2_takeWith_7 n S i0 i1 a2 a3 a4 = some res → W p l e ({ frames := 1, cells := 0, slots := 0, locals := 21 } : Room) s m args below meth c H locs 0 0 (MQ below (QV x res s.heap.size) args s 0 0 (AA x s.heap.size)) (F0 m 7 ls []) := by
  intro n
  induction n with
  | zero =>
    intro H locs ls S w i0 i1 a2 a3 a4 h0 h1 hl hf
    have hf : (none : Option (ST)) = some res := hf
    cases hf
  | succ n ih =>
    intro H locs ls S w i0 i1 a2 a3 a4 h0 h1 hl hf
    unfold f_X2_takeWith_7 at hf
    refine lv_iload F.1 F.2.1 dX2_takeWith_7 (lv_at hl 4 rfl) ?_
    refine lv_iload_n F.1 F.2.1 dX2_takeWith_9 rfl (lv_at hl 2 rfl) ?_
    refine lv_icmp_ge (tgt := 29) F.1 F.2.1 dX2_takeWith_10 (by decide) (fun c1 => ?_) (fun c1 => ?_)
    · replace hf := oi_t hf c1
      refine lv_aload_n F.1 F.2.1 dX2_takeWith_29 rfl (lv_at hl 0 rfl) ?_
      refine lv_iload_n F.1 F.2.1 dX2_takeWith_30 rfl (lv_at hl 3 rfl) ?_
      obtain ⟨S2, hc, hf⟩ := oi_v hf
      refine k_v0 (S' := S2) w (runV (As := [.int a3]) (rest := []) (kb := 2 * i0) F w (k_X2_push l x S i0 a3 h0 hc H.size) cy_X2_push q458 q459 q460 ⟨rfl, rfl⟩ ⟨Nat.le_of_ble_eq_true rfl, Nat.le_of_ble_eq_true rfl⟩ (k_ms h0) (enc_ms x S h0) rfl rfl rfl hl.1 (Nat.le_of_ble_eq_true rfl) ⟨Nat.le_of_ble_eq_true rfl, Nat.le_of_ble_eq_true rfl⟩ dX2_takeWith_31) (fun H locs w => ?_)
      refine lv_iload_n F.1 F.2.1 dX2_takeWith_34 rfl (lv_at hl 2 rfl) ?_
      refine lv_istore (lv' := [(4, .int a2), (0, .ref (x.2.2 (2 * i0))), (1, .ref (x.2.2 (2 * i1))), (2, .int a2), (3, .int a3)]) F.1 F.2.1 dX2_takeWith_35 hl (by decide) rfl (fun ls hl => ?_)
      exact b_X2_takeWith_37 F FU _ _ _ _ w i0 i1 a2 h0 h1 (lv_sub hl [1, 2, 0] rfl) hf
    · replace hf := oi_f hf c1
      refine lv_aload_n F.1 F.2.1 dX2_takeWith_13 rfl (lv_at hl 0 rfl) ?_
      refine lv_aload_n F.1 F.2.1 dX2_takeWith_14 rfl (lv_at hl 1 rfl) ?_
      refine lv_iload F.1 F.2.1 dX2_takeWith_15 (lv_at hl 4 rfl) ?_
      obtain ⟨r4, S3, hc, hf⟩ := oi_b hf
      refine k_i0 (S' := S3) (r := r4) w (runV (As := [.int a4]) (rest := [.ref (x.2.2 (2 * i0))]) (kb := 2 * i1) F w (k_X2_at l x S i1 a4 h1 hc H.size) cy_X2_at q260 q217 q218 ⟨rfl, rfl⟩ ⟨Nat.le_of_ble_eq_true rfl, Nat.le_of_ble_eq_true rfl⟩ (k_ms h1) (enc_ms x S h1) rfl rfl rfl hl.1 (Nat.le_of_ble_eq_true rfl) ⟨Nat.le_of_ble_eq_true rfl, Nat.le_of_ble_eq_true rfl⟩ dX2_takeWith_17) (fun H locs w => ?_)
      obtain ⟨S5, hc, hf⟩ := oi_v hf
      refine k_v0 (S' := S5) w (runV (As := [.int r4]) (rest := []) (kb := 2 * i0) F w (k_X2_push l x S3 i0 r4 h0 hc H.size) cy_X2_push q458 q459 q460 ⟨rfl, rfl⟩ ⟨Nat.le_of_ble_eq_true rfl, Nat.le_of_ble_eq_true rfl⟩ (k_ms h0) (enc_ms x S3 h0) rfl rfl rfl hl.1 (Nat.le_of_ble_eq_true rfl) ⟨Nat.le_of_ble_eq_true rfl, Nat.le_of_ble_eq_true rfl⟩ dX2_takeWith_20) (fun H locs w => ?_)
      obtain ⟨v6, e_v6⟩ : ∃ y : Int32, y = (a4 + 1) := ⟨_, rfl⟩
      replace hf := oi_l hf e_v6
      refine lv_iinc (v := v6) (lv' := [(4, .int v6), (0, .ref (x.2.2 (2 * i0))), (1, .ref (x.2.2 (2 * i1))), (2, .int a2), (3, .int a3)]) F.1 F.2.1 dX2_takeWith_23 hl (k := 4) rfl (by rw [e_v6]; rfl) (by decide) rfl (fun ls hl => ?_)
      refine lv_goto (tgt := 7) F.1 F.2.1 dX2_takeWith_26 (by decide) ?_
      exact ih _ _ _ _ w i0 i1 a2 a3 v6 h0 h1 (lv_sub hl [1, 2, 3, 4, 0] rfl) hf
def f_X2_takeWith_0 (S : ST) (i0 : Nat) (i1 : Nat) (a2 : Int32) (a3 : Int32) : Option (ST) := oV (f_X2_empty S i0) (fun (S1 : ST) => f_X2_takeWith_7 FU S1 i0 i1 a2 a3 0)
set_option maxHeartbeats 4000000 in
set_option maxRecDepth 100000 in
theorem b_X2_takeWith_0 {p : Program} {l : Launch} {e : Env} {s : State} {m : MethodId} {args : Array Value} {below : List Frame} {meth : Method} {c : Code} {x : CX} {res : ST} (F : MF p m meth c cX2_takeWith 5 s args RX2 none) : ∀ (H : Heap) (locs : List Loc) (ls : Array Slot) (S : ST), WD x s S H locs → ∀ (i0 : Nat) (i1 : Nat) (a2 : Int32) (a3 : Int32), i0 < 22 → i1 < 22 → lv_has ls 5 [(0, .ref (x.2.2 (2 * i0))), (1, .ref (x.2.2 (2 * i1))), (2, .int a2), (3, .int a3)] → f_X2_takeWith_0 S i0 i1 a2 a3 = some res → W p l e ({ frames := 1, cells := 0, slots := 0, locals := 21 } : Room) s m args below meth c H locs 0 0 (MQ below (QV x res s.heap.size) args s 0 0 (AA x s.heap.size)) (F0 m 0 ls []) := by
  intro H locs ls S w i0 i1 a2 a3 h0 h1 hl hf
  unfold f_X2_takeWith_0 at hf
  refine lv_aload_n F.1 F.2.1 dX2_takeWith_0 rfl (lv_at hl 0 rfl) ?_
  obtain ⟨S1, hc, hf⟩ := oi_v hf
  refine k_v0 (S' := S1) w (runV (As := []) (rest := []) (kb := 2 * i0) F w (k_X2_empty l x S i0 h0 hc H.size) cy_X2_empty q454 q455 q456 ⟨rfl, rfl⟩ ⟨Nat.le_of_ble_eq_true rfl, Nat.le_of_ble_eq_true rfl⟩ (k_ms h0) (enc_ms x S h0) rfl rfl rfl hl.1 (Nat.le_of_ble_eq_true rfl) ⟨Nat.le_of_ble_eq_true rfl, Nat.le_of_ble_eq_true rfl⟩ dX2_takeWith_1) (fun H locs w => ?_)
  refine lv_iconst (v := 0) F.1 F.2.1 dX2_takeWith_4 (by decide) ?_
  refine lv_istore (lv' := [(4, .int 0), (0, .ref (x.2.2 (2 * i0))), (1, .ref (x.2.2 (2 * i1))), (2, .int a2), (3, .int a3)]) F.1 F.2.1 dX2_takeWith_5 hl (by decide) rfl (fun ls hl => ?_)
  exact b_X2_takeWith_7 F FU _ _ _ _ w i0 i1 a2 a3 0 h0 h1 (lv_sub hl [1, 2, 3, 4, 0] rfl) hf
def f_X2_takeWith (S : ST) (i0 : Nat) (i1 : Nat) (a2 : Int32) (a3 : Int32) : Option (ST) := f_X2_takeWith_0 S i0 i1 a2 a3
set_option maxHeartbeats 4000000 in
set_option maxRecDepth 100000 in
theorem k_X2_takeWith (l : Launch) (x : CX) (S : ST) (i0 : Nat) (i1 : Nat) (a2 : Int32) (a3 : Int32) (h0 : i0 < 22) (h1 : i1 < 22) {res : ST} (hf : f_X2_takeWith S i0 i1 a2 a3 = some res) (sz : Nat) : Met l yX2_takeWith (Cond.code yX2_takeWith cX2_takeWith 5 none :: GW) ({ frames := 1, cells := 0, slots := 0, locals := 21 } : Room) (PC x S sz [.ref (x.2.2 (2 * i0)), .ref (x.2.2 (2 * i1)), .int a2, .int a3]) (QV x res sz) 0 0 (AA x sz) := by
  refine Met.ofW (cc := cX2_takeWith) (maxL := 5) (ret := none) (by decide) rfl ?_
  intro p e s m args below meth c s₁ B hml hv
  obtain ⟨rfl, rfl, hPW⟩ := hv
  have F : MF p m meth c cX2_takeWith 5 s _ RX2 none := MF.of B hml
  have w := WD.of hPW
  have hl := lv_entry ([.ref (x.2.2 (2 * i0)), .ref (x.2.2 (2 * i1)), .int a2, .int a3]) (n := 5) (Nat.le_of_ble_eq_true rfl)
  rw [lg_entry_eq]
  generalize (lg_sl ([.ref (x.2.2 (2 * i0)), .ref (x.2.2 (2 * i1)), .int a2, .int a3]) ++ List.replicate (5 - (lg_sl ([.ref (x.2.2 (2 * i0)), .ref (x.2.2 (2 * i1)), .int a2, .int a3])).length) Slot.unset).toArray = ls at hl ⊢
  have hl : lv_has ls 5 [(0, .ref (x.2.2 (2 * i0))), (1, .ref (x.2.2 (2 * i1))), (2, .int a2), (3, .int a3)] := hl
  unfold f_X2_takeWith at hf
  exact b_X2_takeWith_0 F  _ _ _ _ w i0 i1 a2 a3 h0 h1 (lv_sub hl [0, 1, 2, 3] rfl) hf
theorem cy_X2_takeWithout : CY yX2_takeWithout RX2 cX2_takeWithout 4 none 2 := ⟨q3, q496, rfl, by decide, by decide, by decide +kernel⟩
def f_X2_takeWithout_32 (k6 : ST → Nat → Nat → Int32 → Int32 → Option (ST)) (S : ST) (i0 : Nat) (i1 : Nat) (a2 : Int32) (a3 : Int32) : Option (ST) := oL (a3 + 1) (fun (v1 : Int32) => k6 S i0 i1 a2 v1)
set_option maxHeartbeats 4000000 in
set_option maxRecDepth 100000 in
theorem b_X2_takeWithout_32 {p : Program} {l : Launch} {e : Env} {s : State} {m : MethodId} {args : Array Value} {below : List Frame} {meth : Method} {c : Code} {x : CX} {res : ST} (F : MF p m meth c cX2_takeWithout 4 s args RX2 none) (k6 : ST → Nat → Nat → Int32 → Int32 → Option (ST)) (hk6 : ∀ (H : Heap) (locs : List Loc) (ls : Array Slot) (S : ST), WD x s S H locs → ∀ (i0 : Nat) (i1 : Nat) (a2 : Int32) (a3 : Int32), i0 < 22 → i1 < 22 → lv_has ls 4 [(0, .ref (x.2.2 (2 * i0))), (1, .ref (x.2.2 (2 * i1))), (2, .int a2), (3, .int a3)] → k6 S i0 i1 a2 a3 = some res → W p l e ({ frames := 1, cells := 0, slots := 0, locals := 21 } : Room) s m args below meth c H locs 0 0 (MQ below (QV x res s.heap.size) args s 0 0 (AA x s.heap.size)) (F0 m 6 ls [])) : ∀ (H : Heap) (locs : List Loc) (ls : Array Slot) (S : ST), WD x s S H locs → ∀ (i0 : Nat) (i1 : Nat) (a2 : Int32) (a3 : Int32), i0 < 22 → i1 < 22 → lv_has ls 4 [(0, .ref (x.2.2 (2 * i0))), (1, .ref (x.2.2 (2 * i1))), (2, .int a2), (3, .int a3)] → f_X2_takeWithout_32 k6 S i0 i1 a2 a3 = some res → W p l e ({ frames := 1, cells := 0, slots := 0, locals := 21 } : Room) s m args below meth c H locs 0 0 (MQ below (QV x res s.heap.size) args s 0 0 (AA x s.heap.size)) (F0 m 32 ls []) := by
  intro H locs ls S w i0 i1 a2 a3 h0 h1 hl hf
  unfold f_X2_takeWithout_32 at hf
  obtain ⟨v1, e_v1⟩ : ∃ y : Int32, y = (a3 + 1) := ⟨_, rfl⟩
  replace hf := oi_l hf e_v1
  refine lv_iinc (v := v1) (lv' := [(3, .int v1), (0, .ref (x.2.2 (2 * i0))), (1, .ref (x.2.2 (2 * i1))), (2, .int a2)]) F.1 F.2.1 dX2_takeWithout_32 hl (k := 3) rfl (by rw [e_v1]; rfl) (by decide) rfl (fun ls hl => ?_)
  refine lv_goto (tgt := 6) F.1 F.2.1 dX2_takeWithout_35 (by decide) ?_
  exact hk6 _ _ _ _ w i0 i1 a2 v1 h0 h1 (lv_sub hl [1, 2, 3, 0] rfl) hf
def f_X2_takeWithout_6 : Nat → ST → Nat → Nat → Int32 → Int32 → Option (ST)
  | 0, _, _, _, _, _ => none
  | n + 1, S, i0, i1, a2, a3 => (if (fi S i1) ≤ a3 then some S else oB (f_X2_at S i1 a3) (fun (r3 : Int32) (S2 : ST) => (if r3 = a2 then f_X2_takeWithout_32 (f_X2_takeWithout_6 n) S2 i0 i1 a2 a3 else oB (f_X2_at S2 i1 a3) (fun (r6 : Int32) (S5 : ST) => oV (f_X2_push S5 i0 r6) (fun (S7 : ST) => f_X2_takeWithout_32 (f_X2_takeWithout_6 n) S7 i0 i1 a2 a3)))))
set_option maxHeartbeats 4000000 in
set_option maxRecDepth 100000 in
theorem b_X2_takeWithout_6 {p : Program} {l : Launch} {e : Env} {s : State} {m : MethodId} {args : Array Value} {below : List Frame} {meth : Method} {c : Code} {x : CX} {res : ST} (F : MF p m meth c cX2_takeWithout 4 s args RX2 none) : ∀ (n : Nat), ∀ (H : Heap) (locs : List Loc) (ls : Array Slot) (S : ST), WD x s S H locs → ∀ (i0 : Nat) (i1 : Nat) (a2 : Int32) (a3 : Int32), i0 < 22 → i1 < 22 → lv_has ls 4 [(0, .ref (x.2.2 (2 * i0))), (1, .ref (x.2.2 (2 * i1))), (2, .int a2), (3, .int a3)] → f_X2_takeWithout_6 n S i0 i1 a2 a3 = some res → W p l e ({ frames := 1, cells := 0, slots := 0, locals := 21 } : Room) s m args below meth c H locs 0 0 (MQ below (QV x res s.heap.size) args s 0 0 (AA x s.heap.size)) (F0 m 6 ls []) := by
  intro n
  induction n with
  | zero =>
    intro H locs ls S w i0 i1 a2 a3 h0 h1 hl hf
    have hf : (none : Option (ST)) = some res := hf
    cases hf
  | succ n ih =>
    intro H locs ls S w i0 i1 a2 a3 h0 h1 hl hf
    unfold f_X2_takeWithout_6 at hf
    refine lv_iload_n F.1 F.2.1 dX2_takeWithout_6 rfl (lv_at hl 3 rfl) ?_
    refine lv_aload_n F.1 F.2.1 dX2_takeWithout_7 rfl (lv_at hl 1 rfl) ?_
    refine g_MS_count (i := i1) F w h1 q45 dX2_takeWithout_8 ?_
    refine lv_icmp_ge (tgt := 38) F.1 F.2.1 dX2_takeWithout_11 (by decide) (fun c1 => ?_) (fun c1 => ?_)
    · replace hf := oi_t hf c1
      exact r_vret F w (oi_s hf) dX2_takeWithout_38
    · replace hf := oi_f hf c1
      refine lv_aload_n F.1 F.2.1 dX2_takeWithout_14 rfl (lv_at hl 1 rfl) ?_
      refine lv_iload_n F.1 F.2.1 dX2_takeWithout_15 rfl (lv_at hl 3 rfl) ?_
      obtain ⟨r3, S2, hc, hf⟩ := oi_b hf
      refine k_i0 (S' := S2) (r := r3) w (runV (As := [.int a3]) (rest := []) (kb := 2 * i1) F w (k_X2_at l x S i1 a3 h1 hc H.size) cy_X2_at q260 q217 q218 ⟨rfl, rfl⟩ ⟨Nat.le_of_ble_eq_true rfl, Nat.le_of_ble_eq_true rfl⟩ (k_ms h1) (enc_ms x S h1) rfl rfl rfl hl.1 (Nat.le_of_ble_eq_true rfl) ⟨Nat.le_of_ble_eq_true rfl, Nat.le_of_ble_eq_true rfl⟩ dX2_takeWithout_16) (fun H locs w => ?_)
      refine lv_iload_n F.1 F.2.1 dX2_takeWithout_19 rfl (lv_at hl 2 rfl) ?_
      refine lv_icmp_eq (tgt := 32) F.1 F.2.1 dX2_takeWithout_20 (by decide) (fun c4 => ?_) (fun c4 => ?_)
      · replace hf := oi_t hf c4
        exact b_X2_takeWithout_32 F (f_X2_takeWithout_6 n) ih _ _ _ _ w i0 i1 a2 a3 h0 h1 (lv_sub hl [0, 1, 2, 3] rfl) hf
      · replace hf := oi_f hf c4
        refine lv_aload_n F.1 F.2.1 dX2_takeWithout_23 rfl (lv_at hl 0 rfl) ?_
        refine lv_aload_n F.1 F.2.1 dX2_takeWithout_24 rfl (lv_at hl 1 rfl) ?_
        refine lv_iload_n F.1 F.2.1 dX2_takeWithout_25 rfl (lv_at hl 3 rfl) ?_
        obtain ⟨r6, S5, hc, hf⟩ := oi_b hf
        refine k_i0 (S' := S5) (r := r6) w (runV (As := [.int a3]) (rest := [.ref (x.2.2 (2 * i0))]) (kb := 2 * i1) F w (k_X2_at l x S2 i1 a3 h1 hc H.size) cy_X2_at q260 q217 q218 ⟨rfl, rfl⟩ ⟨Nat.le_of_ble_eq_true rfl, Nat.le_of_ble_eq_true rfl⟩ (k_ms h1) (enc_ms x S2 h1) rfl rfl rfl hl.1 (Nat.le_of_ble_eq_true rfl) ⟨Nat.le_of_ble_eq_true rfl, Nat.le_of_ble_eq_true rfl⟩ dX2_takeWithout_26) (fun H locs w => ?_)
        obtain ⟨S7, hc, hf⟩ := oi_v hf
        refine k_v0 (S' := S7) w (runV (As := [.int r6]) (rest := []) (kb := 2 * i0) F w (k_X2_push l x S5 i0 r6 h0 hc H.size) cy_X2_push q458 q459 q460 ⟨rfl, rfl⟩ ⟨Nat.le_of_ble_eq_true rfl, Nat.le_of_ble_eq_true rfl⟩ (k_ms h0) (enc_ms x S5 h0) rfl rfl rfl hl.1 (Nat.le_of_ble_eq_true rfl) ⟨Nat.le_of_ble_eq_true rfl, Nat.le_of_ble_eq_true rfl⟩ dX2_takeWithout_29) (fun H locs w => ?_)
        exact b_X2_takeWithout_32 F (f_X2_takeWithout_6 n) ih _ _ _ _ w i0 i1 a2 a3 h0 h1 (lv_sub hl [0, 1, 2, 3] rfl) hf
def f_X2_takeWithout_0 (S : ST) (i0 : Nat) (i1 : Nat) (a2 : Int32) : Option (ST) := oV (f_X2_empty S i0) (fun (S1 : ST) => f_X2_takeWithout_6 FU S1 i0 i1 a2 0)
set_option maxHeartbeats 4000000 in
set_option maxRecDepth 100000 in
theorem b_X2_takeWithout_0 {p : Program} {l : Launch} {e : Env} {s : State} {m : MethodId} {args : Array Value} {below : List Frame} {meth : Method} {c : Code} {x : CX} {res : ST} (F : MF p m meth c cX2_takeWithout 4 s args RX2 none) : ∀ (H : Heap) (locs : List Loc) (ls : Array Slot) (S : ST), WD x s S H locs → ∀ (i0 : Nat) (i1 : Nat) (a2 : Int32), i0 < 22 → i1 < 22 → lv_has ls 4 [(0, .ref (x.2.2 (2 * i0))), (1, .ref (x.2.2 (2 * i1))), (2, .int a2)] → f_X2_takeWithout_0 S i0 i1 a2 = some res → W p l e ({ frames := 1, cells := 0, slots := 0, locals := 21 } : Room) s m args below meth c H locs 0 0 (MQ below (QV x res s.heap.size) args s 0 0 (AA x s.heap.size)) (F0 m 0 ls []) := by
  intro H locs ls S w i0 i1 a2 h0 h1 hl hf
  unfold f_X2_takeWithout_0 at hf
  refine lv_aload_n F.1 F.2.1 dX2_takeWithout_0 rfl (lv_at hl 0 rfl) ?_
  obtain ⟨S1, hc, hf⟩ := oi_v hf
  refine k_v0 (S' := S1) w (runV (As := []) (rest := []) (kb := 2 * i0) F w (k_X2_empty l x S i0 h0 hc H.size) cy_X2_empty q454 q455 q456 ⟨rfl, rfl⟩ ⟨Nat.le_of_ble_eq_true rfl, Nat.le_of_ble_eq_true rfl⟩ (k_ms h0) (enc_ms x S h0) rfl rfl rfl hl.1 (Nat.le_of_ble_eq_true rfl) ⟨Nat.le_of_ble_eq_true rfl, Nat.le_of_ble_eq_true rfl⟩ dX2_takeWithout_1) (fun H locs w => ?_)
  refine lv_iconst (v := 0) F.1 F.2.1 dX2_takeWithout_4 (by decide) ?_
  refine lv_istore_n (lv' := [(3, .int 0), (0, .ref (x.2.2 (2 * i0))), (1, .ref (x.2.2 (2 * i1))), (2, .int a2)]) F.1 F.2.1 dX2_takeWithout_5 rfl hl (by decide) rfl (fun ls hl => ?_)
  exact b_X2_takeWithout_6 F FU _ _ _ _ w i0 i1 a2 0 h0 h1 (lv_sub hl [1, 2, 3, 0] rfl) hf
def f_X2_takeWithout (S : ST) (i0 : Nat) (i1 : Nat) (a2 : Int32) : Option (ST) := f_X2_takeWithout_0 S i0 i1 a2
set_option maxHeartbeats 4000000 in
set_option maxRecDepth 100000 in
theorem k_X2_takeWithout (l : Launch) (x : CX) (S : ST) (i0 : Nat) (i1 : Nat) (a2 : Int32) (h0 : i0 < 22) (h1 : i1 < 22) {res : ST} (hf : f_X2_takeWithout S i0 i1 a2 = some res) (sz : Nat) : Met l yX2_takeWithout (Cond.code yX2_takeWithout cX2_takeWithout 4 none :: GW) ({ frames := 1, cells := 0, slots := 0, locals := 21 } : Room) (PC x S sz [.ref (x.2.2 (2 * i0)), .ref (x.2.2 (2 * i1)), .int a2]) (QV x res sz) 0 0 (AA x sz) := by
  refine Met.ofW (cc := cX2_takeWithout) (maxL := 4) (ret := none) (by decide) rfl ?_
  intro p e s m args below meth c s₁ B hml hv
  obtain ⟨rfl, rfl, hPW⟩ := hv
  have F : MF p m meth c cX2_takeWithout 4 s _ RX2 none := MF.of B hml
  have w := WD.of hPW
  have hl := lv_entry ([.ref (x.2.2 (2 * i0)), .ref (x.2.2 (2 * i1)), .int a2]) (n := 4) (Nat.le_of_ble_eq_true rfl)
  rw [lg_entry_eq]
  generalize (lg_sl ([.ref (x.2.2 (2 * i0)), .ref (x.2.2 (2 * i1)), .int a2]) ++ List.replicate (4 - (lg_sl ([.ref (x.2.2 (2 * i0)), .ref (x.2.2 (2 * i1)), .int a2])).length) Slot.unset).toArray = ls at hl ⊢
  have hl : lv_has ls 4 [(0, .ref (x.2.2 (2 * i0))), (1, .ref (x.2.2 (2 * i1))), (2, .int a2)] := hl
  unfold f_X2_takeWithout at hf
  exact b_X2_takeWithout_0 F  _ _ _ _ w i0 i1 a2 h0 h1 (lv_sub hl [0, 1, 2] rfl) hf
theorem cy_J7_fill_53178 : CY yJ7_fill_53178 RJ7 cJ7_fill_53178 4 none 2 := ⟨q19, q275, rfl, by decide, by decide, by decide +kernel⟩
def f_J7_fill_53178_5 : Nat → ST → Int32 → Int32 → Int32 → Option (ST)
  | 0, _, _, _, _ => none
  | n + 1, S, a1, a2, a3 => (if a3 ≤ a2 then some S else oG (inB a2 1000) (oL (sA S 24 (upd (ai S 24) (Int32.toNatClampNeg a2) a1)) (fun (S3 : ST) => oL (a2 + 1) (fun (v4 : Int32) => (f_J7_fill_53178_5 n) S3 a1 v4 a3))))
set_option maxHeartbeats 4000000 in
set_option maxRecDepth 100000 in
theorem b_J7_fill_53178_5 {p : Program} {l : Launch} {e : Env} {s : State} {m : MethodId} {args : Array Value} {below : List Frame} {meth : Method} {c : Code} {x : CX} {res : ST} (F : MF p m meth c cJ7_fill_53178 4 s args RJ7 none) : ∀ (n : Nat), ∀ (H : Heap) (locs : List Loc) (ls : Array Slot) (S : ST), WD x s S H locs → ∀ (a1 : Int32) (a2 : Int32) (a3 : Int32), lv_has ls 4 [(0, .ref (x.2.2 (76))), (1, .int a1), (2, .int a2), (3, .int a3)] → f_J7_fill_53178_5 n S a1 a2 a3 = some res → W p l e ({ frames := 0, cells := 0, slots := 0, locals := 0 } : Room) s m args below meth c H locs 0 0 (MQ below (QV x res s.heap.size) args s 0 0 (AA x s.heap.size)) (F0 m 5 ls []) := by
  intro n
  induction n with
  | zero =>
    intro H locs ls S w a1 a2 a3 hl hf
    have hf : (none : Option (ST)) = some res := hf
    cases hf
  | succ n ih =>
    intro H locs ls S w a1 a2 a3 hl hf
    unfold f_J7_fill_53178_5 at hf
    refine lv_iload_n F.1 F.2.1 dJ7_fill_53178_5 rfl (lv_at hl 2 rfl) ?_
    refine lv_iload_n F.1 F.2.1 dJ7_fill_53178_6 rfl (lv_at hl 3 rfl) ?_
    refine lv_icmp_ge (tgt := 20) F.1 F.2.1 dJ7_fill_53178_7 (by decide) (fun c1 => ?_) (fun c1 => ?_)
    · replace hf := oi_t hf c1
      exact r_vret F w (oi_s hf) dJ7_fill_53178_20
    · replace hf := oi_f hf c1
      refine lv_aload_n F.1 F.2.1 dJ7_fill_53178_10 rfl (lv_at hl 0 rfl) ?_
      refine lv_iload_n F.1 F.2.1 dJ7_fill_53178_11 rfl (lv_at hl 2 rfl) ?_
      refine lv_iload_n F.1 F.2.1 dJ7_fill_53178_12 rfl (lv_at hl 1 rfl) ?_
      obtain ⟨hb2, hf⟩ := oi_g hf
      refine r_iast F w (k := 76) (a := 24) (n := 1000) (by decide) (fun S9 => rfl) rfl hb2 dJ7_fill_53178_13 (fun H locs w => ?_)
      obtain ⟨S3, e_S3⟩ : ∃ y : ST, y = sA S 24 (upd (ai S 24) (Int32.toNatClampNeg a2) a1) := ⟨_, rfl⟩
      replace w : WD x s S3 H locs := by rw [e_S3]; exact w
      replace hf := oi_l hf e_S3
      obtain ⟨v4, e_v4⟩ : ∃ y : Int32, y = (a2 + 1) := ⟨_, rfl⟩
      replace hf := oi_l hf e_v4
      refine lv_iinc (v := v4) (lv' := [(2, .int v4), (0, .ref (x.2.2 (76))), (1, .int a1), (3, .int a3)]) F.1 F.2.1 dJ7_fill_53178_14 hl (k := 2) rfl (by rw [e_v4]; rfl) (by decide) rfl (fun ls hl => ?_)
      refine lv_goto (tgt := 5) F.1 F.2.1 dJ7_fill_53178_17 (by decide) ?_
      exact ih _ _ _ _ w a1 v4 a3 (lv_sub hl [1, 2, 0, 3] rfl) hf
def f_J7_fill_53178_0 (S : ST) (a1 : Int32) : Option (ST) := f_J7_fill_53178_5 FU S a1 0 1000
set_option maxHeartbeats 4000000 in
set_option maxRecDepth 100000 in
theorem b_J7_fill_53178_0 {p : Program} {l : Launch} {e : Env} {s : State} {m : MethodId} {args : Array Value} {below : List Frame} {meth : Method} {c : Code} {x : CX} {res : ST} (F : MF p m meth c cJ7_fill_53178 4 s args RJ7 none) : ∀ (H : Heap) (locs : List Loc) (ls : Array Slot) (S : ST), WD x s S H locs → ∀ (a1 : Int32), lv_has ls 4 [(0, .ref (x.2.2 (76))), (1, .int a1)] → f_J7_fill_53178_0 S a1 = some res → W p l e ({ frames := 0, cells := 0, slots := 0, locals := 0 } : Room) s m args below meth c H locs 0 0 (MQ below (QV x res s.heap.size) args s 0 0 (AA x s.heap.size)) (F0 m 0 ls []) := by
  intro H locs ls S w a1 hl hf
  unfold f_J7_fill_53178_0 at hf
  refine lv_iconst (v := 0) F.1 F.2.1 dJ7_fill_53178_0 (by decide) ?_
  refine lv_istore_n (lv' := [(2, .int 0), (0, .ref (x.2.2 (76))), (1, .int a1)]) F.1 F.2.1 dJ7_fill_53178_1 rfl hl (by decide) rfl (fun ls hl => ?_)
  refine lv_aload_n F.1 F.2.1 dJ7_fill_53178_2 rfl (lv_at hl 1 rfl) ?_
  refine r_alen F w (k := 76) (v := 1000) (f := ai S 24) (by decide) rfl (by decide) dJ7_fill_53178_3 ?_
  refine lv_istore_n (lv' := [(3, .int 1000), (2, .int 0), (0, .ref (x.2.2 (76))), (1, .int a1)]) F.1 F.2.1 dJ7_fill_53178_4 rfl hl (by decide) rfl (fun ls hl => ?_)
  exact b_J7_fill_53178_5 F FU _ _ _ _ w a1 0 1000 (lv_sub hl [2, 3, 1, 0] rfl) hf
def f_J7_fill_53178 (S : ST) (a1 : Int32) : Option (ST) := f_J7_fill_53178_0 S a1
set_option maxHeartbeats 4000000 in
set_option maxRecDepth 100000 in
theorem k_J7_fill_53178 (l : Launch) (x : CX) (S : ST) (a1 : Int32) {res : ST} (hf : f_J7_fill_53178 S a1 = some res) (sz : Nat) : Met l yJ7_fill_53178 (Cond.code yJ7_fill_53178 cJ7_fill_53178 4 none :: GW) ({ frames := 0, cells := 0, slots := 0, locals := 0 } : Room) (PC x S sz [.ref (x.2.2 (76)), .int a1]) (QV x res sz) 0 0 (AA x sz) := by
  refine Met.ofW (cc := cJ7_fill_53178) (maxL := 4) (ret := none) (by decide) rfl ?_
  intro p e s m args below meth c s₁ B hml hv
  obtain ⟨rfl, rfl, hPW⟩ := hv
  have F : MF p m meth c cJ7_fill_53178 4 s _ RJ7 none := MF.of B hml
  have w := WD.of hPW
  have hl := lv_entry ([.ref (x.2.2 (76)), .int a1]) (n := 4) (Nat.le_of_ble_eq_true rfl)
  rw [lg_entry_eq]
  generalize (lg_sl ([.ref (x.2.2 (76)), .int a1]) ++ List.replicate (4 - (lg_sl ([.ref (x.2.2 (76)), .int a1])).length) Slot.unset).toArray = ls at hl ⊢
  have hl : lv_has ls 4 [(0, .ref (x.2.2 (76))), (1, .int a1)] := hl
  unfold f_J7_fill_53178 at hf
  exact b_J7_fill_53178_0 F  _ _ _ _ w a1 (lv_sub hl [0, 1] rfl) hf
