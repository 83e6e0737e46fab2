theorem cy_X0_wipe : CY yX0_wipe RX0 cX0_wipe 1 none 0 := ⟨q6, q212, rfl, by decide, by decide, by decide +kernel⟩
def f_X0_wipe_0 (S : ST) (i0 : Nat) : Option (ST) := oV (f_J7_fill_d0a16 S i0 0) (fun (S1 : ST) => some S1)
set_option maxHeartbeats 4000000 in
set_option maxRecDepth 100000 in
theorem b_X0_wipe_0 {p : Program} {l : Launch} {e : Env} {s : State} {m : MethodId} {args : Array Value} {below : List Frame} {meth : Method} {c : Code} {x : CX} {res : ST} (F : MF p m meth c cX0_wipe 1 s args RX0 none) : ∀ (H : Heap) (locs : List Loc) (ls : Array Slot) (S : ST), WD x s S H locs → ∀ (i0 : Nat), i0 < 5 → lv_has ls 1 [(0, .ref (x.2.2 (48 + 2 * i0)))] → f_X0_wipe_0 S i0 = some res → W p l e ({ frames := 1, cells := 0, slots := 0, locals := 24 } : Room) s m args below meth c H locs 0 0 (MQ below (QV x res s.heap.size) args s 0 0 (AA x s.heap.size)) (F0 m 0 ls []) := by
  intro H locs ls S w i0 h0 hl hf
  unfold f_X0_wipe_0 at hf
  refine lv_aload_n F.1 F.2.1 dX0_wipe_0 rfl (lv_at hl 0 rfl) ?_
  refine g_BR_words (i := i0) F w h0 q108 dX0_wipe_1 ?_
  refine lv_lconst (v := 0) F.1 F.2.1 dX0_wipe_4 (by decide) ?_
  obtain ⟨S1, hc, hf⟩ := oi_v hf
  refine k_v0 (S' := S1) w (runS (As := [.ref (x.2.2 (49 + 2 * i0)), .long 0]) (rest := []) F w (k_J7_fill_d0a16 l x S i0 0 h0 hc H.size) cy_J7_fill_d0a16 q213 q214 ⟨rfl, rfl⟩ ⟨Nat.le_of_ble_eq_true rfl, Nat.le_of_ble_eq_true rfl⟩ rfl rfl hl.1 (Nat.le_of_ble_eq_true rfl) ⟨Nat.le_of_ble_eq_true rfl, Nat.le_of_ble_eq_true rfl⟩ dX0_wipe_5) (fun H locs w => ?_)
  exact r_vret F w (oi_s hf) dX0_wipe_8
def f_X0_wipe (S : ST) (i0 : Nat) : Option (ST) := f_X0_wipe_0 S i0
set_option maxHeartbeats 4000000 in
set_option maxRecDepth 100000 in
theorem k_X0_wipe (l : Launch) (x : CX) (S : ST) (i0 : Nat) (h0 : i0 < 5) {res : ST} (hf : f_X0_wipe S i0 = some res) (sz : Nat) : Met l yX0_wipe (Cond.code yX0_wipe cX0_wipe 1 none :: GW) ({ frames := 1, cells := 0, slots := 0, locals := 24 } : Room) (PC x S sz [.ref (x.2.2 (48 + 2 * i0))]) (QV x res sz) 0 0 (AA x sz) := by
  refine Met.ofW (cc := cX0_wipe) (maxL := 1) (ret := none) (by decide) rfl ?_
  intro p e s m args below meth c s₁ B hml hv
  obtain ⟨rfl, rfl, hPW⟩ := hv
  have F : MF p m meth c cX0_wipe 1 s _ RX0 none := MF.of B hml
  have w := WD.of hPW
  have hl := lv_entry ([.ref (x.2.2 (48 + 2 * i0))]) (n := 1) (Nat.le_of_ble_eq_true rfl)
  rw [lg_entry_eq]
  generalize (lg_sl ([.ref (x.2.2 (48 + 2 * i0))]) ++ List.replicate (1 - (lg_sl ([.ref (x.2.2 (48 + 2 * i0))])).length) Slot.unset).toArray = ls at hl ⊢
  have hl : lv_has ls 1 [(0, .ref (x.2.2 (48 + 2 * i0)))] := hl
  unfold f_X0_wipe at hf
  exact b_X0_wipe_0 F  _ _ _ _ w i0 h0 (lv_sub hl [0] rfl) hf
theorem cy_X0_has : CY yX0_has RX0 cX0_has 2 (some .boolean) 1 := ⟨q6, q223, rfl, by decide, by decide, by decide +kernel⟩
def f_X0_has_37 (S : ST) (as0 : Int32) : Option (Int32 × ST) := oG (isB as0) (some (as0, S))
set_option maxHeartbeats 4000000 in
set_option maxRecDepth 100000 in
theorem b_X0_has_37 {p : Program} {l : Launch} {e : Env} {s : State} {m : MethodId} {args : Array Value} {below : List Frame} {meth : Method} {c : Code} {x : CX} {res : Int32 × ST} (F : MF p m meth c cX0_has 2 s args RX0 (some .boolean)) : ∀ (H : Heap) (locs : List Loc) (ls : Array Slot) (S : ST), WD x s S H locs → ∀ (as0 : Int32), lv_has ls 2 [] → f_X0_has_37 S as0 = some res → W p l e ({ frames := 0, cells := 0, slots := 0, locals := 0 } : Room) s m args below meth c H locs 0 0 (MQ below (QI x res.2 res.1 s.heap.size) args s 0 0 (AA x s.heap.size)) (F0 m 37 ls [.int as0]) := by
  intro H locs ls S w as0 hl hf
  unfold f_X0_has_37 at hf
  obtain ⟨hz1, hf⟩ := oi_g hf
  exact r_zret F w (isB_nar hz1) (oi_s hf) dX0_has_37
def f_X0_has_36 (S : ST)  : Option (Int32 × ST) := f_X0_has_37 S 0
set_option maxHeartbeats 4000000 in
set_option maxRecDepth 100000 in
theorem b_X0_has_36 {p : Program} {l : Launch} {e : Env} {s : State} {m : MethodId} {args : Array Value} {below : List Frame} {meth : Method} {c : Code} {x : CX} {res : Int32 × ST} (F : MF p m meth c cX0_has 2 s args RX0 (some .boolean)) : ∀ (H : Heap) (locs : List Loc) (ls : Array Slot) (S : ST), WD x s S H locs → lv_has ls 2 [] → f_X0_has_36 S = some res → W p l e ({ frames := 0, cells := 0, slots := 0, locals := 0 } : Room) s m args below meth c H locs 0 0 (MQ below (QI x res.2 res.1 s.heap.size) args s 0 0 (AA x s.heap.size)) (F0 m 36 ls []) := by
  intro H locs ls S w hl hf
  unfold f_X0_has_36 at hf
  refine lv_iconst (v := 0) F.1 F.2.1 dX0_has_36 (by decide) ?_
  exact b_X0_has_37 F  _ _ _ _ w 0 (lv_sub hl [] rfl) hf
def f_X0_has_0 (S : ST) (i0 : Nat) (a1 : Int32) : Option (Int32 × ST) := (if a1 < 0 then f_X0_has_36 S else (if 2000 < a1 then f_X0_has_36 S else oG (nz 64) (oG (inB (a1 / 64) 32) (oG (nz 64) ((if (lg_cmp (((al S i0 (Int32.toNatClampNeg (a1 / 64))) >>> (Int32.toInt64 (a1 - a1 / 64 * 64) &&& 63)) &&& (1 : Int64)) 0) = 0 then f_X0_has_36 S else f_X0_has_37 S 1))))))
set_option maxHeartbeats 4000000 in
set_option maxRecDepth 100000 in
theorem b_X0_has_0 {p : Program} {l : Launch} {e : Env} {s : State} {m : MethodId} {args : Array Value} {below : List Frame} {meth : Method} {c : Code} {x : CX} {res : Int32 × ST} (F : MF p m meth c cX0_has 2 s args RX0 (some .boolean)) : ∀ (H : Heap) (locs : List Loc) (ls : Array Slot) (S : ST), WD x s S H locs → ∀ (i0 : Nat) (a1 : Int32), i0 < 5 → lv_has ls 2 [(0, .ref (x.2.2 (48 + 2 * i0))), (1, .int a1)] → f_X0_has_0 S i0 a1 = some res → W p l e ({ frames := 0, cells := 0, slots := 0, locals := 0 } : Room) s m args below meth c H locs 0 0 (MQ below (QI x res.2 res.1 s.heap.size) args s 0 0 (AA x s.heap.size)) (F0 m 0 ls []) := by
  intro H locs ls S w i0 a1 h0 hl hf
  unfold f_X0_has_0 at hf
  refine lv_iload_n F.1 F.2.1 dX0_has_0 rfl (lv_at hl 1 rfl) ?_
  refine lv_if_lt (tgt := 36) F.1 F.2.1 dX0_has_1 (by decide) (fun c1 => ?_) (fun c1 => ?_)
  · replace hf := oi_t hf c1
    exact b_X0_has_36 F  _ _ _ _ w  (lv_sub hl [] rfl) hf
  · replace hf := oi_f hf c1
    refine lv_iload_n F.1 F.2.1 dX0_has_4 rfl (lv_at hl 1 rfl) ?_
    refine lv_sipush (v := 2000) F.1 F.2.1 dX0_has_5 (by decide) ?_
    refine lv_icmp_gt (tgt := 36) F.1 F.2.1 dX0_has_8 (by decide) (fun c2 => ?_) (fun c2 => ?_)
    · replace hf := oi_t hf c2
      exact b_X0_has_36 F  _ _ _ _ w  (lv_sub hl [] rfl) hf
    · replace hf := oi_f hf c2
      refine lv_aload_n F.1 F.2.1 dX0_has_11 rfl (lv_at hl 0 rfl) ?_
      refine g_BR_words (i := i0) F w h0 q108 dX0_has_12 ?_
      refine lv_iload_n F.1 F.2.1 dX0_has_15 rfl (lv_at hl 1 rfl) ?_
      refine lv_bipush (v := 64) F.1 F.2.1 dX0_has_16 (by decide) ?_
      obtain ⟨hz3, hf⟩ := oi_g hf
      refine lv_idiv F.1 F.2.1 dX0_has_18 (nz_ne hz3) ?_
      obtain ⟨hb4, hf⟩ := oi_g hf
      refine r_lald F w (k := 49 + 2 * i0) (f := al S i0) (k_bw h0) (enc_bw x S h0) hb4 dX0_has_19 ?_
      refine lv_iload_n F.1 F.2.1 dX0_has_20 rfl (lv_at hl 1 rfl) ?_
      refine lv_bipush (v := 64) F.1 F.2.1 dX0_has_21 (by decide) ?_
      obtain ⟨hz5, hf⟩ := oi_g hf
      refine lv_irem F.1 F.2.1 dX0_has_23 (nz_ne hz5) ?_
      refine lv_lshr (v := ((al S i0 (Int32.toNatClampNeg (a1 / 64))) >>> (Int32.toInt64 (a1 - a1 / 64 * 64) &&& 63))) F.1 F.2.1 dX0_has_24 rfl ?_
      refine lv_lconst (v := 1) F.1 F.2.1 dX0_has_25 (by decide) ?_
      refine lv_land F.1 F.2.1 dX0_has_26 ?_
      refine lv_lconst (v := 0) F.1 F.2.1 dX0_has_27 (by decide) ?_
      refine W.lcmp F.1 F.2.1 dX0_has_28 ?_
      refine lv_if_eq (tgt := 36) F.1 F.2.1 dX0_has_29 (by decide) (fun c6 => ?_) (fun c6 => ?_)
      · replace hf := oi_t hf c6
        exact b_X0_has_36 F  _ _ _ _ w  (lv_sub hl [] rfl) hf
      · replace hf := oi_f hf c6
        refine lv_iconst (v := 1) F.1 F.2.1 dX0_has_32 (by decide) ?_
        refine lv_goto (tgt := 37) F.1 F.2.1 dX0_has_33 (by decide) ?_
        exact b_X0_has_37 F  _ _ _ _ w 1 (lv_sub hl [] rfl) hf
def f_X0_has (S : ST) (i0 : Nat) (a1 : Int32) : Option (Int32 × ST) := f_X0_has_0 S i0 a1
set_option maxHeartbeats 4000000 in
set_option maxRecDepth 100000 in
theorem k_X0_has (l : Launch) (x : CX) (S : ST) (i0 : Nat) (a1 : Int32) (h0 : i0 < 5) {res : Int32 × ST} (hf : f_X0_has S i0 a1 = some res) (sz : Nat) : Met l yX0_has (Cond.code yX0_has cX0_has 2 (some .boolean) :: GW) ({ frames := 0, cells := 0, slots := 0, locals := 0 } : Room) (PC x S sz [.ref (x.2.2 (48 + 2 * i0)), .int a1]) (QI x res.2 res.1 sz) 0 0 (AA x sz) := by
  refine Met.ofW (cc := cX0_has) (maxL := 2) (ret := (some .boolean)) (by decide) rfl ?_
  intro p e s m args below meth c s₁ B hml hv
  obtain ⟨rfl, rfl, hPW⟩ := hv
  have F : MF p m meth c cX0_has 2 s _ RX0 (some .boolean) := MF.of B hml
  have w := WD.of hPW
  have hl := lv_entry ([.ref (x.2.2 (48 + 2 * i0)), .int a1]) (n := 2) (Nat.le_of_ble_eq_true rfl)
  rw [lg_entry_eq]
  generalize (lg_sl ([.ref (x.2.2 (48 + 2 * i0)), .int a1]) ++ List.replicate (2 - (lg_sl ([.ref (x.2.2 (48 + 2 * i0)), .int a1])).length) Slot.unset).toArray = ls at hl ⊢
  have hl : lv_has ls 2 [(0, .ref (x.2.2 (48 + 2 * i0))), (1, .int a1)] := hl
  unfold f_X0_has at hf
  exact b_X0_has_0 F  _ _ _ _ w i0 a1 h0 (lv_sub hl [0, 1] rfl) hf
theorem cy_X0_put : CY yX0_put RX0 cX0_put 2 none 1 := ⟨q6, q227, rfl, by decide, by decide, by decide +kernel⟩
def f_X0_put_29 (S : ST)  : Option (ST) := some S
set_option maxHeartbeats 4000000 in
set_option maxRecDepth 100000 in
theorem b_X0_put_29 {p : Program} {l : Launch} {e : Env} {s : State} {m : MethodId} {args : Array Value} {below : List Frame} {meth : Method} {c : Code} {x : CX} {res : ST} (F : MF p m meth c cX0_put 2 s args RX0 none) : ∀ (H : Heap) (locs : List Loc) (ls : Array Slot) (S : ST), WD x s S H locs → lv_has ls 2 [] → f_X0_put_29 S = some res → W p l e ({ frames := 0, cells := 0, slots := 0, locals := 0 } : Room) s m args below meth c H locs 0 0 (MQ below (QV x res s.heap.size) args s 0 0 (AA x s.heap.size)) (F0 m 29 ls []) := by
  intro H locs ls S w hl hf
  unfold f_X0_put_29 at hf
  exact r_vret F w (oi_s hf) dX0_put_29
def f_X0_put_0 (S : ST) (i0 : Nat) (a1 : Int32) : Option (ST) := (if a1 < 0 then f_X0_put_29 S else (if 2000 < a1 then f_X0_put_29 S else oG (nz 64) (oG (inB (a1 / 64) 32) (oG (nz 64) (oG (inB (a1 / 64) 32) (oL (sB S i0 (vp_updL (al S i0) (Int32.toNatClampNeg (a1 / 64)) ((al S i0 (Int32.toNatClampNeg (a1 / 64))) ||| ((1 : Int64) <<< (Int32.toInt64 (a1 - a1 / 64 * 64) &&& 63))))) (fun (S7 : ST) => f_X0_put_29 S7)))))))
set_option maxHeartbeats 4000000 in
set_option maxRecDepth 100000 in
theorem b_X0_put_0 {p : Program} {l : Launch} {e : Env} {s : State} {m : MethodId} {args : Array Value} {below : List Frame} {meth : Method} {c : Code} {x : CX} {res : ST} (F : MF p m meth c cX0_put 2 s args RX0 none) : ∀ (H : Heap) (locs : List Loc) (ls : Array Slot) (S : ST), WD x s S H locs → ∀ (i0 : Nat) (a1 : Int32), i0 < 5 → lv_has ls 2 [(0, .ref (x.2.2 (48 + 2 * i0))), (1, .int a1)] → f_X0_put_0 S i0 a1 = some res → W p l e ({ frames := 0, cells := 0, slots := 0, locals := 0 } : Room) s m args below meth c H locs 0 0 (MQ below (QV x res s.heap.size) args s 0 0 (AA x s.heap.size)) (F0 m 0 ls []) := by
  intro H locs ls S w i0 a1 h0 hl hf
  unfold f_X0_put_0 at hf
  refine lv_iload_n F.1 F.2.1 dX0_put_0 rfl (lv_at hl 1 rfl) ?_
  refine lv_if_lt (tgt := 29) F.1 F.2.1 dX0_put_1 (by decide) (fun c1 => ?_) (fun c1 => ?_)
  · replace hf := oi_t hf c1
    exact b_X0_put_29 F  _ _ _ _ w  (lv_sub hl [] rfl) hf
  · replace hf := oi_f hf c1
    refine lv_iload_n F.1 F.2.1 dX0_put_4 rfl (lv_at hl 1 rfl) ?_
    refine lv_sipush (v := 2000) F.1 F.2.1 dX0_put_5 (by decide) ?_
    refine lv_icmp_gt (tgt := 29) F.1 F.2.1 dX0_put_8 (by decide) (fun c2 => ?_) (fun c2 => ?_)
    · replace hf := oi_t hf c2
      exact b_X0_put_29 F  _ _ _ _ w  (lv_sub hl [] rfl) hf
    · replace hf := oi_f hf c2
      refine lv_aload_n F.1 F.2.1 dX0_put_11 rfl (lv_at hl 0 rfl) ?_
      refine g_BR_words (i := i0) F w h0 q108 dX0_put_12 ?_
      refine lv_iload_n F.1 F.2.1 dX0_put_15 rfl (lv_at hl 1 rfl) ?_
      refine lv_bipush (v := 64) F.1 F.2.1 dX0_put_16 (by decide) ?_
      obtain ⟨hz3, hf⟩ := oi_g hf
      refine lv_idiv F.1 F.2.1 dX0_put_18 (nz_ne hz3) ?_
      refine lv_dup2_11 F.1 F.2.1 dX0_put_19 rfl rfl ?_
      obtain ⟨hb4, hf⟩ := oi_g hf
      refine r_lald F w (k := 49 + 2 * i0) (f := al S i0) (k_bw h0) (enc_bw x S h0) hb4 dX0_put_20 ?_
      refine lv_lconst (v := 1) F.1 F.2.1 dX0_put_21 (by decide) ?_
      refine lv_iload_n F.1 F.2.1 dX0_put_22 rfl (lv_at hl 1 rfl) ?_
      refine lv_bipush (v := 64) F.1 F.2.1 dX0_put_23 (by decide) ?_
      obtain ⟨hz5, hf⟩ := oi_g hf
      refine lv_irem F.1 F.2.1 dX0_put_25 (nz_ne hz5) ?_
      refine lv_lshl (v := ((1 : Int64) <<< (Int32.toInt64 (a1 - a1 / 64 * 64) &&& 63))) F.1 F.2.1 dX0_put_26 rfl ?_
      refine lv_lor F.1 F.2.1 dX0_put_27 ?_
      obtain ⟨hb6, hf⟩ := oi_g hf
      refine r_last F w (k := 49 + 2 * i0) (a := i0) (n := 32) (k_bw h0) (fun S9 => (enc_bw x S9 h0)) (cB_bw h0) hb6 dX0_put_28 (fun H locs w => ?_)
      obtain ⟨S7, e_S7⟩ : ∃ y : ST, y = sB S i0 (vp_updL (al S i0) (Int32.toNatClampNeg (a1 / 64)) ((al S i0 (Int32.toNatClampNeg (a1 / 64))) ||| ((1 : Int64) <<< (Int32.toInt64 (a1 - a1 / 64 * 64) &&& 63)))) := ⟨_, rfl⟩
      replace w : WD x s S7 H locs := by rw [e_S7]; exact w
      replace hf := oi_l hf e_S7
      exact b_X0_put_29 F  _ _ _ _ w  (lv_sub hl [] rfl) hf
def f_X0_put (S : ST) (i0 : Nat) (a1 : Int32) : Option (ST) := f_X0_put_0 S i0 a1
set_option maxHeartbeats 4000000 in
set_option maxRecDepth 100000 in
theorem k_X0_put (l : Launch) (x : CX) (S : ST) (i0 : Nat) (a1 : Int32) (h0 : i0 < 5) {res : ST} (hf : f_X0_put S i0 a1 = some res) (sz : Nat) : Met l yX0_put (Cond.code yX0_put cX0_put 2 none :: GW) ({ frames := 0, cells := 0, slots := 0, locals := 0 } : Room) (PC x S sz [.ref (x.2.2 (48 + 2 * i0)), .int a1]) (QV x res sz) 0 0 (AA x sz) := by
  refine Met.ofW (cc := cX0_put) (maxL := 2) (ret := none) (by decide) rfl ?_
  intro p e s m args below meth c s₁ B hml hv
  obtain ⟨rfl, rfl, hPW⟩ := hv
  have F : MF p m meth c cX0_put 2 s _ RX0 none := MF.of B hml
  have w := WD.of hPW
  have hl := lv_entry ([.ref (x.2.2 (48 + 2 * i0)), .int a1]) (n := 2) (Nat.le_of_ble_eq_true rfl)
  rw [lg_entry_eq]
  generalize (lg_sl ([.ref (x.2.2 (48 + 2 * i0)), .int a1]) ++ List.replicate (2 - (lg_sl ([.ref (x.2.2 (48 + 2 * i0)), .int a1])).length) Slot.unset).toArray = ls at hl ⊢
  have hl : lv_has ls 2 [(0, .ref (x.2.2 (48 + 2 * i0))), (1, .int a1)] := hl
  unfold f_X0_put at hf
  exact b_X0_put_0 F  _ _ _ _ w i0 a1 h0 (lv_sub hl [0, 1] rfl) hf
theorem cy_X0_hold : CY yX0_hold RX0 cX0_hold 3 none 1 := ⟨q6, q307, rfl, by decide, by decide, by decide +kernel⟩
def f_X0_hold_6 : Nat → ST → Nat → Nat → Int32 → Option (ST)
  | 0, _, _, _, _ => none
  | n + 1, S, i0, i1, a2 => (if (fi S i1) ≤ a2 then some S else oB (f_X2_at S i1 a2) (fun (r3 : Int32) (S2 : ST) => oV (f_X0_put S2 i0 r3) (fun (S4 : ST) => oL (a2 + 1) (fun (v5 : Int32) => (f_X0_hold_6 n) S4 i0 i1 v5))))
set_option maxHeartbeats 4000000 in
set_option maxRecDepth 100000 in
theorem b_X0_hold_6 {p : Program} {l : Launch} {e : Env} {s : State} {m : MethodId} {args : Array Value} {below : List Frame} {meth : Method} {c : Code} {x : CX} {res : ST} (F : MF p m meth c cX0_hold 3 s args RX0 none) : ∀ (n : Nat), ∀ (H : Heap) (locs : List Loc) (ls : Array Slot) (S : ST), WD x s S H locs → ∀ (i0 : Nat) (i1 : Nat) (a2 : Int32), i0 < 5 → i1 < 22 → lv_has ls 3 [(0, .ref (x.2.2 (48 + 2 * i0))), (1, .ref (x.2.2 (2 * i1))), (2, .int a2)] → f_X0_hold_6 n S i0 i1 a2 = some res → W p l e ({ frames := 2, cells := 0, slots := 0, locals := 44 } : Room) s m args below meth c H locs 0 0 (MQ below (QV x res s.heap.size) args s 0 0 (AA x s.heap.size)) (F0 m 6 ls []) := by
  intro n
  induction n with
  | zero =>
    intro H locs ls S w i0 i1 a2 h0 h1 hl hf
    have hf : (none : Option (ST)) = some res := hf
    cases hf
  | succ n ih =>
    intro H locs ls S w i0 i1 a2 h0 h1 hl hf
    unfold f_X0_hold_6 at hf
    refine lv_iload_n F.1 F.2.1 dX0_hold_6 rfl (lv_at hl 2 rfl) ?_
    refine lv_aload_n F.1 F.2.1 dX0_hold_7 rfl (lv_at hl 1 rfl) ?_
    refine gN_MS_count (i := i1) F w h1 (by simp [NF]) dX0_hold_8 ?_
    refine lv_icmp_ge (tgt := 29) F.1 F.2.1 dX0_hold_11 (by decide) (fun c1 => ?_) (fun c1 => ?_)
    · replace hf := oi_t hf c1
      exact r_vret F w (oi_s hf) dX0_hold_29
    · replace hf := oi_f hf c1
      refine lv_aload_n F.1 F.2.1 dX0_hold_14 rfl (lv_at hl 0 rfl) ?_
      refine lv_aload_n F.1 F.2.1 dX0_hold_15 rfl (lv_at hl 1 rfl) ?_
      refine lv_iload_n F.1 F.2.1 dX0_hold_16 rfl (lv_at hl 2 rfl) ?_
      obtain ⟨r3, S2, hc, hf⟩ := oi_b hf
      refine k_i0 (S' := S2) (r := r3) w (runV (As := [.int a2]) (rest := [.ref (x.2.2 (48 + 2 * i0))]) (kb := 2 * i1) F w (k_X2_at l x S i1 a2 h1 hc H.size) cy_X2_at q309 q217 q218 ⟨rfl, rfl⟩ ⟨Nat.le_of_ble_eq_true rfl, Nat.le_of_ble_eq_true rfl⟩ (k_ms h1) (enc_ms x S h1) rfl rfl rfl hl.1 (Nat.le_of_ble_eq_true rfl) ⟨Nat.le_of_ble_eq_true rfl, Nat.le_of_ble_eq_true rfl⟩ dX0_hold_17) (fun H locs w => ?_)
      obtain ⟨S4, hc, hf⟩ := oi_v hf
      refine k_v0 (S' := S4) w (runV (As := [.int r3]) (rest := []) (kb := 48 + 2 * i0) F w (k_X0_put l x S2 i0 r3 h0 hc H.size) cy_X0_put q310 q225 q226 ⟨rfl, rfl⟩ ⟨Nat.le_of_ble_eq_true rfl, Nat.le_of_ble_eq_true rfl⟩ (k_br h0) (enc_br x S2 h0) rfl rfl rfl hl.1 (Nat.le_of_ble_eq_true rfl) ⟨Nat.le_of_ble_eq_true rfl, Nat.le_of_ble_eq_true rfl⟩ dX0_hold_20) (fun H locs w => ?_)
      obtain ⟨v5, e_v5⟩ : ∃ y : Int32, y = (a2 + 1) := ⟨_, rfl⟩
      replace hf := oi_l hf e_v5
      refine lv_iinc (v := v5) (lv' := [(2, .int v5), (0, .ref (x.2.2 (48 + 2 * i0))), (1, .ref (x.2.2 (2 * i1)))]) F.1 F.2.1 dX0_hold_23 hl (k := 2) rfl (by rw [e_v5]; rfl) (by decide) rfl (fun ls hl => ?_)
      refine lv_goto (tgt := 6) F.1 F.2.1 dX0_hold_26 (by decide) ?_
      exact ih _ _ _ _ w i0 i1 v5 h0 h1 (lv_sub hl [1, 2, 0] rfl) hf
def f_X0_hold_0 (S : ST) (i0 : Nat) (i1 : Nat) : Option (ST) := oV (f_X0_wipe S i0) (fun (S1 : ST) => f_X0_hold_6 FU S1 i0 i1 0)
set_option maxHeartbeats 4000000 in
set_option maxRecDepth 100000 in
theorem b_X0_hold_0 {p : Program} {l : Launch} {e : Env} {s : State} {m : MethodId} {args : Array Value} {below : List Frame} {meth : Method} {c : Code} {x : CX} {res : ST} (F : MF p m meth c cX0_hold 3 s args RX0 none) : ∀ (H : Heap) (locs : List Loc) (ls : Array Slot) (S : ST), WD x s S H locs → ∀ (i0 : Nat) (i1 : Nat), i0 < 5 → i1 < 22 → lv_has ls 3 [(0, .ref (x.2.2 (48 + 2 * i0))), (1, .ref (x.2.2 (2 * i1)))] → f_X0_hold_0 S i0 i1 = some res → W p l e ({ frames := 2, cells := 0, slots := 0, locals := 44 } : Room) s m args below meth c H locs 0 0 (MQ below (QV x res s.heap.size) args s 0 0 (AA x s.heap.size)) (F0 m 0 ls []) := by
  intro H locs ls S w i0 i1 h0 h1 hl hf
  unfold f_X0_hold_0 at hf
  refine lv_aload_n F.1 F.2.1 dX0_hold_0 rfl (lv_at hl 0 rfl) ?_
  obtain ⟨S1, hc, hf⟩ := oi_v hf
  refine k_v0 (S' := S1) w (runV (As := []) (rest := []) (kb := 48 + 2 * i0) F w (k_X0_wipe l x S i0 h0 hc H.size) cy_X0_wipe q308 q210 q211 ⟨rfl, rfl⟩ ⟨Nat.le_of_ble_eq_true rfl, Nat.le_of_ble_eq_true rfl⟩ (k_br h0) (enc_br x S h0) rfl rfl rfl hl.1 (Nat.le_of_ble_eq_true rfl) ⟨Nat.le_of_ble_eq_true rfl, Nat.le_of_ble_eq_true rfl⟩ dX0_hold_1) (fun H locs w => ?_)
  refine lv_iconst (v := 0) F.1 F.2.1 dX0_hold_4 (by decide) ?_
  refine lv_istore_n (lv' := [(2, .int 0), (0, .ref (x.2.2 (48 + 2 * i0))), (1, .ref (x.2.2 (2 * i1)))]) F.1 F.2.1 dX0_hold_5 rfl hl (by decide) rfl (fun ls hl => ?_)
  exact b_X0_hold_6 F FU _ _ _ _ w i0 i1 0 h0 h1 (lv_sub hl [1, 2, 0] rfl) hf
def f_X0_hold (S : ST) (i0 : Nat) (i1 : Nat) : Option (ST) := f_X0_hold_0 S i0 i1
set_option maxHeartbeats 4000000 in
set_option maxRecDepth 100000 in
theorem k_X0_hold (l : Launch) (x : CX) (S : ST) (i0 : Nat) (i1 : Nat) (h0 : i0 < 5) (h1 : i1 < 22) {res : ST} (hf : f_X0_hold S i0 i1 = some res) (sz : Nat) : Met l yX0_hold (Cond.code yX0_hold cX0_hold 3 none :: GW) ({ frames := 2, cells := 0, slots := 0, locals := 44 } : Room) (PC x S sz [.ref (x.2.2 (48 + 2 * i0)), .ref (x.2.2 (2 * i1))]) (QV x res sz) 0 0 (AA x sz) := by
  refine Met.ofW (cc := cX0_hold) (maxL := 3) (ret := none) (by decide) rfl ?_
  intro p e s m args below meth c s₁ B hml hv
  obtain ⟨rfl, rfl, hPW⟩ := hv
  have F : MF p m meth c cX0_hold 3 s _ RX0 none := MF.of B hml
  have w := WD.of hPW
  have hl := lv_entry ([.ref (x.2.2 (48 + 2 * i0)), .ref (x.2.2 (2 * i1))]) (n := 3) (Nat.le_of_ble_eq_true rfl)
  rw [lg_entry_eq]
  generalize (lg_sl ([.ref (x.2.2 (48 + 2 * i0)), .ref (x.2.2 (2 * i1))]) ++ List.replicate (3 - (lg_sl ([.ref (x.2.2 (48 + 2 * i0)), .ref (x.2.2 (2 * i1))])).length) Slot.unset).toArray = ls at hl ⊢
  have hl : lv_has ls 3 [(0, .ref (x.2.2 (48 + 2 * i0))), (1, .ref (x.2.2 (2 * i1)))] := hl
  unfold f_X0_hold at hf
  exact b_X0_hold_0 F  _ _ _ _ w i0 i1 h0 h1 (lv_sub hl [0, 1] rfl) hf
theorem cy_X0_ones : CY yX0_ones RX0 cX0_ones 3 (some .int) 0 := ⟨q6, q249, rfl, by decide, by decide, by decide +kernel⟩
def f_X0_ones_4 : Nat → ST → Nat → Int32 → Int32 → Option (Int32 × ST)
  | 0, _, _, _, _ => none
  | n + 1, S, i0, a1, a2 => (if 32 ≤ a2 then some (a1, S) else oG (inB a2 32) (oB (f_J13_bitCount_95d88 S (al S i0 (Int32.toNatClampNeg a2))) (fun (r4 : Int32) (S3 : ST) => oL (a1 + r4) (fun (v5 : Int32) => oL (a2 + 1) (fun (v6 : Int32) => (f_X0_ones_4 n) S3 i0 v5 v6)))))
set_option maxHeartbeats 4000000 in
set_option maxRecDepth 100000 in
theorem b_X0_ones_4 {p : Program} {l : Launch} {e : Env} {s : State} {m : MethodId} {args : Array Value} {below : List Frame} {meth : Method} {c : Code} {x : CX} {res : Int32 × ST} (F : MF p m meth c cX0_ones 3 s args RX0 (some .int)) : ∀ (n : Nat), ∀ (H : Heap) (locs : List Loc) (ls : Array Slot) (S : ST), WD x s S H locs → ∀ (i0 : Nat) (a1 : Int32) (a2 : Int32), i0 < 5 → lv_has ls 3 [(0, .ref (x.2.2 (48 + 2 * i0))), (1, .int a1), (2, .int a2)] → f_X0_ones_4 n S i0 a1 a2 = some res → W p l e ({ frames := 1, cells := 0, slots := 0, locals := 21 } : Room) s m args below meth c H locs 0 0 (MQ below (QI x res.2 res.1 s.heap.size) args s 0 0 (AA x s.heap.size)) (F0 m 4 ls []) := by
  intro n
  induction n with
  | zero =>
    intro H locs ls S w i0 a1 a2 h0 hl hf
    have hf : (none : Option (Int32 × ST)) = some res := hf
    cases hf
  | succ n ih =>
    intro H locs ls S w i0 a1 a2 h0 hl hf
    unfold f_X0_ones_4 at hf
    refine lv_iload_n F.1 F.2.1 dX0_ones_4 rfl (lv_at hl 2 rfl) ?_
    refine lv_bipush (v := 32) F.1 F.2.1 dX0_ones_5 (by decide) ?_
    refine lv_icmp_ge (tgt := 28) F.1 F.2.1 dX0_ones_7 (by decide) (fun c1 => ?_) (fun c1 => ?_)
    · replace hf := oi_t hf c1
      refine lv_iload_n F.1 F.2.1 dX0_ones_28 rfl (lv_at hl 1 rfl) ?_
      exact r_iret F w (oi_s hf) dX0_ones_29
    · replace hf := oi_f hf c1
      refine lv_iload_n F.1 F.2.1 dX0_ones_10 rfl (lv_at hl 1 rfl) ?_
      refine lv_aload_n F.1 F.2.1 dX0_ones_11 rfl (lv_at hl 0 rfl) ?_
      refine g_BR_words (i := i0) F w h0 q108 dX0_ones_12 ?_
      refine lv_iload_n F.1 F.2.1 dX0_ones_15 rfl (lv_at hl 2 rfl) ?_
      obtain ⟨hb2, hf⟩ := oi_g hf
      refine r_lald F w (k := 49 + 2 * i0) (f := al S i0) (k_bw h0) (enc_bw x S h0) hb2 dX0_ones_16 ?_
      obtain ⟨r4, S3, hc, hf⟩ := oi_b hf
      refine k_i0 (S' := S3) (r := r4) w (runS (As := [.long (al S i0 (Int32.toNatClampNeg a2))]) (rest := [.int a1]) F w (k_J13_bitCount_95d88 l x S (al S i0 (Int32.toNatClampNeg a2)) hc H.size) cy_J13_bitCount_95d88 q250 q251 ⟨rfl, rfl⟩ ⟨Nat.le_of_ble_eq_true rfl, Nat.le_of_ble_eq_true rfl⟩ rfl rfl hl.1 (Nat.le_of_ble_eq_true rfl) ⟨Nat.le_of_ble_eq_true rfl, Nat.le_of_ble_eq_true rfl⟩ dX0_ones_17) (fun H locs w => ?_)
      refine lv_iadd F.1 F.2.1 dX0_ones_20 ?_
      refine lv_topi (fun v5 e_v5 => ?_)
      replace hf := oi_l hf e_v5
      refine lv_istore_n (lv' := [(1, .int v5), (0, .ref (x.2.2 (48 + 2 * i0))), (2, .int a2)]) F.1 F.2.1 dX0_ones_21 rfl hl (by decide) rfl (fun ls hl => ?_)
      obtain ⟨v6, e_v6⟩ : ∃ y : Int32, y = (a2 + 1) := ⟨_, rfl⟩
      replace hf := oi_l hf e_v6
      refine lv_iinc (v := v6) (lv' := [(2, .int v6), (1, .int v5), (0, .ref (x.2.2 (48 + 2 * i0)))]) F.1 F.2.1 dX0_ones_22 hl (k := 2) rfl (by rw [e_v6]; rfl) (by decide) rfl (fun ls hl => ?_)
      refine lv_goto (tgt := 4) F.1 F.2.1 dX0_ones_25 (by decide) ?_
      exact ih _ _ _ _ w i0 v5 v6 h0 (lv_sub hl [2, 1, 0] rfl) hf
def f_X0_ones_0 (S : ST) (i0 : Nat) : Option (Int32 × ST) := f_X0_ones_4 FU S i0 0 0
set_option maxHeartbeats 4000000 in
set_option maxRecDepth 100000 in
theorem b_X0_ones_0 {p : Program} {l : Launch} {e : Env} {s : State} {m : MethodId} {args : Array Value} {below : List Frame} {meth : Method} {c : Code} {x : CX} {res : Int32 × ST} (F : MF p m meth c cX0_ones 3 s args RX0 (some .int)) : ∀ (H : Heap) (locs : List Loc) (ls : Array Slot) (S : ST), WD x s S H locs → ∀ (i0 : Nat), i0 < 5 → lv_has ls 3 [(0, .ref (x.2.2 (48 + 2 * i0)))] → f_X0_ones_0 S i0 = some res → W p l e ({ frames := 1, cells := 0, slots := 0, locals := 21 } : Room) s m args below meth c H locs 0 0 (MQ below (QI x res.2 res.1 s.heap.size) args s 0 0 (AA x s.heap.size)) (F0 m 0 ls []) := by
  intro H locs ls S w i0 h0 hl hf
  unfold f_X0_ones_0 at hf
  refine lv_iconst (v := 0) F.1 F.2.1 dX0_ones_0 (by decide) ?_
  refine lv_istore_n (lv' := [(1, .int 0), (0, .ref (x.2.2 (48 + 2 * i0)))]) F.1 F.2.1 dX0_ones_1 rfl hl (by decide) rfl (fun ls hl => ?_)
  refine lv_iconst (v := 0) F.1 F.2.1 dX0_ones_2 (by decide) ?_
  refine lv_istore_n (lv' := [(2, .int 0), (1, .int 0), (0, .ref (x.2.2 (48 + 2 * i0)))]) F.1 F.2.1 dX0_ones_3 rfl hl (by decide) rfl (fun ls hl => ?_)
  exact b_X0_ones_4 F FU _ _ _ _ w i0 0 0 h0 (lv_sub hl [2, 1, 0] rfl) hf
def f_X0_ones (S : ST) (i0 : Nat) : Option (Int32 × ST) := f_X0_ones_0 S i0
set_option maxHeartbeats 4000000 in
set_option maxRecDepth 100000 in
theorem k_X0_ones (l : Launch) (x : CX) (S : ST) (i0 : Nat) (h0 : i0 < 5) {res : Int32 × ST} (hf : f_X0_ones S i0 = some res) (sz : Nat) : Met l yX0_ones (Cond.code yX0_ones cX0_ones 3 (some .int) :: GW) ({ frames := 1, cells := 0, slots := 0, locals := 21 } : Room) (PC x S sz [.ref (x.2.2 (48 + 2 * i0))]) (QI x res.2 res.1 sz) 0 0 (AA x sz) := by
  refine Met.ofW (cc := cX0_ones) (maxL := 3) (ret := (some .int)) (by decide) rfl ?_
  intro p e s m args below meth c s₁ B hml hv
  obtain ⟨rfl, rfl, hPW⟩ := hv
  have F : MF p m meth c cX0_ones 3 s _ RX0 (some .int) := MF.of B hml
  have w := WD.of hPW
  have hl := lv_entry ([.ref (x.2.2 (48 + 2 * i0))]) (n := 3) (Nat.le_of_ble_eq_true rfl)
  rw [lg_entry_eq]
  generalize (lg_sl ([.ref (x.2.2 (48 + 2 * i0))]) ++ List.replicate (3 - (lg_sl ([.ref (x.2.2 (48 + 2 * i0))])).length) Slot.unset).toArray = ls at hl ⊢
  have hl : lv_has ls 3 [(0, .ref (x.2.2 (48 + 2 * i0)))] := hl
  unfold f_X0_ones at hf
  exact b_X0_ones_0 F  _ _ _ _ w i0 h0 (lv_sub hl [0] rfl) hf
theorem cy_X0_meets : CY yX0_meets RX0 cX0_meets 3 (some .boolean) 1 := ⟨q6, q231, rfl, by decide, by decide, by decide +kernel⟩
def f_X0_meets_2 : Nat → ST → Nat → Nat → Int32 → Option (Int32 × ST)
  | 0, _, _, _, _ => none
  | n + 1, S, i0, i1, a2 => (if 32 ≤ a2 then some (0, S) else oG (inB a2 32) (oG (inB a2 32) ((if (lg_cmp ((al S i0 (Int32.toNatClampNeg a2)) &&& (al S i1 (Int32.toNatClampNeg a2))) 0) = 0 then oL (a2 + 1) (fun (v5 : Int32) => (f_X0_meets_2 n) S i0 i1 v5) else some (1, S)))))
set_option maxHeartbeats 4000000 in
set_option maxRecDepth 100000 in
theorem b_X0_meets_2 {p : Program} {l : Launch} {e : Env} {s : State} {m : MethodId} {args : Array Value} {below : List Frame} {meth : Method} {c : Code} {x : CX} {res : Int32 × ST} (F : MF p m meth c cX0_meets 3 s args RX0 (some .boolean)) : ∀ (n : Nat), ∀ (H : Heap) (locs : List Loc) (ls : Array Slot) (S : ST), WD x s S H locs → ∀ (i0 : Nat) (i1 : Nat) (a2 : Int32), i0 < 5 → i1 < 5 → lv_has ls 3 [(0, .ref (x.2.2 (48 + 2 * i0))), (1, .ref (x.2.2 (48 + 2 * i1))), (2, .int a2)] → f_X0_meets_2 n S i0 i1 a2 = some res → W p l e ({ frames := 0, cells := 0, slots := 0, locals := 0 } : Room) s m args below meth c H locs 0 0 (MQ below (QI x res.2 res.1 s.heap.size) args s 0 0 (AA x s.heap.size)) (F0 m 2 ls []) := by
  intro n
  induction n with
  | zero =>
    intro H locs ls S w i0 i1 a2 h0 h1 hl hf
    have hf : (none : Option (Int32 × ST)) = some res := hf
    cases hf
  | succ n ih =>
    intro H locs ls S w i0 i1 a2 h0 h1 hl hf
    unfold f_X0_meets_2 at hf
    refine lv_iload_n F.1 F.2.1 dX0_meets_2 rfl (lv_at hl 2 rfl) ?_
    refine lv_bipush (v := 32) F.1 F.2.1 dX0_meets_3 (by decide) ?_
    refine lv_icmp_ge (tgt := 34) F.1 F.2.1 dX0_meets_5 (by decide) (fun c1 => ?_) (fun c1 => ?_)
    · replace hf := oi_t hf c1
      refine lv_iconst (v := 0) F.1 F.2.1 dX0_meets_34 (by decide) ?_
      exact r_zret F w rfl (oi_s hf) dX0_meets_35
    · replace hf := oi_f hf c1
      refine lv_aload_n F.1 F.2.1 dX0_meets_8 rfl (lv_at hl 0 rfl) ?_
      refine g_BR_words (i := i0) F w h0 q108 dX0_meets_9 ?_
      refine lv_iload_n F.1 F.2.1 dX0_meets_12 rfl (lv_at hl 2 rfl) ?_
      obtain ⟨hb2, hf⟩ := oi_g hf
      refine r_lald F w (k := 49 + 2 * i0) (f := al S i0) (k_bw h0) (enc_bw x S h0) hb2 dX0_meets_13 ?_
      refine lv_aload_n F.1 F.2.1 dX0_meets_14 rfl (lv_at hl 1 rfl) ?_
      refine g_BR_words (i := i1) F w h1 q108 dX0_meets_15 ?_
      refine lv_iload_n F.1 F.2.1 dX0_meets_18 rfl (lv_at hl 2 rfl) ?_
      obtain ⟨hb3, hf⟩ := oi_g hf
      refine r_lald F w (k := 49 + 2 * i1) (f := al S i1) (k_bw h1) (enc_bw x S h1) hb3 dX0_meets_19 ?_
      refine lv_land F.1 F.2.1 dX0_meets_20 ?_
      refine lv_lconst (v := 0) F.1 F.2.1 dX0_meets_21 (by decide) ?_
      refine W.lcmp F.1 F.2.1 dX0_meets_22 ?_
      refine lv_if_eq (tgt := 28) F.1 F.2.1 dX0_meets_23 (by decide) (fun c4 => ?_) (fun c4 => ?_)
      · replace hf := oi_t hf c4
        obtain ⟨v5, e_v5⟩ : ∃ y : Int32, y = (a2 + 1) := ⟨_, rfl⟩
        replace hf := oi_l hf e_v5
        refine lv_iinc (v := v5) (lv' := [(2, .int v5), (0, .ref (x.2.2 (48 + 2 * i0))), (1, .ref (x.2.2 (48 + 2 * i1)))]) F.1 F.2.1 dX0_meets_28 hl (k := 2) rfl (by rw [e_v5]; rfl) (by decide) rfl (fun ls hl => ?_)
        refine lv_goto (tgt := 2) F.1 F.2.1 dX0_meets_31 (by decide) ?_
        exact ih _ _ _ _ w i0 i1 v5 h0 h1 (lv_sub hl [1, 2, 0] rfl) hf
      · replace hf := oi_f hf c4
        refine lv_iconst (v := 1) F.1 F.2.1 dX0_meets_26 (by decide) ?_
        exact r_zret F w rfl (oi_s hf) dX0_meets_27
def f_X0_meets_0 (S : ST) (i0 : Nat) (i1 : Nat) : Option (Int32 × ST) := f_X0_meets_2 FU S i0 i1 0
set_option maxHeartbeats 4000000 in
set_option maxRecDepth 100000 in
theorem b_X0_meets_0 {p : Program} {l : Launch} {e : Env} {s : State} {m : MethodId} {args : Array Value} {below : List Frame} {meth : Method} {c : Code} {x : CX} {res : Int32 × ST} (F : MF p m meth c cX0_meets 3 s args RX0 (some .boolean)) : ∀ (H : Heap) (locs : List Loc) (ls : Array Slot) (S : ST), WD x s S H locs → ∀ (i0 : Nat) (i1 : Nat), i0 < 5 → i1 < 5 → lv_has ls 3 [(0, .ref (x.2.2 (48 + 2 * i0))), (1, .ref (x.2.2 (48 + 2 * i1)))] → f_X0_meets_0 S i0 i1 = some res → W p l e ({ frames := 0, cells := 0, slots := 0, locals := 0 } : Room) s m args below meth c H locs 0 0 (MQ below (QI x res.2 res.1 s.heap.size) args s 0 0 (AA x s.heap.size)) (F0 m 0 ls []) := by
  intro H locs ls S w i0 i1 h0 h1 hl hf
  unfold f_X0_meets_0 at hf
  refine lv_iconst (v := 0) F.1 F.2.1 dX0_meets_0 (by decide) ?_
  refine lv_istore_n (lv' := [(2, .int 0), (0, .ref (x.2.2 (48 + 2 * i0))), (1, .ref (x.2.2 (48 + 2 * i1)))]) F.1 F.2.1 dX0_meets_1 rfl hl (by decide) rfl (fun ls hl => ?_)
  exact b_X0_meets_2 F FU _ _ _ _ w i0 i1 0 h0 h1 (lv_sub hl [1, 2, 0] rfl) hf
def f_X0_meets (S : ST) (i0 : Nat) (i1 : Nat) : Option (Int32 × ST) := f_X0_meets_0 S i0 i1
set_option maxHeartbeats 4000000 in
set_option maxRecDepth 100000 in
theorem k_X0_meets (l : Launch) (x : CX) (S : ST) (i0 : Nat) (i1 : Nat) (h0 : i0 < 5) (h1 : i1 < 5) {res : Int32 × ST} (hf : f_X0_meets S i0 i1 = some res) (sz : Nat) : Met l yX0_meets (Cond.code yX0_meets cX0_meets 3 (some .boolean) :: GW) ({ frames := 0, cells := 0, slots := 0, locals := 0 } : Room) (PC x S sz [.ref (x.2.2 (48 + 2 * i0)), .ref (x.2.2 (48 + 2 * i1))]) (QI x res.2 res.1 sz) 0 0 (AA x sz) := by
  refine Met.ofW (cc := cX0_meets) (maxL := 3) (ret := (some .boolean)) (by decide) rfl ?_
  intro p e s m args below meth c s₁ B hml hv
  obtain ⟨rfl, rfl, hPW⟩ := hv
  have F : MF p m meth c cX0_meets 3 s _ RX0 (some .boolean) := MF.of B hml
  have w := WD.of hPW
  have hl := lv_entry ([.ref (x.2.2 (48 + 2 * i0)), .ref (x.2.2 (48 + 2 * i1))]) (n := 3) (Nat.le_of_ble_eq_true rfl)
  rw [lg_entry_eq]
  generalize (lg_sl ([.ref (x.2.2 (48 + 2 * i0)), .ref (x.2.2 (48 + 2 * i1))]) ++ List.replicate (3 - (lg_sl ([.ref (x.2.2 (48 + 2 * i0)), .ref (x.2.2 (48 + 2 * i1))])).length) Slot.unset).toArray = ls at hl ⊢
  have hl : lv_has ls 3 [(0, .ref (x.2.2 (48 + 2 * i0))), (1, .ref (x.2.2 (48 + 2 * i1)))] := hl
  unfold f_X0_meets at hf
  exact b_X0_meets_0 F  _ _ _ _ w i0 i1 h0 h1 (lv_sub hl [0, 1] rfl) hf
theorem cy_X0_spillInto : CY yX0_spillInto RX0 cX0_spillInto 6 none 1 := ⟨q6, q635, rfl, by decide, by decide, by decide +kernel⟩
def f_X0_spillInto_60 (k6 : ST → Nat → Nat → Int32 → Option (ST)) (S : ST) (i0 : Nat) (i1 : Nat) (a2 : Int32) : Option (ST) := oL (a2 + 1) (fun (v1 : Int32) => k6 S i0 i1 v1)
set_option maxHeartbeats 4000000 in
set_option maxRecDepth 100000 in
theorem b_X0_spillInto_60 {p : Program} {l : Launch} {e : Env} {s : State} {m : MethodId} {args : Array Value} {below : List Frame} {meth : Method} {c : Code} {x : CX} {res : ST} (F : MF p m meth c cX0_spillInto 6 s args RX0 none) (k6 : ST → Nat → Nat → Int32 → Option (ST)) (hk6 : ∀ (H : Heap) (locs : List Loc) (ls : Array Slot) (S : ST), WD x s S H locs → ∀ (i0 : Nat) (i1 : Nat) (a2 : Int32), i0 < 5 → i1 < 22 → lv_has ls 6 [(0, .ref (x.2.2 (48 + 2 * i0))), (1, .ref (x.2.2 (2 * i1))), (2, .int a2)] → k6 S i0 i1 a2 = some res → W p l e ({ frames := 2, cells := 0, slots := 0, locals := 43 } : Room) s m args below meth c H locs 0 0 (MQ below (QV x res s.heap.size) args s 0 0 (AA x s.heap.size)) (F0 m 6 ls [])) : ∀ (H : Heap) (locs : List Loc) (ls : Array Slot) (S : ST), WD x s S H locs → ∀ (i0 : Nat) (i1 : Nat) (a2 : Int32), i0 < 5 → i1 < 22 → lv_has ls 6 [(0, .ref (x.2.2 (48 + 2 * i0))), (1, .ref (x.2.2 (2 * i1))), (2, .int a2)] → f_X0_spillInto_60 k6 S i0 i1 a2 = some res → W p l e ({ frames := 2, cells := 0, slots := 0, locals := 43 } : Room) s m args below meth c H locs 0 0 (MQ below (QV x res s.heap.size) args s 0 0 (AA x s.heap.size)) (F0 m 60 ls []) := by
  intro H locs ls S w i0 i1 a2 h0 h1 hl hf
  unfold f_X0_spillInto_60 at hf
  obtain ⟨v1, e_v1⟩ : ∃ y : Int32, y = (a2 + 1) := ⟨_, rfl⟩
  replace hf := oi_l hf e_v1
  refine lv_iinc (v := v1) (lv' := [(2, .int v1), (0, .ref (x.2.2 (48 + 2 * i0))), (1, .ref (x.2.2 (2 * i1)))]) F.1 F.2.1 dX0_spillInto_60 hl (k := 2) rfl (by rw [e_v1]; rfl) (by decide) rfl (fun ls hl => ?_)
  refine lv_goto (tgt := 6) F.1 F.2.1 dX0_spillInto_63 (by decide) ?_
  exact hk6 _ _ _ _ w i0 i1 v1 h0 h1 (lv_sub hl [1, 2, 0] rfl) hf
def f_X0_spillInto_22 (k6 : ST → Nat → Nat → Int32 → Option (ST)) : Nat → ST → Nat → Nat → Int32 → Int64 → Int32 → Option (ST)
  | 0, _, _, _, _, _, _ => none
  | n + 1, S, i0, i1, a2, a3, a5 => (if 64 ≤ a5 then f_X0_spillInto_60 k6 S i0 i1 a2 else (if (lg_cmp a3 0) = 0 then f_X0_spillInto_60 k6 S i0 i1 a2 else oB (f_J13_numberOfTrailingZeros_95d88 S a3) (fun (r4 : Int32) (S3 : ST) => oV (f_X2_push S3 i1 ((a2 * (64 : Int32)) + r4)) (fun (S5 : ST) => oL (a3 &&& (a3 - (1 : Int64))) (fun (v6 : Int64) => oL (a5 + 1) (fun (v7 : Int32) => (f_X0_spillInto_22 k6 n) S5 i0 i1 a2 v6 v7))))))
set_option maxHeartbeats 4000000 in
set_option maxRecDepth 100000 in
theorem b_X0_spillInto_22 {p : Program} {l : Launch} {e : Env} {s : State} {m : MethodId} {args : Array Value} {below : List Frame} {meth : Method} {c : Code} {x : CX} {res : ST} (F : MF p m meth c cX0_spillInto 6 s args RX0 none) (k6 : ST → Nat → Nat → Int32 → Option (ST)) (hk6 : ∀ (H : Heap) (locs : List Loc) (ls : Array Slot) (S : ST), WD x s S H locs → ∀ (i0 : Nat) (i1 : Nat) (a2 : Int32), i0 < 5 → i1 < 22 → lv_has ls 6 [(0, .ref (x.2.2 (48 + 2 * i0))), (1, .ref (x.2.2 (2 * i1))), (2, .int a2)] → k6 S i0 i1 a2 = some res → W p l e ({ frames := 2, cells := 0, slots := 0, locals := 43 } : Room) s m args below meth c H locs 0 0 (MQ below (QV x res s.heap.size) args s 0 0 (AA x s.heap.size)) (F0 m 6 ls [])) : ∀ (n : Nat), ∀ (H : Heap) (locs : List Loc) (ls : Array Slot) (S : ST), WD x s S H locs → ∀ (i0 : Nat) (i1 : Nat) (a2 : Int32) (a3 : Int64) (a5 : Int32), i0 < 5 → i1 < 22 → lv_has ls 6 [(0, .ref (x.2.2 (48 + 2 * i0))), (1, .ref (x.2.2 (2 * i1))), (2, .int a2), (3, .long a3), (5, .int a5)] → f_X0_spillInto_22 k6 n S i0 i1 a2 a3 a5 = some res → W p l e ({ frames := 2, cells := 0, slots := 0, locals := 43 } : Room) s m args below meth c H locs 0 0 (MQ below (QV x res s.heap.size) args s 0 0 (AA x s.heap.size)) (F0 m 22 ls []) := by
  intro n
  induction n with
  | zero =>
    intro H locs ls S w i0 i1 a2 a3 a5 h0 h1 hl hf
    have hf : (none : Option (ST)) = some res := hf
    cases hf
  | succ n ih =>
    intro H locs ls S w i0 i1 a2 a3 a5 h0 h1 hl hf
    unfold f_X0_spillInto_22 at hf
    refine lv_iload F.1 F.2.1 dX0_spillInto_22 (lv_at hl 4 rfl) ?_
    refine lv_bipush (v := 64) F.1 F.2.1 dX0_spillInto_24 (by decide) ?_
    refine lv_icmp_ge (tgt := 60) F.1 F.2.1 dX0_spillInto_26 (by decide) (fun c1 => ?_) (fun c1 => ?_)
    · replace hf := oi_t hf c1
      exact b_X0_spillInto_60 F k6 hk6 _ _ _ _ w i0 i1 a2 h0 h1 (lv_sub hl [0, 1, 2] rfl) hf
    · replace hf := oi_f hf c1
      refine lv_lload_n F.1 F.2.1 dX0_spillInto_29 rfl (lv_at hl 3 rfl) ?_
      refine lv_lconst (v := 0) F.1 F.2.1 dX0_spillInto_30 (by decide) ?_
      refine W.lcmp F.1 F.2.1 dX0_spillInto_31 ?_
      refine lv_if_eq (tgt := 60) F.1 F.2.1 dX0_spillInto_32 (by decide) (fun c2 => ?_) (fun c2 => ?_)
      · replace hf := oi_t hf c2
        exact b_X0_spillInto_60 F k6 hk6 _ _ _ _ w i0 i1 a2 h0 h1 (lv_sub hl [0, 1, 2] rfl) hf
      · replace hf := oi_f hf c2
        refine lv_aload_n F.1 F.2.1 dX0_spillInto_35 rfl (lv_at hl 1 rfl) ?_
        refine lv_iload_n F.1 F.2.1 dX0_spillInto_36 rfl (lv_at hl 2 rfl) ?_
        refine lv_bipush (v := 64) F.1 F.2.1 dX0_spillInto_37 (by decide) ?_
        refine lv_imul F.1 F.2.1 dX0_spillInto_39 ?_
        refine lv_lload_n F.1 F.2.1 dX0_spillInto_40 rfl (lv_at hl 3 rfl) ?_
        obtain ⟨r4, S3, hc, hf⟩ := oi_b hf
        refine k_i0 (S' := S3) (r := r4) w (runS (As := [.long a3]) (rest := [.int (a2 * (64 : Int32)), .ref (x.2.2 (2 * i1))]) F w (k_J13_numberOfTrailingZeros_95d88 l x S a3 hc H.size) cy_J13_numberOfTrailingZeros_95d88 q637 q638 ⟨rfl, rfl⟩ ⟨Nat.le_of_ble_eq_true rfl, Nat.le_of_ble_eq_true rfl⟩ rfl rfl hl.1 (Nat.le_of_ble_eq_true rfl) ⟨Nat.le_of_ble_eq_true rfl, Nat.le_of_ble_eq_true rfl⟩ dX0_spillInto_41) (fun H locs w => ?_)
        refine lv_iadd F.1 F.2.1 dX0_spillInto_44 ?_
        obtain ⟨S5, hc, hf⟩ := oi_v hf
        refine k_v0 (S' := S5) w (runV (As := [.int ((a2 * (64 : Int32)) + r4)]) (rest := []) (kb := 2 * i1) F w (k_X2_push l x S3 i1 ((a2 * (64 : Int32)) + r4) h1 hc H.size) cy_X2_push q644 q459 q460 ⟨rfl, rfl⟩ ⟨Nat.le_of_ble_eq_true rfl, Nat.le_of_ble_eq_true rfl⟩ (k_ms h1) (enc_ms x S3 h1) rfl rfl rfl hl.1 (Nat.le_of_ble_eq_true rfl) ⟨Nat.le_of_ble_eq_true rfl, Nat.le_of_ble_eq_true rfl⟩ dX0_spillInto_45) (fun H locs w => ?_)
        refine lv_lload_n F.1 F.2.1 dX0_spillInto_48 rfl (lv_at hl 3 rfl) ?_
        refine lv_lload_n F.1 F.2.1 dX0_spillInto_49 rfl (lv_at hl 3 rfl) ?_
        refine lv_lconst (v := 1) F.1 F.2.1 dX0_spillInto_50 (by decide) ?_
        refine lv_lsub F.1 F.2.1 dX0_spillInto_51 ?_
        refine lv_land F.1 F.2.1 dX0_spillInto_52 ?_
        refine lv_topl (fun v6 e_v6 => ?_)
        replace hf := oi_l hf e_v6
        refine lv_lstore_n (lv' := [(3, .long v6), (0, .ref (x.2.2 (48 + 2 * i0))), (1, .ref (x.2.2 (2 * i1))), (2, .int a2), (5, .int a5)]) F.1 F.2.1 dX0_spillInto_53 rfl hl (by decide) rfl (fun ls hl => ?_)
        obtain ⟨v7, e_v7⟩ : ∃ y : Int32, y = (a5 + 1) := ⟨_, rfl⟩
        replace hf := oi_l hf e_v7
        refine lv_iinc (v := v7) (lv' := [(5, .int v7), (3, .long v6), (0, .ref (x.2.2 (48 + 2 * i0))), (1, .ref (x.2.2 (2 * i1))), (2, .int a2)]) F.1 F.2.1 dX0_spillInto_54 hl (k := 4) rfl (by rw [e_v7]; rfl) (by decide) rfl (fun ls hl => ?_)
        refine lv_goto (tgt := 22) F.1 F.2.1 dX0_spillInto_57 (by decide) ?_
        exact ih _ _ _ _ w i0 i1 a2 v6 v7 h0 h1 (lv_sub hl [2, 3, 4, 1, 0] rfl) hf
def f_X0_spillInto_6 : Nat → ST → Nat → Nat → Int32 → Option (ST)
  | 0, _, _, _, _ => none
  | n + 1, S, i0, i1, a2 => (if 32 ≤ a2 then some S else oG (inB a2 32) (oL (al S i0 (Int32.toNatClampNeg a2)) (fun (v3 : Int64) => f_X0_spillInto_22 (f_X0_spillInto_6 n) FU S i0 i1 a2 v3 0)))
set_option maxHeartbeats 4000000 in
set_option maxRecDepth 100000 in
theorem b_X0_spillInto_6 {p : Program} {l : Launch} {e : Env} {s : State} {m : MethodId} {args : Array Value} {below : List Frame} {meth : Method} {c : Code} {x : CX} {res : ST} (F : MF p m meth c cX0_spillInto 6 s args RX0 none) : ∀ (n : Nat), ∀ (H : Heap) (locs : List Loc) (ls : Array Slot) (S : ST), WD x s S H locs → ∀ (i0 : Nat) (i1 : Nat) (a2 : Int32), i0 < 5 → i1 < 22 → lv_has ls 6 [(0, .ref (x.2.2 (48 + 2 * i0))), (1, .ref (x.2.2 (2 * i1))), (2, .int a2)] → f_X0_spillInto_6 n S i0 i1 a2 = some res → W p l e ({ frames := 2, cells := 0, slots := 0, locals := 43 } : Room) s m args below meth c H locs 0 0 (MQ below (QV x res s.heap.size) args s 0 0 (AA x s.heap.size)) (F0 m 6 ls []) := by
  intro n
  induction n with
  | zero =>
    intro H locs ls S w i0 i1 a2 h0 h1 hl hf
    have hf : (none : Option (ST)) = some res := hf
    cases hf
  | succ n ih =>
    intro H locs ls S w i0 i1 a2 h0 h1 hl hf
    unfold f_X0_spillInto_6 at hf
    refine lv_iload_n F.1 F.2.1 dX0_spillInto_6 rfl (lv_at hl 2 rfl) ?_
    refine lv_bipush (v := 32) F.1 F.2.1 dX0_spillInto_7 (by decide) ?_
    refine lv_icmp_ge (tgt := 66) F.1 F.2.1 dX0_spillInto_9 (by decide) (fun c1 => ?_) (fun c1 => ?_)
    · replace hf := oi_t hf c1
      exact r_vret F w (oi_s hf) dX0_spillInto_66
    · replace hf := oi_f hf c1
      refine lv_aload_n F.1 F.2.1 dX0_spillInto_12 rfl (lv_at hl 0 rfl) ?_
      refine g_BR_words (i := i0) F w h0 q108 dX0_spillInto_13 ?_
      refine lv_iload_n F.1 F.2.1 dX0_spillInto_16 rfl (lv_at hl 2 rfl) ?_
      obtain ⟨hb2, hf⟩ := oi_g hf
      refine r_lald F w (k := 49 + 2 * i0) (f := al S i0) (k_bw h0) (enc_bw x S h0) hb2 dX0_spillInto_17 ?_
      refine lv_topl (fun v3 e_v3 => ?_)
      replace hf := oi_l hf e_v3
      refine lv_lstore_n (lv' := [(3, .long v3), (0, .ref (x.2.2 (48 + 2 * i0))), (1, .ref (x.2.2 (2 * i1))), (2, .int a2)]) F.1 F.2.1 dX0_spillInto_18 rfl hl (by decide) rfl (fun ls hl => ?_)
      refine lv_iconst (v := 0) F.1 F.2.1 dX0_spillInto_19 (by decide) ?_
      refine lv_istore (lv' := [(5, .int 0), (3, .long v3), (0, .ref (x.2.2 (48 + 2 * i0))), (1, .ref (x.2.2 (2 * i1))), (2, .int a2)]) F.1 F.2.1 dX0_spillInto_20 hl (by decide) rfl (fun ls hl => ?_)
      exact b_X0_spillInto_22 F (f_X0_spillInto_6 n) ih FU _ _ _ _ w i0 i1 a2 v3 0 h0 h1 (lv_sub hl [2, 3, 4, 1, 0] rfl) hf
def f_X0_spillInto_0 (S : ST) (i0 : Nat) (i1 : Nat) : Option (ST) := oV (f_X2_empty S i1) (fun (S1 : ST) => f_X0_spillInto_6 FU S1 i0 i1 0)
set_option maxHeartbeats 4000000 in
set_option maxRecDepth 100000 in
theorem b_X0_spillInto_0 {p : Program} {l : Launch} {e : Env} {s : State} {m : MethodId} {args : Array Value} {below : List Frame} {meth : Method} {c : Code} {x : CX} {res : ST} (F : MF p m meth c cX0_spillInto 6 s args RX0 none) : ∀ (H : Heap) (locs : List Loc) (ls : Array Slot) (S : ST), WD x s S H locs → ∀ (i0 : Nat) (i1 : Nat), i0 < 5 → i1 < 22 → lv_has ls 6 [(0, .ref (x.2.2 (48 + 2 * i0))), (1, .ref (x.2.2 (2 * i1)))] → f_X0_spillInto_0 S i0 i1 = some res → W p l e ({ frames := 2, cells := 0, slots := 0, locals := 43 } : Room) s m args below meth c H locs 0 0 (MQ below (QV x res s.heap.size) args s 0 0 (AA x s.heap.size)) (F0 m 0 ls []) := by
  intro H locs ls S w i0 i1 h0 h1 hl hf
  unfold f_X0_spillInto_0 at hf
  refine lv_aload_n F.1 F.2.1 dX0_spillInto_0 rfl (lv_at hl 1 rfl) ?_
  obtain ⟨S1, hc, hf⟩ := oi_v hf
  refine k_v0 (S' := S1) w (runV (As := []) (rest := []) (kb := 2 * i1) F w (k_X2_empty l x S i1 h1 hc H.size) cy_X2_empty q636 q455 q456 ⟨rfl, rfl⟩ ⟨Nat.le_of_ble_eq_true rfl, Nat.le_of_ble_eq_true rfl⟩ (k_ms h1) (enc_ms x S h1) rfl rfl rfl hl.1 (Nat.le_of_ble_eq_true rfl) ⟨Nat.le_of_ble_eq_true rfl, Nat.le_of_ble_eq_true rfl⟩ dX0_spillInto_1) (fun H locs w => ?_)
  refine lv_iconst (v := 0) F.1 F.2.1 dX0_spillInto_4 (by decide) ?_
  refine lv_istore_n (lv' := [(2, .int 0), (0, .ref (x.2.2 (48 + 2 * i0))), (1, .ref (x.2.2 (2 * i1)))]) F.1 F.2.1 dX0_spillInto_5 rfl hl (by decide) rfl (fun ls hl => ?_)
  exact b_X0_spillInto_6 F FU _ _ _ _ w i0 i1 0 h0 h1 (lv_sub hl [1, 2, 0] rfl) hf
def f_X0_spillInto (S : ST) (i0 : Nat) (i1 : Nat) : Option (ST) := f_X0_spillInto_0 S i0 i1
set_option maxHeartbeats 4000000 in
set_option maxRecDepth 100000 in
theorem k_X0_spillInto (l : Launch) (x : CX) (S : ST) (i0 : Nat) (i1 : Nat) (h0 : i0 < 5) (h1 : i1 < 22) {res : ST} (hf : f_X0_spillInto S i0 i1 = some res) (sz : Nat) : Met l yX0_spillInto (Cond.code yX0_spillInto cX0_spillInto 6 none :: GW) ({ frames := 2, cells := 0, slots := 0, locals := 43 } : Room) (PC x S sz [.ref (x.2.2 (48 + 2 * i0)), .ref (x.2.2 (2 * i1))]) (QV x res sz) 0 0 (AA x sz) := by
  refine Met.ofW (cc := cX0_spillInto) (maxL := 6) (ret := none) (by decide) rfl ?_
  intro p e s m args below meth c s₁ B hml hv
  obtain ⟨rfl, rfl, hPW⟩ := hv
  have F : MF p m meth c cX0_spillInto 6 s _ RX0 none := MF.of B hml
  have w := WD.of hPW
  have hl := lv_entry ([.ref (x.2.2 (48 + 2 * i0)), .ref (x.2.2 (2 * i1))]) (n := 6) (Nat.le_of_ble_eq_true rfl)
  rw [lg_entry_eq]
  generalize (lg_sl ([.ref (x.2.2 (48 + 2 * i0)), .ref (x.2.2 (2 * i1))]) ++ List.replicate (6 - (lg_sl ([.ref (x.2.2 (48 + 2 * i0)), .ref (x.2.2 (2 * i1))])).length) Slot.unset).toArray = ls at hl ⊢
  have hl : lv_has ls 6 [(0, .ref (x.2.2 (48 + 2 * i0))), (1, .ref (x.2.2 (2 * i1)))] := hl
  unfold f_X0_spillInto at hf
  exact b_X0_spillInto_0 F  _ _ _ _ w i0 i1 h0 h1 (lv_sub hl [0, 1] rfl) hf
