theorem cy_X7_at : CY yX7_at RX7 cX7_at 2 (some .int) 1 := ⟨q9, q314, rfl, by decide, by decide, by decide +kernel⟩
def f_X7_at_22 (S : ST) (as0 : Int32) : Option (Int32 × ST) := some (as0, S)
set_option maxHeartbeats 4000000 in
set_option maxRecDepth 100000 in
theorem b_X7_at_22 {p : Program} {l : Launch} {e : Env} {s : State} {m : MethodId} {args : Array Value} {below : List Frame} {meth : Method} {c : Code} {x : CX} {res : Int32 × ST} (F : MF p m meth c cX7_at 2 s args RX7 (some .int)) : ∀ (H : Heap) (locs : List Loc) (ls : Array Slot) (S : ST), WD x s S H locs → ∀ (as0 : Int32), lv_has ls 2 [] → f_X7_at_22 S as0 = some res → W p l e ({ frames := 0, cells := 0, slots := 0, locals := 0 } : Room) s m args below meth c H locs 0 0 (MQ below (QI x res.2 res.1 s.heap.size) args s 0 0 (AA x s.heap.size)) (F0 m 22 ls [.int as0]) := by
  intro H locs ls S w as0 hl hf
  unfold f_X7_at_22 at hf
  exact r_iret F w (oi_s hf) dX7_at_22
def f_X7_at_21 (S : ST)  : Option (Int32 × ST) := f_X7_at_22 S (-1)
set_option maxHeartbeats 4000000 in
set_option maxRecDepth 100000 in
theorem b_X7_at_21 {p : Program} {l : Launch} {e : Env} {s : State} {m : MethodId} {args : Array Value} {below : List Frame} {meth : Method} {c : Code} {x : CX} {res : Int32 × ST} (F : MF p m meth c cX7_at 2 s args RX7 (some .int)) : ∀ (H : Heap) (locs : List Loc) (ls : Array Slot) (S : ST), WD x s S H locs → lv_has ls 2 [] → f_X7_at_21 S = some res → W p l e ({ frames := 0, cells := 0, slots := 0, locals := 0 } : Room) s m args below meth c H locs 0 0 (MQ below (QI x res.2 res.1 s.heap.size) args s 0 0 (AA x s.heap.size)) (F0 m 21 ls []) := by
  intro H locs ls S w hl hf
  unfold f_X7_at_21 at hf
  refine lv_iconst (v := (-1)) F.1 F.2.1 dX7_at_21 (by decide) ?_
  exact b_X7_at_22 F  _ _ _ _ w (-1) (lv_sub hl [] rfl) hf
def f_X7_at_0 (S : ST) (a1 : Int32) : Option (Int32 × ST) := (if a1 < 0 then f_X7_at_21 S else (if (fi S 25) ≤ a1 then f_X7_at_21 S else oG (inB a1 1000) (f_X7_at_22 S (ai S 25 (Int32.toNatClampNeg a1)))))
set_option maxHeartbeats 4000000 in
set_option maxRecDepth 100000 in
theorem b_X7_at_0 {p : Program} {l : Launch} {e : Env} {s : State} {m : MethodId} {args : Array Value} {below : List Frame} {meth : Method} {c : Code} {x : CX} {res : Int32 × ST} (F : MF p m meth c cX7_at 2 s args RX7 (some .int)) : ∀ (H : Heap) (locs : List Loc) (ls : Array Slot) (S : ST), WD x s S H locs → ∀ (a1 : Int32), lv_has ls 2 [(0, .ref (x.2.2 (77))), (1, .int a1)] → f_X7_at_0 S a1 = some res → W p l e ({ frames := 0, cells := 0, slots := 0, locals := 0 } : Room) s m args below meth c H locs 0 0 (MQ below (QI x res.2 res.1 s.heap.size) args s 0 0 (AA x s.heap.size)) (F0 m 0 ls []) := by
  intro H locs ls S w a1 hl hf
  unfold f_X7_at_0 at hf
  refine lv_iload_n F.1 F.2.1 dX7_at_0 rfl (lv_at hl 1 rfl) ?_
  refine lv_if_lt (tgt := 21) F.1 F.2.1 dX7_at_1 (by decide) (fun c1 => ?_) (fun c1 => ?_)
  · replace hf := oi_t hf c1
    exact b_X7_at_21 F  _ _ _ _ w  (lv_sub hl [] rfl) hf
  · replace hf := oi_f hf c1
    refine lv_iload_n F.1 F.2.1 dX7_at_4 rfl (lv_at hl 1 rfl) ?_
    refine lv_aload_n F.1 F.2.1 dX7_at_5 rfl (lv_at hl 0 rfl) ?_
    refine g_UN_count F w q152 dX7_at_6 ?_
    refine lv_icmp_ge (tgt := 21) F.1 F.2.1 dX7_at_9 (by decide) (fun c2 => ?_) (fun c2 => ?_)
    · replace hf := oi_t hf c2
      exact b_X7_at_21 F  _ _ _ _ w  (lv_sub hl [] rfl) hf
    · replace hf := oi_f hf c2
      refine lv_aload_n F.1 F.2.1 dX7_at_12 rfl (lv_at hl 0 rfl) ?_
      refine g_UN_numbers F w q151 dX7_at_13 ?_
      refine lv_iload_n F.1 F.2.1 dX7_at_16 rfl (lv_at hl 1 rfl) ?_
      obtain ⟨hb3, hf⟩ := oi_g hf
      refine r_iald F w (k := 78) (f := ai S 25) (by decide) rfl hb3 dX7_at_17 ?_
      refine lv_goto (tgt := 22) F.1 F.2.1 dX7_at_18 (by decide) ?_
      exact b_X7_at_22 F  _ _ _ _ w (ai S 25 (Int32.toNatClampNeg a1)) (lv_sub hl [] rfl) hf
def f_X7_at (S : ST) (a1 : Int32) : Option (Int32 × ST) := f_X7_at_0 S a1
set_option maxHeartbeats 4000000 in
set_option maxRecDepth 100000 in
theorem k_X7_at (l : Launch) (x : CX) (S : ST) (a1 : Int32) {res : Int32 × ST} (hf : f_X7_at S a1 = some res) (sz : Nat) : Met l yX7_at (Cond.code yX7_at cX7_at 2 (some .int) :: GW) ({ frames := 0, cells := 0, slots := 0, locals := 0 } : Room) (PC x S sz [.ref (x.2.2 (77)), .int a1]) (QI x res.2 res.1 sz) 0 0 (AA x sz) := by
  refine Met.ofW (cc := cX7_at) (maxL := 2) (ret := (some .int)) (by decide) rfl ?_
  intro p e s m args below meth c s₁ B hml hv
  obtain ⟨rfl, rfl, hPW⟩ := hv
  have F : MF p m meth c cX7_at 2 s _ RX7 (some .int) := MF.of B hml
  have w := WD.of hPW
  have hl := lv_entry ([.ref (x.2.2 (77)), .int a1]) (n := 2) (Nat.le_of_ble_eq_true rfl)
  rw [lg_entry_eq]
  generalize (lg_sl ([.ref (x.2.2 (77)), .int a1]) ++ List.replicate (2 - (lg_sl ([.ref (x.2.2 (77)), .int a1])).length) Slot.unset).toArray = ls at hl ⊢
  have hl : lv_has ls 2 [(0, .ref (x.2.2 (77))), (1, .int a1)] := hl
  unfold f_X7_at at hf
  exact b_X7_at_0 F  _ _ _ _ w a1 (lv_sub hl [0, 1] rfl) hf
theorem cy_X8_residue : CY yX8_residue RX8 cX8_residue 3 (some .int) 2 := ⟨q1, q303, rfl, by decide, by decide, by decide +kernel⟩
def f_X8_residue_22 (S : ST) (as0 : Int32) : Option (Int32 × ST) := some (as0, S)
set_option maxHeartbeats 4000000 in
set_option maxRecDepth 100000 in
theorem b_X8_residue_22 {p : Program} {l : Launch} {e : Env} {s : State} {m : MethodId} {args : Array Value} {below : List Frame} {meth : Method} {c : Code} {x : CX} {res : Int32 × ST} (F : MF p m meth c cX8_residue 3 s args RX8 (some .int)) : ∀ (H : Heap) (locs : List Loc) (ls : Array Slot) (S : ST), WD x s S H locs → ∀ (as0 : Int32), lv_has ls 3 [] → f_X8_residue_22 S as0 = some res → W p l e ({ frames := 0, cells := 0, slots := 0, locals := 0 } : Room) s m args below meth c H locs 0 0 (MQ below (QI x res.2 res.1 s.heap.size) args s 0 0 (AA x s.heap.size)) (F0 m 22 ls [.int as0]) := by
  intro H locs ls S w as0 hl hf
  unfold f_X8_residue_22 at hf
  exact r_iret F w (oi_s hf) dX8_residue_22
def f_X8_residue_0 (S : ST) (a0 : Int32) (a1 : Int32) : Option (Int32 × ST) := (if 1 ≤ a1 then oG (nz a1) (oL (a0 - a0 / a1 * a1) (fun (v3 : Int32) => (if 0 ≤ v3 then f_X8_residue_22 S v3 else f_X8_residue_22 S (v3 + a1)))) else some (0, S))
set_option maxHeartbeats 4000000 in
set_option maxRecDepth 100000 in
theorem b_X8_residue_0 {p : Program} {l : Launch} {e : Env} {s : State} {m : MethodId} {args : Array Value} {below : List Frame} {meth : Method} {c : Code} {x : CX} {res : Int32 × ST} (F : MF p m meth c cX8_residue 3 s args RX8 (some .int)) : ∀ (H : Heap) (locs : List Loc) (ls : Array Slot) (S : ST), WD x s S H locs → ∀ (a0 : Int32) (a1 : Int32), lv_has ls 3 [(0, .int a0), (1, .int a1)] → f_X8_residue_0 S a0 a1 = some res → W p l e ({ frames := 0, cells := 0, slots := 0, locals := 0 } : Room) s m args below meth c H locs 0 0 (MQ below (QI x res.2 res.1 s.heap.size) args s 0 0 (AA x s.heap.size)) (F0 m 0 ls []) := by
  intro H locs ls S w a0 a1 hl hf
  unfold f_X8_residue_0 at hf
  refine lv_iload_n F.1 F.2.1 dX8_residue_0 rfl (lv_at hl 1 rfl) ?_
  refine lv_iconst (v := 1) F.1 F.2.1 dX8_residue_1 (by decide) ?_
  refine lv_icmp_ge (tgt := 7) F.1 F.2.1 dX8_residue_2 (by decide) (fun c1 => ?_) (fun c1 => ?_)
  · replace hf := oi_t hf c1
    refine lv_iload_n F.1 F.2.1 dX8_residue_7 rfl (lv_at hl 0 rfl) ?_
    refine lv_iload_n F.1 F.2.1 dX8_residue_8 rfl (lv_at hl 1 rfl) ?_
    obtain ⟨hz2, hf⟩ := oi_g hf
    refine lv_irem F.1 F.2.1 dX8_residue_9 (nz_ne hz2) ?_
    refine lv_topi (fun v3 e_v3 => ?_)
    replace hf := oi_l hf e_v3
    refine lv_istore_n (lv' := [(2, .int v3), (0, .int a0), (1, .int a1)]) F.1 F.2.1 dX8_residue_10 rfl hl (by decide) rfl (fun ls hl => ?_)
    refine lv_iload_n F.1 F.2.1 dX8_residue_11 rfl (lv_at hl 0 rfl) ?_
    refine lv_if_ge (tgt := 21) F.1 F.2.1 dX8_residue_12 (by decide) (fun c4 => ?_) (fun c4 => ?_)
    · replace hf := oi_t hf c4
      refine lv_iload_n F.1 F.2.1 dX8_residue_21 rfl (lv_at hl 0 rfl) ?_
      exact b_X8_residue_22 F  _ _ _ _ w v3 (lv_sub hl [] rfl) hf
    · replace hf := oi_f hf c4
      refine lv_iload_n F.1 F.2.1 dX8_residue_15 rfl (lv_at hl 0 rfl) ?_
      refine lv_iload_n F.1 F.2.1 dX8_residue_16 rfl (lv_at hl 2 rfl) ?_
      refine lv_iadd F.1 F.2.1 dX8_residue_17 ?_
      refine lv_goto (tgt := 22) F.1 F.2.1 dX8_residue_18 (by decide) ?_
      exact b_X8_residue_22 F  _ _ _ _ w (v3 + a1) (lv_sub hl [] rfl) hf
  · replace hf := oi_f hf c1
    refine lv_iconst (v := 0) F.1 F.2.1 dX8_residue_5 (by decide) ?_
    exact r_iret F w (oi_s hf) dX8_residue_6
def f_X8_residue (S : ST) (a0 : Int32) (a1 : Int32) : Option (Int32 × ST) := f_X8_residue_0 S a0 a1
set_option maxHeartbeats 4000000 in
set_option maxRecDepth 100000 in
theorem k_X8_residue (l : Launch) (x : CX) (S : ST) (a0 : Int32) (a1 : Int32) {res : Int32 × ST} (hf : f_X8_residue S a0 a1 = some res) (sz : Nat) : Met l yX8_residue (Cond.code yX8_residue cX8_residue 3 (some .int) :: GW) ({ frames := 0, cells := 0, slots := 0, locals := 0 } : Room) (PC x S sz [.int a0, .int a1]) (QI x res.2 res.1 sz) 0 0 (AA x sz) := by
  refine Met.ofW (cc := cX8_residue) (maxL := 3) (ret := (some .int)) (by decide) rfl ?_
  intro p e s m args below meth c s₁ B hml hv
  obtain ⟨rfl, rfl, hPW⟩ := hv
  have F : MF p m meth c cX8_residue 3 s _ RX8 (some .int) := MF.of B hml
  have w := WD.of hPW
  have hl := lv_entry ([.int a0, .int a1]) (n := 3) (Nat.le_of_ble_eq_true rfl)
  rw [lg_entry_eq]
  generalize (lg_sl ([.int a0, .int a1]) ++ List.replicate (3 - (lg_sl ([.int a0, .int a1])).length) Slot.unset).toArray = ls at hl ⊢
  have hl : lv_has ls 3 [(0, .int a0), (1, .int a1)] := hl
  unfold f_X8_residue at hf
  exact b_X8_residue_0 F  _ _ _ _ w a0 a1 (lv_sub hl [0, 1] rfl) hf
theorem cy_X8_isCoprime : CY yX8_isCoprime RX8 cX8_isCoprime 6 (some .boolean) 2 := ⟨q1, q300, rfl, by decide, by decide, by decide +kernel⟩
def f_X8_isCoprime_46 (S : ST) (as0 : Int32) : Option (Int32 × ST) := oG (isB as0) (some (as0, S))
set_option maxHeartbeats 4000000 in
set_option maxRecDepth 100000 in
theorem b_X8_isCoprime_46 {p : Program} {l : Launch} {e : Env} {s : State} {m : MethodId} {args : Array Value} {below : List Frame} {meth : Method} {c : Code} {x : CX} {res : Int32 × ST} (F : MF p m meth c cX8_isCoprime 6 s args RX8 (some .boolean)) : ∀ (H : Heap) (locs : List Loc) (ls : Array Slot) (S : ST), WD x s S H locs → ∀ (as0 : Int32), lv_has ls 6 [] → f_X8_isCoprime_46 S as0 = some res → W p l e ({ frames := 1, cells := 0, slots := 0, locals := 22 } : Room) s m args below meth c H locs 0 0 (MQ below (QI x res.2 res.1 s.heap.size) args s 0 0 (AA x s.heap.size)) (F0 m 46 ls [.int as0]) := by
  intro H locs ls S w as0 hl hf
  unfold f_X8_isCoprime_46 at hf
  obtain ⟨hz1, hf⟩ := oi_g hf
  exact r_zret F w (isB_nar hz1) (oi_s hf) dX8_isCoprime_46
def f_X8_isCoprime_36 (S : ST) (a2 : Int32) : Option (Int32 × ST) := (if a2 = 1 then f_X8_isCoprime_46 S 1 else f_X8_isCoprime_46 S 0)
set_option maxHeartbeats 4000000 in
set_option maxRecDepth 100000 in
theorem b_X8_isCoprime_36 {p : Program} {l : Launch} {e : Env} {s : State} {m : MethodId} {args : Array Value} {below : List Frame} {meth : Method} {c : Code} {x : CX} {res : Int32 × ST} (F : MF p m meth c cX8_isCoprime 6 s args RX8 (some .boolean)) : ∀ (H : Heap) (locs : List Loc) (ls : Array Slot) (S : ST), WD x s S H locs → ∀ (a2 : Int32), lv_has ls 6 [(2, .int a2)] → f_X8_isCoprime_36 S a2 = some res → W p l e ({ frames := 1, cells := 0, slots := 0, locals := 22 } : Room) s m args below meth c H locs 0 0 (MQ below (QI x res.2 res.1 s.heap.size) args s 0 0 (AA x s.heap.size)) (F0 m 36 ls []) := by
  intro H locs ls S w a2 hl hf
  unfold f_X8_isCoprime_36 at hf
  refine lv_iload_n F.1 F.2.1 dX8_isCoprime_36 rfl (lv_at hl 0 rfl) ?_
  refine lv_iconst (v := 1) F.1 F.2.1 dX8_isCoprime_37 (by decide) ?_
  refine lv_icmp_ne (tgt := 45) F.1 F.2.1 dX8_isCoprime_38 (by decide) (fun c1 => ?_) (fun c1 => ?_)
  · replace hf := oi_f hf c1
    refine lv_iconst (v := 0) F.1 F.2.1 dX8_isCoprime_45 (by decide) ?_
    exact b_X8_isCoprime_46 F  _ _ _ _ w 0 (lv_sub hl [] rfl) hf
  · replace hf := oi_t hf c1
    refine lv_iconst (v := 1) F.1 F.2.1 dX8_isCoprime_41 (by decide) ?_
    refine lv_goto (tgt := 46) F.1 F.2.1 dX8_isCoprime_42 (by decide) ?_
    exact b_X8_isCoprime_46 F  _ _ _ _ w 1 (lv_sub hl [] rfl) hf
def f_X8_isCoprime_7 : Nat → ST → Int32 → Int32 → Int32 → Option (Int32 × ST)
  | 0, _, _, _, _ => none
  | n + 1, S, a2, a3, a4 => (if 64 ≤ a4 then f_X8_isCoprime_36 S a2 else (if a3 = 0 then f_X8_isCoprime_36 S a2 else oB (f_X8_residue S a2 a3) (fun (r4 : Int32) (S3 : ST) => oL (a4 + 1) (fun (v5 : Int32) => (f_X8_isCoprime_7 n) S3 a3 r4 v5))))
set_option maxHeartbeats 4000000 in
set_option maxRecDepth 100000 in
theorem b_X8_isCoprime_7 {p : Program} {l : Launch} {e : Env} {s : State} {m : MethodId} {args : Array Value} {below : List Frame} {meth : Method} {c : Code} {x : CX} {res : Int32 × ST} (F : MF p m meth c cX8_isCoprime 6 s args RX8 (some .boolean)) : ∀ (n : Nat), ∀ (H : Heap) (locs : List Loc) (ls : Array Slot) (S : ST), WD x s S H locs → ∀ (a2 : Int32) (a3 : Int32) (a4 : Int32), lv_has ls 6 [(2, .int a2), (3, .int a3), (4, .int a4)] → f_X8_isCoprime_7 n S a2 a3 a4 = some res → W p l e ({ frames := 1, cells := 0, slots := 0, locals := 22 } : Room) s m args below meth c H locs 0 0 (MQ below (QI x res.2 res.1 s.heap.size) args s 0 0 (AA x s.heap.size)) (F0 m 7 ls []) := by
  intro n
  induction n with
  | zero =>
    intro H locs ls S w a2 a3 a4 hl hf
    have hf : (none : Option (Int32 × ST)) = some res := hf
    cases hf
  | succ n ih =>
    intro H locs ls S w a2 a3 a4 hl hf
    unfold f_X8_isCoprime_7 at hf
    refine lv_iload F.1 F.2.1 dX8_isCoprime_7 (lv_at hl 2 rfl) ?_
    refine lv_bipush (v := 64) F.1 F.2.1 dX8_isCoprime_9 (by decide) ?_
    refine lv_icmp_ge (tgt := 36) F.1 F.2.1 dX8_isCoprime_11 (by decide) (fun c1 => ?_) (fun c1 => ?_)
    · replace hf := oi_t hf c1
      exact b_X8_isCoprime_36 F  _ _ _ _ w a2 (lv_sub hl [0] rfl) hf
    · replace hf := oi_f hf c1
      refine lv_iload_n F.1 F.2.1 dX8_isCoprime_14 rfl (lv_at hl 1 rfl) ?_
      refine lv_if_eq (tgt := 36) F.1 F.2.1 dX8_isCoprime_15 (by decide) (fun c2 => ?_) (fun c2 => ?_)
      · replace hf := oi_t hf c2
        exact b_X8_isCoprime_36 F  _ _ _ _ w a2 (lv_sub hl [0] rfl) hf
      · replace hf := oi_f hf c2
        refine lv_iload_n F.1 F.2.1 dX8_isCoprime_18 rfl (lv_at hl 0 rfl) ?_
        refine lv_iload_n F.1 F.2.1 dX8_isCoprime_19 rfl (lv_at hl 1 rfl) ?_
        obtain ⟨r4, S3, hc, hf⟩ := oi_b hf
        refine k_i0 (S' := S3) (r := r4) w (runS (As := [.int a2, .int a3]) (rest := []) F w (k_X8_residue l x S a2 a3 hc H.size) cy_X8_residue q301 q302 ⟨rfl, rfl⟩ ⟨Nat.le_of_ble_eq_true rfl, Nat.le_of_ble_eq_true rfl⟩ rfl rfl hl.1 (Nat.le_of_ble_eq_true rfl) ⟨Nat.le_of_ble_eq_true rfl, Nat.le_of_ble_eq_true rfl⟩ dX8_isCoprime_20) (fun H locs w => ?_)
        refine lv_istore (lv' := [(5, .int r4), (2, .int a2), (3, .int a3), (4, .int a4)]) F.1 F.2.1 dX8_isCoprime_23 hl (by decide) rfl (fun ls hl => ?_)
        refine lv_iload_n F.1 F.2.1 dX8_isCoprime_25 rfl (lv_at hl 2 rfl) ?_
        refine lv_istore_n (lv' := [(2, .int a3), (5, .int r4), (3, .int a3), (4, .int a4)]) F.1 F.2.1 dX8_isCoprime_26 rfl hl (by decide) rfl (fun ls hl => ?_)
        refine lv_iload F.1 F.2.1 dX8_isCoprime_27 (lv_at hl 1 rfl) ?_
        refine lv_istore_n (lv' := [(3, .int r4), (2, .int a3), (5, .int r4), (4, .int a4)]) F.1 F.2.1 dX8_isCoprime_29 rfl hl (by decide) rfl (fun ls hl => ?_)
        obtain ⟨v5, e_v5⟩ : ∃ y : Int32, y = (a4 + 1) := ⟨_, rfl⟩
        replace hf := oi_l hf e_v5
        refine lv_iinc (v := v5) (lv' := [(4, .int v5), (3, .int r4), (2, .int a3), (5, .int r4)]) F.1 F.2.1 dX8_isCoprime_30 hl (k := 3) rfl (by rw [e_v5]; rfl) (by decide) rfl (fun ls hl => ?_)
        refine lv_goto (tgt := 7) F.1 F.2.1 dX8_isCoprime_33 (by decide) ?_
        exact ih _ _ _ _ w a3 r4 v5 (lv_sub hl [2, 1, 0] rfl) hf
def f_X8_isCoprime_0 (S : ST) (a0 : Int32) (a1 : Int32) : Option (Int32 × ST) := f_X8_isCoprime_7 FU S a0 a1 0
set_option maxHeartbeats 4000000 in
set_option maxRecDepth 100000 in
theorem b_X8_isCoprime_0 {p : Program} {l : Launch} {e : Env} {s : State} {m : MethodId} {args : Array Value} {below : List Frame} {meth : Method} {c : Code} {x : CX} {res : Int32 × ST} (F : MF p m meth c cX8_isCoprime 6 s args RX8 (some .boolean)) : ∀ (H : Heap) (locs : List Loc) (ls : Array Slot) (S : ST), WD x s S H locs → ∀ (a0 : Int32) (a1 : Int32), lv_has ls 6 [(0, .int a0), (1, .int a1)] → f_X8_isCoprime_0 S a0 a1 = some res → W p l e ({ frames := 1, cells := 0, slots := 0, locals := 22 } : Room) s m args below meth c H locs 0 0 (MQ below (QI x res.2 res.1 s.heap.size) args s 0 0 (AA x s.heap.size)) (F0 m 0 ls []) := by
  intro H locs ls S w a0 a1 hl hf
  unfold f_X8_isCoprime_0 at hf
  refine lv_iload_n F.1 F.2.1 dX8_isCoprime_0 rfl (lv_at hl 0 rfl) ?_
  refine lv_istore_n (lv' := [(2, .int a0), (0, .int a0), (1, .int a1)]) F.1 F.2.1 dX8_isCoprime_1 rfl hl (by decide) rfl (fun ls hl => ?_)
  refine lv_iload_n F.1 F.2.1 dX8_isCoprime_2 rfl (lv_at hl 2 rfl) ?_
  refine lv_istore_n (lv' := [(3, .int a1), (2, .int a0), (0, .int a0), (1, .int a1)]) F.1 F.2.1 dX8_isCoprime_3 rfl hl (by decide) rfl (fun ls hl => ?_)
  refine lv_iconst (v := 0) F.1 F.2.1 dX8_isCoprime_4 (by decide) ?_
  refine lv_istore (lv' := [(4, .int 0), (3, .int a1), (2, .int a0), (0, .int a0), (1, .int a1)]) F.1 F.2.1 dX8_isCoprime_5 hl (by decide) rfl (fun ls hl => ?_)
  exact b_X8_isCoprime_7 F FU _ _ _ _ w a0 a1 0 (lv_sub hl [2, 1, 0] rfl) hf
def f_X8_isCoprime (S : ST) (a0 : Int32) (a1 : Int32) : Option (Int32 × ST) := f_X8_isCoprime_0 S a0 a1
set_option maxHeartbeats 4000000 in
set_option maxRecDepth 100000 in
theorem k_X8_isCoprime (l : Launch) (x : CX) (S : ST) (a0 : Int32) (a1 : Int32) {res : Int32 × ST} (hf : f_X8_isCoprime S a0 a1 = some res) (sz : Nat) : Met l yX8_isCoprime (Cond.code yX8_isCoprime cX8_isCoprime 6 (some .boolean) :: GW) ({ frames := 1, cells := 0, slots := 0, locals := 22 } : Room) (PC x S sz [.int a0, .int a1]) (QI x res.2 res.1 sz) 0 0 (AA x sz) := by
  refine Met.ofW (cc := cX8_isCoprime) (maxL := 6) (ret := (some .boolean)) (by decide) rfl ?_
  intro p e s m args below meth c s₁ B hml hv
  obtain ⟨rfl, rfl, hPW⟩ := hv
  have F : MF p m meth c cX8_isCoprime 6 s _ RX8 (some .boolean) := MF.of B hml
  have w := WD.of hPW
  have hl := lv_entry ([.int a0, .int a1]) (n := 6) (Nat.le_of_ble_eq_true rfl)
  rw [lg_entry_eq]
  generalize (lg_sl ([.int a0, .int a1]) ++ List.replicate (6 - (lg_sl ([.int a0, .int a1])).length) Slot.unset).toArray = ls at hl ⊢
  have hl : lv_has ls 6 [(0, .int a0), (1, .int a1)] := hl
  unfold f_X8_isCoprime at hf
  exact b_X8_isCoprime_0 F  _ _ _ _ w a0 a1 (lv_sub hl [0, 1] rfl) hf
theorem cy_X7_prepare : CY yX7_prepare RX7 cX7_prepare 3 none 1 := ⟨q9, q297, rfl, by decide, by decide, by decide +kernel⟩
def f_X7_prepare_64 (k21 : ST → Int32 → Int32 → Option (ST)) (S : ST) (a1 : Int32) (a2 : Int32) : Option (ST) := oL (a2 + 1) (fun (v1 : Int32) => k21 S a1 v1)
set_option maxHeartbeats 4000000 in
set_option maxRecDepth 100000 in
theorem b_X7_prepare_64 {p : Program} {l : Launch} {e : Env} {s : State} {m : MethodId} {args : Array Value} {below : List Frame} {meth : Method} {c : Code} {x : CX} {res : ST} (F : MF p m meth c cX7_prepare 3 s args RX7 none) (k21 : ST → Int32 → Int32 → Option (ST)) (hk21 : ∀ (H : Heap) (locs : List Loc) (ls : Array Slot) (S : ST), WD x s S H locs → ∀ (a1 : Int32) (a2 : Int32), lv_has ls 3 [(0, .ref (x.2.2 (77))), (1, .int a1), (2, .int a2)] → k21 S a1 a2 = some res → W p l e ({ frames := 2, cells := 0, slots := 0, locals := 47 } : Room) s m args below meth c H locs 0 0 (MQ below (QV x res s.heap.size) args s 0 0 (AA x s.heap.size)) (F0 m 21 ls [])) : ∀ (H : Heap) (locs : List Loc) (ls : Array Slot) (S : ST), WD x s S H locs → ∀ (a1 : Int32) (a2 : Int32), lv_has ls 3 [(0, .ref (x.2.2 (77))), (1, .int a1), (2, .int a2)] → f_X7_prepare_64 k21 S a1 a2 = some res → W p l e ({ frames := 2, cells := 0, slots := 0, locals := 47 } : Room) s m args below meth c H locs 0 0 (MQ below (QV x res s.heap.size) args s 0 0 (AA x s.heap.size)) (F0 m 64 ls []) := by
  intro H locs ls S w a1 a2 hl hf
  unfold f_X7_prepare_64 at hf
  obtain ⟨v1, e_v1⟩ : ∃ y : Int32, y = (a2 + 1) := ⟨_, rfl⟩
  replace hf := oi_l hf e_v1
  refine lv_iinc (v := v1) (lv' := [(2, .int v1), (0, .ref (x.2.2 (77))), (1, .int a1)]) F.1 F.2.1 dX7_prepare_64 hl (k := 2) rfl (by rw [e_v1]; rfl) (by decide) rfl (fun ls hl => ?_)
  refine lv_goto (tgt := 21) F.1 F.2.1 dX7_prepare_67 (by decide) ?_
  exact hk21 _ _ _ _ w a1 v1 (lv_sub hl [1, 2, 0] rfl) hf
def f_X7_prepare_70 (S : ST)  : Option (ST) := some S
set_option maxHeartbeats 4000000 in
set_option maxRecDepth 100000 in
theorem b_X7_prepare_70 {p : Program} {l : Launch} {e : Env} {s : State} {m : MethodId} {args : Array Value} {below : List Frame} {meth : Method} {c : Code} {x : CX} {res : ST} (F : MF p m meth c cX7_prepare 3 s args RX7 none) : ∀ (H : Heap) (locs : List Loc) (ls : Array Slot) (S : ST), WD x s S H locs → lv_has ls 3 [] → f_X7_prepare_70 S = some res → W p l e ({ frames := 2, cells := 0, slots := 0, locals := 47 } : Room) s m args below meth c H locs 0 0 (MQ below (QV x res s.heap.size) args s 0 0 (AA x s.heap.size)) (F0 m 70 ls []) := by
  intro H locs ls S w hl hf
  unfold f_X7_prepare_70 at hf
  exact r_vret F w (oi_s hf) dX7_prepare_70
def f_X7_prepare_21 : Nat → ST → Int32 → Int32 → Option (ST)
  | 0, _, _, _ => none
  | n + 1, S, a1, a2 => (if a1 ≤ a2 then f_X7_prepare_70 S else (if 1000 ≤ (fi S 25) then f_X7_prepare_70 S else oB (f_X8_isCoprime S a1 a2) (fun (r4 : Int32) (S3 : ST) => (if r4 = 0 then f_X7_prepare_64 (f_X7_prepare_21 n) S3 a1 a2 else oG (inB (fi S3 25) 1000) (oL (sA S3 25 (upd (ai S3 25) (Int32.toNatClampNeg (fi S3 25)) a2)) (fun (S7 : ST) => oL (sI S7 25 ((fi S7 25) + (1 : Int32))) (fun (S8 : ST) => f_X7_prepare_64 (f_X7_prepare_21 n) S8 a1 a2)))))))
set_option maxHeartbeats 4000000 in
set_option maxRecDepth 100000 in
theorem b_X7_prepare_21 {p : Program} {l : Launch} {e : Env} {s : State} {m : MethodId} {args : Array Value} {below : List Frame} {meth : Method} {c : Code} {x : CX} {res : ST} (F : MF p m meth c cX7_prepare 3 s args RX7 none) : ∀ (n : Nat), ∀ (H : Heap) (locs : List Loc) (ls : Array Slot) (S : ST), WD x s S H locs → ∀ (a1 : Int32) (a2 : Int32), lv_has ls 3 [(0, .ref (x.2.2 (77))), (1, .int a1), (2, .int a2)] → f_X7_prepare_21 n S a1 a2 = some res → W p l e ({ frames := 2, cells := 0, slots := 0, locals := 47 } : Room) s m args below meth c H locs 0 0 (MQ below (QV x res s.heap.size) args s 0 0 (AA x s.heap.size)) (F0 m 21 ls []) := by
  intro n
  induction n with
  | zero =>
    intro H locs ls S w a1 a2 hl hf
    have hf : (none : Option (ST)) = some res := hf
    cases hf
  | succ n ih =>
    intro H locs ls S w a1 a2 hl hf
    unfold f_X7_prepare_21 at hf
    refine lv_iload_n F.1 F.2.1 dX7_prepare_21 rfl (lv_at hl 2 rfl) ?_
    refine lv_iload_n F.1 F.2.1 dX7_prepare_22 rfl (lv_at hl 1 rfl) ?_
    refine lv_icmp_ge (tgt := 70) F.1 F.2.1 dX7_prepare_23 (by decide) (fun c1 => ?_) (fun c1 => ?_)
    · replace hf := oi_t hf c1
      exact b_X7_prepare_70 F  _ _ _ _ w  (lv_sub hl [] rfl) hf
    · replace hf := oi_f hf c1
      refine lv_aload_n F.1 F.2.1 dX7_prepare_26 rfl (lv_at hl 0 rfl) ?_
      refine g_UN_count F w q152 dX7_prepare_27 ?_
      refine lv_sipush (v := 1000) F.1 F.2.1 dX7_prepare_30 (by decide) ?_
      refine lv_icmp_ge (tgt := 70) F.1 F.2.1 dX7_prepare_33 (by decide) (fun c2 => ?_) (fun c2 => ?_)
      · replace hf := oi_t hf c2
        exact b_X7_prepare_70 F  _ _ _ _ w  (lv_sub hl [] rfl) hf
      · replace hf := oi_f hf c2
        refine lv_iload_n F.1 F.2.1 dX7_prepare_36 rfl (lv_at hl 1 rfl) ?_
        refine lv_iload_n F.1 F.2.1 dX7_prepare_37 rfl (lv_at hl 2 rfl) ?_
        obtain ⟨r4, S3, hc, hf⟩ := oi_b hf
        refine k_i0 (S' := S3) (r := r4) w (runSN (As := [.int a1, .int a2]) (rest := []) F w (k_X8_isCoprime l x S a1 a2 hc H.size) cy_X8_isCoprime (by simp [NM]) q299 ⟨rfl, rfl⟩ ⟨Nat.le_of_ble_eq_true rfl, Nat.le_of_ble_eq_true rfl⟩ rfl rfl hl.1 (Nat.le_of_ble_eq_true rfl) ⟨Nat.le_of_ble_eq_true rfl, Nat.le_of_ble_eq_true rfl⟩ dX7_prepare_38) (fun H locs w => ?_)
        refine lv_if_eq (tgt := 64) F.1 F.2.1 dX7_prepare_41 (by decide) (fun c5 => ?_) (fun c5 => ?_)
        · replace hf := oi_t hf c5
          exact b_X7_prepare_64 F (f_X7_prepare_21 n) ih _ _ _ _ w a1 a2 (lv_sub hl [0, 1, 2] rfl) hf
        · replace hf := oi_f hf c5
          refine lv_aload_n F.1 F.2.1 dX7_prepare_44 rfl (lv_at hl 0 rfl) ?_
          refine g_UN_numbers F w q151 dX7_prepare_45 ?_
          refine lv_aload_n F.1 F.2.1 dX7_prepare_48 rfl (lv_at hl 0 rfl) ?_
          refine g_UN_count F w q152 dX7_prepare_49 ?_
          refine lv_iload_n F.1 F.2.1 dX7_prepare_52 rfl (lv_at hl 2 rfl) ?_
          obtain ⟨hb6, hf⟩ := oi_g hf
          refine r_iast F w (k := 78) (a := 25) (n := 1000) (by decide) (fun S9 => rfl) rfl hb6 dX7_prepare_53 (fun H locs w => ?_)
          obtain ⟨S7, e_S7⟩ : ∃ y : ST, y = sA S3 25 (upd (ai S3 25) (Int32.toNatClampNeg (fi S3 25)) a2) := ⟨_, rfl⟩
          replace w : WD x s S7 H locs := by rw [e_S7]; exact w
          replace hf := oi_l hf e_S7
          refine lv_aload_n F.1 F.2.1 dX7_prepare_54 rfl (lv_at hl 0 rfl) ?_
          refine lv_dup F.1 F.2.1 dX7_prepare_55 rfl ?_
          refine g_UN_count F w q152 dX7_prepare_56 ?_
          refine lv_iconst (v := 1) F.1 F.2.1 dX7_prepare_59 (by decide) ?_
          refine lv_iadd F.1 F.2.1 dX7_prepare_60 ?_
          refine p_UN_count F w q152 dX7_prepare_61 (fun H locs w => ?_)
          obtain ⟨S8, e_S8⟩ : ∃ y : ST, y = sI S7 25 ((fi S7 25) + (1 : Int32)) := ⟨_, rfl⟩
          replace w : WD x s S8 H locs := by rw [e_S8]; exact w
          replace hf := oi_l hf e_S8
          exact b_X7_prepare_64 F (f_X7_prepare_21 n) ih _ _ _ _ w a1 a2 (lv_sub hl [0, 1, 2] rfl) hf
def f_X7_prepare_0 (S : ST) (a1 : Int32) : Option (ST) := (if a1 = (fi S 26) then some S else oL (sI S 26 a1) (fun (S2 : ST) => oL (sI S2 25 0) (fun (S3 : ST) => f_X7_prepare_21 FU S3 a1 1)))
set_option maxHeartbeats 4000000 in
set_option maxRecDepth 100000 in
theorem b_X7_prepare_0 {p : Program} {l : Launch} {e : Env} {s : State} {m : MethodId} {args : Array Value} {below : List Frame} {meth : Method} {c : Code} {x : CX} {res : ST} (F : MF p m meth c cX7_prepare 3 s args RX7 none) : ∀ (H : Heap) (locs : List Loc) (ls : Array Slot) (S : ST), WD x s S H locs → ∀ (a1 : Int32), lv_has ls 3 [(0, .ref (x.2.2 (77))), (1, .int a1)] → f_X7_prepare_0 S a1 = some res → W p l e ({ frames := 2, cells := 0, slots := 0, locals := 47 } : Room) s m args below meth c H locs 0 0 (MQ below (QV x res s.heap.size) args s 0 0 (AA x s.heap.size)) (F0 m 0 ls []) := by
  intro H locs ls S w a1 hl hf
  unfold f_X7_prepare_0 at hf
  refine lv_iload_n F.1 F.2.1 dX7_prepare_0 rfl (lv_at hl 1 rfl) ?_
  refine lv_aload_n F.1 F.2.1 dX7_prepare_1 rfl (lv_at hl 0 rfl) ?_
  refine g_UN_modulus F w q154 dX7_prepare_2 ?_
  refine lv_icmp_ne (tgt := 9) F.1 F.2.1 dX7_prepare_5 (by decide) (fun c1 => ?_) (fun c1 => ?_)
  · replace hf := oi_f hf c1
    refine lv_aload_n F.1 F.2.1 dX7_prepare_9 rfl (lv_at hl 0 rfl) ?_
    refine lv_iload_n F.1 F.2.1 dX7_prepare_10 rfl (lv_at hl 1 rfl) ?_
    refine p_UN_modulus F w q154 dX7_prepare_11 (fun H locs w => ?_)
    obtain ⟨S2, e_S2⟩ : ∃ y : ST, y = sI S 26 a1 := ⟨_, rfl⟩
    replace w : WD x s S2 H locs := by rw [e_S2]; exact w
    replace hf := oi_l hf e_S2
    refine lv_aload_n F.1 F.2.1 dX7_prepare_14 rfl (lv_at hl 0 rfl) ?_
    refine lv_iconst (v := 0) F.1 F.2.1 dX7_prepare_15 (by decide) ?_
    refine p_UN_count F w q152 dX7_prepare_16 (fun H locs w => ?_)
    obtain ⟨S3, e_S3⟩ : ∃ y : ST, y = sI S2 25 0 := ⟨_, rfl⟩
    replace w : WD x s S3 H locs := by rw [e_S3]; exact w
    replace hf := oi_l hf e_S3
    refine lv_iconst (v := 1) F.1 F.2.1 dX7_prepare_19 (by decide) ?_
    refine lv_istore_n (lv' := [(2, .int 1), (0, .ref (x.2.2 (77))), (1, .int a1)]) F.1 F.2.1 dX7_prepare_20 rfl hl (by decide) rfl (fun ls hl => ?_)
    exact b_X7_prepare_21 F FU _ _ _ _ w a1 1 (lv_sub hl [1, 2, 0] rfl) hf
  · replace hf := oi_t hf c1
    exact r_vret F w (oi_s hf) dX7_prepare_8
def f_X7_prepare (S : ST) (a1 : Int32) : Option (ST) := f_X7_prepare_0 S a1
set_option maxHeartbeats 4000000 in
set_option maxRecDepth 100000 in
theorem k_X7_prepare (l : Launch) (x : CX) (S : ST) (a1 : Int32) {res : ST} (hf : f_X7_prepare S a1 = some res) (sz : Nat) : Met l yX7_prepare (Cond.code yX7_prepare cX7_prepare 3 none :: GW) ({ frames := 2, cells := 0, slots := 0, locals := 47 } : Room) (PC x S sz [.ref (x.2.2 (77)), .int a1]) (QV x res sz) 0 0 (AA x sz) := by
  refine Met.ofW (cc := cX7_prepare) (maxL := 3) (ret := none) (by decide) rfl ?_
  intro p e s m args below meth c s₁ B hml hv
  obtain ⟨rfl, rfl, hPW⟩ := hv
  have F : MF p m meth c cX7_prepare 3 s _ RX7 none := MF.of B hml
  have w := WD.of hPW
  have hl := lv_entry ([.ref (x.2.2 (77)), .int a1]) (n := 3) (Nat.le_of_ble_eq_true rfl)
  rw [lg_entry_eq]
  generalize (lg_sl ([.ref (x.2.2 (77)), .int a1]) ++ List.replicate (3 - (lg_sl ([.ref (x.2.2 (77)), .int a1])).length) Slot.unset).toArray = ls at hl ⊢
  have hl : lv_has ls 3 [(0, .ref (x.2.2 (77))), (1, .int a1)] := hl
  unfold f_X7_prepare at hf
  exact b_X7_prepare_0 F  _ _ _ _ w a1 (lv_sub hl [0, 1] rfl) hf
theorem cy_X8_replace : CY yX8_replace RX8 cX8_replace 3 none 2 := ⟨q1, q465, rfl, by decide, by decide, by decide +kernel⟩
def f_X8_replace_0 (S : ST) (a1 : Int32) (a2 : Int32) : Option (ST) := oV (f_X6_save S 0) (fun (S1 : ST) => oG (inB a1 4) (oV (f_X2_take S1 ((Int32.toNatClampNeg a1)) 20) (fun (S3 : ST) => oL (sI S3 (30 + 0) a2) (fun (S4 : ST) => some S4))))
set_option maxHeartbeats 4000000 in
set_option maxRecDepth 100000 in
theorem b_X8_replace_0 {p : Program} {l : Launch} {e : Env} {s : State} {m : MethodId} {args : Array Value} {below : List Frame} {meth : Method} {c : Code} {x : CX} {res : ST} (F : MF p m meth c cX8_replace 3 s args RX8 none) : ∀ (H : Heap) (locs : List Loc) (ls : Array Slot) (S : ST), WD x s S H locs → ∀ (a1 : Int32) (a2 : Int32), lv_has ls 3 [(0, .ref (x.2.2 (79))), (1, .int a1), (2, .int a2)] → f_X8_replace_0 S a1 a2 = some res → W p l e ({ frames := 4, cells := 0, slots := 0, locals := 128 } : Room) s m args below meth c H locs 0 0 (MQ below (QV x res s.heap.size) args s 0 0 (AA x s.heap.size)) (F0 m 0 ls []) := by
  intro H locs ls S w a1 a2 hl hf
  unfold f_X8_replace_0 at hf
  refine lv_aload_n F.1 F.2.1 dX8_replace_0 rfl (lv_at hl 0 rfl) ?_
  refine g_RW_saved F w q163 dX8_replace_1 ?_
  refine lv_aload_n F.1 F.2.1 dX8_replace_4 rfl (lv_at hl 0 rfl) ?_
  refine g_RW_now F w q162 dX8_replace_5 ?_
  obtain ⟨S1, hc, hf⟩ := oi_v hf
  refine k_v0 (S' := S1) w (runV (As := [.ref (x.2.2 (63 + 2 * 0))]) (rest := []) (kb := 73) F w (k_X6_save l x S 0 (by decide) hc H.size) cy_X6_save q466 q467 q468 ⟨rfl, rfl⟩ ⟨Nat.le_of_ble_eq_true rfl, Nat.le_of_ble_eq_true rfl⟩ (by decide) rfl rfl rfl rfl hl.1 (Nat.le_of_ble_eq_true rfl) ⟨Nat.le_of_ble_eq_true rfl, Nat.le_of_ble_eq_true rfl⟩ dX8_replace_8) (fun H locs w => ?_)
  refine lv_aload_n F.1 F.2.1 dX8_replace_11 rfl (lv_at hl 0 rfl) ?_
  refine g_RW_now F w q162 dX8_replace_12 ?_
  refine gN_ST_sets (i := 0) F w (by decide) (by simp [NF]) dX8_replace_15 ?_
  refine lv_iload_n F.1 F.2.1 dX8_replace_18 rfl (lv_at hl 1 rfl) ?_
  obtain ⟨hb2, hf⟩ := oi_g hf
  refine r_now F w hb2 dX8_replace_19 ?_
  refine lv_aload_n F.1 F.2.1 dX8_replace_20 rfl (lv_at hl 0 rfl) ?_
  refine g_RW_made F w q164 dX8_replace_21 ?_
  obtain ⟨S3, hc, hf⟩ := oi_v hf
  refine k_v0 (S' := S3) w (runV (As := [.ref (x.2.2 (2 * 20))]) (rest := []) (kb := 2 * ((Int32.toNatClampNeg a1))) F w (k_X2_take l x S1 ((Int32.toNatClampNeg a1)) 20 (Nat.lt_of_lt_of_le (inB_lt hb2) (by decide)) (by decide) hc H.size) cy_X2_take q484 q475 q476 ⟨rfl, rfl⟩ ⟨Nat.le_of_ble_eq_true rfl, Nat.le_of_ble_eq_true rfl⟩ (k_ms (Nat.lt_of_lt_of_le (inB_lt hb2) (by decide))) (enc_ms x S1 (Nat.lt_of_lt_of_le (inB_lt hb2) (by decide))) rfl rfl rfl hl.1 (Nat.le_of_ble_eq_true rfl) ⟨Nat.le_of_ble_eq_true rfl, Nat.le_of_ble_eq_true rfl⟩ dX8_replace_24) (fun H locs w => ?_)
  refine lv_aload_n F.1 F.2.1 dX8_replace_27 rfl (lv_at hl 0 rfl) ?_
  refine g_RW_now F w q162 dX8_replace_28 ?_
  refine lv_iload_n F.1 F.2.1 dX8_replace_31 rfl (lv_at hl 2 rfl) ?_
  refine pN_ST_modulus (i := 0) F w (by decide) (by simp [NF]) dX8_replace_32 (fun H locs w => ?_)
  obtain ⟨S4, e_S4⟩ : ∃ y : ST, y = sI S3 (30 + 0) a2 := ⟨_, rfl⟩
  replace w : WD x s S4 H locs := by rw [e_S4]; exact w
  replace hf := oi_l hf e_S4
  exact r_vret F w (oi_s hf) dX8_replace_35
def f_X8_replace (S : ST) (a1 : Int32) (a2 : Int32) : Option (ST) := f_X8_replace_0 S a1 a2
set_option maxHeartbeats 4000000 in
set_option maxRecDepth 100000 in
theorem k_X8_replace (l : Launch) (x : CX) (S : ST) (a1 : Int32) (a2 : Int32) {res : ST} (hf : f_X8_replace S a1 a2 = some res) (sz : Nat) : Met l yX8_replace (Cond.code yX8_replace cX8_replace 3 none :: GW) ({ frames := 4, cells := 0, slots := 0, locals := 128 } : Room) (PC x S sz [.ref (x.2.2 (79)), .int a1, .int a2]) (QV x res sz) 0 0 (AA x sz) := by
  refine Met.ofW (cc := cX8_replace) (maxL := 3) (ret := none) (by decide) rfl ?_
  intro p e s m args below meth c s₁ B hml hv
  obtain ⟨rfl, rfl, hPW⟩ := hv
  have F : MF p m meth c cX8_replace 3 s _ RX8 none := MF.of B hml
  have w := WD.of hPW
  have hl := lv_entry ([.ref (x.2.2 (79)), .int a1, .int a2]) (n := 3) (Nat.le_of_ble_eq_true rfl)
  rw [lg_entry_eq]
  generalize (lg_sl ([.ref (x.2.2 (79)), .int a1, .int a2]) ++ List.replicate (3 - (lg_sl ([.ref (x.2.2 (79)), .int a1, .int a2])).length) Slot.unset).toArray = ls at hl ⊢
  have hl : lv_has ls 3 [(0, .ref (x.2.2 (79))), (1, .int a1), (2, .int a2)] := hl
  unfold f_X8_replace at hf
  exact b_X8_replace_0 F  _ _ _ _ w a1 a2 (lv_sub hl [0, 1, 2] rfl) hf
theorem cy_X8_measured : CY yX8_measured RX8 cX8_measured 2 (some (.object RX3)) 1 := ⟨q1, q204, rfl, by decide, by decide, by decide +kernel⟩
def f_X8_measured_0 (S : ST) (a1 : Int32) : Option (Nat × ST) := oG (inB a1 4) (oG (inB a1 4) (oV (f_X3_measure S ((Int32.toNatClampNeg a1)) ((Int32.toNatClampNeg a1))) (fun (S3 : ST) => oG (inB a1 4) (some (((Int32.toNatClampNeg a1)), S3)))))
set_option maxHeartbeats 4000000 in
set_option maxRecDepth 100000 in
theorem b_X8_measured_0 {p : Program} {l : Launch} {e : Env} {s : State} {m : MethodId} {args : Array Value} {below : List Frame} {meth : Method} {c : Code} {x : CX} {res : Nat × ST} (F : MF p m meth c cX8_measured 2 s args RX8 (some (.object RX3))) : ∀ (H : Heap) (locs : List Loc) (ls : Array Slot) (S : ST), WD x s S H locs → ∀ (a1 : Int32), lv_has ls 2 [(0, .ref (x.2.2 (79))), (1, .int a1)] → f_X8_measured_0 S a1 = some res → W p l e ({ frames := 3, cells := 0, slots := 0, locals := 68 } : Room) s m args below meth c H locs 0 0 (MQ below (QR x res.2 (58 + res.1) s.heap.size) args s 0 0 (AA x s.heap.size)) (F0 m 0 ls []) := by
  intro H locs ls S w a1 hl hf
  unfold f_X8_measured_0 at hf
  refine lv_aload_n F.1 F.2.1 dX8_measured_0 rfl (lv_at hl 0 rfl) ?_
  refine g_RW_spans F w q169 dX8_measured_1 ?_
  refine lv_iload_n F.1 F.2.1 dX8_measured_4 rfl (lv_at hl 1 rfl) ?_
  obtain ⟨hb1, hf⟩ := oi_g hf
  refine r_spans F w hb1 dX8_measured_5 ?_
  refine lv_aload_n F.1 F.2.1 dX8_measured_6 rfl (lv_at hl 0 rfl) ?_
  refine g_RW_now F w q162 dX8_measured_7 ?_
  refine gN_ST_sets (i := 0) F w (by decide) (by simp [NF]) dX8_measured_10 ?_
  refine lv_iload_n F.1 F.2.1 dX8_measured_13 rfl (lv_at hl 1 rfl) ?_
  obtain ⟨hb2, hf⟩ := oi_g hf
  refine r_now F w hb2 dX8_measured_14 ?_
  obtain ⟨S3, hc, hf⟩ := oi_v hf
  refine k_v0 (S' := S3) w (runV (As := [.ref (x.2.2 (2 * ((Int32.toNatClampNeg a1))))]) (rest := []) (kb := 58 + ((Int32.toNatClampNeg a1))) F w (k_X3_measure l x S ((Int32.toNatClampNeg a1)) ((Int32.toNatClampNeg a1)) (inB_lt hb1) (Nat.lt_of_lt_of_le (inB_lt hb2) (by decide)) hc H.size) cy_X3_measure q205 q206 q207 ⟨rfl, rfl⟩ ⟨Nat.le_of_ble_eq_true rfl, Nat.le_of_ble_eq_true rfl⟩ (k_sp (inB_lt hb1)) (enc_sp x S (inB_lt hb1)) rfl rfl rfl hl.1 (Nat.le_of_ble_eq_true rfl) ⟨Nat.le_of_ble_eq_true rfl, Nat.le_of_ble_eq_true rfl⟩ dX8_measured_15) (fun H locs w => ?_)
  refine lv_aload_n F.1 F.2.1 dX8_measured_18 rfl (lv_at hl 0 rfl) ?_
  refine g_RW_spans F w q169 dX8_measured_19 ?_
  refine lv_iload_n F.1 F.2.1 dX8_measured_22 rfl (lv_at hl 1 rfl) ?_
  obtain ⟨hb4, hf⟩ := oi_g hf
  refine r_spans F w hb4 dX8_measured_23 ?_
  exact r_aret (k := ((Int32.toNatClampNeg a1))) F w (oi_s hf) dX8_measured_24
def f_X8_measured (S : ST) (a1 : Int32) : Option (Nat × ST) := f_X8_measured_0 S a1
set_option maxHeartbeats 4000000 in
set_option maxRecDepth 100000 in
theorem k_X8_measured (l : Launch) (x : CX) (S : ST) (a1 : Int32) {res : Nat × ST} (hf : f_X8_measured S a1 = some res) (sz : Nat) : Met l yX8_measured (Cond.code yX8_measured cX8_measured 2 (some (.object RX3)) :: GW) ({ frames := 3, cells := 0, slots := 0, locals := 68 } : Room) (PC x S sz [.ref (x.2.2 (79)), .int a1]) (QR x res.2 (58 + res.1) sz) 0 0 (AA x sz) := by
  refine Met.ofW (cc := cX8_measured) (maxL := 2) (ret := (some (.object RX3))) (by decide) rfl ?_
  intro p e s m args below meth c s₁ B hml hv
  obtain ⟨rfl, rfl, hPW⟩ := hv
  have F : MF p m meth c cX8_measured 2 s _ RX8 (some (.object RX3)) := MF.of B hml
  have w := WD.of hPW
  have hl := lv_entry ([.ref (x.2.2 (79)), .int a1]) (n := 2) (Nat.le_of_ble_eq_true rfl)
  rw [lg_entry_eq]
  generalize (lg_sl ([.ref (x.2.2 (79)), .int a1]) ++ List.replicate (2 - (lg_sl ([.ref (x.2.2 (79)), .int a1])).length) Slot.unset).toArray = ls at hl ⊢
  have hl : lv_has ls 2 [(0, .ref (x.2.2 (79))), (1, .int a1)] := hl
  unfold f_X8_measured at hf
  exact b_X8_measured_0 F  _ _ _ _ w a1 (lv_sub hl [0, 1] rfl) hf
theorem cy_X8_measureAll : CY yX8_measureAll RX8 cX8_measureAll 4 none 0 := ⟨q1, q200, rfl, by decide, by decide, by decide +kernel⟩
def f_X8_measureAll_69 (k2 : ST → Int32 → Option (ST)) (k33 : ST → Int32 → Nat → Int32 → Option (ST)) (S : ST) (a1 : Int32) (i2 : Nat) (a3 : Int32) : Option (ST) := oL (a3 + 1) (fun (v1 : Int32) => k33 S a1 i2 v1)
set_option maxHeartbeats 4000000 in
set_option maxRecDepth 100000 in
theorem b_X8_measureAll_69 {p : Program} {l : Launch} {e : Env} {s : State} {m : MethodId} {args : Array Value} {below : List Frame} {meth : Method} {c : Code} {x : CX} {res : ST} (F : MF p m meth c cX8_measureAll 4 s args RX8 none) (k2 : ST → Int32 → Option (ST)) (hk2 : ∀ (H : Heap) (locs : List Loc) (ls : Array Slot) (S : ST), WD x s S H locs → ∀ (a1 : Int32), lv_has ls 4 [(0, .ref (x.2.2 (79))), (1, .int a1)] → k2 S a1 = some res → W p l e ({ frames := 4, cells := 0, slots := 0, locals := 89 } : Room) s m args below meth c H locs 0 0 (MQ below (QV x res s.heap.size) args s 0 0 (AA x s.heap.size)) (F0 m 2 ls [])) (k33 : ST → Int32 → Nat → Int32 → Option (ST)) (hk33 : ∀ (H : Heap) (locs : List Loc) (ls : Array Slot) (S : ST), WD x s S H locs → ∀ (a1 : Int32) (i2 : Nat) (a3 : Int32), i2 < 4 → lv_has ls 4 [(0, .ref (x.2.2 (79))), (1, .int a1), (2, .ref (x.2.2 (58 + i2))), (3, .int a3)] → k33 S a1 i2 a3 = some res → W p l e ({ frames := 4, cells := 0, slots := 0, locals := 89 } : Room) s m args below meth c H locs 0 0 (MQ below (QV x res s.heap.size) args s 0 0 (AA x s.heap.size)) (F0 m 33 ls [])) : ∀ (H : Heap) (locs : List Loc) (ls : Array Slot) (S : ST), WD x s S H locs → ∀ (a1 : Int32) (i2 : Nat) (a3 : Int32), i2 < 4 → lv_has ls 4 [(0, .ref (x.2.2 (79))), (1, .int a1), (2, .ref (x.2.2 (58 + i2))), (3, .int a3)] → f_X8_measureAll_69 k2 k33 S a1 i2 a3 = some res → W p l e ({ frames := 4, cells := 0, slots := 0, locals := 89 } : Room) s m args below meth c H locs 0 0 (MQ below (QV x res s.heap.size) args s 0 0 (AA x s.heap.size)) (F0 m 69 ls []) := by
  intro H locs ls S w a1 i2 a3 h2 hl hf
  unfold f_X8_measureAll_69 at hf
  obtain ⟨v1, e_v1⟩ : ∃ y : Int32, y = (a3 + 1) := ⟨_, rfl⟩
  replace hf := oi_l hf e_v1
  refine lv_iinc (v := v1) (lv' := [(3, .int v1), (0, .ref (x.2.2 (79))), (1, .int a1), (2, .ref (x.2.2 (58 + i2)))]) F.1 F.2.1 dX8_measureAll_69 hl (k := 3) rfl (by rw [e_v1]; rfl) (by decide) rfl (fun ls hl => ?_)
  refine lv_goto (tgt := 33) F.1 F.2.1 dX8_measureAll_72 (by decide) ?_
  exact hk33 _ _ _ _ w a1 i2 v1 h2 (lv_sub hl [1, 2, 3, 0] rfl) hf
def f_X8_measureAll_33 (k2 : ST → Int32 → Option (ST)) : Nat → ST → Int32 → Nat → Int32 → Option (ST)
  | 0, _, _, _, _ => none
  | n + 1, S, a1, i2, a3 => (if a1 ≤ a3 then oL (a1 + 1) (fun (v2 : Int32) => k2 S v2) else oG (inB a3 4) (oB (f_X0_meets S (i2 + 1) (((Int32.toNatClampNeg a3)) + 1)) (fun (r5 : Int32) (S4 : ST) => (if r5 = 0 then f_X8_measureAll_69 k2 (f_X8_measureAll_33 k2 n) S4 a1 i2 a3 else oL (sI S4 (44 + i2) ((fi S4 (44 + i2)) ||| ((1 : Int32) <<< (a3 &&& 31)))) (fun (S7 : ST) => f_X8_measureAll_69 k2 (f_X8_measureAll_33 k2 n) S7 a1 i2 a3)))))
set_option maxHeartbeats 4000000 in
set_option maxRecDepth 100000 in
theorem b_X8_measureAll_33 {p : Program} {l : Launch} {e : Env} {s : State} {m : MethodId} {args : Array Value} {below : List Frame} {meth : Method} {c : Code} {x : CX} {res : ST} (F : MF p m meth c cX8_measureAll 4 s args RX8 none) (k2 : ST → Int32 → Option (ST)) (hk2 : ∀ (H : Heap) (locs : List Loc) (ls : Array Slot) (S : ST), WD x s S H locs → ∀ (a1 : Int32), lv_has ls 4 [(0, .ref (x.2.2 (79))), (1, .int a1)] → k2 S a1 = some res → W p l e ({ frames := 4, cells := 0, slots := 0, locals := 89 } : Room) s m args below meth c H locs 0 0 (MQ below (QV x res s.heap.size) args s 0 0 (AA x s.heap.size)) (F0 m 2 ls [])) : ∀ (n : Nat), ∀ (H : Heap) (locs : List Loc) (ls : Array Slot) (S : ST), WD x s S H locs → ∀ (a1 : Int32) (i2 : Nat) (a3 : Int32), i2 < 4 → lv_has ls 4 [(0, .ref (x.2.2 (79))), (1, .int a1), (2, .ref (x.2.2 (58 + i2))), (3, .int a3)] → f_X8_measureAll_33 k2 n S a1 i2 a3 = some res → W p l e ({ frames := 4, cells := 0, slots := 0, locals := 89 } : Room) s m args below meth c H locs 0 0 (MQ below (QV x res s.heap.size) args s 0 0 (AA x s.heap.size)) (F0 m 33 ls []) := by
  intro n
  induction n with
  | zero =>
    intro H locs ls S w a1 i2 a3 h2 hl hf
    have hf : (none : Option (ST)) = some res := hf
    cases hf
  | succ n ih =>
    intro H locs ls S w a1 i2 a3 h2 hl hf
    unfold f_X8_measureAll_33 at hf
    refine lv_iload_n F.1 F.2.1 dX8_measureAll_33 rfl (lv_at hl 3 rfl) ?_
    refine lv_iload_n F.1 F.2.1 dX8_measureAll_34 rfl (lv_at hl 1 rfl) ?_
    refine lv_icmp_ge (tgt := 75) F.1 F.2.1 dX8_measureAll_35 (by decide) (fun c1 => ?_) (fun c1 => ?_)
    · replace hf := oi_t hf c1
      obtain ⟨v2, e_v2⟩ : ∃ y : Int32, y = (a1 + 1) := ⟨_, rfl⟩
      replace hf := oi_l hf e_v2
      refine lv_iinc (v := v2) (lv' := [(1, .int v2), (0, .ref (x.2.2 (79))), (2, .ref (x.2.2 (58 + i2))), (3, .int a3)]) F.1 F.2.1 dX8_measureAll_75 hl (k := 1) rfl (by rw [e_v2]; rfl) (by decide) rfl (fun ls hl => ?_)
      refine lv_goto (tgt := 2) F.1 F.2.1 dX8_measureAll_78 (by decide) ?_
      exact hk2 _ _ _ _ w v2 (lv_sub hl [1, 0] rfl) hf
    · replace hf := oi_f hf c1
      refine lv_aload_n F.1 F.2.1 dX8_measureAll_38 rfl (lv_at hl 2 rfl) ?_
      refine gN_SP_row (i := i2) F w h2 (by simp [NF]) dX8_measureAll_39 ?_
      refine lv_aload_n F.1 F.2.1 dX8_measureAll_42 rfl (lv_at hl 0 rfl) ?_
      refine g_RW_spans F w q169 dX8_measureAll_43 ?_
      refine lv_iload_n F.1 F.2.1 dX8_measureAll_46 rfl (lv_at hl 3 rfl) ?_
      obtain ⟨hb3, hf⟩ := oi_g hf
      refine r_spans F w hb3 dX8_measureAll_47 ?_
      refine gN_SP_row (i := ((Int32.toNatClampNeg a3))) F w (inB_lt hb3) (by simp [NF]) dX8_measureAll_48 ?_
      obtain ⟨r5, S4, hc, hf⟩ := oi_b hf
      refine k_i0 (S' := S4) (r := r5) w (runV (As := [.ref (x.2.2 (48 + 2 * (((Int32.toNatClampNeg a3)) + 1)))]) (rest := []) (kb := 48 + 2 * (i2 + 1)) F w (k_X0_meets l x S (i2 + 1) (((Int32.toNatClampNeg a3)) + 1) (Nat.succ_lt_succ h2) (Nat.succ_lt_succ (inB_lt hb3)) hc H.size) cy_X0_meets q228 q229 q230 ⟨rfl, rfl⟩ ⟨Nat.le_of_ble_eq_true rfl, Nat.le_of_ble_eq_true rfl⟩ (k_br (Nat.succ_lt_succ h2)) (enc_br x S (Nat.succ_lt_succ h2)) rfl rfl rfl hl.1 (Nat.le_of_ble_eq_true rfl) ⟨Nat.le_of_ble_eq_true rfl, Nat.le_of_ble_eq_true rfl⟩ dX8_measureAll_51) (fun H locs w => ?_)
      refine lv_if_eq (tgt := 69) F.1 F.2.1 dX8_measureAll_54 (by decide) (fun c6 => ?_) (fun c6 => ?_)
      · replace hf := oi_t hf c6
        exact b_X8_measureAll_69 F k2 hk2 (f_X8_measureAll_33 k2 n) ih _ _ _ _ w a1 i2 a3 h2 (lv_sub hl [0, 1, 2, 3] rfl) hf
      · replace hf := oi_f hf c6
        refine lv_aload_n F.1 F.2.1 dX8_measureAll_57 rfl (lv_at hl 2 rfl) ?_
        refine lv_dup F.1 F.2.1 dX8_measureAll_58 rfl ?_
        refine gN_SP_clashes (i := i2) F w h2 (by simp [NF]) dX8_measureAll_59 ?_
        refine lv_iconst (v := 1) F.1 F.2.1 dX8_measureAll_62 (by decide) ?_
        refine lv_iload_n F.1 F.2.1 dX8_measureAll_63 rfl (lv_at hl 3 rfl) ?_
        refine lv_ishl F.1 F.2.1 dX8_measureAll_64 ?_
        refine lv_ior F.1 F.2.1 dX8_measureAll_65 ?_
        refine pN_SP_clashes (i := i2) F w h2 (by simp [NF]) dX8_measureAll_66 (fun H locs w => ?_)
        obtain ⟨S7, e_S7⟩ : ∃ y : ST, y = sI S4 (44 + i2) ((fi S4 (44 + i2)) ||| ((1 : Int32) <<< (a3 &&& 31))) := ⟨_, rfl⟩
        replace w : WD x s S7 H locs := by rw [e_S7]; exact w
        replace hf := oi_l hf e_S7
        exact b_X8_measureAll_69 F k2 hk2 (f_X8_measureAll_33 k2 n) ih _ _ _ _ w a1 i2 a3 h2 (lv_sub hl [0, 1, 2, 3] rfl) hf
def f_X8_measureAll_28 (k2 : ST → Int32 → Option (ST)) (S : ST) (a1 : Int32) (i2 : Nat) (as0 : Int32) (is1 : Nat) : Option (ST) := oL (sI S (44 + is1) as0) (fun (S1 : ST) => f_X8_measureAll_33 k2 FU S1 a1 i2 0)
set_option maxHeartbeats 4000000 in
set_option maxRecDepth 100000 in
theorem b_X8_measureAll_28 {p : Program} {l : Launch} {e : Env} {s : State} {m : MethodId} {args : Array Value} {below : List Frame} {meth : Method} {c : Code} {x : CX} {res : ST} (F : MF p m meth c cX8_measureAll 4 s args RX8 none) (k2 : ST → Int32 → Option (ST)) (hk2 : ∀ (H : Heap) (locs : List Loc) (ls : Array Slot) (S : ST), WD x s S H locs → ∀ (a1 : Int32), lv_has ls 4 [(0, .ref (x.2.2 (79))), (1, .int a1)] → k2 S a1 = some res → W p l e ({ frames := 4, cells := 0, slots := 0, locals := 89 } : Room) s m args below meth c H locs 0 0 (MQ below (QV x res s.heap.size) args s 0 0 (AA x s.heap.size)) (F0 m 2 ls [])) : ∀ (H : Heap) (locs : List Loc) (ls : Array Slot) (S : ST), WD x s S H locs → ∀ (a1 : Int32) (i2 : Nat) (as0 : Int32) (is1 : Nat), i2 < 4 → is1 < 4 → lv_has ls 4 [(0, .ref (x.2.2 (79))), (1, .int a1), (2, .ref (x.2.2 (58 + i2)))] → f_X8_measureAll_28 k2 S a1 i2 as0 is1 = some res → W p l e ({ frames := 4, cells := 0, slots := 0, locals := 89 } : Room) s m args below meth c H locs 0 0 (MQ below (QV x res s.heap.size) args s 0 0 (AA x s.heap.size)) (F0 m 28 ls [.int as0, .ref (x.2.2 (58 + is1))]) := by
  intro H locs ls S w a1 i2 as0 is1 h2 hs1 hl hf
  unfold f_X8_measureAll_28 at hf
  refine pN_SP_clashes (i := is1) F w hs1 (by simp [NF]) dX8_measureAll_28 (fun H locs w => ?_)
  obtain ⟨S1, e_S1⟩ : ∃ y : ST, y = sI S (44 + is1) as0 := ⟨_, rfl⟩
  replace w : WD x s S1 H locs := by rw [e_S1]; exact w
  replace hf := oi_l hf e_S1
  refine lv_iconst (v := 0) F.1 F.2.1 dX8_measureAll_31 (by decide) ?_
  refine lv_istore_n (lv' := [(3, .int 0), (0, .ref (x.2.2 (79))), (1, .int a1), (2, .ref (x.2.2 (58 + i2)))]) F.1 F.2.1 dX8_measureAll_32 rfl hl (by decide) rfl (fun ls hl => ?_)
  exact b_X8_measureAll_33 F k2 hk2 FU _ _ _ _ w a1 i2 0 h2 (lv_sub hl [1, 2, 3, 0] rfl) hf
def f_X8_measureAll_2 : Nat → ST → Int32 → Option (ST)
  | 0, _, _ => none
  | n + 1, S, a1 => (if 4 ≤ a1 then some S else oB (f_X8_measured S a1) (fun (r3 : Nat) (S2 : ST) => oG (decide (r3 < 4)) ((if (fi S2 (40 + r3)) = 0 then f_X8_measureAll_28 (f_X8_measureAll_2 n) S2 a1 r3 ((1 : Int32) <<< (a1 &&& 31)) r3 else f_X8_measureAll_28 (f_X8_measureAll_2 n) S2 a1 r3 0 r3))))
set_option maxHeartbeats 4000000 in
set_option maxRecDepth 100000 in
theorem b_X8_measureAll_2 {p : Program} {l : Launch} {e : Env} {s : State} {m : MethodId} {args : Array Value} {below : List Frame} {meth : Method} {c : Code} {x : CX} {res : ST} (F : MF p m meth c cX8_measureAll 4 s args RX8 none) : ∀ (n : Nat), ∀ (H : Heap) (locs : List Loc) (ls : Array Slot) (S : ST), WD x s S H locs → ∀ (a1 : Int32), lv_has ls 4 [(0, .ref (x.2.2 (79))), (1, .int a1)] → f_X8_measureAll_2 n S a1 = some res → W p l e ({ frames := 4, cells := 0, slots := 0, locals := 89 } : Room) s m args below meth c H locs 0 0 (MQ below (QV x res s.heap.size) args s 0 0 (AA x s.heap.size)) (F0 m 2 ls []) := by
  intro n
  induction n with
  | zero =>
    intro H locs ls S w a1 hl hf
    have hf : (none : Option (ST)) = some res := hf
    cases hf
  | succ n ih =>
    intro H locs ls S w a1 hl hf
    unfold f_X8_measureAll_2 at hf
    refine lv_iload_n F.1 F.2.1 dX8_measureAll_2 rfl (lv_at hl 1 rfl) ?_
    refine lv_iconst (v := 4) F.1 F.2.1 dX8_measureAll_3 (by decide) ?_
    refine lv_icmp_ge (tgt := 81) F.1 F.2.1 dX8_measureAll_4 (by decide) (fun c1 => ?_) (fun c1 => ?_)
    · replace hf := oi_t hf c1
      exact r_vret F w (oi_s hf) dX8_measureAll_81
    · replace hf := oi_f hf c1
      refine lv_aload_n F.1 F.2.1 dX8_measureAll_7 rfl (lv_at hl 0 rfl) ?_
      refine lv_iload_n F.1 F.2.1 dX8_measureAll_8 rfl (lv_at hl 1 rfl) ?_
      obtain ⟨r3, S2, hc, hf⟩ := oi_b hf
      obtain ⟨hz4, hf⟩ := oi_g hf
      refine k_r0 (S' := S2) (k := 58 + r3) w (runV (As := [.int a1]) (rest := []) (kb := 79) F w (k_X8_measured l x S a1 hc H.size) cy_X8_measured q201 q203 qp1 ⟨rfl, rfl⟩ ⟨Nat.le_of_ble_eq_true rfl, Nat.le_of_ble_eq_true rfl⟩ (by decide) rfl rfl rfl rfl hl.1 (Nat.le_of_ble_eq_true rfl) ⟨Nat.le_of_ble_eq_true rfl, Nat.le_of_ble_eq_true rfl⟩ dX8_measureAll_9) (fun H locs w => ?_)
      refine lv_astore_n (lv' := [(2, .ref (x.2.2 (58 + r3))), (0, .ref (x.2.2 (79))), (1, .int a1)]) F.1 F.2.1 dX8_measureAll_12 rfl hl (by decide) rfl (fun ls hl => ?_)
      refine lv_aload_n F.1 F.2.1 dX8_measureAll_13 rfl (lv_at hl 0 rfl) ?_
      refine lv_aload_n F.1 F.2.1 dX8_measureAll_14 rfl (lv_at hl 0 rfl) ?_
      refine gN_SP_distinct (i := r3) F w (of_decide_eq_true hz4) (by simp [NF]) dX8_measureAll_15 ?_
      refine lv_if_eq (tgt := 25) F.1 F.2.1 dX8_measureAll_18 (by decide) (fun c5 => ?_) (fun c5 => ?_)
      · replace hf := oi_t hf c5
        refine lv_iconst (v := 1) F.1 F.2.1 dX8_measureAll_25 (by decide) ?_
        refine lv_iload_n F.1 F.2.1 dX8_measureAll_26 rfl (lv_at hl 2 rfl) ?_
        refine lv_ishl F.1 F.2.1 dX8_measureAll_27 ?_
        exact b_X8_measureAll_28 F (f_X8_measureAll_2 n) ih _ _ _ _ w a1 r3 ((1 : Int32) <<< (a1 &&& 31)) r3 (of_decide_eq_true hz4) (of_decide_eq_true hz4) (lv_sub hl [1, 2, 0] rfl) hf
      · replace hf := oi_f hf c5
        refine lv_iconst (v := 0) F.1 F.2.1 dX8_measureAll_21 (by decide) ?_
        refine lv_goto (tgt := 28) F.1 F.2.1 dX8_measureAll_22 (by decide) ?_
        exact b_X8_measureAll_28 F (f_X8_measureAll_2 n) ih _ _ _ _ w a1 r3 0 r3 (of_decide_eq_true hz4) (of_decide_eq_true hz4) (lv_sub hl [1, 2, 0] rfl) hf
def f_X8_measureAll_0 (S : ST)  : Option (ST) := f_X8_measureAll_2 FU S 0
set_option maxHeartbeats 4000000 in
set_option maxRecDepth 100000 in
theorem b_X8_measureAll_0 {p : Program} {l : Launch} {e : Env} {s : State} {m : MethodId} {args : Array Value} {below : List Frame} {meth : Method} {c : Code} {x : CX} {res : ST} (F : MF p m meth c cX8_measureAll 4 s args RX8 none) : ∀ (H : Heap) (locs : List Loc) (ls : Array Slot) (S : ST), WD x s S H locs → lv_has ls 4 [(0, .ref (x.2.2 (79)))] → f_X8_measureAll_0 S = some res → W p l e ({ frames := 4, cells := 0, slots := 0, locals := 89 } : Room) s m args below meth c H locs 0 0 (MQ below (QV x res s.heap.size) args s 0 0 (AA x s.heap.size)) (F0 m 0 ls []) := by
  intro H locs ls S w hl hf
  unfold f_X8_measureAll_0 at hf
  refine lv_iconst (v := 0) F.1 F.2.1 dX8_measureAll_0 (by decide) ?_
  refine lv_istore_n (lv' := [(1, .int 0), (0, .ref (x.2.2 (79)))]) F.1 F.2.1 dX8_measureAll_1 rfl hl (by decide) rfl (fun ls hl => ?_)
  exact b_X8_measureAll_2 F FU _ _ _ _ w 0 (lv_sub hl [1, 0] rfl) hf
def f_X8_measureAll (S : ST)  : Option (ST) := f_X8_measureAll_0 S
set_option maxHeartbeats 4000000 in
set_option maxRecDepth 100000 in
theorem k_X8_measureAll (l : Launch) (x : CX) (S : ST)  {res : ST} (hf : f_X8_measureAll S  = some res) (sz : Nat) : Met l yX8_measureAll (Cond.code yX8_measureAll cX8_measureAll 4 none :: GW) ({ frames := 4, cells := 0, slots := 0, locals := 89 } : Room) (PC x S sz [.ref (x.2.2 (79))]) (QV x res sz) 0 0 (AA x sz) := by
  refine Met.ofW (cc := cX8_measureAll) (maxL := 4) (ret := none) (by decide) rfl ?_
  intro p e s m args below meth c s₁ B hml hv
  obtain ⟨rfl, rfl, hPW⟩ := hv
  have F : MF p m meth c cX8_measureAll 4 s _ RX8 none := MF.of B hml
  have w := WD.of hPW
  have hl := lv_entry ([.ref (x.2.2 (79))]) (n := 4) (Nat.le_of_ble_eq_true rfl)
  rw [lg_entry_eq]
  generalize (lg_sl ([.ref (x.2.2 (79))]) ++ List.replicate (4 - (lg_sl ([.ref (x.2.2 (79))])).length) Slot.unset).toArray = ls at hl ⊢
  have hl : lv_has ls 4 [(0, .ref (x.2.2 (79)))] := hl
  unfold f_X8_measureAll at hf
  exact b_X8_measureAll_0 F  _ _ _ _ w  (lv_sub hl [0] rfl) hf
theorem cy_X8_formFamily : CY yX8_formFamily RX8 cX8_formFamily 3 (some .boolean) 1 := ⟨q1, q331, rfl, by decide, by decide, by decide +kernel⟩
def f_X8_formFamily_32 (k2 : ST → Int32 → Int32 → Option (Int32 × ST)) (S : ST) (a1 : Int32) (a2 : Int32) : Option (Int32 × ST) := oL (a2 + 1) (fun (v1 : Int32) => k2 S a1 v1)
set_option maxHeartbeats 4000000 in
set_option maxRecDepth 100000 in
theorem b_X8_formFamily_32 {p : Program} {l : Launch} {e : Env} {s : State} {m : MethodId} {args : Array Value} {below : List Frame} {meth : Method} {c : Code} {x : CX} {res : Int32 × ST} (F : MF p m meth c cX8_formFamily 3 s args RX8 (some .boolean)) (k2 : ST → Int32 → Int32 → Option (Int32 × ST)) (hk2 : ∀ (H : Heap) (locs : List Loc) (ls : Array Slot) (S : ST), WD x s S H locs → ∀ (a1 : Int32) (a2 : Int32), lv_has ls 3 [(0, .ref (x.2.2 (79))), (1, .int a1), (2, .int a2)] → k2 S a1 a2 = some res → W p l e ({ frames := 0, cells := 0, slots := 0, locals := 0 } : Room) s m args below meth c H locs 0 0 (MQ below (QI x res.2 res.1 s.heap.size) args s 0 0 (AA x s.heap.size)) (F0 m 2 ls [])) : ∀ (H : Heap) (locs : List Loc) (ls : Array Slot) (S : ST), WD x s S H locs → ∀ (a1 : Int32) (a2 : Int32), lv_has ls 3 [(0, .ref (x.2.2 (79))), (1, .int a1), (2, .int a2)] → f_X8_formFamily_32 k2 S a1 a2 = some res → W p l e ({ frames := 0, cells := 0, slots := 0, locals := 0 } : Room) s m args below meth c H locs 0 0 (MQ below (QI x res.2 res.1 s.heap.size) args s 0 0 (AA x s.heap.size)) (F0 m 32 ls []) := by
  intro H locs ls S w a1 a2 hl hf
  unfold f_X8_formFamily_32 at hf
  obtain ⟨v1, e_v1⟩ : ∃ y : Int32, y = (a2 + 1) := ⟨_, rfl⟩
  replace hf := oi_l hf e_v1
  refine lv_iinc (v := v1) (lv' := [(2, .int v1), (0, .ref (x.2.2 (79))), (1, .int a1)]) F.1 F.2.1 dX8_formFamily_32 hl (k := 2) rfl (by rw [e_v1]; rfl) (by decide) rfl (fun ls hl => ?_)
  refine lv_goto (tgt := 2) F.1 F.2.1 dX8_formFamily_35 (by decide) ?_
  exact hk2 _ _ _ _ w a1 v1 (lv_sub hl [1, 2, 0] rfl) hf
def f_X8_formFamily_2 : Nat → ST → Int32 → Int32 → Option (Int32 × ST)
  | 0, _, _, _ => none
  | n + 1, S, a1, a2 => (if 4 ≤ a2 then some (1, S) else (if ((a1 >>> (a2 &&& 31)) &&& (1 : Int32)) = 1 then oG (inB a2 4) ((if ((fi S (44 + ((Int32.toNatClampNeg a2)))) &&& a1) = 0 then f_X8_formFamily_32 (f_X8_formFamily_2 n) S a1 a2 else some (0, S))) else f_X8_formFamily_32 (f_X8_formFamily_2 n) S a1 a2))
set_option maxHeartbeats 4000000 in
set_option maxRecDepth 100000 in
theorem b_X8_formFamily_2 {p : Program} {l : Launch} {e : Env} {s : State} {m : MethodId} {args : Array Value} {below : List Frame} {meth : Method} {c : Code} {x : CX} {res : Int32 × ST} (F : MF p m meth c cX8_formFamily 3 s args RX8 (some .boolean)) : ∀ (n : Nat), ∀ (H : Heap) (locs : List Loc) (ls : Array Slot) (S : ST), WD x s S H locs → ∀ (a1 : Int32) (a2 : Int32), lv_has ls 3 [(0, .ref (x.2.2 (79))), (1, .int a1), (2, .int a2)] → f_X8_formFamily_2 n S a1 a2 = some res → W p l e ({ frames := 0, cells := 0, slots := 0, locals := 0 } : Room) s m args below meth c H locs 0 0 (MQ below (QI x res.2 res.1 s.heap.size) args s 0 0 (AA x s.heap.size)) (F0 m 2 ls []) := by
  intro n
  induction n with
  | zero =>
    intro H locs ls S w a1 a2 hl hf
    have hf : (none : Option (Int32 × ST)) = some res := hf
    cases hf
  | succ n ih =>
    intro H locs ls S w a1 a2 hl hf
    unfold f_X8_formFamily_2 at hf
    refine lv_iload_n F.1 F.2.1 dX8_formFamily_2 rfl (lv_at hl 2 rfl) ?_
    refine lv_iconst (v := 4) F.1 F.2.1 dX8_formFamily_3 (by decide) ?_
    refine lv_icmp_ge (tgt := 38) F.1 F.2.1 dX8_formFamily_4 (by decide) (fun c1 => ?_) (fun c1 => ?_)
    · replace hf := oi_t hf c1
      refine lv_iconst (v := 1) F.1 F.2.1 dX8_formFamily_38 (by decide) ?_
      exact r_zret F w rfl (oi_s hf) dX8_formFamily_39
    · replace hf := oi_f hf c1
      refine lv_iload_n F.1 F.2.1 dX8_formFamily_7 rfl (lv_at hl 1 rfl) ?_
      refine lv_iload_n F.1 F.2.1 dX8_formFamily_8 rfl (lv_at hl 2 rfl) ?_
      refine lv_ishr F.1 F.2.1 dX8_formFamily_9 ?_
      refine lv_iconst (v := 1) F.1 F.2.1 dX8_formFamily_10 (by decide) ?_
      refine lv_iand F.1 F.2.1 dX8_formFamily_11 ?_
      refine lv_iconst (v := 1) F.1 F.2.1 dX8_formFamily_12 (by decide) ?_
      refine lv_icmp_ne (tgt := 32) F.1 F.2.1 dX8_formFamily_13 (by decide) (fun c2 => ?_) (fun c2 => ?_)
      · replace hf := oi_f hf c2
        exact b_X8_formFamily_32 F (f_X8_formFamily_2 n) ih _ _ _ _ w a1 a2 (lv_sub hl [0, 1, 2] rfl) hf
      · replace hf := oi_t hf c2
        refine lv_aload_n F.1 F.2.1 dX8_formFamily_16 rfl (lv_at hl 0 rfl) ?_
        refine g_RW_spans F w q169 dX8_formFamily_17 ?_
        refine lv_iload_n F.1 F.2.1 dX8_formFamily_20 rfl (lv_at hl 2 rfl) ?_
        obtain ⟨hb3, hf⟩ := oi_g hf
        refine r_spans F w hb3 dX8_formFamily_21 ?_
        refine gN_SP_clashes (i := ((Int32.toNatClampNeg a2))) F w (inB_lt hb3) (by simp [NF]) dX8_formFamily_22 ?_
        refine lv_iload_n F.1 F.2.1 dX8_formFamily_25 rfl (lv_at hl 1 rfl) ?_
        refine lv_iand F.1 F.2.1 dX8_formFamily_26 ?_
        refine lv_if_eq (tgt := 32) F.1 F.2.1 dX8_formFamily_27 (by decide) (fun c4 => ?_) (fun c4 => ?_)
        · replace hf := oi_t hf c4
          exact b_X8_formFamily_32 F (f_X8_formFamily_2 n) ih _ _ _ _ w a1 a2 (lv_sub hl [0, 1, 2] rfl) hf
        · replace hf := oi_f hf c4
          refine lv_iconst (v := 0) F.1 F.2.1 dX8_formFamily_30 (by decide) ?_
          exact r_zret F w rfl (oi_s hf) dX8_formFamily_31
def f_X8_formFamily_0 (S : ST) (a1 : Int32) : Option (Int32 × ST) := f_X8_formFamily_2 FU S a1 0
set_option maxHeartbeats 4000000 in
set_option maxRecDepth 100000 in
theorem b_X8_formFamily_0 {p : Program} {l : Launch} {e : Env} {s : State} {m : MethodId} {args : Array Value} {below : List Frame} {meth : Method} {c : Code} {x : CX} {res : Int32 × ST} (F : MF p m meth c cX8_formFamily 3 s args RX8 (some .boolean)) : ∀ (H : Heap) (locs : List Loc) (ls : Array Slot) (S : ST), WD x s S H locs → ∀ (a1 : Int32), lv_has ls 3 [(0, .ref (x.2.2 (79))), (1, .int a1)] → f_X8_formFamily_0 S a1 = some res → W p l e ({ frames := 0, cells := 0, slots := 0, locals := 0 } : Room) s m args below meth c H locs 0 0 (MQ below (QI x res.2 res.1 s.heap.size) args s 0 0 (AA x s.heap.size)) (F0 m 0 ls []) := by
  intro H locs ls S w a1 hl hf
  unfold f_X8_formFamily_0 at hf
  refine lv_iconst (v := 0) F.1 F.2.1 dX8_formFamily_0 (by decide) ?_
  refine lv_istore_n (lv' := [(2, .int 0), (0, .ref (x.2.2 (79))), (1, .int a1)]) F.1 F.2.1 dX8_formFamily_1 rfl hl (by decide) rfl (fun ls hl => ?_)
  exact b_X8_formFamily_2 F FU _ _ _ _ w a1 0 (lv_sub hl [1, 2, 0] rfl) hf
def f_X8_formFamily (S : ST) (a1 : Int32) : Option (Int32 × ST) := f_X8_formFamily_0 S a1
set_option maxHeartbeats 4000000 in
set_option maxRecDepth 100000 in
theorem k_X8_formFamily (l : Launch) (x : CX) (S : ST) (a1 : Int32) {res : Int32 × ST} (hf : f_X8_formFamily S a1 = some res) (sz : Nat) : Met l yX8_formFamily (Cond.code yX8_formFamily cX8_formFamily 3 (some .boolean) :: GW) ({ frames := 0, cells := 0, slots := 0, locals := 0 } : Room) (PC x S sz [.ref (x.2.2 (79)), .int a1]) (QI x res.2 res.1 sz) 0 0 (AA x sz) := by
  refine Met.ofW (cc := cX8_formFamily) (maxL := 3) (ret := (some .boolean)) (by decide) rfl ?_
  intro p e s m args below meth c s₁ B hml hv
  obtain ⟨rfl, rfl, hPW⟩ := hv
  have F : MF p m meth c cX8_formFamily 3 s _ RX8 (some .boolean) := MF.of B hml
  have w := WD.of hPW
  have hl := lv_entry ([.ref (x.2.2 (79)), .int a1]) (n := 3) (Nat.le_of_ble_eq_true rfl)
  rw [lg_entry_eq]
  generalize (lg_sl ([.ref (x.2.2 (79)), .int a1]) ++ List.replicate (3 - (lg_sl ([.ref (x.2.2 (79)), .int a1])).length) Slot.unset).toArray = ls at hl ⊢
  have hl : lv_has ls 3 [(0, .ref (x.2.2 (79))), (1, .int a1)] := hl
  unfold f_X8_formFamily at hf
  exact b_X8_formFamily_0 F  _ _ _ _ w a1 (lv_sub hl [0, 1] rfl) hf
theorem cy_X8_indexOf : CY yX8_indexOf RX8 cX8_indexOf 2 (some .int) 1 := ⟨q1, q264, rfl, by decide, by decide, by decide +kernel⟩
def f_X8_indexOf_54 (S : ST) (as0 : Int32) : Option (Int32 × ST) := some (as0, S)
set_option maxHeartbeats 4000000 in
set_option maxRecDepth 100000 in
theorem b_X8_indexOf_54 {p : Program} {l : Launch} {e : Env} {s : State} {m : MethodId} {args : Array Value} {below : List Frame} {meth : Method} {c : Code} {x : CX} {res : Int32 × ST} (F : MF p m meth c cX8_indexOf 2 s args RX8 (some .int)) : ∀ (H : Heap) (locs : List Loc) (ls : Array Slot) (S : ST), WD x s S H locs → ∀ (as0 : Int32), lv_has ls 2 [] → f_X8_indexOf_54 S as0 = some res → W p l e ({ frames := 3, cells := 0, slots := 0, locals := 68 } : Room) s m args below meth c H locs 0 0 (MQ below (QI x res.2 res.1 s.heap.size) args s 0 0 (AA x s.heap.size)) (F0 m 54 ls [.int as0]) := by
  intro H locs ls S w as0 hl hf
  unfold f_X8_indexOf_54 at hf
  exact r_iret F w (oi_s hf) dX8_indexOf_54
def f_X8_indexOf_0 (S : ST) (i1 : Nat) : Option (Int32 × ST) := (if 2 ≤ (fi S i1) then oV (f_X5_countCyclic S i1 (fi S (30 + 0))) (fun (S2 : ST) => oB (f_X5_isLevel S2 (fi S2 (30 + 0))) (fun (r4 : Int32) (S3 : ST) => (if r4 = 0 then f_X8_indexOf_54 S3 (-1) else oB (f_X5_of S3 1) (fun (r7 : Int32) (S6 : ST) => f_X8_indexOf_54 S6 r7)))) else some ((-1), S))
set_option maxHeartbeats 4000000 in
set_option maxRecDepth 100000 in
theorem b_X8_indexOf_0 {p : Program} {l : Launch} {e : Env} {s : State} {m : MethodId} {args : Array Value} {below : List Frame} {meth : Method} {c : Code} {x : CX} {res : Int32 × ST} (F : MF p m meth c cX8_indexOf 2 s args RX8 (some .int)) : ∀ (H : Heap) (locs : List Loc) (ls : Array Slot) (S : ST), WD x s S H locs → ∀ (i1 : Nat), i1 < 22 → lv_has ls 2 [(0, .ref (x.2.2 (79))), (1, .ref (x.2.2 (2 * i1)))] → f_X8_indexOf_0 S i1 = some res → W p l e ({ frames := 3, cells := 0, slots := 0, locals := 68 } : Room) s m args below meth c H locs 0 0 (MQ below (QI x res.2 res.1 s.heap.size) args s 0 0 (AA x s.heap.size)) (F0 m 0 ls []) := by
  intro H locs ls S w i1 h1 hl hf
  unfold f_X8_indexOf_0 at hf
  refine lv_aload_n F.1 F.2.1 dX8_indexOf_0 rfl (lv_at hl 1 rfl) ?_
  refine gN_MS_count (i := i1) F w h1 (by simp [NF]) dX8_indexOf_1 ?_
  refine lv_iconst (v := 2) F.1 F.2.1 dX8_indexOf_4 (by decide) ?_
  refine lv_icmp_ge (tgt := 10) F.1 F.2.1 dX8_indexOf_5 (by decide) (fun c1 => ?_) (fun c1 => ?_)
  · replace hf := oi_t hf c1
    refine lv_aload_n F.1 F.2.1 dX8_indexOf_10 rfl (lv_at hl 0 rfl) ?_
    refine g_RW_tally F w q170 dX8_indexOf_11 ?_
    refine lv_aload_n F.1 F.2.1 dX8_indexOf_14 rfl (lv_at hl 1 rfl) ?_
    refine lv_aload_n F.1 F.2.1 dX8_indexOf_15 rfl (lv_at hl 0 rfl) ?_
    refine g_RW_now F w q162 dX8_indexOf_16 ?_
    refine gN_ST_modulus (i := 0) F w (by decide) (by simp [NF]) dX8_indexOf_19 ?_
    obtain ⟨S2, hc, hf⟩ := oi_v hf
    refine k_v0 (S' := S2) w (runV (As := [.ref (x.2.2 (2 * i1)), .int (fi S (30 + 0))]) (rest := []) (kb := 75) F w (k_X5_countCyclic l x S i1 (fi S (30 + 0)) h1 hc H.size) cy_X5_countCyclic q265 q266 q267 ⟨rfl, rfl⟩ ⟨Nat.le_of_ble_eq_true rfl, Nat.le_of_ble_eq_true rfl⟩ (by decide) rfl rfl rfl rfl hl.1 (Nat.le_of_ble_eq_true rfl) ⟨Nat.le_of_ble_eq_true rfl, Nat.le_of_ble_eq_true rfl⟩ dX8_indexOf_22) (fun H locs w => ?_)
    refine lv_aload_n F.1 F.2.1 dX8_indexOf_25 rfl (lv_at hl 0 rfl) ?_
    refine g_RW_tally F w q170 dX8_indexOf_26 ?_
    refine lv_aload_n F.1 F.2.1 dX8_indexOf_29 rfl (lv_at hl 0 rfl) ?_
    refine g_RW_now F w q162 dX8_indexOf_30 ?_
    refine gN_ST_modulus (i := 0) F w (by decide) (by simp [NF]) dX8_indexOf_33 ?_
    obtain ⟨r4, S3, hc, hf⟩ := oi_b hf
    refine k_i0 (S' := S3) (r := r4) w (runV (As := [.int (fi S2 (30 + 0))]) (rest := []) (kb := 75) F w (k_X5_isLevel l x S2 (fi S2 (30 + 0)) hc H.size) cy_X5_isLevel q281 q282 q283 ⟨rfl, rfl⟩ ⟨Nat.le_of_ble_eq_true rfl, Nat.le_of_ble_eq_true rfl⟩ (by decide) rfl rfl rfl rfl hl.1 (Nat.le_of_ble_eq_true rfl) ⟨Nat.le_of_ble_eq_true rfl, Nat.le_of_ble_eq_true rfl⟩ dX8_indexOf_36) (fun H locs w => ?_)
    refine lv_if_eq (tgt := 53) F.1 F.2.1 dX8_indexOf_39 (by decide) (fun c5 => ?_) (fun c5 => ?_)
    · replace hf := oi_t hf c5
      refine lv_iconst (v := (-1)) F.1 F.2.1 dX8_indexOf_53 (by decide) ?_
      exact b_X8_indexOf_54 F  _ _ _ _ w (-1) (lv_sub hl [] rfl) hf
    · replace hf := oi_f hf c5
      refine lv_aload_n F.1 F.2.1 dX8_indexOf_42 rfl (lv_at hl 0 rfl) ?_
      refine g_RW_tally F w q170 dX8_indexOf_43 ?_
      refine lv_iconst (v := 1) F.1 F.2.1 dX8_indexOf_46 (by decide) ?_
      obtain ⟨r7, S6, hc, hf⟩ := oi_b hf
      refine k_i0 (S' := S6) (r := r7) w (runV (As := [.int 1]) (rest := []) (kb := 75) F w (k_X5_of l x S3 1 hc H.size) cy_X5_of q289 q286 q287 ⟨rfl, rfl⟩ ⟨Nat.le_of_ble_eq_true rfl, Nat.le_of_ble_eq_true rfl⟩ (by decide) rfl rfl rfl rfl hl.1 (Nat.le_of_ble_eq_true rfl) ⟨Nat.le_of_ble_eq_true rfl, Nat.le_of_ble_eq_true rfl⟩ dX8_indexOf_47) (fun H locs w => ?_)
      refine lv_goto (tgt := 54) F.1 F.2.1 dX8_indexOf_50 (by decide) ?_
      exact b_X8_indexOf_54 F  _ _ _ _ w r7 (lv_sub hl [] rfl) hf
  · replace hf := oi_f hf c1
    refine lv_iconst (v := (-1)) F.1 F.2.1 dX8_indexOf_8 (by decide) ?_
    exact r_iret F w (oi_s hf) dX8_indexOf_9
def f_X8_indexOf (S : ST) (i1 : Nat) : Option (Int32 × ST) := f_X8_indexOf_0 S i1
set_option maxHeartbeats 4000000 in
set_option maxRecDepth 100000 in
theorem k_X8_indexOf (l : Launch) (x : CX) (S : ST) (i1 : Nat) (h1 : i1 < 22) {res : Int32 × ST} (hf : f_X8_indexOf S i1 = some res) (sz : Nat) : Met l yX8_indexOf (Cond.code yX8_indexOf cX8_indexOf 2 (some .int) :: GW) ({ frames := 3, cells := 0, slots := 0, locals := 68 } : Room) (PC x S sz [.ref (x.2.2 (79)), .ref (x.2.2 (2 * i1))]) (QI x res.2 res.1 sz) 0 0 (AA x sz) := by
  refine Met.ofW (cc := cX8_indexOf) (maxL := 2) (ret := (some .int)) (by decide) rfl ?_
  intro p e s m args below meth c s₁ B hml hv
  obtain ⟨rfl, rfl, hPW⟩ := hv
  have F : MF p m meth c cX8_indexOf 2 s _ RX8 (some .int) := MF.of B hml
  have w := WD.of hPW
  have hl := lv_entry ([.ref (x.2.2 (79)), .ref (x.2.2 (2 * i1))]) (n := 2) (Nat.le_of_ble_eq_true rfl)
  rw [lg_entry_eq]
  generalize (lg_sl ([.ref (x.2.2 (79)), .ref (x.2.2 (2 * i1))]) ++ List.replicate (2 - (lg_sl ([.ref (x.2.2 (79)), .ref (x.2.2 (2 * i1))])).length) Slot.unset).toArray = ls at hl ⊢
  have hl : lv_has ls 2 [(0, .ref (x.2.2 (79))), (1, .ref (x.2.2 (2 * i1)))] := hl
  unfold f_X8_indexOf at hf
  exact b_X8_indexOf_0 F  _ _ _ _ w i1 h1 (lv_sub hl [0, 1] rfl) hf
theorem cy_X8_turn : CY yX8_turn RX8 cX8_turn 6 none 4 := ⟨q1, q629, rfl, by decide, by decide, by decide +kernel⟩
def f_X8_turn_10 : Nat → ST → Nat → Int32 → Int32 → Nat → Int32 → Option (ST)
  | 0, _, _, _, _, _, _ => none
  | n + 1, S, i1, a2, a3, i4, a5 => (if (fi S i1) ≤ a5 then oV (f_X0_spillInto S 0 i4) (fun (S2 : ST) => some S2) else oB (f_X2_at S i1 a5) (fun (r4 : Int32) (S3 : ST) => oB (f_X8_residue S3 ((a2 * r4) + a3) (fi S3 (30 + 0))) (fun (r6 : Int32) (S5 : ST) => oV (f_X0_put S5 0 r6) (fun (S7 : ST) => oL (a5 + 1) (fun (v8 : Int32) => (f_X8_turn_10 n) S7 i1 a2 a3 i4 v8)))))
set_option maxHeartbeats 4000000 in
set_option maxRecDepth 100000 in
theorem b_X8_turn_10 {p : Program} {l : Launch} {e : Env} {s : State} {m : MethodId} {args : Array Value} {below : List Frame} {meth : Method} {c : Code} {x : CX} {res : ST} (F : MF p m meth c cX8_turn 6 s args RX8 none) : ∀ (n : Nat), ∀ (H : Heap) (locs : List Loc) (ls : Array Slot) (S : ST), WD x s S H locs → ∀ (i1 : Nat) (a2 : Int32) (a3 : Int32) (i4 : Nat) (a5 : Int32), i1 < 22 → i4 < 22 → lv_has ls 6 [(0, .ref (x.2.2 (79))), (1, .ref (x.2.2 (2 * i1))), (2, .int a2), (3, .int a3), (4, .ref (x.2.2 (2 * i4))), (5, .int a5)] → f_X8_turn_10 n S i1 a2 a3 i4 a5 = some res → W p l e ({ frames := 3, cells := 0, slots := 0, locals := 68 } : Room) s m args below meth c H locs 0 0 (MQ below (QV x res s.heap.size) args s 0 0 (AA x s.heap.size)) (F0 m 10 ls []) := by
  intro n
  induction n with
  | zero =>
    intro H locs ls S w i1 a2 a3 i4 a5 h1 h4 hl hf
    have hf : (none : Option (ST)) = some res := hf
    cases hf
  | succ n ih =>
    intro H locs ls S w i1 a2 a3 i4 a5 h1 h4 hl hf
    unfold f_X8_turn_10 at hf
    refine lv_iload F.1 F.2.1 dX8_turn_10 (lv_at hl 5 rfl) ?_
    refine lv_aload_n F.1 F.2.1 dX8_turn_12 rfl (lv_at hl 1 rfl) ?_
    refine gN_MS_count (i := i1) F w h1 (by simp [NF]) dX8_turn_13 ?_
    refine lv_icmp_ge (tgt := 52) F.1 F.2.1 dX8_turn_16 (by decide) (fun c1 => ?_) (fun c1 => ?_)
    · replace hf := oi_t hf c1
      refine lv_aload_n F.1 F.2.1 dX8_turn_52 rfl (lv_at hl 0 rfl) ?_
      refine g_RW_row F w q168 dX8_turn_53 ?_
      refine lv_aload F.1 F.2.1 dX8_turn_56 (lv_at hl 4 rfl) ?_
      obtain ⟨S2, hc, hf⟩ := oi_v hf
      refine k_v0 (S' := S2) w (runV (As := [.ref (x.2.2 (2 * i4))]) (rest := []) (kb := 48 + 2 * 0) F w (k_X0_spillInto l x S 0 i4 (by decide) h4 hc H.size) cy_X0_spillInto q632 q633 q634 ⟨rfl, rfl⟩ ⟨Nat.le_of_ble_eq_true rfl, Nat.le_of_ble_eq_true rfl⟩ (k_br (by decide)) (enc_br x S (by decide)) rfl rfl rfl hl.1 (Nat.le_of_ble_eq_true rfl) ⟨Nat.le_of_ble_eq_true rfl, Nat.le_of_ble_eq_true rfl⟩ dX8_turn_58) (fun H locs w => ?_)
      exact r_vret F w (oi_s hf) dX8_turn_61
    · replace hf := oi_f hf c1
      refine lv_aload_n F.1 F.2.1 dX8_turn_19 rfl (lv_at hl 0 rfl) ?_
      refine g_RW_row F w q168 dX8_turn_20 ?_
      refine lv_iload_n F.1 F.2.1 dX8_turn_23 rfl (lv_at hl 2 rfl) ?_
      refine lv_aload_n F.1 F.2.1 dX8_turn_24 rfl (lv_at hl 1 rfl) ?_
      refine lv_iload F.1 F.2.1 dX8_turn_25 (lv_at hl 5 rfl) ?_
      obtain ⟨r4, S3, hc, hf⟩ := oi_b hf
      refine k_i0 (S' := S3) (r := r4) w (runV (As := [.int a5]) (rest := [.int a2, .ref (x.2.2 (48 + 2 * 0))]) (kb := 2 * i1) F w (k_X2_at l x S i1 a5 h1 hc H.size) cy_X2_at q241 q217 q218 ⟨rfl, rfl⟩ ⟨Nat.le_of_ble_eq_true rfl, Nat.le_of_ble_eq_true rfl⟩ (k_ms h1) (enc_ms x S h1) rfl rfl rfl hl.1 (Nat.le_of_ble_eq_true rfl) ⟨Nat.le_of_ble_eq_true rfl, Nat.le_of_ble_eq_true rfl⟩ dX8_turn_27) (fun H locs w => ?_)
      refine lv_imul F.1 F.2.1 dX8_turn_30 ?_
      refine lv_iload_n F.1 F.2.1 dX8_turn_31 rfl (lv_at hl 3 rfl) ?_
      refine lv_iadd F.1 F.2.1 dX8_turn_32 ?_
      refine lv_aload_n F.1 F.2.1 dX8_turn_33 rfl (lv_at hl 0 rfl) ?_
      refine g_RW_now F w q162 dX8_turn_34 ?_
      refine gN_ST_modulus (i := 0) F w (by decide) (by simp [NF]) dX8_turn_37 ?_
      obtain ⟨r6, S5, hc, hf⟩ := oi_b hf
      refine k_i0 (S' := S5) (r := r6) w (runS (As := [.int ((a2 * r4) + a3), .int (fi S3 (30 + 0))]) (rest := [.ref (x.2.2 (48 + 2 * 0))]) F w (k_X8_residue l x S3 ((a2 * r4) + a3) (fi S3 (30 + 0)) hc H.size) cy_X8_residue q301 q302 ⟨rfl, rfl⟩ ⟨Nat.le_of_ble_eq_true rfl, Nat.le_of_ble_eq_true rfl⟩ rfl rfl hl.1 (Nat.le_of_ble_eq_true rfl) ⟨Nat.le_of_ble_eq_true rfl, Nat.le_of_ble_eq_true rfl⟩ dX8_turn_40) (fun H locs w => ?_)
      obtain ⟨S7, hc, hf⟩ := oi_v hf
      refine k_v0 (S' := S7) w (runV (As := [.int r6]) (rest := []) (kb := 48 + 2 * 0) F w (k_X0_put l x S5 0 r6 (by decide) hc H.size) cy_X0_put q631 q225 q226 ⟨rfl, rfl⟩ ⟨Nat.le_of_ble_eq_true rfl, Nat.le_of_ble_eq_true rfl⟩ (k_br (by decide)) (enc_br x S5 (by decide)) rfl rfl rfl hl.1 (Nat.le_of_ble_eq_true rfl) ⟨Nat.le_of_ble_eq_true rfl, Nat.le_of_ble_eq_true rfl⟩ dX8_turn_43) (fun H locs w => ?_)
      obtain ⟨v8, e_v8⟩ : ∃ y : Int32, y = (a5 + 1) := ⟨_, rfl⟩
      replace hf := oi_l hf e_v8
      refine lv_iinc (v := v8) (lv' := [(5, .int v8), (0, .ref (x.2.2 (79))), (1, .ref (x.2.2 (2 * i1))), (2, .int a2), (3, .int a3), (4, .ref (x.2.2 (2 * i4)))]) F.1 F.2.1 dX8_turn_46 hl (k := 5) rfl (by rw [e_v8]; rfl) (by decide) rfl (fun ls hl => ?_)
      refine lv_goto (tgt := 10) F.1 F.2.1 dX8_turn_49 (by decide) ?_
      exact ih _ _ _ _ w i1 a2 a3 i4 v8 h1 h4 (lv_sub hl [1, 2, 3, 4, 5, 0] rfl) hf
def f_X8_turn_0 (S : ST) (i1 : Nat) (a2 : Int32) (a3 : Int32) (i4 : Nat) : Option (ST) := oV (f_X0_wipe S 0) (fun (S1 : ST) => f_X8_turn_10 FU S1 i1 a2 a3 i4 0)
set_option maxHeartbeats 4000000 in
set_option maxRecDepth 100000 in
theorem b_X8_turn_0 {p : Program} {l : Launch} {e : Env} {s : State} {m : MethodId} {args : Array Value} {below : List Frame} {meth : Method} {c : Code} {x : CX} {res : ST} (F : MF p m meth c cX8_turn 6 s args RX8 none) : ∀ (H : Heap) (locs : List Loc) (ls : Array Slot) (S : ST), WD x s S H locs → ∀ (i1 : Nat) (a2 : Int32) (a3 : Int32) (i4 : Nat), i1 < 22 → i4 < 22 → lv_has ls 6 [(0, .ref (x.2.2 (79))), (1, .ref (x.2.2 (2 * i1))), (2, .int a2), (3, .int a3), (4, .ref (x.2.2 (2 * i4)))] → f_X8_turn_0 S i1 a2 a3 i4 = some res → W p l e ({ frames := 3, cells := 0, slots := 0, locals := 68 } : Room) s m args below meth c H locs 0 0 (MQ below (QV x res s.heap.size) args s 0 0 (AA x s.heap.size)) (F0 m 0 ls []) := by
  intro H locs ls S w i1 a2 a3 i4 h1 h4 hl hf
  unfold f_X8_turn_0 at hf
  refine lv_aload_n F.1 F.2.1 dX8_turn_0 rfl (lv_at hl 0 rfl) ?_
  refine g_RW_row F w q168 dX8_turn_1 ?_
  obtain ⟨S1, hc, hf⟩ := oi_v hf
  refine k_v0 (S' := S1) w (runV (As := []) (rest := []) (kb := 48 + 2 * 0) F w (k_X0_wipe l x S 0 (by decide) hc H.size) cy_X0_wipe q630 q210 q211 ⟨rfl, rfl⟩ ⟨Nat.le_of_ble_eq_true rfl, Nat.le_of_ble_eq_true rfl⟩ (k_br (by decide)) (enc_br x S (by decide)) rfl rfl rfl hl.1 (Nat.le_of_ble_eq_true rfl) ⟨Nat.le_of_ble_eq_true rfl, Nat.le_of_ble_eq_true rfl⟩ dX8_turn_4) (fun H locs w => ?_)
  refine lv_iconst (v := 0) F.1 F.2.1 dX8_turn_7 (by decide) ?_
  refine lv_istore (lv' := [(5, .int 0), (0, .ref (x.2.2 (79))), (1, .ref (x.2.2 (2 * i1))), (2, .int a2), (3, .int a3), (4, .ref (x.2.2 (2 * i4)))]) F.1 F.2.1 dX8_turn_8 hl (by decide) rfl (fun ls hl => ?_)
  exact b_X8_turn_10 F FU _ _ _ _ w i1 a2 a3 i4 0 h1 h4 (lv_sub hl [1, 2, 3, 4, 5, 0] rfl) hf
def f_X8_turn (S : ST) (i1 : Nat) (a2 : Int32) (a3 : Int32) (i4 : Nat) : Option (ST) := f_X8_turn_0 S i1 a2 a3 i4
set_option maxHeartbeats 4000000 in
set_option maxRecDepth 100000 in
theorem k_X8_turn (l : Launch) (x : CX) (S : ST) (i1 : Nat) (a2 : Int32) (a3 : Int32) (i4 : Nat) (h1 : i1 < 22) (h4 : i4 < 22) {res : ST} (hf : f_X8_turn S i1 a2 a3 i4 = some res) (sz : Nat) : Met l yX8_turn (Cond.code yX8_turn cX8_turn 6 none :: GW) ({ frames := 3, cells := 0, slots := 0, locals := 68 } : Room) (PC x S sz [.ref (x.2.2 (79)), .ref (x.2.2 (2 * i1)), .int a2, .int a3, .ref (x.2.2 (2 * i4))]) (QV x res sz) 0 0 (AA x sz) := by
  refine Met.ofW (cc := cX8_turn) (maxL := 6) (ret := none) (by decide) rfl ?_
  intro p e s m args below meth c s₁ B hml hv
  obtain ⟨rfl, rfl, hPW⟩ := hv
  have F : MF p m meth c cX8_turn 6 s _ RX8 none := MF.of B hml
  have w := WD.of hPW
  have hl := lv_entry ([.ref (x.2.2 (79)), .ref (x.2.2 (2 * i1)), .int a2, .int a3, .ref (x.2.2 (2 * i4))]) (n := 6) (Nat.le_of_ble_eq_true rfl)
  rw [lg_entry_eq]
  generalize (lg_sl ([.ref (x.2.2 (79)), .ref (x.2.2 (2 * i1)), .int a2, .int a3, .ref (x.2.2 (2 * i4))]) ++ List.replicate (6 - (lg_sl ([.ref (x.2.2 (79)), .ref (x.2.2 (2 * i1)), .int a2, .int a3, .ref (x.2.2 (2 * i4))])).length) Slot.unset).toArray = ls at hl ⊢
  have hl : lv_has ls 6 [(0, .ref (x.2.2 (79))), (1, .ref (x.2.2 (2 * i1))), (2, .int a2), (3, .int a3), (4, .ref (x.2.2 (2 * i4)))] := hl
  unfold f_X8_turn at hf
  exact b_X8_turn_0 F  _ _ _ _ w i1 a2 a3 i4 h1 h4 (lv_sub hl [0, 1, 2, 3, 4] rfl) hf
theorem cy_X8_keepsTally : CY yX8_keepsTally RX8 cX8_keepsTally 5 (some .boolean) 2 := ⟨q1, q318, rfl, by decide, by decide, by decide +kernel⟩
def f_X8_keepsTally_2 : Nat → ST → Nat → Int32 → Int32 → Option (Int32 × ST)
  | 0, _, _, _, _ => none
  | n + 1, S, i1, a2, a3 => (if (fi S i1) ≤ a3 then some (1, S) else oB (f_X2_at S i1 a3) (fun (r3 : Int32) (S2 : ST) => oB (f_X2_at S2 i1 0) (fun (r5 : Int32) (S4 : ST) => oL (r3 - r5) (fun (v6 : Int32) => oB (f_X8_residue S4 (a2 * v6) (fi S4 (30 + 0))) (fun (r8 : Int32) (S7 : ST) => oB (f_X5_of S7 r8) (fun (r10 : Int32) (S9 : ST) => oB (f_X5_of S9 v6) (fun (r12 : Int32) (S11 : ST) => (if r10 = r12 then oL (a3 + 1) (fun (v14 : Int32) => (f_X8_keepsTally_2 n) S11 i1 a2 v14) else some (0, S11)))))))))
set_option maxHeartbeats 4000000 in
set_option maxRecDepth 100000 in
theorem b_X8_keepsTally_2 {p : Program} {l : Launch} {e : Env} {s : State} {m : MethodId} {args : Array Value} {below : List Frame} {meth : Method} {c : Code} {x : CX} {res : Int32 × ST} (F : MF p m meth c cX8_keepsTally 5 s args RX8 (some .boolean)) : ∀ (n : Nat), ∀ (H : Heap) (locs : List Loc) (ls : Array Slot) (S : ST), WD x s S H locs → ∀ (i1 : Nat) (a2 : Int32) (a3 : Int32), i1 < 22 → lv_has ls 5 [(0, .ref (x.2.2 (79))), (1, .ref (x.2.2 (2 * i1))), (2, .int a2), (3, .int a3)] → f_X8_keepsTally_2 n S i1 a2 a3 = some res → W p l e ({ frames := 1, cells := 0, slots := 0, locals := 22 } : Room) s m args below meth c H locs 0 0 (MQ below (QI x res.2 res.1 s.heap.size) args s 0 0 (AA x s.heap.size)) (F0 m 2 ls []) := by
  intro n
  induction n with
  | zero =>
    intro H locs ls S w i1 a2 a3 h1 hl hf
    have hf : (none : Option (Int32 × ST)) = some res := hf
    cases hf
  | succ n ih =>
    intro H locs ls S w i1 a2 a3 h1 hl hf
    unfold f_X8_keepsTally_2 at hf
    refine lv_iload_n F.1 F.2.1 dX8_keepsTally_2 rfl (lv_at hl 3 rfl) ?_
    refine lv_aload_n F.1 F.2.1 dX8_keepsTally_3 rfl (lv_at hl 1 rfl) ?_
    refine gN_MS_count (i := i1) F w h1 (by simp [NF]) dX8_keepsTally_4 ?_
    refine lv_icmp_ge (tgt := 64) F.1 F.2.1 dX8_keepsTally_7 (by decide) (fun c1 => ?_) (fun c1 => ?_)
    · replace hf := oi_t hf c1
      refine lv_iconst (v := 1) F.1 F.2.1 dX8_keepsTally_64 (by decide) ?_
      exact r_zret F w rfl (oi_s hf) dX8_keepsTally_65
    · replace hf := oi_f hf c1
      refine lv_aload_n F.1 F.2.1 dX8_keepsTally_10 rfl (lv_at hl 1 rfl) ?_
      refine lv_iload_n F.1 F.2.1 dX8_keepsTally_11 rfl (lv_at hl 3 rfl) ?_
      obtain ⟨r3, S2, hc, hf⟩ := oi_b hf
      refine k_i0 (S' := S2) (r := r3) w (runV (As := [.int a3]) (rest := []) (kb := 2 * i1) F w (k_X2_at l x S i1 a3 h1 hc H.size) cy_X2_at q241 q217 q218 ⟨rfl, rfl⟩ ⟨Nat.le_of_ble_eq_true rfl, Nat.le_of_ble_eq_true rfl⟩ (k_ms h1) (enc_ms x S h1) rfl rfl rfl hl.1 (Nat.le_of_ble_eq_true rfl) ⟨Nat.le_of_ble_eq_true rfl, Nat.le_of_ble_eq_true rfl⟩ dX8_keepsTally_12) (fun H locs w => ?_)
      refine lv_aload_n F.1 F.2.1 dX8_keepsTally_15 rfl (lv_at hl 1 rfl) ?_
      refine lv_iconst (v := 0) F.1 F.2.1 dX8_keepsTally_16 (by decide) ?_
      obtain ⟨r5, S4, hc, hf⟩ := oi_b hf
      refine k_i0 (S' := S4) (r := r5) w (runV (As := [.int 0]) (rest := [.int r3]) (kb := 2 * i1) F w (k_X2_at l x S2 i1 0 h1 hc H.size) cy_X2_at q241 q217 q218 ⟨rfl, rfl⟩ ⟨Nat.le_of_ble_eq_true rfl, Nat.le_of_ble_eq_true rfl⟩ (k_ms h1) (enc_ms x S2 h1) rfl rfl rfl hl.1 (Nat.le_of_ble_eq_true rfl) ⟨Nat.le_of_ble_eq_true rfl, Nat.le_of_ble_eq_true rfl⟩ dX8_keepsTally_17) (fun H locs w => ?_)
      refine lv_isub F.1 F.2.1 dX8_keepsTally_20 ?_
      refine lv_topi (fun v6 e_v6 => ?_)
      replace hf := oi_l hf e_v6
      refine lv_istore (lv' := [(4, .int v6), (0, .ref (x.2.2 (79))), (1, .ref (x.2.2 (2 * i1))), (2, .int a2), (3, .int a3)]) F.1 F.2.1 dX8_keepsTally_21 hl (by decide) rfl (fun ls hl => ?_)
      refine lv_aload_n F.1 F.2.1 dX8_keepsTally_23 rfl (lv_at hl 1 rfl) ?_
      refine g_RW_tally F w q170 dX8_keepsTally_24 ?_
      refine lv_iload_n F.1 F.2.1 dX8_keepsTally_27 rfl (lv_at hl 3 rfl) ?_
      refine lv_iload F.1 F.2.1 dX8_keepsTally_28 (lv_at hl 0 rfl) ?_
      refine lv_imul F.1 F.2.1 dX8_keepsTally_30 ?_
      refine lv_aload_n F.1 F.2.1 dX8_keepsTally_31 rfl (lv_at hl 1 rfl) ?_
      refine g_RW_now F w q162 dX8_keepsTally_32 ?_
      refine gN_ST_modulus (i := 0) F w (by decide) (by simp [NF]) dX8_keepsTally_35 ?_
      obtain ⟨r8, S7, hc, hf⟩ := oi_b hf
      refine k_i0 (S' := S7) (r := r8) w (runS (As := [.int (a2 * v6), .int (fi S4 (30 + 0))]) (rest := [.ref (x.2.2 (75))]) F w (k_X8_residue l x S4 (a2 * v6) (fi S4 (30 + 0)) hc H.size) cy_X8_residue q301 q302 ⟨rfl, rfl⟩ ⟨Nat.le_of_ble_eq_true rfl, Nat.le_of_ble_eq_true rfl⟩ rfl rfl hl.1 (Nat.le_of_ble_eq_true rfl) ⟨Nat.le_of_ble_eq_true rfl, Nat.le_of_ble_eq_true rfl⟩ dX8_keepsTally_38) (fun H locs w => ?_)
      obtain ⟨r10, S9, hc, hf⟩ := oi_b hf
      refine k_i0 (S' := S9) (r := r10) w (runV (As := [.int r8]) (rest := []) (kb := 75) F w (k_X5_of l x S7 r8 hc H.size) cy_X5_of q289 q286 q287 ⟨rfl, rfl⟩ ⟨Nat.le_of_ble_eq_true rfl, Nat.le_of_ble_eq_true rfl⟩ (by decide) rfl rfl rfl rfl hl.1 (Nat.le_of_ble_eq_true rfl) ⟨Nat.le_of_ble_eq_true rfl, Nat.le_of_ble_eq_true rfl⟩ dX8_keepsTally_41) (fun H locs w => ?_)
      refine lv_aload_n F.1 F.2.1 dX8_keepsTally_44 rfl (lv_at hl 1 rfl) ?_
      refine g_RW_tally F w q170 dX8_keepsTally_45 ?_
      refine lv_iload F.1 F.2.1 dX8_keepsTally_48 (lv_at hl 0 rfl) ?_
      obtain ⟨r12, S11, hc, hf⟩ := oi_b hf
      refine k_i0 (S' := S11) (r := r12) w (runV (As := [.int v6]) (rest := [.int r10]) (kb := 75) F w (k_X5_of l x S9 v6 hc H.size) cy_X5_of q289 q286 q287 ⟨rfl, rfl⟩ ⟨Nat.le_of_ble_eq_true rfl, Nat.le_of_ble_eq_true rfl⟩ (by decide) rfl rfl rfl rfl hl.1 (Nat.le_of_ble_eq_true rfl) ⟨Nat.le_of_ble_eq_true rfl, Nat.le_of_ble_eq_true rfl⟩ dX8_keepsTally_50) (fun H locs w => ?_)
      refine lv_icmp_eq (tgt := 58) F.1 F.2.1 dX8_keepsTally_53 (by decide) (fun c13 => ?_) (fun c13 => ?_)
      · replace hf := oi_t hf c13
        obtain ⟨v14, e_v14⟩ : ∃ y : Int32, y = (a3 + 1) := ⟨_, rfl⟩
        replace hf := oi_l hf e_v14
        refine lv_iinc (v := v14) (lv' := [(3, .int v14), (4, .int v6), (0, .ref (x.2.2 (79))), (1, .ref (x.2.2 (2 * i1))), (2, .int a2)]) F.1 F.2.1 dX8_keepsTally_58 hl (k := 4) rfl (by rw [e_v14]; rfl) (by decide) rfl (fun ls hl => ?_)
        refine lv_goto (tgt := 2) F.1 F.2.1 dX8_keepsTally_61 (by decide) ?_
        exact ih _ _ _ _ w i1 a2 v14 h1 (lv_sub hl [2, 3, 4, 0] rfl) hf
      · replace hf := oi_f hf c13
        refine lv_iconst (v := 0) F.1 F.2.1 dX8_keepsTally_56 (by decide) ?_
        exact r_zret F w rfl (oi_s hf) dX8_keepsTally_57
def f_X8_keepsTally_0 (S : ST) (i1 : Nat) (a2 : Int32) : Option (Int32 × ST) := f_X8_keepsTally_2 FU S i1 a2 1
set_option maxHeartbeats 4000000 in
set_option maxRecDepth 100000 in
theorem b_X8_keepsTally_0 {p : Program} {l : Launch} {e : Env} {s : State} {m : MethodId} {args : Array Value} {below : List Frame} {meth : Method} {c : Code} {x : CX} {res : Int32 × ST} (F : MF p m meth c cX8_keepsTally 5 s args RX8 (some .boolean)) : ∀ (H : Heap) (locs : List Loc) (ls : Array Slot) (S : ST), WD x s S H locs → ∀ (i1 : Nat) (a2 : Int32), i1 < 22 → lv_has ls 5 [(0, .ref (x.2.2 (79))), (1, .ref (x.2.2 (2 * i1))), (2, .int a2)] → f_X8_keepsTally_0 S i1 a2 = some res → W p l e ({ frames := 1, cells := 0, slots := 0, locals := 22 } : Room) s m args below meth c H locs 0 0 (MQ below (QI x res.2 res.1 s.heap.size) args s 0 0 (AA x s.heap.size)) (F0 m 0 ls []) := by
  intro H locs ls S w i1 a2 h1 hl hf
  unfold f_X8_keepsTally_0 at hf
  refine lv_iconst (v := 1) F.1 F.2.1 dX8_keepsTally_0 (by decide) ?_
  refine lv_istore_n (lv' := [(3, .int 1), (0, .ref (x.2.2 (79))), (1, .ref (x.2.2 (2 * i1))), (2, .int a2)]) F.1 F.2.1 dX8_keepsTally_1 rfl hl (by decide) rfl (fun ls hl => ?_)
  exact b_X8_keepsTally_2 F FU _ _ _ _ w i1 a2 1 h1 (lv_sub hl [1, 2, 3, 0] rfl) hf
def f_X8_keepsTally (S : ST) (i1 : Nat) (a2 : Int32) : Option (Int32 × ST) := f_X8_keepsTally_0 S i1 a2
set_option maxHeartbeats 4000000 in
set_option maxRecDepth 100000 in
theorem k_X8_keepsTally (l : Launch) (x : CX) (S : ST) (i1 : Nat) (a2 : Int32) (h1 : i1 < 22) {res : Int32 × ST} (hf : f_X8_keepsTally S i1 a2 = some res) (sz : Nat) : Met l yX8_keepsTally (Cond.code yX8_keepsTally cX8_keepsTally 5 (some .boolean) :: GW) ({ frames := 1, cells := 0, slots := 0, locals := 22 } : Room) (PC x S sz [.ref (x.2.2 (79)), .ref (x.2.2 (2 * i1)), .int a2]) (QI x res.2 res.1 sz) 0 0 (AA x sz) := by
  refine Met.ofW (cc := cX8_keepsTally) (maxL := 5) (ret := (some .boolean)) (by decide) rfl ?_
  intro p e s m args below meth c s₁ B hml hv
  obtain ⟨rfl, rfl, hPW⟩ := hv
  have F : MF p m meth c cX8_keepsTally 5 s _ RX8 (some .boolean) := MF.of B hml
  have w := WD.of hPW
  have hl := lv_entry ([.ref (x.2.2 (79)), .ref (x.2.2 (2 * i1)), .int a2]) (n := 5) (Nat.le_of_ble_eq_true rfl)
  rw [lg_entry_eq]
  generalize (lg_sl ([.ref (x.2.2 (79)), .ref (x.2.2 (2 * i1)), .int a2]) ++ List.replicate (5 - (lg_sl ([.ref (x.2.2 (79)), .ref (x.2.2 (2 * i1)), .int a2])).length) Slot.unset).toArray = ls at hl ⊢
  have hl : lv_has ls 5 [(0, .ref (x.2.2 (79))), (1, .ref (x.2.2 (2 * i1))), (2, .int a2)] := hl
  unfold f_X8_keepsTally at hf
  exact b_X8_keepsTally_0 F  _ _ _ _ w i1 a2 h1 (lv_sub hl [0, 1, 2] rfl) hf
theorem cy_X8_isShifted : CY yX8_isShifted RX8 cX8_isShifted 5 (some .boolean) 3 := ⟨q1, q326, rfl, by decide, by decide, by decide +kernel⟩
def f_X8_isShifted_3 : Nat → ST → Nat → Int32 → Int32 → Int32 → Option (Int32 × ST)
  | 0, _, _, _, _, _ => none
  | n + 1, S, i1, a2, a3, a4 => (if (fi S i1) ≤ a4 then some (1, S) else oB (f_X2_at S i1 a4) (fun (r3 : Int32) (S2 : ST) => oB (f_X8_residue S2 ((a2 * r3) - a3) (fi S2 (30 + 0))) (fun (r5 : Int32) (S4 : ST) => oB (f_X0_has S4 0 r5) (fun (r7 : Int32) (S6 : ST) => (if r7 = 0 then some (0, S6) else oL (a4 + 1) (fun (v9 : Int32) => (f_X8_isShifted_3 n) S6 i1 a2 a3 v9))))))
set_option maxHeartbeats 4000000 in
set_option maxRecDepth 100000 in
theorem b_X8_isShifted_3 {p : Program} {l : Launch} {e : Env} {s : State} {m : MethodId} {args : Array Value} {below : List Frame} {meth : Method} {c : Code} {x : CX} {res : Int32 × ST} (F : MF p m meth c cX8_isShifted 5 s args RX8 (some .boolean)) : ∀ (n : Nat), ∀ (H : Heap) (locs : List Loc) (ls : Array Slot) (S : ST), WD x s S H locs → ∀ (i1 : Nat) (a2 : Int32) (a3 : Int32) (a4 : Int32), i1 < 22 → lv_has ls 5 [(0, .ref (x.2.2 (79))), (1, .ref (x.2.2 (2 * i1))), (2, .int a2), (3, .int a3), (4, .int a4)] → f_X8_isShifted_3 n S i1 a2 a3 a4 = some res → W p l e ({ frames := 1, cells := 0, slots := 0, locals := 22 } : Room) s m args below meth c H locs 0 0 (MQ below (QI x res.2 res.1 s.heap.size) args s 0 0 (AA x s.heap.size)) (F0 m 3 ls []) := by
  intro n
  induction n with
  | zero =>
    intro H locs ls S w i1 a2 a3 a4 h1 hl hf
    have hf : (none : Option (Int32 × ST)) = some res := hf
    cases hf
  | succ n ih =>
    intro H locs ls S w i1 a2 a3 a4 h1 hl hf
    unfold f_X8_isShifted_3 at hf
    refine lv_iload F.1 F.2.1 dX8_isShifted_3 (lv_at hl 4 rfl) ?_
    refine lv_aload_n F.1 F.2.1 dX8_isShifted_5 rfl (lv_at hl 1 rfl) ?_
    refine gN_MS_count (i := i1) F w h1 (by simp [NF]) dX8_isShifted_6 ?_
    refine lv_icmp_ge (tgt := 50) F.1 F.2.1 dX8_isShifted_9 (by decide) (fun c1 => ?_) (fun c1 => ?_)
    · replace hf := oi_t hf c1
      refine lv_iconst (v := 1) F.1 F.2.1 dX8_isShifted_50 (by decide) ?_
      exact r_zret F w rfl (oi_s hf) dX8_isShifted_51
    · replace hf := oi_f hf c1
      refine lv_aload_n F.1 F.2.1 dX8_isShifted_12 rfl (lv_at hl 0 rfl) ?_
      refine g_RW_row F w q168 dX8_isShifted_13 ?_
      refine lv_iload_n F.1 F.2.1 dX8_isShifted_16 rfl (lv_at hl 2 rfl) ?_
      refine lv_aload_n F.1 F.2.1 dX8_isShifted_17 rfl (lv_at hl 1 rfl) ?_
      refine lv_iload F.1 F.2.1 dX8_isShifted_18 (lv_at hl 4 rfl) ?_
      obtain ⟨r3, S2, hc, hf⟩ := oi_b hf
      refine k_i0 (S' := S2) (r := r3) w (runV (As := [.int a4]) (rest := [.int a2, .ref (x.2.2 (48 + 2 * 0))]) (kb := 2 * i1) F w (k_X2_at l x S i1 a4 h1 hc H.size) cy_X2_at q241 q217 q218 ⟨rfl, rfl⟩ ⟨Nat.le_of_ble_eq_true rfl, Nat.le_of_ble_eq_true rfl⟩ (k_ms h1) (enc_ms x S h1) rfl rfl rfl hl.1 (Nat.le_of_ble_eq_true rfl) ⟨Nat.le_of_ble_eq_true rfl, Nat.le_of_ble_eq_true rfl⟩ dX8_isShifted_20) (fun H locs w => ?_)
      refine lv_imul F.1 F.2.1 dX8_isShifted_23 ?_
      refine lv_iload_n F.1 F.2.1 dX8_isShifted_24 rfl (lv_at hl 3 rfl) ?_
      refine lv_isub F.1 F.2.1 dX8_isShifted_25 ?_
      refine lv_aload_n F.1 F.2.1 dX8_isShifted_26 rfl (lv_at hl 0 rfl) ?_
      refine g_RW_now F w q162 dX8_isShifted_27 ?_
      refine gN_ST_modulus (i := 0) F w (by decide) (by simp [NF]) dX8_isShifted_30 ?_
      obtain ⟨r5, S4, hc, hf⟩ := oi_b hf
      refine k_i0 (S' := S4) (r := r5) w (runS (As := [.int ((a2 * r3) - a3), .int (fi S2 (30 + 0))]) (rest := [.ref (x.2.2 (48 + 2 * 0))]) F w (k_X8_residue l x S2 ((a2 * r3) - a3) (fi S2 (30 + 0)) hc H.size) cy_X8_residue q301 q302 ⟨rfl, rfl⟩ ⟨Nat.le_of_ble_eq_true rfl, Nat.le_of_ble_eq_true rfl⟩ rfl rfl hl.1 (Nat.le_of_ble_eq_true rfl) ⟨Nat.le_of_ble_eq_true rfl, Nat.le_of_ble_eq_true rfl⟩ dX8_isShifted_33) (fun H locs w => ?_)
      obtain ⟨r7, S6, hc, hf⟩ := oi_b hf
      refine k_i0 (S' := S6) (r := r7) w (runV (As := [.int r5]) (rest := []) (kb := 48 + 2 * 0) F w (k_X0_has l x S4 0 r5 (by decide) hc H.size) cy_X0_has q327 q221 q222 ⟨rfl, rfl⟩ ⟨Nat.le_of_ble_eq_true rfl, Nat.le_of_ble_eq_true rfl⟩ (k_br (by decide)) (enc_br x S4 (by decide)) rfl rfl rfl hl.1 (Nat.le_of_ble_eq_true rfl) ⟨Nat.le_of_ble_eq_true rfl, Nat.le_of_ble_eq_true rfl⟩ dX8_isShifted_36) (fun H locs w => ?_)
      refine lv_if_ne (tgt := 44) F.1 F.2.1 dX8_isShifted_39 (by decide) (fun c8 => ?_) (fun c8 => ?_)
      · replace hf := oi_f hf c8
        obtain ⟨v9, e_v9⟩ : ∃ y : Int32, y = (a4 + 1) := ⟨_, rfl⟩
        replace hf := oi_l hf e_v9
        refine lv_iinc (v := v9) (lv' := [(4, .int v9), (0, .ref (x.2.2 (79))), (1, .ref (x.2.2 (2 * i1))), (2, .int a2), (3, .int a3)]) F.1 F.2.1 dX8_isShifted_44 hl (k := 4) rfl (by rw [e_v9]; rfl) (by decide) rfl (fun ls hl => ?_)
        refine lv_goto (tgt := 3) F.1 F.2.1 dX8_isShifted_47 (by decide) ?_
        exact ih _ _ _ _ w i1 a2 a3 v9 h1 (lv_sub hl [1, 2, 3, 4, 0] rfl) hf
      · replace hf := oi_t hf c8
        refine lv_iconst (v := 0) F.1 F.2.1 dX8_isShifted_42 (by decide) ?_
        exact r_zret F w rfl (oi_s hf) dX8_isShifted_43
def f_X8_isShifted_0 (S : ST) (i1 : Nat) (a2 : Int32) (a3 : Int32) : Option (Int32 × ST) := f_X8_isShifted_3 FU S i1 a2 a3 0
set_option maxHeartbeats 4000000 in
set_option maxRecDepth 100000 in
theorem b_X8_isShifted_0 {p : Program} {l : Launch} {e : Env} {s : State} {m : MethodId} {args : Array Value} {below : List Frame} {meth : Method} {c : Code} {x : CX} {res : Int32 × ST} (F : MF p m meth c cX8_isShifted 5 s args RX8 (some .boolean)) : ∀ (H : Heap) (locs : List Loc) (ls : Array Slot) (S : ST), WD x s S H locs → ∀ (i1 : Nat) (a2 : Int32) (a3 : Int32), i1 < 22 → lv_has ls 5 [(0, .ref (x.2.2 (79))), (1, .ref (x.2.2 (2 * i1))), (2, .int a2), (3, .int a3)] → f_X8_isShifted_0 S i1 a2 a3 = some res → W p l e ({ frames := 1, cells := 0, slots := 0, locals := 22 } : Room) s m args below meth c H locs 0 0 (MQ below (QI x res.2 res.1 s.heap.size) args s 0 0 (AA x s.heap.size)) (F0 m 0 ls []) := by
  intro H locs ls S w i1 a2 a3 h1 hl hf
  unfold f_X8_isShifted_0 at hf
  refine lv_iconst (v := 0) F.1 F.2.1 dX8_isShifted_0 (by decide) ?_
  refine lv_istore (lv' := [(4, .int 0), (0, .ref (x.2.2 (79))), (1, .ref (x.2.2 (2 * i1))), (2, .int a2), (3, .int a3)]) F.1 F.2.1 dX8_isShifted_1 hl (by decide) rfl (fun ls hl => ?_)
  exact b_X8_isShifted_3 F FU _ _ _ _ w i1 a2 a3 0 h1 (lv_sub hl [1, 2, 3, 4, 0] rfl) hf
def f_X8_isShifted (S : ST) (i1 : Nat) (a2 : Int32) (a3 : Int32) : Option (Int32 × ST) := f_X8_isShifted_0 S i1 a2 a3
set_option maxHeartbeats 4000000 in
set_option maxRecDepth 100000 in
theorem k_X8_isShifted (l : Launch) (x : CX) (S : ST) (i1 : Nat) (a2 : Int32) (a3 : Int32) (h1 : i1 < 22) {res : Int32 × ST} (hf : f_X8_isShifted S i1 a2 a3 = some res) (sz : Nat) : Met l yX8_isShifted (Cond.code yX8_isShifted cX8_isShifted 5 (some .boolean) :: GW) ({ frames := 1, cells := 0, slots := 0, locals := 22 } : Room) (PC x S sz [.ref (x.2.2 (79)), .ref (x.2.2 (2 * i1)), .int a2, .int a3]) (QI x res.2 res.1 sz) 0 0 (AA x sz) := by
  refine Met.ofW (cc := cX8_isShifted) (maxL := 5) (ret := (some .boolean)) (by decide) rfl ?_
  intro p e s m args below meth c s₁ B hml hv
  obtain ⟨rfl, rfl, hPW⟩ := hv
  have F : MF p m meth c cX8_isShifted 5 s _ RX8 (some .boolean) := MF.of B hml
  have w := WD.of hPW
  have hl := lv_entry ([.ref (x.2.2 (79)), .ref (x.2.2 (2 * i1)), .int a2, .int a3]) (n := 5) (Nat.le_of_ble_eq_true rfl)
  rw [lg_entry_eq]
  generalize (lg_sl ([.ref (x.2.2 (79)), .ref (x.2.2 (2 * i1)), .int a2, .int a3]) ++ List.replicate (5 - (lg_sl ([.ref (x.2.2 (79)), .ref (x.2.2 (2 * i1)), .int a2, .int a3])).length) Slot.unset).toArray = ls at hl ⊢
  have hl : lv_has ls 5 [(0, .ref (x.2.2 (79))), (1, .ref (x.2.2 (2 * i1))), (2, .int a2), (3, .int a3)] := hl
  unfold f_X8_isShifted at hf
  exact b_X8_isShifted_0 F  _ _ _ _ w i1 a2 a3 h1 (lv_sub hl [0, 1, 2, 3] rfl) hf
theorem cy_X8_turnsIntoShift : CY yX8_turnsIntoShift RX8 cX8_turnsIntoShift 4 (some .boolean) 2 := ⟨q1, q322, rfl, by decide, by decide, by decide +kernel⟩
def f_X8_turnsIntoShift_2 : Nat → ST → Nat → Int32 → Int32 → Option (Int32 × ST)
  | 0, _, _, _, _ => none
  | n + 1, S, i1, a2, a3 => (if (fi S i1) ≤ a3 then some (0, S) else oB (f_X2_at S i1 0) (fun (r3 : Int32) (S2 : ST) => oB (f_X2_at S2 i1 a3) (fun (r5 : Int32) (S4 : ST) => oB (f_X8_isShifted S4 i1 a2 ((a2 * r3) - r5)) (fun (r7 : Int32) (S6 : ST) => (if r7 = 0 then oL (a3 + 1) (fun (v9 : Int32) => (f_X8_turnsIntoShift_2 n) S6 i1 a2 v9) else some (1, S6))))))
set_option maxHeartbeats 4000000 in
set_option maxRecDepth 100000 in
theorem b_X8_turnsIntoShift_2 {p : Program} {l : Launch} {e : Env} {s : State} {m : MethodId} {args : Array Value} {below : List Frame} {meth : Method} {c : Code} {x : CX} {res : Int32 × ST} (F : MF p m meth c cX8_turnsIntoShift 4 s args RX8 (some .boolean)) : ∀ (n : Nat), ∀ (H : Heap) (locs : List Loc) (ls : Array Slot) (S : ST), WD x s S H locs → ∀ (i1 : Nat) (a2 : Int32) (a3 : Int32), i1 < 22 → lv_has ls 4 [(0, .ref (x.2.2 (79))), (1, .ref (x.2.2 (2 * i1))), (2, .int a2), (3, .int a3)] → f_X8_turnsIntoShift_2 n S i1 a2 a3 = some res → W p l e ({ frames := 2, cells := 0, slots := 0, locals := 46 } : Room) s m args below meth c H locs 0 0 (MQ below (QI x res.2 res.1 s.heap.size) args s 0 0 (AA x s.heap.size)) (F0 m 2 ls []) := by
  intro n
  induction n with
  | zero =>
    intro H locs ls S w i1 a2 a3 h1 hl hf
    have hf : (none : Option (Int32 × ST)) = some res := hf
    cases hf
  | succ n ih =>
    intro H locs ls S w i1 a2 a3 h1 hl hf
    unfold f_X8_turnsIntoShift_2 at hf
    refine lv_iload_n F.1 F.2.1 dX8_turnsIntoShift_2 rfl (lv_at hl 3 rfl) ?_
    refine lv_aload_n F.1 F.2.1 dX8_turnsIntoShift_3 rfl (lv_at hl 1 rfl) ?_
    refine gN_MS_count (i := i1) F w h1 (by simp [NF]) dX8_turnsIntoShift_4 ?_
    refine lv_icmp_ge (tgt := 40) F.1 F.2.1 dX8_turnsIntoShift_7 (by decide) (fun c1 => ?_) (fun c1 => ?_)
    · replace hf := oi_t hf c1
      refine lv_iconst (v := 0) F.1 F.2.1 dX8_turnsIntoShift_40 (by decide) ?_
      exact r_zret F w rfl (oi_s hf) dX8_turnsIntoShift_41
    · replace hf := oi_f hf c1
      refine lv_aload_n F.1 F.2.1 dX8_turnsIntoShift_10 rfl (lv_at hl 0 rfl) ?_
      refine lv_aload_n F.1 F.2.1 dX8_turnsIntoShift_11 rfl (lv_at hl 1 rfl) ?_
      refine lv_iload_n F.1 F.2.1 dX8_turnsIntoShift_12 rfl (lv_at hl 2 rfl) ?_
      refine lv_iload_n F.1 F.2.1 dX8_turnsIntoShift_13 rfl (lv_at hl 2 rfl) ?_
      refine lv_aload_n F.1 F.2.1 dX8_turnsIntoShift_14 rfl (lv_at hl 1 rfl) ?_
      refine lv_iconst (v := 0) F.1 F.2.1 dX8_turnsIntoShift_15 (by decide) ?_
      obtain ⟨r3, S2, hc, hf⟩ := oi_b hf
      refine k_i0 (S' := S2) (r := r3) w (runV (As := [.int 0]) (rest := [.int a2, .int a2, .ref (x.2.2 (2 * i1)), .ref (x.2.2 (79))]) (kb := 2 * i1) F w (k_X2_at l x S i1 0 h1 hc H.size) cy_X2_at q241 q217 q218 ⟨rfl, rfl⟩ ⟨Nat.le_of_ble_eq_true rfl, Nat.le_of_ble_eq_true rfl⟩ (k_ms h1) (enc_ms x S h1) rfl rfl rfl hl.1 (Nat.le_of_ble_eq_true rfl) ⟨Nat.le_of_ble_eq_true rfl, Nat.le_of_ble_eq_true rfl⟩ dX8_turnsIntoShift_16) (fun H locs w => ?_)
      refine lv_imul F.1 F.2.1 dX8_turnsIntoShift_19 ?_
      refine lv_aload_n F.1 F.2.1 dX8_turnsIntoShift_20 rfl (lv_at hl 1 rfl) ?_
      refine lv_iload_n F.1 F.2.1 dX8_turnsIntoShift_21 rfl (lv_at hl 3 rfl) ?_
      obtain ⟨r5, S4, hc, hf⟩ := oi_b hf
      refine k_i0 (S' := S4) (r := r5) w (runV (As := [.int a3]) (rest := [.int (a2 * r3), .int a2, .ref (x.2.2 (2 * i1)), .ref (x.2.2 (79))]) (kb := 2 * i1) F w (k_X2_at l x S2 i1 a3 h1 hc H.size) cy_X2_at q241 q217 q218 ⟨rfl, rfl⟩ ⟨Nat.le_of_ble_eq_true rfl, Nat.le_of_ble_eq_true rfl⟩ (k_ms h1) (enc_ms x S2 h1) rfl rfl rfl hl.1 (Nat.le_of_ble_eq_true rfl) ⟨Nat.le_of_ble_eq_true rfl, Nat.le_of_ble_eq_true rfl⟩ dX8_turnsIntoShift_22) (fun H locs w => ?_)
      refine lv_isub F.1 F.2.1 dX8_turnsIntoShift_25 ?_
      obtain ⟨r7, S6, hc, hf⟩ := oi_b hf
      refine k_i0 (S' := S6) (r := r7) w (runV (As := [.ref (x.2.2 (2 * i1)), .int a2, .int ((a2 * r3) - r5)]) (rest := []) (kb := 79) F w (k_X8_isShifted l x S4 i1 a2 ((a2 * r3) - r5) h1 hc H.size) cy_X8_isShifted q323 q325 qp7 ⟨rfl, rfl⟩ ⟨Nat.le_of_ble_eq_true rfl, Nat.le_of_ble_eq_true rfl⟩ (by decide) rfl rfl rfl rfl hl.1 (Nat.le_of_ble_eq_true rfl) ⟨Nat.le_of_ble_eq_true rfl, Nat.le_of_ble_eq_true rfl⟩ dX8_turnsIntoShift_26) (fun H locs w => ?_)
      refine lv_if_eq (tgt := 34) F.1 F.2.1 dX8_turnsIntoShift_29 (by decide) (fun c8 => ?_) (fun c8 => ?_)
      · replace hf := oi_t hf c8
        obtain ⟨v9, e_v9⟩ : ∃ y : Int32, y = (a3 + 1) := ⟨_, rfl⟩
        replace hf := oi_l hf e_v9
        refine lv_iinc (v := v9) (lv' := [(3, .int v9), (0, .ref (x.2.2 (79))), (1, .ref (x.2.2 (2 * i1))), (2, .int a2)]) F.1 F.2.1 dX8_turnsIntoShift_34 hl (k := 3) rfl (by rw [e_v9]; rfl) (by decide) rfl (fun ls hl => ?_)
        refine lv_goto (tgt := 2) F.1 F.2.1 dX8_turnsIntoShift_37 (by decide) ?_
        exact ih _ _ _ _ w i1 a2 v9 h1 (lv_sub hl [1, 2, 3, 0] rfl) hf
      · replace hf := oi_f hf c8
        refine lv_iconst (v := 1) F.1 F.2.1 dX8_turnsIntoShift_32 (by decide) ?_
        exact r_zret F w rfl (oi_s hf) dX8_turnsIntoShift_33
def f_X8_turnsIntoShift_0 (S : ST) (i1 : Nat) (a2 : Int32) : Option (Int32 × ST) := f_X8_turnsIntoShift_2 FU S i1 a2 0
set_option maxHeartbeats 4000000 in
set_option maxRecDepth 100000 in
theorem b_X8_turnsIntoShift_0 {p : Program} {l : Launch} {e : Env} {s : State} {m : MethodId} {args : Array Value} {below : List Frame} {meth : Method} {c : Code} {x : CX} {res : Int32 × ST} (F : MF p m meth c cX8_turnsIntoShift 4 s args RX8 (some .boolean)) : ∀ (H : Heap) (locs : List Loc) (ls : Array Slot) (S : ST), WD x s S H locs → ∀ (i1 : Nat) (a2 : Int32), i1 < 22 → lv_has ls 4 [(0, .ref (x.2.2 (79))), (1, .ref (x.2.2 (2 * i1))), (2, .int a2)] → f_X8_turnsIntoShift_0 S i1 a2 = some res → W p l e ({ frames := 2, cells := 0, slots := 0, locals := 46 } : Room) s m args below meth c H locs 0 0 (MQ below (QI x res.2 res.1 s.heap.size) args s 0 0 (AA x s.heap.size)) (F0 m 0 ls []) := by
  intro H locs ls S w i1 a2 h1 hl hf
  unfold f_X8_turnsIntoShift_0 at hf
  refine lv_iconst (v := 0) F.1 F.2.1 dX8_turnsIntoShift_0 (by decide) ?_
  refine lv_istore_n (lv' := [(3, .int 0), (0, .ref (x.2.2 (79))), (1, .ref (x.2.2 (2 * i1))), (2, .int a2)]) F.1 F.2.1 dX8_turnsIntoShift_1 rfl hl (by decide) rfl (fun ls hl => ?_)
  exact b_X8_turnsIntoShift_2 F FU _ _ _ _ w i1 a2 0 h1 (lv_sub hl [1, 2, 3, 0] rfl) hf
def f_X8_turnsIntoShift (S : ST) (i1 : Nat) (a2 : Int32) : Option (Int32 × ST) := f_X8_turnsIntoShift_0 S i1 a2
set_option maxHeartbeats 4000000 in
set_option maxRecDepth 100000 in
theorem k_X8_turnsIntoShift (l : Launch) (x : CX) (S : ST) (i1 : Nat) (a2 : Int32) (h1 : i1 < 22) {res : Int32 × ST} (hf : f_X8_turnsIntoShift S i1 a2 = some res) (sz : Nat) : Met l yX8_turnsIntoShift (Cond.code yX8_turnsIntoShift cX8_turnsIntoShift 4 (some .boolean) :: GW) ({ frames := 2, cells := 0, slots := 0, locals := 46 } : Room) (PC x S sz [.ref (x.2.2 (79)), .ref (x.2.2 (2 * i1)), .int a2]) (QI x res.2 res.1 sz) 0 0 (AA x sz) := by
  refine Met.ofW (cc := cX8_turnsIntoShift) (maxL := 4) (ret := (some .boolean)) (by decide) rfl ?_
  intro p e s m args below meth c s₁ B hml hv
  obtain ⟨rfl, rfl, hPW⟩ := hv
  have F : MF p m meth c cX8_turnsIntoShift 4 s _ RX8 (some .boolean) := MF.of B hml
  have w := WD.of hPW
  have hl := lv_entry ([.ref (x.2.2 (79)), .ref (x.2.2 (2 * i1)), .int a2]) (n := 4) (Nat.le_of_ble_eq_true rfl)
  rw [lg_entry_eq]
  generalize (lg_sl ([.ref (x.2.2 (79)), .ref (x.2.2 (2 * i1)), .int a2]) ++ List.replicate (4 - (lg_sl ([.ref (x.2.2 (79)), .ref (x.2.2 (2 * i1)), .int a2])).length) Slot.unset).toArray = ls at hl ⊢
  have hl : lv_has ls 4 [(0, .ref (x.2.2 (79))), (1, .ref (x.2.2 (2 * i1))), (2, .int a2)] := hl
  unfold f_X8_turnsIntoShift at hf
  exact b_X8_turnsIntoShift_0 F  _ _ _ _ w i1 a2 h1 (lv_sub hl [0, 1, 2] rfl) hf
theorem cy_X8_countMultipliers : CY yX8_countMultipliers RX8 cX8_countMultipliers 5 (some .int) 1 := ⟨q1, q293, rfl, by decide, by decide, by decide +kernel⟩
def f_X8_countMultipliers_101 (k57 : ST → Nat → Int32 → Int32 → Option (Int32 × ST)) (S : ST) (i1 : Nat) (a2 : Int32) (a3 : Int32) : Option (Int32 × ST) := oL (a3 + 1) (fun (v1 : Int32) => k57 S i1 a2 v1)
set_option maxHeartbeats 4000000 in
set_option maxRecDepth 100000 in
theorem b_X8_countMultipliers_101 {p : Program} {l : Launch} {e : Env} {s : State} {m : MethodId} {args : Array Value} {below : List Frame} {meth : Method} {c : Code} {x : CX} {res : Int32 × ST} (F : MF p m meth c cX8_countMultipliers 5 s args RX8 (some .int)) (k57 : ST → Nat → Int32 → Int32 → Option (Int32 × ST)) (hk57 : ∀ (H : Heap) (locs : List Loc) (ls : Array Slot) (S : ST), WD x s S H locs → ∀ (i1 : Nat) (a2 : Int32) (a3 : Int32), i1 < 22 → lv_has ls 5 [(0, .ref (x.2.2 (79))), (1, .ref (x.2.2 (2 * i1))), (2, .int a2), (3, .int a3)] → k57 S i1 a2 a3 = some res → W p l e ({ frames := 3, cells := 0, slots := 0, locals := 69 } : Room) s m args below meth c H locs 0 0 (MQ below (QI x res.2 res.1 s.heap.size) args s 0 0 (AA x s.heap.size)) (F0 m 57 ls [])) : ∀ (H : Heap) (locs : List Loc) (ls : Array Slot) (S : ST), WD x s S H locs → ∀ (i1 : Nat) (a2 : Int32) (a3 : Int32), i1 < 22 → lv_has ls 5 [(0, .ref (x.2.2 (79))), (1, .ref (x.2.2 (2 * i1))), (2, .int a2), (3, .int a3)] → f_X8_countMultipliers_101 k57 S i1 a2 a3 = some res → W p l e ({ frames := 3, cells := 0, slots := 0, locals := 69 } : Room) s m args below meth c H locs 0 0 (MQ below (QI x res.2 res.1 s.heap.size) args s 0 0 (AA x s.heap.size)) (F0 m 101 ls []) := by
  intro H locs ls S w i1 a2 a3 h1 hl hf
  unfold f_X8_countMultipliers_101 at hf
  obtain ⟨v1, e_v1⟩ : ∃ y : Int32, y = (a3 + 1) := ⟨_, rfl⟩
  replace hf := oi_l hf e_v1
  refine lv_iinc (v := v1) (lv' := [(3, .int v1), (0, .ref (x.2.2 (79))), (1, .ref (x.2.2 (2 * i1))), (2, .int a2)]) F.1 F.2.1 dX8_countMultipliers_101 hl (k := 3) rfl (by rw [e_v1]; rfl) (by decide) rfl (fun ls hl => ?_)
  refine lv_goto (tgt := 57) F.1 F.2.1 dX8_countMultipliers_104 (by decide) ?_
  exact hk57 _ _ _ _ w i1 a2 v1 h1 (lv_sub hl [1, 2, 3, 0] rfl) hf
def f_X8_countMultipliers_57 : Nat → ST → Nat → Int32 → Int32 → Option (Int32 × ST)
  | 0, _, _, _, _ => none
  | n + 1, S, i1, a2, a3 => (if (fi S 25) ≤ a3 then some (a2, S) else oB (f_X7_at S a3) (fun (r3 : Int32) (S2 : ST) => oB (f_X8_keepsTally S2 i1 r3) (fun (r5 : Int32) (S4 : ST) => (if r5 = 0 then f_X8_countMultipliers_101 (f_X8_countMultipliers_57 n) S4 i1 a2 a3 else oB (f_X8_turnsIntoShift S4 i1 r3) (fun (r8 : Int32) (S7 : ST) => (if r8 = 0 then f_X8_countMultipliers_101 (f_X8_countMultipliers_57 n) S7 i1 a2 a3 else oL (a2 + 1) (fun (v10 : Int32) => f_X8_countMultipliers_101 (f_X8_countMultipliers_57 n) S7 i1 v10 a3)))))))
set_option maxHeartbeats 4000000 in
set_option maxRecDepth 100000 in
theorem b_X8_countMultipliers_57 {p : Program} {l : Launch} {e : Env} {s : State} {m : MethodId} {args : Array Value} {below : List Frame} {meth : Method} {c : Code} {x : CX} {res : Int32 × ST} (F : MF p m meth c cX8_countMultipliers 5 s args RX8 (some .int)) : ∀ (n : Nat), ∀ (H : Heap) (locs : List Loc) (ls : Array Slot) (S : ST), WD x s S H locs → ∀ (i1 : Nat) (a2 : Int32) (a3 : Int32), i1 < 22 → lv_has ls 5 [(0, .ref (x.2.2 (79))), (1, .ref (x.2.2 (2 * i1))), (2, .int a2), (3, .int a3)] → f_X8_countMultipliers_57 n S i1 a2 a3 = some res → W p l e ({ frames := 3, cells := 0, slots := 0, locals := 69 } : Room) s m args below meth c H locs 0 0 (MQ below (QI x res.2 res.1 s.heap.size) args s 0 0 (AA x s.heap.size)) (F0 m 57 ls []) := by
  intro n
  induction n with
  | zero =>
    intro H locs ls S w i1 a2 a3 h1 hl hf
    have hf : (none : Option (Int32 × ST)) = some res := hf
    cases hf
  | succ n ih =>
    intro H locs ls S w i1 a2 a3 h1 hl hf
    unfold f_X8_countMultipliers_57 at hf
    refine lv_iload_n F.1 F.2.1 dX8_countMultipliers_57 rfl (lv_at hl 3 rfl) ?_
    refine lv_aload_n F.1 F.2.1 dX8_countMultipliers_58 rfl (lv_at hl 0 rfl) ?_
    refine g_RW_units F w q171 dX8_countMultipliers_59 ?_
    refine gN_UN_count F w (by simp [NF]) dX8_countMultipliers_62 ?_
    refine lv_icmp_ge (tgt := 107) F.1 F.2.1 dX8_countMultipliers_65 (by decide) (fun c1 => ?_) (fun c1 => ?_)
    · replace hf := oi_t hf c1
      refine lv_iload_n F.1 F.2.1 dX8_countMultipliers_107 rfl (lv_at hl 2 rfl) ?_
      exact r_iret F w (oi_s hf) dX8_countMultipliers_108
    · replace hf := oi_f hf c1
      refine lv_aload_n F.1 F.2.1 dX8_countMultipliers_68 rfl (lv_at hl 0 rfl) ?_
      refine g_RW_units F w q171 dX8_countMultipliers_69 ?_
      refine lv_iload_n F.1 F.2.1 dX8_countMultipliers_72 rfl (lv_at hl 3 rfl) ?_
      obtain ⟨r3, S2, hc, hf⟩ := oi_b hf
      refine k_i0 (S' := S2) (r := r3) w (runV (As := [.int a3]) (rest := []) (kb := 77) F w (k_X7_at l x S a3 hc H.size) cy_X7_at q311 q312 q313 ⟨rfl, rfl⟩ ⟨Nat.le_of_ble_eq_true rfl, Nat.le_of_ble_eq_true rfl⟩ (by decide) rfl rfl rfl rfl hl.1 (Nat.le_of_ble_eq_true rfl) ⟨Nat.le_of_ble_eq_true rfl, Nat.le_of_ble_eq_true rfl⟩ dX8_countMultipliers_73) (fun H locs w => ?_)
      refine lv_istore (lv' := [(4, .int r3), (0, .ref (x.2.2 (79))), (1, .ref (x.2.2 (2 * i1))), (2, .int a2), (3, .int a3)]) F.1 F.2.1 dX8_countMultipliers_76 hl (by decide) rfl (fun ls hl => ?_)
      refine lv_aload_n F.1 F.2.1 dX8_countMultipliers_78 rfl (lv_at hl 1 rfl) ?_
      refine lv_aload_n F.1 F.2.1 dX8_countMultipliers_79 rfl (lv_at hl 2 rfl) ?_
      refine lv_iload F.1 F.2.1 dX8_countMultipliers_80 (lv_at hl 0 rfl) ?_
      obtain ⟨r5, S4, hc, hf⟩ := oi_b hf
      refine k_i0 (S' := S4) (r := r5) w (runV (As := [.ref (x.2.2 (2 * i1)), .int r3]) (rest := []) (kb := 79) F w (k_X8_keepsTally l x S2 i1 r3 h1 hc H.size) cy_X8_keepsTally q315 q317 qp5 ⟨rfl, rfl⟩ ⟨Nat.le_of_ble_eq_true rfl, Nat.le_of_ble_eq_true rfl⟩ (by decide) rfl rfl rfl rfl hl.1 (Nat.le_of_ble_eq_true rfl) ⟨Nat.le_of_ble_eq_true rfl, Nat.le_of_ble_eq_true rfl⟩ dX8_countMultipliers_82) (fun H locs w => ?_)
      refine lv_if_eq (tgt := 101) F.1 F.2.1 dX8_countMultipliers_85 (by decide) (fun c6 => ?_) (fun c6 => ?_)
      · replace hf := oi_t hf c6
        exact b_X8_countMultipliers_101 F (f_X8_countMultipliers_57 n) ih _ _ _ _ w i1 a2 a3 h1 (lv_sub hl [1, 2, 3, 4] rfl) hf
      · replace hf := oi_f hf c6
        refine lv_aload_n F.1 F.2.1 dX8_countMultipliers_88 rfl (lv_at hl 1 rfl) ?_
        refine lv_aload_n F.1 F.2.1 dX8_countMultipliers_89 rfl (lv_at hl 2 rfl) ?_
        refine lv_iload F.1 F.2.1 dX8_countMultipliers_90 (lv_at hl 0 rfl) ?_
        obtain ⟨r8, S7, hc, hf⟩ := oi_b hf
        refine k_i0 (S' := S7) (r := r8) w (runV (As := [.ref (x.2.2 (2 * i1)), .int r3]) (rest := []) (kb := 79) F w (k_X8_turnsIntoShift l x S4 i1 r3 h1 hc H.size) cy_X8_turnsIntoShift q319 q321 qp6 ⟨rfl, rfl⟩ ⟨Nat.le_of_ble_eq_true rfl, Nat.le_of_ble_eq_true rfl⟩ (by decide) rfl rfl rfl rfl hl.1 (Nat.le_of_ble_eq_true rfl) ⟨Nat.le_of_ble_eq_true rfl, Nat.le_of_ble_eq_true rfl⟩ dX8_countMultipliers_92) (fun H locs w => ?_)
        refine lv_if_eq (tgt := 101) F.1 F.2.1 dX8_countMultipliers_95 (by decide) (fun c9 => ?_) (fun c9 => ?_)
        · replace hf := oi_t hf c9
          exact b_X8_countMultipliers_101 F (f_X8_countMultipliers_57 n) ih _ _ _ _ w i1 a2 a3 h1 (lv_sub hl [1, 2, 3, 4] rfl) hf
        · replace hf := oi_f hf c9
          obtain ⟨v10, e_v10⟩ : ∃ y : Int32, y = (a2 + 1) := ⟨_, rfl⟩
          replace hf := oi_l hf e_v10
          refine lv_iinc (v := v10) (lv' := [(2, .int v10), (4, .int r3), (0, .ref (x.2.2 (79))), (1, .ref (x.2.2 (2 * i1))), (3, .int a3)]) F.1 F.2.1 dX8_countMultipliers_98 hl (k := 3) rfl (by rw [e_v10]; rfl) (by decide) rfl (fun ls hl => ?_)
          exact b_X8_countMultipliers_101 F (f_X8_countMultipliers_57 n) ih _ _ _ _ w i1 v10 a3 h1 (lv_sub hl [2, 3, 0, 4] rfl) hf
def f_X8_countMultipliers_0 (S : ST) (i1 : Nat) : Option (Int32 × ST) := oV (f_X7_prepare S (fi S (30 + 0))) (fun (S1 : ST) => (if 2 ≤ (fi S1 i1) then oV (f_X5_countCyclic S1 i1 (fi S1 (30 + 0))) (fun (S3 : ST) => oV (f_X0_hold S3 0 i1) (fun (S4 : ST) => f_X8_countMultipliers_57 FU S4 i1 0 0)) else some ((fi S1 25), S1)))
set_option maxHeartbeats 4000000 in
set_option maxRecDepth 100000 in
theorem b_X8_countMultipliers_0 {p : Program} {l : Launch} {e : Env} {s : State} {m : MethodId} {args : Array Value} {below : List Frame} {meth : Method} {c : Code} {x : CX} {res : Int32 × ST} (F : MF p m meth c cX8_countMultipliers 5 s args RX8 (some .int)) : ∀ (H : Heap) (locs : List Loc) (ls : Array Slot) (S : ST), WD x s S H locs → ∀ (i1 : Nat), i1 < 22 → lv_has ls 5 [(0, .ref (x.2.2 (79))), (1, .ref (x.2.2 (2 * i1)))] → f_X8_countMultipliers_0 S i1 = some res → W p l e ({ frames := 3, cells := 0, slots := 0, locals := 69 } : Room) s m args below meth c H locs 0 0 (MQ below (QI x res.2 res.1 s.heap.size) args s 0 0 (AA x s.heap.size)) (F0 m 0 ls []) := by
  intro H locs ls S w i1 h1 hl hf
  unfold f_X8_countMultipliers_0 at hf
  refine lv_aload_n F.1 F.2.1 dX8_countMultipliers_0 rfl (lv_at hl 0 rfl) ?_
  refine g_RW_units F w q171 dX8_countMultipliers_1 ?_
  refine lv_aload_n F.1 F.2.1 dX8_countMultipliers_4 rfl (lv_at hl 0 rfl) ?_
  refine g_RW_now F w q162 dX8_countMultipliers_5 ?_
  refine gN_ST_modulus (i := 0) F w (by decide) (by simp [NF]) dX8_countMultipliers_8 ?_
  obtain ⟨S1, hc, hf⟩ := oi_v hf
  refine k_v0 (S' := S1) w (runV (As := [.int (fi S (30 + 0))]) (rest := []) (kb := 77) F w (k_X7_prepare l x S (fi S (30 + 0)) hc H.size) cy_X7_prepare q294 q295 q296 ⟨rfl, rfl⟩ ⟨Nat.le_of_ble_eq_true rfl, Nat.le_of_ble_eq_true rfl⟩ (by decide) rfl rfl rfl rfl hl.1 (Nat.le_of_ble_eq_true rfl) ⟨Nat.le_of_ble_eq_true rfl, Nat.le_of_ble_eq_true rfl⟩ dX8_countMultipliers_11) (fun H locs w => ?_)
  refine lv_aload_n F.1 F.2.1 dX8_countMultipliers_14 rfl (lv_at hl 1 rfl) ?_
  refine gN_MS_count (i := i1) F w h1 (by simp [NF]) dX8_countMultipliers_15 ?_
  refine lv_iconst (v := 2) F.1 F.2.1 dX8_countMultipliers_18 (by decide) ?_
  refine lv_icmp_ge (tgt := 30) F.1 F.2.1 dX8_countMultipliers_19 (by decide) (fun c2 => ?_) (fun c2 => ?_)
  · replace hf := oi_t hf c2
    refine lv_aload_n F.1 F.2.1 dX8_countMultipliers_30 rfl (lv_at hl 0 rfl) ?_
    refine g_RW_tally F w q170 dX8_countMultipliers_31 ?_
    refine lv_aload_n F.1 F.2.1 dX8_countMultipliers_34 rfl (lv_at hl 1 rfl) ?_
    refine lv_aload_n F.1 F.2.1 dX8_countMultipliers_35 rfl (lv_at hl 0 rfl) ?_
    refine g_RW_now F w q162 dX8_countMultipliers_36 ?_
    refine gN_ST_modulus (i := 0) F w (by decide) (by simp [NF]) dX8_countMultipliers_39 ?_
    obtain ⟨S3, hc, hf⟩ := oi_v hf
    refine k_v0 (S' := S3) w (runV (As := [.ref (x.2.2 (2 * i1)), .int (fi S1 (30 + 0))]) (rest := []) (kb := 75) F w (k_X5_countCyclic l x S1 i1 (fi S1 (30 + 0)) h1 hc H.size) cy_X5_countCyclic q265 q266 q267 ⟨rfl, rfl⟩ ⟨Nat.le_of_ble_eq_true rfl, Nat.le_of_ble_eq_true rfl⟩ (by decide) rfl rfl rfl rfl hl.1 (Nat.le_of_ble_eq_true rfl) ⟨Nat.le_of_ble_eq_true rfl, Nat.le_of_ble_eq_true rfl⟩ dX8_countMultipliers_42) (fun H locs w => ?_)
    refine lv_aload_n F.1 F.2.1 dX8_countMultipliers_45 rfl (lv_at hl 0 rfl) ?_
    refine g_RW_row F w q168 dX8_countMultipliers_46 ?_
    refine lv_aload_n F.1 F.2.1 dX8_countMultipliers_49 rfl (lv_at hl 1 rfl) ?_
    obtain ⟨S4, hc, hf⟩ := oi_v hf
    refine k_v0 (S' := S4) w (runV (As := [.ref (x.2.2 (2 * i1))]) (rest := []) (kb := 48 + 2 * 0) F w (k_X0_hold l x S3 0 i1 (by decide) h1 hc H.size) cy_X0_hold q304 q305 q306 ⟨rfl, rfl⟩ ⟨Nat.le_of_ble_eq_true rfl, Nat.le_of_ble_eq_true rfl⟩ (k_br (by decide)) (enc_br x S3 (by decide)) rfl rfl rfl hl.1 (Nat.le_of_ble_eq_true rfl) ⟨Nat.le_of_ble_eq_true rfl, Nat.le_of_ble_eq_true rfl⟩ dX8_countMultipliers_50) (fun H locs w => ?_)
    refine lv_iconst (v := 0) F.1 F.2.1 dX8_countMultipliers_53 (by decide) ?_
    refine lv_istore_n (lv' := [(2, .int 0), (0, .ref (x.2.2 (79))), (1, .ref (x.2.2 (2 * i1)))]) F.1 F.2.1 dX8_countMultipliers_54 rfl hl (by decide) rfl (fun ls hl => ?_)
    refine lv_iconst (v := 0) F.1 F.2.1 dX8_countMultipliers_55 (by decide) ?_
    refine lv_istore_n (lv' := [(3, .int 0), (2, .int 0), (0, .ref (x.2.2 (79))), (1, .ref (x.2.2 (2 * i1)))]) F.1 F.2.1 dX8_countMultipliers_56 rfl hl (by decide) rfl (fun ls hl => ?_)
    exact b_X8_countMultipliers_57 F FU _ _ _ _ w i1 0 0 h1 (lv_sub hl [2, 3, 1, 0] rfl) hf
  · replace hf := oi_f hf c2
    refine lv_aload_n F.1 F.2.1 dX8_countMultipliers_22 rfl (lv_at hl 0 rfl) ?_
    refine g_RW_units F w q171 dX8_countMultipliers_23 ?_
    refine gN_UN_count F w (by simp [NF]) dX8_countMultipliers_26 ?_
    exact r_iret F w (oi_s hf) dX8_countMultipliers_29
def f_X8_countMultipliers (S : ST) (i1 : Nat) : Option (Int32 × ST) := f_X8_countMultipliers_0 S i1
set_option maxHeartbeats 4000000 in
set_option maxRecDepth 100000 in
theorem k_X8_countMultipliers (l : Launch) (x : CX) (S : ST) (i1 : Nat) (h1 : i1 < 22) {res : Int32 × ST} (hf : f_X8_countMultipliers S i1 = some res) (sz : Nat) : Met l yX8_countMultipliers (Cond.code yX8_countMultipliers cX8_countMultipliers 5 (some .int) :: GW) ({ frames := 3, cells := 0, slots := 0, locals := 69 } : Room) (PC x S sz [.ref (x.2.2 (79)), .ref (x.2.2 (2 * i1))]) (QI x res.2 res.1 sz) 0 0 (AA x sz) := by
  refine Met.ofW (cc := cX8_countMultipliers) (maxL := 5) (ret := (some .int)) (by decide) rfl ?_
  intro p e s m args below meth c s₁ B hml hv
  obtain ⟨rfl, rfl, hPW⟩ := hv
  have F : MF p m meth c cX8_countMultipliers 5 s _ RX8 (some .int) := MF.of B hml
  have w := WD.of hPW
  have hl := lv_entry ([.ref (x.2.2 (79)), .ref (x.2.2 (2 * i1))]) (n := 5) (Nat.le_of_ble_eq_true rfl)
  rw [lg_entry_eq]
  generalize (lg_sl ([.ref (x.2.2 (79)), .ref (x.2.2 (2 * i1))]) ++ List.replicate (5 - (lg_sl ([.ref (x.2.2 (79)), .ref (x.2.2 (2 * i1))])).length) Slot.unset).toArray = ls at hl ⊢
  have hl : lv_has ls 5 [(0, .ref (x.2.2 (79))), (1, .ref (x.2.2 (2 * i1)))] := hl
  unfold f_X8_countMultipliers at hf
  exact b_X8_countMultipliers_0 F  _ _ _ _ w i1 h1 (lv_sub hl [0, 1] rfl) hf
theorem cy_X8_takeBest : CY yX8_takeBest RX8 cX8_takeBest 2 none 0 := ⟨q1, q693, rfl, by decide, by decide, by decide +kernel⟩
def f_X8_takeBest_80 (S : ST)  : Option (ST) := some S
set_option maxHeartbeats 4000000 in
set_option maxRecDepth 100000 in
theorem b_X8_takeBest_80 {p : Program} {l : Launch} {e : Env} {s : State} {m : MethodId} {args : Array Value} {below : List Frame} {meth : Method} {c : Code} {x : CX} {res : ST} (F : MF p m meth c cX8_takeBest 2 s args RX8 none) : ∀ (H : Heap) (locs : List Loc) (ls : Array Slot) (S : ST), WD x s S H locs → lv_has ls 2 [] → f_X8_takeBest_80 S = some res → W p l e ({ frames := 3, cells := 0, slots := 0, locals := 67 } : Room) s m args below meth c H locs 0 0 (MQ below (QV x res s.heap.size) args s 0 0 (AA x s.heap.size)) (F0 m 80 ls []) := by
  intro H locs ls S w hl hf
  unfold f_X8_takeBest_80 at hf
  exact r_vret F w (oi_s hf) dX8_takeBest_80
def f_X8_takeBest_0 (S : ST)  : Option (ST) := (if (fi S 23) = 0 then oB (f_X1_firstRotation S 22) (fun (r12 : Int32) (S11 : ST) => oV (f_X1_takeFrom S11 23 22 r12) (fun (S13 : ST) => f_X8_takeBest_80 S13)) else oB (f_X1_mayComeBefore S 22 23) (fun (r3 : Int32) (S2 : ST) => (if r3 = 0 then f_X8_takeBest_80 S2 else oB (f_X1_firstRotation S2 22) (fun (r6 : Int32) (S5 : ST) => oB (f_X1_comeBefore S5 22 r6 23) (fun (r8 : Int32) (S7 : ST) => (if r8 = 0 then f_X8_takeBest_80 S7 else oV (f_X1_takeFrom S7 23 22 r6) (fun (S10 : ST) => f_X8_takeBest_80 S10)))))))
set_option maxHeartbeats 4000000 in
set_option maxRecDepth 100000 in
theorem b_X8_takeBest_0 {p : Program} {l : Launch} {e : Env} {s : State} {m : MethodId} {args : Array Value} {below : List Frame} {meth : Method} {c : Code} {x : CX} {res : ST} (F : MF p m meth c cX8_takeBest 2 s args RX8 none) : ∀ (H : Heap) (locs : List Loc) (ls : Array Slot) (S : ST), WD x s S H locs → lv_has ls 2 [(0, .ref (x.2.2 (79)))] → f_X8_takeBest_0 S = some res → W p l e ({ frames := 3, cells := 0, slots := 0, locals := 67 } : Room) s m args below meth c H locs 0 0 (MQ below (QV x res s.heap.size) args s 0 0 (AA x s.heap.size)) (F0 m 0 ls []) := by
  intro H locs ls S w hl hf
  unfold f_X8_takeBest_0 at hf
  refine lv_aload_n F.1 F.2.1 dX8_takeBest_0 rfl (lv_at hl 0 rfl) ?_
  refine g_RW_best F w q167 dX8_takeBest_1 ?_
  refine gN_GP_count (i := 23) F w (by decide) (by simp [NF]) dX8_takeBest_4 ?_
  refine lv_if_ne (tgt := 31) F.1 F.2.1 dX8_takeBest_7 (by decide) (fun c1 => ?_) (fun c1 => ?_)
  · replace hf := oi_f hf c1
    refine lv_aload_n F.1 F.2.1 dX8_takeBest_31 rfl (lv_at hl 0 rfl) ?_
    refine g_RW_gaps F w q166 dX8_takeBest_32 ?_
    refine lv_aload_n F.1 F.2.1 dX8_takeBest_35 rfl (lv_at hl 0 rfl) ?_
    refine g_RW_best F w q167 dX8_takeBest_36 ?_
    obtain ⟨r3, S2, hc, hf⟩ := oi_b hf
    refine k_i0 (S' := S2) (r := r3) w (runV (As := [.ref (x.2.2 (2 * 23))]) (rest := []) (kb := 2 * 22) F w (k_X1_mayComeBefore l x S 22 23 (by decide) (by decide) hc H.size) cy_X1_mayComeBefore q711 q712 q713 ⟨rfl, rfl⟩ ⟨Nat.le_of_ble_eq_true rfl, Nat.le_of_ble_eq_true rfl⟩ (k_gp (by decide)) (enc_gp x S (by decide)) rfl rfl rfl hl.1 (Nat.le_of_ble_eq_true rfl) ⟨Nat.le_of_ble_eq_true rfl, Nat.le_of_ble_eq_true rfl⟩ dX8_takeBest_39) (fun H locs w => ?_)
    refine lv_if_eq (tgt := 80) F.1 F.2.1 dX8_takeBest_42 (by decide) (fun c4 => ?_) (fun c4 => ?_)
    · replace hf := oi_t hf c4
      exact b_X8_takeBest_80 F  _ _ _ _ w  (lv_sub hl [] rfl) hf
    · replace hf := oi_f hf c4
      refine lv_aload_n F.1 F.2.1 dX8_takeBest_45 rfl (lv_at hl 0 rfl) ?_
      refine g_RW_gaps F w q166 dX8_takeBest_46 ?_
      obtain ⟨r6, S5, hc, hf⟩ := oi_b hf
      refine k_i0 (S' := S5) (r := r6) w (runV (As := []) (rest := []) (kb := 2 * 22) F w (k_X1_firstRotation l x S2 22 (by decide) hc H.size) cy_X1_firstRotation q694 q695 q696 ⟨rfl, rfl⟩ ⟨Nat.le_of_ble_eq_true rfl, Nat.le_of_ble_eq_true rfl⟩ (k_gp (by decide)) (enc_gp x S2 (by decide)) rfl rfl rfl hl.1 (Nat.le_of_ble_eq_true rfl) ⟨Nat.le_of_ble_eq_true rfl, Nat.le_of_ble_eq_true rfl⟩ dX8_takeBest_49) (fun H locs w => ?_)
      refine lv_istore_n (lv' := [(1, .int r6), (0, .ref (x.2.2 (79)))]) F.1 F.2.1 dX8_takeBest_52 rfl hl (by decide) rfl (fun ls hl => ?_)
      refine lv_aload_n F.1 F.2.1 dX8_takeBest_53 rfl (lv_at hl 1 rfl) ?_
      refine g_RW_gaps F w q166 dX8_takeBest_54 ?_
      refine lv_iload_n F.1 F.2.1 dX8_takeBest_57 rfl (lv_at hl 0 rfl) ?_
      refine lv_aload_n F.1 F.2.1 dX8_takeBest_58 rfl (lv_at hl 1 rfl) ?_
      refine g_RW_best F w q167 dX8_takeBest_59 ?_
      obtain ⟨r8, S7, hc, hf⟩ := oi_b hf
      refine k_i0 (S' := S7) (r := r8) w (runV (As := [.int r6, .ref (x.2.2 (2 * 23))]) (rest := []) (kb := 2 * 22) F w (k_X1_comeBefore l x S5 22 r6 23 (by decide) (by decide) hc H.size) cy_X1_comeBefore q715 q716 q717 ⟨rfl, rfl⟩ ⟨Nat.le_of_ble_eq_true rfl, Nat.le_of_ble_eq_true rfl⟩ (k_gp (by decide)) (enc_gp x S5 (by decide)) rfl rfl rfl hl.1 (Nat.le_of_ble_eq_true rfl) ⟨Nat.le_of_ble_eq_true rfl, Nat.le_of_ble_eq_true rfl⟩ dX8_takeBest_62) (fun H locs w => ?_)
      refine lv_if_eq (tgt := 80) F.1 F.2.1 dX8_takeBest_65 (by decide) (fun c9 => ?_) (fun c9 => ?_)
      · replace hf := oi_t hf c9
        exact b_X8_takeBest_80 F  _ _ _ _ w  (lv_sub hl [] rfl) hf
      · replace hf := oi_f hf c9
        refine lv_aload_n F.1 F.2.1 dX8_takeBest_68 rfl (lv_at hl 1 rfl) ?_
        refine g_RW_best F w q167 dX8_takeBest_69 ?_
        refine lv_aload_n F.1 F.2.1 dX8_takeBest_72 rfl (lv_at hl 1 rfl) ?_
        refine g_RW_gaps F w q166 dX8_takeBest_73 ?_
        refine lv_iload_n F.1 F.2.1 dX8_takeBest_76 rfl (lv_at hl 0 rfl) ?_
        obtain ⟨S10, hc, hf⟩ := oi_v hf
        refine k_v0 (S' := S10) w (runV (As := [.ref (x.2.2 (2 * 22)), .int r6]) (rest := []) (kb := 2 * 23) F w (k_X1_takeFrom l x S7 23 22 r6 (by decide) (by decide) hc H.size) cy_X1_takeFrom q707 q708 q709 ⟨rfl, rfl⟩ ⟨Nat.le_of_ble_eq_true rfl, Nat.le_of_ble_eq_true rfl⟩ (k_gp (by decide)) (enc_gp x S7 (by decide)) rfl rfl rfl hl.1 (Nat.le_of_ble_eq_true rfl) ⟨Nat.le_of_ble_eq_true rfl, Nat.le_of_ble_eq_true rfl⟩ dX8_takeBest_77) (fun H locs w => ?_)
        exact b_X8_takeBest_80 F  _ _ _ _ w  (lv_sub hl [] rfl) hf
  · replace hf := oi_t hf c1
    refine lv_aload_n F.1 F.2.1 dX8_takeBest_10 rfl (lv_at hl 0 rfl) ?_
    refine g_RW_best F w q167 dX8_takeBest_11 ?_
    refine lv_aload_n F.1 F.2.1 dX8_takeBest_14 rfl (lv_at hl 0 rfl) ?_
    refine g_RW_gaps F w q166 dX8_takeBest_15 ?_
    refine lv_aload_n F.1 F.2.1 dX8_takeBest_18 rfl (lv_at hl 0 rfl) ?_
    refine g_RW_gaps F w q166 dX8_takeBest_19 ?_
    obtain ⟨r12, S11, hc, hf⟩ := oi_b hf
    refine k_i0 (S' := S11) (r := r12) w (runV (As := []) (rest := [.ref (x.2.2 (2 * 22)), .ref (x.2.2 (2 * 23))]) (kb := 2 * 22) F w (k_X1_firstRotation l x S 22 (by decide) hc H.size) cy_X1_firstRotation q694 q695 q696 ⟨rfl, rfl⟩ ⟨Nat.le_of_ble_eq_true rfl, Nat.le_of_ble_eq_true rfl⟩ (k_gp (by decide)) (enc_gp x S (by decide)) rfl rfl rfl hl.1 (Nat.le_of_ble_eq_true rfl) ⟨Nat.le_of_ble_eq_true rfl, Nat.le_of_ble_eq_true rfl⟩ dX8_takeBest_22) (fun H locs w => ?_)
    obtain ⟨S13, hc, hf⟩ := oi_v hf
    refine k_v0 (S' := S13) w (runV (As := [.ref (x.2.2 (2 * 22)), .int r12]) (rest := []) (kb := 2 * 23) F w (k_X1_takeFrom l x S11 23 22 r12 (by decide) (by decide) hc H.size) cy_X1_takeFrom q707 q708 q709 ⟨rfl, rfl⟩ ⟨Nat.le_of_ble_eq_true rfl, Nat.le_of_ble_eq_true rfl⟩ (k_gp (by decide)) (enc_gp x S11 (by decide)) rfl rfl rfl hl.1 (Nat.le_of_ble_eq_true rfl) ⟨Nat.le_of_ble_eq_true rfl, Nat.le_of_ble_eq_true rfl⟩ dX8_takeBest_25) (fun H locs w => ?_)
    refine lv_goto (tgt := 80) F.1 F.2.1 dX8_takeBest_28 (by decide) ?_
    exact b_X8_takeBest_80 F  _ _ _ _ w  (lv_sub hl [] rfl) hf
def f_X8_takeBest (S : ST)  : Option (ST) := f_X8_takeBest_0 S
set_option maxHeartbeats 4000000 in
set_option maxRecDepth 100000 in
theorem k_X8_takeBest (l : Launch) (x : CX) (S : ST)  {res : ST} (hf : f_X8_takeBest S  = some res) (sz : Nat) : Met l yX8_takeBest (Cond.code yX8_takeBest cX8_takeBest 2 none :: GW) ({ frames := 3, cells := 0, slots := 0, locals := 67 } : Room) (PC x S sz [.ref (x.2.2 (79))]) (QV x res sz) 0 0 (AA x sz) := by
  refine Met.ofW (cc := cX8_takeBest) (maxL := 2) (ret := none) (by decide) rfl ?_
  intro p e s m args below meth c s₁ B hml hv
  obtain ⟨rfl, rfl, hPW⟩ := hv
  have F : MF p m meth c cX8_takeBest 2 s _ RX8 none := MF.of B hml
  have w := WD.of hPW
  have hl := lv_entry ([.ref (x.2.2 (79))]) (n := 2) (Nat.le_of_ble_eq_true rfl)
  rw [lg_entry_eq]
  generalize (lg_sl ([.ref (x.2.2 (79))]) ++ List.replicate (2 - (lg_sl ([.ref (x.2.2 (79))])).length) Slot.unset).toArray = ls at hl ⊢
  have hl : lv_has ls 2 [(0, .ref (x.2.2 (79)))] := hl
  unfold f_X8_takeBest at hf
  exact b_X8_takeBest_0 F  _ _ _ _ w  (lv_sub hl [0] rfl) hf
theorem cy_X8_makeCanonical : CY yX8_makeCanonical RX8 cX8_makeCanonical 4 none 1 := ⟨q1, q679, rfl, by decide, by decide, by decide +kernel⟩
def f_X8_makeCanonical_101 (k24 : ST → Nat → Int32 → Option (ST)) (S : ST) (i1 : Nat) (a2 : Int32) : Option (ST) := oL (a2 + 1) (fun (v1 : Int32) => k24 S i1 v1)
set_option maxHeartbeats 4000000 in
set_option maxRecDepth 100000 in
theorem b_X8_makeCanonical_101 {p : Program} {l : Launch} {e : Env} {s : State} {m : MethodId} {args : Array Value} {below : List Frame} {meth : Method} {c : Code} {x : CX} {res : ST} (F : MF p m meth c cX8_makeCanonical 4 s args RX8 none) (k24 : ST → Nat → Int32 → Option (ST)) (hk24 : ∀ (H : Heap) (locs : List Loc) (ls : Array Slot) (S : ST), WD x s S H locs → ∀ (i1 : Nat) (a2 : Int32), i1 < 22 → lv_has ls 4 [(0, .ref (x.2.2 (79))), (1, .ref (x.2.2 (2 * i1))), (2, .int a2)] → k24 S i1 a2 = some res → W p l e ({ frames := 4, cells := 0, slots := 0, locals := 93 } : Room) s m args below meth c H locs 0 0 (MQ below (QV x res s.heap.size) args s 0 0 (AA x s.heap.size)) (F0 m 24 ls [])) : ∀ (H : Heap) (locs : List Loc) (ls : Array Slot) (S : ST), WD x s S H locs → ∀ (i1 : Nat) (a2 : Int32), i1 < 22 → lv_has ls 4 [(0, .ref (x.2.2 (79))), (1, .ref (x.2.2 (2 * i1))), (2, .int a2)] → f_X8_makeCanonical_101 k24 S i1 a2 = some res → W p l e ({ frames := 4, cells := 0, slots := 0, locals := 93 } : Room) s m args below meth c H locs 0 0 (MQ below (QV x res s.heap.size) args s 0 0 (AA x s.heap.size)) (F0 m 101 ls []) := by
  intro H locs ls S w i1 a2 h1 hl hf
  unfold f_X8_makeCanonical_101 at hf
  obtain ⟨v1, e_v1⟩ : ∃ y : Int32, y = (a2 + 1) := ⟨_, rfl⟩
  replace hf := oi_l hf e_v1
  refine lv_iinc (v := v1) (lv' := [(2, .int v1), (0, .ref (x.2.2 (79))), (1, .ref (x.2.2 (2 * i1)))]) F.1 F.2.1 dX8_makeCanonical_101 hl (k := 2) rfl (by rw [e_v1]; rfl) (by decide) rfl (fun ls hl => ?_)
  refine lv_goto (tgt := 24) F.1 F.2.1 dX8_makeCanonical_104 (by decide) ?_
  exact hk24 _ _ _ _ w i1 v1 h1 (lv_sub hl [1, 2, 0] rfl) hf
def f_X8_makeCanonical_24 : Nat → ST → Nat → Int32 → Option (ST)
  | 0, _, _, _ => none
  | n + 1, S, i1, a2 => (if (fi S 25) ≤ a2 then oV (f_X1_spillInto S 23 20) (fun (S2 : ST) => some S2) else oB (f_X7_at S a2) (fun (r4 : Int32) (S3 : ST) => (if ((fi S3 (30 + 0)) - r4) < r4 then f_X8_makeCanonical_101 (f_X8_makeCanonical_24 n) S3 i1 a2 else oV (f_X8_turn S3 i1 r4 0 21) (fun (S6 : ST) => oV (f_X1_measure S6 22 21 (fi S6 (30 + 0))) (fun (S7 : ST) => oV (f_X8_takeBest S7) (fun (S8 : ST) => oV (f_X1_reverse S8 22) (fun (S9 : ST) => oV (f_X8_takeBest S9) (fun (S10 : ST) => f_X8_makeCanonical_101 (f_X8_makeCanonical_24 n) S10 i1 a2))))))))
set_option maxHeartbeats 4000000 in
set_option maxRecDepth 100000 in
theorem b_X8_makeCanonical_24 {p : Program} {l : Launch} {e : Env} {s : State} {m : MethodId} {args : Array Value} {below : List Frame} {meth : Method} {c : Code} {x : CX} {res : ST} (F : MF p m meth c cX8_makeCanonical 4 s args RX8 none) : ∀ (n : Nat), ∀ (H : Heap) (locs : List Loc) (ls : Array Slot) (S : ST), WD x s S H locs → ∀ (i1 : Nat) (a2 : Int32), i1 < 22 → lv_has ls 4 [(0, .ref (x.2.2 (79))), (1, .ref (x.2.2 (2 * i1))), (2, .int a2)] → f_X8_makeCanonical_24 n S i1 a2 = some res → W p l e ({ frames := 4, cells := 0, slots := 0, locals := 93 } : Room) s m args below meth c H locs 0 0 (MQ below (QV x res s.heap.size) args s 0 0 (AA x s.heap.size)) (F0 m 24 ls []) := by
  intro n
  induction n with
  | zero =>
    intro H locs ls S w i1 a2 h1 hl hf
    have hf : (none : Option (ST)) = some res := hf
    cases hf
  | succ n ih =>
    intro H locs ls S w i1 a2 h1 hl hf
    unfold f_X8_makeCanonical_24 at hf
    refine lv_iload_n F.1 F.2.1 dX8_makeCanonical_24 rfl (lv_at hl 2 rfl) ?_
    refine lv_aload_n F.1 F.2.1 dX8_makeCanonical_25 rfl (lv_at hl 0 rfl) ?_
    refine g_RW_units F w q171 dX8_makeCanonical_26 ?_
    refine gN_UN_count F w (by simp [NF]) dX8_makeCanonical_29 ?_
    refine lv_icmp_ge (tgt := 107) F.1 F.2.1 dX8_makeCanonical_32 (by decide) (fun c1 => ?_) (fun c1 => ?_)
    · replace hf := oi_t hf c1
      refine lv_aload_n F.1 F.2.1 dX8_makeCanonical_107 rfl (lv_at hl 0 rfl) ?_
      refine g_RW_best F w q167 dX8_makeCanonical_108 ?_
      refine lv_aload_n F.1 F.2.1 dX8_makeCanonical_111 rfl (lv_at hl 0 rfl) ?_
      refine g_RW_made F w q164 dX8_makeCanonical_112 ?_
      obtain ⟨S2, hc, hf⟩ := oi_v hf
      refine k_v0 (S' := S2) w (runV (As := [.ref (x.2.2 (2 * 20))]) (rest := []) (kb := 2 * 23) F w (k_X1_spillInto l x S 23 20 (by decide) (by decide) hc H.size) cy_X1_spillInto q723 q724 q725 ⟨rfl, rfl⟩ ⟨Nat.le_of_ble_eq_true rfl, Nat.le_of_ble_eq_true rfl⟩ (k_gp (by decide)) (enc_gp x S (by decide)) rfl rfl rfl hl.1 (Nat.le_of_ble_eq_true rfl) ⟨Nat.le_of_ble_eq_true rfl, Nat.le_of_ble_eq_true rfl⟩ dX8_makeCanonical_115) (fun H locs w => ?_)
      exact r_vret F w (oi_s hf) dX8_makeCanonical_118
    · replace hf := oi_f hf c1
      refine lv_aload_n F.1 F.2.1 dX8_makeCanonical_35 rfl (lv_at hl 0 rfl) ?_
      refine g_RW_units F w q171 dX8_makeCanonical_36 ?_
      refine lv_iload_n F.1 F.2.1 dX8_makeCanonical_39 rfl (lv_at hl 2 rfl) ?_
      obtain ⟨r4, S3, hc, hf⟩ := oi_b hf
      refine k_i0 (S' := S3) (r := r4) w (runV (As := [.int a2]) (rest := []) (kb := 77) F w (k_X7_at l x S a2 hc H.size) cy_X7_at q311 q312 q313 ⟨rfl, rfl⟩ ⟨Nat.le_of_ble_eq_true rfl, Nat.le_of_ble_eq_true rfl⟩ (by decide) rfl rfl rfl rfl hl.1 (Nat.le_of_ble_eq_true rfl) ⟨Nat.le_of_ble_eq_true rfl, Nat.le_of_ble_eq_true rfl⟩ dX8_makeCanonical_40) (fun H locs w => ?_)
      refine lv_istore_n (lv' := [(3, .int r4), (0, .ref (x.2.2 (79))), (1, .ref (x.2.2 (2 * i1))), (2, .int a2)]) F.1 F.2.1 dX8_makeCanonical_43 rfl hl (by decide) rfl (fun ls hl => ?_)
      refine lv_iload_n F.1 F.2.1 dX8_makeCanonical_44 rfl (lv_at hl 0 rfl) ?_
      refine lv_aload_n F.1 F.2.1 dX8_makeCanonical_45 rfl (lv_at hl 1 rfl) ?_
      refine g_RW_now F w q162 dX8_makeCanonical_46 ?_
      refine gN_ST_modulus (i := 0) F w (by decide) (by simp [NF]) dX8_makeCanonical_49 ?_
      refine lv_iload_n F.1 F.2.1 dX8_makeCanonical_52 rfl (lv_at hl 0 rfl) ?_
      refine lv_isub F.1 F.2.1 dX8_makeCanonical_53 ?_
      refine lv_icmp_gt (tgt := 101) F.1 F.2.1 dX8_makeCanonical_54 (by decide) (fun c5 => ?_) (fun c5 => ?_)
      · replace hf := oi_t hf c5
        exact b_X8_makeCanonical_101 F (f_X8_makeCanonical_24 n) ih _ _ _ _ w i1 a2 h1 (lv_sub hl [1, 2, 3] rfl) hf
      · replace hf := oi_f hf c5
        refine lv_aload_n F.1 F.2.1 dX8_makeCanonical_57 rfl (lv_at hl 1 rfl) ?_
        refine lv_aload_n F.1 F.2.1 dX8_makeCanonical_58 rfl (lv_at hl 2 rfl) ?_
        refine lv_iload_n F.1 F.2.1 dX8_makeCanonical_59 rfl (lv_at hl 0 rfl) ?_
        refine lv_iconst (v := 0) F.1 F.2.1 dX8_makeCanonical_60 (by decide) ?_
        refine lv_aload_n F.1 F.2.1 dX8_makeCanonical_61 rfl (lv_at hl 1 rfl) ?_
        refine g_RW_turned F w q165 dX8_makeCanonical_62 ?_
        obtain ⟨S6, hc, hf⟩ := oi_v hf
        refine k_v0 (S' := S6) w (runV (As := [.ref (x.2.2 (2 * i1)), .int r4, .int 0, .ref (x.2.2 (2 * 21))]) (rest := []) (kb := 79) F w (k_X8_turn l x S3 i1 r4 0 21 h1 (by decide) hc H.size) cy_X8_turn q626 q628 qp12 ⟨rfl, rfl⟩ ⟨Nat.le_of_ble_eq_true rfl, Nat.le_of_ble_eq_true rfl⟩ (by decide) rfl rfl rfl rfl hl.1 (Nat.le_of_ble_eq_true rfl) ⟨Nat.le_of_ble_eq_true rfl, Nat.le_of_ble_eq_true rfl⟩ dX8_makeCanonical_65) (fun H locs w => ?_)
        refine lv_aload_n F.1 F.2.1 dX8_makeCanonical_68 rfl (lv_at hl 1 rfl) ?_
        refine g_RW_gaps F w q166 dX8_makeCanonical_69 ?_
        refine lv_aload_n F.1 F.2.1 dX8_makeCanonical_72 rfl (lv_at hl 1 rfl) ?_
        refine g_RW_turned F w q165 dX8_makeCanonical_73 ?_
        refine lv_aload_n F.1 F.2.1 dX8_makeCanonical_76 rfl (lv_at hl 1 rfl) ?_
        refine g_RW_now F w q162 dX8_makeCanonical_77 ?_
        refine gN_ST_modulus (i := 0) F w (by decide) (by simp [NF]) dX8_makeCanonical_80 ?_
        obtain ⟨S7, hc, hf⟩ := oi_v hf
        refine k_v0 (S' := S7) w (runV (As := [.ref (x.2.2 (2 * 21)), .int (fi S6 (30 + 0))]) (rest := []) (kb := 2 * 22) F w (k_X1_measure l x S6 22 21 (fi S6 (30 + 0)) (by decide) (by decide) hc H.size) cy_X1_measure q680 q681 q682 ⟨rfl, rfl⟩ ⟨Nat.le_of_ble_eq_true rfl, Nat.le_of_ble_eq_true rfl⟩ (k_gp (by decide)) (enc_gp x S6 (by decide)) rfl rfl rfl hl.1 (Nat.le_of_ble_eq_true rfl) ⟨Nat.le_of_ble_eq_true rfl, Nat.le_of_ble_eq_true rfl⟩ dX8_makeCanonical_83) (fun H locs w => ?_)
        refine lv_aload_n F.1 F.2.1 dX8_makeCanonical_86 rfl (lv_at hl 1 rfl) ?_
        obtain ⟨S8, hc, hf⟩ := oi_v hf
        refine k_v0 (S' := S8) w (runV (As := []) (rest := []) (kb := 79) F w (k_X8_takeBest l x S7 hc H.size) cy_X8_takeBest q690 q692 qp14 ⟨rfl, rfl⟩ ⟨Nat.le_of_ble_eq_true rfl, Nat.le_of_ble_eq_true rfl⟩ (by decide) rfl rfl rfl rfl hl.1 (Nat.le_of_ble_eq_true rfl) ⟨Nat.le_of_ble_eq_true rfl, Nat.le_of_ble_eq_true rfl⟩ dX8_makeCanonical_87) (fun H locs w => ?_)
        refine lv_aload_n F.1 F.2.1 dX8_makeCanonical_90 rfl (lv_at hl 1 rfl) ?_
        refine g_RW_gaps F w q166 dX8_makeCanonical_91 ?_
        obtain ⟨S9, hc, hf⟩ := oi_v hf
        refine k_v0 (S' := S9) w (runV (As := []) (rest := []) (kb := 2 * 22) F w (k_X1_reverse l x S8 22 (by decide) hc H.size) cy_X1_reverse q719 q720 q721 ⟨rfl, rfl⟩ ⟨Nat.le_of_ble_eq_true rfl, Nat.le_of_ble_eq_true rfl⟩ (k_gp (by decide)) (enc_gp x S8 (by decide)) rfl rfl rfl hl.1 (Nat.le_of_ble_eq_true rfl) ⟨Nat.le_of_ble_eq_true rfl, Nat.le_of_ble_eq_true rfl⟩ dX8_makeCanonical_94) (fun H locs w => ?_)
        refine lv_aload_n F.1 F.2.1 dX8_makeCanonical_97 rfl (lv_at hl 1 rfl) ?_
        obtain ⟨S10, hc, hf⟩ := oi_v hf
        refine k_v0 (S' := S10) w (runV (As := []) (rest := []) (kb := 79) F w (k_X8_takeBest l x S9 hc H.size) cy_X8_takeBest q690 q692 qp14 ⟨rfl, rfl⟩ ⟨Nat.le_of_ble_eq_true rfl, Nat.le_of_ble_eq_true rfl⟩ (by decide) rfl rfl rfl rfl hl.1 (Nat.le_of_ble_eq_true rfl) ⟨Nat.le_of_ble_eq_true rfl, Nat.le_of_ble_eq_true rfl⟩ dX8_makeCanonical_98) (fun H locs w => ?_)
        exact b_X8_makeCanonical_101 F (f_X8_makeCanonical_24 n) ih _ _ _ _ w i1 a2 h1 (lv_sub hl [1, 2, 3] rfl) hf
def f_X8_makeCanonical_0 (S : ST) (i1 : Nat) : Option (ST) := oV (f_X7_prepare S (fi S (30 + 0))) (fun (S1 : ST) => oL (sI S1 23 0) (fun (S2 : ST) => f_X8_makeCanonical_24 FU S2 i1 0))
set_option maxHeartbeats 4000000 in
set_option maxRecDepth 100000 in
theorem b_X8_makeCanonical_0 {p : Program} {l : Launch} {e : Env} {s : State} {m : MethodId} {args : Array Value} {below : List Frame} {meth : Method} {c : Code} {x : CX} {res : ST} (F : MF p m meth c cX8_makeCanonical 4 s args RX8 none) : ∀ (H : Heap) (locs : List Loc) (ls : Array Slot) (S : ST), WD x s S H locs → ∀ (i1 : Nat), i1 < 22 → lv_has ls 4 [(0, .ref (x.2.2 (79))), (1, .ref (x.2.2 (2 * i1)))] → f_X8_makeCanonical_0 S i1 = some res → W p l e ({ frames := 4, cells := 0, slots := 0, locals := 93 } : Room) s m args below meth c H locs 0 0 (MQ below (QV x res s.heap.size) args s 0 0 (AA x s.heap.size)) (F0 m 0 ls []) := by
  intro H locs ls S w i1 h1 hl hf
  unfold f_X8_makeCanonical_0 at hf
  refine lv_aload_n F.1 F.2.1 dX8_makeCanonical_0 rfl (lv_at hl 0 rfl) ?_
  refine g_RW_units F w q171 dX8_makeCanonical_1 ?_
  refine lv_aload_n F.1 F.2.1 dX8_makeCanonical_4 rfl (lv_at hl 0 rfl) ?_
  refine g_RW_now F w q162 dX8_makeCanonical_5 ?_
  refine gN_ST_modulus (i := 0) F w (by decide) (by simp [NF]) dX8_makeCanonical_8 ?_
  obtain ⟨S1, hc, hf⟩ := oi_v hf
  refine k_v0 (S' := S1) w (runV (As := [.int (fi S (30 + 0))]) (rest := []) (kb := 77) F w (k_X7_prepare l x S (fi S (30 + 0)) hc H.size) cy_X7_prepare q294 q295 q296 ⟨rfl, rfl⟩ ⟨Nat.le_of_ble_eq_true rfl, Nat.le_of_ble_eq_true rfl⟩ (by decide) rfl rfl rfl rfl hl.1 (Nat.le_of_ble_eq_true rfl) ⟨Nat.le_of_ble_eq_true rfl, Nat.le_of_ble_eq_true rfl⟩ dX8_makeCanonical_11) (fun H locs w => ?_)
  refine lv_aload_n F.1 F.2.1 dX8_makeCanonical_14 rfl (lv_at hl 0 rfl) ?_
  refine g_RW_best F w q167 dX8_makeCanonical_15 ?_
  refine lv_iconst (v := 0) F.1 F.2.1 dX8_makeCanonical_18 (by decide) ?_
  refine pN_GP_count (i := 23) F w (by decide) (by simp [NF]) dX8_makeCanonical_19 (fun H locs w => ?_)
  obtain ⟨S2, e_S2⟩ : ∃ y : ST, y = sI S1 23 0 := ⟨_, rfl⟩
  replace w : WD x s S2 H locs := by rw [e_S2]; exact w
  replace hf := oi_l hf e_S2
  refine lv_iconst (v := 0) F.1 F.2.1 dX8_makeCanonical_22 (by decide) ?_
  refine lv_istore_n (lv' := [(2, .int 0), (0, .ref (x.2.2 (79))), (1, .ref (x.2.2 (2 * i1)))]) F.1 F.2.1 dX8_makeCanonical_23 rfl hl (by decide) rfl (fun ls hl => ?_)
  exact b_X8_makeCanonical_24 F FU _ _ _ _ w i1 0 h1 (lv_sub hl [1, 2, 0] rfl) hf
def f_X8_makeCanonical (S : ST) (i1 : Nat) : Option (ST) := f_X8_makeCanonical_0 S i1
set_option maxHeartbeats 4000000 in
set_option maxRecDepth 100000 in
theorem k_X8_makeCanonical (l : Launch) (x : CX) (S : ST) (i1 : Nat) (h1 : i1 < 22) {res : ST} (hf : f_X8_makeCanonical S i1 = some res) (sz : Nat) : Met l yX8_makeCanonical (Cond.code yX8_makeCanonical cX8_makeCanonical 4 none :: GW) ({ frames := 4, cells := 0, slots := 0, locals := 93 } : Room) (PC x S sz [.ref (x.2.2 (79)), .ref (x.2.2 (2 * i1))]) (QV x res sz) 0 0 (AA x sz) := by
  refine Met.ofW (cc := cX8_makeCanonical) (maxL := 4) (ret := none) (by decide) rfl ?_
  intro p e s m args below meth c s₁ B hml hv
  obtain ⟨rfl, rfl, hPW⟩ := hv
  have F : MF p m meth c cX8_makeCanonical 4 s _ RX8 none := MF.of B hml
  have w := WD.of hPW
  have hl := lv_entry ([.ref (x.2.2 (79)), .ref (x.2.2 (2 * i1))]) (n := 4) (Nat.le_of_ble_eq_true rfl)
  rw [lg_entry_eq]
  generalize (lg_sl ([.ref (x.2.2 (79)), .ref (x.2.2 (2 * i1))]) ++ List.replicate (4 - (lg_sl ([.ref (x.2.2 (79)), .ref (x.2.2 (2 * i1))])).length) Slot.unset).toArray = ls at hl ⊢
  have hl : lv_has ls 4 [(0, .ref (x.2.2 (79))), (1, .ref (x.2.2 (2 * i1)))] := hl
  unfold f_X8_makeCanonical at hf
  exact b_X8_makeCanonical_0 F  _ _ _ _ w i1 h1 (lv_sub hl [0, 1] rfl) hf
theorem cy_X8_isPrime : CY yX8_isPrime RX8 cX8_isPrime 2 (some .boolean) 1 := ⟨q1, q741, rfl, by decide, by decide, by decide +kernel⟩
def f_X8_isPrime_33 (S : ST) (as0 : Int32) : Option (Int32 × ST) := oG (isB as0) (some (as0, S))
set_option maxHeartbeats 4000000 in
set_option maxRecDepth 100000 in
theorem b_X8_isPrime_33 {p : Program} {l : Launch} {e : Env} {s : State} {m : MethodId} {args : Array Value} {below : List Frame} {meth : Method} {c : Code} {x : CX} {res : Int32 × ST} (F : MF p m meth c cX8_isPrime 2 s args RX8 (some .boolean)) : ∀ (H : Heap) (locs : List Loc) (ls : Array Slot) (S : ST), WD x s S H locs → ∀ (as0 : Int32), lv_has ls 2 [] → f_X8_isPrime_33 S as0 = some res → W p l e ({ frames := 1, cells := 0, slots := 0, locals := 22 } : Room) s m args below meth c H locs 0 0 (MQ below (QI x res.2 res.1 s.heap.size) args s 0 0 (AA x s.heap.size)) (F0 m 33 ls [.int as0]) := by
  intro H locs ls S w as0 hl hf
  unfold f_X8_isPrime_33 at hf
  obtain ⟨hz1, hf⟩ := oi_g hf
  exact r_zret F w (isB_nar hz1) (oi_s hf) dX8_isPrime_33
def f_X8_isPrime_2 : Nat → ST → Int32 → Int32 → Option (Int32 × ST)
  | 0, _, _, _ => none
  | n + 1, S, a0, a1 => (if a0 ≤ a1 then (if a0 ≤ 1 then f_X8_isPrime_33 S 0 else f_X8_isPrime_33 S 1) else oB (f_X8_residue S a0 a1) (fun (r4 : Int32) (S3 : ST) => (if r4 = 0 then some (0, S3) else oL (a1 + 1) (fun (v6 : Int32) => (f_X8_isPrime_2 n) S3 a0 v6))))
set_option maxHeartbeats 4000000 in
set_option maxRecDepth 100000 in
theorem b_X8_isPrime_2 {p : Program} {l : Launch} {e : Env} {s : State} {m : MethodId} {args : Array Value} {below : List Frame} {meth : Method} {c : Code} {x : CX} {res : Int32 × ST} (F : MF p m meth c cX8_isPrime 2 s args RX8 (some .boolean)) : ∀ (n : Nat), ∀ (H : Heap) (locs : List Loc) (ls : Array Slot) (S : ST), WD x s S H locs → ∀ (a0 : Int32) (a1 : Int32), lv_has ls 2 [(0, .int a0), (1, .int a1)] → f_X8_isPrime_2 n S a0 a1 = some res → W p l e ({ frames := 1, cells := 0, slots := 0, locals := 22 } : Room) s m args below meth c H locs 0 0 (MQ below (QI x res.2 res.1 s.heap.size) args s 0 0 (AA x s.heap.size)) (F0 m 2 ls []) := by
  intro n
  induction n with
  | zero =>
    intro H locs ls S w a0 a1 hl hf
    have hf : (none : Option (Int32 × ST)) = some res := hf
    cases hf
  | succ n ih =>
    intro H locs ls S w a0 a1 hl hf
    unfold f_X8_isPrime_2 at hf
    refine lv_iload_n F.1 F.2.1 dX8_isPrime_2 rfl (lv_at hl 1 rfl) ?_
    refine lv_iload_n F.1 F.2.1 dX8_isPrime_3 rfl (lv_at hl 0 rfl) ?_
    refine lv_icmp_ge (tgt := 23) F.1 F.2.1 dX8_isPrime_4 (by decide) (fun c1 => ?_) (fun c1 => ?_)
    · replace hf := oi_t hf c1
      refine lv_iload_n F.1 F.2.1 dX8_isPrime_23 rfl (lv_at hl 0 rfl) ?_
      refine lv_iconst (v := 1) F.1 F.2.1 dX8_isPrime_24 (by decide) ?_
      refine lv_icmp_le (tgt := 32) F.1 F.2.1 dX8_isPrime_25 (by decide) (fun c2 => ?_) (fun c2 => ?_)
      · replace hf := oi_t hf c2
        refine lv_iconst (v := 0) F.1 F.2.1 dX8_isPrime_32 (by decide) ?_
        exact b_X8_isPrime_33 F  _ _ _ _ w 0 (lv_sub hl [] rfl) hf
      · replace hf := oi_f hf c2
        refine lv_iconst (v := 1) F.1 F.2.1 dX8_isPrime_28 (by decide) ?_
        refine lv_goto (tgt := 33) F.1 F.2.1 dX8_isPrime_29 (by decide) ?_
        exact b_X8_isPrime_33 F  _ _ _ _ w 1 (lv_sub hl [] rfl) hf
    · replace hf := oi_f hf c1
      refine lv_iload_n F.1 F.2.1 dX8_isPrime_7 rfl (lv_at hl 0 rfl) ?_
      refine lv_iload_n F.1 F.2.1 dX8_isPrime_8 rfl (lv_at hl 1 rfl) ?_
      obtain ⟨r4, S3, hc, hf⟩ := oi_b hf
      refine k_i0 (S' := S3) (r := r4) w (runS (As := [.int a0, .int a1]) (rest := []) F w (k_X8_residue l x S a0 a1 hc H.size) cy_X8_residue q301 q302 ⟨rfl, rfl⟩ ⟨Nat.le_of_ble_eq_true rfl, Nat.le_of_ble_eq_true rfl⟩ rfl rfl hl.1 (Nat.le_of_ble_eq_true rfl) ⟨Nat.le_of_ble_eq_true rfl, Nat.le_of_ble_eq_true rfl⟩ dX8_isPrime_9) (fun H locs w => ?_)
      refine lv_if_ne (tgt := 17) F.1 F.2.1 dX8_isPrime_12 (by decide) (fun c5 => ?_) (fun c5 => ?_)
      · replace hf := oi_f hf c5
        obtain ⟨v6, e_v6⟩ : ∃ y : Int32, y = (a1 + 1) := ⟨_, rfl⟩
        replace hf := oi_l hf e_v6
        refine lv_iinc (v := v6) (lv' := [(1, .int v6), (0, .int a0)]) F.1 F.2.1 dX8_isPrime_17 hl (k := 1) rfl (by rw [e_v6]; rfl) (by decide) rfl (fun ls hl => ?_)
        refine lv_goto (tgt := 2) F.1 F.2.1 dX8_isPrime_20 (by decide) ?_
        exact ih _ _ _ _ w a0 v6 (lv_sub hl [1, 0] rfl) hf
      · replace hf := oi_t hf c5
        refine lv_iconst (v := 0) F.1 F.2.1 dX8_isPrime_15 (by decide) ?_
        exact r_zret F w rfl (oi_s hf) dX8_isPrime_16
def f_X8_isPrime_0 (S : ST) (a0 : Int32) : Option (Int32 × ST) := f_X8_isPrime_2 FU S a0 2
set_option maxHeartbeats 4000000 in
set_option maxRecDepth 100000 in
theorem b_X8_isPrime_0 {p : Program} {l : Launch} {e : Env} {s : State} {m : MethodId} {args : Array Value} {below : List Frame} {meth : Method} {c : Code} {x : CX} {res : Int32 × ST} (F : MF p m meth c cX8_isPrime 2 s args RX8 (some .boolean)) : ∀ (H : Heap) (locs : List Loc) (ls : Array Slot) (S : ST), WD x s S H locs → ∀ (a0 : Int32), lv_has ls 2 [(0, .int a0)] → f_X8_isPrime_0 S a0 = some res → W p l e ({ frames := 1, cells := 0, slots := 0, locals := 22 } : Room) s m args below meth c H locs 0 0 (MQ below (QI x res.2 res.1 s.heap.size) args s 0 0 (AA x s.heap.size)) (F0 m 0 ls []) := by
  intro H locs ls S w a0 hl hf
  unfold f_X8_isPrime_0 at hf
  refine lv_iconst (v := 2) F.1 F.2.1 dX8_isPrime_0 (by decide) ?_
  refine lv_istore_n (lv' := [(1, .int 2), (0, .int a0)]) F.1 F.2.1 dX8_isPrime_1 rfl hl (by decide) rfl (fun ls hl => ?_)
  exact b_X8_isPrime_2 F FU _ _ _ _ w a0 2 (lv_sub hl [1, 0] rfl) hf
def f_X8_isPrime (S : ST) (a0 : Int32) : Option (Int32 × ST) := f_X8_isPrime_0 S a0
set_option maxHeartbeats 4000000 in
set_option maxRecDepth 100000 in
theorem k_X8_isPrime (l : Launch) (x : CX) (S : ST) (a0 : Int32) {res : Int32 × ST} (hf : f_X8_isPrime S a0 = some res) (sz : Nat) : Met l yX8_isPrime (Cond.code yX8_isPrime cX8_isPrime 2 (some .boolean) :: GW) ({ frames := 1, cells := 0, slots := 0, locals := 22 } : Room) (PC x S sz [.int a0]) (QI x res.2 res.1 sz) 0 0 (AA x sz) := by
  refine Met.ofW (cc := cX8_isPrime) (maxL := 2) (ret := (some .boolean)) (by decide) rfl ?_
  intro p e s m args below meth c s₁ B hml hv
  obtain ⟨rfl, rfl, hPW⟩ := hv
  have F : MF p m meth c cX8_isPrime 2 s _ RX8 (some .boolean) := MF.of B hml
  have w := WD.of hPW
  have hl := lv_entry ([.int a0]) (n := 2) (Nat.le_of_ble_eq_true rfl)
  rw [lg_entry_eq]
  generalize (lg_sl ([.int a0]) ++ List.replicate (2 - (lg_sl ([.int a0])).length) Slot.unset).toArray = ls at hl ⊢
  have hl : lv_has ls 2 [(0, .int a0)] := hl
  unfold f_X8_isPrime at hf
  exact b_X8_isPrime_0 F  _ _ _ _ w a0 (lv_sub hl [0] rfl) hf
theorem cy_X8_isPrimitiveRoot : CY yX8_isPrimitiveRoot RX8 cX8_isPrimitiveRoot 4 (some .boolean) 2 := ⟨q1, q752, rfl, by decide, by decide, by decide +kernel⟩
def f_X8_isPrimitiveRoot_10 (S : ST)  : Option (Int32 × ST) := some (0, S)
set_option maxHeartbeats 4000000 in
set_option maxRecDepth 100000 in
theorem b_X8_isPrimitiveRoot_10 {p : Program} {l : Launch} {e : Env} {s : State} {m : MethodId} {args : Array Value} {below : List Frame} {meth : Method} {c : Code} {x : CX} {res : Int32 × ST} (F : MF p m meth c cX8_isPrimitiveRoot 4 s args RX8 (some .boolean)) : ∀ (H : Heap) (locs : List Loc) (ls : Array Slot) (S : ST), WD x s S H locs → lv_has ls 4 [] → f_X8_isPrimitiveRoot_10 S = some res → W p l e ({ frames := 1, cells := 0, slots := 0, locals := 22 } : Room) s m args below meth c H locs 0 0 (MQ below (QI x res.2 res.1 s.heap.size) args s 0 0 (AA x s.heap.size)) (F0 m 10 ls []) := by
  intro H locs ls S w hl hf
  unfold f_X8_isPrimitiveRoot_10 at hf
  refine lv_iconst (v := 0) F.1 F.2.1 dX8_isPrimitiveRoot_10 (by decide) ?_
  exact r_zret F w rfl (oi_s hf) dX8_isPrimitiveRoot_11
def f_X8_isPrimitiveRoot_16 : Nat → ST → Int32 → Int32 → Int32 → Int32 → Option (Int32 × ST)
  | 0, _, _, _, _, _ => none
  | n + 1, S, a0, a1, a2, a3 => (if (a1 - (1 : Int32)) ≤ a3 then some (1, S) else oB (f_X8_residue S (a2 * a0) a1) (fun (r3 : Int32) (S2 : ST) => (if r3 = 1 then some (0, S2) else oL (a3 + 1) (fun (v5 : Int32) => (f_X8_isPrimitiveRoot_16 n) S2 a0 a1 r3 v5))))
set_option maxHeartbeats 4000000 in
set_option maxRecDepth 100000 in
theorem b_X8_isPrimitiveRoot_16 {p : Program} {l : Launch} {e : Env} {s : State} {m : MethodId} {args : Array Value} {below : List Frame} {meth : Method} {c : Code} {x : CX} {res : Int32 × ST} (F : MF p m meth c cX8_isPrimitiveRoot 4 s args RX8 (some .boolean)) : ∀ (n : Nat), ∀ (H : Heap) (locs : List Loc) (ls : Array Slot) (S : ST), WD x s S H locs → ∀ (a0 : Int32) (a1 : Int32) (a2 : Int32) (a3 : Int32), lv_has ls 4 [(0, .int a0), (1, .int a1), (2, .int a2), (3, .int a3)] → f_X8_isPrimitiveRoot_16 n S a0 a1 a2 a3 = some res → W p l e ({ frames := 1, cells := 0, slots := 0, locals := 22 } : Room) s m args below meth c H locs 0 0 (MQ below (QI x res.2 res.1 s.heap.size) args s 0 0 (AA x s.heap.size)) (F0 m 16 ls []) := by
  intro n
  induction n with
  | zero =>
    intro H locs ls S w a0 a1 a2 a3 hl hf
    have hf : (none : Option (Int32 × ST)) = some res := hf
    cases hf
  | succ n ih =>
    intro H locs ls S w a0 a1 a2 a3 hl hf
    unfold f_X8_isPrimitiveRoot_16 at hf
    refine lv_iload_n F.1 F.2.1 dX8_isPrimitiveRoot_16 rfl (lv_at hl 3 rfl) ?_
    refine lv_iload_n F.1 F.2.1 dX8_isPrimitiveRoot_17 rfl (lv_at hl 1 rfl) ?_
    refine lv_iconst (v := 1) F.1 F.2.1 dX8_isPrimitiveRoot_18 (by decide) ?_
    refine lv_isub F.1 F.2.1 dX8_isPrimitiveRoot_19 ?_
    refine lv_icmp_ge (tgt := 44) F.1 F.2.1 dX8_isPrimitiveRoot_20 (by decide) (fun c1 => ?_) (fun c1 => ?_)
    · replace hf := oi_t hf c1
      refine lv_iconst (v := 1) F.1 F.2.1 dX8_isPrimitiveRoot_44 (by decide) ?_
      exact r_zret F w rfl (oi_s hf) dX8_isPrimitiveRoot_45
    · replace hf := oi_f hf c1
      refine lv_iload_n F.1 F.2.1 dX8_isPrimitiveRoot_23 rfl (lv_at hl 2 rfl) ?_
      refine lv_iload_n F.1 F.2.1 dX8_isPrimitiveRoot_24 rfl (lv_at hl 0 rfl) ?_
      refine lv_imul F.1 F.2.1 dX8_isPrimitiveRoot_25 ?_
      refine lv_iload_n F.1 F.2.1 dX8_isPrimitiveRoot_26 rfl (lv_at hl 1 rfl) ?_
      obtain ⟨r3, S2, hc, hf⟩ := oi_b hf
      refine k_i0 (S' := S2) (r := r3) w (runS (As := [.int (a2 * a0), .int a1]) (rest := []) F w (k_X8_residue l x S (a2 * a0) a1 hc H.size) cy_X8_residue q301 q302 ⟨rfl, rfl⟩ ⟨Nat.le_of_ble_eq_true rfl, Nat.le_of_ble_eq_true rfl⟩ rfl rfl hl.1 (Nat.le_of_ble_eq_true rfl) ⟨Nat.le_of_ble_eq_true rfl, Nat.le_of_ble_eq_true rfl⟩ dX8_isPrimitiveRoot_27) (fun H locs w => ?_)
      refine lv_istore_n (lv' := [(2, .int r3), (0, .int a0), (1, .int a1), (3, .int a3)]) F.1 F.2.1 dX8_isPrimitiveRoot_30 rfl hl (by decide) rfl (fun ls hl => ?_)
      refine lv_iload_n F.1 F.2.1 dX8_isPrimitiveRoot_31 rfl (lv_at hl 0 rfl) ?_
      refine lv_iconst (v := 1) F.1 F.2.1 dX8_isPrimitiveRoot_32 (by decide) ?_
      refine lv_icmp_ne (tgt := 38) F.1 F.2.1 dX8_isPrimitiveRoot_33 (by decide) (fun c4 => ?_) (fun c4 => ?_)
      · replace hf := oi_f hf c4
        obtain ⟨v5, e_v5⟩ : ∃ y : Int32, y = (a3 + 1) := ⟨_, rfl⟩
        replace hf := oi_l hf e_v5
        refine lv_iinc (v := v5) (lv' := [(3, .int v5), (2, .int r3), (0, .int a0), (1, .int a1)]) F.1 F.2.1 dX8_isPrimitiveRoot_38 hl (k := 3) rfl (by rw [e_v5]; rfl) (by decide) rfl (fun ls hl => ?_)
        refine lv_goto (tgt := 16) F.1 F.2.1 dX8_isPrimitiveRoot_41 (by decide) ?_
        exact ih _ _ _ _ w a0 a1 r3 v5 (lv_sub hl [2, 3, 1, 0] rfl) hf
      · replace hf := oi_t hf c4
        refine lv_iconst (v := 0) F.1 F.2.1 dX8_isPrimitiveRoot_36 (by decide) ?_
        exact r_zret F w rfl (oi_s hf) dX8_isPrimitiveRoot_37
def f_X8_isPrimitiveRoot_0 (S : ST) (a0 : Int32) (a1 : Int32) : Option (Int32 × ST) := (if a0 < 2 then f_X8_isPrimitiveRoot_10 S else (if a0 < a1 then f_X8_isPrimitiveRoot_16 FU S a0 a1 1 1 else f_X8_isPrimitiveRoot_10 S))
set_option maxHeartbeats 4000000 in
set_option maxRecDepth 100000 in
theorem b_X8_isPrimitiveRoot_0 {p : Program} {l : Launch} {e : Env} {s : State} {m : MethodId} {args : Array Value} {below : List Frame} {meth : Method} {c : Code} {x : CX} {res : Int32 × ST} (F : MF p m meth c cX8_isPrimitiveRoot 4 s args RX8 (some .boolean)) : ∀ (H : Heap) (locs : List Loc) (ls : Array Slot) (S : ST), WD x s S H locs → ∀ (a0 : Int32) (a1 : Int32), lv_has ls 4 [(0, .int a0), (1, .int a1)] → f_X8_isPrimitiveRoot_0 S a0 a1 = some res → W p l e ({ frames := 1, cells := 0, slots := 0, locals := 22 } : Room) s m args below meth c H locs 0 0 (MQ below (QI x res.2 res.1 s.heap.size) args s 0 0 (AA x s.heap.size)) (F0 m 0 ls []) := by
  intro H locs ls S w a0 a1 hl hf
  unfold f_X8_isPrimitiveRoot_0 at hf
  refine lv_iload_n F.1 F.2.1 dX8_isPrimitiveRoot_0 rfl (lv_at hl 0 rfl) ?_
  refine lv_iconst (v := 2) F.1 F.2.1 dX8_isPrimitiveRoot_1 (by decide) ?_
  refine lv_icmp_lt (tgt := 10) F.1 F.2.1 dX8_isPrimitiveRoot_2 (by decide) (fun c1 => ?_) (fun c1 => ?_)
  · replace hf := oi_t hf c1
    exact b_X8_isPrimitiveRoot_10 F  _ _ _ _ w  (lv_sub hl [] rfl) hf
  · replace hf := oi_f hf c1
    refine lv_iload_n F.1 F.2.1 dX8_isPrimitiveRoot_5 rfl (lv_at hl 0 rfl) ?_
    refine lv_iload_n F.1 F.2.1 dX8_isPrimitiveRoot_6 rfl (lv_at hl 1 rfl) ?_
    refine lv_icmp_lt (tgt := 12) F.1 F.2.1 dX8_isPrimitiveRoot_7 (by decide) (fun c2 => ?_) (fun c2 => ?_)
    · replace hf := oi_t hf c2
      refine lv_iconst (v := 1) F.1 F.2.1 dX8_isPrimitiveRoot_12 (by decide) ?_
      refine lv_istore_n (lv' := [(2, .int 1), (0, .int a0), (1, .int a1)]) F.1 F.2.1 dX8_isPrimitiveRoot_13 rfl hl (by decide) rfl (fun ls hl => ?_)
      refine lv_iconst (v := 1) F.1 F.2.1 dX8_isPrimitiveRoot_14 (by decide) ?_
      refine lv_istore_n (lv' := [(3, .int 1), (2, .int 1), (0, .int a0), (1, .int a1)]) F.1 F.2.1 dX8_isPrimitiveRoot_15 rfl hl (by decide) rfl (fun ls hl => ?_)
      exact b_X8_isPrimitiveRoot_16 F FU _ _ _ _ w a0 a1 1 1 (lv_sub hl [2, 3, 1, 0] rfl) hf
    · replace hf := oi_f hf c2
      exact b_X8_isPrimitiveRoot_10 F  _ _ _ _ w  (lv_sub hl [] rfl) hf
def f_X8_isPrimitiveRoot (S : ST) (a0 : Int32) (a1 : Int32) : Option (Int32 × ST) := f_X8_isPrimitiveRoot_0 S a0 a1
set_option maxHeartbeats 4000000 in
set_option maxRecDepth 100000 in
theorem k_X8_isPrimitiveRoot (l : Launch) (x : CX) (S : ST) (a0 : Int32) (a1 : Int32) {res : Int32 × ST} (hf : f_X8_isPrimitiveRoot S a0 a1 = some res) (sz : Nat) : Met l yX8_isPrimitiveRoot (Cond.code yX8_isPrimitiveRoot cX8_isPrimitiveRoot 4 (some .boolean) :: GW) ({ frames := 1, cells := 0, slots := 0, locals := 22 } : Room) (PC x S sz [.int a0, .int a1]) (QI x res.2 res.1 sz) 0 0 (AA x sz) := by
  refine Met.ofW (cc := cX8_isPrimitiveRoot) (maxL := 4) (ret := (some .boolean)) (by decide) rfl ?_
  intro p e s m args below meth c s₁ B hml hv
  obtain ⟨rfl, rfl, hPW⟩ := hv
  have F : MF p m meth c cX8_isPrimitiveRoot 4 s _ RX8 (some .boolean) := MF.of B hml
  have w := WD.of hPW
  have hl := lv_entry ([.int a0, .int a1]) (n := 4) (Nat.le_of_ble_eq_true rfl)
  rw [lg_entry_eq]
  generalize (lg_sl ([.int a0, .int a1]) ++ List.replicate (4 - (lg_sl ([.int a0, .int a1])).length) Slot.unset).toArray = ls at hl ⊢
  have hl : lv_has ls 4 [(0, .int a0), (1, .int a1)] := hl
  unfold f_X8_isPrimitiveRoot at hf
  exact b_X8_isPrimitiveRoot_0 F  _ _ _ _ w a0 a1 (lv_sub hl [0, 1] rfl) hf
theorem cy_X8_makeExtended : CY yX8_makeExtended RX8 cX8_makeExtended 5 (some .boolean) 3 := ⟨q1, q774, rfl, by decide, by decide, by decide +kernel⟩
def f_X8_makeExtended_88 (k37 : ST → Nat → Int32 → Int32 → Option (Int32 × ST)) (S : ST) (i2 : Nat) (a3 : Int32) (a4 : Int32) : Option (Int32 × ST) := oL (a4 + 1) (fun (v1 : Int32) => k37 S i2 a3 v1)
set_option maxHeartbeats 4000000 in
set_option maxRecDepth 100000 in
theorem b_X8_makeExtended_88 {p : Program} {l : Launch} {e : Env} {s : State} {m : MethodId} {args : Array Value} {below : List Frame} {meth : Method} {c : Code} {x : CX} {res : Int32 × ST} (F : MF p m meth c cX8_makeExtended 5 s args RX8 (some .boolean)) (k37 : ST → Nat → Int32 → Int32 → Option (Int32 × ST)) (hk37 : ∀ (H : Heap) (locs : List Loc) (ls : Array Slot) (S : ST), WD x s S H locs → ∀ (i2 : Nat) (a3 : Int32) (a4 : Int32), i2 < 4 → lv_has ls 5 [(0, .ref (x.2.2 (79))), (2, .ref (x.2.2 (58 + i2))), (3, .int a3), (4, .int a4)] → k37 S i2 a3 a4 = some res → W p l e ({ frames := 2, cells := 0, slots := 0, locals := 85 } : Room) s m args below meth c H locs 0 0 (MQ below (QI x res.2 res.1 s.heap.size) args s 0 0 (AA x s.heap.size)) (F0 m 37 ls [])) : ∀ (H : Heap) (locs : List Loc) (ls : Array Slot) (S : ST), WD x s S H locs → ∀ (i2 : Nat) (a3 : Int32) (a4 : Int32), i2 < 4 → lv_has ls 5 [(0, .ref (x.2.2 (79))), (2, .ref (x.2.2 (58 + i2))), (3, .int a3), (4, .int a4)] → f_X8_makeExtended_88 k37 S i2 a3 a4 = some res → W p l e ({ frames := 2, cells := 0, slots := 0, locals := 85 } : Room) s m args below meth c H locs 0 0 (MQ below (QI x res.2 res.1 s.heap.size) args s 0 0 (AA x s.heap.size)) (F0 m 88 ls []) := by
  intro H locs ls S w i2 a3 a4 h2 hl hf
  unfold f_X8_makeExtended_88 at hf
  obtain ⟨v1, e_v1⟩ : ∃ y : Int32, y = (a4 + 1) := ⟨_, rfl⟩
  replace hf := oi_l hf e_v1
  refine lv_iinc (v := v1) (lv' := [(4, .int v1), (0, .ref (x.2.2 (79))), (2, .ref (x.2.2 (58 + i2))), (3, .int a3)]) F.1 F.2.1 dX8_makeExtended_88 hl (k := 3) rfl (by rw [e_v1]; rfl) (by decide) rfl (fun ls hl => ?_)
  refine lv_goto (tgt := 37) F.1 F.2.1 dX8_makeExtended_91 (by decide) ?_
  exact hk37 _ _ _ _ w i2 a3 v1 h2 (lv_sub hl [1, 2, 3, 0] rfl) hf
def f_X8_makeExtended_110 (S : ST) (as0 : Int32) : Option (Int32 × ST) := oG (isB as0) (some (as0, S))
set_option maxHeartbeats 4000000 in
set_option maxRecDepth 100000 in
theorem b_X8_makeExtended_110 {p : Program} {l : Launch} {e : Env} {s : State} {m : MethodId} {args : Array Value} {below : List Frame} {meth : Method} {c : Code} {x : CX} {res : Int32 × ST} (F : MF p m meth c cX8_makeExtended 5 s args RX8 (some .boolean)) : ∀ (H : Heap) (locs : List Loc) (ls : Array Slot) (S : ST), WD x s S H locs → ∀ (as0 : Int32), lv_has ls 5 [] → f_X8_makeExtended_110 S as0 = some res → W p l e ({ frames := 2, cells := 0, slots := 0, locals := 85 } : Room) s m args below meth c H locs 0 0 (MQ below (QI x res.2 res.1 s.heap.size) args s 0 0 (AA x s.heap.size)) (F0 m 110 ls [.int as0]) := by
  intro H locs ls S w as0 hl hf
  unfold f_X8_makeExtended_110 at hf
  obtain ⟨hz1, hf⟩ := oi_g hf
  exact r_zret F w (isB_nar hz1) (oi_s hf) dX8_makeExtended_110
def f_X8_makeExtended_94 (S : ST) (a3 : Int32) : Option (Int32 × ST) := (if (fi S 20) = a3 then f_X8_makeExtended_110 S 1 else f_X8_makeExtended_110 S 0)
set_option maxHeartbeats 4000000 in
set_option maxRecDepth 100000 in
theorem b_X8_makeExtended_94 {p : Program} {l : Launch} {e : Env} {s : State} {m : MethodId} {args : Array Value} {below : List Frame} {meth : Method} {c : Code} {x : CX} {res : Int32 × ST} (F : MF p m meth c cX8_makeExtended 5 s args RX8 (some .boolean)) : ∀ (H : Heap) (locs : List Loc) (ls : Array Slot) (S : ST), WD x s S H locs → ∀ (a3 : Int32), lv_has ls 5 [(0, .ref (x.2.2 (79))), (3, .int a3)] → f_X8_makeExtended_94 S a3 = some res → W p l e ({ frames := 2, cells := 0, slots := 0, locals := 85 } : Room) s m args below meth c H locs 0 0 (MQ below (QI x res.2 res.1 s.heap.size) args s 0 0 (AA x s.heap.size)) (F0 m 94 ls []) := by
  intro H locs ls S w a3 hl hf
  unfold f_X8_makeExtended_94 at hf
  refine lv_aload_n F.1 F.2.1 dX8_makeExtended_94 rfl (lv_at hl 0 rfl) ?_
  refine g_RW_made F w q164 dX8_makeExtended_95 ?_
  refine gN_MS_count (i := 20) F w (by decide) (by simp [NF]) dX8_makeExtended_98 ?_
  refine lv_iload_n F.1 F.2.1 dX8_makeExtended_101 rfl (lv_at hl 1 rfl) ?_
  refine lv_icmp_ne (tgt := 109) F.1 F.2.1 dX8_makeExtended_102 (by decide) (fun c1 => ?_) (fun c1 => ?_)
  · replace hf := oi_f hf c1
    refine lv_iconst (v := 0) F.1 F.2.1 dX8_makeExtended_109 (by decide) ?_
    exact b_X8_makeExtended_110 F  _ _ _ _ w 0 (lv_sub hl [] rfl) hf
  · replace hf := oi_t hf c1
    refine lv_iconst (v := 1) F.1 F.2.1 dX8_makeExtended_105 (by decide) ?_
    refine lv_goto (tgt := 110) F.1 F.2.1 dX8_makeExtended_106 (by decide) ?_
    exact b_X8_makeExtended_110 F  _ _ _ _ w 1 (lv_sub hl [] rfl) hf
def f_X8_makeExtended_37 : Nat → ST → Nat → Int32 → Int32 → Option (Int32 × ST)
  | 0, _, _, _, _ => none
  | n + 1, S, i2, a3, a4 => (if a3 ≤ (fi S 20) then f_X8_makeExtended_94 S a3 else (if 2000 < a4 then f_X8_makeExtended_94 S a3 else oB (f_X3_isFree S i2 20 a4) (fun (r4 : Int32) (S3 : ST) => (if r4 = 0 then f_X8_makeExtended_88 (f_X8_makeExtended_37 n) S3 i2 a3 a4 else oV (f_X3_note S3 i2 20 a4) (fun (S6 : ST) => oV (f_X2_push S6 20 a4) (fun (S7 : ST) => f_X8_makeExtended_88 (f_X8_makeExtended_37 n) S7 i2 a3 a4))))))
set_option maxHeartbeats 4000000 in
set_option maxRecDepth 100000 in
theorem b_X8_makeExtended_37 {p : Program} {l : Launch} {e : Env} {s : State} {m : MethodId} {args : Array Value} {below : List Frame} {meth : Method} {c : Code} {x : CX} {res : Int32 × ST} (F : MF p m meth c cX8_makeExtended 5 s args RX8 (some .boolean)) : ∀ (n : Nat), ∀ (H : Heap) (locs : List Loc) (ls : Array Slot) (S : ST), WD x s S H locs → ∀ (i2 : Nat) (a3 : Int32) (a4 : Int32), i2 < 4 → lv_has ls 5 [(0, .ref (x.2.2 (79))), (2, .ref (x.2.2 (58 + i2))), (3, .int a3), (4, .int a4)] → f_X8_makeExtended_37 n S i2 a3 a4 = some res → W p l e ({ frames := 2, cells := 0, slots := 0, locals := 85 } : Room) s m args below meth c H locs 0 0 (MQ below (QI x res.2 res.1 s.heap.size) args s 0 0 (AA x s.heap.size)) (F0 m 37 ls []) := by
  intro n
  induction n with
  | zero =>
    intro H locs ls S w i2 a3 a4 h2 hl hf
    have hf : (none : Option (Int32 × ST)) = some res := hf
    cases hf
  | succ n ih =>
    intro H locs ls S w i2 a3 a4 h2 hl hf
    unfold f_X8_makeExtended_37 at hf
    refine lv_aload_n F.1 F.2.1 dX8_makeExtended_37 rfl (lv_at hl 0 rfl) ?_
    refine g_RW_made F w q164 dX8_makeExtended_38 ?_
    refine gN_MS_count (i := 20) F w (by decide) (by simp [NF]) dX8_makeExtended_41 ?_
    refine lv_iload_n F.1 F.2.1 dX8_makeExtended_44 rfl (lv_at hl 2 rfl) ?_
    refine lv_icmp_ge (tgt := 94) F.1 F.2.1 dX8_makeExtended_45 (by decide) (fun c1 => ?_) (fun c1 => ?_)
    · replace hf := oi_t hf c1
      exact b_X8_makeExtended_94 F  _ _ _ _ w a3 (lv_sub hl [0, 2] rfl) hf
    · replace hf := oi_f hf c1
      refine lv_iload F.1 F.2.1 dX8_makeExtended_48 (lv_at hl 3 rfl) ?_
      refine lv_sipush (v := 2000) F.1 F.2.1 dX8_makeExtended_50 (by decide) ?_
      refine lv_icmp_gt (tgt := 94) F.1 F.2.1 dX8_makeExtended_53 (by decide) (fun c2 => ?_) (fun c2 => ?_)
      · replace hf := oi_t hf c2
        exact b_X8_makeExtended_94 F  _ _ _ _ w a3 (lv_sub hl [0, 2] rfl) hf
      · replace hf := oi_f hf c2
        refine lv_aload_n F.1 F.2.1 dX8_makeExtended_56 rfl (lv_at hl 1 rfl) ?_
        refine lv_aload_n F.1 F.2.1 dX8_makeExtended_57 rfl (lv_at hl 0 rfl) ?_
        refine g_RW_made F w q164 dX8_makeExtended_58 ?_
        refine lv_iload F.1 F.2.1 dX8_makeExtended_61 (lv_at hl 3 rfl) ?_
        obtain ⟨r4, S3, hc, hf⟩ := oi_b hf
        refine k_i0 (S' := S3) (r := r4) w (runV (As := [.ref (x.2.2 (2 * 20)), .int a4]) (rest := []) (kb := 58 + i2) F w (k_X3_isFree l x S i2 20 a4 h2 (by decide) hc H.size) cy_X3_isFree q775 q776 q777 ⟨rfl, rfl⟩ ⟨Nat.le_of_ble_eq_true rfl, Nat.le_of_ble_eq_true rfl⟩ (k_sp h2) (enc_sp x S h2) rfl rfl rfl hl.1 (Nat.le_of_ble_eq_true rfl) ⟨Nat.le_of_ble_eq_true rfl, Nat.le_of_ble_eq_true rfl⟩ dX8_makeExtended_63) (fun H locs w => ?_)
        refine lv_if_eq (tgt := 88) F.1 F.2.1 dX8_makeExtended_66 (by decide) (fun c5 => ?_) (fun c5 => ?_)
        · replace hf := oi_t hf c5
          exact b_X8_makeExtended_88 F (f_X8_makeExtended_37 n) ih _ _ _ _ w i2 a3 a4 h2 (lv_sub hl [0, 1, 2, 3] rfl) hf
        · replace hf := oi_f hf c5
          refine lv_aload_n F.1 F.2.1 dX8_makeExtended_69 rfl (lv_at hl 1 rfl) ?_
          refine lv_aload_n F.1 F.2.1 dX8_makeExtended_70 rfl (lv_at hl 0 rfl) ?_
          refine g_RW_made F w q164 dX8_makeExtended_71 ?_
          refine lv_iload F.1 F.2.1 dX8_makeExtended_74 (lv_at hl 3 rfl) ?_
          obtain ⟨S6, hc, hf⟩ := oi_v hf
          refine k_v0 (S' := S6) w (runV (As := [.ref (x.2.2 (2 * 20)), .int a4]) (rest := []) (kb := 58 + i2) F w (k_X3_note l x S3 i2 20 a4 h2 (by decide) hc H.size) cy_X3_note q779 q780 q781 ⟨rfl, rfl⟩ ⟨Nat.le_of_ble_eq_true rfl, Nat.le_of_ble_eq_true rfl⟩ (k_sp h2) (enc_sp x S3 h2) rfl rfl rfl hl.1 (Nat.le_of_ble_eq_true rfl) ⟨Nat.le_of_ble_eq_true rfl, Nat.le_of_ble_eq_true rfl⟩ dX8_makeExtended_76) (fun H locs w => ?_)
          refine lv_aload_n F.1 F.2.1 dX8_makeExtended_79 rfl (lv_at hl 0 rfl) ?_
          refine g_RW_made F w q164 dX8_makeExtended_80 ?_
          refine lv_iload F.1 F.2.1 dX8_makeExtended_83 (lv_at hl 3 rfl) ?_
          obtain ⟨S7, hc, hf⟩ := oi_v hf
          refine k_v0 (S' := S7) w (runV (As := [.int a4]) (rest := []) (kb := 2 * 20) F w (k_X2_push l x S6 20 a4 (by decide) hc H.size) cy_X2_push q653 q459 q460 ⟨rfl, rfl⟩ ⟨Nat.le_of_ble_eq_true rfl, Nat.le_of_ble_eq_true rfl⟩ (k_ms (by decide)) (enc_ms x S6 (by decide)) rfl rfl rfl hl.1 (Nat.le_of_ble_eq_true rfl) ⟨Nat.le_of_ble_eq_true rfl, Nat.le_of_ble_eq_true rfl⟩ dX8_makeExtended_85) (fun H locs w => ?_)
          exact b_X8_makeExtended_88 F (f_X8_makeExtended_37 n) ih _ _ _ _ w i2 a3 a4 h2 (lv_sub hl [0, 1, 2, 3] rfl) hf
def f_X8_makeExtended_26 (S : ST) (i2 : Nat) (a3 : Int32) : Option (Int32 × ST) := oB (f_X2_greatest S 20) (fun (r2 : Int32) (S1 : ST) => oL (r2 + (1 : Int32)) (fun (v3 : Int32) => f_X8_makeExtended_37 FU S1 i2 a3 v3))
set_option maxHeartbeats 4000000 in
set_option maxRecDepth 100000 in
theorem b_X8_makeExtended_26 {p : Program} {l : Launch} {e : Env} {s : State} {m : MethodId} {args : Array Value} {below : List Frame} {meth : Method} {c : Code} {x : CX} {res : Int32 × ST} (F : MF p m meth c cX8_makeExtended 5 s args RX8 (some .boolean)) : ∀ (H : Heap) (locs : List Loc) (ls : Array Slot) (S : ST), WD x s S H locs → ∀ (i2 : Nat) (a3 : Int32), i2 < 4 → lv_has ls 5 [(0, .ref (x.2.2 (79))), (2, .ref (x.2.2 (58 + i2))), (3, .int a3)] → f_X8_makeExtended_26 S i2 a3 = some res → W p l e ({ frames := 2, cells := 0, slots := 0, locals := 85 } : Room) s m args below meth c H locs 0 0 (MQ below (QI x res.2 res.1 s.heap.size) args s 0 0 (AA x s.heap.size)) (F0 m 26 ls []) := by
  intro H locs ls S w i2 a3 h2 hl hf
  unfold f_X8_makeExtended_26 at hf
  refine lv_aload_n F.1 F.2.1 dX8_makeExtended_26 rfl (lv_at hl 0 rfl) ?_
  refine g_RW_made F w q164 dX8_makeExtended_27 ?_
  obtain ⟨r2, S1, hc, hf⟩ := oi_b hf
  refine k_i0 (S' := S1) (r := r2) w (runV (As := []) (rest := []) (kb := 2 * 20) F w (k_X2_greatest l x S 20 (by decide) hc H.size) cy_X2_greatest q256 q257 q258 ⟨rfl, rfl⟩ ⟨Nat.le_of_ble_eq_true rfl, Nat.le_of_ble_eq_true rfl⟩ (k_ms (by decide)) (enc_ms x S (by decide)) rfl rfl rfl hl.1 (Nat.le_of_ble_eq_true rfl) ⟨Nat.le_of_ble_eq_true rfl, Nat.le_of_ble_eq_true rfl⟩ dX8_makeExtended_30) (fun H locs w => ?_)
  refine lv_iconst (v := 1) F.1 F.2.1 dX8_makeExtended_33 (by decide) ?_
  refine lv_iadd F.1 F.2.1 dX8_makeExtended_34 ?_
  refine lv_topi (fun v3 e_v3 => ?_)
  replace hf := oi_l hf e_v3
  refine lv_istore (lv' := [(4, .int v3), (0, .ref (x.2.2 (79))), (2, .ref (x.2.2 (58 + i2))), (3, .int a3)]) F.1 F.2.1 dX8_makeExtended_35 hl (by decide) rfl (fun ls hl => ?_)
  exact b_X8_makeExtended_37 F FU _ _ _ _ w i2 a3 v3 h2 (lv_sub hl [1, 2, 3, 0] rfl) hf
def f_X8_makeExtended_0 (S : ST) (i1 : Nat) (i2 : Nat) (a3 : Int32) : Option (Int32 × ST) := oV (f_X2_take S 20 i1) (fun (S1 : ST) => (if (fi S1 20) = 0 then oV (f_X2_push S1 20 0) (fun (S3 : ST) => f_X8_makeExtended_26 S3 i2 a3) else f_X8_makeExtended_26 S1 i2 a3))
set_option maxHeartbeats 4000000 in
set_option maxRecDepth 100000 in
theorem b_X8_makeExtended_0 {p : Program} {l : Launch} {e : Env} {s : State} {m : MethodId} {args : Array Value} {below : List Frame} {meth : Method} {c : Code} {x : CX} {res : Int32 × ST} (F : MF p m meth c cX8_makeExtended 5 s args RX8 (some .boolean)) : ∀ (H : Heap) (locs : List Loc) (ls : Array Slot) (S : ST), WD x s S H locs → ∀ (i1 : Nat) (i2 : Nat) (a3 : Int32), i1 < 22 → i2 < 4 → lv_has ls 5 [(0, .ref (x.2.2 (79))), (1, .ref (x.2.2 (2 * i1))), (2, .ref (x.2.2 (58 + i2))), (3, .int a3)] → f_X8_makeExtended_0 S i1 i2 a3 = some res → W p l e ({ frames := 2, cells := 0, slots := 0, locals := 85 } : Room) s m args below meth c H locs 0 0 (MQ below (QI x res.2 res.1 s.heap.size) args s 0 0 (AA x s.heap.size)) (F0 m 0 ls []) := by
  intro H locs ls S w i1 i2 a3 h1 h2 hl hf
  unfold f_X8_makeExtended_0 at hf
  refine lv_aload_n F.1 F.2.1 dX8_makeExtended_0 rfl (lv_at hl 0 rfl) ?_
  refine g_RW_made F w q164 dX8_makeExtended_1 ?_
  refine lv_aload_n F.1 F.2.1 dX8_makeExtended_4 rfl (lv_at hl 1 rfl) ?_
  obtain ⟨S1, hc, hf⟩ := oi_v hf
  refine k_v0 (S' := S1) w (runV (As := [.ref (x.2.2 (2 * i1))]) (rest := []) (kb := 2 * 20) F w (k_X2_take l x S 20 i1 (by decide) h1 hc H.size) cy_X2_take q484 q475 q476 ⟨rfl, rfl⟩ ⟨Nat.le_of_ble_eq_true rfl, Nat.le_of_ble_eq_true rfl⟩ (k_ms (by decide)) (enc_ms x S (by decide)) rfl rfl rfl hl.1 (Nat.le_of_ble_eq_true rfl) ⟨Nat.le_of_ble_eq_true rfl, Nat.le_of_ble_eq_true rfl⟩ dX8_makeExtended_5) (fun H locs w => ?_)
  refine lv_aload_n F.1 F.2.1 dX8_makeExtended_8 rfl (lv_at hl 0 rfl) ?_
  refine g_RW_made F w q164 dX8_makeExtended_9 ?_
  refine gN_MS_count (i := 20) F w (by decide) (by simp [NF]) dX8_makeExtended_12 ?_
  refine lv_if_ne (tgt := 26) F.1 F.2.1 dX8_makeExtended_15 (by decide) (fun c2 => ?_) (fun c2 => ?_)
  · replace hf := oi_f hf c2
    exact b_X8_makeExtended_26 F  _ _ _ _ w i2 a3 h2 (lv_sub hl [0, 2, 3] rfl) hf
  · replace hf := oi_t hf c2
    refine lv_aload_n F.1 F.2.1 dX8_makeExtended_18 rfl (lv_at hl 0 rfl) ?_
    refine g_RW_made F w q164 dX8_makeExtended_19 ?_
    refine lv_iconst (v := 0) F.1 F.2.1 dX8_makeExtended_22 (by decide) ?_
    obtain ⟨S3, hc, hf⟩ := oi_v hf
    refine k_v0 (S' := S3) w (runV (As := [.int 0]) (rest := []) (kb := 2 * 20) F w (k_X2_push l x S1 20 0 (by decide) hc H.size) cy_X2_push q653 q459 q460 ⟨rfl, rfl⟩ ⟨Nat.le_of_ble_eq_true rfl, Nat.le_of_ble_eq_true rfl⟩ (k_ms (by decide)) (enc_ms x S1 (by decide)) rfl rfl rfl hl.1 (Nat.le_of_ble_eq_true rfl) ⟨Nat.le_of_ble_eq_true rfl, Nat.le_of_ble_eq_true rfl⟩ dX8_makeExtended_23) (fun H locs w => ?_)
    exact b_X8_makeExtended_26 F  _ _ _ _ w i2 a3 h2 (lv_sub hl [0, 2, 3] rfl) hf
def f_X8_makeExtended (S : ST) (i1 : Nat) (i2 : Nat) (a3 : Int32) : Option (Int32 × ST) := f_X8_makeExtended_0 S i1 i2 a3
set_option maxHeartbeats 4000000 in
set_option maxRecDepth 100000 in
theorem k_X8_makeExtended (l : Launch) (x : CX) (S : ST) (i1 : Nat) (i2 : Nat) (a3 : Int32) (h1 : i1 < 22) (h2 : i2 < 4) {res : Int32 × ST} (hf : f_X8_makeExtended S i1 i2 a3 = some res) (sz : Nat) : Met l yX8_makeExtended (Cond.code yX8_makeExtended cX8_makeExtended 5 (some .boolean) :: GW) ({ frames := 2, cells := 0, slots := 0, locals := 85 } : Room) (PC x S sz [.ref (x.2.2 (79)), .ref (x.2.2 (2 * i1)), .ref (x.2.2 (58 + i2)), .int a3]) (QI x res.2 res.1 sz) 0 0 (AA x sz) := by
  refine Met.ofW (cc := cX8_makeExtended) (maxL := 5) (ret := (some .boolean)) (by decide) rfl ?_
  intro p e s m args below meth c s₁ B hml hv
  obtain ⟨rfl, rfl, hPW⟩ := hv
  have F : MF p m meth c cX8_makeExtended 5 s _ RX8 (some .boolean) := MF.of B hml
  have w := WD.of hPW
  have hl := lv_entry ([.ref (x.2.2 (79)), .ref (x.2.2 (2 * i1)), .ref (x.2.2 (58 + i2)), .int a3]) (n := 5) (Nat.le_of_ble_eq_true rfl)
  rw [lg_entry_eq]
  generalize (lg_sl ([.ref (x.2.2 (79)), .ref (x.2.2 (2 * i1)), .ref (x.2.2 (58 + i2)), .int a3]) ++ List.replicate (5 - (lg_sl ([.ref (x.2.2 (79)), .ref (x.2.2 (2 * i1)), .ref (x.2.2 (58 + i2)), .int a3])).length) Slot.unset).toArray = ls at hl ⊢
  have hl : lv_has ls 5 [(0, .ref (x.2.2 (79))), (1, .ref (x.2.2 (2 * i1))), (2, .ref (x.2.2 (58 + i2))), (3, .int a3)] := hl
  unfold f_X8_makeExtended at hf
  exact b_X8_makeExtended_0 F  _ _ _ _ w i1 i2 a3 h1 h2 (lv_sub hl [0, 1, 2, 3] rfl) hf
theorem cy_X8_finishRuler : CY yX8_finishRuler RX8 cX8_finishRuler 14 (some .boolean) 5 := ⟨q1, q797, rfl, by decide, by decide, by decide +kernel⟩
def f_X8_finishRuler_116 (rec : ST → Nat → Int32 → Int32 → Int64 → Int64 → Option (Int32 × ST)) (k34 : ST → Nat → Int32 → Int32 → Int64 → Int64 → Int32 → Int32 → Int32 → Option (Int32 × ST)) (S : ST) (i0 : Nat) (a1 : Int32) (a2 : Int32) (a3 : Int64) (a5 : Int64) (a7 : Int32) (a8 : Int32) (a9 : Int32) : Option (Int32 × ST) := oL (a9 + 1) (fun (v1 : Int32) => k34 S i0 a1 a2 a3 a5 a7 a8 v1)
set_option maxHeartbeats 4000000 in
set_option maxRecDepth 100000 in
theorem b_X8_finishRuler_116 {p : Program} {l : Launch} {e : Env} {s : State} {m : MethodId} {args : Array Value} {below : List Frame} {meth : Method} {c : Code} {x : CX} {res : Int32 × ST} (F : MF p m meth c cX8_finishRuler 14 s args RX8 (some .boolean)) (d : Nat) (rec : ST → Nat → Int32 → Int32 → Int64 → Int64 → Option (Int32 × ST)) (hrec : ∀ (S : ST) (i0 : Nat) (a1 : Int32) (a2 : Int32) (a3 : Int64) (a5 : Int64) (res : Int32 × ST) (sz : Nat), i0 < 22 → rec S i0 a1 a2 a3 a5 = some res → Met l yX8_finishRuler (Cond.code yX8_finishRuler cX8_finishRuler 14 (some .boolean) :: GW) ({ frames := 2 + d, cells := 0, slots := 0, locals := 41 + 33 * d } : Room) (PC x S sz [.ref (x.2.2 (2 * i0)), .int a1, .int a2, .long a3, .long a5]) (QI x res.2 res.1 sz) 0 0 (AA x sz)) (k34 : ST → Nat → Int32 → Int32 → Int64 → Int64 → Int32 → Int32 → Int32 → Option (Int32 × ST)) (hk34 : ∀ (H : Heap) (locs : List Loc) (ls : Array Slot) (S : ST), WD x s S H locs → ∀ (i0 : Nat) (a1 : Int32) (a2 : Int32) (a3 : Int64) (a5 : Int64) (a7 : Int32) (a8 : Int32) (a9 : Int32), i0 < 22 → lv_has ls 14 [(0, .ref (x.2.2 (2 * i0))), (1, .int a1), (2, .int a2), (3, .long a3), (5, .long a5), (7, .int a7), (8, .int a8), (9, .int a9)] → k34 S i0 a1 a2 a3 a5 a7 a8 a9 = some res → W p l e ({ frames := 2 + (d + 1), cells := 0, slots := 0, locals := 41 + 33 * (d + 1) } : Room) s m args below meth c H locs 0 0 (MQ below (QI x res.2 res.1 s.heap.size) args s 0 0 (AA x s.heap.size)) (F0 m 34 ls [])) : ∀ (H : Heap) (locs : List Loc) (ls : Array Slot) (S : ST), WD x s S H locs → ∀ (i0 : Nat) (a1 : Int32) (a2 : Int32) (a3 : Int64) (a5 : Int64) (a7 : Int32) (a8 : Int32) (a9 : Int32), i0 < 22 → lv_has ls 14 [(0, .ref (x.2.2 (2 * i0))), (1, .int a1), (2, .int a2), (3, .long a3), (5, .long a5), (7, .int a7), (8, .int a8), (9, .int a9)] → f_X8_finishRuler_116 rec k34 S i0 a1 a2 a3 a5 a7 a8 a9 = some res → W p l e ({ frames := 2 + (d + 1), cells := 0, slots := 0, locals := 41 + 33 * (d + 1) } : Room) s m args below meth c H locs 0 0 (MQ below (QI x res.2 res.1 s.heap.size) args s 0 0 (AA x s.heap.size)) (F0 m 116 ls []) := by
  intro H locs ls S w i0 a1 a2 a3 a5 a7 a8 a9 h0 hl hf
  unfold f_X8_finishRuler_116 at hf
  obtain ⟨v1, e_v1⟩ : ∃ y : Int32, y = (a9 + 1) := ⟨_, rfl⟩
  replace hf := oi_l hf e_v1
  refine lv_iinc (v := v1) (lv' := [(9, .int v1), (0, .ref (x.2.2 (2 * i0))), (1, .int a1), (2, .int a2), (3, .long a3), (5, .long a5), (7, .int a7), (8, .int a8)]) F.1 F.2.1 dX8_finishRuler_116 hl (k := 7) rfl (by rw [e_v1]; rfl) (by decide) rfl (fun ls hl => ?_)
  refine lv_goto (tgt := 34) F.1 F.2.1 dX8_finishRuler_119 (by decide) ?_
  exact hk34 _ _ _ _ w i0 a1 a2 a3 a5 a7 a8 v1 h0 (lv_sub hl [1, 2, 3, 4, 5, 6, 7, 0] rfl) hf
def f_X8_finishRuler_34 (rec : ST → Nat → Int32 → Int32 → Int64 → Int64 → Option (Int32 × ST)) : Nat → ST → Nat → Int32 → Int32 → Int64 → Int64 → Int32 → Int32 → Int32 → Option (Int32 × ST)
  | 0, _, _, _, _, _, _, _, _, _ => none
  | n + 1, S, i0, a1, a2, a3, a5, a7, a8, a9 => (if a8 < a9 then some (0, S) else oL (a3 <<< (Int32.toInt64 (a9 - a7) &&& 63)) (fun (v2 : Int64) => oL ((1 : Int64) <<< (Int32.toInt64 (a2 - a9) &&& 63)) (fun (v3 : Int64) => (if (lg_cmp (v2 &&& v3) 0) = 0 then (if (lg_cmp ((v2 ||| v3) &&& a5) 0) = 0 then oV (f_X2_push S i0 a9) (fun (S6 : ST) => oB (rec S6 i0 (a1 - (1 : Int32)) a2 (v2 ||| (1 : Int64)) ((a5 ||| v2) ||| v3)) (fun (r8 : Int32) (S7 : ST) => (if r8 = 0 then oV (f_X2_pop S7 i0) (fun (S10 : ST) => f_X8_finishRuler_116 rec (f_X8_finishRuler_34 rec n) S10 i0 a1 a2 a3 a5 a7 a8 a9) else some (1, S7)))) else f_X8_finishRuler_116 rec (f_X8_finishRuler_34 rec n) S i0 a1 a2 a3 a5 a7 a8 a9) else f_X8_finishRuler_116 rec (f_X8_finishRuler_34 rec n) S i0 a1 a2 a3 a5 a7 a8 a9))))
set_option maxHeartbeats 4000000 in
set_option maxRecDepth 100000 in
theorem b_X8_finishRuler_34 {p : Program} {l : Launch} {e : Env} {s : State} {m : MethodId} {args : Array Value} {below : List Frame} {meth : Method} {c : Code} {x : CX} {res : Int32 × ST} (F : MF p m meth c cX8_finishRuler 14 s args RX8 (some .boolean)) (d : Nat) (rec : ST → Nat → Int32 → Int32 → Int64 → Int64 → Option (Int32 × ST)) (hrec : ∀ (S : ST) (i0 : Nat) (a1 : Int32) (a2 : Int32) (a3 : Int64) (a5 : Int64) (res : Int32 × ST) (sz : Nat), i0 < 22 → rec S i0 a1 a2 a3 a5 = some res → Met l yX8_finishRuler (Cond.code yX8_finishRuler cX8_finishRuler 14 (some .boolean) :: GW) ({ frames := 2 + d, cells := 0, slots := 0, locals := 41 + 33 * d } : Room) (PC x S sz [.ref (x.2.2 (2 * i0)), .int a1, .int a2, .long a3, .long a5]) (QI x res.2 res.1 sz) 0 0 (AA x sz)) : ∀ (n : Nat), ∀ (H : Heap) (locs : List Loc) (ls : Array Slot) (S : ST), WD x s S H locs → ∀ (i0 : Nat) (a1 : Int32) (a2 : Int32) (a3 : Int64) (a5 : Int64) (a7 : Int32) (a8 : Int32) (a9 : Int32), i0 < 22 → lv_has ls 14 [(0, .ref (x.2.2 (2 * i0))), (1, .int a1), (2, .int a2), (3, .long a3), (5, .long a5), (7, .int a7), (8, .int a8), (9, .int a9)] → f_X8_finishRuler_34 rec n S i0 a1 a2 a3 a5 a7 a8 a9 = some res → W p l e ({ frames := 2 + (d + 1), cells := 0, slots := 0, locals := 41 + 33 * (d + 1) } : Room) s m args below meth c H locs 0 0 (MQ below (QI x res.2 res.1 s.heap.size) args s 0 0 (AA x s.heap.size)) (F0 m 34 ls []) := by
  intro n
  induction n with
  | zero =>
    intro H locs ls S w i0 a1 a2 a3 a5 a7 a8 a9 h0 hl hf
    have hf : (none : Option (Int32 × ST)) = some res := hf
    cases hf
  | succ n ih =>
    intro H locs ls S w i0 a1 a2 a3 a5 a7 a8 a9 h0 hl hf
    unfold f_X8_finishRuler_34 at hf
    refine lv_iload F.1 F.2.1 dX8_finishRuler_34 (lv_at hl 7 rfl) ?_
    refine lv_iload F.1 F.2.1 dX8_finishRuler_36 (lv_at hl 6 rfl) ?_
    refine lv_icmp_gt (tgt := 122) F.1 F.2.1 dX8_finishRuler_38 (by decide) (fun c1 => ?_) (fun c1 => ?_)
    · replace hf := oi_t hf c1
      refine lv_iconst (v := 0) F.1 F.2.1 dX8_finishRuler_122 (by decide) ?_
      exact r_zret F w rfl (oi_s hf) dX8_finishRuler_123
    · replace hf := oi_f hf c1
      refine lv_lload_n F.1 F.2.1 dX8_finishRuler_41 rfl (lv_at hl 3 rfl) ?_
      refine lv_iload F.1 F.2.1 dX8_finishRuler_42 (lv_at hl 7 rfl) ?_
      refine lv_iload F.1 F.2.1 dX8_finishRuler_44 (lv_at hl 5 rfl) ?_
      refine lv_isub F.1 F.2.1 dX8_finishRuler_46 ?_
      refine lv_lshl (v := (a3 <<< (Int32.toInt64 (a9 - a7) &&& 63))) F.1 F.2.1 dX8_finishRuler_47 rfl ?_
      refine lv_topl (fun v2 e_v2 => ?_)
      replace hf := oi_l hf e_v2
      refine lv_lstore (lv' := [(10, .long v2), (0, .ref (x.2.2 (2 * i0))), (1, .int a1), (2, .int a2), (3, .long a3), (5, .long a5), (7, .int a7), (8, .int a8), (9, .int a9)]) F.1 F.2.1 dX8_finishRuler_48 hl (by decide) rfl (fun ls hl => ?_)
      refine lv_lconst (v := 1) F.1 F.2.1 dX8_finishRuler_50 (by decide) ?_
      refine lv_iload_n F.1 F.2.1 dX8_finishRuler_51 rfl (lv_at hl 3 rfl) ?_
      refine lv_iload F.1 F.2.1 dX8_finishRuler_52 (lv_at hl 8 rfl) ?_
      refine lv_isub F.1 F.2.1 dX8_finishRuler_54 ?_
      refine lv_lshl (v := ((1 : Int64) <<< (Int32.toInt64 (a2 - a9) &&& 63))) F.1 F.2.1 dX8_finishRuler_55 rfl ?_
      refine lv_topl (fun v3 e_v3 => ?_)
      replace hf := oi_l hf e_v3
      refine lv_lstore (lv' := [(12, .long v3), (10, .long v2), (0, .ref (x.2.2 (2 * i0))), (1, .int a1), (2, .int a2), (3, .long a3), (5, .long a5), (7, .int a7), (8, .int a8), (9, .int a9)]) F.1 F.2.1 dX8_finishRuler_56 hl (by decide) rfl (fun ls hl => ?_)
      refine lv_lload F.1 F.2.1 dX8_finishRuler_58 (lv_at hl 1 rfl) ?_
      refine lv_lload F.1 F.2.1 dX8_finishRuler_60 (lv_at hl 0 rfl) ?_
      refine lv_land F.1 F.2.1 dX8_finishRuler_62 ?_
      refine lv_lconst (v := 0) F.1 F.2.1 dX8_finishRuler_63 (by decide) ?_
      refine W.lcmp F.1 F.2.1 dX8_finishRuler_64 ?_
      refine lv_if_ne (tgt := 116) F.1 F.2.1 dX8_finishRuler_65 (by decide) (fun c4 => ?_) (fun c4 => ?_)
      · replace hf := oi_f hf c4
        exact b_X8_finishRuler_116 F d rec hrec (f_X8_finishRuler_34 rec n) ih _ _ _ _ w i0 a1 a2 a3 a5 a7 a8 a9 h0 (lv_sub hl [2, 3, 4, 5, 6, 7, 8, 9] rfl) hf
      · replace hf := oi_t hf c4
        refine lv_lload F.1 F.2.1 dX8_finishRuler_68 (lv_at hl 1 rfl) ?_
        refine lv_lload F.1 F.2.1 dX8_finishRuler_70 (lv_at hl 0 rfl) ?_
        refine lv_lor F.1 F.2.1 dX8_finishRuler_72 ?_
        refine lv_lload F.1 F.2.1 dX8_finishRuler_73 (lv_at hl 6 rfl) ?_
        refine lv_land F.1 F.2.1 dX8_finishRuler_75 ?_
        refine lv_lconst (v := 0) F.1 F.2.1 dX8_finishRuler_76 (by decide) ?_
        refine W.lcmp F.1 F.2.1 dX8_finishRuler_77 ?_
        refine lv_if_ne (tgt := 116) F.1 F.2.1 dX8_finishRuler_78 (by decide) (fun c5 => ?_) (fun c5 => ?_)
        · replace hf := oi_f hf c5
          exact b_X8_finishRuler_116 F d rec hrec (f_X8_finishRuler_34 rec n) ih _ _ _ _ w i0 a1 a2 a3 a5 a7 a8 a9 h0 (lv_sub hl [2, 3, 4, 5, 6, 7, 8, 9] rfl) hf
        · replace hf := oi_t hf c5
          refine lv_aload_n F.1 F.2.1 dX8_finishRuler_81 rfl (lv_at hl 2 rfl) ?_
          refine lv_iload F.1 F.2.1 dX8_finishRuler_82 (lv_at hl 9 rfl) ?_
          obtain ⟨S6, hc, hf⟩ := oi_v hf
          refine k_v0 (S' := S6) w (runV (As := [.int a9]) (rest := []) (kb := 2 * i0) F w (k_X2_push l x S i0 a9 h0 hc H.size) cy_X2_push q653 q459 q460 ⟨rfl, rfl⟩ ⟨by show _ ≤ _; dsimp only; omega, by show _ ≤ _; dsimp only; omega⟩ (k_ms h0) (enc_ms x S h0) rfl rfl rfl hl.1 (Nat.le_of_ble_eq_true rfl) ⟨by show _ ≤ _; dsimp only; omega, by show _ ≤ _; dsimp only; omega⟩ dX8_finishRuler_84) (fun H locs w => ?_)
          refine lv_aload_n F.1 F.2.1 dX8_finishRuler_87 rfl (lv_at hl 2 rfl) ?_
          refine lv_iload_n F.1 F.2.1 dX8_finishRuler_88 rfl (lv_at hl 3 rfl) ?_
          refine lv_iconst (v := 1) F.1 F.2.1 dX8_finishRuler_89 (by decide) ?_
          refine lv_isub F.1 F.2.1 dX8_finishRuler_90 ?_
          refine lv_iload_n F.1 F.2.1 dX8_finishRuler_91 rfl (lv_at hl 4 rfl) ?_
          refine lv_lload F.1 F.2.1 dX8_finishRuler_92 (lv_at hl 1 rfl) ?_
          refine lv_lconst (v := 1) F.1 F.2.1 dX8_finishRuler_94 (by decide) ?_
          refine lv_lor F.1 F.2.1 dX8_finishRuler_95 ?_
          refine lv_lload F.1 F.2.1 dX8_finishRuler_96 (lv_at hl 6 rfl) ?_
          refine lv_lload F.1 F.2.1 dX8_finishRuler_98 (lv_at hl 1 rfl) ?_
          refine lv_lor F.1 F.2.1 dX8_finishRuler_100 ?_
          refine lv_lload F.1 F.2.1 dX8_finishRuler_101 (lv_at hl 0 rfl) ?_
          refine lv_lor F.1 F.2.1 dX8_finishRuler_103 ?_
          obtain ⟨r8, S7, hc, hf⟩ := oi_b hf
          refine k_i0 (S' := S7) (r := r8) w (runS (As := [.ref (x.2.2 (2 * i0)), .int (a1 - (1 : Int32)), .int a2, .long (v2 ||| (1 : Int64)), .long ((a5 ||| v2) ||| v3)]) (rest := []) F w (hrec S6 i0 (a1 - (1 : Int32)) a2 (v2 ||| (1 : Int64)) ((a5 ||| v2) ||| v3) _ H.size h0 hc) cy_X8_finishRuler q795 q796 ⟨rfl, rfl⟩ ⟨by show _ ≤ _; dsimp only; omega, by show _ ≤ _; dsimp only; omega⟩ rfl rfl hl.1 (Nat.le_of_ble_eq_true rfl) ⟨by show _ ≤ _; dsimp only; omega, by show _ ≤ _; dsimp only; omega⟩ dX8_finishRuler_104) (fun H locs w => ?_)
          refine lv_if_eq (tgt := 112) F.1 F.2.1 dX8_finishRuler_107 (by decide) (fun c9 => ?_) (fun c9 => ?_)
          · replace hf := oi_t hf c9
            refine lv_aload_n F.1 F.2.1 dX8_finishRuler_112 rfl (lv_at hl 2 rfl) ?_
            obtain ⟨S10, hc, hf⟩ := oi_v hf
            refine k_v0 (S' := S10) w (runV (As := []) (rest := []) (kb := 2 * i0) F w (k_X2_pop l x S7 i0 h0 hc H.size) cy_X2_pop q798 q799 q800 ⟨rfl, rfl⟩ ⟨by show _ ≤ _; dsimp only; omega, by show _ ≤ _; dsimp only; omega⟩ (k_ms h0) (enc_ms x S7 h0) rfl rfl rfl hl.1 (Nat.le_of_ble_eq_true rfl) ⟨by show _ ≤ _; dsimp only; omega, by show _ ≤ _; dsimp only; omega⟩ dX8_finishRuler_113) (fun H locs w => ?_)
            exact b_X8_finishRuler_116 F d rec hrec (f_X8_finishRuler_34 rec n) ih _ _ _ _ w i0 a1 a2 a3 a5 a7 a8 a9 h0 (lv_sub hl [2, 3, 4, 5, 6, 7, 8, 9] rfl) hf
          · replace hf := oi_f hf c9
            refine lv_iconst (v := 1) F.1 F.2.1 dX8_finishRuler_110 (by decide) ?_
            exact r_zret F w rfl (oi_s hf) dX8_finishRuler_111
def f_X8_finishRuler_0 (rec : ST → Nat → Int32 → Int32 → Int64 → Int64 → Option (Int32 × ST)) (S : ST) (i0 : Nat) (a1 : Int32) (a2 : Int32) (a3 : Int64) (a5 : Int64) : Option (Int32 × ST) := (if 0 < a1 then oB (f_X2_greatest S i0) (fun (r3 : Int32) (S2 : ST) => oG (nz 2) (oL (a2 - ((a1 * (a1 + (1 : Int32))) / 2)) (fun (v5 : Int32) => oL (r3 + (1 : Int32)) (fun (v6 : Int32) => f_X8_finishRuler_34 rec FU S2 i0 a1 a2 a3 a5 r3 v5 v6)))) else oV (f_X2_push S i0 a2) (fun (S7 : ST) => some (1, S7)))
set_option maxHeartbeats 4000000 in
set_option maxRecDepth 100000 in
theorem b_X8_finishRuler_0 {p : Program} {l : Launch} {e : Env} {s : State} {m : MethodId} {args : Array Value} {below : List Frame} {meth : Method} {c : Code} {x : CX} {res : Int32 × ST} (F : MF p m meth c cX8_finishRuler 14 s args RX8 (some .boolean)) (d : Nat) (rec : ST → Nat → Int32 → Int32 → Int64 → Int64 → Option (Int32 × ST)) (hrec : ∀ (S : ST) (i0 : Nat) (a1 : Int32) (a2 : Int32) (a3 : Int64) (a5 : Int64) (res : Int32 × ST) (sz : Nat), i0 < 22 → rec S i0 a1 a2 a3 a5 = some res → Met l yX8_finishRuler (Cond.code yX8_finishRuler cX8_finishRuler 14 (some .boolean) :: GW) ({ frames := 2 + d, cells := 0, slots := 0, locals := 41 + 33 * d } : Room) (PC x S sz [.ref (x.2.2 (2 * i0)), .int a1, .int a2, .long a3, .long a5]) (QI x res.2 res.1 sz) 0 0 (AA x sz)) : ∀ (H : Heap) (locs : List Loc) (ls : Array Slot) (S : ST), WD x s S H locs → ∀ (i0 : Nat) (a1 : Int32) (a2 : Int32) (a3 : Int64) (a5 : Int64), i0 < 22 → lv_has ls 14 [(0, .ref (x.2.2 (2 * i0))), (1, .int a1), (2, .int a2), (3, .long a3), (5, .long a5)] → f_X8_finishRuler_0 rec S i0 a1 a2 a3 a5 = some res → W p l e ({ frames := 2 + (d + 1), cells := 0, slots := 0, locals := 41 + 33 * (d + 1) } : Room) s m args below meth c H locs 0 0 (MQ below (QI x res.2 res.1 s.heap.size) args s 0 0 (AA x s.heap.size)) (F0 m 0 ls []) := by
  intro H locs ls S w i0 a1 a2 a3 a5 h0 hl hf
  unfold f_X8_finishRuler_0 at hf
  refine lv_iload_n F.1 F.2.1 dX8_finishRuler_0 rfl (lv_at hl 1 rfl) ?_
  refine lv_if_gt (tgt := 11) F.1 F.2.1 dX8_finishRuler_1 (by decide) (fun c1 => ?_) (fun c1 => ?_)
  · replace hf := oi_t hf c1
    refine lv_aload_n F.1 F.2.1 dX8_finishRuler_11 rfl (lv_at hl 0 rfl) ?_
    obtain ⟨r3, S2, hc, hf⟩ := oi_b hf
    refine k_i0 (S' := S2) (r := r3) w (runV (As := []) (rest := []) (kb := 2 * i0) F w (k_X2_greatest l x S i0 h0 hc H.size) cy_X2_greatest q256 q257 q258 ⟨rfl, rfl⟩ ⟨by show _ ≤ _; dsimp only; omega, by show _ ≤ _; dsimp only; omega⟩ (k_ms h0) (enc_ms x S h0) rfl rfl rfl hl.1 (Nat.le_of_ble_eq_true rfl) ⟨by show _ ≤ _; dsimp only; omega, by show _ ≤ _; dsimp only; omega⟩ dX8_finishRuler_12) (fun H locs w => ?_)
    refine lv_istore (lv' := [(7, .int r3), (0, .ref (x.2.2 (2 * i0))), (1, .int a1), (2, .int a2), (3, .long a3), (5, .long a5)]) F.1 F.2.1 dX8_finishRuler_15 hl (by decide) rfl (fun ls hl => ?_)
    refine lv_iload_n F.1 F.2.1 dX8_finishRuler_17 rfl (lv_at hl 3 rfl) ?_
    refine lv_iload_n F.1 F.2.1 dX8_finishRuler_18 rfl (lv_at hl 2 rfl) ?_
    refine lv_iload_n F.1 F.2.1 dX8_finishRuler_19 rfl (lv_at hl 2 rfl) ?_
    refine lv_iconst (v := 1) F.1 F.2.1 dX8_finishRuler_20 (by decide) ?_
    refine lv_iadd F.1 F.2.1 dX8_finishRuler_21 ?_
    refine lv_imul F.1 F.2.1 dX8_finishRuler_22 ?_
    refine lv_iconst (v := 2) F.1 F.2.1 dX8_finishRuler_23 (by decide) ?_
    obtain ⟨hz4, hf⟩ := oi_g hf
    refine lv_idiv F.1 F.2.1 dX8_finishRuler_24 (nz_ne hz4) ?_
    refine lv_isub F.1 F.2.1 dX8_finishRuler_25 ?_
    refine lv_topi (fun v5 e_v5 => ?_)
    replace hf := oi_l hf e_v5
    refine lv_istore (lv' := [(8, .int v5), (7, .int r3), (0, .ref (x.2.2 (2 * i0))), (1, .int a1), (2, .int a2), (3, .long a3), (5, .long a5)]) F.1 F.2.1 dX8_finishRuler_26 hl (by decide) rfl (fun ls hl => ?_)
    refine lv_iload F.1 F.2.1 dX8_finishRuler_28 (lv_at hl 1 rfl) ?_
    refine lv_iconst (v := 1) F.1 F.2.1 dX8_finishRuler_30 (by decide) ?_
    refine lv_iadd F.1 F.2.1 dX8_finishRuler_31 ?_
    refine lv_topi (fun v6 e_v6 => ?_)
    replace hf := oi_l hf e_v6
    refine lv_istore (lv' := [(9, .int v6), (8, .int v5), (7, .int r3), (0, .ref (x.2.2 (2 * i0))), (1, .int a1), (2, .int a2), (3, .long a3), (5, .long a5)]) F.1 F.2.1 dX8_finishRuler_32 hl (by decide) rfl (fun ls hl => ?_)
    exact b_X8_finishRuler_34 F d rec hrec FU _ _ _ _ w i0 a1 a2 a3 a5 r3 v5 v6 h0 (lv_sub hl [3, 4, 5, 6, 7, 2, 1, 0] rfl) hf
  · replace hf := oi_f hf c1
    refine lv_aload_n F.1 F.2.1 dX8_finishRuler_4 rfl (lv_at hl 0 rfl) ?_
    refine lv_iload_n F.1 F.2.1 dX8_finishRuler_5 rfl (lv_at hl 2 rfl) ?_
    obtain ⟨S7, hc, hf⟩ := oi_v hf
    refine k_v0 (S' := S7) w (runV (As := [.int a2]) (rest := []) (kb := 2 * i0) F w (k_X2_push l x S i0 a2 h0 hc H.size) cy_X2_push q653 q459 q460 ⟨rfl, rfl⟩ ⟨by show _ ≤ _; dsimp only; omega, by show _ ≤ _; dsimp only; omega⟩ (k_ms h0) (enc_ms x S h0) rfl rfl rfl hl.1 (Nat.le_of_ble_eq_true rfl) ⟨by show _ ≤ _; dsimp only; omega, by show _ ≤ _; dsimp only; omega⟩ dX8_finishRuler_6) (fun H locs w => ?_)
    refine lv_iconst (v := 1) F.1 F.2.1 dX8_finishRuler_9 (by decide) ?_
    exact r_zret F w rfl (oi_s hf) dX8_finishRuler_10
def g_X8_finishRuler (rec : ST → Nat → Int32 → Int32 → Int64 → Int64 → Option (Int32 × ST)) (S : ST) (i0 : Nat) (a1 : Int32) (a2 : Int32) (a3 : Int64) (a5 : Int64) : Option (Int32 × ST) := f_X8_finishRuler_0 rec S i0 a1 a2 a3 a5
def f_X8_finishRuler_n : Nat → ST → Nat → Int32 → Int32 → Int64 → Int64 → Option (Int32 × ST)
  | 0, _, _, _, _, _, _ => none
  | d + 1, S, i0, a1, a2, a3, a5 => g_X8_finishRuler (f_X8_finishRuler_n d) S i0 a1 a2 a3 a5
def f_X8_finishRuler (S : ST) (i0 : Nat) (a1 : Int32) (a2 : Int32) (a3 : Int64) (a5 : Int64) : Option (Int32 × ST) := f_X8_finishRuler_n RD S i0 a1 a2 a3 a5
set_option maxHeartbeats 4000000 in
set_option maxRecDepth 100000 in
theorem kr_X8_finishRuler (l : Launch) (x : CX) (d : Nat) (rec : ST → Nat → Int32 → Int32 → Int64 → Int64 → Option (Int32 × ST)) (hrec : ∀ (S : ST) (i0 : Nat) (a1 : Int32) (a2 : Int32) (a3 : Int64) (a5 : Int64) (res : Int32 × ST) (sz : Nat), i0 < 22 → rec S i0 a1 a2 a3 a5 = some res → Met l yX8_finishRuler (Cond.code yX8_finishRuler cX8_finishRuler 14 (some .boolean) :: GW) ({ frames := 2 + d, cells := 0, slots := 0, locals := 41 + 33 * d } : Room) (PC x S sz [.ref (x.2.2 (2 * i0)), .int a1, .int a2, .long a3, .long a5]) (QI x res.2 res.1 sz) 0 0 (AA x sz)) (S : ST) (i0 : Nat) (a1 : Int32) (a2 : Int32) (a3 : Int64) (a5 : Int64) (h0 : i0 < 22) {res : Int32 × ST} (hf : g_X8_finishRuler rec S i0 a1 a2 a3 a5 = some res) (sz : Nat) : Met l yX8_finishRuler (Cond.code yX8_finishRuler cX8_finishRuler 14 (some .boolean) :: GW) ({ frames := 2 + (d + 1), cells := 0, slots := 0, locals := 41 + 33 * (d + 1) } : Room) (PC x S sz [.ref (x.2.2 (2 * i0)), .int a1, .int a2, .long a3, .long a5]) (QI x res.2 res.1 sz) 0 0 (AA x sz) := by
  refine Met.ofW (cc := cX8_finishRuler) (maxL := 14) (ret := (some .boolean)) (by decide) rfl ?_
  intro p e s m args below meth c s₁ B hml hv
  obtain ⟨rfl, rfl, hPW⟩ := hv
  have F : MF p m meth c cX8_finishRuler 14 s _ RX8 (some .boolean) := MF.of B hml
  have w := WD.of hPW
  have hl := lv_entry ([.ref (x.2.2 (2 * i0)), .int a1, .int a2, .long a3, .long a5]) (n := 14) (Nat.le_of_ble_eq_true rfl)
  rw [lg_entry_eq]
  generalize (lg_sl ([.ref (x.2.2 (2 * i0)), .int a1, .int a2, .long a3, .long a5]) ++ List.replicate (14 - (lg_sl ([.ref (x.2.2 (2 * i0)), .int a1, .int a2, .long a3, .long a5])).length) Slot.unset).toArray = ls at hl ⊢
  have hl : lv_has ls 14 [(0, .ref (x.2.2 (2 * i0))), (1, .int a1), (2, .int a2), (3, .long a3), (5, .long a5)] := hl
  unfold g_X8_finishRuler at hf
  exact b_X8_finishRuler_0 F d rec hrec  _ _ _ _ w i0 a1 a2 a3 a5 h0 (lv_sub hl [0, 1, 2, 3, 4] rfl) hf
theorem kn_X8_finishRuler (l : Launch) (x : CX) : ∀ (d : Nat) (S : ST) (i0 : Nat) (a1 : Int32) (a2 : Int32) (a3 : Int64) (a5 : Int64) (res : Int32 × ST) (sz : Nat), i0 < 22 → f_X8_finishRuler_n d S i0 a1 a2 a3 a5 = some res → Met l yX8_finishRuler (Cond.code yX8_finishRuler cX8_finishRuler 14 (some .boolean) :: GW) ({ frames := 2 + d, cells := 0, slots := 0, locals := 41 + 33 * d } : Room) (PC x S sz [.ref (x.2.2 (2 * i0)), .int a1, .int a2, .long a3, .long a5]) (QI x res.2 res.1 sz) 0 0 (AA x sz)
  | 0, _, _, _, _, _, _, _, _, _, h => by have h : (none : Option (Int32 × ST)) = some _ := h; cases h
  | d + 1, S, i0, a1, a2, a3, a5, res, sz, h0, h => kr_X8_finishRuler l x d (f_X8_finishRuler_n d) (kn_X8_finishRuler l x d) S i0 a1 a2 a3 a5 h0 h sz
theorem k_X8_finishRuler (l : Launch) (x : CX) (S : ST) (i0 : Nat) (a1 : Int32) (a2 : Int32) (a3 : Int64) (a5 : Int64) (h0 : i0 < 22) {res : Int32 × ST} (hf : f_X8_finishRuler S i0 a1 a2 a3 a5 = some res) (sz : Nat) : Met l yX8_finishRuler (Cond.code yX8_finishRuler cX8_finishRuler 14 (some .boolean) :: GW) ({ frames := 26, cells := 0, slots := 0, locals := 833 } : Room) (PC x S sz [.ref (x.2.2 (2 * i0)), .int a1, .int a2, .long a3, .long a5]) (QI x res.2 res.1 sz) 0 0 (AA x sz) := kn_X8_finishRuler l x RD S i0 a1 a2 a3 a5 res sz h0 hf
theorem cy_X8_makeOptimal : CY yX8_makeOptimal RX8 cX8_makeOptimal 4 none 1 := ⟨q1, q794, rfl, by decide, by decide, by decide +kernel⟩
def f_X8_makeOptimal_66 (S : ST)  : Option (ST) := some S
set_option maxHeartbeats 4000000 in
set_option maxRecDepth 100000 in
theorem b_X8_makeOptimal_66 {p : Program} {l : Launch} {e : Env} {s : State} {m : MethodId} {args : Array Value} {below : List Frame} {meth : Method} {c : Code} {x : CX} {res : ST} (F : MF p m meth c cX8_makeOptimal 4 s args RX8 none) : ∀ (H : Heap) (locs : List Loc) (ls : Array Slot) (S : ST), WD x s S H locs → lv_has ls 4 [] → f_X8_makeOptimal_66 S = some res → W p l e ({ frames := 27, cells := 0, slots := 0, locals := 866 } : Room) s m args below meth c H locs 0 0 (MQ below (QV x res s.heap.size) args s 0 0 (AA x s.heap.size)) (F0 m 66 ls []) := by
  intro H locs ls S w hl hf
  unfold f_X8_makeOptimal_66 at hf
  exact r_vret F w (oi_s hf) dX8_makeOptimal_66
def f_X8_makeOptimal_34 : Nat → ST → Int32 → Int32 → Int32 → Option (ST)
  | 0, _, _, _, _ => none
  | n + 1, S, a1, a2, a3 => (if a2 = 0 then (if 63 < a3 then f_X8_makeOptimal_66 S else oB (f_X8_finishRuler S 20 (a1 - (2 : Int32)) a3 1 ((1 : Int64) <<< (Int32.toInt64 a3 &&& 63))) (fun (r4 : Int32) (S3 : ST) => oL (a3 + 1) (fun (v5 : Int32) => (f_X8_makeOptimal_34 n) S3 a1 r4 v5))) else f_X8_makeOptimal_66 S)
set_option maxHeartbeats 4000000 in
set_option maxRecDepth 100000 in
theorem b_X8_makeOptimal_34 {p : Program} {l : Launch} {e : Env} {s : State} {m : MethodId} {args : Array Value} {below : List Frame} {meth : Method} {c : Code} {x : CX} {res : ST} (F : MF p m meth c cX8_makeOptimal 4 s args RX8 none) : ∀ (n : Nat), ∀ (H : Heap) (locs : List Loc) (ls : Array Slot) (S : ST), WD x s S H locs → ∀ (a1 : Int32) (a2 : Int32) (a3 : Int32), lv_has ls 4 [(0, .ref (x.2.2 (79))), (1, .int a1), (2, .int a2), (3, .int a3)] → f_X8_makeOptimal_34 n S a1 a2 a3 = some res → W p l e ({ frames := 27, cells := 0, slots := 0, locals := 866 } : Room) s m args below meth c H locs 0 0 (MQ below (QV x res s.heap.size) args s 0 0 (AA x s.heap.size)) (F0 m 34 ls []) := by
  intro n
  induction n with
  | zero =>
    intro H locs ls S w a1 a2 a3 hl hf
    have hf : (none : Option (ST)) = some res := hf
    cases hf
  | succ n ih =>
    intro H locs ls S w a1 a2 a3 hl hf
    unfold f_X8_makeOptimal_34 at hf
    refine lv_iload_n F.1 F.2.1 dX8_makeOptimal_34 rfl (lv_at hl 2 rfl) ?_
    refine lv_if_ne (tgt := 66) F.1 F.2.1 dX8_makeOptimal_35 (by decide) (fun c1 => ?_) (fun c1 => ?_)
    · replace hf := oi_f hf c1
      exact b_X8_makeOptimal_66 F  _ _ _ _ w  (lv_sub hl [] rfl) hf
    · replace hf := oi_t hf c1
      refine lv_iload_n F.1 F.2.1 dX8_makeOptimal_38 rfl (lv_at hl 3 rfl) ?_
      refine lv_bipush (v := 63) F.1 F.2.1 dX8_makeOptimal_39 (by decide) ?_
      refine lv_icmp_gt (tgt := 66) F.1 F.2.1 dX8_makeOptimal_41 (by decide) (fun c2 => ?_) (fun c2 => ?_)
      · replace hf := oi_t hf c2
        exact b_X8_makeOptimal_66 F  _ _ _ _ w  (lv_sub hl [] rfl) hf
      · replace hf := oi_f hf c2
        refine lv_aload_n F.1 F.2.1 dX8_makeOptimal_44 rfl (lv_at hl 0 rfl) ?_
        refine g_RW_made F w q164 dX8_makeOptimal_45 ?_
        refine lv_iload_n F.1 F.2.1 dX8_makeOptimal_48 rfl (lv_at hl 1 rfl) ?_
        refine lv_iconst (v := 2) F.1 F.2.1 dX8_makeOptimal_49 (by decide) ?_
        refine lv_isub F.1 F.2.1 dX8_makeOptimal_50 ?_
        refine lv_iload_n F.1 F.2.1 dX8_makeOptimal_51 rfl (lv_at hl 3 rfl) ?_
        refine lv_lconst (v := 1) F.1 F.2.1 dX8_makeOptimal_52 (by decide) ?_
        refine lv_lconst (v := 1) F.1 F.2.1 dX8_makeOptimal_53 (by decide) ?_
        refine lv_iload_n F.1 F.2.1 dX8_makeOptimal_54 rfl (lv_at hl 3 rfl) ?_
        refine lv_lshl (v := ((1 : Int64) <<< (Int32.toInt64 a3 &&& 63))) F.1 F.2.1 dX8_makeOptimal_55 rfl ?_
        obtain ⟨r4, S3, hc, hf⟩ := oi_b hf
        refine k_i0 (S' := S3) (r := r4) w (runS (As := [.ref (x.2.2 (2 * 20)), .int (a1 - (2 : Int32)), .int a3, .long 1, .long ((1 : Int64) <<< (Int32.toInt64 a3 &&& 63))]) (rest := []) F w (k_X8_finishRuler l x S 20 (a1 - (2 : Int32)) a3 1 ((1 : Int64) <<< (Int32.toInt64 a3 &&& 63)) (by decide) hc H.size) cy_X8_finishRuler q795 q796 ⟨rfl, rfl⟩ ⟨Nat.le_of_ble_eq_true rfl, Nat.le_of_ble_eq_true rfl⟩ rfl rfl hl.1 (Nat.le_of_ble_eq_true rfl) ⟨Nat.le_of_ble_eq_true rfl, Nat.le_of_ble_eq_true rfl⟩ dX8_makeOptimal_56) (fun H locs w => ?_)
        refine lv_istore_n (lv' := [(2, .int r4), (0, .ref (x.2.2 (79))), (1, .int a1), (3, .int a3)]) F.1 F.2.1 dX8_makeOptimal_59 rfl hl (by decide) rfl (fun ls hl => ?_)
        obtain ⟨v5, e_v5⟩ : ∃ y : Int32, y = (a3 + 1) := ⟨_, rfl⟩
        replace hf := oi_l hf e_v5
        refine lv_iinc (v := v5) (lv' := [(3, .int v5), (2, .int r4), (0, .ref (x.2.2 (79))), (1, .int a1)]) F.1 F.2.1 dX8_makeOptimal_60 hl (k := 3) rfl (by rw [e_v5]; rfl) (by decide) rfl (fun ls hl => ?_)
        refine lv_goto (tgt := 34) F.1 F.2.1 dX8_makeOptimal_63 (by decide) ?_
        exact ih _ _ _ _ w a1 r4 v5 (lv_sub hl [2, 3, 1, 0] rfl) hf
def f_X8_makeOptimal_25 (S : ST) (a1 : Int32) (as0 : Int32) : Option (ST) := oG (nz 2) (oL ((a1 * (a1 - (1 : Int32))) / 2) (fun (v2 : Int32) => f_X8_makeOptimal_34 FU S a1 as0 v2))
set_option maxHeartbeats 4000000 in
set_option maxRecDepth 100000 in
theorem b_X8_makeOptimal_25 {p : Program} {l : Launch} {e : Env} {s : State} {m : MethodId} {args : Array Value} {below : List Frame} {meth : Method} {c : Code} {x : CX} {res : ST} (F : MF p m meth c cX8_makeOptimal 4 s args RX8 none) : ∀ (H : Heap) (locs : List Loc) (ls : Array Slot) (S : ST), WD x s S H locs → ∀ (a1 : Int32) (as0 : Int32), lv_has ls 4 [(0, .ref (x.2.2 (79))), (1, .int a1)] → f_X8_makeOptimal_25 S a1 as0 = some res → W p l e ({ frames := 27, cells := 0, slots := 0, locals := 866 } : Room) s m args below meth c H locs 0 0 (MQ below (QV x res s.heap.size) args s 0 0 (AA x s.heap.size)) (F0 m 25 ls [.int as0]) := by
  intro H locs ls S w a1 as0 hl hf
  unfold f_X8_makeOptimal_25 at hf
  refine lv_istore_n (lv' := [(2, .int as0), (0, .ref (x.2.2 (79))), (1, .int a1)]) F.1 F.2.1 dX8_makeOptimal_25 rfl hl (by decide) rfl (fun ls hl => ?_)
  refine lv_iload_n F.1 F.2.1 dX8_makeOptimal_26 rfl (lv_at hl 2 rfl) ?_
  refine lv_iload_n F.1 F.2.1 dX8_makeOptimal_27 rfl (lv_at hl 2 rfl) ?_
  refine lv_iconst (v := 1) F.1 F.2.1 dX8_makeOptimal_28 (by decide) ?_
  refine lv_isub F.1 F.2.1 dX8_makeOptimal_29 ?_
  refine lv_imul F.1 F.2.1 dX8_makeOptimal_30 ?_
  refine lv_iconst (v := 2) F.1 F.2.1 dX8_makeOptimal_31 (by decide) ?_
  obtain ⟨hz1, hf⟩ := oi_g hf
  refine lv_idiv F.1 F.2.1 dX8_makeOptimal_32 (nz_ne hz1) ?_
  refine lv_topi (fun v2 e_v2 => ?_)
  replace hf := oi_l hf e_v2
  refine lv_istore_n (lv' := [(3, .int v2), (2, .int as0), (0, .ref (x.2.2 (79))), (1, .int a1)]) F.1 F.2.1 dX8_makeOptimal_33 rfl hl (by decide) rfl (fun ls hl => ?_)
  exact b_X8_makeOptimal_34 F FU _ _ _ _ w a1 as0 v2 (lv_sub hl [2, 3, 1, 0] rfl) hf
def f_X8_makeOptimal_0 (S : ST) (a1 : Int32) : Option (ST) := oV (f_X2_empty S 20) (fun (S1 : ST) => oV (f_X2_push S1 20 0) (fun (S2 : ST) => (if 2 ≤ a1 then f_X8_makeOptimal_25 S2 a1 0 else f_X8_makeOptimal_25 S2 a1 1)))
set_option maxHeartbeats 4000000 in
set_option maxRecDepth 100000 in
theorem b_X8_makeOptimal_0 {p : Program} {l : Launch} {e : Env} {s : State} {m : MethodId} {args : Array Value} {below : List Frame} {meth : Method} {c : Code} {x : CX} {res : ST} (F : MF p m meth c cX8_makeOptimal 4 s args RX8 none) : ∀ (H : Heap) (locs : List Loc) (ls : Array Slot) (S : ST), WD x s S H locs → ∀ (a1 : Int32), lv_has ls 4 [(0, .ref (x.2.2 (79))), (1, .int a1)] → f_X8_makeOptimal_0 S a1 = some res → W p l e ({ frames := 27, cells := 0, slots := 0, locals := 866 } : Room) s m args below meth c H locs 0 0 (MQ below (QV x res s.heap.size) args s 0 0 (AA x s.heap.size)) (F0 m 0 ls []) := by
  intro H locs ls S w a1 hl hf
  unfold f_X8_makeOptimal_0 at hf
  refine lv_aload_n F.1 F.2.1 dX8_makeOptimal_0 rfl (lv_at hl 0 rfl) ?_
  refine g_RW_made F w q164 dX8_makeOptimal_1 ?_
  obtain ⟨S1, hc, hf⟩ := oi_v hf
  refine k_v0 (S' := S1) w (runV (As := []) (rest := []) (kb := 2 * 20) F w (k_X2_empty l x S 20 (by decide) hc H.size) cy_X2_empty q504 q455 q456 ⟨rfl, rfl⟩ ⟨Nat.le_of_ble_eq_true rfl, Nat.le_of_ble_eq_true rfl⟩ (k_ms (by decide)) (enc_ms x S (by decide)) rfl rfl rfl hl.1 (Nat.le_of_ble_eq_true rfl) ⟨Nat.le_of_ble_eq_true rfl, Nat.le_of_ble_eq_true rfl⟩ dX8_makeOptimal_4) (fun H locs w => ?_)
  refine lv_aload_n F.1 F.2.1 dX8_makeOptimal_7 rfl (lv_at hl 0 rfl) ?_
  refine g_RW_made F w q164 dX8_makeOptimal_8 ?_
  refine lv_iconst (v := 0) F.1 F.2.1 dX8_makeOptimal_11 (by decide) ?_
  obtain ⟨S2, hc, hf⟩ := oi_v hf
  refine k_v0 (S' := S2) w (runV (As := [.int 0]) (rest := []) (kb := 2 * 20) F w (k_X2_push l x S1 20 0 (by decide) hc H.size) cy_X2_push q653 q459 q460 ⟨rfl, rfl⟩ ⟨Nat.le_of_ble_eq_true rfl, Nat.le_of_ble_eq_true rfl⟩ (k_ms (by decide)) (enc_ms x S1 (by decide)) rfl rfl rfl hl.1 (Nat.le_of_ble_eq_true rfl) ⟨Nat.le_of_ble_eq_true rfl, Nat.le_of_ble_eq_true rfl⟩ dX8_makeOptimal_12) (fun H locs w => ?_)
  refine lv_iload_n F.1 F.2.1 dX8_makeOptimal_15 rfl (lv_at hl 1 rfl) ?_
  refine lv_iconst (v := 2) F.1 F.2.1 dX8_makeOptimal_16 (by decide) ?_
  refine lv_icmp_ge (tgt := 24) F.1 F.2.1 dX8_makeOptimal_17 (by decide) (fun c3 => ?_) (fun c3 => ?_)
  · replace hf := oi_t hf c3
    refine lv_iconst (v := 0) F.1 F.2.1 dX8_makeOptimal_24 (by decide) ?_
    exact b_X8_makeOptimal_25 F  _ _ _ _ w a1 0 (lv_sub hl [0, 1] rfl) hf
  · replace hf := oi_f hf c3
    refine lv_iconst (v := 1) F.1 F.2.1 dX8_makeOptimal_20 (by decide) ?_
    refine lv_goto (tgt := 25) F.1 F.2.1 dX8_makeOptimal_21 (by decide) ?_
    exact b_X8_makeOptimal_25 F  _ _ _ _ w a1 1 (lv_sub hl [0, 1] rfl) hf
def f_X8_makeOptimal (S : ST) (a1 : Int32) : Option (ST) := f_X8_makeOptimal_0 S a1
set_option maxHeartbeats 4000000 in
set_option maxRecDepth 100000 in
theorem k_X8_makeOptimal (l : Launch) (x : CX) (S : ST) (a1 : Int32) {res : ST} (hf : f_X8_makeOptimal S a1 = some res) (sz : Nat) : Met l yX8_makeOptimal (Cond.code yX8_makeOptimal cX8_makeOptimal 4 none :: GW) ({ frames := 27, cells := 0, slots := 0, locals := 866 } : Room) (PC x S sz [.ref (x.2.2 (79)), .int a1]) (QV x res sz) 0 0 (AA x sz) := by
  refine Met.ofW (cc := cX8_makeOptimal) (maxL := 4) (ret := none) (by decide) rfl ?_
  intro p e s m args below meth c s₁ B hml hv
  obtain ⟨rfl, rfl, hPW⟩ := hv
  have F : MF p m meth c cX8_makeOptimal 4 s _ RX8 none := MF.of B hml
  have w := WD.of hPW
  have hl := lv_entry ([.ref (x.2.2 (79)), .int a1]) (n := 4) (Nat.le_of_ble_eq_true rfl)
  rw [lg_entry_eq]
  generalize (lg_sl ([.ref (x.2.2 (79)), .int a1]) ++ List.replicate (4 - (lg_sl ([.ref (x.2.2 (79)), .int a1])).length) Slot.unset).toArray = ls at hl ⊢
  have hl : lv_has ls 4 [(0, .ref (x.2.2 (79))), (1, .int a1)] := hl
  unfold f_X8_makeOptimal at hf
  exact b_X8_makeOptimal_0 F  _ _ _ _ w a1 (lv_sub hl [0, 1] rfl) hf
theorem cy_X8_finishSparse : CY yX8_finishSparse RX8 cX8_finishSparse 14 (some .boolean) 5 := ⟨q1, q816, rfl, by decide, by decide, by decide +kernel⟩
def f_X8_finishSparse_53 (rec : ST → Nat → Int32 → Int32 → Int64 → Int64 → Option (Int32 × ST)) : Nat → ST → Nat → Int32 → Int32 → Int64 → Int64 → Int32 → Int32 → Option (Int32 × ST)
  | 0, _, _, _, _, _, _, _, _ => none
  | n + 1, S, i0, a1, a2, a3, a5, a8, a9 => (if (a2 - a1) < a9 then some (0, S) else oL (a3 <<< (Int32.toInt64 (a9 - a8) &&& 63)) (fun (v2 : Int64) => oL (v2 ||| ((1 : Int64) <<< (Int32.toInt64 (a2 - a9) &&& 63))) (fun (v3 : Int64) => oV (f_X2_push S i0 a9) (fun (S4 : ST) => oB (rec S4 i0 (a1 - (1 : Int32)) a2 (v2 ||| (1 : Int64)) (a5 &&& (v3 ^^^ ((-1) : Int64)))) (fun (r6 : Int32) (S5 : ST) => (if r6 = 0 then oV (f_X2_pop S5 i0) (fun (S8 : ST) => oL (a9 + 1) (fun (v9 : Int32) => (f_X8_finishSparse_53 rec n) S8 i0 a1 a2 a3 a5 a8 v9)) else some (1, S5)))))))
set_option maxHeartbeats 4000000 in
set_option maxRecDepth 100000 in
theorem b_X8_finishSparse_53 {p : Program} {l : Launch} {e : Env} {s : State} {m : MethodId} {args : Array Value} {below : List Frame} {meth : Method} {c : Code} {x : CX} {res : Int32 × ST} (F : MF p m meth c cX8_finishSparse 14 s args RX8 (some .boolean)) (d : Nat) (rec : ST → Nat → Int32 → Int32 → Int64 → Int64 → Option (Int32 × ST)) (hrec : ∀ (S : ST) (i0 : Nat) (a1 : Int32) (a2 : Int32) (a3 : Int64) (a5 : Int64) (res : Int32 × ST) (sz : Nat), i0 < 22 → rec S i0 a1 a2 a3 a5 = some res → Met l yX8_finishSparse (Cond.code yX8_finishSparse cX8_finishSparse 14 (some .boolean) :: GW) ({ frames := 2 + d, cells := 0, slots := 0, locals := 41 + 33 * d } : Room) (PC x S sz [.ref (x.2.2 (2 * i0)), .int a1, .int a2, .long a3, .long a5]) (QI x res.2 res.1 sz) 0 0 (AA x sz)) : ∀ (n : Nat), ∀ (H : Heap) (locs : List Loc) (ls : Array Slot) (S : ST), WD x s S H locs → ∀ (i0 : Nat) (a1 : Int32) (a2 : Int32) (a3 : Int64) (a5 : Int64) (a8 : Int32) (a9 : Int32), i0 < 22 → lv_has ls 14 [(0, .ref (x.2.2 (2 * i0))), (1, .int a1), (2, .int a2), (3, .long a3), (5, .long a5), (8, .int a8), (9, .int a9)] → f_X8_finishSparse_53 rec n S i0 a1 a2 a3 a5 a8 a9 = some res → W p l e ({ frames := 2 + (d + 1), cells := 0, slots := 0, locals := 41 + 33 * (d + 1) } : Room) s m args below meth c H locs 0 0 (MQ below (QI x res.2 res.1 s.heap.size) args s 0 0 (AA x s.heap.size)) (F0 m 53 ls []) := by
  intro n
  induction n with
  | zero =>
    intro H locs ls S w i0 a1 a2 a3 a5 a8 a9 h0 hl hf
    have hf : (none : Option (Int32 × ST)) = some res := hf
    cases hf
  | succ n ih =>
    intro H locs ls S w i0 a1 a2 a3 a5 a8 a9 h0 hl hf
    unfold f_X8_finishSparse_53 at hf
    refine lv_iload F.1 F.2.1 dX8_finishSparse_53 (lv_at hl 6 rfl) ?_
    refine lv_iload_n F.1 F.2.1 dX8_finishSparse_55 rfl (lv_at hl 2 rfl) ?_
    refine lv_iload_n F.1 F.2.1 dX8_finishSparse_56 rfl (lv_at hl 1 rfl) ?_
    refine lv_isub F.1 F.2.1 dX8_finishSparse_57 ?_
    refine lv_icmp_gt (tgt := 123) F.1 F.2.1 dX8_finishSparse_58 (by decide) (fun c1 => ?_) (fun c1 => ?_)
    · replace hf := oi_t hf c1
      refine lv_iconst (v := 0) F.1 F.2.1 dX8_finishSparse_123 (by decide) ?_
      exact r_zret F w rfl (oi_s hf) dX8_finishSparse_124
    · replace hf := oi_f hf c1
      refine lv_lload_n F.1 F.2.1 dX8_finishSparse_61 rfl (lv_at hl 3 rfl) ?_
      refine lv_iload F.1 F.2.1 dX8_finishSparse_62 (lv_at hl 6 rfl) ?_
      refine lv_iload F.1 F.2.1 dX8_finishSparse_64 (lv_at hl 5 rfl) ?_
      refine lv_isub F.1 F.2.1 dX8_finishSparse_66 ?_
      refine lv_lshl (v := (a3 <<< (Int32.toInt64 (a9 - a8) &&& 63))) F.1 F.2.1 dX8_finishSparse_67 rfl ?_
      refine lv_topl (fun v2 e_v2 => ?_)
      replace hf := oi_l hf e_v2
      refine lv_lstore (lv' := [(10, .long v2), (0, .ref (x.2.2 (2 * i0))), (1, .int a1), (2, .int a2), (3, .long a3), (5, .long a5), (8, .int a8), (9, .int a9)]) F.1 F.2.1 dX8_finishSparse_68 hl (by decide) rfl (fun ls hl => ?_)
      refine lv_lload F.1 F.2.1 dX8_finishSparse_70 (lv_at hl 0 rfl) ?_
      refine lv_lconst (v := 1) F.1 F.2.1 dX8_finishSparse_72 (by decide) ?_
      refine lv_iload_n F.1 F.2.1 dX8_finishSparse_73 rfl (lv_at hl 3 rfl) ?_
      refine lv_iload F.1 F.2.1 dX8_finishSparse_74 (lv_at hl 7 rfl) ?_
      refine lv_isub F.1 F.2.1 dX8_finishSparse_76 ?_
      refine lv_lshl (v := ((1 : Int64) <<< (Int32.toInt64 (a2 - a9) &&& 63))) F.1 F.2.1 dX8_finishSparse_77 rfl ?_
      refine lv_lor F.1 F.2.1 dX8_finishSparse_78 ?_
      refine lv_topl (fun v3 e_v3 => ?_)
      replace hf := oi_l hf e_v3
      refine lv_lstore (lv' := [(12, .long v3), (10, .long v2), (0, .ref (x.2.2 (2 * i0))), (1, .int a1), (2, .int a2), (3, .long a3), (5, .long a5), (8, .int a8), (9, .int a9)]) F.1 F.2.1 dX8_finishSparse_79 hl (by decide) rfl (fun ls hl => ?_)
      refine lv_aload_n F.1 F.2.1 dX8_finishSparse_81 rfl (lv_at hl 2 rfl) ?_
      refine lv_iload F.1 F.2.1 dX8_finishSparse_82 (lv_at hl 8 rfl) ?_
      obtain ⟨S4, hc, hf⟩ := oi_v hf
      refine k_v0 (S' := S4) w (runV (As := [.int a9]) (rest := []) (kb := 2 * i0) F w (k_X2_push l x S i0 a9 h0 hc H.size) cy_X2_push q653 q459 q460 ⟨rfl, rfl⟩ ⟨by show _ ≤ _; dsimp only; omega, by show _ ≤ _; dsimp only; omega⟩ (k_ms h0) (enc_ms x S h0) rfl rfl rfl hl.1 (Nat.le_of_ble_eq_true rfl) ⟨by show _ ≤ _; dsimp only; omega, by show _ ≤ _; dsimp only; omega⟩ dX8_finishSparse_84) (fun H locs w => ?_)
      refine lv_aload_n F.1 F.2.1 dX8_finishSparse_87 rfl (lv_at hl 2 rfl) ?_
      refine lv_iload_n F.1 F.2.1 dX8_finishSparse_88 rfl (lv_at hl 3 rfl) ?_
      refine lv_iconst (v := 1) F.1 F.2.1 dX8_finishSparse_89 (by decide) ?_
      refine lv_isub F.1 F.2.1 dX8_finishSparse_90 ?_
      refine lv_iload_n F.1 F.2.1 dX8_finishSparse_91 rfl (lv_at hl 4 rfl) ?_
      refine lv_lload F.1 F.2.1 dX8_finishSparse_92 (lv_at hl 1 rfl) ?_
      refine lv_lconst (v := 1) F.1 F.2.1 dX8_finishSparse_94 (by decide) ?_
      refine lv_lor F.1 F.2.1 dX8_finishSparse_95 ?_
      refine lv_lload F.1 F.2.1 dX8_finishSparse_96 (lv_at hl 6 rfl) ?_
      refine lv_lload F.1 F.2.1 dX8_finishSparse_98 (lv_at hl 0 rfl) ?_
      refine lv_ldc2 (v := (-1)) F.1 F.2.1 F.2.2.2.1 (F.2.2.2.2.1 _ q818) dX8_finishSparse_100 ?_
      refine lv_lxor F.1 F.2.1 dX8_finishSparse_103 ?_
      refine lv_land F.1 F.2.1 dX8_finishSparse_104 ?_
      obtain ⟨r6, S5, hc, hf⟩ := oi_b hf
      refine k_i0 (S' := S5) (r := r6) w (runS (As := [.ref (x.2.2 (2 * i0)), .int (a1 - (1 : Int32)), .int a2, .long (v2 ||| (1 : Int64)), .long (a5 &&& (v3 ^^^ ((-1) : Int64)))]) (rest := []) F w (hrec S4 i0 (a1 - (1 : Int32)) a2 (v2 ||| (1 : Int64)) (a5 &&& (v3 ^^^ ((-1) : Int64))) _ H.size h0 hc) cy_X8_finishSparse q814 q815 ⟨rfl, rfl⟩ ⟨by show _ ≤ _; dsimp only; omega, by show _ ≤ _; dsimp only; omega⟩ rfl rfl hl.1 (Nat.le_of_ble_eq_true rfl) ⟨by show _ ≤ _; dsimp only; omega, by show _ ≤ _; dsimp only; omega⟩ dX8_finishSparse_105) (fun H locs w => ?_)
      refine lv_if_eq (tgt := 113) F.1 F.2.1 dX8_finishSparse_108 (by decide) (fun c7 => ?_) (fun c7 => ?_)
      · replace hf := oi_t hf c7
        refine lv_aload_n F.1 F.2.1 dX8_finishSparse_113 rfl (lv_at hl 2 rfl) ?_
        obtain ⟨S8, hc, hf⟩ := oi_v hf
        refine k_v0 (S' := S8) w (runV (As := []) (rest := []) (kb := 2 * i0) F w (k_X2_pop l x S5 i0 h0 hc H.size) cy_X2_pop q798 q799 q800 ⟨rfl, rfl⟩ ⟨by show _ ≤ _; dsimp only; omega, by show _ ≤ _; dsimp only; omega⟩ (k_ms h0) (enc_ms x S5 h0) rfl rfl rfl hl.1 (Nat.le_of_ble_eq_true rfl) ⟨by show _ ≤ _; dsimp only; omega, by show _ ≤ _; dsimp only; omega⟩ dX8_finishSparse_114) (fun H locs w => ?_)
        obtain ⟨v9, e_v9⟩ : ∃ y : Int32, y = (a9 + 1) := ⟨_, rfl⟩
        replace hf := oi_l hf e_v9
        refine lv_iinc (v := v9) (lv' := [(9, .int v9), (12, .long v3), (10, .long v2), (0, .ref (x.2.2 (2 * i0))), (1, .int a1), (2, .int a2), (3, .long a3), (5, .long a5), (8, .int a8)]) F.1 F.2.1 dX8_finishSparse_117 hl (k := 8) rfl (by rw [e_v9]; rfl) (by decide) rfl (fun ls hl => ?_)
        refine lv_goto (tgt := 53) F.1 F.2.1 dX8_finishSparse_120 (by decide) ?_
        exact ih _ _ _ _ w i0 a1 a2 a3 a5 a8 v9 h0 (lv_sub hl [3, 4, 5, 6, 7, 8, 0] rfl) hf
      · replace hf := oi_f hf c7
        refine lv_iconst (v := 1) F.1 F.2.1 dX8_finishSparse_111 (by decide) ?_
        exact r_zret F w rfl (oi_s hf) dX8_finishSparse_112
def f_X8_finishSparse_0 (rec : ST → Nat → Int32 → Int32 → Int64 → Int64 → Option (Int32 × ST)) (S : ST) (i0 : Nat) (a1 : Int32) (a2 : Int32) (a3 : Int64) (a5 : Int64) : Option (Int32 × ST) := oG (nz 2) (oL ((a1 * ((fi S i0) + (1 : Int32))) + ((a1 * (a1 - (1 : Int32))) / 2)) (fun (v2 : Int32) => oB (f_J13_bitCount_95d88 S a5) (fun (r4 : Int32) (S3 : ST) => (if r4 ≤ v2 then (if 0 < a1 then oB (f_X2_greatest S3 i0) (fun (r8 : Int32) (S7 : ST) => oL (r8 + (1 : Int32)) (fun (v9 : Int32) => f_X8_finishSparse_53 rec FU S7 i0 a1 a2 a3 a5 r8 v9)) else oV (f_X2_push S3 i0 a2) (fun (S10 : ST) => some (1, S10))) else some (0, S3)))))
set_option maxHeartbeats 4000000 in
set_option maxRecDepth 100000 in
theorem b_X8_finishSparse_0 {p : Program} {l : Launch} {e : Env} {s : State} {m : MethodId} {args : Array Value} {below : List Frame} {meth : Method} {c : Code} {x : CX} {res : Int32 × ST} (F : MF p m meth c cX8_finishSparse 14 s args RX8 (some .boolean)) (d : Nat) (rec : ST → Nat → Int32 → Int32 → Int64 → Int64 → Option (Int32 × ST)) (hrec : ∀ (S : ST) (i0 : Nat) (a1 : Int32) (a2 : Int32) (a3 : Int64) (a5 : Int64) (res : Int32 × ST) (sz : Nat), i0 < 22 → rec S i0 a1 a2 a3 a5 = some res → Met l yX8_finishSparse (Cond.code yX8_finishSparse cX8_finishSparse 14 (some .boolean) :: GW) ({ frames := 2 + d, cells := 0, slots := 0, locals := 41 + 33 * d } : Room) (PC x S sz [.ref (x.2.2 (2 * i0)), .int a1, .int a2, .long a3, .long a5]) (QI x res.2 res.1 sz) 0 0 (AA x sz)) : ∀ (H : Heap) (locs : List Loc) (ls : Array Slot) (S : ST), WD x s S H locs → ∀ (i0 : Nat) (a1 : Int32) (a2 : Int32) (a3 : Int64) (a5 : Int64), i0 < 22 → lv_has ls 14 [(0, .ref (x.2.2 (2 * i0))), (1, .int a1), (2, .int a2), (3, .long a3), (5, .long a5)] → f_X8_finishSparse_0 rec S i0 a1 a2 a3 a5 = some res → W p l e ({ frames := 2 + (d + 1), cells := 0, slots := 0, locals := 41 + 33 * (d + 1) } : Room) s m args below meth c H locs 0 0 (MQ below (QI x res.2 res.1 s.heap.size) args s 0 0 (AA x s.heap.size)) (F0 m 0 ls []) := by
  intro H locs ls S w i0 a1 a2 a3 a5 h0 hl hf
  unfold f_X8_finishSparse_0 at hf
  refine lv_iload_n F.1 F.2.1 dX8_finishSparse_0 rfl (lv_at hl 1 rfl) ?_
  refine lv_aload_n F.1 F.2.1 dX8_finishSparse_1 rfl (lv_at hl 0 rfl) ?_
  refine gN_MS_count (i := i0) F w h0 (by simp [NF]) dX8_finishSparse_2 ?_
  refine lv_iconst (v := 1) F.1 F.2.1 dX8_finishSparse_5 (by decide) ?_
  refine lv_iadd F.1 F.2.1 dX8_finishSparse_6 ?_
  refine lv_imul F.1 F.2.1 dX8_finishSparse_7 ?_
  refine lv_iload_n F.1 F.2.1 dX8_finishSparse_8 rfl (lv_at hl 1 rfl) ?_
  refine lv_iload_n F.1 F.2.1 dX8_finishSparse_9 rfl (lv_at hl 1 rfl) ?_
  refine lv_iconst (v := 1) F.1 F.2.1 dX8_finishSparse_10 (by decide) ?_
  refine lv_isub F.1 F.2.1 dX8_finishSparse_11 ?_
  refine lv_imul F.1 F.2.1 dX8_finishSparse_12 ?_
  refine lv_iconst (v := 2) F.1 F.2.1 dX8_finishSparse_13 (by decide) ?_
  obtain ⟨hz1, hf⟩ := oi_g hf
  refine lv_idiv F.1 F.2.1 dX8_finishSparse_14 (nz_ne hz1) ?_
  refine lv_iadd F.1 F.2.1 dX8_finishSparse_15 ?_
  refine lv_topi (fun v2 e_v2 => ?_)
  replace hf := oi_l hf e_v2
  refine lv_istore (lv' := [(7, .int v2), (0, .ref (x.2.2 (2 * i0))), (1, .int a1), (2, .int a2), (3, .long a3), (5, .long a5)]) F.1 F.2.1 dX8_finishSparse_16 hl (by decide) rfl (fun ls hl => ?_)
  refine lv_lload F.1 F.2.1 dX8_finishSparse_18 (lv_at hl 5 rfl) ?_
  obtain ⟨r4, S3, hc, hf⟩ := oi_b hf
  refine k_i0 (S' := S3) (r := r4) w (runS (As := [.long a5]) (rest := []) F w (k_J13_bitCount_95d88 l x S a5 hc H.size) cy_J13_bitCount_95d88 q817 q251 ⟨rfl, rfl⟩ ⟨by show _ ≤ _; dsimp only; omega, by show _ ≤ _; dsimp only; omega⟩ rfl rfl hl.1 (Nat.le_of_ble_eq_true rfl) ⟨by show _ ≤ _; dsimp only; omega, by show _ ≤ _; dsimp only; omega⟩ dX8_finishSparse_20) (fun H locs w => ?_)
  refine lv_iload F.1 F.2.1 dX8_finishSparse_23 (lv_at hl 0 rfl) ?_
  refine lv_icmp_le (tgt := 30) F.1 F.2.1 dX8_finishSparse_25 (by decide) (fun c5 => ?_) (fun c5 => ?_)
  · replace hf := oi_t hf c5
    refine lv_iload_n F.1 F.2.1 dX8_finishSparse_30 rfl (lv_at hl 2 rfl) ?_
    refine lv_if_gt (tgt := 41) F.1 F.2.1 dX8_finishSparse_31 (by decide) (fun c6 => ?_) (fun c6 => ?_)
    · replace hf := oi_t hf c6
      refine lv_aload_n F.1 F.2.1 dX8_finishSparse_41 rfl (lv_at hl 1 rfl) ?_
      obtain ⟨r8, S7, hc, hf⟩ := oi_b hf
      refine k_i0 (S' := S7) (r := r8) w (runV (As := []) (rest := []) (kb := 2 * i0) F w (k_X2_greatest l x S3 i0 h0 hc H.size) cy_X2_greatest q256 q257 q258 ⟨rfl, rfl⟩ ⟨by show _ ≤ _; dsimp only; omega, by show _ ≤ _; dsimp only; omega⟩ (k_ms h0) (enc_ms x S3 h0) rfl rfl rfl hl.1 (Nat.le_of_ble_eq_true rfl) ⟨by show _ ≤ _; dsimp only; omega, by show _ ≤ _; dsimp only; omega⟩ dX8_finishSparse_42) (fun H locs w => ?_)
      refine lv_istore (lv' := [(8, .int r8), (7, .int v2), (0, .ref (x.2.2 (2 * i0))), (1, .int a1), (2, .int a2), (3, .long a3), (5, .long a5)]) F.1 F.2.1 dX8_finishSparse_45 hl (by decide) rfl (fun ls hl => ?_)
      refine lv_iload F.1 F.2.1 dX8_finishSparse_47 (lv_at hl 0 rfl) ?_
      refine lv_iconst (v := 1) F.1 F.2.1 dX8_finishSparse_49 (by decide) ?_
      refine lv_iadd F.1 F.2.1 dX8_finishSparse_50 ?_
      refine lv_topi (fun v9 e_v9 => ?_)
      replace hf := oi_l hf e_v9
      refine lv_istore (lv' := [(9, .int v9), (8, .int r8), (7, .int v2), (0, .ref (x.2.2 (2 * i0))), (1, .int a1), (2, .int a2), (3, .long a3), (5, .long a5)]) F.1 F.2.1 dX8_finishSparse_51 hl (by decide) rfl (fun ls hl => ?_)
      exact b_X8_finishSparse_53 F d rec hrec FU _ _ _ _ w i0 a1 a2 a3 a5 r8 v9 h0 (lv_sub hl [3, 4, 5, 6, 7, 1, 0] rfl) hf
    · replace hf := oi_f hf c6
      refine lv_aload_n F.1 F.2.1 dX8_finishSparse_34 rfl (lv_at hl 1 rfl) ?_
      refine lv_iload_n F.1 F.2.1 dX8_finishSparse_35 rfl (lv_at hl 3 rfl) ?_
      obtain ⟨S10, hc, hf⟩ := oi_v hf
      refine k_v0 (S' := S10) w (runV (As := [.int a2]) (rest := []) (kb := 2 * i0) F w (k_X2_push l x S3 i0 a2 h0 hc H.size) cy_X2_push q653 q459 q460 ⟨rfl, rfl⟩ ⟨by show _ ≤ _; dsimp only; omega, by show _ ≤ _; dsimp only; omega⟩ (k_ms h0) (enc_ms x S3 h0) rfl rfl rfl hl.1 (Nat.le_of_ble_eq_true rfl) ⟨by show _ ≤ _; dsimp only; omega, by show _ ≤ _; dsimp only; omega⟩ dX8_finishSparse_36) (fun H locs w => ?_)
      refine lv_iconst (v := 1) F.1 F.2.1 dX8_finishSparse_39 (by decide) ?_
      exact r_zret F w rfl (oi_s hf) dX8_finishSparse_40
  · replace hf := oi_f hf c5
    refine lv_iconst (v := 0) F.1 F.2.1 dX8_finishSparse_28 (by decide) ?_
    exact r_zret F w rfl (oi_s hf) dX8_finishSparse_29
def g_X8_finishSparse (rec : ST → Nat → Int32 → Int32 → Int64 → Int64 → Option (Int32 × ST)) (S : ST) (i0 : Nat) (a1 : Int32) (a2 : Int32) (a3 : Int64) (a5 : Int64) : Option (Int32 × ST) := f_X8_finishSparse_0 rec S i0 a1 a2 a3 a5
def f_X8_finishSparse_n : Nat → ST → Nat → Int32 → Int32 → Int64 → Int64 → Option (Int32 × ST)
  | 0, _, _, _, _, _, _ => none
  | d + 1, S, i0, a1, a2, a3, a5 => g_X8_finishSparse (f_X8_finishSparse_n d) S i0 a1 a2 a3 a5
def f_X8_finishSparse (S : ST) (i0 : Nat) (a1 : Int32) (a2 : Int32) (a3 : Int64) (a5 : Int64) : Option (Int32 × ST) := f_X8_finishSparse_n RD S i0 a1 a2 a3 a5
set_option maxHeartbeats 4000000 in
set_option maxRecDepth 100000 in
theorem kr_X8_finishSparse (l : Launch) (x : CX) (d : Nat) (rec : ST → Nat → Int32 → Int32 → Int64 → Int64 → Option (Int32 × ST)) (hrec : ∀ (S : ST) (i0 : Nat) (a1 : Int32) (a2 : Int32) (a3 : Int64) (a5 : Int64) (res : Int32 × ST) (sz : Nat), i0 < 22 → rec S i0 a1 a2 a3 a5 = some res → Met l yX8_finishSparse (Cond.code yX8_finishSparse cX8_finishSparse 14 (some .boolean) :: GW) ({ frames := 2 + d, cells := 0, slots := 0, locals := 41 + 33 * d } : Room) (PC x S sz [.ref (x.2.2 (2 * i0)), .int a1, .int a2, .long a3, .long a5]) (QI x res.2 res.1 sz) 0 0 (AA x sz)) (S : ST) (i0 : Nat) (a1 : Int32) (a2 : Int32) (a3 : Int64) (a5 : Int64) (h0 : i0 < 22) {res : Int32 × ST} (hf : g_X8_finishSparse rec S i0 a1 a2 a3 a5 = some res) (sz : Nat) : Met l yX8_finishSparse (Cond.code yX8_finishSparse cX8_finishSparse 14 (some .boolean) :: GW) ({ frames := 2 + (d + 1), cells := 0, slots := 0, locals := 41 + 33 * (d + 1) } : Room) (PC x S sz [.ref (x.2.2 (2 * i0)), .int a1, .int a2, .long a3, .long a5]) (QI x res.2 res.1 sz) 0 0 (AA x sz) := by
  refine Met.ofW (cc := cX8_finishSparse) (maxL := 14) (ret := (some .boolean)) (by decide) rfl ?_
  intro p e s m args below meth c s₁ B hml hv
  obtain ⟨rfl, rfl, hPW⟩ := hv
  have F : MF p m meth c cX8_finishSparse 14 s _ RX8 (some .boolean) := MF.of B hml
  have w := WD.of hPW
  have hl := lv_entry ([.ref (x.2.2 (2 * i0)), .int a1, .int a2, .long a3, .long a5]) (n := 14) (Nat.le_of_ble_eq_true rfl)
  rw [lg_entry_eq]
  generalize (lg_sl ([.ref (x.2.2 (2 * i0)), .int a1, .int a2, .long a3, .long a5]) ++ List.replicate (14 - (lg_sl ([.ref (x.2.2 (2 * i0)), .int a1, .int a2, .long a3, .long a5])).length) Slot.unset).toArray = ls at hl ⊢
  have hl : lv_has ls 14 [(0, .ref (x.2.2 (2 * i0))), (1, .int a1), (2, .int a2), (3, .long a3), (5, .long a5)] := hl
  unfold g_X8_finishSparse at hf
  exact b_X8_finishSparse_0 F d rec hrec  _ _ _ _ w i0 a1 a2 a3 a5 h0 (lv_sub hl [0, 1, 2, 3, 4] rfl) hf
theorem kn_X8_finishSparse (l : Launch) (x : CX) : ∀ (d : Nat) (S : ST) (i0 : Nat) (a1 : Int32) (a2 : Int32) (a3 : Int64) (a5 : Int64) (res : Int32 × ST) (sz : Nat), i0 < 22 → f_X8_finishSparse_n d S i0 a1 a2 a3 a5 = some res → Met l yX8_finishSparse (Cond.code yX8_finishSparse cX8_finishSparse 14 (some .boolean) :: GW) ({ frames := 2 + d, cells := 0, slots := 0, locals := 41 + 33 * d } : Room) (PC x S sz [.ref (x.2.2 (2 * i0)), .int a1, .int a2, .long a3, .long a5]) (QI x res.2 res.1 sz) 0 0 (AA x sz)
  | 0, _, _, _, _, _, _, _, _, _, h => by have h : (none : Option (Int32 × ST)) = some _ := h; cases h
  | d + 1, S, i0, a1, a2, a3, a5, res, sz, h0, h => kr_X8_finishSparse l x d (f_X8_finishSparse_n d) (kn_X8_finishSparse l x d) S i0 a1 a2 a3 a5 h0 h sz
theorem k_X8_finishSparse (l : Launch) (x : CX) (S : ST) (i0 : Nat) (a1 : Int32) (a2 : Int32) (a3 : Int64) (a5 : Int64) (h0 : i0 < 22) {res : Int32 × ST} (hf : f_X8_finishSparse S i0 a1 a2 a3 a5 = some res) (sz : Nat) : Met l yX8_finishSparse (Cond.code yX8_finishSparse cX8_finishSparse 14 (some .boolean) :: GW) ({ frames := 26, cells := 0, slots := 0, locals := 833 } : Room) (PC x S sz [.ref (x.2.2 (2 * i0)), .int a1, .int a2, .long a3, .long a5]) (QI x res.2 res.1 sz) 0 0 (AA x sz) := kn_X8_finishSparse l x RD S i0 a1 a2 a3 a5 res sz h0 hf
theorem cy_X8_makeSparse : CY yX8_makeSparse RX8 cX8_makeSparse 6 none 1 := ⟨q1, q812, rfl, by decide, by decide, by decide +kernel⟩
def f_X8_makeSparse_57 (S : ST)  : Option (ST) := some S
set_option maxHeartbeats 4000000 in
set_option maxRecDepth 100000 in
theorem b_X8_makeSparse_57 {p : Program} {l : Launch} {e : Env} {s : State} {m : MethodId} {args : Array Value} {below : List Frame} {meth : Method} {c : Code} {x : CX} {res : ST} (F : MF p m meth c cX8_makeSparse 6 s args RX8 none) : ∀ (H : Heap) (locs : List Loc) (ls : Array Slot) (S : ST), WD x s S H locs → lv_has ls 6 [] → f_X8_makeSparse_57 S = some res → W p l e ({ frames := 27, cells := 0, slots := 0, locals := 866 } : Room) s m args below meth c H locs 0 0 (MQ below (QV x res s.heap.size) args s 0 0 (AA x s.heap.size)) (F0 m 57 ls []) := by
  intro H locs ls S w hl hf
  unfold f_X8_makeSparse_57 at hf
  exact r_vret F w (oi_s hf) dX8_makeSparse_57
def f_X8_makeSparse_28 : Nat → ST → Int32 → Int32 → Int64 → Int32 → Option (ST)
  | 0, _, _, _, _, _ => none
  | n + 1, S, a1, a2, a3, a5 => (if a2 = 0 then (if a1 ≤ a5 then f_X8_makeSparse_57 S else oB (f_X8_finishSparse S 20 a5 a1 1 a3) (fun (r4 : Int32) (S3 : ST) => oL (a5 + 1) (fun (v5 : Int32) => (f_X8_makeSparse_28 n) S3 a1 r4 a3 v5))) else f_X8_makeSparse_57 S)
set_option maxHeartbeats 4000000 in
set_option maxRecDepth 100000 in
theorem b_X8_makeSparse_28 {p : Program} {l : Launch} {e : Env} {s : State} {m : MethodId} {args : Array Value} {below : List Frame} {meth : Method} {c : Code} {x : CX} {res : ST} (F : MF p m meth c cX8_makeSparse 6 s args RX8 none) : ∀ (n : Nat), ∀ (H : Heap) (locs : List Loc) (ls : Array Slot) (S : ST), WD x s S H locs → ∀ (a1 : Int32) (a2 : Int32) (a3 : Int64) (a5 : Int32), lv_has ls 6 [(0, .ref (x.2.2 (79))), (1, .int a1), (2, .int a2), (3, .long a3), (5, .int a5)] → f_X8_makeSparse_28 n S a1 a2 a3 a5 = some res → W p l e ({ frames := 27, cells := 0, slots := 0, locals := 866 } : Room) s m args below meth c H locs 0 0 (MQ below (QV x res s.heap.size) args s 0 0 (AA x s.heap.size)) (F0 m 28 ls []) := by
  intro n
  induction n with
  | zero =>
    intro H locs ls S w a1 a2 a3 a5 hl hf
    have hf : (none : Option (ST)) = some res := hf
    cases hf
  | succ n ih =>
    intro H locs ls S w a1 a2 a3 a5 hl hf
    unfold f_X8_makeSparse_28 at hf
    refine lv_iload_n F.1 F.2.1 dX8_makeSparse_28 rfl (lv_at hl 2 rfl) ?_
    refine lv_if_ne (tgt := 57) F.1 F.2.1 dX8_makeSparse_29 (by decide) (fun c1 => ?_) (fun c1 => ?_)
    · replace hf := oi_f hf c1
      exact b_X8_makeSparse_57 F  _ _ _ _ w  (lv_sub hl [] rfl) hf
    · replace hf := oi_t hf c1
      refine lv_iload F.1 F.2.1 dX8_makeSparse_32 (lv_at hl 4 rfl) ?_
      refine lv_iload_n F.1 F.2.1 dX8_makeSparse_34 rfl (lv_at hl 1 rfl) ?_
      refine lv_icmp_ge (tgt := 57) F.1 F.2.1 dX8_makeSparse_35 (by decide) (fun c2 => ?_) (fun c2 => ?_)
      · replace hf := oi_t hf c2
        exact b_X8_makeSparse_57 F  _ _ _ _ w  (lv_sub hl [] rfl) hf
      · replace hf := oi_f hf c2
        refine lv_aload_n F.1 F.2.1 dX8_makeSparse_38 rfl (lv_at hl 0 rfl) ?_
        refine g_RW_made F w q164 dX8_makeSparse_39 ?_
        refine lv_iload F.1 F.2.1 dX8_makeSparse_42 (lv_at hl 4 rfl) ?_
        refine lv_iload_n F.1 F.2.1 dX8_makeSparse_44 rfl (lv_at hl 1 rfl) ?_
        refine lv_lconst (v := 1) F.1 F.2.1 dX8_makeSparse_45 (by decide) ?_
        refine lv_lload_n F.1 F.2.1 dX8_makeSparse_46 rfl (lv_at hl 3 rfl) ?_
        obtain ⟨r4, S3, hc, hf⟩ := oi_b hf
        refine k_i0 (S' := S3) (r := r4) w (runS (As := [.ref (x.2.2 (2 * 20)), .int a5, .int a1, .long 1, .long a3]) (rest := []) F w (k_X8_finishSparse l x S 20 a5 a1 1 a3 (by decide) hc H.size) cy_X8_finishSparse q814 q815 ⟨rfl, rfl⟩ ⟨Nat.le_of_ble_eq_true rfl, Nat.le_of_ble_eq_true rfl⟩ rfl rfl hl.1 (Nat.le_of_ble_eq_true rfl) ⟨Nat.le_of_ble_eq_true rfl, Nat.le_of_ble_eq_true rfl⟩ dX8_makeSparse_47) (fun H locs w => ?_)
        refine lv_istore_n (lv' := [(2, .int r4), (0, .ref (x.2.2 (79))), (1, .int a1), (3, .long a3), (5, .int a5)]) F.1 F.2.1 dX8_makeSparse_50 rfl hl (by decide) rfl (fun ls hl => ?_)
        obtain ⟨v5, e_v5⟩ : ∃ y : Int32, y = (a5 + 1) := ⟨_, rfl⟩
        replace hf := oi_l hf e_v5
        refine lv_iinc (v := v5) (lv' := [(5, .int v5), (2, .int r4), (0, .ref (x.2.2 (79))), (1, .int a1), (3, .long a3)]) F.1 F.2.1 dX8_makeSparse_51 hl (k := 4) rfl (by rw [e_v5]; rfl) (by decide) rfl (fun ls hl => ?_)
        refine lv_goto (tgt := 28) F.1 F.2.1 dX8_makeSparse_54 (by decide) ?_
        exact ih _ _ _ _ w a1 r4 a3 v5 (lv_sub hl [2, 3, 1, 4, 0] rfl) hf
def f_X8_makeSparse_0 (S : ST) (a1 : Int32) : Option (ST) := oV (f_X2_empty S 20) (fun (S1 : ST) => oV (f_X2_push S1 20 0) (fun (S2 : ST) => oL (((1 : Int64) <<< (Int32.toInt64 a1 &&& 63)) - (2 : Int64)) (fun (v3 : Int64) => f_X8_makeSparse_28 FU S2 a1 0 v3 0)))
set_option maxHeartbeats 4000000 in
set_option maxRecDepth 100000 in
theorem b_X8_makeSparse_0 {p : Program} {l : Launch} {e : Env} {s : State} {m : MethodId} {args : Array Value} {below : List Frame} {meth : Method} {c : Code} {x : CX} {res : ST} (F : MF p m meth c cX8_makeSparse 6 s args RX8 none) : ∀ (H : Heap) (locs : List Loc) (ls : Array Slot) (S : ST), WD x s S H locs → ∀ (a1 : Int32), lv_has ls 6 [(0, .ref (x.2.2 (79))), (1, .int a1)] → f_X8_makeSparse_0 S a1 = some res → W p l e ({ frames := 27, cells := 0, slots := 0, locals := 866 } : Room) s m args below meth c H locs 0 0 (MQ below (QV x res s.heap.size) args s 0 0 (AA x s.heap.size)) (F0 m 0 ls []) := by
  intro H locs ls S w a1 hl hf
  unfold f_X8_makeSparse_0 at hf
  refine lv_aload_n F.1 F.2.1 dX8_makeSparse_0 rfl (lv_at hl 0 rfl) ?_
  refine g_RW_made F w q164 dX8_makeSparse_1 ?_
  obtain ⟨S1, hc, hf⟩ := oi_v hf
  refine k_v0 (S' := S1) w (runV (As := []) (rest := []) (kb := 2 * 20) F w (k_X2_empty l x S 20 (by decide) hc H.size) cy_X2_empty q504 q455 q456 ⟨rfl, rfl⟩ ⟨Nat.le_of_ble_eq_true rfl, Nat.le_of_ble_eq_true rfl⟩ (k_ms (by decide)) (enc_ms x S (by decide)) rfl rfl rfl hl.1 (Nat.le_of_ble_eq_true rfl) ⟨Nat.le_of_ble_eq_true rfl, Nat.le_of_ble_eq_true rfl⟩ dX8_makeSparse_4) (fun H locs w => ?_)
  refine lv_aload_n F.1 F.2.1 dX8_makeSparse_7 rfl (lv_at hl 0 rfl) ?_
  refine g_RW_made F w q164 dX8_makeSparse_8 ?_
  refine lv_iconst (v := 0) F.1 F.2.1 dX8_makeSparse_11 (by decide) ?_
  obtain ⟨S2, hc, hf⟩ := oi_v hf
  refine k_v0 (S' := S2) w (runV (As := [.int 0]) (rest := []) (kb := 2 * 20) F w (k_X2_push l x S1 20 0 (by decide) hc H.size) cy_X2_push q653 q459 q460 ⟨rfl, rfl⟩ ⟨Nat.le_of_ble_eq_true rfl, Nat.le_of_ble_eq_true rfl⟩ (k_ms (by decide)) (enc_ms x S1 (by decide)) rfl rfl rfl hl.1 (Nat.le_of_ble_eq_true rfl) ⟨Nat.le_of_ble_eq_true rfl, Nat.le_of_ble_eq_true rfl⟩ dX8_makeSparse_12) (fun H locs w => ?_)
  refine lv_iconst (v := 0) F.1 F.2.1 dX8_makeSparse_15 (by decide) ?_
  refine lv_istore_n (lv' := [(2, .int 0), (0, .ref (x.2.2 (79))), (1, .int a1)]) F.1 F.2.1 dX8_makeSparse_16 rfl hl (by decide) rfl (fun ls hl => ?_)
  refine lv_lconst (v := 1) F.1 F.2.1 dX8_makeSparse_17 (by decide) ?_
  refine lv_iload_n F.1 F.2.1 dX8_makeSparse_18 rfl (lv_at hl 2 rfl) ?_
  refine lv_lshl (v := ((1 : Int64) <<< (Int32.toInt64 a1 &&& 63))) F.1 F.2.1 dX8_makeSparse_19 rfl ?_
  refine lv_ldc2 (v := 2) F.1 F.2.1 F.2.2.2.1 (F.2.2.2.2.1 _ q813) dX8_makeSparse_20 ?_
  refine lv_lsub F.1 F.2.1 dX8_makeSparse_23 ?_
  refine lv_topl (fun v3 e_v3 => ?_)
  replace hf := oi_l hf e_v3
  refine lv_lstore_n (lv' := [(3, .long v3), (2, .int 0), (0, .ref (x.2.2 (79))), (1, .int a1)]) F.1 F.2.1 dX8_makeSparse_24 rfl hl (by decide) rfl (fun ls hl => ?_)
  refine lv_iconst (v := 0) F.1 F.2.1 dX8_makeSparse_25 (by decide) ?_
  refine lv_istore (lv' := [(5, .int 0), (3, .long v3), (2, .int 0), (0, .ref (x.2.2 (79))), (1, .int a1)]) F.1 F.2.1 dX8_makeSparse_26 hl (by decide) rfl (fun ls hl => ?_)
  exact b_X8_makeSparse_28 F FU _ _ _ _ w a1 0 v3 0 (lv_sub hl [3, 4, 2, 1, 0] rfl) hf
def f_X8_makeSparse (S : ST) (a1 : Int32) : Option (ST) := f_X8_makeSparse_0 S a1
set_option maxHeartbeats 4000000 in
set_option maxRecDepth 100000 in
theorem k_X8_makeSparse (l : Launch) (x : CX) (S : ST) (a1 : Int32) {res : ST} (hf : f_X8_makeSparse S a1 = some res) (sz : Nat) : Met l yX8_makeSparse (Cond.code yX8_makeSparse cX8_makeSparse 6 none :: GW) ({ frames := 27, cells := 0, slots := 0, locals := 866 } : Room) (PC x S sz [.ref (x.2.2 (79)), .int a1]) (QV x res sz) 0 0 (AA x sz) := by
  refine Met.ofW (cc := cX8_makeSparse) (maxL := 6) (ret := none) (by decide) rfl ?_
  intro p e s m args below meth c s₁ B hml hv
  obtain ⟨rfl, rfl, hPW⟩ := hv
  have F : MF p m meth c cX8_makeSparse 6 s _ RX8 none := MF.of B hml
  have w := WD.of hPW
  have hl := lv_entry ([.ref (x.2.2 (79)), .int a1]) (n := 6) (Nat.le_of_ble_eq_true rfl)
  rw [lg_entry_eq]
  generalize (lg_sl ([.ref (x.2.2 (79)), .int a1]) ++ List.replicate (6 - (lg_sl ([.ref (x.2.2 (79)), .int a1])).length) Slot.unset).toArray = ls at hl ⊢
  have hl : lv_has ls 6 [(0, .ref (x.2.2 (79))), (1, .int a1)] := hl
  unfold f_X8_makeSparse at hf
  exact b_X8_makeSparse_0 F  _ _ _ _ w a1 (lv_sub hl [0, 1] rfl) hf
theorem cy_X8_quotient : CY yX8_quotient RX8 cX8_quotient 2 (some .int) 2 := ⟨q1, q829, rfl, by decide, by decide, by decide +kernel⟩
def f_X8_quotient_12 (S : ST) (as0 : Int32) : Option (Int32 × ST) := some (as0, S)
set_option maxHeartbeats 4000000 in
set_option maxRecDepth 100000 in
theorem b_X8_quotient_12 {p : Program} {l : Launch} {e : Env} {s : State} {m : MethodId} {args : Array Value} {below : List Frame} {meth : Method} {c : Code} {x : CX} {res : Int32 × ST} (F : MF p m meth c cX8_quotient 2 s args RX8 (some .int)) : ∀ (H : Heap) (locs : List Loc) (ls : Array Slot) (S : ST), WD x s S H locs → ∀ (as0 : Int32), lv_has ls 2 [] → f_X8_quotient_12 S as0 = some res → W p l e ({ frames := 0, cells := 0, slots := 0, locals := 0 } : Room) s m args below meth c H locs 0 0 (MQ below (QI x res.2 res.1 s.heap.size) args s 0 0 (AA x s.heap.size)) (F0 m 12 ls [.int as0]) := by
  intro H locs ls S w as0 hl hf
  unfold f_X8_quotient_12 at hf
  exact r_iret F w (oi_s hf) dX8_quotient_12
def f_X8_quotient_0 (S : ST) (a0 : Int32) (a1 : Int32) : Option (Int32 × ST) := (if 1 ≤ a1 then oG (nz a1) (f_X8_quotient_12 S (a0 / a1)) else f_X8_quotient_12 S 0)
set_option maxHeartbeats 4000000 in
set_option maxRecDepth 100000 in
theorem b_X8_quotient_0 {p : Program} {l : Launch} {e : Env} {s : State} {m : MethodId} {args : Array Value} {below : List Frame} {meth : Method} {c : Code} {x : CX} {res : Int32 × ST} (F : MF p m meth c cX8_quotient 2 s args RX8 (some .int)) : ∀ (H : Heap) (locs : List Loc) (ls : Array Slot) (S : ST), WD x s S H locs → ∀ (a0 : Int32) (a1 : Int32), lv_has ls 2 [(0, .int a0), (1, .int a1)] → f_X8_quotient_0 S a0 a1 = some res → W p l e ({ frames := 0, cells := 0, slots := 0, locals := 0 } : Room) s m args below meth c H locs 0 0 (MQ below (QI x res.2 res.1 s.heap.size) args s 0 0 (AA x s.heap.size)) (F0 m 0 ls []) := by
  intro H locs ls S w a0 a1 hl hf
  unfold f_X8_quotient_0 at hf
  refine lv_iload_n F.1 F.2.1 dX8_quotient_0 rfl (lv_at hl 1 rfl) ?_
  refine lv_iconst (v := 1) F.1 F.2.1 dX8_quotient_1 (by decide) ?_
  refine lv_icmp_ge (tgt := 9) F.1 F.2.1 dX8_quotient_2 (by decide) (fun c1 => ?_) (fun c1 => ?_)
  · replace hf := oi_t hf c1
    refine lv_iload_n F.1 F.2.1 dX8_quotient_9 rfl (lv_at hl 0 rfl) ?_
    refine lv_iload_n F.1 F.2.1 dX8_quotient_10 rfl (lv_at hl 1 rfl) ?_
    obtain ⟨hz2, hf⟩ := oi_g hf
    refine lv_idiv F.1 F.2.1 dX8_quotient_11 (nz_ne hz2) ?_
    exact b_X8_quotient_12 F  _ _ _ _ w (a0 / a1) (lv_sub hl [] rfl) hf
  · replace hf := oi_f hf c1
    refine lv_iconst (v := 0) F.1 F.2.1 dX8_quotient_5 (by decide) ?_
    refine lv_goto (tgt := 12) F.1 F.2.1 dX8_quotient_6 (by decide) ?_
    exact b_X8_quotient_12 F  _ _ _ _ w 0 (lv_sub hl [] rfl) hf
def f_X8_quotient (S : ST) (a0 : Int32) (a1 : Int32) : Option (Int32 × ST) := f_X8_quotient_0 S a0 a1
set_option maxHeartbeats 4000000 in
set_option maxRecDepth 100000 in
theorem k_X8_quotient (l : Launch) (x : CX) (S : ST) (a0 : Int32) (a1 : Int32) {res : Int32 × ST} (hf : f_X8_quotient S a0 a1 = some res) (sz : Nat) : Met l yX8_quotient (Cond.code yX8_quotient cX8_quotient 2 (some .int) :: GW) ({ frames := 0, cells := 0, slots := 0, locals := 0 } : Room) (PC x S sz [.int a0, .int a1]) (QI x res.2 res.1 sz) 0 0 (AA x sz) := by
  refine Met.ofW (cc := cX8_quotient) (maxL := 2) (ret := (some .int)) (by decide) rfl ?_
  intro p e s m args below meth c s₁ B hml hv
  obtain ⟨rfl, rfl, hPW⟩ := hv
  have F : MF p m meth c cX8_quotient 2 s _ RX8 (some .int) := MF.of B hml
  have w := WD.of hPW
  have hl := lv_entry ([.int a0, .int a1]) (n := 2) (Nat.le_of_ble_eq_true rfl)
  rw [lg_entry_eq]
  generalize (lg_sl ([.int a0, .int a1]) ++ List.replicate (2 - (lg_sl ([.int a0, .int a1])).length) Slot.unset).toArray = ls at hl ⊢
  have hl : lv_has ls 2 [(0, .int a0), (1, .int a1)] := hl
  unfold f_X8_quotient at hf
  exact b_X8_quotient_0 F  _ _ _ _ w a0 a1 (lv_sub hl [0, 1] rfl) hf
theorem cy_X8_finishDifferenceSet : CY yX8_finishDifferenceSet RX8 cX8_finishDifferenceSet 6 (some .boolean) 5 := ⟨q1, q844, rfl, by decide, by decide, by decide +kernel⟩
def f_X8_finishDifferenceSet_62 (rec : ST → Nat → Int32 → Int32 → Int32 → Option (Int32 × ST)) (k14 : ST → Nat → Int32 → Int32 → Int32 → Int32 → Option (Int32 × ST)) (S : ST) (i0 : Nat) (a2 : Int32) (a3 : Int32) (a4 : Int32) (a5 : Int32) : Option (Int32 × ST) := oB (f_X5_countMark S i0 a5 a3 (-1)) (fun (r2 : Int32) (S1 : ST) => oL (a5 + 1) (fun (v3 : Int32) => k14 S1 i0 a2 a3 a4 v3))
set_option maxHeartbeats 4000000 in
set_option maxRecDepth 100000 in
theorem b_X8_finishDifferenceSet_62 {p : Program} {l : Launch} {e : Env} {s : State} {m : MethodId} {args : Array Value} {below : List Frame} {meth : Method} {c : Code} {x : CX} {res : Int32 × ST} (F : MF p m meth c cX8_finishDifferenceSet 6 s args RX8 (some .boolean)) (d : Nat) (rec : ST → Nat → Int32 → Int32 → Int32 → Option (Int32 × ST)) (hrec : ∀ (S : ST) (i0 : Nat) (a2 : Int32) (a3 : Int32) (a4 : Int32) (res : Int32 × ST) (sz : Nat), i0 < 22 → rec S i0 a2 a3 a4 = some res → Met l yX8_finishDifferenceSet (Cond.code yX8_finishDifferenceSet cX8_finishDifferenceSet 6 (some .boolean) :: GW) ({ frames := 2 + d, cells := 0, slots := 0, locals := 51 + 25 * d } : Room) (PC x S sz [.ref (x.2.2 (2 * i0)), .ref (x.2.2 (75)), .int a2, .int a3, .int a4]) (QI x res.2 res.1 sz) 0 0 (AA x sz)) (k14 : ST → Nat → Int32 → Int32 → Int32 → Int32 → Option (Int32 × ST)) (hk14 : ∀ (H : Heap) (locs : List Loc) (ls : Array Slot) (S : ST), WD x s S H locs → ∀ (i0 : Nat) (a2 : Int32) (a3 : Int32) (a4 : Int32) (a5 : Int32), i0 < 22 → lv_has ls 6 [(0, .ref (x.2.2 (2 * i0))), (1, .ref (x.2.2 (75))), (2, .int a2), (3, .int a3), (4, .int a4), (5, .int a5)] → k14 S i0 a2 a3 a4 a5 = some res → W p l e ({ frames := 2 + (d + 1), cells := 0, slots := 0, locals := 51 + 25 * (d + 1) } : Room) s m args below meth c H locs 0 0 (MQ below (QI x res.2 res.1 s.heap.size) args s 0 0 (AA x s.heap.size)) (F0 m 14 ls [])) : ∀ (H : Heap) (locs : List Loc) (ls : Array Slot) (S : ST), WD x s S H locs → ∀ (i0 : Nat) (a2 : Int32) (a3 : Int32) (a4 : Int32) (a5 : Int32), i0 < 22 → lv_has ls 6 [(0, .ref (x.2.2 (2 * i0))), (1, .ref (x.2.2 (75))), (2, .int a2), (3, .int a3), (4, .int a4), (5, .int a5)] → f_X8_finishDifferenceSet_62 rec k14 S i0 a2 a3 a4 a5 = some res → W p l e ({ frames := 2 + (d + 1), cells := 0, slots := 0, locals := 51 + 25 * (d + 1) } : Room) s m args below meth c H locs 0 0 (MQ below (QI x res.2 res.1 s.heap.size) args s 0 0 (AA x s.heap.size)) (F0 m 62 ls []) := by
  intro H locs ls S w i0 a2 a3 a4 a5 h0 hl hf
  unfold f_X8_finishDifferenceSet_62 at hf
  refine lv_aload_n F.1 F.2.1 dX8_finishDifferenceSet_62 rfl (lv_at hl 1 rfl) ?_
  refine lv_aload_n F.1 F.2.1 dX8_finishDifferenceSet_63 rfl (lv_at hl 0 rfl) ?_
  refine lv_iload F.1 F.2.1 dX8_finishDifferenceSet_64 (lv_at hl 5 rfl) ?_
  refine lv_iload_n F.1 F.2.1 dX8_finishDifferenceSet_66 rfl (lv_at hl 3 rfl) ?_
  refine lv_iconst (v := (-1)) F.1 F.2.1 dX8_finishDifferenceSet_67 (by decide) ?_
  obtain ⟨r2, S1, hc, hf⟩ := oi_b hf
  refine k_i0 (S' := S1) (r := r2) w (runV (As := [.ref (x.2.2 (2 * i0)), .int a5, .int a3, .int (-1)]) (rest := []) (kb := 75) F w (k_X5_countMark l x S i0 a5 a3 (-1) h0 hc H.size) cy_X5_countMark q835 q836 q837 ⟨rfl, rfl⟩ ⟨by show _ ≤ _; dsimp only; omega, by show _ ≤ _; dsimp only; omega⟩ (by decide) rfl rfl rfl rfl hl.1 (Nat.le_of_ble_eq_true rfl) ⟨by show _ ≤ _; dsimp only; omega, by show _ ≤ _; dsimp only; omega⟩ dX8_finishDifferenceSet_68) (fun H locs w => ?_)
  refine lv_pop F.1 F.2.1 dX8_finishDifferenceSet_71 rfl ?_
  obtain ⟨v3, e_v3⟩ : ∃ y : Int32, y = (a5 + 1) := ⟨_, rfl⟩
  replace hf := oi_l hf e_v3
  refine lv_iinc (v := v3) (lv' := [(5, .int v3), (0, .ref (x.2.2 (2 * i0))), (1, .ref (x.2.2 (75))), (2, .int a2), (3, .int a3), (4, .int a4)]) F.1 F.2.1 dX8_finishDifferenceSet_72 hl (k := 5) rfl (by rw [e_v3]; rfl) (by decide) rfl (fun ls hl => ?_)
  refine lv_goto (tgt := 14) F.1 F.2.1 dX8_finishDifferenceSet_75 (by decide) ?_
  exact hk14 _ _ _ _ w i0 a2 a3 a4 v3 h0 (lv_sub hl [1, 2, 3, 4, 5, 0] rfl) hf
def f_X8_finishDifferenceSet_14 (rec : ST → Nat → Int32 → Int32 → Int32 → Option (Int32 × ST)) : Nat → ST → Nat → Int32 → Int32 → Int32 → Int32 → Option (Int32 × ST)
  | 0, _, _, _, _, _, _ => none
  | n + 1, S, i0, a2, a3, a4, a5 => (if (a3 - a2) < a5 then some (0, S) else oB (f_X5_countMark S i0 a5 a3 1) (fun (r3 : Int32) (S2 : ST) => (if a4 < r3 then f_X8_finishDifferenceSet_62 rec (f_X8_finishDifferenceSet_14 rec n) S2 i0 a2 a3 a4 a5 else oV (f_X2_push S2 i0 a5) (fun (S5 : ST) => oB (rec S5 i0 (a2 - (1 : Int32)) a3 a4) (fun (r7 : Int32) (S6 : ST) => (if r7 = 0 then oV (f_X2_pop S6 i0) (fun (S9 : ST) => f_X8_finishDifferenceSet_62 rec (f_X8_finishDifferenceSet_14 rec n) S9 i0 a2 a3 a4 a5) else some (1, S6)))))))
set_option maxHeartbeats 4000000 in
set_option maxRecDepth 100000 in
theorem b_X8_finishDifferenceSet_14 {p : Program} {l : Launch} {e : Env} {s : State} {m : MethodId} {args : Array Value} {below : List Frame} {meth : Method} {c : Code} {x : CX} {res : Int32 × ST} (F : MF p m meth c cX8_finishDifferenceSet 6 s args RX8 (some .boolean)) (d : Nat) (rec : ST → Nat → Int32 → Int32 → Int32 → Option (Int32 × ST)) (hrec : ∀ (S : ST) (i0 : Nat) (a2 : Int32) (a3 : Int32) (a4 : Int32) (res : Int32 × ST) (sz : Nat), i0 < 22 → rec S i0 a2 a3 a4 = some res → Met l yX8_finishDifferenceSet (Cond.code yX8_finishDifferenceSet cX8_finishDifferenceSet 6 (some .boolean) :: GW) ({ frames := 2 + d, cells := 0, slots := 0, locals := 51 + 25 * d } : Room) (PC x S sz [.ref (x.2.2 (2 * i0)), .ref (x.2.2 (75)), .int a2, .int a3, .int a4]) (QI x res.2 res.1 sz) 0 0 (AA x sz)) : ∀ (n : Nat), ∀ (H : Heap) (locs : List Loc) (ls : Array Slot) (S : ST), WD x s S H locs → ∀ (i0 : Nat) (a2 : Int32) (a3 : Int32) (a4 : Int32) (a5 : Int32), i0 < 22 → lv_has ls 6 [(0, .ref (x.2.2 (2 * i0))), (1, .ref (x.2.2 (75))), (2, .int a2), (3, .int a3), (4, .int a4), (5, .int a5)] → f_X8_finishDifferenceSet_14 rec n S i0 a2 a3 a4 a5 = some res → W p l e ({ frames := 2 + (d + 1), cells := 0, slots := 0, locals := 51 + 25 * (d + 1) } : Room) s m args below meth c H locs 0 0 (MQ below (QI x res.2 res.1 s.heap.size) args s 0 0 (AA x s.heap.size)) (F0 m 14 ls []) := by
  intro n
  induction n with
  | zero =>
    intro H locs ls S w i0 a2 a3 a4 a5 h0 hl hf
    have hf : (none : Option (Int32 × ST)) = some res := hf
    cases hf
  | succ n ih =>
    intro H locs ls S w i0 a2 a3 a4 a5 h0 hl hf
    unfold f_X8_finishDifferenceSet_14 at hf
    refine lv_iload F.1 F.2.1 dX8_finishDifferenceSet_14 (lv_at hl 5 rfl) ?_
    refine lv_iload_n F.1 F.2.1 dX8_finishDifferenceSet_16 rfl (lv_at hl 3 rfl) ?_
    refine lv_iload_n F.1 F.2.1 dX8_finishDifferenceSet_17 rfl (lv_at hl 2 rfl) ?_
    refine lv_isub F.1 F.2.1 dX8_finishDifferenceSet_18 ?_
    refine lv_icmp_gt (tgt := 78) F.1 F.2.1 dX8_finishDifferenceSet_19 (by decide) (fun c1 => ?_) (fun c1 => ?_)
    · replace hf := oi_t hf c1
      refine lv_iconst (v := 0) F.1 F.2.1 dX8_finishDifferenceSet_78 (by decide) ?_
      exact r_zret F w rfl (oi_s hf) dX8_finishDifferenceSet_79
    · replace hf := oi_f hf c1
      refine lv_aload_n F.1 F.2.1 dX8_finishDifferenceSet_22 rfl (lv_at hl 1 rfl) ?_
      refine lv_aload_n F.1 F.2.1 dX8_finishDifferenceSet_23 rfl (lv_at hl 0 rfl) ?_
      refine lv_iload F.1 F.2.1 dX8_finishDifferenceSet_24 (lv_at hl 5 rfl) ?_
      refine lv_iload_n F.1 F.2.1 dX8_finishDifferenceSet_26 rfl (lv_at hl 3 rfl) ?_
      refine lv_iconst (v := 1) F.1 F.2.1 dX8_finishDifferenceSet_27 (by decide) ?_
      obtain ⟨r3, S2, hc, hf⟩ := oi_b hf
      refine k_i0 (S' := S2) (r := r3) w (runV (As := [.ref (x.2.2 (2 * i0)), .int a5, .int a3, .int 1]) (rest := []) (kb := 75) F w (k_X5_countMark l x S i0 a5 a3 1 h0 hc H.size) cy_X5_countMark q835 q836 q837 ⟨rfl, rfl⟩ ⟨by show _ ≤ _; dsimp only; omega, by show _ ≤ _; dsimp only; omega⟩ (by decide) rfl rfl rfl rfl hl.1 (Nat.le_of_ble_eq_true rfl) ⟨by show _ ≤ _; dsimp only; omega, by show _ ≤ _; dsimp only; omega⟩ dX8_finishDifferenceSet_28) (fun H locs w => ?_)
      refine lv_iload F.1 F.2.1 dX8_finishDifferenceSet_31 (lv_at hl 4 rfl) ?_
      refine lv_icmp_gt (tgt := 62) F.1 F.2.1 dX8_finishDifferenceSet_33 (by decide) (fun c4 => ?_) (fun c4 => ?_)
      · replace hf := oi_t hf c4
        exact b_X8_finishDifferenceSet_62 F d rec hrec (f_X8_finishDifferenceSet_14 rec n) ih _ _ _ _ w i0 a2 a3 a4 a5 h0 (lv_sub hl [0, 1, 2, 3, 4, 5] rfl) hf
      · replace hf := oi_f hf c4
        refine lv_aload_n F.1 F.2.1 dX8_finishDifferenceSet_36 rfl (lv_at hl 0 rfl) ?_
        refine lv_iload F.1 F.2.1 dX8_finishDifferenceSet_37 (lv_at hl 5 rfl) ?_
        obtain ⟨S5, hc, hf⟩ := oi_v hf
        refine k_v0 (S' := S5) w (runV (As := [.int a5]) (rest := []) (kb := 2 * i0) F w (k_X2_push l x S2 i0 a5 h0 hc H.size) cy_X2_push q653 q459 q460 ⟨rfl, rfl⟩ ⟨by show _ ≤ _; dsimp only; omega, by show _ ≤ _; dsimp only; omega⟩ (k_ms h0) (enc_ms x S2 h0) rfl rfl rfl hl.1 (Nat.le_of_ble_eq_true rfl) ⟨by show _ ≤ _; dsimp only; omega, by show _ ≤ _; dsimp only; omega⟩ dX8_finishDifferenceSet_39) (fun H locs w => ?_)
        refine lv_aload_n F.1 F.2.1 dX8_finishDifferenceSet_42 rfl (lv_at hl 0 rfl) ?_
        refine lv_aload_n F.1 F.2.1 dX8_finishDifferenceSet_43 rfl (lv_at hl 1 rfl) ?_
        refine lv_iload_n F.1 F.2.1 dX8_finishDifferenceSet_44 rfl (lv_at hl 2 rfl) ?_
        refine lv_iconst (v := 1) F.1 F.2.1 dX8_finishDifferenceSet_45 (by decide) ?_
        refine lv_isub F.1 F.2.1 dX8_finishDifferenceSet_46 ?_
        refine lv_iload_n F.1 F.2.1 dX8_finishDifferenceSet_47 rfl (lv_at hl 3 rfl) ?_
        refine lv_iload F.1 F.2.1 dX8_finishDifferenceSet_48 (lv_at hl 4 rfl) ?_
        obtain ⟨r7, S6, hc, hf⟩ := oi_b hf
        refine k_i0 (S' := S6) (r := r7) w (runS (As := [.ref (x.2.2 (2 * i0)), .ref (x.2.2 (75)), .int (a2 - (1 : Int32)), .int a3, .int a4]) (rest := []) F w (hrec S5 i0 (a2 - (1 : Int32)) a3 a4 _ H.size h0 hc) cy_X8_finishDifferenceSet q842 q843 ⟨rfl, rfl⟩ ⟨by show _ ≤ _; dsimp only; omega, by show _ ≤ _; dsimp only; omega⟩ rfl rfl hl.1 (Nat.le_of_ble_eq_true rfl) ⟨by show _ ≤ _; dsimp only; omega, by show _ ≤ _; dsimp only; omega⟩ dX8_finishDifferenceSet_50) (fun H locs w => ?_)
        refine lv_if_eq (tgt := 58) F.1 F.2.1 dX8_finishDifferenceSet_53 (by decide) (fun c8 => ?_) (fun c8 => ?_)
        · replace hf := oi_t hf c8
          refine lv_aload_n F.1 F.2.1 dX8_finishDifferenceSet_58 rfl (lv_at hl 0 rfl) ?_
          obtain ⟨S9, hc, hf⟩ := oi_v hf
          refine k_v0 (S' := S9) w (runV (As := []) (rest := []) (kb := 2 * i0) F w (k_X2_pop l x S6 i0 h0 hc H.size) cy_X2_pop q798 q799 q800 ⟨rfl, rfl⟩ ⟨by show _ ≤ _; dsimp only; omega, by show _ ≤ _; dsimp only; omega⟩ (k_ms h0) (enc_ms x S6 h0) rfl rfl rfl hl.1 (Nat.le_of_ble_eq_true rfl) ⟨by show _ ≤ _; dsimp only; omega, by show _ ≤ _; dsimp only; omega⟩ dX8_finishDifferenceSet_59) (fun H locs w => ?_)
          exact b_X8_finishDifferenceSet_62 F d rec hrec (f_X8_finishDifferenceSet_14 rec n) ih _ _ _ _ w i0 a2 a3 a4 a5 h0 (lv_sub hl [0, 1, 2, 3, 4, 5] rfl) hf
        · replace hf := oi_f hf c8
          refine lv_iconst (v := 1) F.1 F.2.1 dX8_finishDifferenceSet_56 (by decide) ?_
          exact r_zret F w rfl (oi_s hf) dX8_finishDifferenceSet_57
def f_X8_finishDifferenceSet_0 (rec : ST → Nat → Int32 → Int32 → Int32 → Option (Int32 × ST)) (S : ST) (i0 : Nat) (a2 : Int32) (a3 : Int32) (a4 : Int32) : Option (Int32 × ST) := (if 0 < a2 then oB (f_X2_greatest S i0) (fun (r3 : Int32) (S2 : ST) => oL (r3 + (1 : Int32)) (fun (v4 : Int32) => f_X8_finishDifferenceSet_14 rec FU S2 i0 a2 a3 a4 v4)) else some (1, S))
set_option maxHeartbeats 4000000 in
set_option maxRecDepth 100000 in
theorem b_X8_finishDifferenceSet_0 {p : Program} {l : Launch} {e : Env} {s : State} {m : MethodId} {args : Array Value} {below : List Frame} {meth : Method} {c : Code} {x : CX} {res : Int32 × ST} (F : MF p m meth c cX8_finishDifferenceSet 6 s args RX8 (some .boolean)) (d : Nat) (rec : ST → Nat → Int32 → Int32 → Int32 → Option (Int32 × ST)) (hrec : ∀ (S : ST) (i0 : Nat) (a2 : Int32) (a3 : Int32) (a4 : Int32) (res : Int32 × ST) (sz : Nat), i0 < 22 → rec S i0 a2 a3 a4 = some res → Met l yX8_finishDifferenceSet (Cond.code yX8_finishDifferenceSet cX8_finishDifferenceSet 6 (some .boolean) :: GW) ({ frames := 2 + d, cells := 0, slots := 0, locals := 51 + 25 * d } : Room) (PC x S sz [.ref (x.2.2 (2 * i0)), .ref (x.2.2 (75)), .int a2, .int a3, .int a4]) (QI x res.2 res.1 sz) 0 0 (AA x sz)) : ∀ (H : Heap) (locs : List Loc) (ls : Array Slot) (S : ST), WD x s S H locs → ∀ (i0 : Nat) (a2 : Int32) (a3 : Int32) (a4 : Int32), i0 < 22 → lv_has ls 6 [(0, .ref (x.2.2 (2 * i0))), (1, .ref (x.2.2 (75))), (2, .int a2), (3, .int a3), (4, .int a4)] → f_X8_finishDifferenceSet_0 rec S i0 a2 a3 a4 = some res → W p l e ({ frames := 2 + (d + 1), cells := 0, slots := 0, locals := 51 + 25 * (d + 1) } : Room) s m args below meth c H locs 0 0 (MQ below (QI x res.2 res.1 s.heap.size) args s 0 0 (AA x s.heap.size)) (F0 m 0 ls []) := by
  intro H locs ls S w i0 a2 a3 a4 h0 hl hf
  unfold f_X8_finishDifferenceSet_0 at hf
  refine lv_iload_n F.1 F.2.1 dX8_finishDifferenceSet_0 rfl (lv_at hl 2 rfl) ?_
  refine lv_if_gt (tgt := 6) F.1 F.2.1 dX8_finishDifferenceSet_1 (by decide) (fun c1 => ?_) (fun c1 => ?_)
  · replace hf := oi_t hf c1
    refine lv_aload_n F.1 F.2.1 dX8_finishDifferenceSet_6 rfl (lv_at hl 0 rfl) ?_
    obtain ⟨r3, S2, hc, hf⟩ := oi_b hf
    refine k_i0 (S' := S2) (r := r3) w (runV (As := []) (rest := []) (kb := 2 * i0) F w (k_X2_greatest l x S i0 h0 hc H.size) cy_X2_greatest q256 q257 q258 ⟨rfl, rfl⟩ ⟨by show _ ≤ _; dsimp only; omega, by show _ ≤ _; dsimp only; omega⟩ (k_ms h0) (enc_ms x S h0) rfl rfl rfl hl.1 (Nat.le_of_ble_eq_true rfl) ⟨by show _ ≤ _; dsimp only; omega, by show _ ≤ _; dsimp only; omega⟩ dX8_finishDifferenceSet_7) (fun H locs w => ?_)
    refine lv_iconst (v := 1) F.1 F.2.1 dX8_finishDifferenceSet_10 (by decide) ?_
    refine lv_iadd F.1 F.2.1 dX8_finishDifferenceSet_11 ?_
    refine lv_topi (fun v4 e_v4 => ?_)
    replace hf := oi_l hf e_v4
    refine lv_istore (lv' := [(5, .int v4), (0, .ref (x.2.2 (2 * i0))), (1, .ref (x.2.2 (75))), (2, .int a2), (3, .int a3), (4, .int a4)]) F.1 F.2.1 dX8_finishDifferenceSet_12 hl (by decide) rfl (fun ls hl => ?_)
    exact b_X8_finishDifferenceSet_14 F d rec hrec FU _ _ _ _ w i0 a2 a3 a4 v4 h0 (lv_sub hl [1, 2, 3, 4, 5, 0] rfl) hf
  · replace hf := oi_f hf c1
    refine lv_iconst (v := 1) F.1 F.2.1 dX8_finishDifferenceSet_4 (by decide) ?_
    exact r_zret F w rfl (oi_s hf) dX8_finishDifferenceSet_5
def g_X8_finishDifferenceSet (rec : ST → Nat → Int32 → Int32 → Int32 → Option (Int32 × ST)) (S : ST) (i0 : Nat) (a2 : Int32) (a3 : Int32) (a4 : Int32) : Option (Int32 × ST) := f_X8_finishDifferenceSet_0 rec S i0 a2 a3 a4
def f_X8_finishDifferenceSet_n : Nat → ST → Nat → Int32 → Int32 → Int32 → Option (Int32 × ST)
  | 0, _, _, _, _, _ => none
  | d + 1, S, i0, a2, a3, a4 => g_X8_finishDifferenceSet (f_X8_finishDifferenceSet_n d) S i0 a2 a3 a4
def f_X8_finishDifferenceSet (S : ST) (i0 : Nat) (a2 : Int32) (a3 : Int32) (a4 : Int32) : Option (Int32 × ST) := f_X8_finishDifferenceSet_n RD S i0 a2 a3 a4
set_option maxHeartbeats 4000000 in
set_option maxRecDepth 100000 in
theorem kr_X8_finishDifferenceSet (l : Launch) (x : CX) (d : Nat) (rec : ST → Nat → Int32 → Int32 → Int32 → Option (Int32 × ST)) (hrec : ∀ (S : ST) (i0 : Nat) (a2 : Int32) (a3 : Int32) (a4 : Int32) (res : Int32 × ST) (sz : Nat), i0 < 22 → rec S i0 a2 a3 a4 = some res → Met l yX8_finishDifferenceSet (Cond.code yX8_finishDifferenceSet cX8_finishDifferenceSet 6 (some .boolean) :: GW) ({ frames := 2 + d, cells := 0, slots := 0, locals := 51 + 25 * d } : Room) (PC x S sz [.ref (x.2.2 (2 * i0)), .ref (x.2.2 (75)), .int a2, .int a3, .int a4]) (QI x res.2 res.1 sz) 0 0 (AA x sz)) (S : ST) (i0 : Nat) (a2 : Int32) (a3 : Int32) (a4 : Int32) (h0 : i0 < 22) {res : Int32 × ST} (hf : g_X8_finishDifferenceSet rec S i0 a2 a3 a4 = some res) (sz : Nat) : Met l yX8_finishDifferenceSet (Cond.code yX8_finishDifferenceSet cX8_finishDifferenceSet 6 (some .boolean) :: GW) ({ frames := 2 + (d + 1), cells := 0, slots := 0, locals := 51 + 25 * (d + 1) } : Room) (PC x S sz [.ref (x.2.2 (2 * i0)), .ref (x.2.2 (75)), .int a2, .int a3, .int a4]) (QI x res.2 res.1 sz) 0 0 (AA x sz) := by
  refine Met.ofW (cc := cX8_finishDifferenceSet) (maxL := 6) (ret := (some .boolean)) (by decide) rfl ?_
  intro p e s m args below meth c s₁ B hml hv
  obtain ⟨rfl, rfl, hPW⟩ := hv
  have F : MF p m meth c cX8_finishDifferenceSet 6 s _ RX8 (some .boolean) := MF.of B hml
  have w := WD.of hPW
  have hl := lv_entry ([.ref (x.2.2 (2 * i0)), .ref (x.2.2 (75)), .int a2, .int a3, .int a4]) (n := 6) (Nat.le_of_ble_eq_true rfl)
  rw [lg_entry_eq]
  generalize (lg_sl ([.ref (x.2.2 (2 * i0)), .ref (x.2.2 (75)), .int a2, .int a3, .int a4]) ++ List.replicate (6 - (lg_sl ([.ref (x.2.2 (2 * i0)), .ref (x.2.2 (75)), .int a2, .int a3, .int a4])).length) Slot.unset).toArray = ls at hl ⊢
  have hl : lv_has ls 6 [(0, .ref (x.2.2 (2 * i0))), (1, .ref (x.2.2 (75))), (2, .int a2), (3, .int a3), (4, .int a4)] := hl
  unfold g_X8_finishDifferenceSet at hf
  exact b_X8_finishDifferenceSet_0 F d rec hrec  _ _ _ _ w i0 a2 a3 a4 h0 (lv_sub hl [0, 1, 2, 3, 4] rfl) hf
theorem kn_X8_finishDifferenceSet (l : Launch) (x : CX) : ∀ (d : Nat) (S : ST) (i0 : Nat) (a2 : Int32) (a3 : Int32) (a4 : Int32) (res : Int32 × ST) (sz : Nat), i0 < 22 → f_X8_finishDifferenceSet_n d S i0 a2 a3 a4 = some res → Met l yX8_finishDifferenceSet (Cond.code yX8_finishDifferenceSet cX8_finishDifferenceSet 6 (some .boolean) :: GW) ({ frames := 2 + d, cells := 0, slots := 0, locals := 51 + 25 * d } : Room) (PC x S sz [.ref (x.2.2 (2 * i0)), .ref (x.2.2 (75)), .int a2, .int a3, .int a4]) (QI x res.2 res.1 sz) 0 0 (AA x sz)
  | 0, _, _, _, _, _, _, _, _, h => by have h : (none : Option (Int32 × ST)) = some _ := h; cases h
  | d + 1, S, i0, a2, a3, a4, res, sz, h0, h => kr_X8_finishDifferenceSet l x d (f_X8_finishDifferenceSet_n d) (kn_X8_finishDifferenceSet l x d) S i0 a2 a3 a4 h0 h sz
theorem k_X8_finishDifferenceSet (l : Launch) (x : CX) (S : ST) (i0 : Nat) (a2 : Int32) (a3 : Int32) (a4 : Int32) (h0 : i0 < 22) {res : Int32 × ST} (hf : f_X8_finishDifferenceSet S i0 a2 a3 a4 = some res) (sz : Nat) : Met l yX8_finishDifferenceSet (Cond.code yX8_finishDifferenceSet cX8_finishDifferenceSet 6 (some .boolean) :: GW) ({ frames := 26, cells := 0, slots := 0, locals := 651 } : Room) (PC x S sz [.ref (x.2.2 (2 * i0)), .ref (x.2.2 (75)), .int a2, .int a3, .int a4]) (QI x res.2 res.1 sz) 0 0 (AA x sz) := kn_X8_finishDifferenceSet l x RD S i0 a2 a3 a4 res sz h0 hf
