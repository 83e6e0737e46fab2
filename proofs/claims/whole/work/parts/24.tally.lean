theorem cy_X5_wipe : CY yX5_wipe RX5 cX5_wipe 1 none 0 := ⟨q8, q272, rfl, by decide, by decide, by decide +kernel⟩
def f_X5_wipe_0 (S : ST)  : Option (ST) := oV (f_J7_fill_53178 S 0) (fun (S1 : ST) => some S1)
set_option maxHeartbeats 4000000 in
set_option maxRecDepth 100000 in
theorem b_X5_wipe_0 {p : Program} {l : Launch} {e : Env} {s : State} {m : MethodId} {args : Array Value} {below : List Frame} {meth : Method} {c : Code} {x : CX} {res : ST} (F : MF p m meth c cX5_wipe 1 s args RX5 none) : ∀ (H : Heap) (locs : List Loc) (ls : Array Slot) (S : ST), WD x s S H locs → lv_has ls 1 [(0, .ref (x.2.2 (75)))] → f_X5_wipe_0 S = some res → W p l e ({ frames := 1, cells := 0, slots := 0, locals := 23 } : Room) s m args below meth c H locs 0 0 (MQ below (QV x res s.heap.size) args s 0 0 (AA x s.heap.size)) (F0 m 0 ls []) := by
  intro H locs ls S w hl hf
  unfold f_X5_wipe_0 at hf
  refine lv_aload_n F.1 F.2.1 dX5_wipe_0 rfl (lv_at hl 0 rfl) ?_
  refine g_TY_counts F w q141 dX5_wipe_1 ?_
  refine lv_iconst (v := 0) F.1 F.2.1 dX5_wipe_4 (by decide) ?_
  obtain ⟨S1, hc, hf⟩ := oi_v hf
  refine k_v0 (S' := S1) w (runS (As := [.ref (x.2.2 (76)), .int 0]) (rest := []) F w (k_J7_fill_53178 l x S 0 hc H.size) cy_J7_fill_53178 q273 q274 ⟨rfl, rfl⟩ ⟨Nat.le_of_ble_eq_true rfl, Nat.le_of_ble_eq_true rfl⟩ rfl rfl hl.1 (Nat.le_of_ble_eq_true rfl) ⟨Nat.le_of_ble_eq_true rfl, Nat.le_of_ble_eq_true rfl⟩ dX5_wipe_5) (fun H locs w => ?_)
  exact r_vret F w (oi_s hf) dX5_wipe_8
def f_X5_wipe (S : ST)  : Option (ST) := f_X5_wipe_0 S
set_option maxHeartbeats 4000000 in
set_option maxRecDepth 100000 in
theorem k_X5_wipe (l : Launch) (x : CX) (S : ST)  {res : ST} (hf : f_X5_wipe S  = some res) (sz : Nat) : Met l yX5_wipe (Cond.code yX5_wipe cX5_wipe 1 none :: GW) ({ frames := 1, cells := 0, slots := 0, locals := 23 } : Room) (PC x S sz [.ref (x.2.2 (75))]) (QV x res sz) 0 0 (AA x sz) := by
  refine Met.ofW (cc := cX5_wipe) (maxL := 1) (ret := none) (by decide) rfl ?_
  intro p e s m args below meth c s₁ B hml hv
  obtain ⟨rfl, rfl, hPW⟩ := hv
  have F : MF p m meth c cX5_wipe 1 s _ RX5 none := MF.of B hml
  have w := WD.of hPW
  have hl := lv_entry ([.ref (x.2.2 (75))]) (n := 1) (Nat.le_of_ble_eq_true rfl)
  rw [lg_entry_eq]
  generalize (lg_sl ([.ref (x.2.2 (75))]) ++ List.replicate (1 - (lg_sl ([.ref (x.2.2 (75))])).length) Slot.unset).toArray = ls at hl ⊢
  have hl : lv_has ls 1 [(0, .ref (x.2.2 (75)))] := hl
  unfold f_X5_wipe at hf
  exact b_X5_wipe_0 F  _ _ _ _ w  (lv_sub hl [0] rfl) hf
theorem cy_X5_of : CY yX5_of RX5 cX5_of 2 (some .int) 1 := ⟨q8, q288, rfl, by decide, by decide, by decide +kernel⟩
def f_X5_of_21 (S : ST) (as0 : Int32) : Option (Int32 × ST) := some (as0, S)
set_option maxHeartbeats 4000000 in
set_option maxRecDepth 100000 in
theorem b_X5_of_21 {p : Program} {l : Launch} {e : Env} {s : State} {m : MethodId} {args : Array Value} {below : List Frame} {meth : Method} {c : Code} {x : CX} {res : Int32 × ST} (F : MF p m meth c cX5_of 2 s args RX5 (some .int)) : ∀ (H : Heap) (locs : List Loc) (ls : Array Slot) (S : ST), WD x s S H locs → ∀ (as0 : Int32), lv_has ls 2 [] → f_X5_of_21 S as0 = some res → W p l e ({ frames := 0, cells := 0, slots := 0, locals := 0 } : Room) s m args below meth c H locs 0 0 (MQ below (QI x res.2 res.1 s.heap.size) args s 0 0 (AA x s.heap.size)) (F0 m 21 ls [.int as0]) := by
  intro H locs ls S w as0 hl hf
  unfold f_X5_of_21 at hf
  exact r_iret F w (oi_s hf) dX5_of_21
def f_X5_of_20 (S : ST)  : Option (Int32 × ST) := f_X5_of_21 S 0
set_option maxHeartbeats 4000000 in
set_option maxRecDepth 100000 in
theorem b_X5_of_20 {p : Program} {l : Launch} {e : Env} {s : State} {m : MethodId} {args : Array Value} {below : List Frame} {meth : Method} {c : Code} {x : CX} {res : Int32 × ST} (F : MF p m meth c cX5_of 2 s args RX5 (some .int)) : ∀ (H : Heap) (locs : List Loc) (ls : Array Slot) (S : ST), WD x s S H locs → lv_has ls 2 [] → f_X5_of_20 S = some res → W p l e ({ frames := 0, cells := 0, slots := 0, locals := 0 } : Room) s m args below meth c H locs 0 0 (MQ below (QI x res.2 res.1 s.heap.size) args s 0 0 (AA x s.heap.size)) (F0 m 20 ls []) := by
  intro H locs ls S w hl hf
  unfold f_X5_of_20 at hf
  refine lv_iconst (v := 0) F.1 F.2.1 dX5_of_20 (by decide) ?_
  exact b_X5_of_21 F  _ _ _ _ w 0 (lv_sub hl [] rfl) hf
def f_X5_of_0 (S : ST) (a1 : Int32) : Option (Int32 × ST) := (if a1 < 0 then f_X5_of_20 S else (if 1000 ≤ a1 then f_X5_of_20 S else oG (inB a1 1000) (f_X5_of_21 S (ai S 24 (Int32.toNatClampNeg a1)))))
set_option maxHeartbeats 4000000 in
set_option maxRecDepth 100000 in
theorem b_X5_of_0 {p : Program} {l : Launch} {e : Env} {s : State} {m : MethodId} {args : Array Value} {below : List Frame} {meth : Method} {c : Code} {x : CX} {res : Int32 × ST} (F : MF p m meth c cX5_of 2 s args RX5 (some .int)) : ∀ (H : Heap) (locs : List Loc) (ls : Array Slot) (S : ST), WD x s S H locs → ∀ (a1 : Int32), lv_has ls 2 [(0, .ref (x.2.2 (75))), (1, .int a1)] → f_X5_of_0 S a1 = some res → W p l e ({ frames := 0, cells := 0, slots := 0, locals := 0 } : Room) s m args below meth c H locs 0 0 (MQ below (QI x res.2 res.1 s.heap.size) args s 0 0 (AA x s.heap.size)) (F0 m 0 ls []) := by
  intro H locs ls S w a1 hl hf
  unfold f_X5_of_0 at hf
  refine lv_iload_n F.1 F.2.1 dX5_of_0 rfl (lv_at hl 1 rfl) ?_
  refine lv_if_lt (tgt := 20) F.1 F.2.1 dX5_of_1 (by decide) (fun c1 => ?_) (fun c1 => ?_)
  · replace hf := oi_t hf c1
    exact b_X5_of_20 F  _ _ _ _ w  (lv_sub hl [] rfl) hf
  · replace hf := oi_f hf c1
    refine lv_iload_n F.1 F.2.1 dX5_of_4 rfl (lv_at hl 1 rfl) ?_
    refine lv_sipush (v := 1000) F.1 F.2.1 dX5_of_5 (by decide) ?_
    refine lv_icmp_ge (tgt := 20) F.1 F.2.1 dX5_of_8 (by decide) (fun c2 => ?_) (fun c2 => ?_)
    · replace hf := oi_t hf c2
      exact b_X5_of_20 F  _ _ _ _ w  (lv_sub hl [] rfl) hf
    · replace hf := oi_f hf c2
      refine lv_aload_n F.1 F.2.1 dX5_of_11 rfl (lv_at hl 0 rfl) ?_
      refine g_TY_counts F w q141 dX5_of_12 ?_
      refine lv_iload_n F.1 F.2.1 dX5_of_15 rfl (lv_at hl 1 rfl) ?_
      obtain ⟨hb3, hf⟩ := oi_g hf
      refine r_iald F w (k := 76) (f := ai S 24) (by decide) rfl hb3 dX5_of_16 ?_
      refine lv_goto (tgt := 21) F.1 F.2.1 dX5_of_17 (by decide) ?_
      exact b_X5_of_21 F  _ _ _ _ w (ai S 24 (Int32.toNatClampNeg a1)) (lv_sub hl [] rfl) hf
def f_X5_of (S : ST) (a1 : Int32) : Option (Int32 × ST) := f_X5_of_0 S a1
set_option maxHeartbeats 4000000 in
set_option maxRecDepth 100000 in
theorem k_X5_of (l : Launch) (x : CX) (S : ST) (a1 : Int32) {res : Int32 × ST} (hf : f_X5_of S a1 = some res) (sz : Nat) : Met l yX5_of (Cond.code yX5_of cX5_of 2 (some .int) :: GW) ({ frames := 0, cells := 0, slots := 0, locals := 0 } : Room) (PC x S sz [.ref (x.2.2 (75)), .int a1]) (QI x res.2 res.1 sz) 0 0 (AA x sz) := by
  refine Met.ofW (cc := cX5_of) (maxL := 2) (ret := (some .int)) (by decide) rfl ?_
  intro p e s m args below meth c s₁ B hml hv
  obtain ⟨rfl, rfl, hPW⟩ := hv
  have F : MF p m meth c cX5_of 2 s _ RX5 (some .int) := MF.of B hml
  have w := WD.of hPW
  have hl := lv_entry ([.ref (x.2.2 (75)), .int a1]) (n := 2) (Nat.le_of_ble_eq_true rfl)
  rw [lg_entry_eq]
  generalize (lg_sl ([.ref (x.2.2 (75)), .int a1]) ++ List.replicate (2 - (lg_sl ([.ref (x.2.2 (75)), .int a1])).length) Slot.unset).toArray = ls at hl ⊢
  have hl : lv_has ls 2 [(0, .ref (x.2.2 (75))), (1, .int a1)] := hl
  unfold f_X5_of at hf
  exact b_X5_of_0 F  _ _ _ _ w a1 (lv_sub hl [0, 1] rfl) hf
theorem cy_X5_bump : CY yX5_bump RX5 cX5_bump 3 (some .int) 2 := ⟨q8, q280, rfl, by decide, by decide, by decide +kernel⟩
def f_X5_bump_11 (S : ST)  : Option (Int32 × ST) := some (0, S)
set_option maxHeartbeats 4000000 in
set_option maxRecDepth 100000 in
theorem b_X5_bump_11 {p : Program} {l : Launch} {e : Env} {s : State} {m : MethodId} {args : Array Value} {below : List Frame} {meth : Method} {c : Code} {x : CX} {res : Int32 × ST} (F : MF p m meth c cX5_bump 3 s args RX5 (some .int)) : ∀ (H : Heap) (locs : List Loc) (ls : Array Slot) (S : ST), WD x s S H locs → lv_has ls 3 [] → f_X5_bump_11 S = some res → W p l e ({ frames := 0, cells := 0, slots := 0, locals := 0 } : Room) s m args below meth c H locs 0 0 (MQ below (QI x res.2 res.1 s.heap.size) args s 0 0 (AA x s.heap.size)) (F0 m 11 ls []) := by
  intro H locs ls S w hl hf
  unfold f_X5_bump_11 at hf
  refine lv_iconst (v := 0) F.1 F.2.1 dX5_bump_11 (by decide) ?_
  exact r_iret F w (oi_s hf) dX5_bump_12
def f_X5_bump_0 (S : ST) (a1 : Int32) (a2 : Int32) : Option (Int32 × ST) := (if a1 < 0 then f_X5_bump_11 S else (if a1 < 1000 then oG (inB a1 1000) (oG (inB a1 1000) (oL (sA S 24 (upd (ai S 24) (Int32.toNatClampNeg a1) ((ai S 24 (Int32.toNatClampNeg a1)) + a2))) (fun (S5 : ST) => oG (inB a1 1000) (some ((ai S5 24 (Int32.toNatClampNeg a1)), S5))))) else f_X5_bump_11 S))
set_option maxHeartbeats 4000000 in
set_option maxRecDepth 100000 in
theorem b_X5_bump_0 {p : Program} {l : Launch} {e : Env} {s : State} {m : MethodId} {args : Array Value} {below : List Frame} {meth : Method} {c : Code} {x : CX} {res : Int32 × ST} (F : MF p m meth c cX5_bump 3 s args RX5 (some .int)) : ∀ (H : Heap) (locs : List Loc) (ls : Array Slot) (S : ST), WD x s S H locs → ∀ (a1 : Int32) (a2 : Int32), lv_has ls 3 [(0, .ref (x.2.2 (75))), (1, .int a1), (2, .int a2)] → f_X5_bump_0 S a1 a2 = some res → W p l e ({ frames := 0, cells := 0, slots := 0, locals := 0 } : Room) s m args below meth c H locs 0 0 (MQ below (QI x res.2 res.1 s.heap.size) args s 0 0 (AA x s.heap.size)) (F0 m 0 ls []) := by
  intro H locs ls S w a1 a2 hl hf
  unfold f_X5_bump_0 at hf
  refine lv_iload_n F.1 F.2.1 dX5_bump_0 rfl (lv_at hl 1 rfl) ?_
  refine lv_if_lt (tgt := 11) F.1 F.2.1 dX5_bump_1 (by decide) (fun c1 => ?_) (fun c1 => ?_)
  · replace hf := oi_t hf c1
    exact b_X5_bump_11 F  _ _ _ _ w  (lv_sub hl [] rfl) hf
  · replace hf := oi_f hf c1
    refine lv_iload_n F.1 F.2.1 dX5_bump_4 rfl (lv_at hl 1 rfl) ?_
    refine lv_sipush (v := 1000) F.1 F.2.1 dX5_bump_5 (by decide) ?_
    refine lv_icmp_lt (tgt := 13) F.1 F.2.1 dX5_bump_8 (by decide) (fun c2 => ?_) (fun c2 => ?_)
    · replace hf := oi_t hf c2
      refine lv_aload_n F.1 F.2.1 dX5_bump_13 rfl (lv_at hl 0 rfl) ?_
      refine g_TY_counts F w q141 dX5_bump_14 ?_
      refine lv_iload_n F.1 F.2.1 dX5_bump_17 rfl (lv_at hl 1 rfl) ?_
      refine lv_dup2_11 F.1 F.2.1 dX5_bump_18 rfl rfl ?_
      obtain ⟨hb3, hf⟩ := oi_g hf
      refine r_iald F w (k := 76) (f := ai S 24) (by decide) rfl hb3 dX5_bump_19 ?_
      refine lv_iload_n F.1 F.2.1 dX5_bump_20 rfl (lv_at hl 2 rfl) ?_
      refine lv_iadd F.1 F.2.1 dX5_bump_21 ?_
      obtain ⟨hb4, hf⟩ := oi_g hf
      refine r_iast F w (k := 76) (a := 24) (n := 1000) (by decide) (fun S9 => rfl) rfl hb4 dX5_bump_22 (fun H locs w => ?_)
      obtain ⟨S5, e_S5⟩ : ∃ y : ST, y = sA S 24 (upd (ai S 24) (Int32.toNatClampNeg a1) ((ai S 24 (Int32.toNatClampNeg a1)) + a2)) := ⟨_, rfl⟩
      replace w : WD x s S5 H locs := by rw [e_S5]; exact w
      replace hf := oi_l hf e_S5
      refine lv_aload_n F.1 F.2.1 dX5_bump_23 rfl (lv_at hl 0 rfl) ?_
      refine g_TY_counts F w q141 dX5_bump_24 ?_
      refine lv_iload_n F.1 F.2.1 dX5_bump_27 rfl (lv_at hl 1 rfl) ?_
      obtain ⟨hb6, hf⟩ := oi_g hf
      refine r_iald F w (k := 76) (f := ai S5 24) (by decide) rfl hb6 dX5_bump_28 ?_
      exact r_iret F w (oi_s hf) dX5_bump_29
    · replace hf := oi_f hf c2
      exact b_X5_bump_11 F  _ _ _ _ w  (lv_sub hl [] rfl) hf
def f_X5_bump (S : ST) (a1 : Int32) (a2 : Int32) : Option (Int32 × ST) := f_X5_bump_0 S a1 a2
set_option maxHeartbeats 4000000 in
set_option maxRecDepth 100000 in
theorem k_X5_bump (l : Launch) (x : CX) (S : ST) (a1 : Int32) (a2 : Int32) {res : Int32 × ST} (hf : f_X5_bump S a1 a2 = some res) (sz : Nat) : Met l yX5_bump (Cond.code yX5_bump cX5_bump 3 (some .int) :: GW) ({ frames := 0, cells := 0, slots := 0, locals := 0 } : Room) (PC x S sz [.ref (x.2.2 (75)), .int a1, .int a2]) (QI x res.2 res.1 sz) 0 0 (AA x sz) := by
  refine Met.ofW (cc := cX5_bump) (maxL := 3) (ret := (some .int)) (by decide) rfl ?_
  intro p e s m args below meth c s₁ B hml hv
  obtain ⟨rfl, rfl, hPW⟩ := hv
  have F : MF p m meth c cX5_bump 3 s _ RX5 (some .int) := MF.of B hml
  have w := WD.of hPW
  have hl := lv_entry ([.ref (x.2.2 (75)), .int a1, .int a2]) (n := 3) (Nat.le_of_ble_eq_true rfl)
  rw [lg_entry_eq]
  generalize (lg_sl ([.ref (x.2.2 (75)), .int a1, .int a2]) ++ List.replicate (3 - (lg_sl ([.ref (x.2.2 (75)), .int a1, .int a2])).length) Slot.unset).toArray = ls at hl ⊢
  have hl : lv_has ls 3 [(0, .ref (x.2.2 (75))), (1, .int a1), (2, .int a2)] := hl
  unfold f_X5_bump at hf
  exact b_X5_bump_0 F  _ _ _ _ w a1 a2 (lv_sub hl [0, 1, 2] rfl) hf
theorem cy_X5_countCyclic : CY yX5_countCyclic RX5 cX5_countCyclic 6 none 2 := ⟨q8, q268, rfl, by decide, by decide, by decide +kernel⟩
def f_X5_countCyclic_17 (k6 : ST → Nat → Int32 → Int32 → Option (ST)) : Nat → ST → Nat → Int32 → Int32 → Int32 → Option (ST)
  | 0, _, _, _, _, _ => none
  | n + 1, S, i1, a2, a3, a4 => (if a3 ≤ a4 then oL (a3 + 1) (fun (v2 : Int32) => k6 S i1 a2 v2) else oB (f_X2_at S i1 a3) (fun (r4 : Int32) (S3 : ST) => oB (f_X2_at S3 i1 a4) (fun (r6 : Int32) (S5 : ST) => oL (r4 - r6) (fun (v7 : Int32) => oB (f_X5_bump S5 v7 1) (fun (r9 : Int32) (S8 : ST) => oB (f_X5_bump S8 (a2 - v7) 1) (fun (r11 : Int32) (S10 : ST) => oL (a4 + 1) (fun (v12 : Int32) => (f_X5_countCyclic_17 k6 n) S10 i1 a2 a3 v12)))))))
set_option maxHeartbeats 4000000 in
set_option maxRecDepth 100000 in
theorem b_X5_countCyclic_17 {p : Program} {l : Launch} {e : Env} {s : State} {m : MethodId} {args : Array Value} {below : List Frame} {meth : Method} {c : Code} {x : CX} {res : ST} (F : MF p m meth c cX5_countCyclic 6 s args RX5 none) (k6 : ST → Nat → Int32 → Int32 → Option (ST)) (hk6 : ∀ (H : Heap) (locs : List Loc) (ls : Array Slot) (S : ST), WD x s S H locs → ∀ (i1 : Nat) (a2 : Int32) (a3 : Int32), i1 < 22 → lv_has ls 6 [(0, .ref (x.2.2 (75))), (1, .ref (x.2.2 (2 * i1))), (2, .int a2), (3, .int a3)] → k6 S i1 a2 a3 = some res → W p l e ({ frames := 2, cells := 0, slots := 0, locals := 43 } : Room) s m args below meth c H locs 0 0 (MQ below (QV x res s.heap.size) args s 0 0 (AA x s.heap.size)) (F0 m 6 ls [])) : ∀ (n : Nat), ∀ (H : Heap) (locs : List Loc) (ls : Array Slot) (S : ST), WD x s S H locs → ∀ (i1 : Nat) (a2 : Int32) (a3 : Int32) (a4 : Int32), i1 < 22 → lv_has ls 6 [(0, .ref (x.2.2 (75))), (1, .ref (x.2.2 (2 * i1))), (2, .int a2), (3, .int a3), (4, .int a4)] → f_X5_countCyclic_17 k6 n S i1 a2 a3 a4 = some res → W p l e ({ frames := 2, cells := 0, slots := 0, locals := 43 } : Room) s m args below meth c H locs 0 0 (MQ below (QV x res s.heap.size) args s 0 0 (AA x s.heap.size)) (F0 m 17 ls []) := by
  intro n
  induction n with
  | zero =>
    intro H locs ls S w i1 a2 a3 a4 h1 hl hf
    have hf : (none : Option (ST)) = some res := hf
    cases hf
  | succ n ih =>
    intro H locs ls S w i1 a2 a3 a4 h1 hl hf
    unfold f_X5_countCyclic_17 at hf
    refine lv_iload F.1 F.2.1 dX5_countCyclic_17 (lv_at hl 4 rfl) ?_
    refine lv_iload_n F.1 F.2.1 dX5_countCyclic_19 rfl (lv_at hl 3 rfl) ?_
    refine lv_icmp_ge (tgt := 61) F.1 F.2.1 dX5_countCyclic_20 (by decide) (fun c1 => ?_) (fun c1 => ?_)
    · replace hf := oi_t hf c1
      obtain ⟨v2, e_v2⟩ : ∃ y : Int32, y = (a3 + 1) := ⟨_, rfl⟩
      replace hf := oi_l hf e_v2
      refine lv_iinc (v := v2) (lv' := [(3, .int v2), (0, .ref (x.2.2 (75))), (1, .ref (x.2.2 (2 * i1))), (2, .int a2), (4, .int a4)]) F.1 F.2.1 dX5_countCyclic_61 hl (k := 3) rfl (by rw [e_v2]; rfl) (by decide) rfl (fun ls hl => ?_)
      refine lv_goto (tgt := 6) F.1 F.2.1 dX5_countCyclic_64 (by decide) ?_
      exact hk6 _ _ _ _ w i1 a2 v2 h1 (lv_sub hl [1, 2, 3, 0] rfl) hf
    · replace hf := oi_f hf c1
      refine lv_aload_n F.1 F.2.1 dX5_countCyclic_23 rfl (lv_at hl 1 rfl) ?_
      refine lv_iload_n F.1 F.2.1 dX5_countCyclic_24 rfl (lv_at hl 3 rfl) ?_
      obtain ⟨r4, S3, hc, hf⟩ := oi_b hf
      refine k_i0 (S' := S3) (r := r4) w (runV (As := [.int a3]) (rest := []) (kb := 2 * i1) F w (k_X2_at l x S i1 a3 h1 hc H.size) cy_X2_at q276 q217 q218 ⟨rfl, rfl⟩ ⟨Nat.le_of_ble_eq_true rfl, Nat.le_of_ble_eq_true rfl⟩ (k_ms h1) (enc_ms x S h1) rfl rfl rfl hl.1 (Nat.le_of_ble_eq_true rfl) ⟨Nat.le_of_ble_eq_true rfl, Nat.le_of_ble_eq_true rfl⟩ dX5_countCyclic_25) (fun H locs w => ?_)
      refine lv_aload_n F.1 F.2.1 dX5_countCyclic_28 rfl (lv_at hl 1 rfl) ?_
      refine lv_iload F.1 F.2.1 dX5_countCyclic_29 (lv_at hl 4 rfl) ?_
      obtain ⟨r6, S5, hc, hf⟩ := oi_b hf
      refine k_i0 (S' := S5) (r := r6) w (runV (As := [.int a4]) (rest := [.int r4]) (kb := 2 * i1) F w (k_X2_at l x S3 i1 a4 h1 hc H.size) cy_X2_at q276 q217 q218 ⟨rfl, rfl⟩ ⟨Nat.le_of_ble_eq_true rfl, Nat.le_of_ble_eq_true rfl⟩ (k_ms h1) (enc_ms x S3 h1) rfl rfl rfl hl.1 (Nat.le_of_ble_eq_true rfl) ⟨Nat.le_of_ble_eq_true rfl, Nat.le_of_ble_eq_true rfl⟩ dX5_countCyclic_31) (fun H locs w => ?_)
      refine lv_isub F.1 F.2.1 dX5_countCyclic_34 ?_
      refine lv_topi (fun v7 e_v7 => ?_)
      replace hf := oi_l hf e_v7
      refine lv_istore (lv' := [(5, .int v7), (0, .ref (x.2.2 (75))), (1, .ref (x.2.2 (2 * i1))), (2, .int a2), (3, .int a3), (4, .int a4)]) F.1 F.2.1 dX5_countCyclic_35 hl (by decide) rfl (fun ls hl => ?_)
      refine lv_aload_n F.1 F.2.1 dX5_countCyclic_37 rfl (lv_at hl 1 rfl) ?_
      refine lv_iload F.1 F.2.1 dX5_countCyclic_38 (lv_at hl 0 rfl) ?_
      refine lv_iconst (v := 1) F.1 F.2.1 dX5_countCyclic_40 (by decide) ?_
      obtain ⟨r9, S8, hc, hf⟩ := oi_b hf
      refine k_i0 (S' := S8) (r := r9) w (runV (As := [.int v7, .int 1]) (rest := []) (kb := 75) F w (k_X5_bump l x S5 v7 1 hc H.size) cy_X5_bump q277 q278 q279 ⟨rfl, rfl⟩ ⟨Nat.le_of_ble_eq_true rfl, Nat.le_of_ble_eq_true rfl⟩ (by decide) rfl rfl rfl rfl hl.1 (Nat.le_of_ble_eq_true rfl) ⟨Nat.le_of_ble_eq_true rfl, Nat.le_of_ble_eq_true rfl⟩ dX5_countCyclic_41) (fun H locs w => ?_)
      refine lv_pop F.1 F.2.1 dX5_countCyclic_44 rfl ?_
      refine lv_aload_n F.1 F.2.1 dX5_countCyclic_45 rfl (lv_at hl 1 rfl) ?_
      refine lv_iload_n F.1 F.2.1 dX5_countCyclic_46 rfl (lv_at hl 3 rfl) ?_
      refine lv_iload F.1 F.2.1 dX5_countCyclic_47 (lv_at hl 0 rfl) ?_
      refine lv_isub F.1 F.2.1 dX5_countCyclic_49 ?_
      refine lv_iconst (v := 1) F.1 F.2.1 dX5_countCyclic_50 (by decide) ?_
      obtain ⟨r11, S10, hc, hf⟩ := oi_b hf
      refine k_i0 (S' := S10) (r := r11) w (runV (As := [.int (a2 - v7), .int 1]) (rest := []) (kb := 75) F w (k_X5_bump l x S8 (a2 - v7) 1 hc H.size) cy_X5_bump q277 q278 q279 ⟨rfl, rfl⟩ ⟨Nat.le_of_ble_eq_true rfl, Nat.le_of_ble_eq_true rfl⟩ (by decide) rfl rfl rfl rfl hl.1 (Nat.le_of_ble_eq_true rfl) ⟨Nat.le_of_ble_eq_true rfl, Nat.le_of_ble_eq_true rfl⟩ dX5_countCyclic_51) (fun H locs w => ?_)
      refine lv_pop F.1 F.2.1 dX5_countCyclic_54 rfl ?_
      obtain ⟨v12, e_v12⟩ : ∃ y : Int32, y = (a4 + 1) := ⟨_, rfl⟩
      replace hf := oi_l hf e_v12
      refine lv_iinc (v := v12) (lv' := [(4, .int v12), (5, .int v7), (0, .ref (x.2.2 (75))), (1, .ref (x.2.2 (2 * i1))), (2, .int a2), (3, .int a3)]) F.1 F.2.1 dX5_countCyclic_55 hl (k := 5) rfl (by rw [e_v12]; rfl) (by decide) rfl (fun ls hl => ?_)
      refine lv_goto (tgt := 17) F.1 F.2.1 dX5_countCyclic_58 (by decide) ?_
      exact ih _ _ _ _ w i1 a2 a3 v12 h1 (lv_sub hl [2, 3, 4, 5, 0] rfl) hf
def f_X5_countCyclic_6 : Nat → ST → Nat → Int32 → Int32 → Option (ST)
  | 0, _, _, _, _ => none
  | n + 1, S, i1, a2, a3 => (if (fi S i1) ≤ a3 then some S else f_X5_countCyclic_17 (f_X5_countCyclic_6 n) FU S i1 a2 a3 0)
set_option maxHeartbeats 4000000 in
set_option maxRecDepth 100000 in
theorem b_X5_countCyclic_6 {p : Program} {l : Launch} {e : Env} {s : State} {m : MethodId} {args : Array Value} {below : List Frame} {meth : Method} {c : Code} {x : CX} {res : ST} (F : MF p m meth c cX5_countCyclic 6 s args RX5 none) : ∀ (n : Nat), ∀ (H : Heap) (locs : List Loc) (ls : Array Slot) (S : ST), WD x s S H locs → ∀ (i1 : Nat) (a2 : Int32) (a3 : Int32), i1 < 22 → lv_has ls 6 [(0, .ref (x.2.2 (75))), (1, .ref (x.2.2 (2 * i1))), (2, .int a2), (3, .int a3)] → f_X5_countCyclic_6 n S i1 a2 a3 = some res → W p l e ({ frames := 2, cells := 0, slots := 0, locals := 43 } : Room) s m args below meth c H locs 0 0 (MQ below (QV x res s.heap.size) args s 0 0 (AA x s.heap.size)) (F0 m 6 ls []) := by
  intro n
  induction n with
  | zero =>
    intro H locs ls S w i1 a2 a3 h1 hl hf
    have hf : (none : Option (ST)) = some res := hf
    cases hf
  | succ n ih =>
    intro H locs ls S w i1 a2 a3 h1 hl hf
    unfold f_X5_countCyclic_6 at hf
    refine lv_iload_n F.1 F.2.1 dX5_countCyclic_6 rfl (lv_at hl 3 rfl) ?_
    refine lv_aload_n F.1 F.2.1 dX5_countCyclic_7 rfl (lv_at hl 1 rfl) ?_
    refine gN_MS_count (i := i1) F w h1 (by simp [NF]) dX5_countCyclic_8 ?_
    refine lv_icmp_ge (tgt := 67) F.1 F.2.1 dX5_countCyclic_11 (by decide) (fun c1 => ?_) (fun c1 => ?_)
    · replace hf := oi_t hf c1
      exact r_vret F w (oi_s hf) dX5_countCyclic_67
    · replace hf := oi_f hf c1
      refine lv_iconst (v := 0) F.1 F.2.1 dX5_countCyclic_14 (by decide) ?_
      refine lv_istore (lv' := [(4, .int 0), (0, .ref (x.2.2 (75))), (1, .ref (x.2.2 (2 * i1))), (2, .int a2), (3, .int a3)]) F.1 F.2.1 dX5_countCyclic_15 hl (by decide) rfl (fun ls hl => ?_)
      exact b_X5_countCyclic_17 F (f_X5_countCyclic_6 n) ih FU _ _ _ _ w i1 a2 a3 0 h1 (lv_sub hl [1, 2, 3, 4, 0] rfl) hf
def f_X5_countCyclic_0 (S : ST) (i1 : Nat) (a2 : Int32) : Option (ST) := oV (f_X5_wipe S) (fun (S1 : ST) => f_X5_countCyclic_6 FU S1 i1 a2 1)
set_option maxHeartbeats 4000000 in
set_option maxRecDepth 100000 in
theorem b_X5_countCyclic_0 {p : Program} {l : Launch} {e : Env} {s : State} {m : MethodId} {args : Array Value} {below : List Frame} {meth : Method} {c : Code} {x : CX} {res : ST} (F : MF p m meth c cX5_countCyclic 6 s args RX5 none) : ∀ (H : Heap) (locs : List Loc) (ls : Array Slot) (S : ST), WD x s S H locs → ∀ (i1 : Nat) (a2 : Int32), i1 < 22 → lv_has ls 6 [(0, .ref (x.2.2 (75))), (1, .ref (x.2.2 (2 * i1))), (2, .int a2)] → f_X5_countCyclic_0 S i1 a2 = some res → W p l e ({ frames := 2, cells := 0, slots := 0, locals := 43 } : Room) s m args below meth c H locs 0 0 (MQ below (QV x res s.heap.size) args s 0 0 (AA x s.heap.size)) (F0 m 0 ls []) := by
  intro H locs ls S w i1 a2 h1 hl hf
  unfold f_X5_countCyclic_0 at hf
  refine lv_aload_n F.1 F.2.1 dX5_countCyclic_0 rfl (lv_at hl 0 rfl) ?_
  obtain ⟨S1, hc, hf⟩ := oi_v hf
  refine k_v0 (S' := S1) w (runV (As := []) (rest := []) (kb := 75) F w (k_X5_wipe l x S hc H.size) cy_X5_wipe q269 q270 q271 ⟨rfl, rfl⟩ ⟨Nat.le_of_ble_eq_true rfl, Nat.le_of_ble_eq_true rfl⟩ (by decide) rfl rfl rfl rfl hl.1 (Nat.le_of_ble_eq_true rfl) ⟨Nat.le_of_ble_eq_true rfl, Nat.le_of_ble_eq_true rfl⟩ dX5_countCyclic_1) (fun H locs w => ?_)
  refine lv_iconst (v := 1) F.1 F.2.1 dX5_countCyclic_4 (by decide) ?_
  refine lv_istore_n (lv' := [(3, .int 1), (0, .ref (x.2.2 (75))), (1, .ref (x.2.2 (2 * i1))), (2, .int a2)]) F.1 F.2.1 dX5_countCyclic_5 rfl hl (by decide) rfl (fun ls hl => ?_)
  exact b_X5_countCyclic_6 F FU _ _ _ _ w i1 a2 1 h1 (lv_sub hl [1, 2, 3, 0] rfl) hf
def f_X5_countCyclic (S : ST) (i1 : Nat) (a2 : Int32) : Option (ST) := f_X5_countCyclic_0 S i1 a2
set_option maxHeartbeats 4000000 in
set_option maxRecDepth 100000 in
theorem k_X5_countCyclic (l : Launch) (x : CX) (S : ST) (i1 : Nat) (a2 : Int32) (h1 : i1 < 22) {res : ST} (hf : f_X5_countCyclic S i1 a2 = some res) (sz : Nat) : Met l yX5_countCyclic (Cond.code yX5_countCyclic cX5_countCyclic 6 none :: GW) ({ frames := 2, cells := 0, slots := 0, locals := 43 } : Room) (PC x S sz [.ref (x.2.2 (75)), .ref (x.2.2 (2 * i1)), .int a2]) (QV x res sz) 0 0 (AA x sz) := by
  refine Met.ofW (cc := cX5_countCyclic) (maxL := 6) (ret := none) (by decide) rfl ?_
  intro p e s m args below meth c s₁ B hml hv
  obtain ⟨rfl, rfl, hPW⟩ := hv
  have F : MF p m meth c cX5_countCyclic 6 s _ RX5 none := MF.of B hml
  have w := WD.of hPW
  have hl := lv_entry ([.ref (x.2.2 (75)), .ref (x.2.2 (2 * i1)), .int a2]) (n := 6) (Nat.le_of_ble_eq_true rfl)
  rw [lg_entry_eq]
  generalize (lg_sl ([.ref (x.2.2 (75)), .ref (x.2.2 (2 * i1)), .int a2]) ++ List.replicate (6 - (lg_sl ([.ref (x.2.2 (75)), .ref (x.2.2 (2 * i1)), .int a2])).length) Slot.unset).toArray = ls at hl ⊢
  have hl : lv_has ls 6 [(0, .ref (x.2.2 (75))), (1, .ref (x.2.2 (2 * i1))), (2, .int a2)] := hl
  unfold f_X5_countCyclic at hf
  exact b_X5_countCyclic_0 F  _ _ _ _ w i1 a2 h1 (lv_sub hl [0, 1, 2] rfl) hf
theorem cy_X5_countMark : CY yX5_countMark RX5 cX5_countMark 8 (some .int) 4 := ⟨q8, q838, rfl, by decide, by decide, by decide +kernel⟩
def f_X5_countMark_6 : Nat → ST → Nat → Int32 → Int32 → Int32 → Int32 → Int32 → Option (Int32 × ST)
  | 0, _, _, _, _, _, _, _ => none
  | n + 1, S, i1, a2, a3, a4, a5, a6 => (if (fi S i1) ≤ a6 then some (a5, S) else oB (f_X2_at S i1 a6) (fun (r3 : Int32) (S2 : ST) => oL (a2 - r3) (fun (v4 : Int32) => oB (f_X5_bump S2 v4 a4) (fun (r6 : Int32) (S5 : ST) => oL (if a5 < r6 then r6 else a5) (fun (v7 : Int32) => oB (f_X5_bump S5 (a3 - v4) a4) (fun (r9 : Int32) (S8 : ST) => oL (if v7 < r9 then r9 else v7) (fun (v10 : Int32) => oL (a6 + 1) (fun (v11 : Int32) => (f_X5_countMark_6 n) S8 i1 a2 a3 a4 v10 v11))))))))
set_option maxHeartbeats 4000000 in
set_option maxRecDepth 100000 in
theorem b_X5_countMark_6 {p : Program} {l : Launch} {e : Env} {s : State} {m : MethodId} {args : Array Value} {below : List Frame} {meth : Method} {c : Code} {x : CX} {res : Int32 × ST} (F : MF p m meth c cX5_countMark 8 s args RX5 (some .int)) : ∀ (n : Nat), ∀ (H : Heap) (locs : List Loc) (ls : Array Slot) (S : ST), WD x s S H locs → ∀ (i1 : Nat) (a2 : Int32) (a3 : Int32) (a4 : Int32) (a5 : Int32) (a6 : Int32), i1 < 22 → lv_has ls 8 [(0, .ref (x.2.2 (75))), (1, .ref (x.2.2 (2 * i1))), (2, .int a2), (3, .int a3), (4, .int a4), (5, .int a5), (6, .int a6)] → f_X5_countMark_6 n S i1 a2 a3 a4 a5 a6 = some res → W p l e ({ frames := 1, cells := 0, slots := 0, locals := 24 } : Room) s m args below meth c H locs 0 0 (MQ below (QI x res.2 res.1 s.heap.size) args s 0 0 (AA x s.heap.size)) (F0 m 6 ls []) := by
  intro n
  induction n with
  | zero =>
    intro H locs ls S w i1 a2 a3 a4 a5 a6 h1 hl hf
    have hf : (none : Option (Int32 × ST)) = some res := hf
    cases hf
  | succ n ih =>
    intro H locs ls S w i1 a2 a3 a4 a5 a6 h1 hl hf
    unfold f_X5_countMark_6 at hf
    refine lv_iload F.1 F.2.1 dX5_countMark_6 (lv_at hl 6 rfl) ?_
    refine lv_aload_n F.1 F.2.1 dX5_countMark_8 rfl (lv_at hl 1 rfl) ?_
    refine gN_MS_count (i := i1) F w h1 (by simp [NF]) dX5_countMark_9 ?_
    refine lv_icmp_ge (tgt := 63) F.1 F.2.1 dX5_countMark_12 (by decide) (fun c1 => ?_) (fun c1 => ?_)
    · replace hf := oi_t hf c1
      refine lv_iload F.1 F.2.1 dX5_countMark_63 (lv_at hl 5 rfl) ?_
      exact r_iret F w (oi_s hf) dX5_countMark_65
    · replace hf := oi_f hf c1
      refine lv_iload_n F.1 F.2.1 dX5_countMark_15 rfl (lv_at hl 2 rfl) ?_
      refine lv_aload_n F.1 F.2.1 dX5_countMark_16 rfl (lv_at hl 1 rfl) ?_
      refine lv_iload F.1 F.2.1 dX5_countMark_17 (lv_at hl 6 rfl) ?_
      obtain ⟨r3, S2, hc, hf⟩ := oi_b hf
      refine k_i0 (S' := S2) (r := r3) w (runV (As := [.int a6]) (rest := [.int a2]) (kb := 2 * i1) F w (k_X2_at l x S i1 a6 h1 hc H.size) cy_X2_at q276 q217 q218 ⟨rfl, rfl⟩ ⟨Nat.le_of_ble_eq_true rfl, Nat.le_of_ble_eq_true rfl⟩ (k_ms h1) (enc_ms x S h1) rfl rfl rfl hl.1 (Nat.le_of_ble_eq_true rfl) ⟨Nat.le_of_ble_eq_true rfl, Nat.le_of_ble_eq_true rfl⟩ dX5_countMark_19) (fun H locs w => ?_)
      refine lv_isub F.1 F.2.1 dX5_countMark_22 ?_
      refine lv_topi (fun v4 e_v4 => ?_)
      replace hf := oi_l hf e_v4
      refine lv_istore (lv' := [(7, .int v4), (0, .ref (x.2.2 (75))), (1, .ref (x.2.2 (2 * i1))), (2, .int a2), (3, .int a3), (4, .int a4), (5, .int a5), (6, .int a6)]) F.1 F.2.1 dX5_countMark_23 hl (by decide) rfl (fun ls hl => ?_)
      refine lv_iload F.1 F.2.1 dX5_countMark_25 (lv_at hl 6 rfl) ?_
      refine lv_aload_n F.1 F.2.1 dX5_countMark_27 rfl (lv_at hl 1 rfl) ?_
      refine lv_iload F.1 F.2.1 dX5_countMark_28 (lv_at hl 0 rfl) ?_
      refine lv_iload F.1 F.2.1 dX5_countMark_30 (lv_at hl 5 rfl) ?_
      obtain ⟨r6, S5, hc, hf⟩ := oi_b hf
      refine k_i0 (S' := S5) (r := r6) w (runV (As := [.int v4, .int a4]) (rest := [.int a5]) (kb := 75) F w (k_X5_bump l x S2 v4 a4 hc H.size) cy_X5_bump q277 q278 q279 ⟨rfl, rfl⟩ ⟨Nat.le_of_ble_eq_true rfl, Nat.le_of_ble_eq_true rfl⟩ (by decide) rfl rfl rfl rfl hl.1 (Nat.le_of_ble_eq_true rfl) ⟨Nat.le_of_ble_eq_true rfl, Nat.le_of_ble_eq_true rfl⟩ dX5_countMark_32) (fun H locs w => ?_)
      refine va_mmax F.1 F.2.1 (F.2.2.1.trans hl.1.symm) F.2.2.2.1 (F.2.2.2.2.1 _ q839) (F.2.2.2.2.1 _ q840) (F.2.2.2.2.1 _ q18) (F.2.2.2.2.1 _ q841) (Nat.le_of_ble_eq_true rfl) (Nat.le_of_ble_eq_true rfl) (Nat.le_of_ble_eq_true rfl) (Nat.le_of_ble_eq_true rfl) dX5_countMark_35 ?_
      refine lv_topi (fun v7 e_v7 => ?_)
      replace hf := oi_l hf e_v7
      refine lv_istore (lv' := [(5, .int v7), (7, .int v4), (0, .ref (x.2.2 (75))), (1, .ref (x.2.2 (2 * i1))), (2, .int a2), (3, .int a3), (4, .int a4), (6, .int a6)]) F.1 F.2.1 dX5_countMark_38 hl (by decide) rfl (fun ls hl => ?_)
      refine lv_iload F.1 F.2.1 dX5_countMark_40 (lv_at hl 0 rfl) ?_
      refine lv_aload_n F.1 F.2.1 dX5_countMark_42 rfl (lv_at hl 2 rfl) ?_
      refine lv_iload_n F.1 F.2.1 dX5_countMark_43 rfl (lv_at hl 5 rfl) ?_
      refine lv_iload F.1 F.2.1 dX5_countMark_44 (lv_at hl 1 rfl) ?_
      refine lv_isub F.1 F.2.1 dX5_countMark_46 ?_
      refine lv_iload F.1 F.2.1 dX5_countMark_47 (lv_at hl 6 rfl) ?_
      obtain ⟨r9, S8, hc, hf⟩ := oi_b hf
      refine k_i0 (S' := S8) (r := r9) w (runV (As := [.int (a3 - v4), .int a4]) (rest := [.int v7]) (kb := 75) F w (k_X5_bump l x S5 (a3 - v4) a4 hc H.size) cy_X5_bump q277 q278 q279 ⟨rfl, rfl⟩ ⟨Nat.le_of_ble_eq_true rfl, Nat.le_of_ble_eq_true rfl⟩ (by decide) rfl rfl rfl rfl hl.1 (Nat.le_of_ble_eq_true rfl) ⟨Nat.le_of_ble_eq_true rfl, Nat.le_of_ble_eq_true rfl⟩ dX5_countMark_49) (fun H locs w => ?_)
      refine va_mmax F.1 F.2.1 (F.2.2.1.trans hl.1.symm) F.2.2.2.1 (F.2.2.2.2.1 _ q839) (F.2.2.2.2.1 _ q840) (F.2.2.2.2.1 _ q18) (F.2.2.2.2.1 _ q841) (Nat.le_of_ble_eq_true rfl) (Nat.le_of_ble_eq_true rfl) (Nat.le_of_ble_eq_true rfl) (Nat.le_of_ble_eq_true rfl) dX5_countMark_52 ?_
      refine lv_topi (fun v10 e_v10 => ?_)
      replace hf := oi_l hf e_v10
      refine lv_istore (lv' := [(5, .int v10), (7, .int v4), (0, .ref (x.2.2 (75))), (1, .ref (x.2.2 (2 * i1))), (2, .int a2), (3, .int a3), (4, .int a4), (6, .int a6)]) F.1 F.2.1 dX5_countMark_55 hl (by decide) rfl (fun ls hl => ?_)
      obtain ⟨v11, e_v11⟩ : ∃ y : Int32, y = (a6 + 1) := ⟨_, rfl⟩
      replace hf := oi_l hf e_v11
      refine lv_iinc (v := v11) (lv' := [(6, .int v11), (5, .int v10), (7, .int v4), (0, .ref (x.2.2 (75))), (1, .ref (x.2.2 (2 * i1))), (2, .int a2), (3, .int a3), (4, .int a4)]) F.1 F.2.1 dX5_countMark_57 hl (k := 7) rfl (by rw [e_v11]; rfl) (by decide) rfl (fun ls hl => ?_)
      refine lv_goto (tgt := 6) F.1 F.2.1 dX5_countMark_60 (by decide) ?_
      exact ih _ _ _ _ w i1 a2 a3 a4 v10 v11 h1 (lv_sub hl [3, 4, 5, 6, 7, 1, 0] rfl) hf
def f_X5_countMark_0 (S : ST) (i1 : Nat) (a2 : Int32) (a3 : Int32) (a4 : Int32) : Option (Int32 × ST) := f_X5_countMark_6 FU S i1 a2 a3 a4 0 0
set_option maxHeartbeats 4000000 in
set_option maxRecDepth 100000 in
theorem b_X5_countMark_0 {p : Program} {l : Launch} {e : Env} {s : State} {m : MethodId} {args : Array Value} {below : List Frame} {meth : Method} {c : Code} {x : CX} {res : Int32 × ST} (F : MF p m meth c cX5_countMark 8 s args RX5 (some .int)) : ∀ (H : Heap) (locs : List Loc) (ls : Array Slot) (S : ST), WD x s S H locs → ∀ (i1 : Nat) (a2 : Int32) (a3 : Int32) (a4 : Int32), i1 < 22 → lv_has ls 8 [(0, .ref (x.2.2 (75))), (1, .ref (x.2.2 (2 * i1))), (2, .int a2), (3, .int a3), (4, .int a4)] → f_X5_countMark_0 S i1 a2 a3 a4 = some res → W p l e ({ frames := 1, cells := 0, slots := 0, locals := 24 } : Room) s m args below meth c H locs 0 0 (MQ below (QI x res.2 res.1 s.heap.size) args s 0 0 (AA x s.heap.size)) (F0 m 0 ls []) := by
  intro H locs ls S w i1 a2 a3 a4 h1 hl hf
  unfold f_X5_countMark_0 at hf
  refine lv_iconst (v := 0) F.1 F.2.1 dX5_countMark_0 (by decide) ?_
  refine lv_istore (lv' := [(5, .int 0), (0, .ref (x.2.2 (75))), (1, .ref (x.2.2 (2 * i1))), (2, .int a2), (3, .int a3), (4, .int a4)]) F.1 F.2.1 dX5_countMark_1 hl (by decide) rfl (fun ls hl => ?_)
  refine lv_iconst (v := 0) F.1 F.2.1 dX5_countMark_3 (by decide) ?_
  refine lv_istore (lv' := [(6, .int 0), (5, .int 0), (0, .ref (x.2.2 (75))), (1, .ref (x.2.2 (2 * i1))), (2, .int a2), (3, .int a3), (4, .int a4)]) F.1 F.2.1 dX5_countMark_4 hl (by decide) rfl (fun ls hl => ?_)
  exact b_X5_countMark_6 F FU _ _ _ _ w i1 a2 a3 a4 0 0 h1 (lv_sub hl [2, 3, 4, 5, 6, 1, 0] rfl) hf
def f_X5_countMark (S : ST) (i1 : Nat) (a2 : Int32) (a3 : Int32) (a4 : Int32) : Option (Int32 × ST) := f_X5_countMark_0 S i1 a2 a3 a4
set_option maxHeartbeats 4000000 in
set_option maxRecDepth 100000 in
theorem k_X5_countMark (l : Launch) (x : CX) (S : ST) (i1 : Nat) (a2 : Int32) (a3 : Int32) (a4 : Int32) (h1 : i1 < 22) {res : Int32 × ST} (hf : f_X5_countMark S i1 a2 a3 a4 = some res) (sz : Nat) : Met l yX5_countMark (Cond.code yX5_countMark cX5_countMark 8 (some .int) :: GW) ({ frames := 1, cells := 0, slots := 0, locals := 24 } : Room) (PC x S sz [.ref (x.2.2 (75)), .ref (x.2.2 (2 * i1)), .int a2, .int a3, .int a4]) (QI x res.2 res.1 sz) 0 0 (AA x sz) := by
  refine Met.ofW (cc := cX5_countMark) (maxL := 8) (ret := (some .int)) (by decide) rfl ?_
  intro p e s m args below meth c s₁ B hml hv
  obtain ⟨rfl, rfl, hPW⟩ := hv
  have F : MF p m meth c cX5_countMark 8 s _ RX5 (some .int) := MF.of B hml
  have w := WD.of hPW
  have hl := lv_entry ([.ref (x.2.2 (75)), .ref (x.2.2 (2 * i1)), .int a2, .int a3, .int a4]) (n := 8) (Nat.le_of_ble_eq_true rfl)
  rw [lg_entry_eq]
  generalize (lg_sl ([.ref (x.2.2 (75)), .ref (x.2.2 (2 * i1)), .int a2, .int a3, .int a4]) ++ List.replicate (8 - (lg_sl ([.ref (x.2.2 (75)), .ref (x.2.2 (2 * i1)), .int a2, .int a3, .int a4])).length) Slot.unset).toArray = ls at hl ⊢
  have hl : lv_has ls 8 [(0, .ref (x.2.2 (75))), (1, .ref (x.2.2 (2 * i1))), (2, .int a2), (3, .int a3), (4, .int a4)] := hl
  unfold f_X5_countMark at hf
  exact b_X5_countMark_0 F  _ _ _ _ w i1 a2 a3 a4 h1 (lv_sub hl [0, 1, 2, 3, 4] rfl) hf
theorem cy_X5_isAtMost : CY yX5_isAtMost RX5 cX5_isAtMost 4 (some .boolean) 2 := ⟨q8, q610, rfl, by decide, by decide, by decide +kernel⟩
def f_X5_isAtMost_2 : Nat → ST → Int32 → Int32 → Int32 → Option (Int32 × ST)
  | 0, _, _, _, _ => none
  | n + 1, S, a1, a2, a3 => (if a2 ≤ a3 then some (1, S) else oB (f_X5_of S a3) (fun (r3 : Int32) (S2 : ST) => (if r3 ≤ a1 then oL (a3 + 1) (fun (v5 : Int32) => (f_X5_isAtMost_2 n) S2 a1 a2 v5) else some (0, S2))))
set_option maxHeartbeats 4000000 in
set_option maxRecDepth 100000 in
theorem b_X5_isAtMost_2 {p : Program} {l : Launch} {e : Env} {s : State} {m : MethodId} {args : Array Value} {below : List Frame} {meth : Method} {c : Code} {x : CX} {res : Int32 × ST} (F : MF p m meth c cX5_isAtMost 4 s args RX5 (some .boolean)) : ∀ (n : Nat), ∀ (H : Heap) (locs : List Loc) (ls : Array Slot) (S : ST), WD x s S H locs → ∀ (a1 : Int32) (a2 : Int32) (a3 : Int32), lv_has ls 4 [(0, .ref (x.2.2 (75))), (1, .int a1), (2, .int a2), (3, .int a3)] → f_X5_isAtMost_2 n S a1 a2 a3 = some res → W p l e ({ frames := 1, cells := 0, slots := 0, locals := 21 } : Room) s m args below meth c H locs 0 0 (MQ below (QI x res.2 res.1 s.heap.size) args s 0 0 (AA x s.heap.size)) (F0 m 2 ls []) := by
  intro n
  induction n with
  | zero =>
    intro H locs ls S w a1 a2 a3 hl hf
    have hf : (none : Option (Int32 × ST)) = some res := hf
    cases hf
  | succ n ih =>
    intro H locs ls S w a1 a2 a3 hl hf
    unfold f_X5_isAtMost_2 at hf
    refine lv_iload_n F.1 F.2.1 dX5_isAtMost_2 rfl (lv_at hl 3 rfl) ?_
    refine lv_iload_n F.1 F.2.1 dX5_isAtMost_3 rfl (lv_at hl 2 rfl) ?_
    refine lv_icmp_ge (tgt := 24) F.1 F.2.1 dX5_isAtMost_4 (by decide) (fun c1 => ?_) (fun c1 => ?_)
    · replace hf := oi_t hf c1
      refine lv_iconst (v := 1) F.1 F.2.1 dX5_isAtMost_24 (by decide) ?_
      exact r_zret F w rfl (oi_s hf) dX5_isAtMost_25
    · replace hf := oi_f hf c1
      refine lv_aload_n F.1 F.2.1 dX5_isAtMost_7 rfl (lv_at hl 0 rfl) ?_
      refine lv_iload_n F.1 F.2.1 dX5_isAtMost_8 rfl (lv_at hl 3 rfl) ?_
      obtain ⟨r3, S2, hc, hf⟩ := oi_b hf
      refine k_i0 (S' := S2) (r := r3) w (runV (As := [.int a3]) (rest := []) (kb := 75) F w (k_X5_of l x S a3 hc H.size) cy_X5_of q285 q286 q287 ⟨rfl, rfl⟩ ⟨Nat.le_of_ble_eq_true rfl, Nat.le_of_ble_eq_true rfl⟩ (by decide) rfl rfl rfl rfl hl.1 (Nat.le_of_ble_eq_true rfl) ⟨Nat.le_of_ble_eq_true rfl, Nat.le_of_ble_eq_true rfl⟩ dX5_isAtMost_9) (fun H locs w => ?_)
      refine lv_iload_n F.1 F.2.1 dX5_isAtMost_12 rfl (lv_at hl 1 rfl) ?_
      refine lv_icmp_le (tgt := 18) F.1 F.2.1 dX5_isAtMost_13 (by decide) (fun c4 => ?_) (fun c4 => ?_)
      · replace hf := oi_t hf c4
        obtain ⟨v5, e_v5⟩ : ∃ y : Int32, y = (a3 + 1) := ⟨_, rfl⟩
        replace hf := oi_l hf e_v5
        refine lv_iinc (v := v5) (lv' := [(3, .int v5), (0, .ref (x.2.2 (75))), (1, .int a1), (2, .int a2)]) F.1 F.2.1 dX5_isAtMost_18 hl (k := 3) rfl (by rw [e_v5]; rfl) (by decide) rfl (fun ls hl => ?_)
        refine lv_goto (tgt := 2) F.1 F.2.1 dX5_isAtMost_21 (by decide) ?_
        exact ih _ _ _ _ w a1 a2 v5 (lv_sub hl [1, 2, 3, 0] rfl) hf
      · replace hf := oi_f hf c4
        refine lv_iconst (v := 0) F.1 F.2.1 dX5_isAtMost_16 (by decide) ?_
        exact r_zret F w rfl (oi_s hf) dX5_isAtMost_17
def f_X5_isAtMost_0 (S : ST) (a1 : Int32) (a2 : Int32) : Option (Int32 × ST) := f_X5_isAtMost_2 FU S a1 a2 1
set_option maxHeartbeats 4000000 in
set_option maxRecDepth 100000 in
theorem b_X5_isAtMost_0 {p : Program} {l : Launch} {e : Env} {s : State} {m : MethodId} {args : Array Value} {below : List Frame} {meth : Method} {c : Code} {x : CX} {res : Int32 × ST} (F : MF p m meth c cX5_isAtMost 4 s args RX5 (some .boolean)) : ∀ (H : Heap) (locs : List Loc) (ls : Array Slot) (S : ST), WD x s S H locs → ∀ (a1 : Int32) (a2 : Int32), lv_has ls 4 [(0, .ref (x.2.2 (75))), (1, .int a1), (2, .int a2)] → f_X5_isAtMost_0 S a1 a2 = some res → W p l e ({ frames := 1, cells := 0, slots := 0, locals := 21 } : Room) s m args below meth c H locs 0 0 (MQ below (QI x res.2 res.1 s.heap.size) args s 0 0 (AA x s.heap.size)) (F0 m 0 ls []) := by
  intro H locs ls S w a1 a2 hl hf
  unfold f_X5_isAtMost_0 at hf
  refine lv_iconst (v := 1) F.1 F.2.1 dX5_isAtMost_0 (by decide) ?_
  refine lv_istore_n (lv' := [(3, .int 1), (0, .ref (x.2.2 (75))), (1, .int a1), (2, .int a2)]) F.1 F.2.1 dX5_isAtMost_1 rfl hl (by decide) rfl (fun ls hl => ?_)
  exact b_X5_isAtMost_2 F FU _ _ _ _ w a1 a2 1 (lv_sub hl [1, 2, 3, 0] rfl) hf
def f_X5_isAtMost (S : ST) (a1 : Int32) (a2 : Int32) : Option (Int32 × ST) := f_X5_isAtMost_0 S a1 a2
set_option maxHeartbeats 4000000 in
set_option maxRecDepth 100000 in
theorem k_X5_isAtMost (l : Launch) (x : CX) (S : ST) (a1 : Int32) (a2 : Int32) {res : Int32 × ST} (hf : f_X5_isAtMost S a1 a2 = some res) (sz : Nat) : Met l yX5_isAtMost (Cond.code yX5_isAtMost cX5_isAtMost 4 (some .boolean) :: GW) ({ frames := 1, cells := 0, slots := 0, locals := 21 } : Room) (PC x S sz [.ref (x.2.2 (75)), .int a1, .int a2]) (QI x res.2 res.1 sz) 0 0 (AA x sz) := by
  refine Met.ofW (cc := cX5_isAtMost) (maxL := 4) (ret := (some .boolean)) (by decide) rfl ?_
  intro p e s m args below meth c s₁ B hml hv
  obtain ⟨rfl, rfl, hPW⟩ := hv
  have F : MF p m meth c cX5_isAtMost 4 s _ RX5 (some .boolean) := MF.of B hml
  have w := WD.of hPW
  have hl := lv_entry ([.ref (x.2.2 (75)), .int a1, .int a2]) (n := 4) (Nat.le_of_ble_eq_true rfl)
  rw [lg_entry_eq]
  generalize (lg_sl ([.ref (x.2.2 (75)), .int a1, .int a2]) ++ List.replicate (4 - (lg_sl ([.ref (x.2.2 (75)), .int a1, .int a2])).length) Slot.unset).toArray = ls at hl ⊢
  have hl : lv_has ls 4 [(0, .ref (x.2.2 (75))), (1, .int a1), (2, .int a2)] := hl
  unfold f_X5_isAtMost at hf
  exact b_X5_isAtMost_0 F  _ _ _ _ w a1 a2 (lv_sub hl [0, 1, 2] rfl) hf
theorem cy_X5_isLevel : CY yX5_isLevel RX5 cX5_isLevel 3 (some .boolean) 1 := ⟨q8, q284, rfl, by decide, by decide, by decide +kernel⟩
def f_X5_isLevel_2 : Nat → ST → Int32 → Int32 → Option (Int32 × ST)
  | 0, _, _, _ => none
  | n + 1, S, a1, a2 => (if a1 ≤ a2 then some (1, S) else oB (f_X5_of S a2) (fun (r3 : Int32) (S2 : ST) => oB (f_X5_of S2 1) (fun (r5 : Int32) (S4 : ST) => (if r3 = r5 then oL (a2 + 1) (fun (v7 : Int32) => (f_X5_isLevel_2 n) S4 a1 v7) else some (0, S4)))))
set_option maxHeartbeats 4000000 in
set_option maxRecDepth 100000 in
theorem b_X5_isLevel_2 {p : Program} {l : Launch} {e : Env} {s : State} {m : MethodId} {args : Array Value} {below : List Frame} {meth : Method} {c : Code} {x : CX} {res : Int32 × ST} (F : MF p m meth c cX5_isLevel 3 s args RX5 (some .boolean)) : ∀ (n : Nat), ∀ (H : Heap) (locs : List Loc) (ls : Array Slot) (S : ST), WD x s S H locs → ∀ (a1 : Int32) (a2 : Int32), lv_has ls 3 [(0, .ref (x.2.2 (75))), (1, .int a1), (2, .int a2)] → f_X5_isLevel_2 n S a1 a2 = some res → W p l e ({ frames := 1, cells := 0, slots := 0, locals := 21 } : Room) s m args below meth c H locs 0 0 (MQ below (QI x res.2 res.1 s.heap.size) args s 0 0 (AA x s.heap.size)) (F0 m 2 ls []) := by
  intro n
  induction n with
  | zero =>
    intro H locs ls S w a1 a2 hl hf
    have hf : (none : Option (Int32 × ST)) = some res := hf
    cases hf
  | succ n ih =>
    intro H locs ls S w a1 a2 hl hf
    unfold f_X5_isLevel_2 at hf
    refine lv_iload_n F.1 F.2.1 dX5_isLevel_2 rfl (lv_at hl 2 rfl) ?_
    refine lv_iload_n F.1 F.2.1 dX5_isLevel_3 rfl (lv_at hl 1 rfl) ?_
    refine lv_icmp_ge (tgt := 28) F.1 F.2.1 dX5_isLevel_4 (by decide) (fun c1 => ?_) (fun c1 => ?_)
    · replace hf := oi_t hf c1
      refine lv_iconst (v := 1) F.1 F.2.1 dX5_isLevel_28 (by decide) ?_
      exact r_zret F w rfl (oi_s hf) dX5_isLevel_29
    · replace hf := oi_f hf c1
      refine lv_aload_n F.1 F.2.1 dX5_isLevel_7 rfl (lv_at hl 0 rfl) ?_
      refine lv_iload_n F.1 F.2.1 dX5_isLevel_8 rfl (lv_at hl 2 rfl) ?_
      obtain ⟨r3, S2, hc, hf⟩ := oi_b hf
      refine k_i0 (S' := S2) (r := r3) w (runV (As := [.int a2]) (rest := []) (kb := 75) F w (k_X5_of l x S a2 hc H.size) cy_X5_of q285 q286 q287 ⟨rfl, rfl⟩ ⟨Nat.le_of_ble_eq_true rfl, Nat.le_of_ble_eq_true rfl⟩ (by decide) rfl rfl rfl rfl hl.1 (Nat.le_of_ble_eq_true rfl) ⟨Nat.le_of_ble_eq_true rfl, Nat.le_of_ble_eq_true rfl⟩ dX5_isLevel_9) (fun H locs w => ?_)
      refine lv_aload_n F.1 F.2.1 dX5_isLevel_12 rfl (lv_at hl 0 rfl) ?_
      refine lv_iconst (v := 1) F.1 F.2.1 dX5_isLevel_13 (by decide) ?_
      obtain ⟨r5, S4, hc, hf⟩ := oi_b hf
      refine k_i0 (S' := S4) (r := r5) w (runV (As := [.int 1]) (rest := [.int r3]) (kb := 75) F w (k_X5_of l x S2 1 hc H.size) cy_X5_of q285 q286 q287 ⟨rfl, rfl⟩ ⟨Nat.le_of_ble_eq_true rfl, Nat.le_of_ble_eq_true rfl⟩ (by decide) rfl rfl rfl rfl hl.1 (Nat.le_of_ble_eq_true rfl) ⟨Nat.le_of_ble_eq_true rfl, Nat.le_of_ble_eq_true rfl⟩ dX5_isLevel_14) (fun H locs w => ?_)
      refine lv_icmp_eq (tgt := 22) F.1 F.2.1 dX5_isLevel_17 (by decide) (fun c6 => ?_) (fun c6 => ?_)
      · replace hf := oi_t hf c6
        obtain ⟨v7, e_v7⟩ : ∃ y : Int32, y = (a2 + 1) := ⟨_, rfl⟩
        replace hf := oi_l hf e_v7
        refine lv_iinc (v := v7) (lv' := [(2, .int v7), (0, .ref (x.2.2 (75))), (1, .int a1)]) F.1 F.2.1 dX5_isLevel_22 hl (k := 2) rfl (by rw [e_v7]; rfl) (by decide) rfl (fun ls hl => ?_)
        refine lv_goto (tgt := 2) F.1 F.2.1 dX5_isLevel_25 (by decide) ?_
        exact ih _ _ _ _ w a1 v7 (lv_sub hl [1, 2, 0] rfl) hf
      · replace hf := oi_f hf c6
        refine lv_iconst (v := 0) F.1 F.2.1 dX5_isLevel_20 (by decide) ?_
        exact r_zret F w rfl (oi_s hf) dX5_isLevel_21
def f_X5_isLevel_0 (S : ST) (a1 : Int32) : Option (Int32 × ST) := f_X5_isLevel_2 FU S a1 2
set_option maxHeartbeats 4000000 in
set_option maxRecDepth 100000 in
theorem b_X5_isLevel_0 {p : Program} {l : Launch} {e : Env} {s : State} {m : MethodId} {args : Array Value} {below : List Frame} {meth : Method} {c : Code} {x : CX} {res : Int32 × ST} (F : MF p m meth c cX5_isLevel 3 s args RX5 (some .boolean)) : ∀ (H : Heap) (locs : List Loc) (ls : Array Slot) (S : ST), WD x s S H locs → ∀ (a1 : Int32), lv_has ls 3 [(0, .ref (x.2.2 (75))), (1, .int a1)] → f_X5_isLevel_0 S a1 = some res → W p l e ({ frames := 1, cells := 0, slots := 0, locals := 21 } : Room) s m args below meth c H locs 0 0 (MQ below (QI x res.2 res.1 s.heap.size) args s 0 0 (AA x s.heap.size)) (F0 m 0 ls []) := by
  intro H locs ls S w a1 hl hf
  unfold f_X5_isLevel_0 at hf
  refine lv_iconst (v := 2) F.1 F.2.1 dX5_isLevel_0 (by decide) ?_
  refine lv_istore_n (lv' := [(2, .int 2), (0, .ref (x.2.2 (75))), (1, .int a1)]) F.1 F.2.1 dX5_isLevel_1 rfl hl (by decide) rfl (fun ls hl => ?_)
  exact b_X5_isLevel_2 F FU _ _ _ _ w a1 2 (lv_sub hl [1, 2, 0] rfl) hf
def f_X5_isLevel (S : ST) (a1 : Int32) : Option (Int32 × ST) := f_X5_isLevel_0 S a1
set_option maxHeartbeats 4000000 in
set_option maxRecDepth 100000 in
theorem k_X5_isLevel (l : Launch) (x : CX) (S : ST) (a1 : Int32) {res : Int32 × ST} (hf : f_X5_isLevel S a1 = some res) (sz : Nat) : Met l yX5_isLevel (Cond.code yX5_isLevel cX5_isLevel 3 (some .boolean) :: GW) ({ frames := 1, cells := 0, slots := 0, locals := 21 } : Room) (PC x S sz [.ref (x.2.2 (75)), .int a1]) (QI x res.2 res.1 sz) 0 0 (AA x sz) := by
  refine Met.ofW (cc := cX5_isLevel) (maxL := 3) (ret := (some .boolean)) (by decide) rfl ?_
  intro p e s m args below meth c s₁ B hml hv
  obtain ⟨rfl, rfl, hPW⟩ := hv
  have F : MF p m meth c cX5_isLevel 3 s _ RX5 (some .boolean) := MF.of B hml
  have w := WD.of hPW
  have hl := lv_entry ([.ref (x.2.2 (75)), .int a1]) (n := 3) (Nat.le_of_ble_eq_true rfl)
  rw [lg_entry_eq]
  generalize (lg_sl ([.ref (x.2.2 (75)), .int a1]) ++ List.replicate (3 - (lg_sl ([.ref (x.2.2 (75)), .int a1])).length) Slot.unset).toArray = ls at hl ⊢
  have hl : lv_has ls 3 [(0, .ref (x.2.2 (75))), (1, .int a1)] := hl
  unfold f_X5_isLevel at hf
  exact b_X5_isLevel_0 F  _ _ _ _ w a1 (lv_sub hl [0, 1] rfl) hf
