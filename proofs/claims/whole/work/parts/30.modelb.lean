theorem cy_X9_laysOften : CY yX9_laysOften RX9 cX9_laysOften 3 none 1 := ⟨q10, q995, rfl, by decide, by decide, by decide +kernel⟩
def f_X9_laysOften_43 (k24 : ST → Int32 → Int32 → Option (ST)) (S : ST) (a1 : Int32) (a2 : Int32) : Option (ST) := oL (a2 + 1) (fun (v1 : Int32) => k24 S a1 v1)
set_option maxHeartbeats 4000000 in
set_option maxRecDepth 100000 in
theorem b_X9_laysOften_43 {p : Program} {l : Launch} {e : Env} {s : State} {m : MethodId} {args : Array Value} {below : List Frame} {meth : Method} {c : Code} {x : CX} {res : ST} (F : MF p m meth c cX9_laysOften 3 s args RX9 none) (k24 : ST → Int32 → Int32 → Option (ST)) (hk24 : ∀ (H : Heap) (locs : List Loc) (ls : Array Slot) (S : ST), WD x s S H locs → ∀ (a1 : Int32) (a2 : Int32), lv_has ls 3 [(0, .ref (x.2.2 (80))), (1, .int a1), (2, .int a2)] → k24 S a1 a2 = some res → W p l e ({ frames := 2, cells := 0, slots := 0, locals := 45 } : Room) s m args below meth c H locs 0 0 (MQ below (QV x res s.heap.size) args s 0 0 (AA x s.heap.size)) (F0 m 24 ls [])) : ∀ (H : Heap) (locs : List Loc) (ls : Array Slot) (S : ST), WD x s S H locs → ∀ (a1 : Int32) (a2 : Int32), lv_has ls 3 [(0, .ref (x.2.2 (80))), (1, .int a1), (2, .int a2)] → f_X9_laysOften_43 k24 S a1 a2 = some res → W p l e ({ frames := 2, cells := 0, slots := 0, locals := 45 } : Room) s m args below meth c H locs 0 0 (MQ below (QV x res s.heap.size) args s 0 0 (AA x s.heap.size)) (F0 m 43 ls []) := by
  intro H locs ls S w a1 a2 hl hf
  unfold f_X9_laysOften_43 at hf
  obtain ⟨v1, e_v1⟩ : ∃ y : Int32, y = (a2 + 1) := ⟨_, rfl⟩
  replace hf := oi_l hf e_v1
  refine lv_iinc (v := v1) (lv' := [(2, .int v1), (0, .ref (x.2.2 (80))), (1, .int a1)]) F.1 F.2.1 dX9_laysOften_43 hl (k := 2) rfl (by rw [e_v1]; rfl) (by decide) rfl (fun ls hl => ?_)
  refine lv_goto (tgt := 24) F.1 F.2.1 dX9_laysOften_46 (by decide) ?_
  exact hk24 _ _ _ _ w a1 v1 (lv_sub hl [1, 2, 0] rfl) hf
def f_X9_laysOften_24 : Nat → ST → Int32 → Int32 → Option (ST)
  | 0, _, _, _ => none
  | n + 1, S, a1, a2 => (if 4 ≤ a2 then some S else (if ((a1 >>> (a2 &&& 31)) &&& (1 : Int32)) = 1 then oV (f_X9_counts S a2) (fun (S3 : ST) => f_X9_laysOften_43 (f_X9_laysOften_24 n) S3 a1 a2) else f_X9_laysOften_43 (f_X9_laysOften_24 n) S a1 a2))
set_option maxHeartbeats 4000000 in
set_option maxRecDepth 100000 in
theorem b_X9_laysOften_24 {p : Program} {l : Launch} {e : Env} {s : State} {m : MethodId} {args : Array Value} {below : List Frame} {meth : Method} {c : Code} {x : CX} {res : ST} (F : MF p m meth c cX9_laysOften 3 s args RX9 none) : ∀ (n : Nat), ∀ (H : Heap) (locs : List Loc) (ls : Array Slot) (S : ST), WD x s S H locs → ∀ (a1 : Int32) (a2 : Int32), lv_has ls 3 [(0, .ref (x.2.2 (80))), (1, .int a1), (2, .int a2)] → f_X9_laysOften_24 n S a1 a2 = some res → W p l e ({ frames := 2, cells := 0, slots := 0, locals := 45 } : Room) s m args below meth c H locs 0 0 (MQ below (QV x res s.heap.size) args s 0 0 (AA x s.heap.size)) (F0 m 24 ls []) := by
  intro n
  induction n with
  | zero =>
    intro H locs ls S w a1 a2 hl hf
    have hf : (none : Option (ST)) = some res := hf
    cases hf
  | succ n ih =>
    intro H locs ls S w a1 a2 hl hf
    unfold f_X9_laysOften_24 at hf
    refine lv_iload_n F.1 F.2.1 dX9_laysOften_24 rfl (lv_at hl 2 rfl) ?_
    refine lv_iconst (v := 4) F.1 F.2.1 dX9_laysOften_25 (by decide) ?_
    refine lv_icmp_ge (tgt := 49) F.1 F.2.1 dX9_laysOften_26 (by decide) (fun c1 => ?_) (fun c1 => ?_)
    · replace hf := oi_t hf c1
      exact r_vret F w (oi_s hf) dX9_laysOften_49
    · replace hf := oi_f hf c1
      refine lv_iload_n F.1 F.2.1 dX9_laysOften_29 rfl (lv_at hl 1 rfl) ?_
      refine lv_iload_n F.1 F.2.1 dX9_laysOften_30 rfl (lv_at hl 2 rfl) ?_
      refine lv_ishr F.1 F.2.1 dX9_laysOften_31 ?_
      refine lv_iconst (v := 1) F.1 F.2.1 dX9_laysOften_32 (by decide) ?_
      refine lv_iand F.1 F.2.1 dX9_laysOften_33 ?_
      refine lv_iconst (v := 1) F.1 F.2.1 dX9_laysOften_34 (by decide) ?_
      refine lv_icmp_ne (tgt := 43) F.1 F.2.1 dX9_laysOften_35 (by decide) (fun c2 => ?_) (fun c2 => ?_)
      · replace hf := oi_f hf c2
        exact b_X9_laysOften_43 F (f_X9_laysOften_24 n) ih _ _ _ _ w a1 a2 (lv_sub hl [0, 1, 2] rfl) hf
      · replace hf := oi_t hf c2
        refine lv_aload_n F.1 F.2.1 dX9_laysOften_38 rfl (lv_at hl 0 rfl) ?_
        refine lv_iload_n F.1 F.2.1 dX9_laysOften_39 rfl (lv_at hl 2 rfl) ?_
        obtain ⟨S3, hc, hf⟩ := oi_v hf
        refine k_v0 (S' := S3) w (runV (As := [.int a2]) (rest := []) (kb := 80) F w (k_X9_counts l x S a2 hc H.size) cy_X9_counts q996 q998 qp32 ⟨rfl, rfl⟩ ⟨Nat.le_of_ble_eq_true rfl, Nat.le_of_ble_eq_true rfl⟩ (by decide) rfl rfl rfl rfl hl.1 (Nat.le_of_ble_eq_true rfl) ⟨Nat.le_of_ble_eq_true rfl, Nat.le_of_ble_eq_true rfl⟩ dX9_laysOften_40) (fun H locs w => ?_)
        exact b_X9_laysOften_43 F (f_X9_laysOften_24 n) ih _ _ _ _ w a1 a2 (lv_sub hl [0, 1, 2] rfl) hf
def f_X9_laysOften_2 : Nat → ST → Int32 → Int32 → Option (ST)
  | 0, _, _, _ => none
  | n + 1, S, a1, a2 => (if 2000 < a2 then f_X9_laysOften_24 FU S a1 0 else oG (inB a2 2001) (oL (sA S 33 (upd (ai S 33) (Int32.toNatClampNeg a2) 0)) (fun (S3 : ST) => oL (a2 + 1) (fun (v4 : Int32) => (f_X9_laysOften_2 n) S3 a1 v4))))
set_option maxHeartbeats 4000000 in
set_option maxRecDepth 100000 in
theorem b_X9_laysOften_2 {p : Program} {l : Launch} {e : Env} {s : State} {m : MethodId} {args : Array Value} {below : List Frame} {meth : Method} {c : Code} {x : CX} {res : ST} (F : MF p m meth c cX9_laysOften 3 s args RX9 none) : ∀ (n : Nat), ∀ (H : Heap) (locs : List Loc) (ls : Array Slot) (S : ST), WD x s S H locs → ∀ (a1 : Int32) (a2 : Int32), lv_has ls 3 [(0, .ref (x.2.2 (80))), (1, .int a1), (2, .int a2)] → f_X9_laysOften_2 n S a1 a2 = some res → W p l e ({ frames := 2, cells := 0, slots := 0, locals := 45 } : Room) s m args below meth c H locs 0 0 (MQ below (QV x res s.heap.size) args s 0 0 (AA x s.heap.size)) (F0 m 2 ls []) := by
  intro n
  induction n with
  | zero =>
    intro H locs ls S w a1 a2 hl hf
    have hf : (none : Option (ST)) = some res := hf
    cases hf
  | succ n ih =>
    intro H locs ls S w a1 a2 hl hf
    unfold f_X9_laysOften_2 at hf
    refine lv_iload_n F.1 F.2.1 dX9_laysOften_2 rfl (lv_at hl 2 rfl) ?_
    refine lv_sipush (v := 2000) F.1 F.2.1 dX9_laysOften_3 (by decide) ?_
    refine lv_icmp_gt (tgt := 22) F.1 F.2.1 dX9_laysOften_6 (by decide) (fun c1 => ?_) (fun c1 => ?_)
    · replace hf := oi_t hf c1
      refine lv_iconst (v := 0) F.1 F.2.1 dX9_laysOften_22 (by decide) ?_
      refine lv_istore_n (lv' := [(2, .int 0), (0, .ref (x.2.2 (80))), (1, .int a1)]) F.1 F.2.1 dX9_laysOften_23 rfl hl (by decide) rfl (fun ls hl => ?_)
      exact b_X9_laysOften_24 F FU _ _ _ _ w a1 0 (lv_sub hl [1, 2, 0] rfl) hf
    · replace hf := oi_f hf c1
      refine lv_aload_n F.1 F.2.1 dX9_laysOften_9 rfl (lv_at hl 0 rfl) ?_
      refine g_MD_often F w q869 dX9_laysOften_10 ?_
      refine lv_iload_n F.1 F.2.1 dX9_laysOften_13 rfl (lv_at hl 2 rfl) ?_
      refine lv_iconst (v := 0) F.1 F.2.1 dX9_laysOften_14 (by decide) ?_
      obtain ⟨hb2, hf⟩ := oi_g hf
      refine r_iast F w (k := 84) (a := 33) (n := 2001) (by decide) (fun S9 => rfl) rfl hb2 dX9_laysOften_15 (fun H locs w => ?_)
      obtain ⟨S3, e_S3⟩ : ∃ y : ST, y = sA S 33 (upd (ai S 33) (Int32.toNatClampNeg a2) 0) := ⟨_, rfl⟩
      replace w : WD x s S3 H locs := by rw [e_S3]; exact w
      replace hf := oi_l hf e_S3
      obtain ⟨v4, e_v4⟩ : ∃ y : Int32, y = (a2 + 1) := ⟨_, rfl⟩
      replace hf := oi_l hf e_v4
      refine lv_iinc (v := v4) (lv' := [(2, .int v4), (0, .ref (x.2.2 (80))), (1, .int a1)]) F.1 F.2.1 dX9_laysOften_16 hl (k := 2) rfl (by rw [e_v4]; rfl) (by decide) rfl (fun ls hl => ?_)
      refine lv_goto (tgt := 2) F.1 F.2.1 dX9_laysOften_19 (by decide) ?_
      exact ih _ _ _ _ w a1 v4 (lv_sub hl [1, 2, 0] rfl) hf
def f_X9_laysOften_0 (S : ST) (a1 : Int32) : Option (ST) := f_X9_laysOften_2 FU S a1 0
set_option maxHeartbeats 4000000 in
set_option maxRecDepth 100000 in
theorem b_X9_laysOften_0 {p : Program} {l : Launch} {e : Env} {s : State} {m : MethodId} {args : Array Value} {below : List Frame} {meth : Method} {c : Code} {x : CX} {res : ST} (F : MF p m meth c cX9_laysOften 3 s args RX9 none) : ∀ (H : Heap) (locs : List Loc) (ls : Array Slot) (S : ST), WD x s S H locs → ∀ (a1 : Int32), lv_has ls 3 [(0, .ref (x.2.2 (80))), (1, .int a1)] → f_X9_laysOften_0 S a1 = some res → W p l e ({ frames := 2, cells := 0, slots := 0, locals := 45 } : Room) s m args below meth c H locs 0 0 (MQ below (QV x res s.heap.size) args s 0 0 (AA x s.heap.size)) (F0 m 0 ls []) := by
  intro H locs ls S w a1 hl hf
  unfold f_X9_laysOften_0 at hf
  refine lv_iconst (v := 0) F.1 F.2.1 dX9_laysOften_0 (by decide) ?_
  refine lv_istore_n (lv' := [(2, .int 0), (0, .ref (x.2.2 (80))), (1, .int a1)]) F.1 F.2.1 dX9_laysOften_1 rfl hl (by decide) rfl (fun ls hl => ?_)
  exact b_X9_laysOften_2 F FU _ _ _ _ w a1 0 (lv_sub hl [1, 2, 0] rfl) hf
def f_X9_laysOften (S : ST) (a1 : Int32) : Option (ST) := f_X9_laysOften_0 S a1
set_option maxHeartbeats 4000000 in
set_option maxRecDepth 100000 in
theorem k_X9_laysOften (l : Launch) (x : CX) (S : ST) (a1 : Int32) {res : ST} (hf : f_X9_laysOften S a1 = some res) (sz : Nat) : Met l yX9_laysOften (Cond.code yX9_laysOften cX9_laysOften 3 none :: GW) ({ frames := 2, cells := 0, slots := 0, locals := 45 } : Room) (PC x S sz [.ref (x.2.2 (80)), .int a1]) (QV x res sz) 0 0 (AA x sz) := by
  refine Met.ofW (cc := cX9_laysOften) (maxL := 3) (ret := none) (by decide) rfl ?_
  intro p e s m args below meth c s₁ B hml hv
  obtain ⟨rfl, rfl, hPW⟩ := hv
  have F : MF p m meth c cX9_laysOften 3 s _ RX9 none := MF.of B hml
  have w := WD.of hPW
  have hl := lv_entry ([.ref (x.2.2 (80)), .int a1]) (n := 3) (Nat.le_of_ble_eq_true rfl)
  rw [lg_entry_eq]
  generalize (lg_sl ([.ref (x.2.2 (80)), .int a1]) ++ List.replicate (3 - (lg_sl ([.ref (x.2.2 (80)), .int a1])).length) Slot.unset).toArray = ls at hl ⊢
  have hl : lv_has ls 3 [(0, .ref (x.2.2 (80))), (1, .int a1)] := hl
  unfold f_X9_laysOften at hf
  exact b_X9_laysOften_0 F  _ _ _ _ w a1 (lv_sub hl [0, 1] rfl) hf
theorem cy_X9_areOnce : CY yX9_areOnce RX9 cX9_areOnce 4 (some .boolean) 1 := ⟨q10, q991, rfl, by decide, by decide, by decide +kernel⟩
def f_X9_areOnce_35 (k9 : ST → Int32 → Int32 → Option (Int32 × ST)) (S : ST) (a3 : Int32) (as0 : Int32) : Option (Int32 × ST) := oL (a3 + 1) (fun (v1 : Int32) => k9 S as0 v1)
set_option maxHeartbeats 4000000 in
set_option maxRecDepth 100000 in
theorem b_X9_areOnce_35 {p : Program} {l : Launch} {e : Env} {s : State} {m : MethodId} {args : Array Value} {below : List Frame} {meth : Method} {c : Code} {x : CX} {res : Int32 × ST} (F : MF p m meth c cX9_areOnce 4 s args RX9 (some .boolean)) (k9 : ST → Int32 → Int32 → Option (Int32 × ST)) (hk9 : ∀ (H : Heap) (locs : List Loc) (ls : Array Slot) (S : ST), WD x s S H locs → ∀ (a2 : Int32) (a3 : Int32), lv_has ls 4 [(0, .ref (x.2.2 (80))), (2, .int a2), (3, .int a3)] → k9 S a2 a3 = some res → W p l e ({ frames := 3, cells := 0, slots := 0, locals := 67 } : Room) s m args below meth c H locs 0 0 (MQ below (QI x res.2 res.1 s.heap.size) args s 0 0 (AA x s.heap.size)) (F0 m 9 ls [])) : ∀ (H : Heap) (locs : List Loc) (ls : Array Slot) (S : ST), WD x s S H locs → ∀ (a3 : Int32) (as0 : Int32), lv_has ls 4 [(0, .ref (x.2.2 (80))), (3, .int a3)] → f_X9_areOnce_35 k9 S a3 as0 = some res → W p l e ({ frames := 3, cells := 0, slots := 0, locals := 67 } : Room) s m args below meth c H locs 0 0 (MQ below (QI x res.2 res.1 s.heap.size) args s 0 0 (AA x s.heap.size)) (F0 m 35 ls [.int as0]) := by
  intro H locs ls S w a3 as0 hl hf
  unfold f_X9_areOnce_35 at hf
  refine lv_istore_n (lv' := [(2, .int as0), (0, .ref (x.2.2 (80))), (3, .int a3)]) F.1 F.2.1 dX9_areOnce_35 rfl hl (by decide) rfl (fun ls hl => ?_)
  obtain ⟨v1, e_v1⟩ : ∃ y : Int32, y = (a3 + 1) := ⟨_, rfl⟩
  replace hf := oi_l hf e_v1
  refine lv_iinc (v := v1) (lv' := [(3, .int v1), (2, .int as0), (0, .ref (x.2.2 (80)))]) F.1 F.2.1 dX9_areOnce_36 hl (k := 2) rfl (by rw [e_v1]; rfl) (by decide) rfl (fun ls hl => ?_)
  refine lv_goto (tgt := 9) F.1 F.2.1 dX9_areOnce_39 (by decide) ?_
  exact hk9 _ _ _ _ w as0 v1 (lv_sub hl [2, 1, 0] rfl) hf
def f_X9_areOnce_34 (k9 : ST → Int32 → Int32 → Option (Int32 × ST)) (S : ST) (a3 : Int32) : Option (Int32 × ST) := f_X9_areOnce_35 k9 S a3 0
set_option maxHeartbeats 4000000 in
set_option maxRecDepth 100000 in
theorem b_X9_areOnce_34 {p : Program} {l : Launch} {e : Env} {s : State} {m : MethodId} {args : Array Value} {below : List Frame} {meth : Method} {c : Code} {x : CX} {res : Int32 × ST} (F : MF p m meth c cX9_areOnce 4 s args RX9 (some .boolean)) (k9 : ST → Int32 → Int32 → Option (Int32 × ST)) (hk9 : ∀ (H : Heap) (locs : List Loc) (ls : Array Slot) (S : ST), WD x s S H locs → ∀ (a2 : Int32) (a3 : Int32), lv_has ls 4 [(0, .ref (x.2.2 (80))), (2, .int a2), (3, .int a3)] → k9 S a2 a3 = some res → W p l e ({ frames := 3, cells := 0, slots := 0, locals := 67 } : Room) s m args below meth c H locs 0 0 (MQ below (QI x res.2 res.1 s.heap.size) args s 0 0 (AA x s.heap.size)) (F0 m 9 ls [])) : ∀ (H : Heap) (locs : List Loc) (ls : Array Slot) (S : ST), WD x s S H locs → ∀ (a3 : Int32), lv_has ls 4 [(0, .ref (x.2.2 (80))), (3, .int a3)] → f_X9_areOnce_34 k9 S a3 = some res → W p l e ({ frames := 3, cells := 0, slots := 0, locals := 67 } : Room) s m args below meth c H locs 0 0 (MQ below (QI x res.2 res.1 s.heap.size) args s 0 0 (AA x s.heap.size)) (F0 m 34 ls []) := by
  intro H locs ls S w a3 hl hf
  unfold f_X9_areOnce_34 at hf
  refine lv_iconst (v := 0) F.1 F.2.1 dX9_areOnce_34 (by decide) ?_
  exact b_X9_areOnce_35 F k9 hk9 _ _ _ _ w a3 0 (lv_sub hl [0, 1] rfl) hf
def f_X9_areOnce_9 : Nat → ST → Int32 → Int32 → Option (Int32 × ST)
  | 0, _, _, _ => none
  | n + 1, S, a2, a3 => (if 2000 < a3 then oG (isB a2) (some (a2, S)) else (if a2 = 0 then f_X9_areOnce_34 (f_X9_areOnce_9 n) S a3 else oG (inB a3 2001) ((if 2 ≤ (ai S 33 (Int32.toNatClampNeg a3)) then f_X9_areOnce_34 (f_X9_areOnce_9 n) S a3 else f_X9_areOnce_35 (f_X9_areOnce_9 n) S a3 1))))
set_option maxHeartbeats 4000000 in
set_option maxRecDepth 100000 in
theorem b_X9_areOnce_9 {p : Program} {l : Launch} {e : Env} {s : State} {m : MethodId} {args : Array Value} {below : List Frame} {meth : Method} {c : Code} {x : CX} {res : Int32 × ST} (F : MF p m meth c cX9_areOnce 4 s args RX9 (some .boolean)) : ∀ (n : Nat), ∀ (H : Heap) (locs : List Loc) (ls : Array Slot) (S : ST), WD x s S H locs → ∀ (a2 : Int32) (a3 : Int32), lv_has ls 4 [(0, .ref (x.2.2 (80))), (2, .int a2), (3, .int a3)] → f_X9_areOnce_9 n S a2 a3 = some res → W p l e ({ frames := 3, cells := 0, slots := 0, locals := 67 } : Room) s m args below meth c H locs 0 0 (MQ below (QI x res.2 res.1 s.heap.size) args s 0 0 (AA x s.heap.size)) (F0 m 9 ls []) := by
  intro n
  induction n with
  | zero =>
    intro H locs ls S w a2 a3 hl hf
    have hf : (none : Option (Int32 × ST)) = some res := hf
    cases hf
  | succ n ih =>
    intro H locs ls S w a2 a3 hl hf
    unfold f_X9_areOnce_9 at hf
    refine lv_iload_n F.1 F.2.1 dX9_areOnce_9 rfl (lv_at hl 2 rfl) ?_
    refine lv_sipush (v := 2000) F.1 F.2.1 dX9_areOnce_10 (by decide) ?_
    refine lv_icmp_gt (tgt := 42) F.1 F.2.1 dX9_areOnce_13 (by decide) (fun c1 => ?_) (fun c1 => ?_)
    · replace hf := oi_t hf c1
      refine lv_iload_n F.1 F.2.1 dX9_areOnce_42 rfl (lv_at hl 1 rfl) ?_
      obtain ⟨hz2, hf⟩ := oi_g hf
      exact r_zret F w (isB_nar hz2) (oi_s hf) dX9_areOnce_43
    · replace hf := oi_f hf c1
      refine lv_iload_n F.1 F.2.1 dX9_areOnce_16 rfl (lv_at hl 1 rfl) ?_
      refine lv_if_eq (tgt := 34) F.1 F.2.1 dX9_areOnce_17 (by decide) (fun c3 => ?_) (fun c3 => ?_)
      · replace hf := oi_t hf c3
        exact b_X9_areOnce_34 F (f_X9_areOnce_9 n) ih _ _ _ _ w a3 (lv_sub hl [0, 2] rfl) hf
      · replace hf := oi_f hf c3
        refine lv_aload_n F.1 F.2.1 dX9_areOnce_20 rfl (lv_at hl 0 rfl) ?_
        refine g_MD_often F w q869 dX9_areOnce_21 ?_
        refine lv_iload_n F.1 F.2.1 dX9_areOnce_24 rfl (lv_at hl 2 rfl) ?_
        obtain ⟨hb4, hf⟩ := oi_g hf
        refine r_iald F w (k := 84) (f := ai S 33) (by decide) rfl hb4 dX9_areOnce_25 ?_
        refine lv_iconst (v := 2) F.1 F.2.1 dX9_areOnce_26 (by decide) ?_
        refine lv_icmp_ge (tgt := 34) F.1 F.2.1 dX9_areOnce_27 (by decide) (fun c5 => ?_) (fun c5 => ?_)
        · replace hf := oi_t hf c5
          exact b_X9_areOnce_34 F (f_X9_areOnce_9 n) ih _ _ _ _ w a3 (lv_sub hl [0, 2] rfl) hf
        · replace hf := oi_f hf c5
          refine lv_iconst (v := 1) F.1 F.2.1 dX9_areOnce_30 (by decide) ?_
          refine lv_goto (tgt := 35) F.1 F.2.1 dX9_areOnce_31 (by decide) ?_
          exact b_X9_areOnce_35 F (f_X9_areOnce_9 n) ih _ _ _ _ w a3 1 (lv_sub hl [0, 2] rfl) hf
def f_X9_areOnce_0 (S : ST) (a1 : Int32) : Option (Int32 × ST) := oV (f_X9_laysOften S a1) (fun (S1 : ST) => f_X9_areOnce_9 FU S1 1 1)
set_option maxHeartbeats 4000000 in
set_option maxRecDepth 100000 in
theorem b_X9_areOnce_0 {p : Program} {l : Launch} {e : Env} {s : State} {m : MethodId} {args : Array Value} {below : List Frame} {meth : Method} {c : Code} {x : CX} {res : Int32 × ST} (F : MF p m meth c cX9_areOnce 4 s args RX9 (some .boolean)) : ∀ (H : Heap) (locs : List Loc) (ls : Array Slot) (S : ST), WD x s S H locs → ∀ (a1 : Int32), lv_has ls 4 [(0, .ref (x.2.2 (80))), (1, .int a1)] → f_X9_areOnce_0 S a1 = some res → W p l e ({ frames := 3, cells := 0, slots := 0, locals := 67 } : Room) s m args below meth c H locs 0 0 (MQ below (QI x res.2 res.1 s.heap.size) args s 0 0 (AA x s.heap.size)) (F0 m 0 ls []) := by
  intro H locs ls S w a1 hl hf
  unfold f_X9_areOnce_0 at hf
  refine lv_aload_n F.1 F.2.1 dX9_areOnce_0 rfl (lv_at hl 0 rfl) ?_
  refine lv_iload_n F.1 F.2.1 dX9_areOnce_1 rfl (lv_at hl 1 rfl) ?_
  obtain ⟨S1, hc, hf⟩ := oi_v hf
  refine k_v0 (S' := S1) w (runV (As := [.int a1]) (rest := []) (kb := 80) F w (k_X9_laysOften l x S a1 hc H.size) cy_X9_laysOften q992 q994 qp31 ⟨rfl, rfl⟩ ⟨Nat.le_of_ble_eq_true rfl, Nat.le_of_ble_eq_true rfl⟩ (by decide) rfl rfl rfl rfl hl.1 (Nat.le_of_ble_eq_true rfl) ⟨Nat.le_of_ble_eq_true rfl, Nat.le_of_ble_eq_true rfl⟩ dX9_areOnce_2) (fun H locs w => ?_)
  refine lv_iconst (v := 1) F.1 F.2.1 dX9_areOnce_5 (by decide) ?_
  refine lv_istore_n (lv' := [(2, .int 1), (0, .ref (x.2.2 (80))), (1, .int a1)]) F.1 F.2.1 dX9_areOnce_6 rfl hl (by decide) rfl (fun ls hl => ?_)
  refine lv_iconst (v := 1) F.1 F.2.1 dX9_areOnce_7 (by decide) ?_
  refine lv_istore_n (lv' := [(3, .int 1), (2, .int 1), (0, .ref (x.2.2 (80))), (1, .int a1)]) F.1 F.2.1 dX9_areOnce_8 rfl hl (by decide) rfl (fun ls hl => ?_)
  exact b_X9_areOnce_9 F FU _ _ _ _ w 1 1 (lv_sub hl [2, 1, 0] rfl) hf
def f_X9_areOnce (S : ST) (a1 : Int32) : Option (Int32 × ST) := f_X9_areOnce_0 S a1
set_option maxHeartbeats 4000000 in
set_option maxRecDepth 100000 in
theorem k_X9_areOnce (l : Launch) (x : CX) (S : ST) (a1 : Int32) {res : Int32 × ST} (hf : f_X9_areOnce S a1 = some res) (sz : Nat) : Met l yX9_areOnce (Cond.code yX9_areOnce cX9_areOnce 4 (some .boolean) :: GW) ({ frames := 3, cells := 0, slots := 0, locals := 67 } : Room) (PC x S sz [.ref (x.2.2 (80)), .int a1]) (QI x res.2 res.1 sz) 0 0 (AA x sz) := by
  refine Met.ofW (cc := cX9_areOnce) (maxL := 4) (ret := (some .boolean)) (by decide) rfl ?_
  intro p e s m args below meth c s₁ B hml hv
  obtain ⟨rfl, rfl, hPW⟩ := hv
  have F : MF p m meth c cX9_areOnce 4 s _ RX9 (some .boolean) := MF.of B hml
  have w := WD.of hPW
  have hl := lv_entry ([.ref (x.2.2 (80)), .int a1]) (n := 4) (Nat.le_of_ble_eq_true rfl)
  rw [lg_entry_eq]
  generalize (lg_sl ([.ref (x.2.2 (80)), .int a1]) ++ List.replicate (4 - (lg_sl ([.ref (x.2.2 (80)), .int a1])).length) Slot.unset).toArray = ls at hl ⊢
  have hl : lv_has ls 4 [(0, .ref (x.2.2 (80))), (1, .int a1)] := hl
  unfold f_X9_areOnce at hf
  exact b_X9_areOnce_0 F  _ _ _ _ w a1 (lv_sub hl [0, 1] rfl) hf
theorem cy_X9_isRuler : CY yX9_isRuler RX9 cX9_isRuler 2 (some .boolean) 1 := ⟨q10, q987, rfl, by decide, by decide, by decide +kernel⟩
def f_X9_isRuler_34 (S : ST) (as0 : Int32) : Option (Int32 × ST) := oG (isB as0) (some (as0, S))
set_option maxHeartbeats 4000000 in
set_option maxRecDepth 100000 in
theorem b_X9_isRuler_34 {p : Program} {l : Launch} {e : Env} {s : State} {m : MethodId} {args : Array Value} {below : List Frame} {meth : Method} {c : Code} {x : CX} {res : Int32 × ST} (F : MF p m meth c cX9_isRuler 2 s args RX9 (some .boolean)) : ∀ (H : Heap) (locs : List Loc) (ls : Array Slot) (S : ST), WD x s S H locs → ∀ (as0 : Int32), lv_has ls 2 [] → f_X9_isRuler_34 S as0 = some res → W p l e ({ frames := 4, cells := 0, slots := 0, locals := 90 } : Room) s m args below meth c H locs 0 0 (MQ below (QI x res.2 res.1 s.heap.size) args s 0 0 (AA x s.heap.size)) (F0 m 34 ls [.int as0]) := by
  intro H locs ls S w as0 hl hf
  unfold f_X9_isRuler_34 at hf
  obtain ⟨hz1, hf⟩ := oi_g hf
  exact r_zret F w (isB_nar hz1) (oi_s hf) dX9_isRuler_34
def f_X9_isRuler_33 (S : ST)  : Option (Int32 × ST) := f_X9_isRuler_34 S 0
set_option maxHeartbeats 4000000 in
set_option maxRecDepth 100000 in
theorem b_X9_isRuler_33 {p : Program} {l : Launch} {e : Env} {s : State} {m : MethodId} {args : Array Value} {below : List Frame} {meth : Method} {c : Code} {x : CX} {res : Int32 × ST} (F : MF p m meth c cX9_isRuler 2 s args RX9 (some .boolean)) : ∀ (H : Heap) (locs : List Loc) (ls : Array Slot) (S : ST), WD x s S H locs → lv_has ls 2 [] → f_X9_isRuler_33 S = some res → W p l e ({ frames := 4, cells := 0, slots := 0, locals := 90 } : Room) s m args below meth c H locs 0 0 (MQ below (QI x res.2 res.1 s.heap.size) args s 0 0 (AA x s.heap.size)) (F0 m 33 ls []) := by
  intro H locs ls S w hl hf
  unfold f_X9_isRuler_33 at hf
  refine lv_iconst (v := 0) F.1 F.2.1 dX9_isRuler_33 (by decide) ?_
  exact b_X9_isRuler_34 F  _ _ _ _ w 0 (lv_sub hl [] rfl) hf
def f_X9_isRuler_13 (S : ST) (a1 : Int32) (as0 : Int32) : Option (Int32 × ST) := oB (f_X9_refused S as0) (fun (r2 : Int32) (S1 : ST) => (if r2 = 0 then oB (f_X9_areOnce S1 ((1 : Int32) <<< (a1 &&& 31))) (fun (r5 : Int32) (S4 : ST) => (if r5 = 0 then f_X9_isRuler_33 S4 else f_X9_isRuler_34 S4 1)) else f_X9_isRuler_33 S1))
set_option maxHeartbeats 4000000 in
set_option maxRecDepth 100000 in
theorem b_X9_isRuler_13 {p : Program} {l : Launch} {e : Env} {s : State} {m : MethodId} {args : Array Value} {below : List Frame} {meth : Method} {c : Code} {x : CX} {res : Int32 × ST} (F : MF p m meth c cX9_isRuler 2 s args RX9 (some .boolean)) : ∀ (H : Heap) (locs : List Loc) (ls : Array Slot) (S : ST), WD x s S H locs → ∀ (a1 : Int32) (as0 : Int32), lv_has ls 2 [(0, .ref (x.2.2 (80))), (1, .int a1)] → f_X9_isRuler_13 S a1 as0 = some res → W p l e ({ frames := 4, cells := 0, slots := 0, locals := 90 } : Room) s m args below meth c H locs 0 0 (MQ below (QI x res.2 res.1 s.heap.size) args s 0 0 (AA x s.heap.size)) (F0 m 13 ls [.int as0, .ref (x.2.2 (80))]) := by
  intro H locs ls S w a1 as0 hl hf
  unfold f_X9_isRuler_13 at hf
  obtain ⟨r2, S1, hc, hf⟩ := oi_b hf
  refine k_i0 (S' := S1) (r := r2) w (runV (As := [.int as0]) (rest := []) (kb := 80) F w (k_X9_refused l x S as0 hc H.size) cy_X9_refused q902 q904 qp19 ⟨rfl, rfl⟩ ⟨Nat.le_of_ble_eq_true rfl, Nat.le_of_ble_eq_true rfl⟩ (by decide) rfl rfl rfl rfl hl.1 (Nat.le_of_ble_eq_true rfl) ⟨Nat.le_of_ble_eq_true rfl, Nat.le_of_ble_eq_true rfl⟩ dX9_isRuler_13) (fun H locs w => ?_)
  refine lv_if_ne (tgt := 33) F.1 F.2.1 dX9_isRuler_16 (by decide) (fun c3 => ?_) (fun c3 => ?_)
  · replace hf := oi_f hf c3
    exact b_X9_isRuler_33 F  _ _ _ _ w  (lv_sub hl [] rfl) hf
  · replace hf := oi_t hf c3
    refine lv_aload_n F.1 F.2.1 dX9_isRuler_19 rfl (lv_at hl 0 rfl) ?_
    refine lv_iconst (v := 1) F.1 F.2.1 dX9_isRuler_20 (by decide) ?_
    refine lv_iload_n F.1 F.2.1 dX9_isRuler_21 rfl (lv_at hl 1 rfl) ?_
    refine lv_ishl F.1 F.2.1 dX9_isRuler_22 ?_
    obtain ⟨r5, S4, hc, hf⟩ := oi_b hf
    refine k_i0 (S' := S4) (r := r5) w (runV (As := [.int ((1 : Int32) <<< (a1 &&& 31))]) (rest := []) (kb := 80) F w (k_X9_areOnce l x S1 ((1 : Int32) <<< (a1 &&& 31)) hc H.size) cy_X9_areOnce q988 q990 qp30 ⟨rfl, rfl⟩ ⟨Nat.le_of_ble_eq_true rfl, Nat.le_of_ble_eq_true rfl⟩ (by decide) rfl rfl rfl rfl hl.1 (Nat.le_of_ble_eq_true rfl) ⟨Nat.le_of_ble_eq_true rfl, Nat.le_of_ble_eq_true rfl⟩ dX9_isRuler_23) (fun H locs w => ?_)
    refine lv_if_eq (tgt := 33) F.1 F.2.1 dX9_isRuler_26 (by decide) (fun c6 => ?_) (fun c6 => ?_)
    · replace hf := oi_t hf c6
      exact b_X9_isRuler_33 F  _ _ _ _ w  (lv_sub hl [] rfl) hf
    · replace hf := oi_f hf c6
      refine lv_iconst (v := 1) F.1 F.2.1 dX9_isRuler_29 (by decide) ?_
      refine lv_goto (tgt := 34) F.1 F.2.1 dX9_isRuler_30 (by decide) ?_
      exact b_X9_isRuler_34 F  _ _ _ _ w 1 (lv_sub hl [] rfl) hf
def f_X9_isRuler_0 (S : ST) (a1 : Int32) : Option (Int32 × ST) := oB (f_X9_isSet S a1) (fun (r2 : Int32) (S1 : ST) => (if r2 = 0 then f_X9_isRuler_13 S1 a1 1 else f_X9_isRuler_13 S1 a1 0))
set_option maxHeartbeats 4000000 in
set_option maxRecDepth 100000 in
theorem b_X9_isRuler_0 {p : Program} {l : Launch} {e : Env} {s : State} {m : MethodId} {args : Array Value} {below : List Frame} {meth : Method} {c : Code} {x : CX} {res : Int32 × ST} (F : MF p m meth c cX9_isRuler 2 s args RX9 (some .boolean)) : ∀ (H : Heap) (locs : List Loc) (ls : Array Slot) (S : ST), WD x s S H locs → ∀ (a1 : Int32), lv_has ls 2 [(0, .ref (x.2.2 (80))), (1, .int a1)] → f_X9_isRuler_0 S a1 = some res → W p l e ({ frames := 4, cells := 0, slots := 0, locals := 90 } : Room) s m args below meth c H locs 0 0 (MQ below (QI x res.2 res.1 s.heap.size) args s 0 0 (AA x s.heap.size)) (F0 m 0 ls []) := by
  intro H locs ls S w a1 hl hf
  unfold f_X9_isRuler_0 at hf
  refine lv_aload_n F.1 F.2.1 dX9_isRuler_0 rfl (lv_at hl 0 rfl) ?_
  refine lv_iload_n F.1 F.2.1 dX9_isRuler_1 rfl (lv_at hl 1 rfl) ?_
  obtain ⟨r2, S1, hc, hf⟩ := oi_b hf
  refine k_i0 (S' := S1) (r := r2) w (runS (As := [.int a1]) (rest := [.ref (x.2.2 (80))]) F w (k_X9_isSet l x S a1 hc H.size) cy_X9_isSet q910 q911 ⟨rfl, rfl⟩ ⟨Nat.le_of_ble_eq_true rfl, Nat.le_of_ble_eq_true rfl⟩ rfl rfl hl.1 (Nat.le_of_ble_eq_true rfl) ⟨Nat.le_of_ble_eq_true rfl, Nat.le_of_ble_eq_true rfl⟩ dX9_isRuler_2) (fun H locs w => ?_)
  refine lv_if_eq (tgt := 12) F.1 F.2.1 dX9_isRuler_5 (by decide) (fun c3 => ?_) (fun c3 => ?_)
  · replace hf := oi_t hf c3
    refine lv_iconst (v := 1) F.1 F.2.1 dX9_isRuler_12 (by decide) ?_
    exact b_X9_isRuler_13 F  _ _ _ _ w a1 1 (lv_sub hl [0, 1] rfl) hf
  · replace hf := oi_f hf c3
    refine lv_iconst (v := 0) F.1 F.2.1 dX9_isRuler_8 (by decide) ?_
    refine lv_goto (tgt := 13) F.1 F.2.1 dX9_isRuler_9 (by decide) ?_
    exact b_X9_isRuler_13 F  _ _ _ _ w a1 0 (lv_sub hl [0, 1] rfl) hf
def f_X9_isRuler (S : ST) (a1 : Int32) : Option (Int32 × ST) := f_X9_isRuler_0 S a1
set_option maxHeartbeats 4000000 in
set_option maxRecDepth 100000 in
theorem k_X9_isRuler (l : Launch) (x : CX) (S : ST) (a1 : Int32) {res : Int32 × ST} (hf : f_X9_isRuler S a1 = some res) (sz : Nat) : Met l yX9_isRuler (Cond.code yX9_isRuler cX9_isRuler 2 (some .boolean) :: GW) ({ frames := 4, cells := 0, slots := 0, locals := 90 } : Room) (PC x S sz [.ref (x.2.2 (80)), .int a1]) (QI x res.2 res.1 sz) 0 0 (AA x sz) := by
  refine Met.ofW (cc := cX9_isRuler) (maxL := 2) (ret := (some .boolean)) (by decide) rfl ?_
  intro p e s m args below meth c s₁ B hml hv
  obtain ⟨rfl, rfl, hPW⟩ := hv
  have F : MF p m meth c cX9_isRuler 2 s _ RX9 (some .boolean) := MF.of B hml
  have w := WD.of hPW
  have hl := lv_entry ([.ref (x.2.2 (80)), .int a1]) (n := 2) (Nat.le_of_ble_eq_true rfl)
  rw [lg_entry_eq]
  generalize (lg_sl ([.ref (x.2.2 (80)), .int a1]) ++ List.replicate (2 - (lg_sl ([.ref (x.2.2 (80)), .int a1])).length) Slot.unset).toArray = ls at hl ⊢
  have hl : lv_has ls 2 [(0, .ref (x.2.2 (80))), (1, .int a1)] := hl
  unfold f_X9_isRuler at hf
  exact b_X9_isRuler_0 F  _ _ _ _ w a1 (lv_sub hl [0, 1] rfl) hf
theorem cy_X9_complete : CY yX9_complete RX9 cX9_complete 3 (some .int) 1 := ⟨q10, q1007, rfl, by decide, by decide, by decide +kernel⟩
def f_X9_complete_33 (S : ST) (a2 : Int32) : Option (Int32 × ST) := some (a2, S)
set_option maxHeartbeats 4000000 in
set_option maxRecDepth 100000 in
theorem b_X9_complete_33 {p : Program} {l : Launch} {e : Env} {s : State} {m : MethodId} {args : Array Value} {below : List Frame} {meth : Method} {c : Code} {x : CX} {res : Int32 × ST} (F : MF p m meth c cX9_complete 3 s args RX9 (some .int)) : ∀ (H : Heap) (locs : List Loc) (ls : Array Slot) (S : ST), WD x s S H locs → ∀ (a2 : Int32), lv_has ls 3 [(2, .int a2)] → f_X9_complete_33 S a2 = some res → W p l e ({ frames := 3, cells := 0, slots := 0, locals := 67 } : Room) s m args below meth c H locs 0 0 (MQ below (QI x res.2 res.1 s.heap.size) args s 0 0 (AA x s.heap.size)) (F0 m 33 ls []) := by
  intro H locs ls S w a2 hl hf
  unfold f_X9_complete_33 at hf
  refine lv_iload_n F.1 F.2.1 dX9_complete_33 rfl (lv_at hl 0 rfl) ?_
  exact r_iret F w (oi_s hf) dX9_complete_34
def f_X9_complete_9 : Nat → ST → Int32 → Option (Int32 × ST)
  | 0, _, _ => none
  | n + 1, S, a2 => (if 2000 ≤ a2 then f_X9_complete_33 S a2 else oG (inB (a2 + (1 : Int32)) 2001) ((if (ai S 33 (Int32.toNatClampNeg (a2 + (1 : Int32)))) ≤ 0 then f_X9_complete_33 S a2 else oL (a2 + 1) (fun (v4 : Int32) => (f_X9_complete_9 n) S v4))))
set_option maxHeartbeats 4000000 in
set_option maxRecDepth 100000 in
theorem b_X9_complete_9 {p : Program} {l : Launch} {e : Env} {s : State} {m : MethodId} {args : Array Value} {below : List Frame} {meth : Method} {c : Code} {x : CX} {res : Int32 × ST} (F : MF p m meth c cX9_complete 3 s args RX9 (some .int)) : ∀ (n : Nat), ∀ (H : Heap) (locs : List Loc) (ls : Array Slot) (S : ST), WD x s S H locs → ∀ (a2 : Int32), lv_has ls 3 [(0, .ref (x.2.2 (80))), (2, .int a2)] → f_X9_complete_9 n S a2 = some res → W p l e ({ frames := 3, cells := 0, slots := 0, locals := 67 } : Room) s m args below meth c H locs 0 0 (MQ below (QI x res.2 res.1 s.heap.size) args s 0 0 (AA x s.heap.size)) (F0 m 9 ls []) := by
  intro n
  induction n with
  | zero =>
    intro H locs ls S w a2 hl hf
    have hf : (none : Option (Int32 × ST)) = some res := hf
    cases hf
  | succ n ih =>
    intro H locs ls S w a2 hl hf
    unfold f_X9_complete_9 at hf
    refine lv_iload_n F.1 F.2.1 dX9_complete_9 rfl (lv_at hl 1 rfl) ?_
    refine lv_sipush (v := 2000) F.1 F.2.1 dX9_complete_10 (by decide) ?_
    refine lv_icmp_ge (tgt := 33) F.1 F.2.1 dX9_complete_13 (by decide) (fun c1 => ?_) (fun c1 => ?_)
    · replace hf := oi_t hf c1
      exact b_X9_complete_33 F  _ _ _ _ w a2 (lv_sub hl [1] rfl) hf
    · replace hf := oi_f hf c1
      refine lv_aload_n F.1 F.2.1 dX9_complete_16 rfl (lv_at hl 0 rfl) ?_
      refine g_MD_often F w q869 dX9_complete_17 ?_
      refine lv_iload_n F.1 F.2.1 dX9_complete_20 rfl (lv_at hl 1 rfl) ?_
      refine lv_iconst (v := 1) F.1 F.2.1 dX9_complete_21 (by decide) ?_
      refine lv_iadd F.1 F.2.1 dX9_complete_22 ?_
      obtain ⟨hb2, hf⟩ := oi_g hf
      refine r_iald F w (k := 84) (f := ai S 33) (by decide) rfl hb2 dX9_complete_23 ?_
      refine lv_if_le (tgt := 33) F.1 F.2.1 dX9_complete_24 (by decide) (fun c3 => ?_) (fun c3 => ?_)
      · replace hf := oi_t hf c3
        exact b_X9_complete_33 F  _ _ _ _ w a2 (lv_sub hl [1] rfl) hf
      · replace hf := oi_f hf c3
        obtain ⟨v4, e_v4⟩ : ∃ y : Int32, y = (a2 + 1) := ⟨_, rfl⟩
        replace hf := oi_l hf e_v4
        refine lv_iinc (v := v4) (lv' := [(2, .int v4), (0, .ref (x.2.2 (80)))]) F.1 F.2.1 dX9_complete_27 hl (k := 1) rfl (by rw [e_v4]; rfl) (by decide) rfl (fun ls hl => ?_)
        refine lv_goto (tgt := 9) F.1 F.2.1 dX9_complete_30 (by decide) ?_
        exact ih _ _ _ _ w v4 (lv_sub hl [1, 0] rfl) hf
def f_X9_complete_0 (S : ST) (a1 : Int32) : Option (Int32 × ST) := oV (f_X9_laysOften S ((1 : Int32) <<< (a1 &&& 31))) (fun (S1 : ST) => f_X9_complete_9 FU S1 0)
set_option maxHeartbeats 4000000 in
set_option maxRecDepth 100000 in
theorem b_X9_complete_0 {p : Program} {l : Launch} {e : Env} {s : State} {m : MethodId} {args : Array Value} {below : List Frame} {meth : Method} {c : Code} {x : CX} {res : Int32 × ST} (F : MF p m meth c cX9_complete 3 s args RX9 (some .int)) : ∀ (H : Heap) (locs : List Loc) (ls : Array Slot) (S : ST), WD x s S H locs → ∀ (a1 : Int32), lv_has ls 3 [(0, .ref (x.2.2 (80))), (1, .int a1)] → f_X9_complete_0 S a1 = some res → W p l e ({ frames := 3, cells := 0, slots := 0, locals := 67 } : Room) s m args below meth c H locs 0 0 (MQ below (QI x res.2 res.1 s.heap.size) args s 0 0 (AA x s.heap.size)) (F0 m 0 ls []) := by
  intro H locs ls S w a1 hl hf
  unfold f_X9_complete_0 at hf
  refine lv_aload_n F.1 F.2.1 dX9_complete_0 rfl (lv_at hl 0 rfl) ?_
  refine lv_iconst (v := 1) F.1 F.2.1 dX9_complete_1 (by decide) ?_
  refine lv_iload_n F.1 F.2.1 dX9_complete_2 rfl (lv_at hl 1 rfl) ?_
  refine lv_ishl F.1 F.2.1 dX9_complete_3 ?_
  obtain ⟨S1, hc, hf⟩ := oi_v hf
  refine k_v0 (S' := S1) w (runV (As := [.int ((1 : Int32) <<< (a1 &&& 31))]) (rest := []) (kb := 80) F w (k_X9_laysOften l x S ((1 : Int32) <<< (a1 &&& 31)) hc H.size) cy_X9_laysOften q992 q994 qp31 ⟨rfl, rfl⟩ ⟨Nat.le_of_ble_eq_true rfl, Nat.le_of_ble_eq_true rfl⟩ (by decide) rfl rfl rfl rfl hl.1 (Nat.le_of_ble_eq_true rfl) ⟨Nat.le_of_ble_eq_true rfl, Nat.le_of_ble_eq_true rfl⟩ dX9_complete_4) (fun H locs w => ?_)
  refine lv_iconst (v := 0) F.1 F.2.1 dX9_complete_7 (by decide) ?_
  refine lv_istore_n (lv' := [(2, .int 0), (0, .ref (x.2.2 (80))), (1, .int a1)]) F.1 F.2.1 dX9_complete_8 rfl hl (by decide) rfl (fun ls hl => ?_)
  exact b_X9_complete_9 F FU _ _ _ _ w 0 (lv_sub hl [1, 0] rfl) hf
def f_X9_complete (S : ST) (a1 : Int32) : Option (Int32 × ST) := f_X9_complete_0 S a1
set_option maxHeartbeats 4000000 in
set_option maxRecDepth 100000 in
theorem k_X9_complete (l : Launch) (x : CX) (S : ST) (a1 : Int32) {res : Int32 × ST} (hf : f_X9_complete S a1 = some res) (sz : Nat) : Met l yX9_complete (Cond.code yX9_complete cX9_complete 3 (some .int) :: GW) ({ frames := 3, cells := 0, slots := 0, locals := 67 } : Room) (PC x S sz [.ref (x.2.2 (80)), .int a1]) (QI x res.2 res.1 sz) 0 0 (AA x sz) := by
  refine Met.ofW (cc := cX9_complete) (maxL := 3) (ret := (some .int)) (by decide) rfl ?_
  intro p e s m args below meth c s₁ B hml hv
  obtain ⟨rfl, rfl, hPW⟩ := hv
  have F : MF p m meth c cX9_complete 3 s _ RX9 (some .int) := MF.of B hml
  have w := WD.of hPW
  have hl := lv_entry ([.ref (x.2.2 (80)), .int a1]) (n := 3) (Nat.le_of_ble_eq_true rfl)
  rw [lg_entry_eq]
  generalize (lg_sl ([.ref (x.2.2 (80)), .int a1]) ++ List.replicate (3 - (lg_sl ([.ref (x.2.2 (80)), .int a1])).length) Slot.unset).toArray = ls at hl ⊢
  have hl : lv_has ls 3 [(0, .ref (x.2.2 (80))), (1, .int a1)] := hl
  unfold f_X9_complete at hf
  exact b_X9_complete_0 F  _ _ _ _ w a1 (lv_sub hl [0, 1] rfl) hf
theorem cy_X9_completeUpTo : CY yX9_completeUpTo RX9 cX9_completeUpTo 2 (some .int) 1 := ⟨q10, q1003, rfl, by decide, by decide, by decide +kernel⟩
def f_X9_completeUpTo_28 (S : ST) (as0 : Int32) : Option (Int32 × ST) := some (as0, S)
set_option maxHeartbeats 4000000 in
set_option maxRecDepth 100000 in
theorem b_X9_completeUpTo_28 {p : Program} {l : Launch} {e : Env} {s : State} {m : MethodId} {args : Array Value} {below : List Frame} {meth : Method} {c : Code} {x : CX} {res : Int32 × ST} (F : MF p m meth c cX9_completeUpTo 2 s args RX9 (some .int)) : ∀ (H : Heap) (locs : List Loc) (ls : Array Slot) (S : ST), WD x s S H locs → ∀ (as0 : Int32), lv_has ls 2 [] → f_X9_completeUpTo_28 S as0 = some res → W p l e ({ frames := 4, cells := 0, slots := 0, locals := 89 } : Room) s m args below meth c H locs 0 0 (MQ below (QI x res.2 res.1 s.heap.size) args s 0 0 (AA x s.heap.size)) (F0 m 28 ls [.int as0]) := by
  intro H locs ls S w as0 hl hf
  unfold f_X9_completeUpTo_28 at hf
  exact r_iret F w (oi_s hf) dX9_completeUpTo_28
def f_X9_completeUpTo_13 (S : ST) (a1 : Int32) (as0 : Int32) : Option (Int32 × ST) := oB (f_X9_refused S as0) (fun (r2 : Int32) (S1 : ST) => (if r2 = 0 then oB (f_X9_complete S1 a1) (fun (r5 : Int32) (S4 : ST) => f_X9_completeUpTo_28 S4 r5) else f_X9_completeUpTo_28 S1 0))
set_option maxHeartbeats 4000000 in
set_option maxRecDepth 100000 in
theorem b_X9_completeUpTo_13 {p : Program} {l : Launch} {e : Env} {s : State} {m : MethodId} {args : Array Value} {below : List Frame} {meth : Method} {c : Code} {x : CX} {res : Int32 × ST} (F : MF p m meth c cX9_completeUpTo 2 s args RX9 (some .int)) : ∀ (H : Heap) (locs : List Loc) (ls : Array Slot) (S : ST), WD x s S H locs → ∀ (a1 : Int32) (as0 : Int32), lv_has ls 2 [(0, .ref (x.2.2 (80))), (1, .int a1)] → f_X9_completeUpTo_13 S a1 as0 = some res → W p l e ({ frames := 4, cells := 0, slots := 0, locals := 89 } : Room) s m args below meth c H locs 0 0 (MQ below (QI x res.2 res.1 s.heap.size) args s 0 0 (AA x s.heap.size)) (F0 m 13 ls [.int as0, .ref (x.2.2 (80))]) := by
  intro H locs ls S w a1 as0 hl hf
  unfold f_X9_completeUpTo_13 at hf
  obtain ⟨r2, S1, hc, hf⟩ := oi_b hf
  refine k_i0 (S' := S1) (r := r2) w (runV (As := [.int as0]) (rest := []) (kb := 80) F w (k_X9_refused l x S as0 hc H.size) cy_X9_refused q902 q904 qp19 ⟨rfl, rfl⟩ ⟨Nat.le_of_ble_eq_true rfl, Nat.le_of_ble_eq_true rfl⟩ (by decide) rfl rfl rfl rfl hl.1 (Nat.le_of_ble_eq_true rfl) ⟨Nat.le_of_ble_eq_true rfl, Nat.le_of_ble_eq_true rfl⟩ dX9_completeUpTo_13) (fun H locs w => ?_)
  refine lv_if_eq (tgt := 23) F.1 F.2.1 dX9_completeUpTo_16 (by decide) (fun c3 => ?_) (fun c3 => ?_)
  · replace hf := oi_t hf c3
    refine lv_aload_n F.1 F.2.1 dX9_completeUpTo_23 rfl (lv_at hl 0 rfl) ?_
    refine lv_iload_n F.1 F.2.1 dX9_completeUpTo_24 rfl (lv_at hl 1 rfl) ?_
    obtain ⟨r5, S4, hc, hf⟩ := oi_b hf
    refine k_i0 (S' := S4) (r := r5) w (runV (As := [.int a1]) (rest := []) (kb := 80) F w (k_X9_complete l x S1 a1 hc H.size) cy_X9_complete q1004 q1006 qp33 ⟨rfl, rfl⟩ ⟨Nat.le_of_ble_eq_true rfl, Nat.le_of_ble_eq_true rfl⟩ (by decide) rfl rfl rfl rfl hl.1 (Nat.le_of_ble_eq_true rfl) ⟨Nat.le_of_ble_eq_true rfl, Nat.le_of_ble_eq_true rfl⟩ dX9_completeUpTo_25) (fun H locs w => ?_)
    exact b_X9_completeUpTo_28 F  _ _ _ _ w r5 (lv_sub hl [] rfl) hf
  · replace hf := oi_f hf c3
    refine lv_iconst (v := 0) F.1 F.2.1 dX9_completeUpTo_19 (by decide) ?_
    refine lv_goto (tgt := 28) F.1 F.2.1 dX9_completeUpTo_20 (by decide) ?_
    exact b_X9_completeUpTo_28 F  _ _ _ _ w 0 (lv_sub hl [] rfl) hf
def f_X9_completeUpTo_0 (S : ST) (a1 : Int32) : Option (Int32 × ST) := oB (f_X9_isSet S a1) (fun (r2 : Int32) (S1 : ST) => (if r2 = 0 then f_X9_completeUpTo_13 S1 a1 1 else f_X9_completeUpTo_13 S1 a1 0))
set_option maxHeartbeats 4000000 in
set_option maxRecDepth 100000 in
theorem b_X9_completeUpTo_0 {p : Program} {l : Launch} {e : Env} {s : State} {m : MethodId} {args : Array Value} {below : List Frame} {meth : Method} {c : Code} {x : CX} {res : Int32 × ST} (F : MF p m meth c cX9_completeUpTo 2 s args RX9 (some .int)) : ∀ (H : Heap) (locs : List Loc) (ls : Array Slot) (S : ST), WD x s S H locs → ∀ (a1 : Int32), lv_has ls 2 [(0, .ref (x.2.2 (80))), (1, .int a1)] → f_X9_completeUpTo_0 S a1 = some res → W p l e ({ frames := 4, cells := 0, slots := 0, locals := 89 } : Room) s m args below meth c H locs 0 0 (MQ below (QI x res.2 res.1 s.heap.size) args s 0 0 (AA x s.heap.size)) (F0 m 0 ls []) := by
  intro H locs ls S w a1 hl hf
  unfold f_X9_completeUpTo_0 at hf
  refine lv_aload_n F.1 F.2.1 dX9_completeUpTo_0 rfl (lv_at hl 0 rfl) ?_
  refine lv_iload_n F.1 F.2.1 dX9_completeUpTo_1 rfl (lv_at hl 1 rfl) ?_
  obtain ⟨r2, S1, hc, hf⟩ := oi_b hf
  refine k_i0 (S' := S1) (r := r2) w (runS (As := [.int a1]) (rest := [.ref (x.2.2 (80))]) F w (k_X9_isSet l x S a1 hc H.size) cy_X9_isSet q910 q911 ⟨rfl, rfl⟩ ⟨Nat.le_of_ble_eq_true rfl, Nat.le_of_ble_eq_true rfl⟩ rfl rfl hl.1 (Nat.le_of_ble_eq_true rfl) ⟨Nat.le_of_ble_eq_true rfl, Nat.le_of_ble_eq_true rfl⟩ dX9_completeUpTo_2) (fun H locs w => ?_)
  refine lv_if_eq (tgt := 12) F.1 F.2.1 dX9_completeUpTo_5 (by decide) (fun c3 => ?_) (fun c3 => ?_)
  · replace hf := oi_t hf c3
    refine lv_iconst (v := 1) F.1 F.2.1 dX9_completeUpTo_12 (by decide) ?_
    exact b_X9_completeUpTo_13 F  _ _ _ _ w a1 1 (lv_sub hl [0, 1] rfl) hf
  · replace hf := oi_f hf c3
    refine lv_iconst (v := 0) F.1 F.2.1 dX9_completeUpTo_8 (by decide) ?_
    refine lv_goto (tgt := 13) F.1 F.2.1 dX9_completeUpTo_9 (by decide) ?_
    exact b_X9_completeUpTo_13 F  _ _ _ _ w a1 0 (lv_sub hl [0, 1] rfl) hf
def f_X9_completeUpTo (S : ST) (a1 : Int32) : Option (Int32 × ST) := f_X9_completeUpTo_0 S a1
set_option maxHeartbeats 4000000 in
set_option maxRecDepth 100000 in
theorem k_X9_completeUpTo (l : Launch) (x : CX) (S : ST) (a1 : Int32) {res : Int32 × ST} (hf : f_X9_completeUpTo S a1 = some res) (sz : Nat) : Met l yX9_completeUpTo (Cond.code yX9_completeUpTo cX9_completeUpTo 2 (some .int) :: GW) ({ frames := 4, cells := 0, slots := 0, locals := 89 } : Room) (PC x S sz [.ref (x.2.2 (80)), .int a1]) (QI x res.2 res.1 sz) 0 0 (AA x sz) := by
  refine Met.ofW (cc := cX9_completeUpTo) (maxL := 2) (ret := (some .int)) (by decide) rfl ?_
  intro p e s m args below meth c s₁ B hml hv
  obtain ⟨rfl, rfl, hPW⟩ := hv
  have F : MF p m meth c cX9_completeUpTo 2 s _ RX9 (some .int) := MF.of B hml
  have w := WD.of hPW
  have hl := lv_entry ([.ref (x.2.2 (80)), .int a1]) (n := 2) (Nat.le_of_ble_eq_true rfl)
  rw [lg_entry_eq]
  generalize (lg_sl ([.ref (x.2.2 (80)), .int a1]) ++ List.replicate (2 - (lg_sl ([.ref (x.2.2 (80)), .int a1])).length) Slot.unset).toArray = ls at hl ⊢
  have hl : lv_has ls 2 [(0, .ref (x.2.2 (80))), (1, .int a1)] := hl
  unfold f_X9_completeUpTo at hf
  exact b_X9_completeUpTo_0 F  _ _ _ _ w a1 (lv_sub hl [0, 1] rfl) hf
theorem cy_X9_unlike : CY yX9_unlike RX9 cX9_unlike 4 (some .int) 1 := ⟨q10, q1015, rfl, by decide, by decide, by decide +kernel⟩
def f_X9_unlike_33 (k11 : ST → Int32 → Int32 → Option (Int32 × ST)) (S : ST) (a3 : Int32) (as0 : Int32) (as1 : Int32) : Option (Int32 × ST) := oL (as1 + as0) (fun (v1 : Int32) => oL (a3 + 1) (fun (v2 : Int32) => k11 S v1 v2))
set_option maxHeartbeats 4000000 in
set_option maxRecDepth 100000 in
theorem b_X9_unlike_33 {p : Program} {l : Launch} {e : Env} {s : State} {m : MethodId} {args : Array Value} {below : List Frame} {meth : Method} {c : Code} {x : CX} {res : Int32 × ST} (F : MF p m meth c cX9_unlike 4 s args RX9 (some .int)) (k11 : ST → Int32 → Int32 → Option (Int32 × ST)) (hk11 : ∀ (H : Heap) (locs : List Loc) (ls : Array Slot) (S : ST), WD x s S H locs → ∀ (a2 : Int32) (a3 : Int32), lv_has ls 4 [(0, .ref (x.2.2 (80))), (2, .int a2), (3, .int a3)] → k11 S a2 a3 = some res → W p l e ({ frames := 3, cells := 0, slots := 0, locals := 67 } : Room) s m args below meth c H locs 0 0 (MQ below (QI x res.2 res.1 s.heap.size) args s 0 0 (AA x s.heap.size)) (F0 m 11 ls [])) : ∀ (H : Heap) (locs : List Loc) (ls : Array Slot) (S : ST), WD x s S H locs → ∀ (a3 : Int32) (as0 : Int32) (as1 : Int32), lv_has ls 4 [(0, .ref (x.2.2 (80))), (3, .int a3)] → f_X9_unlike_33 k11 S a3 as0 as1 = some res → W p l e ({ frames := 3, cells := 0, slots := 0, locals := 67 } : Room) s m args below meth c H locs 0 0 (MQ below (QI x res.2 res.1 s.heap.size) args s 0 0 (AA x s.heap.size)) (F0 m 33 ls [.int as0, .int as1]) := by
  intro H locs ls S w a3 as0 as1 hl hf
  unfold f_X9_unlike_33 at hf
  refine lv_iadd F.1 F.2.1 dX9_unlike_33 ?_
  refine lv_topi (fun v1 e_v1 => ?_)
  replace hf := oi_l hf e_v1
  refine lv_istore_n (lv' := [(2, .int v1), (0, .ref (x.2.2 (80))), (3, .int a3)]) F.1 F.2.1 dX9_unlike_34 rfl hl (by decide) rfl (fun ls hl => ?_)
  obtain ⟨v2, e_v2⟩ : ∃ y : Int32, y = (a3 + 1) := ⟨_, rfl⟩
  replace hf := oi_l hf e_v2
  refine lv_iinc (v := v2) (lv' := [(3, .int v2), (2, .int v1), (0, .ref (x.2.2 (80)))]) F.1 F.2.1 dX9_unlike_35 hl (k := 2) rfl (by rw [e_v2]; rfl) (by decide) rfl (fun ls hl => ?_)
  refine lv_goto (tgt := 11) F.1 F.2.1 dX9_unlike_38 (by decide) ?_
  exact hk11 _ _ _ _ w v1 v2 (lv_sub hl [2, 1, 0] rfl) hf
def f_X9_unlike_11 : Nat → ST → Int32 → Int32 → Option (Int32 × ST)
  | 0, _, _, _ => none
  | n + 1, S, a2, a3 => (if 2000 < a3 then some (a2, S) else oG (inB a3 2001) ((if (ai S 33 (Int32.toNatClampNeg a3)) ≤ 0 then f_X9_unlike_33 (f_X9_unlike_11 n) S a3 0 a2 else f_X9_unlike_33 (f_X9_unlike_11 n) S a3 1 a2)))
set_option maxHeartbeats 4000000 in
set_option maxRecDepth 100000 in
theorem b_X9_unlike_11 {p : Program} {l : Launch} {e : Env} {s : State} {m : MethodId} {args : Array Value} {below : List Frame} {meth : Method} {c : Code} {x : CX} {res : Int32 × ST} (F : MF p m meth c cX9_unlike 4 s args RX9 (some .int)) : ∀ (n : Nat), ∀ (H : Heap) (locs : List Loc) (ls : Array Slot) (S : ST), WD x s S H locs → ∀ (a2 : Int32) (a3 : Int32), lv_has ls 4 [(0, .ref (x.2.2 (80))), (2, .int a2), (3, .int a3)] → f_X9_unlike_11 n S a2 a3 = some res → W p l e ({ frames := 3, cells := 0, slots := 0, locals := 67 } : Room) s m args below meth c H locs 0 0 (MQ below (QI x res.2 res.1 s.heap.size) args s 0 0 (AA x s.heap.size)) (F0 m 11 ls []) := by
  intro n
  induction n with
  | zero =>
    intro H locs ls S w a2 a3 hl hf
    have hf : (none : Option (Int32 × ST)) = some res := hf
    cases hf
  | succ n ih =>
    intro H locs ls S w a2 a3 hl hf
    unfold f_X9_unlike_11 at hf
    refine lv_iload_n F.1 F.2.1 dX9_unlike_11 rfl (lv_at hl 2 rfl) ?_
    refine lv_sipush (v := 2000) F.1 F.2.1 dX9_unlike_12 (by decide) ?_
    refine lv_icmp_gt (tgt := 41) F.1 F.2.1 dX9_unlike_15 (by decide) (fun c1 => ?_) (fun c1 => ?_)
    · replace hf := oi_t hf c1
      refine lv_iload_n F.1 F.2.1 dX9_unlike_41 rfl (lv_at hl 1 rfl) ?_
      exact r_iret F w (oi_s hf) dX9_unlike_42
    · replace hf := oi_f hf c1
      refine lv_iload_n F.1 F.2.1 dX9_unlike_18 rfl (lv_at hl 1 rfl) ?_
      refine lv_aload_n F.1 F.2.1 dX9_unlike_19 rfl (lv_at hl 0 rfl) ?_
      refine g_MD_often F w q869 dX9_unlike_20 ?_
      refine lv_iload_n F.1 F.2.1 dX9_unlike_23 rfl (lv_at hl 2 rfl) ?_
      obtain ⟨hb2, hf⟩ := oi_g hf
      refine r_iald F w (k := 84) (f := ai S 33) (by decide) rfl hb2 dX9_unlike_24 ?_
      refine lv_if_le (tgt := 32) F.1 F.2.1 dX9_unlike_25 (by decide) (fun c3 => ?_) (fun c3 => ?_)
      · replace hf := oi_t hf c3
        refine lv_iconst (v := 0) F.1 F.2.1 dX9_unlike_32 (by decide) ?_
        exact b_X9_unlike_33 F (f_X9_unlike_11 n) ih _ _ _ _ w a3 0 a2 (lv_sub hl [0, 2] rfl) hf
      · replace hf := oi_f hf c3
        refine lv_iconst (v := 1) F.1 F.2.1 dX9_unlike_28 (by decide) ?_
        refine lv_goto (tgt := 33) F.1 F.2.1 dX9_unlike_29 (by decide) ?_
        exact b_X9_unlike_33 F (f_X9_unlike_11 n) ih _ _ _ _ w a3 1 a2 (lv_sub hl [0, 2] rfl) hf
def f_X9_unlike_0 (S : ST) (a1 : Int32) : Option (Int32 × ST) := oV (f_X9_laysOften S ((1 : Int32) <<< (a1 &&& 31))) (fun (S1 : ST) => f_X9_unlike_11 FU S1 0 1)
set_option maxHeartbeats 4000000 in
set_option maxRecDepth 100000 in
theorem b_X9_unlike_0 {p : Program} {l : Launch} {e : Env} {s : State} {m : MethodId} {args : Array Value} {below : List Frame} {meth : Method} {c : Code} {x : CX} {res : Int32 × ST} (F : MF p m meth c cX9_unlike 4 s args RX9 (some .int)) : ∀ (H : Heap) (locs : List Loc) (ls : Array Slot) (S : ST), WD x s S H locs → ∀ (a1 : Int32), lv_has ls 4 [(0, .ref (x.2.2 (80))), (1, .int a1)] → f_X9_unlike_0 S a1 = some res → W p l e ({ frames := 3, cells := 0, slots := 0, locals := 67 } : Room) s m args below meth c H locs 0 0 (MQ below (QI x res.2 res.1 s.heap.size) args s 0 0 (AA x s.heap.size)) (F0 m 0 ls []) := by
  intro H locs ls S w a1 hl hf
  unfold f_X9_unlike_0 at hf
  refine lv_aload_n F.1 F.2.1 dX9_unlike_0 rfl (lv_at hl 0 rfl) ?_
  refine lv_iconst (v := 1) F.1 F.2.1 dX9_unlike_1 (by decide) ?_
  refine lv_iload_n F.1 F.2.1 dX9_unlike_2 rfl (lv_at hl 1 rfl) ?_
  refine lv_ishl F.1 F.2.1 dX9_unlike_3 ?_
  obtain ⟨S1, hc, hf⟩ := oi_v hf
  refine k_v0 (S' := S1) w (runV (As := [.int ((1 : Int32) <<< (a1 &&& 31))]) (rest := []) (kb := 80) F w (k_X9_laysOften l x S ((1 : Int32) <<< (a1 &&& 31)) hc H.size) cy_X9_laysOften q992 q994 qp31 ⟨rfl, rfl⟩ ⟨Nat.le_of_ble_eq_true rfl, Nat.le_of_ble_eq_true rfl⟩ (by decide) rfl rfl rfl rfl hl.1 (Nat.le_of_ble_eq_true rfl) ⟨Nat.le_of_ble_eq_true rfl, Nat.le_of_ble_eq_true rfl⟩ dX9_unlike_4) (fun H locs w => ?_)
  refine lv_iconst (v := 0) F.1 F.2.1 dX9_unlike_7 (by decide) ?_
  refine lv_istore_n (lv' := [(2, .int 0), (0, .ref (x.2.2 (80))), (1, .int a1)]) F.1 F.2.1 dX9_unlike_8 rfl hl (by decide) rfl (fun ls hl => ?_)
  refine lv_iconst (v := 1) F.1 F.2.1 dX9_unlike_9 (by decide) ?_
  refine lv_istore_n (lv' := [(3, .int 1), (2, .int 0), (0, .ref (x.2.2 (80))), (1, .int a1)]) F.1 F.2.1 dX9_unlike_10 rfl hl (by decide) rfl (fun ls hl => ?_)
  exact b_X9_unlike_11 F FU _ _ _ _ w 0 1 (lv_sub hl [2, 1, 0] rfl) hf
def f_X9_unlike (S : ST) (a1 : Int32) : Option (Int32 × ST) := f_X9_unlike_0 S a1
set_option maxHeartbeats 4000000 in
set_option maxRecDepth 100000 in
theorem k_X9_unlike (l : Launch) (x : CX) (S : ST) (a1 : Int32) {res : Int32 × ST} (hf : f_X9_unlike S a1 = some res) (sz : Nat) : Met l yX9_unlike (Cond.code yX9_unlike cX9_unlike 4 (some .int) :: GW) ({ frames := 3, cells := 0, slots := 0, locals := 67 } : Room) (PC x S sz [.ref (x.2.2 (80)), .int a1]) (QI x res.2 res.1 sz) 0 0 (AA x sz) := by
  refine Met.ofW (cc := cX9_unlike) (maxL := 4) (ret := (some .int)) (by decide) rfl ?_
  intro p e s m args below meth c s₁ B hml hv
  obtain ⟨rfl, rfl, hPW⟩ := hv
  have F : MF p m meth c cX9_unlike 4 s _ RX9 (some .int) := MF.of B hml
  have w := WD.of hPW
  have hl := lv_entry ([.ref (x.2.2 (80)), .int a1]) (n := 4) (Nat.le_of_ble_eq_true rfl)
  rw [lg_entry_eq]
  generalize (lg_sl ([.ref (x.2.2 (80)), .int a1]) ++ List.replicate (4 - (lg_sl ([.ref (x.2.2 (80)), .int a1])).length) Slot.unset).toArray = ls at hl ⊢
  have hl : lv_has ls 4 [(0, .ref (x.2.2 (80))), (1, .int a1)] := hl
  unfold f_X9_unlike at hf
  exact b_X9_unlike_0 F  _ _ _ _ w a1 (lv_sub hl [0, 1] rfl) hf
theorem cy_X9_differences : CY yX9_differences RX9 cX9_differences 2 (some .int) 1 := ⟨q10, q1011, rfl, by decide, by decide, by decide +kernel⟩
def f_X9_differences_28 (S : ST) (as0 : Int32) : Option (Int32 × ST) := some (as0, S)
set_option maxHeartbeats 4000000 in
set_option maxRecDepth 100000 in
theorem b_X9_differences_28 {p : Program} {l : Launch} {e : Env} {s : State} {m : MethodId} {args : Array Value} {below : List Frame} {meth : Method} {c : Code} {x : CX} {res : Int32 × ST} (F : MF p m meth c cX9_differences 2 s args RX9 (some .int)) : ∀ (H : Heap) (locs : List Loc) (ls : Array Slot) (S : ST), WD x s S H locs → ∀ (as0 : Int32), lv_has ls 2 [] → f_X9_differences_28 S as0 = some res → W p l e ({ frames := 4, cells := 0, slots := 0, locals := 90 } : Room) s m args below meth c H locs 0 0 (MQ below (QI x res.2 res.1 s.heap.size) args s 0 0 (AA x s.heap.size)) (F0 m 28 ls [.int as0]) := by
  intro H locs ls S w as0 hl hf
  unfold f_X9_differences_28 at hf
  exact r_iret F w (oi_s hf) dX9_differences_28
def f_X9_differences_13 (S : ST) (a1 : Int32) (as0 : Int32) : Option (Int32 × ST) := oB (f_X9_refused S as0) (fun (r2 : Int32) (S1 : ST) => (if r2 = 0 then oB (f_X9_unlike S1 a1) (fun (r5 : Int32) (S4 : ST) => f_X9_differences_28 S4 r5) else f_X9_differences_28 S1 0))
set_option maxHeartbeats 4000000 in
set_option maxRecDepth 100000 in
theorem b_X9_differences_13 {p : Program} {l : Launch} {e : Env} {s : State} {m : MethodId} {args : Array Value} {below : List Frame} {meth : Method} {c : Code} {x : CX} {res : Int32 × ST} (F : MF p m meth c cX9_differences 2 s args RX9 (some .int)) : ∀ (H : Heap) (locs : List Loc) (ls : Array Slot) (S : ST), WD x s S H locs → ∀ (a1 : Int32) (as0 : Int32), lv_has ls 2 [(0, .ref (x.2.2 (80))), (1, .int a1)] → f_X9_differences_13 S a1 as0 = some res → W p l e ({ frames := 4, cells := 0, slots := 0, locals := 90 } : Room) s m args below meth c H locs 0 0 (MQ below (QI x res.2 res.1 s.heap.size) args s 0 0 (AA x s.heap.size)) (F0 m 13 ls [.int as0, .ref (x.2.2 (80))]) := by
  intro H locs ls S w a1 as0 hl hf
  unfold f_X9_differences_13 at hf
  obtain ⟨r2, S1, hc, hf⟩ := oi_b hf
  refine k_i0 (S' := S1) (r := r2) w (runV (As := [.int as0]) (rest := []) (kb := 80) F w (k_X9_refused l x S as0 hc H.size) cy_X9_refused q902 q904 qp19 ⟨rfl, rfl⟩ ⟨Nat.le_of_ble_eq_true rfl, Nat.le_of_ble_eq_true rfl⟩ (by decide) rfl rfl rfl rfl hl.1 (Nat.le_of_ble_eq_true rfl) ⟨Nat.le_of_ble_eq_true rfl, Nat.le_of_ble_eq_true rfl⟩ dX9_differences_13) (fun H locs w => ?_)
  refine lv_if_eq (tgt := 23) F.1 F.2.1 dX9_differences_16 (by decide) (fun c3 => ?_) (fun c3 => ?_)
  · replace hf := oi_t hf c3
    refine lv_aload_n F.1 F.2.1 dX9_differences_23 rfl (lv_at hl 0 rfl) ?_
    refine lv_iload_n F.1 F.2.1 dX9_differences_24 rfl (lv_at hl 1 rfl) ?_
    obtain ⟨r5, S4, hc, hf⟩ := oi_b hf
    refine k_i0 (S' := S4) (r := r5) w (runV (As := [.int a1]) (rest := []) (kb := 80) F w (k_X9_unlike l x S1 a1 hc H.size) cy_X9_unlike q1012 q1014 qp34 ⟨rfl, rfl⟩ ⟨Nat.le_of_ble_eq_true rfl, Nat.le_of_ble_eq_true rfl⟩ (by decide) rfl rfl rfl rfl hl.1 (Nat.le_of_ble_eq_true rfl) ⟨Nat.le_of_ble_eq_true rfl, Nat.le_of_ble_eq_true rfl⟩ dX9_differences_25) (fun H locs w => ?_)
    exact b_X9_differences_28 F  _ _ _ _ w r5 (lv_sub hl [] rfl) hf
  · replace hf := oi_f hf c3
    refine lv_iconst (v := 0) F.1 F.2.1 dX9_differences_19 (by decide) ?_
    refine lv_goto (tgt := 28) F.1 F.2.1 dX9_differences_20 (by decide) ?_
    exact b_X9_differences_28 F  _ _ _ _ w 0 (lv_sub hl [] rfl) hf
def f_X9_differences_0 (S : ST) (a1 : Int32) : Option (Int32 × ST) := oB (f_X9_isSet S a1) (fun (r2 : Int32) (S1 : ST) => (if r2 = 0 then f_X9_differences_13 S1 a1 1 else f_X9_differences_13 S1 a1 0))
set_option maxHeartbeats 4000000 in
set_option maxRecDepth 100000 in
theorem b_X9_differences_0 {p : Program} {l : Launch} {e : Env} {s : State} {m : MethodId} {args : Array Value} {below : List Frame} {meth : Method} {c : Code} {x : CX} {res : Int32 × ST} (F : MF p m meth c cX9_differences 2 s args RX9 (some .int)) : ∀ (H : Heap) (locs : List Loc) (ls : Array Slot) (S : ST), WD x s S H locs → ∀ (a1 : Int32), lv_has ls 2 [(0, .ref (x.2.2 (80))), (1, .int a1)] → f_X9_differences_0 S a1 = some res → W p l e ({ frames := 4, cells := 0, slots := 0, locals := 90 } : Room) s m args below meth c H locs 0 0 (MQ below (QI x res.2 res.1 s.heap.size) args s 0 0 (AA x s.heap.size)) (F0 m 0 ls []) := by
  intro H locs ls S w a1 hl hf
  unfold f_X9_differences_0 at hf
  refine lv_aload_n F.1 F.2.1 dX9_differences_0 rfl (lv_at hl 0 rfl) ?_
  refine lv_iload_n F.1 F.2.1 dX9_differences_1 rfl (lv_at hl 1 rfl) ?_
  obtain ⟨r2, S1, hc, hf⟩ := oi_b hf
  refine k_i0 (S' := S1) (r := r2) w (runS (As := [.int a1]) (rest := [.ref (x.2.2 (80))]) F w (k_X9_isSet l x S a1 hc H.size) cy_X9_isSet q910 q911 ⟨rfl, rfl⟩ ⟨Nat.le_of_ble_eq_true rfl, Nat.le_of_ble_eq_true rfl⟩ rfl rfl hl.1 (Nat.le_of_ble_eq_true rfl) ⟨Nat.le_of_ble_eq_true rfl, Nat.le_of_ble_eq_true rfl⟩ dX9_differences_2) (fun H locs w => ?_)
  refine lv_if_eq (tgt := 12) F.1 F.2.1 dX9_differences_5 (by decide) (fun c3 => ?_) (fun c3 => ?_)
  · replace hf := oi_t hf c3
    refine lv_iconst (v := 1) F.1 F.2.1 dX9_differences_12 (by decide) ?_
    exact b_X9_differences_13 F  _ _ _ _ w a1 1 (lv_sub hl [0, 1] rfl) hf
  · replace hf := oi_f hf c3
    refine lv_iconst (v := 0) F.1 F.2.1 dX9_differences_8 (by decide) ?_
    refine lv_goto (tgt := 13) F.1 F.2.1 dX9_differences_9 (by decide) ?_
    exact b_X9_differences_13 F  _ _ _ _ w a1 0 (lv_sub hl [0, 1] rfl) hf
def f_X9_differences (S : ST) (a1 : Int32) : Option (Int32 × ST) := f_X9_differences_0 S a1
set_option maxHeartbeats 4000000 in
set_option maxRecDepth 100000 in
theorem k_X9_differences (l : Launch) (x : CX) (S : ST) (a1 : Int32) {res : Int32 × ST} (hf : f_X9_differences S a1 = some res) (sz : Nat) : Met l yX9_differences (Cond.code yX9_differences cX9_differences 2 (some .int) :: GW) ({ frames := 4, cells := 0, slots := 0, locals := 90 } : Room) (PC x S sz [.ref (x.2.2 (80)), .int a1]) (QI x res.2 res.1 sz) 0 0 (AA x sz) := by
  refine Met.ofW (cc := cX9_differences) (maxL := 2) (ret := (some .int)) (by decide) rfl ?_
  intro p e s m args below meth c s₁ B hml hv
  obtain ⟨rfl, rfl, hPW⟩ := hv
  have F : MF p m meth c cX9_differences 2 s _ RX9 (some .int) := MF.of B hml
  have w := WD.of hPW
  have hl := lv_entry ([.ref (x.2.2 (80)), .int a1]) (n := 2) (Nat.le_of_ble_eq_true rfl)
  rw [lg_entry_eq]
  generalize (lg_sl ([.ref (x.2.2 (80)), .int a1]) ++ List.replicate (2 - (lg_sl ([.ref (x.2.2 (80)), .int a1])).length) Slot.unset).toArray = ls at hl ⊢
  have hl : lv_has ls 2 [(0, .ref (x.2.2 (80))), (1, .int a1)] := hl
  unfold f_X9_differences at hf
  exact b_X9_differences_0 F  _ _ _ _ w a1 (lv_sub hl [0, 1] rfl) hf
theorem cy_X9_isFamily : CY yX9_isFamily RX9 cX9_isFamily 2 (some .boolean) 1 := ⟨q10, q1019, rfl, by decide, by decide, by decide +kernel⟩
def f_X9_isFamily_35 (S : ST) (as0 : Int32) : Option (Int32 × ST) := oG (isB as0) (some (as0, S))
set_option maxHeartbeats 4000000 in
set_option maxRecDepth 100000 in
theorem b_X9_isFamily_35 {p : Program} {l : Launch} {e : Env} {s : State} {m : MethodId} {args : Array Value} {below : List Frame} {meth : Method} {c : Code} {x : CX} {res : Int32 × ST} (F : MF p m meth c cX9_isFamily 2 s args RX9 (some .boolean)) : ∀ (H : Heap) (locs : List Loc) (ls : Array Slot) (S : ST), WD x s S H locs → ∀ (as0 : Int32), lv_has ls 2 [] → f_X9_isFamily_35 S as0 = some res → W p l e ({ frames := 4, cells := 0, slots := 0, locals := 90 } : Room) s m args below meth c H locs 0 0 (MQ below (QI x res.2 res.1 s.heap.size) args s 0 0 (AA x s.heap.size)) (F0 m 35 ls [.int as0]) := by
  intro H locs ls S w as0 hl hf
  unfold f_X9_isFamily_35 at hf
  obtain ⟨hz1, hf⟩ := oi_g hf
  exact r_zret F w (isB_nar hz1) (oi_s hf) dX9_isFamily_35
def f_X9_isFamily_34 (S : ST)  : Option (Int32 × ST) := f_X9_isFamily_35 S 0
set_option maxHeartbeats 4000000 in
set_option maxRecDepth 100000 in
theorem b_X9_isFamily_34 {p : Program} {l : Launch} {e : Env} {s : State} {m : MethodId} {args : Array Value} {below : List Frame} {meth : Method} {c : Code} {x : CX} {res : Int32 × ST} (F : MF p m meth c cX9_isFamily 2 s args RX9 (some .boolean)) : ∀ (H : Heap) (locs : List Loc) (ls : Array Slot) (S : ST), WD x s S H locs → lv_has ls 2 [] → f_X9_isFamily_34 S = some res → W p l e ({ frames := 4, cells := 0, slots := 0, locals := 90 } : Room) s m args below meth c H locs 0 0 (MQ below (QI x res.2 res.1 s.heap.size) args s 0 0 (AA x s.heap.size)) (F0 m 34 ls []) := by
  intro H locs ls S w hl hf
  unfold f_X9_isFamily_34 at hf
  refine lv_iconst (v := 0) F.1 F.2.1 dX9_isFamily_34 (by decide) ?_
  exact b_X9_isFamily_35 F  _ _ _ _ w 0 (lv_sub hl [] rfl) hf
def f_X9_isFamily_16 (S : ST) (a1 : Int32) (as0 : Int32) : Option (Int32 × ST) := oB (f_X9_refused S as0) (fun (r2 : Int32) (S1 : ST) => (if r2 = 0 then oB (f_X9_areOnce S1 a1) (fun (r5 : Int32) (S4 : ST) => (if r5 = 0 then f_X9_isFamily_34 S4 else f_X9_isFamily_35 S4 1)) else f_X9_isFamily_34 S1))
set_option maxHeartbeats 4000000 in
set_option maxRecDepth 100000 in
theorem b_X9_isFamily_16 {p : Program} {l : Launch} {e : Env} {s : State} {m : MethodId} {args : Array Value} {below : List Frame} {meth : Method} {c : Code} {x : CX} {res : Int32 × ST} (F : MF p m meth c cX9_isFamily 2 s args RX9 (some .boolean)) : ∀ (H : Heap) (locs : List Loc) (ls : Array Slot) (S : ST), WD x s S H locs → ∀ (a1 : Int32) (as0 : Int32), lv_has ls 2 [(0, .ref (x.2.2 (80))), (1, .int a1)] → f_X9_isFamily_16 S a1 as0 = some res → W p l e ({ frames := 4, cells := 0, slots := 0, locals := 90 } : Room) s m args below meth c H locs 0 0 (MQ below (QI x res.2 res.1 s.heap.size) args s 0 0 (AA x s.heap.size)) (F0 m 16 ls [.int as0, .ref (x.2.2 (80))]) := by
  intro H locs ls S w a1 as0 hl hf
  unfold f_X9_isFamily_16 at hf
  obtain ⟨r2, S1, hc, hf⟩ := oi_b hf
  refine k_i0 (S' := S1) (r := r2) w (runV (As := [.int as0]) (rest := []) (kb := 80) F w (k_X9_refused l x S as0 hc H.size) cy_X9_refused q902 q904 qp19 ⟨rfl, rfl⟩ ⟨Nat.le_of_ble_eq_true rfl, Nat.le_of_ble_eq_true rfl⟩ (by decide) rfl rfl rfl rfl hl.1 (Nat.le_of_ble_eq_true rfl) ⟨Nat.le_of_ble_eq_true rfl, Nat.le_of_ble_eq_true rfl⟩ dX9_isFamily_16) (fun H locs w => ?_)
  refine lv_if_ne (tgt := 34) F.1 F.2.1 dX9_isFamily_19 (by decide) (fun c3 => ?_) (fun c3 => ?_)
  · replace hf := oi_f hf c3
    exact b_X9_isFamily_34 F  _ _ _ _ w  (lv_sub hl [] rfl) hf
  · replace hf := oi_t hf c3
    refine lv_aload_n F.1 F.2.1 dX9_isFamily_22 rfl (lv_at hl 0 rfl) ?_
    refine lv_iload_n F.1 F.2.1 dX9_isFamily_23 rfl (lv_at hl 1 rfl) ?_
    obtain ⟨r5, S4, hc, hf⟩ := oi_b hf
    refine k_i0 (S' := S4) (r := r5) w (runV (As := [.int a1]) (rest := []) (kb := 80) F w (k_X9_areOnce l x S1 a1 hc H.size) cy_X9_areOnce q988 q990 qp30 ⟨rfl, rfl⟩ ⟨Nat.le_of_ble_eq_true rfl, Nat.le_of_ble_eq_true rfl⟩ (by decide) rfl rfl rfl rfl hl.1 (Nat.le_of_ble_eq_true rfl) ⟨Nat.le_of_ble_eq_true rfl, Nat.le_of_ble_eq_true rfl⟩ dX9_isFamily_24) (fun H locs w => ?_)
    refine lv_if_eq (tgt := 34) F.1 F.2.1 dX9_isFamily_27 (by decide) (fun c6 => ?_) (fun c6 => ?_)
    · replace hf := oi_t hf c6
      exact b_X9_isFamily_34 F  _ _ _ _ w  (lv_sub hl [] rfl) hf
    · replace hf := oi_f hf c6
      refine lv_iconst (v := 1) F.1 F.2.1 dX9_isFamily_30 (by decide) ?_
      refine lv_goto (tgt := 35) F.1 F.2.1 dX9_isFamily_31 (by decide) ?_
      exact b_X9_isFamily_35 F  _ _ _ _ w 1 (lv_sub hl [] rfl) hf
def f_X9_isFamily_0 (S : ST) (a1 : Int32) : Option (Int32 × ST) := oB (f_X9_within S a1 0 15) (fun (r2 : Int32) (S1 : ST) => (if r2 = 0 then f_X9_isFamily_16 S1 a1 1 else f_X9_isFamily_16 S1 a1 0))
set_option maxHeartbeats 4000000 in
set_option maxRecDepth 100000 in
theorem b_X9_isFamily_0 {p : Program} {l : Launch} {e : Env} {s : State} {m : MethodId} {args : Array Value} {below : List Frame} {meth : Method} {c : Code} {x : CX} {res : Int32 × ST} (F : MF p m meth c cX9_isFamily 2 s args RX9 (some .boolean)) : ∀ (H : Heap) (locs : List Loc) (ls : Array Slot) (S : ST), WD x s S H locs → ∀ (a1 : Int32), lv_has ls 2 [(0, .ref (x.2.2 (80))), (1, .int a1)] → f_X9_isFamily_0 S a1 = some res → W p l e ({ frames := 4, cells := 0, slots := 0, locals := 90 } : Room) s m args below meth c H locs 0 0 (MQ below (QI x res.2 res.1 s.heap.size) args s 0 0 (AA x s.heap.size)) (F0 m 0 ls []) := by
  intro H locs ls S w a1 hl hf
  unfold f_X9_isFamily_0 at hf
  refine lv_aload_n F.1 F.2.1 dX9_isFamily_0 rfl (lv_at hl 0 rfl) ?_
  refine lv_iload_n F.1 F.2.1 dX9_isFamily_1 rfl (lv_at hl 1 rfl) ?_
  refine lv_iconst (v := 0) F.1 F.2.1 dX9_isFamily_2 (by decide) ?_
  refine lv_bipush (v := 15) F.1 F.2.1 dX9_isFamily_3 (by decide) ?_
  obtain ⟨r2, S1, hc, hf⟩ := oi_b hf
  refine k_i0 (S' := S1) (r := r2) w (runS (As := [.int a1, .int 0, .int 15]) (rest := [.ref (x.2.2 (80))]) F w (k_X9_within l x S a1 0 15 hc H.size) cy_X9_within q913 q914 ⟨rfl, rfl⟩ ⟨Nat.le_of_ble_eq_true rfl, Nat.le_of_ble_eq_true rfl⟩ rfl rfl hl.1 (Nat.le_of_ble_eq_true rfl) ⟨Nat.le_of_ble_eq_true rfl, Nat.le_of_ble_eq_true rfl⟩ dX9_isFamily_5) (fun H locs w => ?_)
  refine lv_if_eq (tgt := 15) F.1 F.2.1 dX9_isFamily_8 (by decide) (fun c3 => ?_) (fun c3 => ?_)
  · replace hf := oi_t hf c3
    refine lv_iconst (v := 1) F.1 F.2.1 dX9_isFamily_15 (by decide) ?_
    exact b_X9_isFamily_16 F  _ _ _ _ w a1 1 (lv_sub hl [0, 1] rfl) hf
  · replace hf := oi_f hf c3
    refine lv_iconst (v := 0) F.1 F.2.1 dX9_isFamily_11 (by decide) ?_
    refine lv_goto (tgt := 16) F.1 F.2.1 dX9_isFamily_12 (by decide) ?_
    exact b_X9_isFamily_16 F  _ _ _ _ w a1 0 (lv_sub hl [0, 1] rfl) hf
def f_X9_isFamily (S : ST) (a1 : Int32) : Option (Int32 × ST) := f_X9_isFamily_0 S a1
set_option maxHeartbeats 4000000 in
set_option maxRecDepth 100000 in
theorem k_X9_isFamily (l : Launch) (x : CX) (S : ST) (a1 : Int32) {res : Int32 × ST} (hf : f_X9_isFamily S a1 = some res) (sz : Nat) : Met l yX9_isFamily (Cond.code yX9_isFamily cX9_isFamily 2 (some .boolean) :: GW) ({ frames := 4, cells := 0, slots := 0, locals := 90 } : Room) (PC x S sz [.ref (x.2.2 (80)), .int a1]) (QI x res.2 res.1 sz) 0 0 (AA x sz) := by
  refine Met.ofW (cc := cX9_isFamily) (maxL := 2) (ret := (some .boolean)) (by decide) rfl ?_
  intro p e s m args below meth c s₁ B hml hv
  obtain ⟨rfl, rfl, hPW⟩ := hv
  have F : MF p m meth c cX9_isFamily 2 s _ RX9 (some .boolean) := MF.of B hml
  have w := WD.of hPW
  have hl := lv_entry ([.ref (x.2.2 (80)), .int a1]) (n := 2) (Nat.le_of_ble_eq_true rfl)
  rw [lg_entry_eq]
  generalize (lg_sl ([.ref (x.2.2 (80)), .int a1]) ++ List.replicate (2 - (lg_sl ([.ref (x.2.2 (80)), .int a1])).length) Slot.unset).toArray = ls at hl ⊢
  have hl : lv_has ls 2 [(0, .ref (x.2.2 (80))), (1, .int a1)] := hl
  unfold f_X9_isFamily at hf
  exact b_X9_isFamily_0 F  _ _ _ _ w a1 (lv_sub hl [0, 1] rfl) hf
theorem cy_X9_setModulus : CY yX9_setModulus RX9 cX9_setModulus 3 (some .int) 1 := ⟨q10, q1023, rfl, by decide, by decide, by decide +kernel⟩
def f_X9_setModulus_17 (S : ST) (a1 : Int32) (as0 : Int32) : Option (Int32 × ST) := oB (f_X9_refused S as0) (fun (r2 : Int32) (S1 : ST) => (if r2 = 0 then oV (f_X9_saves S1) (fun (S4 : ST) => oB (f_X9_modulus S4) (fun (r6 : Int32) (S5 : ST) => oG (inB 0 101) (oL (sA S5 30 (upd (ai S5 30) (Int32.toNatClampNeg 0) a1)) (fun (S8 : ST) => some (r6, S8))))) else some (0, S1)))
set_option maxHeartbeats 4000000 in
set_option maxRecDepth 100000 in
theorem b_X9_setModulus_17 {p : Program} {l : Launch} {e : Env} {s : State} {m : MethodId} {args : Array Value} {below : List Frame} {meth : Method} {c : Code} {x : CX} {res : Int32 × ST} (F : MF p m meth c cX9_setModulus 3 s args RX9 (some .int)) : ∀ (H : Heap) (locs : List Loc) (ls : Array Slot) (S : ST), WD x s S H locs → ∀ (a1 : Int32) (as0 : Int32), lv_has ls 3 [(0, .ref (x.2.2 (80))), (1, .int a1)] → f_X9_setModulus_17 S a1 as0 = some res → W p l e ({ frames := 1, cells := 0, slots := 0, locals := 22 } : Room) s m args below meth c H locs 0 0 (MQ below (QI x res.2 res.1 s.heap.size) args s 0 0 (AA x s.heap.size)) (F0 m 17 ls [.int as0, .ref (x.2.2 (80))]) := by
  intro H locs ls S w a1 as0 hl hf
  unfold f_X9_setModulus_17 at hf
  obtain ⟨r2, S1, hc, hf⟩ := oi_b hf
  refine k_i0 (S' := S1) (r := r2) w (runV (As := [.int as0]) (rest := []) (kb := 80) F w (k_X9_refused l x S as0 hc H.size) cy_X9_refused q902 q904 qp19 ⟨rfl, rfl⟩ ⟨Nat.le_of_ble_eq_true rfl, Nat.le_of_ble_eq_true rfl⟩ (by decide) rfl rfl rfl rfl hl.1 (Nat.le_of_ble_eq_true rfl) ⟨Nat.le_of_ble_eq_true rfl, Nat.le_of_ble_eq_true rfl⟩ dX9_setModulus_17) (fun H locs w => ?_)
  refine lv_if_eq (tgt := 25) F.1 F.2.1 dX9_setModulus_20 (by decide) (fun c3 => ?_) (fun c3 => ?_)
  · replace hf := oi_t hf c3
    refine lv_aload_n F.1 F.2.1 dX9_setModulus_25 rfl (lv_at hl 0 rfl) ?_
    obtain ⟨S4, hc, hf⟩ := oi_v hf
    refine k_v0 (S' := S4) w (runV (As := []) (rest := []) (kb := 80) F w (k_X9_saves l x S1 hc H.size) cy_X9_saves q928 q930 qp23 ⟨rfl, rfl⟩ ⟨Nat.le_of_ble_eq_true rfl, Nat.le_of_ble_eq_true rfl⟩ (by decide) rfl rfl rfl rfl hl.1 (Nat.le_of_ble_eq_true rfl) ⟨Nat.le_of_ble_eq_true rfl, Nat.le_of_ble_eq_true rfl⟩ dX9_setModulus_26) (fun H locs w => ?_)
    refine lv_aload_n F.1 F.2.1 dX9_setModulus_29 rfl (lv_at hl 0 rfl) ?_
    obtain ⟨r6, S5, hc, hf⟩ := oi_b hf
    refine k_i0 (S' := S5) (r := r6) w (runV (As := []) (rest := []) (kb := 80) F w (k_X9_modulus l x S4 hc H.size) cy_X9_modulus q1024 q1026 qp35 ⟨rfl, rfl⟩ ⟨Nat.le_of_ble_eq_true rfl, Nat.le_of_ble_eq_true rfl⟩ (by decide) rfl rfl rfl rfl hl.1 (Nat.le_of_ble_eq_true rfl) ⟨Nat.le_of_ble_eq_true rfl, Nat.le_of_ble_eq_true rfl⟩ dX9_setModulus_30) (fun H locs w => ?_)
    refine lv_istore_n (lv' := [(2, .int r6), (0, .ref (x.2.2 (80))), (1, .int a1)]) F.1 F.2.1 dX9_setModulus_33 rfl hl (by decide) rfl (fun ls hl => ?_)
    refine lv_aload_n F.1 F.2.1 dX9_setModulus_34 rfl (lv_at hl 1 rfl) ?_
    refine g_MD_now F w q863 dX9_setModulus_35 ?_
    refine lv_iconst (v := 0) F.1 F.2.1 dX9_setModulus_38 (by decide) ?_
    refine lv_iload_n F.1 F.2.1 dX9_setModulus_39 rfl (lv_at hl 2 rfl) ?_
    obtain ⟨hb7, hf⟩ := oi_g hf
    refine r_iast F w (k := 81) (a := 30) (n := 101) (by decide) (fun S9 => rfl) rfl hb7 dX9_setModulus_40 (fun H locs w => ?_)
    obtain ⟨S8, e_S8⟩ : ∃ y : ST, y = sA S5 30 (upd (ai S5 30) (Int32.toNatClampNeg 0) a1) := ⟨_, rfl⟩
    replace w : WD x s S8 H locs := by rw [e_S8]; exact w
    replace hf := oi_l hf e_S8
    refine lv_iload_n F.1 F.2.1 dX9_setModulus_41 rfl (lv_at hl 0 rfl) ?_
    exact r_iret F w (oi_s hf) dX9_setModulus_42
  · replace hf := oi_f hf c3
    refine lv_iconst (v := 0) F.1 F.2.1 dX9_setModulus_23 (by decide) ?_
    exact r_iret F w (oi_s hf) dX9_setModulus_24
def f_X9_setModulus_0 (S : ST) (a1 : Int32) : Option (Int32 × ST) := oB (f_X9_within S a1 2 1000) (fun (r2 : Int32) (S1 : ST) => (if r2 = 0 then f_X9_setModulus_17 S1 a1 1 else f_X9_setModulus_17 S1 a1 0))
set_option maxHeartbeats 4000000 in
set_option maxRecDepth 100000 in
theorem b_X9_setModulus_0 {p : Program} {l : Launch} {e : Env} {s : State} {m : MethodId} {args : Array Value} {below : List Frame} {meth : Method} {c : Code} {x : CX} {res : Int32 × ST} (F : MF p m meth c cX9_setModulus 3 s args RX9 (some .int)) : ∀ (H : Heap) (locs : List Loc) (ls : Array Slot) (S : ST), WD x s S H locs → ∀ (a1 : Int32), lv_has ls 3 [(0, .ref (x.2.2 (80))), (1, .int a1)] → f_X9_setModulus_0 S a1 = some res → W p l e ({ frames := 1, cells := 0, slots := 0, locals := 22 } : Room) s m args below meth c H locs 0 0 (MQ below (QI x res.2 res.1 s.heap.size) args s 0 0 (AA x s.heap.size)) (F0 m 0 ls []) := by
  intro H locs ls S w a1 hl hf
  unfold f_X9_setModulus_0 at hf
  refine lv_aload_n F.1 F.2.1 dX9_setModulus_0 rfl (lv_at hl 0 rfl) ?_
  refine lv_iload_n F.1 F.2.1 dX9_setModulus_1 rfl (lv_at hl 1 rfl) ?_
  refine lv_iconst (v := 2) F.1 F.2.1 dX9_setModulus_2 (by decide) ?_
  refine lv_sipush (v := 1000) F.1 F.2.1 dX9_setModulus_3 (by decide) ?_
  obtain ⟨r2, S1, hc, hf⟩ := oi_b hf
  refine k_i0 (S' := S1) (r := r2) w (runS (As := [.int a1, .int 2, .int 1000]) (rest := [.ref (x.2.2 (80))]) F w (k_X9_within l x S a1 2 1000 hc H.size) cy_X9_within q913 q914 ⟨rfl, rfl⟩ ⟨Nat.le_of_ble_eq_true rfl, Nat.le_of_ble_eq_true rfl⟩ rfl rfl hl.1 (Nat.le_of_ble_eq_true rfl) ⟨Nat.le_of_ble_eq_true rfl, Nat.le_of_ble_eq_true rfl⟩ dX9_setModulus_6) (fun H locs w => ?_)
  refine lv_if_eq (tgt := 16) F.1 F.2.1 dX9_setModulus_9 (by decide) (fun c3 => ?_) (fun c3 => ?_)
  · replace hf := oi_t hf c3
    refine lv_iconst (v := 1) F.1 F.2.1 dX9_setModulus_16 (by decide) ?_
    exact b_X9_setModulus_17 F  _ _ _ _ w a1 1 (lv_sub hl [0, 1] rfl) hf
  · replace hf := oi_f hf c3
    refine lv_iconst (v := 0) F.1 F.2.1 dX9_setModulus_12 (by decide) ?_
    refine lv_goto (tgt := 17) F.1 F.2.1 dX9_setModulus_13 (by decide) ?_
    exact b_X9_setModulus_17 F  _ _ _ _ w a1 0 (lv_sub hl [0, 1] rfl) hf
def f_X9_setModulus (S : ST) (a1 : Int32) : Option (Int32 × ST) := f_X9_setModulus_0 S a1
set_option maxHeartbeats 4000000 in
set_option maxRecDepth 100000 in
theorem k_X9_setModulus (l : Launch) (x : CX) (S : ST) (a1 : Int32) {res : Int32 × ST} (hf : f_X9_setModulus S a1 = some res) (sz : Nat) : Met l yX9_setModulus (Cond.code yX9_setModulus cX9_setModulus 3 (some .int) :: GW) ({ frames := 1, cells := 0, slots := 0, locals := 22 } : Room) (PC x S sz [.ref (x.2.2 (80)), .int a1]) (QI x res.2 res.1 sz) 0 0 (AA x sz) := by
  refine Met.ofW (cc := cX9_setModulus) (maxL := 3) (ret := (some .int)) (by decide) rfl ?_
  intro p e s m args below meth c s₁ B hml hv
  obtain ⟨rfl, rfl, hPW⟩ := hv
  have F : MF p m meth c cX9_setModulus 3 s _ RX9 (some .int) := MF.of B hml
  have w := WD.of hPW
  have hl := lv_entry ([.ref (x.2.2 (80)), .int a1]) (n := 3) (Nat.le_of_ble_eq_true rfl)
  rw [lg_entry_eq]
  generalize (lg_sl ([.ref (x.2.2 (80)), .int a1]) ++ List.replicate (3 - (lg_sl ([.ref (x.2.2 (80)), .int a1])).length) Slot.unset).toArray = ls at hl ⊢
  have hl : lv_has ls 3 [(0, .ref (x.2.2 (80))), (1, .int a1)] := hl
  unfold f_X9_setModulus at hf
  exact b_X9_setModulus_0 F  _ _ _ _ w a1 (lv_sub hl [0, 1] rfl) hf
theorem cy_X9_isLow : CY yX9_isLow RX9 cX9_isLow 2 (some .boolean) 1 := ⟨q10, q1035, rfl, by decide, by decide, by decide +kernel⟩
def f_X9_isLow_32 (S : ST) (as0 : Int32) : Option (Int32 × ST) := oG (isB as0) (some (as0, S))
set_option maxHeartbeats 4000000 in
set_option maxRecDepth 100000 in
theorem b_X9_isLow_32 {p : Program} {l : Launch} {e : Env} {s : State} {m : MethodId} {args : Array Value} {below : List Frame} {meth : Method} {c : Code} {x : CX} {res : Int32 × ST} (F : MF p m meth c cX9_isLow 2 s args RX9 (some .boolean)) : ∀ (H : Heap) (locs : List Loc) (ls : Array Slot) (S : ST), WD x s S H locs → ∀ (as0 : Int32), lv_has ls 2 [] → f_X9_isLow_32 S as0 = some res → W p l e ({ frames := 1, cells := 0, slots := 0, locals := 22 } : Room) s m args below meth c H locs 0 0 (MQ below (QI x res.2 res.1 s.heap.size) args s 0 0 (AA x s.heap.size)) (F0 m 32 ls [.int as0]) := by
  intro H locs ls S w as0 hl hf
  unfold f_X9_isLow_32 at hf
  obtain ⟨hz1, hf⟩ := oi_g hf
  exact r_zret F w (isB_nar hz1) (oi_s hf) dX9_isLow_32
def f_X9_isLow_27 (S : ST)  : Option (Int32 × ST) := f_X9_isLow_32 S 1
set_option maxHeartbeats 4000000 in
set_option maxRecDepth 100000 in
theorem b_X9_isLow_27 {p : Program} {l : Launch} {e : Env} {s : State} {m : MethodId} {args : Array Value} {below : List Frame} {meth : Method} {c : Code} {x : CX} {res : Int32 × ST} (F : MF p m meth c cX9_isLow 2 s args RX9 (some .boolean)) : ∀ (H : Heap) (locs : List Loc) (ls : Array Slot) (S : ST), WD x s S H locs → lv_has ls 2 [] → f_X9_isLow_27 S = some res → W p l e ({ frames := 1, cells := 0, slots := 0, locals := 22 } : Room) s m args below meth c H locs 0 0 (MQ below (QI x res.2 res.1 s.heap.size) args s 0 0 (AA x s.heap.size)) (F0 m 27 ls []) := by
  intro H locs ls S w hl hf
  unfold f_X9_isLow_27 at hf
  refine lv_iconst (v := 1) F.1 F.2.1 dX9_isLow_27 (by decide) ?_
  refine lv_goto (tgt := 32) F.1 F.2.1 dX9_isLow_28 (by decide) ?_
  exact b_X9_isLow_32 F  _ _ _ _ w 1 (lv_sub hl [] rfl) hf
def f_X9_isLow_0 (S : ST) (a1 : Int32) : Option (Int32 × ST) := oB (f_X9_many S a1) (fun (r2 : Int32) (S1 : ST) => (if r2 = 0 then f_X9_isLow_27 S1 else oB (f_X9_many S1 a1) (fun (r5 : Int32) (S4 : ST) => oB (f_X9_markAt S4 a1 (r5 - (1 : Int32))) (fun (r7 : Int32) (S6 : ST) => oB (f_X9_modulus S6) (fun (r9 : Int32) (S8 : ST) => (if r9 ≤ r7 then f_X9_isLow_32 S8 0 else f_X9_isLow_27 S8))))))
set_option maxHeartbeats 4000000 in
set_option maxRecDepth 100000 in
theorem b_X9_isLow_0 {p : Program} {l : Launch} {e : Env} {s : State} {m : MethodId} {args : Array Value} {below : List Frame} {meth : Method} {c : Code} {x : CX} {res : Int32 × ST} (F : MF p m meth c cX9_isLow 2 s args RX9 (some .boolean)) : ∀ (H : Heap) (locs : List Loc) (ls : Array Slot) (S : ST), WD x s S H locs → ∀ (a1 : Int32), lv_has ls 2 [(0, .ref (x.2.2 (80))), (1, .int a1)] → f_X9_isLow_0 S a1 = some res → W p l e ({ frames := 1, cells := 0, slots := 0, locals := 22 } : Room) s m args below meth c H locs 0 0 (MQ below (QI x res.2 res.1 s.heap.size) args s 0 0 (AA x s.heap.size)) (F0 m 0 ls []) := by
  intro H locs ls S w a1 hl hf
  unfold f_X9_isLow_0 at hf
  refine lv_aload_n F.1 F.2.1 dX9_isLow_0 rfl (lv_at hl 0 rfl) ?_
  refine lv_iload_n F.1 F.2.1 dX9_isLow_1 rfl (lv_at hl 1 rfl) ?_
  obtain ⟨r2, S1, hc, hf⟩ := oi_b hf
  refine k_i0 (S' := S1) (r := r2) w (runV (As := [.int a1]) (rest := []) (kb := 80) F w (k_X9_many l x S a1 hc H.size) cy_X9_many q920 q922 qp21 ⟨rfl, rfl⟩ ⟨Nat.le_of_ble_eq_true rfl, Nat.le_of_ble_eq_true rfl⟩ (by decide) rfl rfl rfl rfl hl.1 (Nat.le_of_ble_eq_true rfl) ⟨Nat.le_of_ble_eq_true rfl, Nat.le_of_ble_eq_true rfl⟩ dX9_isLow_2) (fun H locs w => ?_)
  refine lv_if_eq (tgt := 27) F.1 F.2.1 dX9_isLow_5 (by decide) (fun c3 => ?_) (fun c3 => ?_)
  · replace hf := oi_t hf c3
    exact b_X9_isLow_27 F  _ _ _ _ w  (lv_sub hl [] rfl) hf
  · replace hf := oi_f hf c3
    refine lv_aload_n F.1 F.2.1 dX9_isLow_8 rfl (lv_at hl 0 rfl) ?_
    refine lv_iload_n F.1 F.2.1 dX9_isLow_9 rfl (lv_at hl 1 rfl) ?_
    refine lv_aload_n F.1 F.2.1 dX9_isLow_10 rfl (lv_at hl 0 rfl) ?_
    refine lv_iload_n F.1 F.2.1 dX9_isLow_11 rfl (lv_at hl 1 rfl) ?_
    obtain ⟨r5, S4, hc, hf⟩ := oi_b hf
    refine k_i0 (S' := S4) (r := r5) w (runV (As := [.int a1]) (rest := [.int a1, .ref (x.2.2 (80))]) (kb := 80) F w (k_X9_many l x S1 a1 hc H.size) cy_X9_many q920 q922 qp21 ⟨rfl, rfl⟩ ⟨Nat.le_of_ble_eq_true rfl, Nat.le_of_ble_eq_true rfl⟩ (by decide) rfl rfl rfl rfl hl.1 (Nat.le_of_ble_eq_true rfl) ⟨Nat.le_of_ble_eq_true rfl, Nat.le_of_ble_eq_true rfl⟩ dX9_isLow_12) (fun H locs w => ?_)
    refine lv_iconst (v := 1) F.1 F.2.1 dX9_isLow_15 (by decide) ?_
    refine lv_isub F.1 F.2.1 dX9_isLow_16 ?_
    obtain ⟨r7, S6, hc, hf⟩ := oi_b hf
    refine k_i0 (S' := S6) (r := r7) w (runV (As := [.int a1, .int (r5 - (1 : Int32))]) (rest := []) (kb := 80) F w (k_X9_markAt l x S4 a1 (r5 - (1 : Int32)) hc H.size) cy_X9_markAt q924 q926 qp22 ⟨rfl, rfl⟩ ⟨Nat.le_of_ble_eq_true rfl, Nat.le_of_ble_eq_true rfl⟩ (by decide) rfl rfl rfl rfl hl.1 (Nat.le_of_ble_eq_true rfl) ⟨Nat.le_of_ble_eq_true rfl, Nat.le_of_ble_eq_true rfl⟩ dX9_isLow_17) (fun H locs w => ?_)
    refine lv_aload_n F.1 F.2.1 dX9_isLow_20 rfl (lv_at hl 0 rfl) ?_
    obtain ⟨r9, S8, hc, hf⟩ := oi_b hf
    refine k_i0 (S' := S8) (r := r9) w (runV (As := []) (rest := [.int r7]) (kb := 80) F w (k_X9_modulus l x S6 hc H.size) cy_X9_modulus q1024 q1026 qp35 ⟨rfl, rfl⟩ ⟨Nat.le_of_ble_eq_true rfl, Nat.le_of_ble_eq_true rfl⟩ (by decide) rfl rfl rfl rfl hl.1 (Nat.le_of_ble_eq_true rfl) ⟨Nat.le_of_ble_eq_true rfl, Nat.le_of_ble_eq_true rfl⟩ dX9_isLow_21) (fun H locs w => ?_)
    refine lv_icmp_ge (tgt := 31) F.1 F.2.1 dX9_isLow_24 (by decide) (fun c10 => ?_) (fun c10 => ?_)
    · replace hf := oi_t hf c10
      refine lv_iconst (v := 0) F.1 F.2.1 dX9_isLow_31 (by decide) ?_
      exact b_X9_isLow_32 F  _ _ _ _ w 0 (lv_sub hl [] rfl) hf
    · replace hf := oi_f hf c10
      exact b_X9_isLow_27 F  _ _ _ _ w  (lv_sub hl [] rfl) hf
def f_X9_isLow (S : ST) (a1 : Int32) : Option (Int32 × ST) := f_X9_isLow_0 S a1
set_option maxHeartbeats 4000000 in
set_option maxRecDepth 100000 in
theorem k_X9_isLow (l : Launch) (x : CX) (S : ST) (a1 : Int32) {res : Int32 × ST} (hf : f_X9_isLow S a1 = some res) (sz : Nat) : Met l yX9_isLow (Cond.code yX9_isLow cX9_isLow 2 (some .boolean) :: GW) ({ frames := 1, cells := 0, slots := 0, locals := 22 } : Room) (PC x S sz [.ref (x.2.2 (80)), .int a1]) (QI x res.2 res.1 sz) 0 0 (AA x sz) := by
  refine Met.ofW (cc := cX9_isLow) (maxL := 2) (ret := (some .boolean)) (by decide) rfl ?_
  intro p e s m args below meth c s₁ B hml hv
  obtain ⟨rfl, rfl, hPW⟩ := hv
  have F : MF p m meth c cX9_isLow 2 s _ RX9 (some .boolean) := MF.of B hml
  have w := WD.of hPW
  have hl := lv_entry ([.ref (x.2.2 (80)), .int a1]) (n := 2) (Nat.le_of_ble_eq_true rfl)
  rw [lg_entry_eq]
  generalize (lg_sl ([.ref (x.2.2 (80)), .int a1]) ++ List.replicate (2 - (lg_sl ([.ref (x.2.2 (80)), .int a1])).length) Slot.unset).toArray = ls at hl ⊢
  have hl : lv_has ls 2 [(0, .ref (x.2.2 (80))), (1, .int a1)] := hl
  unfold f_X9_isLow at hf
  exact b_X9_isLow_0 F  _ _ _ _ w a1 (lv_sub hl [0, 1] rfl) hf
theorem cy_X9_around : CY yX9_around RX9 cX9_around 3 (some .int) 1 := ⟨q10, q1043, rfl, by decide, by decide, by decide +kernel⟩
def f_X9_around_21 (S : ST) (as0 : Int32) : Option (Int32 × ST) := some (as0, S)
set_option maxHeartbeats 4000000 in
set_option maxRecDepth 100000 in
theorem b_X9_around_21 {p : Program} {l : Launch} {e : Env} {s : State} {m : MethodId} {args : Array Value} {below : List Frame} {meth : Method} {c : Code} {x : CX} {res : Int32 × ST} (F : MF p m meth c cX9_around 3 s args RX9 (some .int)) : ∀ (H : Heap) (locs : List Loc) (ls : Array Slot) (S : ST), WD x s S H locs → ∀ (as0 : Int32), lv_has ls 3 [] → f_X9_around_21 S as0 = some res → W p l e ({ frames := 1, cells := 0, slots := 0, locals := 20 } : Room) s m args below meth c H locs 0 0 (MQ below (QI x res.2 res.1 s.heap.size) args s 0 0 (AA x s.heap.size)) (F0 m 21 ls [.int as0]) := by
  intro H locs ls S w as0 hl hf
  unfold f_X9_around_21 at hf
  exact r_iret F w (oi_s hf) dX9_around_21
def f_X9_around_0 (S : ST) (a1 : Int32) : Option (Int32 × ST) := oB (f_X9_modulus S) (fun (r2 : Int32) (S1 : ST) => oG (nz r2) (oL (a1 - a1 / r2 * r2) (fun (v4 : Int32) => (if 0 ≤ v4 then f_X9_around_21 S1 v4 else oB (f_X9_modulus S1) (fun (r7 : Int32) (S6 : ST) => f_X9_around_21 S6 (v4 + r7))))))
set_option maxHeartbeats 4000000 in
set_option maxRecDepth 100000 in
theorem b_X9_around_0 {p : Program} {l : Launch} {e : Env} {s : State} {m : MethodId} {args : Array Value} {below : List Frame} {meth : Method} {c : Code} {x : CX} {res : Int32 × ST} (F : MF p m meth c cX9_around 3 s args RX9 (some .int)) : ∀ (H : Heap) (locs : List Loc) (ls : Array Slot) (S : ST), WD x s S H locs → ∀ (a1 : Int32), lv_has ls 3 [(0, .ref (x.2.2 (80))), (1, .int a1)] → f_X9_around_0 S a1 = some res → W p l e ({ frames := 1, cells := 0, slots := 0, locals := 20 } : Room) s m args below meth c H locs 0 0 (MQ below (QI x res.2 res.1 s.heap.size) args s 0 0 (AA x s.heap.size)) (F0 m 0 ls []) := by
  intro H locs ls S w a1 hl hf
  unfold f_X9_around_0 at hf
  refine lv_iload_n F.1 F.2.1 dX9_around_0 rfl (lv_at hl 1 rfl) ?_
  refine lv_aload_n F.1 F.2.1 dX9_around_1 rfl (lv_at hl 0 rfl) ?_
  obtain ⟨r2, S1, hc, hf⟩ := oi_b hf
  refine k_i0 (S' := S1) (r := r2) w (runV (As := []) (rest := [.int a1]) (kb := 80) F w (k_X9_modulus l x S hc H.size) cy_X9_modulus q1024 q1026 qp35 ⟨rfl, rfl⟩ ⟨Nat.le_of_ble_eq_true rfl, Nat.le_of_ble_eq_true rfl⟩ (by decide) rfl rfl rfl rfl hl.1 (Nat.le_of_ble_eq_true rfl) ⟨Nat.le_of_ble_eq_true rfl, Nat.le_of_ble_eq_true rfl⟩ dX9_around_2) (fun H locs w => ?_)
  obtain ⟨hz3, hf⟩ := oi_g hf
  refine lv_irem F.1 F.2.1 dX9_around_5 (nz_ne hz3) ?_
  refine lv_topi (fun v4 e_v4 => ?_)
  replace hf := oi_l hf e_v4
  refine lv_istore_n (lv' := [(2, .int v4), (0, .ref (x.2.2 (80))), (1, .int a1)]) F.1 F.2.1 dX9_around_6 rfl hl (by decide) rfl (fun ls hl => ?_)
  refine lv_iload_n F.1 F.2.1 dX9_around_7 rfl (lv_at hl 0 rfl) ?_
  refine lv_if_ge (tgt := 20) F.1 F.2.1 dX9_around_8 (by decide) (fun c5 => ?_) (fun c5 => ?_)
  · replace hf := oi_t hf c5
    refine lv_iload_n F.1 F.2.1 dX9_around_20 rfl (lv_at hl 0 rfl) ?_
    exact b_X9_around_21 F  _ _ _ _ w v4 (lv_sub hl [] rfl) hf
  · replace hf := oi_f hf c5
    refine lv_iload_n F.1 F.2.1 dX9_around_11 rfl (lv_at hl 0 rfl) ?_
    refine lv_aload_n F.1 F.2.1 dX9_around_12 rfl (lv_at hl 1 rfl) ?_
    obtain ⟨r7, S6, hc, hf⟩ := oi_b hf
    refine k_i0 (S' := S6) (r := r7) w (runV (As := []) (rest := [.int v4]) (kb := 80) F w (k_X9_modulus l x S1 hc H.size) cy_X9_modulus q1024 q1026 qp35 ⟨rfl, rfl⟩ ⟨Nat.le_of_ble_eq_true rfl, Nat.le_of_ble_eq_true rfl⟩ (by decide) rfl rfl rfl rfl hl.1 (Nat.le_of_ble_eq_true rfl) ⟨Nat.le_of_ble_eq_true rfl, Nat.le_of_ble_eq_true rfl⟩ dX9_around_13) (fun H locs w => ?_)
    refine lv_iadd F.1 F.2.1 dX9_around_16 ?_
    refine lv_goto (tgt := 21) F.1 F.2.1 dX9_around_17 (by decide) ?_
    exact b_X9_around_21 F  _ _ _ _ w (v4 + r7) (lv_sub hl [] rfl) hf
def f_X9_around (S : ST) (a1 : Int32) : Option (Int32 × ST) := f_X9_around_0 S a1
set_option maxHeartbeats 4000000 in
set_option maxRecDepth 100000 in
theorem k_X9_around (l : Launch) (x : CX) (S : ST) (a1 : Int32) {res : Int32 × ST} (hf : f_X9_around S a1 = some res) (sz : Nat) : Met l yX9_around (Cond.code yX9_around cX9_around 3 (some .int) :: GW) ({ frames := 1, cells := 0, slots := 0, locals := 20 } : Room) (PC x S sz [.ref (x.2.2 (80)), .int a1]) (QI x res.2 res.1 sz) 0 0 (AA x sz) := by
  refine Met.ofW (cc := cX9_around) (maxL := 3) (ret := (some .int)) (by decide) rfl ?_
  intro p e s m args below meth c s₁ B hml hv
  obtain ⟨rfl, rfl, hPW⟩ := hv
  have F : MF p m meth c cX9_around 3 s _ RX9 (some .int) := MF.of B hml
  have w := WD.of hPW
  have hl := lv_entry ([.ref (x.2.2 (80)), .int a1]) (n := 3) (Nat.le_of_ble_eq_true rfl)
  rw [lg_entry_eq]
  generalize (lg_sl ([.ref (x.2.2 (80)), .int a1]) ++ List.replicate (3 - (lg_sl ([.ref (x.2.2 (80)), .int a1])).length) Slot.unset).toArray = ls at hl ⊢
  have hl : lv_has ls 3 [(0, .ref (x.2.2 (80))), (1, .int a1)] := hl
  unfold f_X9_around at hf
  exact b_X9_around_0 F  _ _ _ _ w a1 (lv_sub hl [0, 1] rfl) hf
theorem cy_X9_cyclicPairs : CY yX9_cyclicPairs RX9 cX9_cyclicPairs 5 (some .int) 2 := ⟨q10, q1039, rfl, by decide, by decide, by decide +kernel⟩
def f_X9_cyclicPairs_43 (k5 : ST → Int32 → Int32 → Int32 → Int32 → Option (Int32 × ST)) (S : ST) (a1 : Int32) (a2 : Int32) (a4 : Int32) (as0 : Int32) (as1 : Int32) : Option (Int32 × ST) := oL (as1 + as0) (fun (v1 : Int32) => oL (a4 + 1) (fun (v2 : Int32) => k5 S a1 a2 v1 v2))
set_option maxHeartbeats 4000000 in
set_option maxRecDepth 100000 in
theorem b_X9_cyclicPairs_43 {p : Program} {l : Launch} {e : Env} {s : State} {m : MethodId} {args : Array Value} {below : List Frame} {meth : Method} {c : Code} {x : CX} {res : Int32 × ST} (F : MF p m meth c cX9_cyclicPairs 5 s args RX9 (some .int)) (k5 : ST → Int32 → Int32 → Int32 → Int32 → Option (Int32 × ST)) (hk5 : ∀ (H : Heap) (locs : List Loc) (ls : Array Slot) (S : ST), WD x s S H locs → ∀ (a1 : Int32) (a2 : Int32) (a3 : Int32) (a4 : Int32), lv_has ls 5 [(0, .ref (x.2.2 (80))), (1, .int a1), (2, .int a2), (3, .int a3), (4, .int a4)] → k5 S a1 a2 a3 a4 = some res → W p l e ({ frames := 2, cells := 0, slots := 0, locals := 46 } : Room) s m args below meth c H locs 0 0 (MQ below (QI x res.2 res.1 s.heap.size) args s 0 0 (AA x s.heap.size)) (F0 m 5 ls [])) : ∀ (H : Heap) (locs : List Loc) (ls : Array Slot) (S : ST), WD x s S H locs → ∀ (a1 : Int32) (a2 : Int32) (a4 : Int32) (as0 : Int32) (as1 : Int32), lv_has ls 5 [(0, .ref (x.2.2 (80))), (1, .int a1), (2, .int a2), (4, .int a4)] → f_X9_cyclicPairs_43 k5 S a1 a2 a4 as0 as1 = some res → W p l e ({ frames := 2, cells := 0, slots := 0, locals := 46 } : Room) s m args below meth c H locs 0 0 (MQ below (QI x res.2 res.1 s.heap.size) args s 0 0 (AA x s.heap.size)) (F0 m 43 ls [.int as0, .int as1]) := by
  intro H locs ls S w a1 a2 a4 as0 as1 hl hf
  unfold f_X9_cyclicPairs_43 at hf
  refine lv_iadd F.1 F.2.1 dX9_cyclicPairs_43 ?_
  refine lv_topi (fun v1 e_v1 => ?_)
  replace hf := oi_l hf e_v1
  refine lv_istore_n (lv' := [(3, .int v1), (0, .ref (x.2.2 (80))), (1, .int a1), (2, .int a2), (4, .int a4)]) F.1 F.2.1 dX9_cyclicPairs_44 rfl hl (by decide) rfl (fun ls hl => ?_)
  obtain ⟨v2, e_v2⟩ : ∃ y : Int32, y = (a4 + 1) := ⟨_, rfl⟩
  replace hf := oi_l hf e_v2
  refine lv_iinc (v := v2) (lv' := [(4, .int v2), (3, .int v1), (0, .ref (x.2.2 (80))), (1, .int a1), (2, .int a2)]) F.1 F.2.1 dX9_cyclicPairs_45 hl (k := 4) rfl (by rw [e_v2]; rfl) (by decide) rfl (fun ls hl => ?_)
  refine lv_goto (tgt := 5) F.1 F.2.1 dX9_cyclicPairs_48 (by decide) ?_
  exact hk5 _ _ _ _ w a1 a2 v1 v2 (lv_sub hl [2, 3, 4, 1, 0] rfl) hf
def f_X9_cyclicPairs_5 : Nat → ST → Int32 → Int32 → Int32 → Int32 → Option (Int32 × ST)
  | 0, _, _, _, _, _ => none
  | n + 1, S, a1, a2, a3, a4 => oB (f_X9_many S a1) (fun (r2 : Int32) (S1 : ST) => (if r2 ≤ a4 then some (a3, S1) else oB (f_X9_markAt S1 a1 a4) (fun (r5 : Int32) (S4 : ST) => oB (f_X9_around S4 (r5 - a2)) (fun (r7 : Int32) (S6 : ST) => oB (f_X9_numberOf S6 a1 r7) (fun (r9 : Int32) (S8 : ST) => (if r9 = (-1) then f_X9_cyclicPairs_43 (f_X9_cyclicPairs_5 n) S8 a1 a2 a4 0 a3 else f_X9_cyclicPairs_43 (f_X9_cyclicPairs_5 n) S8 a1 a2 a4 1 a3))))))
set_option maxHeartbeats 4000000 in
set_option maxRecDepth 100000 in
theorem b_X9_cyclicPairs_5 {p : Program} {l : Launch} {e : Env} {s : State} {m : MethodId} {args : Array Value} {below : List Frame} {meth : Method} {c : Code} {x : CX} {res : Int32 × ST} (F : MF p m meth c cX9_cyclicPairs 5 s args RX9 (some .int)) : ∀ (n : Nat), ∀ (H : Heap) (locs : List Loc) (ls : Array Slot) (S : ST), WD x s S H locs → ∀ (a1 : Int32) (a2 : Int32) (a3 : Int32) (a4 : Int32), lv_has ls 5 [(0, .ref (x.2.2 (80))), (1, .int a1), (2, .int a2), (3, .int a3), (4, .int a4)] → f_X9_cyclicPairs_5 n S a1 a2 a3 a4 = some res → W p l e ({ frames := 2, cells := 0, slots := 0, locals := 46 } : Room) s m args below meth c H locs 0 0 (MQ below (QI x res.2 res.1 s.heap.size) args s 0 0 (AA x s.heap.size)) (F0 m 5 ls []) := by
  intro n
  induction n with
  | zero =>
    intro H locs ls S w a1 a2 a3 a4 hl hf
    have hf : (none : Option (Int32 × ST)) = some res := hf
    cases hf
  | succ n ih =>
    intro H locs ls S w a1 a2 a3 a4 hl hf
    unfold f_X9_cyclicPairs_5 at hf
    refine lv_iload F.1 F.2.1 dX9_cyclicPairs_5 (lv_at hl 4 rfl) ?_
    refine lv_aload_n F.1 F.2.1 dX9_cyclicPairs_7 rfl (lv_at hl 0 rfl) ?_
    refine lv_iload_n F.1 F.2.1 dX9_cyclicPairs_8 rfl (lv_at hl 1 rfl) ?_
    obtain ⟨r2, S1, hc, hf⟩ := oi_b hf
    refine k_i0 (S' := S1) (r := r2) w (runV (As := [.int a1]) (rest := [.int a4]) (kb := 80) F w (k_X9_many l x S a1 hc H.size) cy_X9_many q920 q922 qp21 ⟨rfl, rfl⟩ ⟨Nat.le_of_ble_eq_true rfl, Nat.le_of_ble_eq_true rfl⟩ (by decide) rfl rfl rfl rfl hl.1 (Nat.le_of_ble_eq_true rfl) ⟨Nat.le_of_ble_eq_true rfl, Nat.le_of_ble_eq_true rfl⟩ dX9_cyclicPairs_9) (fun H locs w => ?_)
    refine lv_icmp_ge (tgt := 51) F.1 F.2.1 dX9_cyclicPairs_12 (by decide) (fun c3 => ?_) (fun c3 => ?_)
    · replace hf := oi_t hf c3
      refine lv_iload_n F.1 F.2.1 dX9_cyclicPairs_51 rfl (lv_at hl 3 rfl) ?_
      exact r_iret F w (oi_s hf) dX9_cyclicPairs_52
    · replace hf := oi_f hf c3
      refine lv_iload_n F.1 F.2.1 dX9_cyclicPairs_15 rfl (lv_at hl 3 rfl) ?_
      refine lv_aload_n F.1 F.2.1 dX9_cyclicPairs_16 rfl (lv_at hl 0 rfl) ?_
      refine lv_iload_n F.1 F.2.1 dX9_cyclicPairs_17 rfl (lv_at hl 1 rfl) ?_
      refine lv_aload_n F.1 F.2.1 dX9_cyclicPairs_18 rfl (lv_at hl 0 rfl) ?_
      refine lv_aload_n F.1 F.2.1 dX9_cyclicPairs_19 rfl (lv_at hl 0 rfl) ?_
      refine lv_iload_n F.1 F.2.1 dX9_cyclicPairs_20 rfl (lv_at hl 1 rfl) ?_
      refine lv_iload F.1 F.2.1 dX9_cyclicPairs_21 (lv_at hl 4 rfl) ?_
      obtain ⟨r5, S4, hc, hf⟩ := oi_b hf
      refine k_i0 (S' := S4) (r := r5) w (runV (As := [.int a1, .int a4]) (rest := [.ref (x.2.2 (80)), .int a1, .ref (x.2.2 (80)), .int a3]) (kb := 80) F w (k_X9_markAt l x S1 a1 a4 hc H.size) cy_X9_markAt q924 q926 qp22 ⟨rfl, rfl⟩ ⟨Nat.le_of_ble_eq_true rfl, Nat.le_of_ble_eq_true rfl⟩ (by decide) rfl rfl rfl rfl hl.1 (Nat.le_of_ble_eq_true rfl) ⟨Nat.le_of_ble_eq_true rfl, Nat.le_of_ble_eq_true rfl⟩ dX9_cyclicPairs_23) (fun H locs w => ?_)
      refine lv_iload_n F.1 F.2.1 dX9_cyclicPairs_26 rfl (lv_at hl 2 rfl) ?_
      refine lv_isub F.1 F.2.1 dX9_cyclicPairs_27 ?_
      obtain ⟨r7, S6, hc, hf⟩ := oi_b hf
      refine k_i0 (S' := S6) (r := r7) w (runV (As := [.int (r5 - a2)]) (rest := [.int a1, .ref (x.2.2 (80)), .int a3]) (kb := 80) F w (k_X9_around l x S4 (r5 - a2) hc H.size) cy_X9_around q1040 q1042 qp38 ⟨rfl, rfl⟩ ⟨Nat.le_of_ble_eq_true rfl, Nat.le_of_ble_eq_true rfl⟩ (by decide) rfl rfl rfl rfl hl.1 (Nat.le_of_ble_eq_true rfl) ⟨Nat.le_of_ble_eq_true rfl, Nat.le_of_ble_eq_true rfl⟩ dX9_cyclicPairs_28) (fun H locs w => ?_)
      obtain ⟨r9, S8, hc, hf⟩ := oi_b hf
      refine k_i0 (S' := S8) (r := r9) w (runV (As := [.int a1, .int r7]) (rest := [.int a3]) (kb := 80) F w (k_X9_numberOf l x S6 a1 r7 hc H.size) cy_X9_numberOf q916 q918 qp20 ⟨rfl, rfl⟩ ⟨Nat.le_of_ble_eq_true rfl, Nat.le_of_ble_eq_true rfl⟩ (by decide) rfl rfl rfl rfl hl.1 (Nat.le_of_ble_eq_true rfl) ⟨Nat.le_of_ble_eq_true rfl, Nat.le_of_ble_eq_true rfl⟩ dX9_cyclicPairs_31) (fun H locs w => ?_)
      refine lv_iconst (v := (-1)) F.1 F.2.1 dX9_cyclicPairs_34 (by decide) ?_
      refine lv_icmp_ne (tgt := 42) F.1 F.2.1 dX9_cyclicPairs_35 (by decide) (fun c10 => ?_) (fun c10 => ?_)
      · replace hf := oi_f hf c10
        refine lv_iconst (v := 1) F.1 F.2.1 dX9_cyclicPairs_42 (by decide) ?_
        exact b_X9_cyclicPairs_43 F (f_X9_cyclicPairs_5 n) ih _ _ _ _ w a1 a2 a4 1 a3 (lv_sub hl [0, 1, 2, 4] rfl) hf
      · replace hf := oi_t hf c10
        refine lv_iconst (v := 0) F.1 F.2.1 dX9_cyclicPairs_38 (by decide) ?_
        refine lv_goto (tgt := 43) F.1 F.2.1 dX9_cyclicPairs_39 (by decide) ?_
        exact b_X9_cyclicPairs_43 F (f_X9_cyclicPairs_5 n) ih _ _ _ _ w a1 a2 a4 0 a3 (lv_sub hl [0, 1, 2, 4] rfl) hf
def f_X9_cyclicPairs_0 (S : ST) (a1 : Int32) (a2 : Int32) : Option (Int32 × ST) := f_X9_cyclicPairs_5 FU S a1 a2 0 0
set_option maxHeartbeats 4000000 in
set_option maxRecDepth 100000 in
theorem b_X9_cyclicPairs_0 {p : Program} {l : Launch} {e : Env} {s : State} {m : MethodId} {args : Array Value} {below : List Frame} {meth : Method} {c : Code} {x : CX} {res : Int32 × ST} (F : MF p m meth c cX9_cyclicPairs 5 s args RX9 (some .int)) : ∀ (H : Heap) (locs : List Loc) (ls : Array Slot) (S : ST), WD x s S H locs → ∀ (a1 : Int32) (a2 : Int32), lv_has ls 5 [(0, .ref (x.2.2 (80))), (1, .int a1), (2, .int a2)] → f_X9_cyclicPairs_0 S a1 a2 = some res → W p l e ({ frames := 2, cells := 0, slots := 0, locals := 46 } : Room) s m args below meth c H locs 0 0 (MQ below (QI x res.2 res.1 s.heap.size) args s 0 0 (AA x s.heap.size)) (F0 m 0 ls []) := by
  intro H locs ls S w a1 a2 hl hf
  unfold f_X9_cyclicPairs_0 at hf
  refine lv_iconst (v := 0) F.1 F.2.1 dX9_cyclicPairs_0 (by decide) ?_
  refine lv_istore_n (lv' := [(3, .int 0), (0, .ref (x.2.2 (80))), (1, .int a1), (2, .int a2)]) F.1 F.2.1 dX9_cyclicPairs_1 rfl hl (by decide) rfl (fun ls hl => ?_)
  refine lv_iconst (v := 0) F.1 F.2.1 dX9_cyclicPairs_2 (by decide) ?_
  refine lv_istore (lv' := [(4, .int 0), (3, .int 0), (0, .ref (x.2.2 (80))), (1, .int a1), (2, .int a2)]) F.1 F.2.1 dX9_cyclicPairs_3 hl (by decide) rfl (fun ls hl => ?_)
  exact b_X9_cyclicPairs_5 F FU _ _ _ _ w a1 a2 0 0 (lv_sub hl [2, 3, 4, 1, 0] rfl) hf
def f_X9_cyclicPairs (S : ST) (a1 : Int32) (a2 : Int32) : Option (Int32 × ST) := f_X9_cyclicPairs_0 S a1 a2
set_option maxHeartbeats 4000000 in
set_option maxRecDepth 100000 in
theorem k_X9_cyclicPairs (l : Launch) (x : CX) (S : ST) (a1 : Int32) (a2 : Int32) {res : Int32 × ST} (hf : f_X9_cyclicPairs S a1 a2 = some res) (sz : Nat) : Met l yX9_cyclicPairs (Cond.code yX9_cyclicPairs cX9_cyclicPairs 5 (some .int) :: GW) ({ frames := 2, cells := 0, slots := 0, locals := 46 } : Room) (PC x S sz [.ref (x.2.2 (80)), .int a1, .int a2]) (QI x res.2 res.1 sz) 0 0 (AA x sz) := by
  refine Met.ofW (cc := cX9_cyclicPairs) (maxL := 5) (ret := (some .int)) (by decide) rfl ?_
  intro p e s m args below meth c s₁ B hml hv
  obtain ⟨rfl, rfl, hPW⟩ := hv
  have F : MF p m meth c cX9_cyclicPairs 5 s _ RX9 (some .int) := MF.of B hml
  have w := WD.of hPW
  have hl := lv_entry ([.ref (x.2.2 (80)), .int a1, .int a2]) (n := 5) (Nat.le_of_ble_eq_true rfl)
  rw [lg_entry_eq]
  generalize (lg_sl ([.ref (x.2.2 (80)), .int a1, .int a2]) ++ List.replicate (5 - (lg_sl ([.ref (x.2.2 (80)), .int a1, .int a2])).length) Slot.unset).toArray = ls at hl ⊢
  have hl : lv_has ls 5 [(0, .ref (x.2.2 (80))), (1, .int a1), (2, .int a2)] := hl
  unfold f_X9_cyclicPairs at hf
  exact b_X9_cyclicPairs_0 F  _ _ _ _ w a1 a2 (lv_sub hl [0, 1, 2] rfl) hf
theorem cy_X9_bar : CY yX9_bar RX9 cX9_bar 2 (some .int) 1 := ⟨q10, q1051, rfl, by decide, by decide, by decide +kernel⟩
def f_X9_bar_24 (S : ST) (as0 : Int32) : Option (Int32 × ST) := some (as0, S)
set_option maxHeartbeats 4000000 in
set_option maxRecDepth 100000 in
theorem b_X9_bar_24 {p : Program} {l : Launch} {e : Env} {s : State} {m : MethodId} {args : Array Value} {below : List Frame} {meth : Method} {c : Code} {x : CX} {res : Int32 × ST} (F : MF p m meth c cX9_bar 2 s args RX9 (some .int)) : ∀ (H : Heap) (locs : List Loc) (ls : Array Slot) (S : ST), WD x s S H locs → ∀ (as0 : Int32), lv_has ls 2 [] → f_X9_bar_24 S as0 = some res → W p l e ({ frames := 2, cells := 0, slots := 0, locals := 43 } : Room) s m args below meth c H locs 0 0 (MQ below (QI x res.2 res.1 s.heap.size) args s 0 0 (AA x s.heap.size)) (F0 m 24 ls [.int as0]) := by
  intro H locs ls S w as0 hl hf
  unfold f_X9_bar_24 at hf
  exact r_iret F w (oi_s hf) dX9_bar_24
def f_X9_bar_0 (S : ST) (a1 : Int32) : Option (Int32 × ST) := oB (f_X9_isSet S a1) (fun (r2 : Int32) (S1 : ST) => (if r2 = 0 then f_X9_bar_24 S1 1 else oB (f_X9_isLow S1 a1) (fun (r5 : Int32) (S4 : ST) => (if r5 = 0 then f_X9_bar_24 S4 2 else f_X9_bar_24 S4 0))))
set_option maxHeartbeats 4000000 in
set_option maxRecDepth 100000 in
theorem b_X9_bar_0 {p : Program} {l : Launch} {e : Env} {s : State} {m : MethodId} {args : Array Value} {below : List Frame} {meth : Method} {c : Code} {x : CX} {res : Int32 × ST} (F : MF p m meth c cX9_bar 2 s args RX9 (some .int)) : ∀ (H : Heap) (locs : List Loc) (ls : Array Slot) (S : ST), WD x s S H locs → ∀ (a1 : Int32), lv_has ls 2 [(0, .ref (x.2.2 (80))), (1, .int a1)] → f_X9_bar_0 S a1 = some res → W p l e ({ frames := 2, cells := 0, slots := 0, locals := 43 } : Room) s m args below meth c H locs 0 0 (MQ below (QI x res.2 res.1 s.heap.size) args s 0 0 (AA x s.heap.size)) (F0 m 0 ls []) := by
  intro H locs ls S w a1 hl hf
  unfold f_X9_bar_0 at hf
  refine lv_iload_n F.1 F.2.1 dX9_bar_0 rfl (lv_at hl 1 rfl) ?_
  obtain ⟨r2, S1, hc, hf⟩ := oi_b hf
  refine k_i0 (S' := S1) (r := r2) w (runS (As := [.int a1]) (rest := []) F w (k_X9_isSet l x S a1 hc H.size) cy_X9_isSet q910 q911 ⟨rfl, rfl⟩ ⟨Nat.le_of_ble_eq_true rfl, Nat.le_of_ble_eq_true rfl⟩ rfl rfl hl.1 (Nat.le_of_ble_eq_true rfl) ⟨Nat.le_of_ble_eq_true rfl, Nat.le_of_ble_eq_true rfl⟩ dX9_bar_1) (fun H locs w => ?_)
  refine lv_if_ne (tgt := 11) F.1 F.2.1 dX9_bar_4 (by decide) (fun c3 => ?_) (fun c3 => ?_)
  · replace hf := oi_f hf c3
    refine lv_aload_n F.1 F.2.1 dX9_bar_11 rfl (lv_at hl 0 rfl) ?_
    refine lv_iload_n F.1 F.2.1 dX9_bar_12 rfl (lv_at hl 1 rfl) ?_
    obtain ⟨r5, S4, hc, hf⟩ := oi_b hf
    refine k_i0 (S' := S4) (r := r5) w (runV (As := [.int a1]) (rest := []) (kb := 80) F w (k_X9_isLow l x S1 a1 hc H.size) cy_X9_isLow q1032 q1034 qp36 ⟨rfl, rfl⟩ ⟨Nat.le_of_ble_eq_true rfl, Nat.le_of_ble_eq_true rfl⟩ (by decide) rfl rfl rfl rfl hl.1 (Nat.le_of_ble_eq_true rfl) ⟨Nat.le_of_ble_eq_true rfl, Nat.le_of_ble_eq_true rfl⟩ dX9_bar_13) (fun H locs w => ?_)
    refine lv_if_eq (tgt := 23) F.1 F.2.1 dX9_bar_16 (by decide) (fun c6 => ?_) (fun c6 => ?_)
    · replace hf := oi_t hf c6
      refine lv_iconst (v := 2) F.1 F.2.1 dX9_bar_23 (by decide) ?_
      exact b_X9_bar_24 F  _ _ _ _ w 2 (lv_sub hl [] rfl) hf
    · replace hf := oi_f hf c6
      refine lv_iconst (v := 0) F.1 F.2.1 dX9_bar_19 (by decide) ?_
      refine lv_goto (tgt := 24) F.1 F.2.1 dX9_bar_20 (by decide) ?_
      exact b_X9_bar_24 F  _ _ _ _ w 0 (lv_sub hl [] rfl) hf
  · replace hf := oi_t hf c3
    refine lv_iconst (v := 1) F.1 F.2.1 dX9_bar_7 (by decide) ?_
    refine lv_goto (tgt := 24) F.1 F.2.1 dX9_bar_8 (by decide) ?_
    exact b_X9_bar_24 F  _ _ _ _ w 1 (lv_sub hl [] rfl) hf
def f_X9_bar (S : ST) (a1 : Int32) : Option (Int32 × ST) := f_X9_bar_0 S a1
set_option maxHeartbeats 4000000 in
set_option maxRecDepth 100000 in
theorem k_X9_bar (l : Launch) (x : CX) (S : ST) (a1 : Int32) {res : Int32 × ST} (hf : f_X9_bar S a1 = some res) (sz : Nat) : Met l yX9_bar (Cond.code yX9_bar cX9_bar 2 (some .int) :: GW) ({ frames := 2, cells := 0, slots := 0, locals := 43 } : Room) (PC x S sz [.ref (x.2.2 (80)), .int a1]) (QI x res.2 res.1 sz) 0 0 (AA x sz) := by
  refine Met.ofW (cc := cX9_bar) (maxL := 2) (ret := (some .int)) (by decide) rfl ?_
  intro p e s m args below meth c s₁ B hml hv
  obtain ⟨rfl, rfl, hPW⟩ := hv
  have F : MF p m meth c cX9_bar 2 s _ RX9 (some .int) := MF.of B hml
  have w := WD.of hPW
  have hl := lv_entry ([.ref (x.2.2 (80)), .int a1]) (n := 2) (Nat.le_of_ble_eq_true rfl)
  rw [lg_entry_eq]
  generalize (lg_sl ([.ref (x.2.2 (80)), .int a1]) ++ List.replicate (2 - (lg_sl ([.ref (x.2.2 (80)), .int a1])).length) Slot.unset).toArray = ls at hl ⊢
  have hl : lv_has ls 2 [(0, .ref (x.2.2 (80))), (1, .int a1)] := hl
  unfold f_X9_bar at hf
  exact b_X9_bar_0 F  _ _ _ _ w a1 (lv_sub hl [0, 1] rfl) hf
theorem cy_X9_cyclicMultiplicity : CY yX9_cyclicMultiplicity RX9 cX9_cyclicMultiplicity 3 (some .int) 2 := ⟨q10, q1031, rfl, by decide, by decide, by decide +kernel⟩
def f_X9_cyclicMultiplicity_59 (S : ST) (as0 : Int32) : Option (Int32 × ST) := some (as0, S)
set_option maxHeartbeats 4000000 in
set_option maxRecDepth 100000 in
theorem b_X9_cyclicMultiplicity_59 {p : Program} {l : Launch} {e : Env} {s : State} {m : MethodId} {args : Array Value} {below : List Frame} {meth : Method} {c : Code} {x : CX} {res : Int32 × ST} (F : MF p m meth c cX9_cyclicMultiplicity 3 s args RX9 (some .int)) : ∀ (H : Heap) (locs : List Loc) (ls : Array Slot) (S : ST), WD x s S H locs → ∀ (as0 : Int32), lv_has ls 3 [] → f_X9_cyclicMultiplicity_59 S as0 = some res → W p l e ({ frames := 3, cells := 0, slots := 0, locals := 70 } : Room) s m args below meth c H locs 0 0 (MQ below (QI x res.2 res.1 s.heap.size) args s 0 0 (AA x s.heap.size)) (F0 m 59 ls [.int as0]) := by
  intro H locs ls S w as0 hl hf
  unfold f_X9_cyclicMultiplicity_59 at hf
  exact r_iret F w (oi_s hf) dX9_cyclicMultiplicity_59
def f_X9_cyclicMultiplicity_43 (S : ST) (a1 : Int32) (a2 : Int32) (as0 : Int32) : Option (Int32 × ST) := oB (f_X9_refused S as0) (fun (r2 : Int32) (S1 : ST) => (if r2 = 0 then oB (f_X9_cyclicPairs S1 a1 a2) (fun (r5 : Int32) (S4 : ST) => f_X9_cyclicMultiplicity_59 S4 r5) else f_X9_cyclicMultiplicity_59 S1 0))
set_option maxHeartbeats 4000000 in
set_option maxRecDepth 100000 in
theorem b_X9_cyclicMultiplicity_43 {p : Program} {l : Launch} {e : Env} {s : State} {m : MethodId} {args : Array Value} {below : List Frame} {meth : Method} {c : Code} {x : CX} {res : Int32 × ST} (F : MF p m meth c cX9_cyclicMultiplicity 3 s args RX9 (some .int)) : ∀ (H : Heap) (locs : List Loc) (ls : Array Slot) (S : ST), WD x s S H locs → ∀ (a1 : Int32) (a2 : Int32) (as0 : Int32), lv_has ls 3 [(0, .ref (x.2.2 (80))), (1, .int a1), (2, .int a2)] → f_X9_cyclicMultiplicity_43 S a1 a2 as0 = some res → W p l e ({ frames := 3, cells := 0, slots := 0, locals := 70 } : Room) s m args below meth c H locs 0 0 (MQ below (QI x res.2 res.1 s.heap.size) args s 0 0 (AA x s.heap.size)) (F0 m 43 ls [.int as0, .ref (x.2.2 (80))]) := by
  intro H locs ls S w a1 a2 as0 hl hf
  unfold f_X9_cyclicMultiplicity_43 at hf
  obtain ⟨r2, S1, hc, hf⟩ := oi_b hf
  refine k_i0 (S' := S1) (r := r2) w (runV (As := [.int as0]) (rest := []) (kb := 80) F w (k_X9_refused l x S as0 hc H.size) cy_X9_refused q902 q904 qp19 ⟨rfl, rfl⟩ ⟨Nat.le_of_ble_eq_true rfl, Nat.le_of_ble_eq_true rfl⟩ (by decide) rfl rfl rfl rfl hl.1 (Nat.le_of_ble_eq_true rfl) ⟨Nat.le_of_ble_eq_true rfl, Nat.le_of_ble_eq_true rfl⟩ dX9_cyclicMultiplicity_43) (fun H locs w => ?_)
  refine lv_if_eq (tgt := 53) F.1 F.2.1 dX9_cyclicMultiplicity_46 (by decide) (fun c3 => ?_) (fun c3 => ?_)
  · replace hf := oi_t hf c3
    refine lv_aload_n F.1 F.2.1 dX9_cyclicMultiplicity_53 rfl (lv_at hl 0 rfl) ?_
    refine lv_iload_n F.1 F.2.1 dX9_cyclicMultiplicity_54 rfl (lv_at hl 1 rfl) ?_
    refine lv_iload_n F.1 F.2.1 dX9_cyclicMultiplicity_55 rfl (lv_at hl 2 rfl) ?_
    obtain ⟨r5, S4, hc, hf⟩ := oi_b hf
    refine k_i0 (S' := S4) (r := r5) w (runV (As := [.int a1, .int a2]) (rest := []) (kb := 80) F w (k_X9_cyclicPairs l x S1 a1 a2 hc H.size) cy_X9_cyclicPairs q1036 q1038 qp37 ⟨rfl, rfl⟩ ⟨Nat.le_of_ble_eq_true rfl, Nat.le_of_ble_eq_true rfl⟩ (by decide) rfl rfl rfl rfl hl.1 (Nat.le_of_ble_eq_true rfl) ⟨Nat.le_of_ble_eq_true rfl, Nat.le_of_ble_eq_true rfl⟩ dX9_cyclicMultiplicity_56) (fun H locs w => ?_)
    exact b_X9_cyclicMultiplicity_59 F  _ _ _ _ w r5 (lv_sub hl [] rfl) hf
  · replace hf := oi_f hf c3
    refine lv_iconst (v := 0) F.1 F.2.1 dX9_cyclicMultiplicity_49 (by decide) ?_
    refine lv_goto (tgt := 59) F.1 F.2.1 dX9_cyclicMultiplicity_50 (by decide) ?_
    exact b_X9_cyclicMultiplicity_59 F  _ _ _ _ w 0 (lv_sub hl [] rfl) hf
def f_X9_cyclicMultiplicity_0 (S : ST) (a1 : Int32) (a2 : Int32) : Option (Int32 × ST) := oB (f_X9_isSet S a1) (fun (r2 : Int32) (S1 : ST) => (if r2 = 0 then f_X9_cyclicMultiplicity_43 S1 a1 a2 1 else oB (f_X9_modulus S1) (fun (r5 : Int32) (S4 : ST) => oB (f_X9_within S4 a2 1 (r5 - (1 : Int32))) (fun (r7 : Int32) (S6 : ST) => (if r7 = 0 then f_X9_cyclicMultiplicity_43 S6 a1 a2 2 else oB (f_X9_isLow S6 a1) (fun (r10 : Int32) (S9 : ST) => (if r10 = 0 then f_X9_cyclicMultiplicity_43 S9 a1 a2 3 else f_X9_cyclicMultiplicity_43 S9 a1 a2 0)))))))
set_option maxHeartbeats 4000000 in
set_option maxRecDepth 100000 in
theorem b_X9_cyclicMultiplicity_0 {p : Program} {l : Launch} {e : Env} {s : State} {m : MethodId} {args : Array Value} {below : List Frame} {meth : Method} {c : Code} {x : CX} {res : Int32 × ST} (F : MF p m meth c cX9_cyclicMultiplicity 3 s args RX9 (some .int)) : ∀ (H : Heap) (locs : List Loc) (ls : Array Slot) (S : ST), WD x s S H locs → ∀ (a1 : Int32) (a2 : Int32), lv_has ls 3 [(0, .ref (x.2.2 (80))), (1, .int a1), (2, .int a2)] → f_X9_cyclicMultiplicity_0 S a1 a2 = some res → W p l e ({ frames := 3, cells := 0, slots := 0, locals := 70 } : Room) s m args below meth c H locs 0 0 (MQ below (QI x res.2 res.1 s.heap.size) args s 0 0 (AA x s.heap.size)) (F0 m 0 ls []) := by
  intro H locs ls S w a1 a2 hl hf
  unfold f_X9_cyclicMultiplicity_0 at hf
  refine lv_aload_n F.1 F.2.1 dX9_cyclicMultiplicity_0 rfl (lv_at hl 0 rfl) ?_
  refine lv_iload_n F.1 F.2.1 dX9_cyclicMultiplicity_1 rfl (lv_at hl 1 rfl) ?_
  obtain ⟨r2, S1, hc, hf⟩ := oi_b hf
  refine k_i0 (S' := S1) (r := r2) w (runS (As := [.int a1]) (rest := [.ref (x.2.2 (80))]) F w (k_X9_isSet l x S a1 hc H.size) cy_X9_isSet q910 q911 ⟨rfl, rfl⟩ ⟨Nat.le_of_ble_eq_true rfl, Nat.le_of_ble_eq_true rfl⟩ rfl rfl hl.1 (Nat.le_of_ble_eq_true rfl) ⟨Nat.le_of_ble_eq_true rfl, Nat.le_of_ble_eq_true rfl⟩ dX9_cyclicMultiplicity_2) (fun H locs w => ?_)
  refine lv_if_ne (tgt := 12) F.1 F.2.1 dX9_cyclicMultiplicity_5 (by decide) (fun c3 => ?_) (fun c3 => ?_)
  · replace hf := oi_f hf c3
    refine lv_iload_n F.1 F.2.1 dX9_cyclicMultiplicity_12 rfl (lv_at hl 2 rfl) ?_
    refine lv_iconst (v := 1) F.1 F.2.1 dX9_cyclicMultiplicity_13 (by decide) ?_
    refine lv_aload_n F.1 F.2.1 dX9_cyclicMultiplicity_14 rfl (lv_at hl 0 rfl) ?_
    obtain ⟨r5, S4, hc, hf⟩ := oi_b hf
    refine k_i0 (S' := S4) (r := r5) w (runV (As := []) (rest := [.int 1, .int a2, .ref (x.2.2 (80))]) (kb := 80) F w (k_X9_modulus l x S1 hc H.size) cy_X9_modulus q1024 q1026 qp35 ⟨rfl, rfl⟩ ⟨Nat.le_of_ble_eq_true rfl, Nat.le_of_ble_eq_true rfl⟩ (by decide) rfl rfl rfl rfl hl.1 (Nat.le_of_ble_eq_true rfl) ⟨Nat.le_of_ble_eq_true rfl, Nat.le_of_ble_eq_true rfl⟩ dX9_cyclicMultiplicity_15) (fun H locs w => ?_)
    refine lv_iconst (v := 1) F.1 F.2.1 dX9_cyclicMultiplicity_18 (by decide) ?_
    refine lv_isub F.1 F.2.1 dX9_cyclicMultiplicity_19 ?_
    obtain ⟨r7, S6, hc, hf⟩ := oi_b hf
    refine k_i0 (S' := S6) (r := r7) w (runS (As := [.int a2, .int 1, .int (r5 - (1 : Int32))]) (rest := [.ref (x.2.2 (80))]) F w (k_X9_within l x S4 a2 1 (r5 - (1 : Int32)) hc H.size) cy_X9_within q913 q914 ⟨rfl, rfl⟩ ⟨Nat.le_of_ble_eq_true rfl, Nat.le_of_ble_eq_true rfl⟩ rfl rfl hl.1 (Nat.le_of_ble_eq_true rfl) ⟨Nat.le_of_ble_eq_true rfl, Nat.le_of_ble_eq_true rfl⟩ dX9_cyclicMultiplicity_20) (fun H locs w => ?_)
    refine lv_if_ne (tgt := 30) F.1 F.2.1 dX9_cyclicMultiplicity_23 (by decide) (fun c8 => ?_) (fun c8 => ?_)
    · replace hf := oi_f hf c8
      refine lv_aload_n F.1 F.2.1 dX9_cyclicMultiplicity_30 rfl (lv_at hl 0 rfl) ?_
      refine lv_iload_n F.1 F.2.1 dX9_cyclicMultiplicity_31 rfl (lv_at hl 1 rfl) ?_
      obtain ⟨r10, S9, hc, hf⟩ := oi_b hf
      refine k_i0 (S' := S9) (r := r10) w (runV (As := [.int a1]) (rest := [.ref (x.2.2 (80))]) (kb := 80) F w (k_X9_isLow l x S6 a1 hc H.size) cy_X9_isLow q1032 q1034 qp36 ⟨rfl, rfl⟩ ⟨Nat.le_of_ble_eq_true rfl, Nat.le_of_ble_eq_true rfl⟩ (by decide) rfl rfl rfl rfl hl.1 (Nat.le_of_ble_eq_true rfl) ⟨Nat.le_of_ble_eq_true rfl, Nat.le_of_ble_eq_true rfl⟩ dX9_cyclicMultiplicity_32) (fun H locs w => ?_)
      refine lv_if_eq (tgt := 42) F.1 F.2.1 dX9_cyclicMultiplicity_35 (by decide) (fun c11 => ?_) (fun c11 => ?_)
      · replace hf := oi_t hf c11
        refine lv_iconst (v := 3) F.1 F.2.1 dX9_cyclicMultiplicity_42 (by decide) ?_
        exact b_X9_cyclicMultiplicity_43 F  _ _ _ _ w a1 a2 3 (lv_sub hl [0, 1, 2] rfl) hf
      · replace hf := oi_f hf c11
        refine lv_iconst (v := 0) F.1 F.2.1 dX9_cyclicMultiplicity_38 (by decide) ?_
        refine lv_goto (tgt := 43) F.1 F.2.1 dX9_cyclicMultiplicity_39 (by decide) ?_
        exact b_X9_cyclicMultiplicity_43 F  _ _ _ _ w a1 a2 0 (lv_sub hl [0, 1, 2] rfl) hf
    · replace hf := oi_t hf c8
      refine lv_iconst (v := 2) F.1 F.2.1 dX9_cyclicMultiplicity_26 (by decide) ?_
      refine lv_goto (tgt := 43) F.1 F.2.1 dX9_cyclicMultiplicity_27 (by decide) ?_
      exact b_X9_cyclicMultiplicity_43 F  _ _ _ _ w a1 a2 2 (lv_sub hl [0, 1, 2] rfl) hf
  · replace hf := oi_t hf c3
    refine lv_iconst (v := 1) F.1 F.2.1 dX9_cyclicMultiplicity_8 (by decide) ?_
    refine lv_goto (tgt := 43) F.1 F.2.1 dX9_cyclicMultiplicity_9 (by decide) ?_
    exact b_X9_cyclicMultiplicity_43 F  _ _ _ _ w a1 a2 1 (lv_sub hl [0, 1, 2] rfl) hf
def f_X9_cyclicMultiplicity (S : ST) (a1 : Int32) (a2 : Int32) : Option (Int32 × ST) := f_X9_cyclicMultiplicity_0 S a1 a2
set_option maxHeartbeats 4000000 in
set_option maxRecDepth 100000 in
theorem k_X9_cyclicMultiplicity (l : Launch) (x : CX) (S : ST) (a1 : Int32) (a2 : Int32) {res : Int32 × ST} (hf : f_X9_cyclicMultiplicity S a1 a2 = some res) (sz : Nat) : Met l yX9_cyclicMultiplicity (Cond.code yX9_cyclicMultiplicity cX9_cyclicMultiplicity 3 (some .int) :: GW) ({ frames := 3, cells := 0, slots := 0, locals := 70 } : Room) (PC x S sz [.ref (x.2.2 (80)), .int a1, .int a2]) (QI x res.2 res.1 sz) 0 0 (AA x sz) := by
  refine Met.ofW (cc := cX9_cyclicMultiplicity) (maxL := 3) (ret := (some .int)) (by decide) rfl ?_
  intro p e s m args below meth c s₁ B hml hv
  obtain ⟨rfl, rfl, hPW⟩ := hv
  have F : MF p m meth c cX9_cyclicMultiplicity 3 s _ RX9 (some .int) := MF.of B hml
  have w := WD.of hPW
  have hl := lv_entry ([.ref (x.2.2 (80)), .int a1, .int a2]) (n := 3) (Nat.le_of_ble_eq_true rfl)
  rw [lg_entry_eq]
  generalize (lg_sl ([.ref (x.2.2 (80)), .int a1, .int a2]) ++ List.replicate (3 - (lg_sl ([.ref (x.2.2 (80)), .int a1, .int a2])).length) Slot.unset).toArray = ls at hl ⊢
  have hl : lv_has ls 3 [(0, .ref (x.2.2 (80))), (1, .int a1), (2, .int a2)] := hl
  unfold f_X9_cyclicMultiplicity at hf
  exact b_X9_cyclicMultiplicity_0 F  _ _ _ _ w a1 a2 (lv_sub hl [0, 1, 2] rfl) hf
theorem cy_X9_isCyclicRuler : CY yX9_isCyclicRuler RX9 cX9_isCyclicRuler 4 (some .boolean) 1 := ⟨q10, q1047, rfl, by decide, by decide, by decide +kernel⟩
def f_X9_isCyclicRuler_45 (k18 : ST → Int32 → Int32 → Int32 → Option (Int32 × ST)) (S : ST) (a1 : Int32) (a3 : Int32) (as0 : Int32) : Option (Int32 × ST) := oL (a3 + 1) (fun (v1 : Int32) => k18 S a1 as0 v1)
set_option maxHeartbeats 4000000 in
set_option maxRecDepth 100000 in
theorem b_X9_isCyclicRuler_45 {p : Program} {l : Launch} {e : Env} {s : State} {m : MethodId} {args : Array Value} {below : List Frame} {meth : Method} {c : Code} {x : CX} {res : Int32 × ST} (F : MF p m meth c cX9_isCyclicRuler 4 s args RX9 (some .boolean)) (k18 : ST → Int32 → Int32 → Int32 → Option (Int32 × ST)) (hk18 : ∀ (H : Heap) (locs : List Loc) (ls : Array Slot) (S : ST), WD x s S H locs → ∀ (a1 : Int32) (a2 : Int32) (a3 : Int32), lv_has ls 4 [(0, .ref (x.2.2 (80))), (1, .int a1), (2, .int a2), (3, .int a3)] → k18 S a1 a2 a3 = some res → W p l e ({ frames := 3, cells := 0, slots := 0, locals := 70 } : Room) s m args below meth c H locs 0 0 (MQ below (QI x res.2 res.1 s.heap.size) args s 0 0 (AA x s.heap.size)) (F0 m 18 ls [])) : ∀ (H : Heap) (locs : List Loc) (ls : Array Slot) (S : ST), WD x s S H locs → ∀ (a1 : Int32) (a3 : Int32) (as0 : Int32), lv_has ls 4 [(0, .ref (x.2.2 (80))), (1, .int a1), (3, .int a3)] → f_X9_isCyclicRuler_45 k18 S a1 a3 as0 = some res → W p l e ({ frames := 3, cells := 0, slots := 0, locals := 70 } : Room) s m args below meth c H locs 0 0 (MQ below (QI x res.2 res.1 s.heap.size) args s 0 0 (AA x s.heap.size)) (F0 m 45 ls [.int as0]) := by
  intro H locs ls S w a1 a3 as0 hl hf
  unfold f_X9_isCyclicRuler_45 at hf
  refine lv_istore_n (lv' := [(2, .int as0), (0, .ref (x.2.2 (80))), (1, .int a1), (3, .int a3)]) F.1 F.2.1 dX9_isCyclicRuler_45 rfl hl (by decide) rfl (fun ls hl => ?_)
  obtain ⟨v1, e_v1⟩ : ∃ y : Int32, y = (a3 + 1) := ⟨_, rfl⟩
  replace hf := oi_l hf e_v1
  refine lv_iinc (v := v1) (lv' := [(3, .int v1), (2, .int as0), (0, .ref (x.2.2 (80))), (1, .int a1)]) F.1 F.2.1 dX9_isCyclicRuler_46 hl (k := 3) rfl (by rw [e_v1]; rfl) (by decide) rfl (fun ls hl => ?_)
  refine lv_goto (tgt := 18) F.1 F.2.1 dX9_isCyclicRuler_49 (by decide) ?_
  exact hk18 _ _ _ _ w a1 as0 v1 (lv_sub hl [2, 3, 1, 0] rfl) hf
def f_X9_isCyclicRuler_52 (S : ST) (a2 : Int32) : Option (Int32 × ST) := oG (isB a2) (some (a2, S))
set_option maxHeartbeats 4000000 in
set_option maxRecDepth 100000 in
theorem b_X9_isCyclicRuler_52 {p : Program} {l : Launch} {e : Env} {s : State} {m : MethodId} {args : Array Value} {below : List Frame} {meth : Method} {c : Code} {x : CX} {res : Int32 × ST} (F : MF p m meth c cX9_isCyclicRuler 4 s args RX9 (some .boolean)) : ∀ (H : Heap) (locs : List Loc) (ls : Array Slot) (S : ST), WD x s S H locs → ∀ (a2 : Int32), lv_has ls 4 [(2, .int a2)] → f_X9_isCyclicRuler_52 S a2 = some res → W p l e ({ frames := 3, cells := 0, slots := 0, locals := 70 } : Room) s m args below meth c H locs 0 0 (MQ below (QI x res.2 res.1 s.heap.size) args s 0 0 (AA x s.heap.size)) (F0 m 52 ls []) := by
  intro H locs ls S w a2 hl hf
  unfold f_X9_isCyclicRuler_52 at hf
  refine lv_iload_n F.1 F.2.1 dX9_isCyclicRuler_52 rfl (lv_at hl 0 rfl) ?_
  obtain ⟨hz1, hf⟩ := oi_g hf
  exact r_zret F w (isB_nar hz1) (oi_s hf) dX9_isCyclicRuler_53
def f_X9_isCyclicRuler_18 : Nat → ST → Int32 → Int32 → Int32 → Option (Int32 × ST)
  | 0, _, _, _, _ => none
  | n + 1, S, a1, a2, a3 => oB (f_X9_modulus S) (fun (r2 : Int32) (S1 : ST) => (if r2 ≤ a3 then f_X9_isCyclicRuler_52 S1 a2 else (if a2 = 0 then f_X9_isCyclicRuler_52 S1 a2 else oB (f_X9_cyclicPairs S1 a1 a3) (fun (r6 : Int32) (S5 : ST) => (if 2 ≤ r6 then f_X9_isCyclicRuler_45 (f_X9_isCyclicRuler_18 n) S5 a1 a3 0 else f_X9_isCyclicRuler_45 (f_X9_isCyclicRuler_18 n) S5 a1 a3 1)))))
set_option maxHeartbeats 4000000 in
set_option maxRecDepth 100000 in
theorem b_X9_isCyclicRuler_18 {p : Program} {l : Launch} {e : Env} {s : State} {m : MethodId} {args : Array Value} {below : List Frame} {meth : Method} {c : Code} {x : CX} {res : Int32 × ST} (F : MF p m meth c cX9_isCyclicRuler 4 s args RX9 (some .boolean)) : ∀ (n : Nat), ∀ (H : Heap) (locs : List Loc) (ls : Array Slot) (S : ST), WD x s S H locs → ∀ (a1 : Int32) (a2 : Int32) (a3 : Int32), lv_has ls 4 [(0, .ref (x.2.2 (80))), (1, .int a1), (2, .int a2), (3, .int a3)] → f_X9_isCyclicRuler_18 n S a1 a2 a3 = some res → W p l e ({ frames := 3, cells := 0, slots := 0, locals := 70 } : Room) s m args below meth c H locs 0 0 (MQ below (QI x res.2 res.1 s.heap.size) args s 0 0 (AA x s.heap.size)) (F0 m 18 ls []) := by
  intro n
  induction n with
  | zero =>
    intro H locs ls S w a1 a2 a3 hl hf
    have hf : (none : Option (Int32 × ST)) = some res := hf
    cases hf
  | succ n ih =>
    intro H locs ls S w a1 a2 a3 hl hf
    unfold f_X9_isCyclicRuler_18 at hf
    refine lv_iload_n F.1 F.2.1 dX9_isCyclicRuler_18 rfl (lv_at hl 3 rfl) ?_
    refine lv_aload_n F.1 F.2.1 dX9_isCyclicRuler_19 rfl (lv_at hl 0 rfl) ?_
    obtain ⟨r2, S1, hc, hf⟩ := oi_b hf
    refine k_i0 (S' := S1) (r := r2) w (runV (As := []) (rest := [.int a3]) (kb := 80) F w (k_X9_modulus l x S hc H.size) cy_X9_modulus q1024 q1026 qp35 ⟨rfl, rfl⟩ ⟨Nat.le_of_ble_eq_true rfl, Nat.le_of_ble_eq_true rfl⟩ (by decide) rfl rfl rfl rfl hl.1 (Nat.le_of_ble_eq_true rfl) ⟨Nat.le_of_ble_eq_true rfl, Nat.le_of_ble_eq_true rfl⟩ dX9_isCyclicRuler_20) (fun H locs w => ?_)
    refine lv_icmp_ge (tgt := 52) F.1 F.2.1 dX9_isCyclicRuler_23 (by decide) (fun c3 => ?_) (fun c3 => ?_)
    · replace hf := oi_t hf c3
      exact b_X9_isCyclicRuler_52 F  _ _ _ _ w a2 (lv_sub hl [2] rfl) hf
    · replace hf := oi_f hf c3
      refine lv_iload_n F.1 F.2.1 dX9_isCyclicRuler_26 rfl (lv_at hl 2 rfl) ?_
      refine lv_if_eq (tgt := 52) F.1 F.2.1 dX9_isCyclicRuler_27 (by decide) (fun c4 => ?_) (fun c4 => ?_)
      · replace hf := oi_t hf c4
        exact b_X9_isCyclicRuler_52 F  _ _ _ _ w a2 (lv_sub hl [2] rfl) hf
      · replace hf := oi_f hf c4
        refine lv_aload_n F.1 F.2.1 dX9_isCyclicRuler_30 rfl (lv_at hl 0 rfl) ?_
        refine lv_iload_n F.1 F.2.1 dX9_isCyclicRuler_31 rfl (lv_at hl 1 rfl) ?_
        refine lv_iload_n F.1 F.2.1 dX9_isCyclicRuler_32 rfl (lv_at hl 3 rfl) ?_
        obtain ⟨r6, S5, hc, hf⟩ := oi_b hf
        refine k_i0 (S' := S5) (r := r6) w (runV (As := [.int a1, .int a3]) (rest := []) (kb := 80) F w (k_X9_cyclicPairs l x S1 a1 a3 hc H.size) cy_X9_cyclicPairs q1036 q1038 qp37 ⟨rfl, rfl⟩ ⟨Nat.le_of_ble_eq_true rfl, Nat.le_of_ble_eq_true rfl⟩ (by decide) rfl rfl rfl rfl hl.1 (Nat.le_of_ble_eq_true rfl) ⟨Nat.le_of_ble_eq_true rfl, Nat.le_of_ble_eq_true rfl⟩ dX9_isCyclicRuler_33) (fun H locs w => ?_)
        refine lv_iconst (v := 2) F.1 F.2.1 dX9_isCyclicRuler_36 (by decide) ?_
        refine lv_icmp_ge (tgt := 44) F.1 F.2.1 dX9_isCyclicRuler_37 (by decide) (fun c7 => ?_) (fun c7 => ?_)
        · replace hf := oi_t hf c7
          refine lv_iconst (v := 0) F.1 F.2.1 dX9_isCyclicRuler_44 (by decide) ?_
          exact b_X9_isCyclicRuler_45 F (f_X9_isCyclicRuler_18 n) ih _ _ _ _ w a1 a3 0 (lv_sub hl [0, 1, 3] rfl) hf
        · replace hf := oi_f hf c7
          refine lv_iconst (v := 1) F.1 F.2.1 dX9_isCyclicRuler_40 (by decide) ?_
          refine lv_goto (tgt := 45) F.1 F.2.1 dX9_isCyclicRuler_41 (by decide) ?_
          exact b_X9_isCyclicRuler_45 F (f_X9_isCyclicRuler_18 n) ih _ _ _ _ w a1 a3 1 (lv_sub hl [0, 1, 3] rfl) hf
def f_X9_isCyclicRuler_0 (S : ST) (a1 : Int32) : Option (Int32 × ST) := oB (f_X9_bar S a1) (fun (r2 : Int32) (S1 : ST) => oB (f_X9_refused S1 r2) (fun (r4 : Int32) (S3 : ST) => (if r4 = 0 then f_X9_isCyclicRuler_18 FU S3 a1 1 1 else some (0, S3))))
set_option maxHeartbeats 4000000 in
set_option maxRecDepth 100000 in
theorem b_X9_isCyclicRuler_0 {p : Program} {l : Launch} {e : Env} {s : State} {m : MethodId} {args : Array Value} {below : List Frame} {meth : Method} {c : Code} {x : CX} {res : Int32 × ST} (F : MF p m meth c cX9_isCyclicRuler 4 s args RX9 (some .boolean)) : ∀ (H : Heap) (locs : List Loc) (ls : Array Slot) (S : ST), WD x s S H locs → ∀ (a1 : Int32), lv_has ls 4 [(0, .ref (x.2.2 (80))), (1, .int a1)] → f_X9_isCyclicRuler_0 S a1 = some res → W p l e ({ frames := 3, cells := 0, slots := 0, locals := 70 } : Room) s m args below meth c H locs 0 0 (MQ below (QI x res.2 res.1 s.heap.size) args s 0 0 (AA x s.heap.size)) (F0 m 0 ls []) := by
  intro H locs ls S w a1 hl hf
  unfold f_X9_isCyclicRuler_0 at hf
  refine lv_aload_n F.1 F.2.1 dX9_isCyclicRuler_0 rfl (lv_at hl 0 rfl) ?_
  refine lv_aload_n F.1 F.2.1 dX9_isCyclicRuler_1 rfl (lv_at hl 0 rfl) ?_
  refine lv_iload_n F.1 F.2.1 dX9_isCyclicRuler_2 rfl (lv_at hl 1 rfl) ?_
  obtain ⟨r2, S1, hc, hf⟩ := oi_b hf
  refine k_i0 (S' := S1) (r := r2) w (runV (As := [.int a1]) (rest := [.ref (x.2.2 (80))]) (kb := 80) F w (k_X9_bar l x S a1 hc H.size) cy_X9_bar q1048 q1050 qp39 ⟨rfl, rfl⟩ ⟨Nat.le_of_ble_eq_true rfl, Nat.le_of_ble_eq_true rfl⟩ (by decide) rfl rfl rfl rfl hl.1 (Nat.le_of_ble_eq_true rfl) ⟨Nat.le_of_ble_eq_true rfl, Nat.le_of_ble_eq_true rfl⟩ dX9_isCyclicRuler_3) (fun H locs w => ?_)
  obtain ⟨r4, S3, hc, hf⟩ := oi_b hf
  refine k_i0 (S' := S3) (r := r4) w (runV (As := [.int r2]) (rest := []) (kb := 80) F w (k_X9_refused l x S1 r2 hc H.size) cy_X9_refused q902 q904 qp19 ⟨rfl, rfl⟩ ⟨Nat.le_of_ble_eq_true rfl, Nat.le_of_ble_eq_true rfl⟩ (by decide) rfl rfl rfl rfl hl.1 (Nat.le_of_ble_eq_true rfl) ⟨Nat.le_of_ble_eq_true rfl, Nat.le_of_ble_eq_true rfl⟩ dX9_isCyclicRuler_6) (fun H locs w => ?_)
  refine lv_if_eq (tgt := 14) F.1 F.2.1 dX9_isCyclicRuler_9 (by decide) (fun c5 => ?_) (fun c5 => ?_)
  · replace hf := oi_t hf c5
    refine lv_iconst (v := 1) F.1 F.2.1 dX9_isCyclicRuler_14 (by decide) ?_
    refine lv_istore_n (lv' := [(2, .int 1), (0, .ref (x.2.2 (80))), (1, .int a1)]) F.1 F.2.1 dX9_isCyclicRuler_15 rfl hl (by decide) rfl (fun ls hl => ?_)
    refine lv_iconst (v := 1) F.1 F.2.1 dX9_isCyclicRuler_16 (by decide) ?_
    refine lv_istore_n (lv' := [(3, .int 1), (2, .int 1), (0, .ref (x.2.2 (80))), (1, .int a1)]) F.1 F.2.1 dX9_isCyclicRuler_17 rfl hl (by decide) rfl (fun ls hl => ?_)
    exact b_X9_isCyclicRuler_18 F FU _ _ _ _ w a1 1 1 (lv_sub hl [2, 3, 1, 0] rfl) hf
  · replace hf := oi_f hf c5
    refine lv_iconst (v := 0) F.1 F.2.1 dX9_isCyclicRuler_12 (by decide) ?_
    exact r_zret F w rfl (oi_s hf) dX9_isCyclicRuler_13
def f_X9_isCyclicRuler (S : ST) (a1 : Int32) : Option (Int32 × ST) := f_X9_isCyclicRuler_0 S a1
set_option maxHeartbeats 4000000 in
set_option maxRecDepth 100000 in
theorem k_X9_isCyclicRuler (l : Launch) (x : CX) (S : ST) (a1 : Int32) {res : Int32 × ST} (hf : f_X9_isCyclicRuler S a1 = some res) (sz : Nat) : Met l yX9_isCyclicRuler (Cond.code yX9_isCyclicRuler cX9_isCyclicRuler 4 (some .boolean) :: GW) ({ frames := 3, cells := 0, slots := 0, locals := 70 } : Room) (PC x S sz [.ref (x.2.2 (80)), .int a1]) (QI x res.2 res.1 sz) 0 0 (AA x sz) := by
  refine Met.ofW (cc := cX9_isCyclicRuler) (maxL := 4) (ret := (some .boolean)) (by decide) rfl ?_
  intro p e s m args below meth c s₁ B hml hv
  obtain ⟨rfl, rfl, hPW⟩ := hv
  have F : MF p m meth c cX9_isCyclicRuler 4 s _ RX9 (some .boolean) := MF.of B hml
  have w := WD.of hPW
  have hl := lv_entry ([.ref (x.2.2 (80)), .int a1]) (n := 4) (Nat.le_of_ble_eq_true rfl)
  rw [lg_entry_eq]
  generalize (lg_sl ([.ref (x.2.2 (80)), .int a1]) ++ List.replicate (4 - (lg_sl ([.ref (x.2.2 (80)), .int a1])).length) Slot.unset).toArray = ls at hl ⊢
  have hl : lv_has ls 4 [(0, .ref (x.2.2 (80))), (1, .int a1)] := hl
  unfold f_X9_isCyclicRuler at hf
  exact b_X9_isCyclicRuler_0 F  _ _ _ _ w a1 (lv_sub hl [0, 1] rfl) hf
theorem cy_X9_indexOf : CY yX9_indexOf RX9 cX9_indexOf 5 (some .int) 1 := ⟨q10, q1059, rfl, by decide, by decide, by decide +kernel⟩
def f_X9_indexOf_54 (k25 : ST → Int32 → Int32 → Int32 → Int32 → Option (Int32 × ST)) (S : ST) (a1 : Int32) (a2 : Int32) (a4 : Int32) (as0 : Int32) : Option (Int32 × ST) := oL (a4 + 1) (fun (v1 : Int32) => k25 S a1 a2 as0 v1)
set_option maxHeartbeats 4000000 in
set_option maxRecDepth 100000 in
theorem b_X9_indexOf_54 {p : Program} {l : Launch} {e : Env} {s : State} {m : MethodId} {args : Array Value} {below : List Frame} {meth : Method} {c : Code} {x : CX} {res : Int32 × ST} (F : MF p m meth c cX9_indexOf 5 s args RX9 (some .int)) (k25 : ST → Int32 → Int32 → Int32 → Int32 → Option (Int32 × ST)) (hk25 : ∀ (H : Heap) (locs : List Loc) (ls : Array Slot) (S : ST), WD x s S H locs → ∀ (a1 : Int32) (a2 : Int32) (a3 : Int32) (a4 : Int32), lv_has ls 5 [(0, .ref (x.2.2 (80))), (1, .int a1), (2, .int a2), (3, .int a3), (4, .int a4)] → k25 S a1 a2 a3 a4 = some res → W p l e ({ frames := 3, cells := 0, slots := 0, locals := 70 } : Room) s m args below meth c H locs 0 0 (MQ below (QI x res.2 res.1 s.heap.size) args s 0 0 (AA x s.heap.size)) (F0 m 25 ls [])) : ∀ (H : Heap) (locs : List Loc) (ls : Array Slot) (S : ST), WD x s S H locs → ∀ (a1 : Int32) (a2 : Int32) (a4 : Int32) (as0 : Int32), lv_has ls 5 [(0, .ref (x.2.2 (80))), (1, .int a1), (2, .int a2), (4, .int a4)] → f_X9_indexOf_54 k25 S a1 a2 a4 as0 = some res → W p l e ({ frames := 3, cells := 0, slots := 0, locals := 70 } : Room) s m args below meth c H locs 0 0 (MQ below (QI x res.2 res.1 s.heap.size) args s 0 0 (AA x s.heap.size)) (F0 m 54 ls [.int as0]) := by
  intro H locs ls S w a1 a2 a4 as0 hl hf
  unfold f_X9_indexOf_54 at hf
  refine lv_istore_n (lv' := [(3, .int as0), (0, .ref (x.2.2 (80))), (1, .int a1), (2, .int a2), (4, .int a4)]) F.1 F.2.1 dX9_indexOf_54 rfl hl (by decide) rfl (fun ls hl => ?_)
  obtain ⟨v1, e_v1⟩ : ∃ y : Int32, y = (a4 + 1) := ⟨_, rfl⟩
  replace hf := oi_l hf e_v1
  refine lv_iinc (v := v1) (lv' := [(4, .int v1), (3, .int as0), (0, .ref (x.2.2 (80))), (1, .int a1), (2, .int a2)]) F.1 F.2.1 dX9_indexOf_55 hl (k := 4) rfl (by rw [e_v1]; rfl) (by decide) rfl (fun ls hl => ?_)
  refine lv_goto (tgt := 25) F.1 F.2.1 dX9_indexOf_58 (by decide) ?_
  exact hk25 _ _ _ _ w a1 a2 as0 v1 (lv_sub hl [2, 3, 4, 1, 0] rfl) hf
def f_X9_indexOf_70 (S : ST) (as0 : Int32) : Option (Int32 × ST) := some (as0, S)
set_option maxHeartbeats 4000000 in
set_option maxRecDepth 100000 in
theorem b_X9_indexOf_70 {p : Program} {l : Launch} {e : Env} {s : State} {m : MethodId} {args : Array Value} {below : List Frame} {meth : Method} {c : Code} {x : CX} {res : Int32 × ST} (F : MF p m meth c cX9_indexOf 5 s args RX9 (some .int)) : ∀ (H : Heap) (locs : List Loc) (ls : Array Slot) (S : ST), WD x s S H locs → ∀ (as0 : Int32), lv_has ls 5 [] → f_X9_indexOf_70 S as0 = some res → W p l e ({ frames := 3, cells := 0, slots := 0, locals := 70 } : Room) s m args below meth c H locs 0 0 (MQ below (QI x res.2 res.1 s.heap.size) args s 0 0 (AA x s.heap.size)) (F0 m 70 ls [.int as0]) := by
  intro H locs ls S w as0 hl hf
  unfold f_X9_indexOf_70 at hf
  exact r_iret F w (oi_s hf) dX9_indexOf_70
def f_X9_indexOf_61 (S : ST) (a2 : Int32) (a3 : Int32) : Option (Int32 × ST) := (if a3 = 0 then f_X9_indexOf_70 S (-1) else f_X9_indexOf_70 S a2)
set_option maxHeartbeats 4000000 in
set_option maxRecDepth 100000 in
theorem b_X9_indexOf_61 {p : Program} {l : Launch} {e : Env} {s : State} {m : MethodId} {args : Array Value} {below : List Frame} {meth : Method} {c : Code} {x : CX} {res : Int32 × ST} (F : MF p m meth c cX9_indexOf 5 s args RX9 (some .int)) : ∀ (H : Heap) (locs : List Loc) (ls : Array Slot) (S : ST), WD x s S H locs → ∀ (a2 : Int32) (a3 : Int32), lv_has ls 5 [(2, .int a2), (3, .int a3)] → f_X9_indexOf_61 S a2 a3 = some res → W p l e ({ frames := 3, cells := 0, slots := 0, locals := 70 } : Room) s m args below meth c H locs 0 0 (MQ below (QI x res.2 res.1 s.heap.size) args s 0 0 (AA x s.heap.size)) (F0 m 61 ls []) := by
  intro H locs ls S w a2 a3 hl hf
  unfold f_X9_indexOf_61 at hf
  refine lv_iload_n F.1 F.2.1 dX9_indexOf_61 rfl (lv_at hl 1 rfl) ?_
  refine lv_if_eq (tgt := 69) F.1 F.2.1 dX9_indexOf_62 (by decide) (fun c1 => ?_) (fun c1 => ?_)
  · replace hf := oi_t hf c1
    refine lv_iconst (v := (-1)) F.1 F.2.1 dX9_indexOf_69 (by decide) ?_
    exact b_X9_indexOf_70 F  _ _ _ _ w (-1) (lv_sub hl [] rfl) hf
  · replace hf := oi_f hf c1
    refine lv_iload_n F.1 F.2.1 dX9_indexOf_65 rfl (lv_at hl 0 rfl) ?_
    refine lv_goto (tgt := 70) F.1 F.2.1 dX9_indexOf_66 (by decide) ?_
    exact b_X9_indexOf_70 F  _ _ _ _ w a2 (lv_sub hl [] rfl) hf
def f_X9_indexOf_25 : Nat → ST → Int32 → Int32 → Int32 → Int32 → Option (Int32 × ST)
  | 0, _, _, _, _, _ => none
  | n + 1, S, a1, a2, a3, a4 => oB (f_X9_modulus S) (fun (r2 : Int32) (S1 : ST) => (if r2 ≤ a4 then f_X9_indexOf_61 S1 a2 a3 else (if a3 = 0 then f_X9_indexOf_61 S1 a2 a3 else oB (f_X9_cyclicPairs S1 a1 a4) (fun (r6 : Int32) (S5 : ST) => (if r6 = a2 then f_X9_indexOf_54 (f_X9_indexOf_25 n) S5 a1 a2 a4 1 else f_X9_indexOf_54 (f_X9_indexOf_25 n) S5 a1 a2 a4 0)))))
set_option maxHeartbeats 4000000 in
set_option maxRecDepth 100000 in
theorem b_X9_indexOf_25 {p : Program} {l : Launch} {e : Env} {s : State} {m : MethodId} {args : Array Value} {below : List Frame} {meth : Method} {c : Code} {x : CX} {res : Int32 × ST} (F : MF p m meth c cX9_indexOf 5 s args RX9 (some .int)) : ∀ (n : Nat), ∀ (H : Heap) (locs : List Loc) (ls : Array Slot) (S : ST), WD x s S H locs → ∀ (a1 : Int32) (a2 : Int32) (a3 : Int32) (a4 : Int32), lv_has ls 5 [(0, .ref (x.2.2 (80))), (1, .int a1), (2, .int a2), (3, .int a3), (4, .int a4)] → f_X9_indexOf_25 n S a1 a2 a3 a4 = some res → W p l e ({ frames := 3, cells := 0, slots := 0, locals := 70 } : Room) s m args below meth c H locs 0 0 (MQ below (QI x res.2 res.1 s.heap.size) args s 0 0 (AA x s.heap.size)) (F0 m 25 ls []) := by
  intro n
  induction n with
  | zero =>
    intro H locs ls S w a1 a2 a3 a4 hl hf
    have hf : (none : Option (Int32 × ST)) = some res := hf
    cases hf
  | succ n ih =>
    intro H locs ls S w a1 a2 a3 a4 hl hf
    unfold f_X9_indexOf_25 at hf
    refine lv_iload F.1 F.2.1 dX9_indexOf_25 (lv_at hl 4 rfl) ?_
    refine lv_aload_n F.1 F.2.1 dX9_indexOf_27 rfl (lv_at hl 0 rfl) ?_
    obtain ⟨r2, S1, hc, hf⟩ := oi_b hf
    refine k_i0 (S' := S1) (r := r2) w (runV (As := []) (rest := [.int a4]) (kb := 80) F w (k_X9_modulus l x S hc H.size) cy_X9_modulus q1024 q1026 qp35 ⟨rfl, rfl⟩ ⟨Nat.le_of_ble_eq_true rfl, Nat.le_of_ble_eq_true rfl⟩ (by decide) rfl rfl rfl rfl hl.1 (Nat.le_of_ble_eq_true rfl) ⟨Nat.le_of_ble_eq_true rfl, Nat.le_of_ble_eq_true rfl⟩ dX9_indexOf_28) (fun H locs w => ?_)
    refine lv_icmp_ge (tgt := 61) F.1 F.2.1 dX9_indexOf_31 (by decide) (fun c3 => ?_) (fun c3 => ?_)
    · replace hf := oi_t hf c3
      exact b_X9_indexOf_61 F  _ _ _ _ w a2 a3 (lv_sub hl [2, 3] rfl) hf
    · replace hf := oi_f hf c3
      refine lv_iload_n F.1 F.2.1 dX9_indexOf_34 rfl (lv_at hl 3 rfl) ?_
      refine lv_if_eq (tgt := 61) F.1 F.2.1 dX9_indexOf_35 (by decide) (fun c4 => ?_) (fun c4 => ?_)
      · replace hf := oi_t hf c4
        exact b_X9_indexOf_61 F  _ _ _ _ w a2 a3 (lv_sub hl [2, 3] rfl) hf
      · replace hf := oi_f hf c4
        refine lv_aload_n F.1 F.2.1 dX9_indexOf_38 rfl (lv_at hl 0 rfl) ?_
        refine lv_iload_n F.1 F.2.1 dX9_indexOf_39 rfl (lv_at hl 1 rfl) ?_
        refine lv_iload F.1 F.2.1 dX9_indexOf_40 (lv_at hl 4 rfl) ?_
        obtain ⟨r6, S5, hc, hf⟩ := oi_b hf
        refine k_i0 (S' := S5) (r := r6) w (runV (As := [.int a1, .int a4]) (rest := []) (kb := 80) F w (k_X9_cyclicPairs l x S1 a1 a4 hc H.size) cy_X9_cyclicPairs q1036 q1038 qp37 ⟨rfl, rfl⟩ ⟨Nat.le_of_ble_eq_true rfl, Nat.le_of_ble_eq_true rfl⟩ (by decide) rfl rfl rfl rfl hl.1 (Nat.le_of_ble_eq_true rfl) ⟨Nat.le_of_ble_eq_true rfl, Nat.le_of_ble_eq_true rfl⟩ dX9_indexOf_42) (fun H locs w => ?_)
        refine lv_iload_n F.1 F.2.1 dX9_indexOf_45 rfl (lv_at hl 2 rfl) ?_
        refine lv_icmp_ne (tgt := 53) F.1 F.2.1 dX9_indexOf_46 (by decide) (fun c7 => ?_) (fun c7 => ?_)
        · replace hf := oi_f hf c7
          refine lv_iconst (v := 0) F.1 F.2.1 dX9_indexOf_53 (by decide) ?_
          exact b_X9_indexOf_54 F (f_X9_indexOf_25 n) ih _ _ _ _ w a1 a2 a4 0 (lv_sub hl [0, 1, 2, 4] rfl) hf
        · replace hf := oi_t hf c7
          refine lv_iconst (v := 1) F.1 F.2.1 dX9_indexOf_49 (by decide) ?_
          refine lv_goto (tgt := 54) F.1 F.2.1 dX9_indexOf_50 (by decide) ?_
          exact b_X9_indexOf_54 F (f_X9_indexOf_25 n) ih _ _ _ _ w a1 a2 a4 1 (lv_sub hl [0, 1, 2, 4] rfl) hf
def f_X9_indexOf_21 (S : ST) (a1 : Int32) (a2 : Int32) (as0 : Int32) : Option (Int32 × ST) := f_X9_indexOf_25 FU S a1 a2 as0 2
set_option maxHeartbeats 4000000 in
set_option maxRecDepth 100000 in
theorem b_X9_indexOf_21 {p : Program} {l : Launch} {e : Env} {s : State} {m : MethodId} {args : Array Value} {below : List Frame} {meth : Method} {c : Code} {x : CX} {res : Int32 × ST} (F : MF p m meth c cX9_indexOf 5 s args RX9 (some .int)) : ∀ (H : Heap) (locs : List Loc) (ls : Array Slot) (S : ST), WD x s S H locs → ∀ (a1 : Int32) (a2 : Int32) (as0 : Int32), lv_has ls 5 [(0, .ref (x.2.2 (80))), (1, .int a1), (2, .int a2)] → f_X9_indexOf_21 S a1 a2 as0 = some res → W p l e ({ frames := 3, cells := 0, slots := 0, locals := 70 } : Room) s m args below meth c H locs 0 0 (MQ below (QI x res.2 res.1 s.heap.size) args s 0 0 (AA x s.heap.size)) (F0 m 21 ls [.int as0]) := by
  intro H locs ls S w a1 a2 as0 hl hf
  unfold f_X9_indexOf_21 at hf
  refine lv_istore_n (lv' := [(3, .int as0), (0, .ref (x.2.2 (80))), (1, .int a1), (2, .int a2)]) F.1 F.2.1 dX9_indexOf_21 rfl hl (by decide) rfl (fun ls hl => ?_)
  refine lv_iconst (v := 2) F.1 F.2.1 dX9_indexOf_22 (by decide) ?_
  refine lv_istore (lv' := [(4, .int 2), (3, .int as0), (0, .ref (x.2.2 (80))), (1, .int a1), (2, .int a2)]) F.1 F.2.1 dX9_indexOf_23 hl (by decide) rfl (fun ls hl => ?_)
  exact b_X9_indexOf_25 F FU _ _ _ _ w a1 a2 as0 2 (lv_sub hl [2, 3, 4, 1, 0] rfl) hf
def f_X9_indexOf_0 (S : ST) (a1 : Int32) : Option (Int32 × ST) := oB (f_X9_cyclicPairs S a1 1) (fun (r2 : Int32) (S1 : ST) => oB (f_X9_many S1 a1) (fun (r4 : Int32) (S3 : ST) => (if r4 ≤ 1 then f_X9_indexOf_21 S3 a1 r2 0 else f_X9_indexOf_21 S3 a1 r2 1)))
set_option maxHeartbeats 4000000 in
set_option maxRecDepth 100000 in
theorem b_X9_indexOf_0 {p : Program} {l : Launch} {e : Env} {s : State} {m : MethodId} {args : Array Value} {below : List Frame} {meth : Method} {c : Code} {x : CX} {res : Int32 × ST} (F : MF p m meth c cX9_indexOf 5 s args RX9 (some .int)) : ∀ (H : Heap) (locs : List Loc) (ls : Array Slot) (S : ST), WD x s S H locs → ∀ (a1 : Int32), lv_has ls 5 [(0, .ref (x.2.2 (80))), (1, .int a1)] → f_X9_indexOf_0 S a1 = some res → W p l e ({ frames := 3, cells := 0, slots := 0, locals := 70 } : Room) s m args below meth c H locs 0 0 (MQ below (QI x res.2 res.1 s.heap.size) args s 0 0 (AA x s.heap.size)) (F0 m 0 ls []) := by
  intro H locs ls S w a1 hl hf
  unfold f_X9_indexOf_0 at hf
  refine lv_aload_n F.1 F.2.1 dX9_indexOf_0 rfl (lv_at hl 0 rfl) ?_
  refine lv_iload_n F.1 F.2.1 dX9_indexOf_1 rfl (lv_at hl 1 rfl) ?_
  refine lv_iconst (v := 1) F.1 F.2.1 dX9_indexOf_2 (by decide) ?_
  obtain ⟨r2, S1, hc, hf⟩ := oi_b hf
  refine k_i0 (S' := S1) (r := r2) w (runV (As := [.int a1, .int 1]) (rest := []) (kb := 80) F w (k_X9_cyclicPairs l x S a1 1 hc H.size) cy_X9_cyclicPairs q1036 q1038 qp37 ⟨rfl, rfl⟩ ⟨Nat.le_of_ble_eq_true rfl, Nat.le_of_ble_eq_true rfl⟩ (by decide) rfl rfl rfl rfl hl.1 (Nat.le_of_ble_eq_true rfl) ⟨Nat.le_of_ble_eq_true rfl, Nat.le_of_ble_eq_true rfl⟩ dX9_indexOf_3) (fun H locs w => ?_)
  refine lv_istore_n (lv' := [(2, .int r2), (0, .ref (x.2.2 (80))), (1, .int a1)]) F.1 F.2.1 dX9_indexOf_6 rfl hl (by decide) rfl (fun ls hl => ?_)
  refine lv_aload_n F.1 F.2.1 dX9_indexOf_7 rfl (lv_at hl 1 rfl) ?_
  refine lv_iload_n F.1 F.2.1 dX9_indexOf_8 rfl (lv_at hl 2 rfl) ?_
  obtain ⟨r4, S3, hc, hf⟩ := oi_b hf
  refine k_i0 (S' := S3) (r := r4) w (runV (As := [.int a1]) (rest := []) (kb := 80) F w (k_X9_many l x S1 a1 hc H.size) cy_X9_many q920 q922 qp21 ⟨rfl, rfl⟩ ⟨Nat.le_of_ble_eq_true rfl, Nat.le_of_ble_eq_true rfl⟩ (by decide) rfl rfl rfl rfl hl.1 (Nat.le_of_ble_eq_true rfl) ⟨Nat.le_of_ble_eq_true rfl, Nat.le_of_ble_eq_true rfl⟩ dX9_indexOf_9) (fun H locs w => ?_)
  refine lv_iconst (v := 1) F.1 F.2.1 dX9_indexOf_12 (by decide) ?_
  refine lv_icmp_le (tgt := 20) F.1 F.2.1 dX9_indexOf_13 (by decide) (fun c5 => ?_) (fun c5 => ?_)
  · replace hf := oi_t hf c5
    refine lv_iconst (v := 0) F.1 F.2.1 dX9_indexOf_20 (by decide) ?_
    exact b_X9_indexOf_21 F  _ _ _ _ w a1 r2 0 (lv_sub hl [1, 2, 0] rfl) hf
  · replace hf := oi_f hf c5
    refine lv_iconst (v := 1) F.1 F.2.1 dX9_indexOf_16 (by decide) ?_
    refine lv_goto (tgt := 21) F.1 F.2.1 dX9_indexOf_17 (by decide) ?_
    exact b_X9_indexOf_21 F  _ _ _ _ w a1 r2 1 (lv_sub hl [1, 2, 0] rfl) hf
def f_X9_indexOf (S : ST) (a1 : Int32) : Option (Int32 × ST) := f_X9_indexOf_0 S a1
set_option maxHeartbeats 4000000 in
set_option maxRecDepth 100000 in
theorem k_X9_indexOf (l : Launch) (x : CX) (S : ST) (a1 : Int32) {res : Int32 × ST} (hf : f_X9_indexOf S a1 = some res) (sz : Nat) : Met l yX9_indexOf (Cond.code yX9_indexOf cX9_indexOf 5 (some .int) :: GW) ({ frames := 3, cells := 0, slots := 0, locals := 70 } : Room) (PC x S sz [.ref (x.2.2 (80)), .int a1]) (QI x res.2 res.1 sz) 0 0 (AA x sz) := by
  refine Met.ofW (cc := cX9_indexOf) (maxL := 5) (ret := (some .int)) (by decide) rfl ?_
  intro p e s m args below meth c s₁ B hml hv
  obtain ⟨rfl, rfl, hPW⟩ := hv
  have F : MF p m meth c cX9_indexOf 5 s _ RX9 (some .int) := MF.of B hml
  have w := WD.of hPW
  have hl := lv_entry ([.ref (x.2.2 (80)), .int a1]) (n := 5) (Nat.le_of_ble_eq_true rfl)
  rw [lg_entry_eq]
  generalize (lg_sl ([.ref (x.2.2 (80)), .int a1]) ++ List.replicate (5 - (lg_sl ([.ref (x.2.2 (80)), .int a1])).length) Slot.unset).toArray = ls at hl ⊢
  have hl : lv_has ls 5 [(0, .ref (x.2.2 (80))), (1, .int a1)] := hl
  unfold f_X9_indexOf at hf
  exact b_X9_indexOf_0 F  _ _ _ _ w a1 (lv_sub hl [0, 1] rfl) hf
theorem cy_X9_index : CY yX9_index RX9 cX9_index 2 (some .int) 1 := ⟨q10, q1055, rfl, by decide, by decide, by decide +kernel⟩
def f_X9_index_21 (S : ST) (as0 : Int32) : Option (Int32 × ST) := some (as0, S)
set_option maxHeartbeats 4000000 in
set_option maxRecDepth 100000 in
theorem b_X9_index_21 {p : Program} {l : Launch} {e : Env} {s : State} {m : MethodId} {args : Array Value} {below : List Frame} {meth : Method} {c : Code} {x : CX} {res : Int32 × ST} (F : MF p m meth c cX9_index 2 s args RX9 (some .int)) : ∀ (H : Heap) (locs : List Loc) (ls : Array Slot) (S : ST), WD x s S H locs → ∀ (as0 : Int32), lv_has ls 2 [] → f_X9_index_21 S as0 = some res → W p l e ({ frames := 4, cells := 0, slots := 0, locals := 94 } : Room) s m args below meth c H locs 0 0 (MQ below (QI x res.2 res.1 s.heap.size) args s 0 0 (AA x s.heap.size)) (F0 m 21 ls [.int as0]) := by
  intro H locs ls S w as0 hl hf
  unfold f_X9_index_21 at hf
  exact r_iret F w (oi_s hf) dX9_index_21
def f_X9_index_0 (S : ST) (a1 : Int32) : Option (Int32 × ST) := oB (f_X9_bar S a1) (fun (r2 : Int32) (S1 : ST) => oB (f_X9_refused S1 r2) (fun (r4 : Int32) (S3 : ST) => (if r4 = 0 then oB (f_X9_indexOf S3 a1) (fun (r7 : Int32) (S6 : ST) => f_X9_index_21 S6 r7) else f_X9_index_21 S3 0)))
set_option maxHeartbeats 4000000 in
set_option maxRecDepth 100000 in
theorem b_X9_index_0 {p : Program} {l : Launch} {e : Env} {s : State} {m : MethodId} {args : Array Value} {below : List Frame} {meth : Method} {c : Code} {x : CX} {res : Int32 × ST} (F : MF p m meth c cX9_index 2 s args RX9 (some .int)) : ∀ (H : Heap) (locs : List Loc) (ls : Array Slot) (S : ST), WD x s S H locs → ∀ (a1 : Int32), lv_has ls 2 [(0, .ref (x.2.2 (80))), (1, .int a1)] → f_X9_index_0 S a1 = some res → W p l e ({ frames := 4, cells := 0, slots := 0, locals := 94 } : Room) s m args below meth c H locs 0 0 (MQ below (QI x res.2 res.1 s.heap.size) args s 0 0 (AA x s.heap.size)) (F0 m 0 ls []) := by
  intro H locs ls S w a1 hl hf
  unfold f_X9_index_0 at hf
  refine lv_aload_n F.1 F.2.1 dX9_index_0 rfl (lv_at hl 0 rfl) ?_
  refine lv_aload_n F.1 F.2.1 dX9_index_1 rfl (lv_at hl 0 rfl) ?_
  refine lv_iload_n F.1 F.2.1 dX9_index_2 rfl (lv_at hl 1 rfl) ?_
  obtain ⟨r2, S1, hc, hf⟩ := oi_b hf
  refine k_i0 (S' := S1) (r := r2) w (runV (As := [.int a1]) (rest := [.ref (x.2.2 (80))]) (kb := 80) F w (k_X9_bar l x S a1 hc H.size) cy_X9_bar q1048 q1050 qp39 ⟨rfl, rfl⟩ ⟨Nat.le_of_ble_eq_true rfl, Nat.le_of_ble_eq_true rfl⟩ (by decide) rfl rfl rfl rfl hl.1 (Nat.le_of_ble_eq_true rfl) ⟨Nat.le_of_ble_eq_true rfl, Nat.le_of_ble_eq_true rfl⟩ dX9_index_3) (fun H locs w => ?_)
  obtain ⟨r4, S3, hc, hf⟩ := oi_b hf
  refine k_i0 (S' := S3) (r := r4) w (runV (As := [.int r2]) (rest := []) (kb := 80) F w (k_X9_refused l x S1 r2 hc H.size) cy_X9_refused q902 q904 qp19 ⟨rfl, rfl⟩ ⟨Nat.le_of_ble_eq_true rfl, Nat.le_of_ble_eq_true rfl⟩ (by decide) rfl rfl rfl rfl hl.1 (Nat.le_of_ble_eq_true rfl) ⟨Nat.le_of_ble_eq_true rfl, Nat.le_of_ble_eq_true rfl⟩ dX9_index_6) (fun H locs w => ?_)
  refine lv_if_eq (tgt := 16) F.1 F.2.1 dX9_index_9 (by decide) (fun c5 => ?_) (fun c5 => ?_)
  · replace hf := oi_t hf c5
    refine lv_aload_n F.1 F.2.1 dX9_index_16 rfl (lv_at hl 0 rfl) ?_
    refine lv_iload_n F.1 F.2.1 dX9_index_17 rfl (lv_at hl 1 rfl) ?_
    obtain ⟨r7, S6, hc, hf⟩ := oi_b hf
    refine k_i0 (S' := S6) (r := r7) w (runV (As := [.int a1]) (rest := []) (kb := 80) F w (k_X9_indexOf l x S3 a1 hc H.size) cy_X9_indexOf q1056 q1058 qp40 ⟨rfl, rfl⟩ ⟨Nat.le_of_ble_eq_true rfl, Nat.le_of_ble_eq_true rfl⟩ (by decide) rfl rfl rfl rfl hl.1 (Nat.le_of_ble_eq_true rfl) ⟨Nat.le_of_ble_eq_true rfl, Nat.le_of_ble_eq_true rfl⟩ dX9_index_18) (fun H locs w => ?_)
    exact b_X9_index_21 F  _ _ _ _ w r7 (lv_sub hl [] rfl) hf
  · replace hf := oi_f hf c5
    refine lv_iconst (v := 0) F.1 F.2.1 dX9_index_12 (by decide) ?_
    refine lv_goto (tgt := 21) F.1 F.2.1 dX9_index_13 (by decide) ?_
    exact b_X9_index_21 F  _ _ _ _ w 0 (lv_sub hl [] rfl) hf
def f_X9_index (S : ST) (a1 : Int32) : Option (Int32 × ST) := f_X9_index_0 S a1
set_option maxHeartbeats 4000000 in
set_option maxRecDepth 100000 in
theorem k_X9_index (l : Launch) (x : CX) (S : ST) (a1 : Int32) {res : Int32 × ST} (hf : f_X9_index S a1 = some res) (sz : Nat) : Met l yX9_index (Cond.code yX9_index cX9_index 2 (some .int) :: GW) ({ frames := 4, cells := 0, slots := 0, locals := 94 } : Room) (PC x S sz [.ref (x.2.2 (80)), .int a1]) (QI x res.2 res.1 sz) 0 0 (AA x sz) := by
  refine Met.ofW (cc := cX9_index) (maxL := 2) (ret := (some .int)) (by decide) rfl ?_
  intro p e s m args below meth c s₁ B hml hv
  obtain ⟨rfl, rfl, hPW⟩ := hv
  have F : MF p m meth c cX9_index 2 s _ RX9 (some .int) := MF.of B hml
  have w := WD.of hPW
  have hl := lv_entry ([.ref (x.2.2 (80)), .int a1]) (n := 2) (Nat.le_of_ble_eq_true rfl)
  rw [lg_entry_eq]
  generalize (lg_sl ([.ref (x.2.2 (80)), .int a1]) ++ List.replicate (2 - (lg_sl ([.ref (x.2.2 (80)), .int a1])).length) Slot.unset).toArray = ls at hl ⊢
  have hl : lv_has ls 2 [(0, .ref (x.2.2 (80))), (1, .int a1)] := hl
  unfold f_X9_index at hf
  exact b_X9_index_0 F  _ _ _ _ w a1 (lv_sub hl [0, 1] rfl) hf
theorem cy_X9_map : CY yX9_map RX9 cX9_map 6 (some .int) 4 := ⟨q10, q1063, rfl, by decide, by decide, by decide +kernel⟩
def f_X9_map_78 : Nat → ST → Int32 → Int32 → Int32 → Int32 → Int32 → Option (Int32 × ST)
  | 0, _, _, _, _, _, _ => none
  | n + 1, S, a1, a2, a3, a4, a5 => oB (f_X9_many S a1) (fun (r2 : Int32) (S1 : ST) => (if r2 ≤ a5 then oB (f_X9_becomes S1 a4) (fun (r5 : Int32) (S4 : ST) => some (r5, S4)) else oB (f_X9_markAt S1 a1 a5) (fun (r7 : Int32) (S6 : ST) => oB (f_X9_around S6 ((a2 * r7) + a3)) (fun (r9 : Int32) (S8 : ST) => oV (f_X9_comes S8 r9) (fun (S10 : ST) => oL (a5 + 1) (fun (v11 : Int32) => (f_X9_map_78 n) S10 a1 a2 a3 a4 v11))))))
set_option maxHeartbeats 4000000 in
set_option maxRecDepth 100000 in
theorem b_X9_map_78 {p : Program} {l : Launch} {e : Env} {s : State} {m : MethodId} {args : Array Value} {below : List Frame} {meth : Method} {c : Code} {x : CX} {res : Int32 × ST} (F : MF p m meth c cX9_map 6 s args RX9 (some .int)) : ∀ (n : Nat), ∀ (H : Heap) (locs : List Loc) (ls : Array Slot) (S : ST), WD x s S H locs → ∀ (a1 : Int32) (a2 : Int32) (a3 : Int32) (a4 : Int32) (a5 : Int32), lv_has ls 6 [(0, .ref (x.2.2 (80))), (1, .int a1), (2, .int a2), (3, .int a3), (4, .int a4), (5, .int a5)] → f_X9_map_78 n S a1 a2 a3 a4 a5 = some res → W p l e ({ frames := 2, cells := 0, slots := 0, locals := 43 } : Room) s m args below meth c H locs 0 0 (MQ below (QI x res.2 res.1 s.heap.size) args s 0 0 (AA x s.heap.size)) (F0 m 78 ls []) := by
  intro n
  induction n with
  | zero =>
    intro H locs ls S w a1 a2 a3 a4 a5 hl hf
    have hf : (none : Option (Int32 × ST)) = some res := hf
    cases hf
  | succ n ih =>
    intro H locs ls S w a1 a2 a3 a4 a5 hl hf
    unfold f_X9_map_78 at hf
    refine lv_iload F.1 F.2.1 dX9_map_78 (lv_at hl 5 rfl) ?_
    refine lv_aload_n F.1 F.2.1 dX9_map_80 rfl (lv_at hl 0 rfl) ?_
    refine lv_iload_n F.1 F.2.1 dX9_map_81 rfl (lv_at hl 1 rfl) ?_
    obtain ⟨r2, S1, hc, hf⟩ := oi_b hf
    refine k_i0 (S' := S1) (r := r2) w (runV (As := [.int a1]) (rest := [.int a5]) (kb := 80) F w (k_X9_many l x S a1 hc H.size) cy_X9_many q920 q922 qp21 ⟨rfl, rfl⟩ ⟨Nat.le_of_ble_eq_true rfl, Nat.le_of_ble_eq_true rfl⟩ (by decide) rfl rfl rfl rfl hl.1 (Nat.le_of_ble_eq_true rfl) ⟨Nat.le_of_ble_eq_true rfl, Nat.le_of_ble_eq_true rfl⟩ dX9_map_82) (fun H locs w => ?_)
    refine lv_icmp_ge (tgt := 113) F.1 F.2.1 dX9_map_85 (by decide) (fun c3 => ?_) (fun c3 => ?_)
    · replace hf := oi_t hf c3
      refine lv_aload_n F.1 F.2.1 dX9_map_113 rfl (lv_at hl 0 rfl) ?_
      refine lv_iload F.1 F.2.1 dX9_map_114 (lv_at hl 4 rfl) ?_
      obtain ⟨r5, S4, hc, hf⟩ := oi_b hf
      refine k_i0 (S' := S4) (r := r5) w (runV (As := [.int a4]) (rest := []) (kb := 80) F w (k_X9_becomes l x S1 a4 hc H.size) cy_X9_becomes q944 q946 qp27 ⟨rfl, rfl⟩ ⟨Nat.le_of_ble_eq_true rfl, Nat.le_of_ble_eq_true rfl⟩ (by decide) rfl rfl rfl rfl hl.1 (Nat.le_of_ble_eq_true rfl) ⟨Nat.le_of_ble_eq_true rfl, Nat.le_of_ble_eq_true rfl⟩ dX9_map_116) (fun H locs w => ?_)
      exact r_iret F w (oi_s hf) dX9_map_119
    · replace hf := oi_f hf c3
      refine lv_aload_n F.1 F.2.1 dX9_map_88 rfl (lv_at hl 0 rfl) ?_
      refine lv_aload_n F.1 F.2.1 dX9_map_89 rfl (lv_at hl 0 rfl) ?_
      refine lv_iload_n F.1 F.2.1 dX9_map_90 rfl (lv_at hl 2 rfl) ?_
      refine lv_aload_n F.1 F.2.1 dX9_map_91 rfl (lv_at hl 0 rfl) ?_
      refine lv_iload_n F.1 F.2.1 dX9_map_92 rfl (lv_at hl 1 rfl) ?_
      refine lv_iload F.1 F.2.1 dX9_map_93 (lv_at hl 5 rfl) ?_
      obtain ⟨r7, S6, hc, hf⟩ := oi_b hf
      refine k_i0 (S' := S6) (r := r7) w (runV (As := [.int a1, .int a5]) (rest := [.int a2, .ref (x.2.2 (80)), .ref (x.2.2 (80))]) (kb := 80) F w (k_X9_markAt l x S1 a1 a5 hc H.size) cy_X9_markAt q924 q926 qp22 ⟨rfl, rfl⟩ ⟨Nat.le_of_ble_eq_true rfl, Nat.le_of_ble_eq_true rfl⟩ (by decide) rfl rfl rfl rfl hl.1 (Nat.le_of_ble_eq_true rfl) ⟨Nat.le_of_ble_eq_true rfl, Nat.le_of_ble_eq_true rfl⟩ dX9_map_95) (fun H locs w => ?_)
      refine lv_imul F.1 F.2.1 dX9_map_98 ?_
      refine lv_iload_n F.1 F.2.1 dX9_map_99 rfl (lv_at hl 3 rfl) ?_
      refine lv_iadd F.1 F.2.1 dX9_map_100 ?_
      obtain ⟨r9, S8, hc, hf⟩ := oi_b hf
      refine k_i0 (S' := S8) (r := r9) w (runV (As := [.int ((a2 * r7) + a3)]) (rest := [.ref (x.2.2 (80))]) (kb := 80) F w (k_X9_around l x S6 ((a2 * r7) + a3) hc H.size) cy_X9_around q1040 q1042 qp38 ⟨rfl, rfl⟩ ⟨Nat.le_of_ble_eq_true rfl, Nat.le_of_ble_eq_true rfl⟩ (by decide) rfl rfl rfl rfl hl.1 (Nat.le_of_ble_eq_true rfl) ⟨Nat.le_of_ble_eq_true rfl, Nat.le_of_ble_eq_true rfl⟩ dX9_map_101) (fun H locs w => ?_)
      obtain ⟨S10, hc, hf⟩ := oi_v hf
      refine k_v0 (S' := S10) w (runV (As := [.int r9]) (rest := []) (kb := 80) F w (k_X9_comes l x S8 r9 hc H.size) cy_X9_comes q940 q942 qp26 ⟨rfl, rfl⟩ ⟨Nat.le_of_ble_eq_true rfl, Nat.le_of_ble_eq_true rfl⟩ (by decide) rfl rfl rfl rfl hl.1 (Nat.le_of_ble_eq_true rfl) ⟨Nat.le_of_ble_eq_true rfl, Nat.le_of_ble_eq_true rfl⟩ dX9_map_104) (fun H locs w => ?_)
      obtain ⟨v11, e_v11⟩ : ∃ y : Int32, y = (a5 + 1) := ⟨_, rfl⟩
      replace hf := oi_l hf e_v11
      refine lv_iinc (v := v11) (lv' := [(5, .int v11), (0, .ref (x.2.2 (80))), (1, .int a1), (2, .int a2), (3, .int a3), (4, .int a4)]) F.1 F.2.1 dX9_map_107 hl (k := 5) rfl (by rw [e_v11]; rfl) (by decide) rfl (fun ls hl => ?_)
      refine lv_goto (tgt := 78) F.1 F.2.1 dX9_map_110 (by decide) ?_
      exact ih _ _ _ _ w a1 a2 a3 a4 v11 (lv_sub hl [1, 2, 3, 4, 5, 0] rfl) hf
def f_X9_map_59 (S : ST) (a1 : Int32) (a2 : Int32) (a3 : Int32) (a4 : Int32) (as0 : Int32) : Option (Int32 × ST) := oB (f_X9_refused S as0) (fun (r2 : Int32) (S1 : ST) => (if r2 = 0 then oV (f_X9_saves S1) (fun (S4 : ST) => oV (f_X9_begins S4) (fun (S5 : ST) => f_X9_map_78 FU S5 a1 a2 a3 a4 0)) else some (0, S1)))
set_option maxHeartbeats 4000000 in
set_option maxRecDepth 100000 in
theorem b_X9_map_59 {p : Program} {l : Launch} {e : Env} {s : State} {m : MethodId} {args : Array Value} {below : List Frame} {meth : Method} {c : Code} {x : CX} {res : Int32 × ST} (F : MF p m meth c cX9_map 6 s args RX9 (some .int)) : ∀ (H : Heap) (locs : List Loc) (ls : Array Slot) (S : ST), WD x s S H locs → ∀ (a1 : Int32) (a2 : Int32) (a3 : Int32) (a4 : Int32) (as0 : Int32), lv_has ls 6 [(0, .ref (x.2.2 (80))), (1, .int a1), (2, .int a2), (3, .int a3), (4, .int a4)] → f_X9_map_59 S a1 a2 a3 a4 as0 = some res → W p l e ({ frames := 2, cells := 0, slots := 0, locals := 43 } : Room) s m args below meth c H locs 0 0 (MQ below (QI x res.2 res.1 s.heap.size) args s 0 0 (AA x s.heap.size)) (F0 m 59 ls [.int as0, .ref (x.2.2 (80))]) := by
  intro H locs ls S w a1 a2 a3 a4 as0 hl hf
  unfold f_X9_map_59 at hf
  obtain ⟨r2, S1, hc, hf⟩ := oi_b hf
  refine k_i0 (S' := S1) (r := r2) w (runV (As := [.int as0]) (rest := []) (kb := 80) F w (k_X9_refused l x S as0 hc H.size) cy_X9_refused q902 q904 qp19 ⟨rfl, rfl⟩ ⟨Nat.le_of_ble_eq_true rfl, Nat.le_of_ble_eq_true rfl⟩ (by decide) rfl rfl rfl rfl hl.1 (Nat.le_of_ble_eq_true rfl) ⟨Nat.le_of_ble_eq_true rfl, Nat.le_of_ble_eq_true rfl⟩ dX9_map_59) (fun H locs w => ?_)
  refine lv_if_eq (tgt := 67) F.1 F.2.1 dX9_map_62 (by decide) (fun c3 => ?_) (fun c3 => ?_)
  · replace hf := oi_t hf c3
    refine lv_aload_n F.1 F.2.1 dX9_map_67 rfl (lv_at hl 0 rfl) ?_
    obtain ⟨S4, hc, hf⟩ := oi_v hf
    refine k_v0 (S' := S4) w (runV (As := []) (rest := []) (kb := 80) F w (k_X9_saves l x S1 hc H.size) cy_X9_saves q928 q930 qp23 ⟨rfl, rfl⟩ ⟨Nat.le_of_ble_eq_true rfl, Nat.le_of_ble_eq_true rfl⟩ (by decide) rfl rfl rfl rfl hl.1 (Nat.le_of_ble_eq_true rfl) ⟨Nat.le_of_ble_eq_true rfl, Nat.le_of_ble_eq_true rfl⟩ dX9_map_68) (fun H locs w => ?_)
    refine lv_aload_n F.1 F.2.1 dX9_map_71 rfl (lv_at hl 0 rfl) ?_
    obtain ⟨S5, hc, hf⟩ := oi_v hf
    refine k_v0 (S' := S5) w (runV (As := []) (rest := []) (kb := 80) F w (k_X9_begins l x S4 hc H.size) cy_X9_begins q936 q938 qp25 ⟨rfl, rfl⟩ ⟨Nat.le_of_ble_eq_true rfl, Nat.le_of_ble_eq_true rfl⟩ (by decide) rfl rfl rfl rfl hl.1 (Nat.le_of_ble_eq_true rfl) ⟨Nat.le_of_ble_eq_true rfl, Nat.le_of_ble_eq_true rfl⟩ dX9_map_72) (fun H locs w => ?_)
    refine lv_iconst (v := 0) F.1 F.2.1 dX9_map_75 (by decide) ?_
    refine lv_istore (lv' := [(5, .int 0), (0, .ref (x.2.2 (80))), (1, .int a1), (2, .int a2), (3, .int a3), (4, .int a4)]) F.1 F.2.1 dX9_map_76 hl (by decide) rfl (fun ls hl => ?_)
    exact b_X9_map_78 F FU _ _ _ _ w a1 a2 a3 a4 0 (lv_sub hl [1, 2, 3, 4, 5, 0] rfl) hf
  · replace hf := oi_f hf c3
    refine lv_iconst (v := 0) F.1 F.2.1 dX9_map_65 (by decide) ?_
    exact r_iret F w (oi_s hf) dX9_map_66
def f_X9_map_16 (S : ST) (a1 : Int32) (a2 : Int32) (a3 : Int32) (a4 : Int32) : Option (Int32 × ST) := f_X9_map_59 S a1 a2 a3 a4 1
set_option maxHeartbeats 4000000 in
set_option maxRecDepth 100000 in
theorem b_X9_map_16 {p : Program} {l : Launch} {e : Env} {s : State} {m : MethodId} {args : Array Value} {below : List Frame} {meth : Method} {c : Code} {x : CX} {res : Int32 × ST} (F : MF p m meth c cX9_map 6 s args RX9 (some .int)) : ∀ (H : Heap) (locs : List Loc) (ls : Array Slot) (S : ST), WD x s S H locs → ∀ (a1 : Int32) (a2 : Int32) (a3 : Int32) (a4 : Int32), lv_has ls 6 [(0, .ref (x.2.2 (80))), (1, .int a1), (2, .int a2), (3, .int a3), (4, .int a4)] → f_X9_map_16 S a1 a2 a3 a4 = some res → W p l e ({ frames := 2, cells := 0, slots := 0, locals := 43 } : Room) s m args below meth c H locs 0 0 (MQ below (QI x res.2 res.1 s.heap.size) args s 0 0 (AA x s.heap.size)) (F0 m 16 ls [.ref (x.2.2 (80))]) := by
  intro H locs ls S w a1 a2 a3 a4 hl hf
  unfold f_X9_map_16 at hf
  refine lv_iconst (v := 1) F.1 F.2.1 dX9_map_16 (by decide) ?_
  refine lv_goto (tgt := 59) F.1 F.2.1 dX9_map_17 (by decide) ?_
  exact b_X9_map_59 F  _ _ _ _ w a1 a2 a3 a4 1 (lv_sub hl [0, 1, 2, 3, 4] rfl) hf
def f_X9_map_42 (S : ST) (a1 : Int32) (a2 : Int32) (a3 : Int32) (a4 : Int32) : Option (Int32 × ST) := f_X9_map_59 S a1 a2 a3 a4 2
set_option maxHeartbeats 4000000 in
set_option maxRecDepth 100000 in
theorem b_X9_map_42 {p : Program} {l : Launch} {e : Env} {s : State} {m : MethodId} {args : Array Value} {below : List Frame} {meth : Method} {c : Code} {x : CX} {res : Int32 × ST} (F : MF p m meth c cX9_map 6 s args RX9 (some .int)) : ∀ (H : Heap) (locs : List Loc) (ls : Array Slot) (S : ST), WD x s S H locs → ∀ (a1 : Int32) (a2 : Int32) (a3 : Int32) (a4 : Int32), lv_has ls 6 [(0, .ref (x.2.2 (80))), (1, .int a1), (2, .int a2), (3, .int a3), (4, .int a4)] → f_X9_map_42 S a1 a2 a3 a4 = some res → W p l e ({ frames := 2, cells := 0, slots := 0, locals := 43 } : Room) s m args below meth c H locs 0 0 (MQ below (QI x res.2 res.1 s.heap.size) args s 0 0 (AA x s.heap.size)) (F0 m 42 ls [.ref (x.2.2 (80))]) := by
  intro H locs ls S w a1 a2 a3 a4 hl hf
  unfold f_X9_map_42 at hf
  refine lv_iconst (v := 2) F.1 F.2.1 dX9_map_42 (by decide) ?_
  refine lv_goto (tgt := 59) F.1 F.2.1 dX9_map_43 (by decide) ?_
  exact b_X9_map_59 F  _ _ _ _ w a1 a2 a3 a4 2 (lv_sub hl [0, 1, 2, 3, 4] rfl) hf
def f_X9_map_0 (S : ST) (a1 : Int32) (a2 : Int32) (a3 : Int32) (a4 : Int32) : Option (Int32 × ST) := oB (f_X9_isSet S a1) (fun (r2 : Int32) (S1 : ST) => (if r2 = 0 then f_X9_map_16 S1 a1 a2 a3 a4 else oB (f_X9_isSet S1 a4) (fun (r5 : Int32) (S4 : ST) => (if r5 = 0 then f_X9_map_16 S4 a1 a2 a3 a4 else oB (f_X9_within S4 a2 0 1000) (fun (r8 : Int32) (S7 : ST) => (if r8 = 0 then f_X9_map_42 S7 a1 a2 a3 a4 else oB (f_X9_within S7 a3 0 1000) (fun (r11 : Int32) (S10 : ST) => (if r11 = 0 then f_X9_map_42 S10 a1 a2 a3 a4 else oB (f_X9_isLow S10 a1) (fun (r14 : Int32) (S13 : ST) => (if r14 = 0 then f_X9_map_59 S13 a1 a2 a3 a4 3 else f_X9_map_59 S13 a1 a2 a3 a4 0))))))))))
set_option maxHeartbeats 4000000 in
set_option maxRecDepth 100000 in
theorem b_X9_map_0 {p : Program} {l : Launch} {e : Env} {s : State} {m : MethodId} {args : Array Value} {below : List Frame} {meth : Method} {c : Code} {x : CX} {res : Int32 × ST} (F : MF p m meth c cX9_map 6 s args RX9 (some .int)) : ∀ (H : Heap) (locs : List Loc) (ls : Array Slot) (S : ST), WD x s S H locs → ∀ (a1 : Int32) (a2 : Int32) (a3 : Int32) (a4 : Int32), lv_has ls 6 [(0, .ref (x.2.2 (80))), (1, .int a1), (2, .int a2), (3, .int a3), (4, .int a4)] → f_X9_map_0 S a1 a2 a3 a4 = some res → W p l e ({ frames := 2, cells := 0, slots := 0, locals := 43 } : Room) s m args below meth c H locs 0 0 (MQ below (QI x res.2 res.1 s.heap.size) args s 0 0 (AA x s.heap.size)) (F0 m 0 ls []) := by
  intro H locs ls S w a1 a2 a3 a4 hl hf
  unfold f_X9_map_0 at hf
  refine lv_aload_n F.1 F.2.1 dX9_map_0 rfl (lv_at hl 0 rfl) ?_
  refine lv_iload_n F.1 F.2.1 dX9_map_1 rfl (lv_at hl 1 rfl) ?_
  obtain ⟨r2, S1, hc, hf⟩ := oi_b hf
  refine k_i0 (S' := S1) (r := r2) w (runS (As := [.int a1]) (rest := [.ref (x.2.2 (80))]) F w (k_X9_isSet l x S a1 hc H.size) cy_X9_isSet q910 q911 ⟨rfl, rfl⟩ ⟨Nat.le_of_ble_eq_true rfl, Nat.le_of_ble_eq_true rfl⟩ rfl rfl hl.1 (Nat.le_of_ble_eq_true rfl) ⟨Nat.le_of_ble_eq_true rfl, Nat.le_of_ble_eq_true rfl⟩ dX9_map_2) (fun H locs w => ?_)
  refine lv_if_eq (tgt := 16) F.1 F.2.1 dX9_map_5 (by decide) (fun c3 => ?_) (fun c3 => ?_)
  · replace hf := oi_t hf c3
    exact b_X9_map_16 F  _ _ _ _ w a1 a2 a3 a4 (lv_sub hl [0, 1, 2, 3, 4] rfl) hf
  · replace hf := oi_f hf c3
    refine lv_iload F.1 F.2.1 dX9_map_8 (lv_at hl 4 rfl) ?_
    obtain ⟨r5, S4, hc, hf⟩ := oi_b hf
    refine k_i0 (S' := S4) (r := r5) w (runS (As := [.int a4]) (rest := [.ref (x.2.2 (80))]) F w (k_X9_isSet l x S1 a4 hc H.size) cy_X9_isSet q910 q911 ⟨rfl, rfl⟩ ⟨Nat.le_of_ble_eq_true rfl, Nat.le_of_ble_eq_true rfl⟩ rfl rfl hl.1 (Nat.le_of_ble_eq_true rfl) ⟨Nat.le_of_ble_eq_true rfl, Nat.le_of_ble_eq_true rfl⟩ dX9_map_10) (fun H locs w => ?_)
    refine lv_if_ne (tgt := 20) F.1 F.2.1 dX9_map_13 (by decide) (fun c6 => ?_) (fun c6 => ?_)
    · replace hf := oi_f hf c6
      refine lv_iload_n F.1 F.2.1 dX9_map_20 rfl (lv_at hl 2 rfl) ?_
      refine lv_iconst (v := 0) F.1 F.2.1 dX9_map_21 (by decide) ?_
      refine lv_sipush (v := 1000) F.1 F.2.1 dX9_map_22 (by decide) ?_
      obtain ⟨r8, S7, hc, hf⟩ := oi_b hf
      refine k_i0 (S' := S7) (r := r8) w (runS (As := [.int a2, .int 0, .int 1000]) (rest := [.ref (x.2.2 (80))]) F w (k_X9_within l x S4 a2 0 1000 hc H.size) cy_X9_within q913 q914 ⟨rfl, rfl⟩ ⟨Nat.le_of_ble_eq_true rfl, Nat.le_of_ble_eq_true rfl⟩ rfl rfl hl.1 (Nat.le_of_ble_eq_true rfl) ⟨Nat.le_of_ble_eq_true rfl, Nat.le_of_ble_eq_true rfl⟩ dX9_map_25) (fun H locs w => ?_)
      refine lv_if_eq (tgt := 42) F.1 F.2.1 dX9_map_28 (by decide) (fun c9 => ?_) (fun c9 => ?_)
      · replace hf := oi_t hf c9
        exact b_X9_map_42 F  _ _ _ _ w a1 a2 a3 a4 (lv_sub hl [0, 1, 2, 3, 4] rfl) hf
      · replace hf := oi_f hf c9
        refine lv_iload_n F.1 F.2.1 dX9_map_31 rfl (lv_at hl 3 rfl) ?_
        refine lv_iconst (v := 0) F.1 F.2.1 dX9_map_32 (by decide) ?_
        refine lv_sipush (v := 1000) F.1 F.2.1 dX9_map_33 (by decide) ?_
        obtain ⟨r11, S10, hc, hf⟩ := oi_b hf
        refine k_i0 (S' := S10) (r := r11) w (runS (As := [.int a3, .int 0, .int 1000]) (rest := [.ref (x.2.2 (80))]) F w (k_X9_within l x S7 a3 0 1000 hc H.size) cy_X9_within q913 q914 ⟨rfl, rfl⟩ ⟨Nat.le_of_ble_eq_true rfl, Nat.le_of_ble_eq_true rfl⟩ rfl rfl hl.1 (Nat.le_of_ble_eq_true rfl) ⟨Nat.le_of_ble_eq_true rfl, Nat.le_of_ble_eq_true rfl⟩ dX9_map_36) (fun H locs w => ?_)
        refine lv_if_ne (tgt := 46) F.1 F.2.1 dX9_map_39 (by decide) (fun c12 => ?_) (fun c12 => ?_)
        · replace hf := oi_f hf c12
          refine lv_aload_n F.1 F.2.1 dX9_map_46 rfl (lv_at hl 0 rfl) ?_
          refine lv_iload_n F.1 F.2.1 dX9_map_47 rfl (lv_at hl 1 rfl) ?_
          obtain ⟨r14, S13, hc, hf⟩ := oi_b hf
          refine k_i0 (S' := S13) (r := r14) w (runV (As := [.int a1]) (rest := [.ref (x.2.2 (80))]) (kb := 80) F w (k_X9_isLow l x S10 a1 hc H.size) cy_X9_isLow q1032 q1034 qp36 ⟨rfl, rfl⟩ ⟨Nat.le_of_ble_eq_true rfl, Nat.le_of_ble_eq_true rfl⟩ (by decide) rfl rfl rfl rfl hl.1 (Nat.le_of_ble_eq_true rfl) ⟨Nat.le_of_ble_eq_true rfl, Nat.le_of_ble_eq_true rfl⟩ dX9_map_48) (fun H locs w => ?_)
          refine lv_if_eq (tgt := 58) F.1 F.2.1 dX9_map_51 (by decide) (fun c15 => ?_) (fun c15 => ?_)
          · replace hf := oi_t hf c15
            refine lv_iconst (v := 3) F.1 F.2.1 dX9_map_58 (by decide) ?_
            exact b_X9_map_59 F  _ _ _ _ w a1 a2 a3 a4 3 (lv_sub hl [0, 1, 2, 3, 4] rfl) hf
          · replace hf := oi_f hf c15
            refine lv_iconst (v := 0) F.1 F.2.1 dX9_map_54 (by decide) ?_
            refine lv_goto (tgt := 59) F.1 F.2.1 dX9_map_55 (by decide) ?_
            exact b_X9_map_59 F  _ _ _ _ w a1 a2 a3 a4 0 (lv_sub hl [0, 1, 2, 3, 4] rfl) hf
        · replace hf := oi_t hf c12
          exact b_X9_map_42 F  _ _ _ _ w a1 a2 a3 a4 (lv_sub hl [0, 1, 2, 3, 4] rfl) hf
    · replace hf := oi_t hf c6
      exact b_X9_map_16 F  _ _ _ _ w a1 a2 a3 a4 (lv_sub hl [0, 1, 2, 3, 4] rfl) hf
def f_X9_map (S : ST) (a1 : Int32) (a2 : Int32) (a3 : Int32) (a4 : Int32) : Option (Int32 × ST) := f_X9_map_0 S a1 a2 a3 a4
set_option maxHeartbeats 4000000 in
set_option maxRecDepth 100000 in
theorem k_X9_map (l : Launch) (x : CX) (S : ST) (a1 : Int32) (a2 : Int32) (a3 : Int32) (a4 : Int32) {res : Int32 × ST} (hf : f_X9_map S a1 a2 a3 a4 = some res) (sz : Nat) : Met l yX9_map (Cond.code yX9_map cX9_map 6 (some .int) :: GW) ({ frames := 2, cells := 0, slots := 0, locals := 43 } : Room) (PC x S sz [.ref (x.2.2 (80)), .int a1, .int a2, .int a3, .int a4]) (QI x res.2 res.1 sz) 0 0 (AA x sz) := by
  refine Met.ofW (cc := cX9_map) (maxL := 6) (ret := (some .int)) (by decide) rfl ?_
  intro p e s m args below meth c s₁ B hml hv
  obtain ⟨rfl, rfl, hPW⟩ := hv
  have F : MF p m meth c cX9_map 6 s _ RX9 (some .int) := MF.of B hml
  have w := WD.of hPW
  have hl := lv_entry ([.ref (x.2.2 (80)), .int a1, .int a2, .int a3, .int a4]) (n := 6) (Nat.le_of_ble_eq_true rfl)
  rw [lg_entry_eq]
  generalize (lg_sl ([.ref (x.2.2 (80)), .int a1, .int a2, .int a3, .int a4]) ++ List.replicate (6 - (lg_sl ([.ref (x.2.2 (80)), .int a1, .int a2, .int a3, .int a4])).length) Slot.unset).toArray = ls at hl ⊢
  have hl : lv_has ls 6 [(0, .ref (x.2.2 (80))), (1, .int a1), (2, .int a2), (3, .int a3), (4, .int a4)] := hl
  unfold f_X9_map at hf
  exact b_X9_map_0 F  _ _ _ _ w a1 a2 a3 a4 (lv_sub hl [0, 1, 2, 3, 4] rfl) hf
theorem cy_X9_complement : CY yX9_complement RX9 cX9_complement 4 (some .int) 2 := ⟨q10, q1067, rfl, by decide, by decide, by decide +kernel⟩
def f_X9_complement_88 (k65 : ST → Int32 → Int32 → Int32 → Option (Int32 × ST)) (S : ST) (a1 : Int32) (a2 : Int32) (a3 : Int32) : Option (Int32 × ST) := oL (a3 + 1) (fun (v1 : Int32) => k65 S a1 a2 v1)
set_option maxHeartbeats 4000000 in
set_option maxRecDepth 100000 in
theorem b_X9_complement_88 {p : Program} {l : Launch} {e : Env} {s : State} {m : MethodId} {args : Array Value} {below : List Frame} {meth : Method} {c : Code} {x : CX} {res : Int32 × ST} (F : MF p m meth c cX9_complement 4 s args RX9 (some .int)) (k65 : ST → Int32 → Int32 → Int32 → Option (Int32 × ST)) (hk65 : ∀ (H : Heap) (locs : List Loc) (ls : Array Slot) (S : ST), WD x s S H locs → ∀ (a1 : Int32) (a2 : Int32) (a3 : Int32), lv_has ls 4 [(0, .ref (x.2.2 (80))), (1, .int a1), (2, .int a2), (3, .int a3)] → k65 S a1 a2 a3 = some res → W p l e ({ frames := 2, cells := 0, slots := 0, locals := 46 } : Room) s m args below meth c H locs 0 0 (MQ below (QI x res.2 res.1 s.heap.size) args s 0 0 (AA x s.heap.size)) (F0 m 65 ls [])) : ∀ (H : Heap) (locs : List Loc) (ls : Array Slot) (S : ST), WD x s S H locs → ∀ (a1 : Int32) (a2 : Int32) (a3 : Int32), lv_has ls 4 [(0, .ref (x.2.2 (80))), (1, .int a1), (2, .int a2), (3, .int a3)] → f_X9_complement_88 k65 S a1 a2 a3 = some res → W p l e ({ frames := 2, cells := 0, slots := 0, locals := 46 } : Room) s m args below meth c H locs 0 0 (MQ below (QI x res.2 res.1 s.heap.size) args s 0 0 (AA x s.heap.size)) (F0 m 88 ls []) := by
  intro H locs ls S w a1 a2 a3 hl hf
  unfold f_X9_complement_88 at hf
  obtain ⟨v1, e_v1⟩ : ∃ y : Int32, y = (a3 + 1) := ⟨_, rfl⟩
  replace hf := oi_l hf e_v1
  refine lv_iinc (v := v1) (lv' := [(3, .int v1), (0, .ref (x.2.2 (80))), (1, .int a1), (2, .int a2)]) F.1 F.2.1 dX9_complement_88 hl (k := 3) rfl (by rw [e_v1]; rfl) (by decide) rfl (fun ls hl => ?_)
  refine lv_goto (tgt := 65) F.1 F.2.1 dX9_complement_91 (by decide) ?_
  exact hk65 _ _ _ _ w a1 a2 v1 (lv_sub hl [1, 2, 3, 0] rfl) hf
def f_X9_complement_65 : Nat → ST → Int32 → Int32 → Int32 → Option (Int32 × ST)
  | 0, _, _, _, _ => none
  | n + 1, S, a1, a2, a3 => oB (f_X9_modulus S) (fun (r2 : Int32) (S1 : ST) => (if r2 ≤ a3 then oB (f_X9_becomes S1 a2) (fun (r5 : Int32) (S4 : ST) => some (r5, S4)) else oB (f_X9_numberOf S1 a1 a3) (fun (r7 : Int32) (S6 : ST) => (if r7 = (-1) then oV (f_X9_comes S6 a3) (fun (S9 : ST) => f_X9_complement_88 (f_X9_complement_65 n) S9 a1 a2 a3) else f_X9_complement_88 (f_X9_complement_65 n) S6 a1 a2 a3))))
set_option maxHeartbeats 4000000 in
set_option maxRecDepth 100000 in
theorem b_X9_complement_65 {p : Program} {l : Launch} {e : Env} {s : State} {m : MethodId} {args : Array Value} {below : List Frame} {meth : Method} {c : Code} {x : CX} {res : Int32 × ST} (F : MF p m meth c cX9_complement 4 s args RX9 (some .int)) : ∀ (n : Nat), ∀ (H : Heap) (locs : List Loc) (ls : Array Slot) (S : ST), WD x s S H locs → ∀ (a1 : Int32) (a2 : Int32) (a3 : Int32), lv_has ls 4 [(0, .ref (x.2.2 (80))), (1, .int a1), (2, .int a2), (3, .int a3)] → f_X9_complement_65 n S a1 a2 a3 = some res → W p l e ({ frames := 2, cells := 0, slots := 0, locals := 46 } : Room) s m args below meth c H locs 0 0 (MQ below (QI x res.2 res.1 s.heap.size) args s 0 0 (AA x s.heap.size)) (F0 m 65 ls []) := by
  intro n
  induction n with
  | zero =>
    intro H locs ls S w a1 a2 a3 hl hf
    have hf : (none : Option (Int32 × ST)) = some res := hf
    cases hf
  | succ n ih =>
    intro H locs ls S w a1 a2 a3 hl hf
    unfold f_X9_complement_65 at hf
    refine lv_iload_n F.1 F.2.1 dX9_complement_65 rfl (lv_at hl 3 rfl) ?_
    refine lv_aload_n F.1 F.2.1 dX9_complement_66 rfl (lv_at hl 0 rfl) ?_
    obtain ⟨r2, S1, hc, hf⟩ := oi_b hf
    refine k_i0 (S' := S1) (r := r2) w (runV (As := []) (rest := [.int a3]) (kb := 80) F w (k_X9_modulus l x S hc H.size) cy_X9_modulus q1024 q1026 qp35 ⟨rfl, rfl⟩ ⟨Nat.le_of_ble_eq_true rfl, Nat.le_of_ble_eq_true rfl⟩ (by decide) rfl rfl rfl rfl hl.1 (Nat.le_of_ble_eq_true rfl) ⟨Nat.le_of_ble_eq_true rfl, Nat.le_of_ble_eq_true rfl⟩ dX9_complement_67) (fun H locs w => ?_)
    refine lv_icmp_ge (tgt := 94) F.1 F.2.1 dX9_complement_70 (by decide) (fun c3 => ?_) (fun c3 => ?_)
    · replace hf := oi_t hf c3
      refine lv_aload_n F.1 F.2.1 dX9_complement_94 rfl (lv_at hl 0 rfl) ?_
      refine lv_iload_n F.1 F.2.1 dX9_complement_95 rfl (lv_at hl 2 rfl) ?_
      obtain ⟨r5, S4, hc, hf⟩ := oi_b hf
      refine k_i0 (S' := S4) (r := r5) w (runV (As := [.int a2]) (rest := []) (kb := 80) F w (k_X9_becomes l x S1 a2 hc H.size) cy_X9_becomes q944 q946 qp27 ⟨rfl, rfl⟩ ⟨Nat.le_of_ble_eq_true rfl, Nat.le_of_ble_eq_true rfl⟩ (by decide) rfl rfl rfl rfl hl.1 (Nat.le_of_ble_eq_true rfl) ⟨Nat.le_of_ble_eq_true rfl, Nat.le_of_ble_eq_true rfl⟩ dX9_complement_96) (fun H locs w => ?_)
      exact r_iret F w (oi_s hf) dX9_complement_99
    · replace hf := oi_f hf c3
      refine lv_aload_n F.1 F.2.1 dX9_complement_73 rfl (lv_at hl 0 rfl) ?_
      refine lv_iload_n F.1 F.2.1 dX9_complement_74 rfl (lv_at hl 1 rfl) ?_
      refine lv_iload_n F.1 F.2.1 dX9_complement_75 rfl (lv_at hl 3 rfl) ?_
      obtain ⟨r7, S6, hc, hf⟩ := oi_b hf
      refine k_i0 (S' := S6) (r := r7) w (runV (As := [.int a1, .int a3]) (rest := []) (kb := 80) F w (k_X9_numberOf l x S1 a1 a3 hc H.size) cy_X9_numberOf q916 q918 qp20 ⟨rfl, rfl⟩ ⟨Nat.le_of_ble_eq_true rfl, Nat.le_of_ble_eq_true rfl⟩ (by decide) rfl rfl rfl rfl hl.1 (Nat.le_of_ble_eq_true rfl) ⟨Nat.le_of_ble_eq_true rfl, Nat.le_of_ble_eq_true rfl⟩ dX9_complement_76) (fun H locs w => ?_)
      refine lv_iconst (v := (-1)) F.1 F.2.1 dX9_complement_79 (by decide) ?_
      refine lv_icmp_ne (tgt := 88) F.1 F.2.1 dX9_complement_80 (by decide) (fun c8 => ?_) (fun c8 => ?_)
      · replace hf := oi_f hf c8
        exact b_X9_complement_88 F (f_X9_complement_65 n) ih _ _ _ _ w a1 a2 a3 (lv_sub hl [0, 1, 2, 3] rfl) hf
      · replace hf := oi_t hf c8
        refine lv_aload_n F.1 F.2.1 dX9_complement_83 rfl (lv_at hl 0 rfl) ?_
        refine lv_iload_n F.1 F.2.1 dX9_complement_84 rfl (lv_at hl 3 rfl) ?_
        obtain ⟨S9, hc, hf⟩ := oi_v hf
        refine k_v0 (S' := S9) w (runV (As := [.int a3]) (rest := []) (kb := 80) F w (k_X9_comes l x S6 a3 hc H.size) cy_X9_comes q940 q942 qp26 ⟨rfl, rfl⟩ ⟨Nat.le_of_ble_eq_true rfl, Nat.le_of_ble_eq_true rfl⟩ (by decide) rfl rfl rfl rfl hl.1 (Nat.le_of_ble_eq_true rfl) ⟨Nat.le_of_ble_eq_true rfl, Nat.le_of_ble_eq_true rfl⟩ dX9_complement_85) (fun H locs w => ?_)
        exact b_X9_complement_88 F (f_X9_complement_65 n) ih _ _ _ _ w a1 a2 a3 (lv_sub hl [0, 1, 2, 3] rfl) hf
def f_X9_complement_47 (S : ST) (a1 : Int32) (a2 : Int32) (as0 : Int32) : Option (Int32 × ST) := oB (f_X9_refused S as0) (fun (r2 : Int32) (S1 : ST) => (if r2 = 0 then oV (f_X9_saves S1) (fun (S4 : ST) => oV (f_X9_begins S4) (fun (S5 : ST) => f_X9_complement_65 FU S5 a1 a2 0)) else some (0, S1)))
set_option maxHeartbeats 4000000 in
set_option maxRecDepth 100000 in
theorem b_X9_complement_47 {p : Program} {l : Launch} {e : Env} {s : State} {m : MethodId} {args : Array Value} {below : List Frame} {meth : Method} {c : Code} {x : CX} {res : Int32 × ST} (F : MF p m meth c cX9_complement 4 s args RX9 (some .int)) : ∀ (H : Heap) (locs : List Loc) (ls : Array Slot) (S : ST), WD x s S H locs → ∀ (a1 : Int32) (a2 : Int32) (as0 : Int32), lv_has ls 4 [(0, .ref (x.2.2 (80))), (1, .int a1), (2, .int a2)] → f_X9_complement_47 S a1 a2 as0 = some res → W p l e ({ frames := 2, cells := 0, slots := 0, locals := 46 } : Room) s m args below meth c H locs 0 0 (MQ below (QI x res.2 res.1 s.heap.size) args s 0 0 (AA x s.heap.size)) (F0 m 47 ls [.int as0, .ref (x.2.2 (80))]) := by
  intro H locs ls S w a1 a2 as0 hl hf
  unfold f_X9_complement_47 at hf
  obtain ⟨r2, S1, hc, hf⟩ := oi_b hf
  refine k_i0 (S' := S1) (r := r2) w (runV (As := [.int as0]) (rest := []) (kb := 80) F w (k_X9_refused l x S as0 hc H.size) cy_X9_refused q902 q904 qp19 ⟨rfl, rfl⟩ ⟨Nat.le_of_ble_eq_true rfl, Nat.le_of_ble_eq_true rfl⟩ (by decide) rfl rfl rfl rfl hl.1 (Nat.le_of_ble_eq_true rfl) ⟨Nat.le_of_ble_eq_true rfl, Nat.le_of_ble_eq_true rfl⟩ dX9_complement_47) (fun H locs w => ?_)
  refine lv_if_eq (tgt := 55) F.1 F.2.1 dX9_complement_50 (by decide) (fun c3 => ?_) (fun c3 => ?_)
  · replace hf := oi_t hf c3
    refine lv_aload_n F.1 F.2.1 dX9_complement_55 rfl (lv_at hl 0 rfl) ?_
    obtain ⟨S4, hc, hf⟩ := oi_v hf
    refine k_v0 (S' := S4) w (runV (As := []) (rest := []) (kb := 80) F w (k_X9_saves l x S1 hc H.size) cy_X9_saves q928 q930 qp23 ⟨rfl, rfl⟩ ⟨Nat.le_of_ble_eq_true rfl, Nat.le_of_ble_eq_true rfl⟩ (by decide) rfl rfl rfl rfl hl.1 (Nat.le_of_ble_eq_true rfl) ⟨Nat.le_of_ble_eq_true rfl, Nat.le_of_ble_eq_true rfl⟩ dX9_complement_56) (fun H locs w => ?_)
    refine lv_aload_n F.1 F.2.1 dX9_complement_59 rfl (lv_at hl 0 rfl) ?_
    obtain ⟨S5, hc, hf⟩ := oi_v hf
    refine k_v0 (S' := S5) w (runV (As := []) (rest := []) (kb := 80) F w (k_X9_begins l x S4 hc H.size) cy_X9_begins q936 q938 qp25 ⟨rfl, rfl⟩ ⟨Nat.le_of_ble_eq_true rfl, Nat.le_of_ble_eq_true rfl⟩ (by decide) rfl rfl rfl rfl hl.1 (Nat.le_of_ble_eq_true rfl) ⟨Nat.le_of_ble_eq_true rfl, Nat.le_of_ble_eq_true rfl⟩ dX9_complement_60) (fun H locs w => ?_)
    refine lv_iconst (v := 0) F.1 F.2.1 dX9_complement_63 (by decide) ?_
    refine lv_istore_n (lv' := [(3, .int 0), (0, .ref (x.2.2 (80))), (1, .int a1), (2, .int a2)]) F.1 F.2.1 dX9_complement_64 rfl hl (by decide) rfl (fun ls hl => ?_)
    exact b_X9_complement_65 F FU _ _ _ _ w a1 a2 0 (lv_sub hl [1, 2, 3, 0] rfl) hf
  · replace hf := oi_f hf c3
    refine lv_iconst (v := 0) F.1 F.2.1 dX9_complement_53 (by decide) ?_
    exact r_iret F w (oi_s hf) dX9_complement_54
def f_X9_complement_15 (S : ST) (a1 : Int32) (a2 : Int32) : Option (Int32 × ST) := f_X9_complement_47 S a1 a2 1
set_option maxHeartbeats 4000000 in
set_option maxRecDepth 100000 in
theorem b_X9_complement_15 {p : Program} {l : Launch} {e : Env} {s : State} {m : MethodId} {args : Array Value} {below : List Frame} {meth : Method} {c : Code} {x : CX} {res : Int32 × ST} (F : MF p m meth c cX9_complement 4 s args RX9 (some .int)) : ∀ (H : Heap) (locs : List Loc) (ls : Array Slot) (S : ST), WD x s S H locs → ∀ (a1 : Int32) (a2 : Int32), lv_has ls 4 [(0, .ref (x.2.2 (80))), (1, .int a1), (2, .int a2)] → f_X9_complement_15 S a1 a2 = some res → W p l e ({ frames := 2, cells := 0, slots := 0, locals := 46 } : Room) s m args below meth c H locs 0 0 (MQ below (QI x res.2 res.1 s.heap.size) args s 0 0 (AA x s.heap.size)) (F0 m 15 ls [.ref (x.2.2 (80))]) := by
  intro H locs ls S w a1 a2 hl hf
  unfold f_X9_complement_15 at hf
  refine lv_iconst (v := 1) F.1 F.2.1 dX9_complement_15 (by decide) ?_
  refine lv_goto (tgt := 47) F.1 F.2.1 dX9_complement_16 (by decide) ?_
  exact b_X9_complement_47 F  _ _ _ _ w a1 a2 1 (lv_sub hl [0, 1, 2] rfl) hf
def f_X9_complement_42 (S : ST) (a1 : Int32) (a2 : Int32) : Option (Int32 × ST) := f_X9_complement_47 S a1 a2 2
set_option maxHeartbeats 4000000 in
set_option maxRecDepth 100000 in
theorem b_X9_complement_42 {p : Program} {l : Launch} {e : Env} {s : State} {m : MethodId} {args : Array Value} {below : List Frame} {meth : Method} {c : Code} {x : CX} {res : Int32 × ST} (F : MF p m meth c cX9_complement 4 s args RX9 (some .int)) : ∀ (H : Heap) (locs : List Loc) (ls : Array Slot) (S : ST), WD x s S H locs → ∀ (a1 : Int32) (a2 : Int32), lv_has ls 4 [(0, .ref (x.2.2 (80))), (1, .int a1), (2, .int a2)] → f_X9_complement_42 S a1 a2 = some res → W p l e ({ frames := 2, cells := 0, slots := 0, locals := 46 } : Room) s m args below meth c H locs 0 0 (MQ below (QI x res.2 res.1 s.heap.size) args s 0 0 (AA x s.heap.size)) (F0 m 42 ls [.ref (x.2.2 (80))]) := by
  intro H locs ls S w a1 a2 hl hf
  unfold f_X9_complement_42 at hf
  refine lv_iconst (v := 2) F.1 F.2.1 dX9_complement_42 (by decide) ?_
  refine lv_goto (tgt := 47) F.1 F.2.1 dX9_complement_43 (by decide) ?_
  exact b_X9_complement_47 F  _ _ _ _ w a1 a2 2 (lv_sub hl [0, 1, 2] rfl) hf
def f_X9_complement_0 (S : ST) (a1 : Int32) (a2 : Int32) : Option (Int32 × ST) := oB (f_X9_isSet S a1) (fun (r2 : Int32) (S1 : ST) => (if r2 = 0 then f_X9_complement_15 S1 a1 a2 else oB (f_X9_isSet S1 a2) (fun (r5 : Int32) (S4 : ST) => (if r5 = 0 then f_X9_complement_15 S4 a1 a2 else oB (f_X9_isLow S4 a1) (fun (r8 : Int32) (S7 : ST) => (if r8 = 0 then f_X9_complement_42 S7 a1 a2 else oB (f_X9_modulus S7) (fun (r11 : Int32) (S10 : ST) => oB (f_X9_many S10 a1) (fun (r13 : Int32) (S12 : ST) => (if (r11 - r13) ≤ 24 then f_X9_complement_47 S12 a1 a2 0 else f_X9_complement_42 S12 a1 a2)))))))))
set_option maxHeartbeats 4000000 in
set_option maxRecDepth 100000 in
theorem b_X9_complement_0 {p : Program} {l : Launch} {e : Env} {s : State} {m : MethodId} {args : Array Value} {below : List Frame} {meth : Method} {c : Code} {x : CX} {res : Int32 × ST} (F : MF p m meth c cX9_complement 4 s args RX9 (some .int)) : ∀ (H : Heap) (locs : List Loc) (ls : Array Slot) (S : ST), WD x s S H locs → ∀ (a1 : Int32) (a2 : Int32), lv_has ls 4 [(0, .ref (x.2.2 (80))), (1, .int a1), (2, .int a2)] → f_X9_complement_0 S a1 a2 = some res → W p l e ({ frames := 2, cells := 0, slots := 0, locals := 46 } : Room) s m args below meth c H locs 0 0 (MQ below (QI x res.2 res.1 s.heap.size) args s 0 0 (AA x s.heap.size)) (F0 m 0 ls []) := by
  intro H locs ls S w a1 a2 hl hf
  unfold f_X9_complement_0 at hf
  refine lv_aload_n F.1 F.2.1 dX9_complement_0 rfl (lv_at hl 0 rfl) ?_
  refine lv_iload_n F.1 F.2.1 dX9_complement_1 rfl (lv_at hl 1 rfl) ?_
  obtain ⟨r2, S1, hc, hf⟩ := oi_b hf
  refine k_i0 (S' := S1) (r := r2) w (runS (As := [.int a1]) (rest := [.ref (x.2.2 (80))]) F w (k_X9_isSet l x S a1 hc H.size) cy_X9_isSet q910 q911 ⟨rfl, rfl⟩ ⟨Nat.le_of_ble_eq_true rfl, Nat.le_of_ble_eq_true rfl⟩ rfl rfl hl.1 (Nat.le_of_ble_eq_true rfl) ⟨Nat.le_of_ble_eq_true rfl, Nat.le_of_ble_eq_true rfl⟩ dX9_complement_2) (fun H locs w => ?_)
  refine lv_if_eq (tgt := 15) F.1 F.2.1 dX9_complement_5 (by decide) (fun c3 => ?_) (fun c3 => ?_)
  · replace hf := oi_t hf c3
    exact b_X9_complement_15 F  _ _ _ _ w a1 a2 (lv_sub hl [0, 1, 2] rfl) hf
  · replace hf := oi_f hf c3
    refine lv_iload_n F.1 F.2.1 dX9_complement_8 rfl (lv_at hl 2 rfl) ?_
    obtain ⟨r5, S4, hc, hf⟩ := oi_b hf
    refine k_i0 (S' := S4) (r := r5) w (runS (As := [.int a2]) (rest := [.ref (x.2.2 (80))]) F w (k_X9_isSet l x S1 a2 hc H.size) cy_X9_isSet q910 q911 ⟨rfl, rfl⟩ ⟨Nat.le_of_ble_eq_true rfl, Nat.le_of_ble_eq_true rfl⟩ rfl rfl hl.1 (Nat.le_of_ble_eq_true rfl) ⟨Nat.le_of_ble_eq_true rfl, Nat.le_of_ble_eq_true rfl⟩ dX9_complement_9) (fun H locs w => ?_)
    refine lv_if_ne (tgt := 19) F.1 F.2.1 dX9_complement_12 (by decide) (fun c6 => ?_) (fun c6 => ?_)
    · replace hf := oi_f hf c6
      refine lv_aload_n F.1 F.2.1 dX9_complement_19 rfl (lv_at hl 0 rfl) ?_
      refine lv_iload_n F.1 F.2.1 dX9_complement_20 rfl (lv_at hl 1 rfl) ?_
      obtain ⟨r8, S7, hc, hf⟩ := oi_b hf
      refine k_i0 (S' := S7) (r := r8) w (runV (As := [.int a1]) (rest := [.ref (x.2.2 (80))]) (kb := 80) F w (k_X9_isLow l x S4 a1 hc H.size) cy_X9_isLow q1032 q1034 qp36 ⟨rfl, rfl⟩ ⟨Nat.le_of_ble_eq_true rfl, Nat.le_of_ble_eq_true rfl⟩ (by decide) rfl rfl rfl rfl hl.1 (Nat.le_of_ble_eq_true rfl) ⟨Nat.le_of_ble_eq_true rfl, Nat.le_of_ble_eq_true rfl⟩ dX9_complement_21) (fun H locs w => ?_)
      refine lv_if_eq (tgt := 42) F.1 F.2.1 dX9_complement_24 (by decide) (fun c9 => ?_) (fun c9 => ?_)
      · replace hf := oi_t hf c9
        exact b_X9_complement_42 F  _ _ _ _ w a1 a2 (lv_sub hl [0, 1, 2] rfl) hf
      · replace hf := oi_f hf c9
        refine lv_aload_n F.1 F.2.1 dX9_complement_27 rfl (lv_at hl 0 rfl) ?_
        obtain ⟨r11, S10, hc, hf⟩ := oi_b hf
        refine k_i0 (S' := S10) (r := r11) w (runV (As := []) (rest := [.ref (x.2.2 (80))]) (kb := 80) F w (k_X9_modulus l x S7 hc H.size) cy_X9_modulus q1024 q1026 qp35 ⟨rfl, rfl⟩ ⟨Nat.le_of_ble_eq_true rfl, Nat.le_of_ble_eq_true rfl⟩ (by decide) rfl rfl rfl rfl hl.1 (Nat.le_of_ble_eq_true rfl) ⟨Nat.le_of_ble_eq_true rfl, Nat.le_of_ble_eq_true rfl⟩ dX9_complement_28) (fun H locs w => ?_)
        refine lv_aload_n F.1 F.2.1 dX9_complement_31 rfl (lv_at hl 0 rfl) ?_
        refine lv_iload_n F.1 F.2.1 dX9_complement_32 rfl (lv_at hl 1 rfl) ?_
        obtain ⟨r13, S12, hc, hf⟩ := oi_b hf
        refine k_i0 (S' := S12) (r := r13) w (runV (As := [.int a1]) (rest := [.int r11, .ref (x.2.2 (80))]) (kb := 80) F w (k_X9_many l x S10 a1 hc H.size) cy_X9_many q920 q922 qp21 ⟨rfl, rfl⟩ ⟨Nat.le_of_ble_eq_true rfl, Nat.le_of_ble_eq_true rfl⟩ (by decide) rfl rfl rfl rfl hl.1 (Nat.le_of_ble_eq_true rfl) ⟨Nat.le_of_ble_eq_true rfl, Nat.le_of_ble_eq_true rfl⟩ dX9_complement_33) (fun H locs w => ?_)
        refine lv_isub F.1 F.2.1 dX9_complement_36 ?_
        refine lv_bipush (v := 24) F.1 F.2.1 dX9_complement_37 (by decide) ?_
        refine lv_icmp_le (tgt := 46) F.1 F.2.1 dX9_complement_39 (by decide) (fun c14 => ?_) (fun c14 => ?_)
        · replace hf := oi_t hf c14
          refine lv_iconst (v := 0) F.1 F.2.1 dX9_complement_46 (by decide) ?_
          exact b_X9_complement_47 F  _ _ _ _ w a1 a2 0 (lv_sub hl [0, 1, 2] rfl) hf
        · replace hf := oi_f hf c14
          exact b_X9_complement_42 F  _ _ _ _ w a1 a2 (lv_sub hl [0, 1, 2] rfl) hf
    · replace hf := oi_t hf c6
      exact b_X9_complement_15 F  _ _ _ _ w a1 a2 (lv_sub hl [0, 1, 2] rfl) hf
def f_X9_complement (S : ST) (a1 : Int32) (a2 : Int32) : Option (Int32 × ST) := f_X9_complement_0 S a1 a2
set_option maxHeartbeats 4000000 in
set_option maxRecDepth 100000 in
theorem k_X9_complement (l : Launch) (x : CX) (S : ST) (a1 : Int32) (a2 : Int32) {res : Int32 × ST} (hf : f_X9_complement S a1 a2 = some res) (sz : Nat) : Met l yX9_complement (Cond.code yX9_complement cX9_complement 4 (some .int) :: GW) ({ frames := 2, cells := 0, slots := 0, locals := 46 } : Room) (PC x S sz [.ref (x.2.2 (80)), .int a1, .int a2]) (QI x res.2 res.1 sz) 0 0 (AA x sz) := by
  refine Met.ofW (cc := cX9_complement) (maxL := 4) (ret := (some .int)) (by decide) rfl ?_
  intro p e s m args below meth c s₁ B hml hv
  obtain ⟨rfl, rfl, hPW⟩ := hv
  have F : MF p m meth c cX9_complement 4 s _ RX9 (some .int) := MF.of B hml
  have w := WD.of hPW
  have hl := lv_entry ([.ref (x.2.2 (80)), .int a1, .int a2]) (n := 4) (Nat.le_of_ble_eq_true rfl)
  rw [lg_entry_eq]
  generalize (lg_sl ([.ref (x.2.2 (80)), .int a1, .int a2]) ++ List.replicate (4 - (lg_sl ([.ref (x.2.2 (80)), .int a1, .int a2])).length) Slot.unset).toArray = ls at hl ⊢
  have hl : lv_has ls 4 [(0, .ref (x.2.2 (80))), (1, .int a1), (2, .int a2)] := hl
  unfold f_X9_complement at hf
  exact b_X9_complement_0 F  _ _ _ _ w a1 a2 (lv_sub hl [0, 1, 2] rfl) hf
theorem cy_X9_reflect : CY yX9_reflect RX9 cX9_reflect 4 (some .int) 2 := ⟨q10, q1071, rfl, by decide, by decide, by decide +kernel⟩
def f_X9_reflect_38 : Nat → ST → Int32 → Int32 → Int32 → Option (Int32 × ST)
  | 0, _, _, _, _ => none
  | n + 1, S, a1, a2, a3 => oB (f_X9_many S a1) (fun (r2 : Int32) (S1 : ST) => (if r2 ≤ a3 then oB (f_X9_becomes S1 a2) (fun (r5 : Int32) (S4 : ST) => some (r5, S4)) else oB (f_X9_many S1 a1) (fun (r7 : Int32) (S6 : ST) => oB (f_X9_markAt S6 a1 (r7 - (1 : Int32))) (fun (r9 : Int32) (S8 : ST) => oB (f_X9_markAt S8 a1 a3) (fun (r11 : Int32) (S10 : ST) => oV (f_X9_comes S10 (r9 - r11)) (fun (S12 : ST) => oL (a3 + 1) (fun (v13 : Int32) => (f_X9_reflect_38 n) S12 a1 a2 v13)))))))
set_option maxHeartbeats 4000000 in
set_option maxRecDepth 100000 in
theorem b_X9_reflect_38 {p : Program} {l : Launch} {e : Env} {s : State} {m : MethodId} {args : Array Value} {below : List Frame} {meth : Method} {c : Code} {x : CX} {res : Int32 × ST} (F : MF p m meth c cX9_reflect 4 s args RX9 (some .int)) : ∀ (n : Nat), ∀ (H : Heap) (locs : List Loc) (ls : Array Slot) (S : ST), WD x s S H locs → ∀ (a1 : Int32) (a2 : Int32) (a3 : Int32), lv_has ls 4 [(0, .ref (x.2.2 (80))), (1, .int a1), (2, .int a2), (3, .int a3)] → f_X9_reflect_38 n S a1 a2 a3 = some res → W p l e ({ frames := 2, cells := 0, slots := 0, locals := 42 } : Room) s m args below meth c H locs 0 0 (MQ below (QI x res.2 res.1 s.heap.size) args s 0 0 (AA x s.heap.size)) (F0 m 38 ls []) := by
  intro n
  induction n with
  | zero =>
    intro H locs ls S w a1 a2 a3 hl hf
    have hf : (none : Option (Int32 × ST)) = some res := hf
    cases hf
  | succ n ih =>
    intro H locs ls S w a1 a2 a3 hl hf
    unfold f_X9_reflect_38 at hf
    refine lv_iload_n F.1 F.2.1 dX9_reflect_38 rfl (lv_at hl 3 rfl) ?_
    refine lv_aload_n F.1 F.2.1 dX9_reflect_39 rfl (lv_at hl 0 rfl) ?_
    refine lv_iload_n F.1 F.2.1 dX9_reflect_40 rfl (lv_at hl 1 rfl) ?_
    obtain ⟨r2, S1, hc, hf⟩ := oi_b hf
    refine k_i0 (S' := S1) (r := r2) w (runV (As := [.int a1]) (rest := [.int a3]) (kb := 80) F w (k_X9_many l x S a1 hc H.size) cy_X9_many q920 q922 qp21 ⟨rfl, rfl⟩ ⟨Nat.le_of_ble_eq_true rfl, Nat.le_of_ble_eq_true rfl⟩ (by decide) rfl rfl rfl rfl hl.1 (Nat.le_of_ble_eq_true rfl) ⟨Nat.le_of_ble_eq_true rfl, Nat.le_of_ble_eq_true rfl⟩ dX9_reflect_41) (fun H locs w => ?_)
    refine lv_icmp_ge (tgt := 76) F.1 F.2.1 dX9_reflect_44 (by decide) (fun c3 => ?_) (fun c3 => ?_)
    · replace hf := oi_t hf c3
      refine lv_aload_n F.1 F.2.1 dX9_reflect_76 rfl (lv_at hl 0 rfl) ?_
      refine lv_iload_n F.1 F.2.1 dX9_reflect_77 rfl (lv_at hl 2 rfl) ?_
      obtain ⟨r5, S4, hc, hf⟩ := oi_b hf
      refine k_i0 (S' := S4) (r := r5) w (runV (As := [.int a2]) (rest := []) (kb := 80) F w (k_X9_becomes l x S1 a2 hc H.size) cy_X9_becomes q944 q946 qp27 ⟨rfl, rfl⟩ ⟨Nat.le_of_ble_eq_true rfl, Nat.le_of_ble_eq_true rfl⟩ (by decide) rfl rfl rfl rfl hl.1 (Nat.le_of_ble_eq_true rfl) ⟨Nat.le_of_ble_eq_true rfl, Nat.le_of_ble_eq_true rfl⟩ dX9_reflect_78) (fun H locs w => ?_)
      exact r_iret F w (oi_s hf) dX9_reflect_81
    · replace hf := oi_f hf c3
      refine lv_aload_n F.1 F.2.1 dX9_reflect_47 rfl (lv_at hl 0 rfl) ?_
      refine lv_aload_n F.1 F.2.1 dX9_reflect_48 rfl (lv_at hl 0 rfl) ?_
      refine lv_iload_n F.1 F.2.1 dX9_reflect_49 rfl (lv_at hl 1 rfl) ?_
      refine lv_aload_n F.1 F.2.1 dX9_reflect_50 rfl (lv_at hl 0 rfl) ?_
      refine lv_iload_n F.1 F.2.1 dX9_reflect_51 rfl (lv_at hl 1 rfl) ?_
      obtain ⟨r7, S6, hc, hf⟩ := oi_b hf
      refine k_i0 (S' := S6) (r := r7) w (runV (As := [.int a1]) (rest := [.int a1, .ref (x.2.2 (80)), .ref (x.2.2 (80))]) (kb := 80) F w (k_X9_many l x S1 a1 hc H.size) cy_X9_many q920 q922 qp21 ⟨rfl, rfl⟩ ⟨Nat.le_of_ble_eq_true rfl, Nat.le_of_ble_eq_true rfl⟩ (by decide) rfl rfl rfl rfl hl.1 (Nat.le_of_ble_eq_true rfl) ⟨Nat.le_of_ble_eq_true rfl, Nat.le_of_ble_eq_true rfl⟩ dX9_reflect_52) (fun H locs w => ?_)
      refine lv_iconst (v := 1) F.1 F.2.1 dX9_reflect_55 (by decide) ?_
      refine lv_isub F.1 F.2.1 dX9_reflect_56 ?_
      obtain ⟨r9, S8, hc, hf⟩ := oi_b hf
      refine k_i0 (S' := S8) (r := r9) w (runV (As := [.int a1, .int (r7 - (1 : Int32))]) (rest := [.ref (x.2.2 (80))]) (kb := 80) F w (k_X9_markAt l x S6 a1 (r7 - (1 : Int32)) hc H.size) cy_X9_markAt q924 q926 qp22 ⟨rfl, rfl⟩ ⟨Nat.le_of_ble_eq_true rfl, Nat.le_of_ble_eq_true rfl⟩ (by decide) rfl rfl rfl rfl hl.1 (Nat.le_of_ble_eq_true rfl) ⟨Nat.le_of_ble_eq_true rfl, Nat.le_of_ble_eq_true rfl⟩ dX9_reflect_57) (fun H locs w => ?_)
      refine lv_aload_n F.1 F.2.1 dX9_reflect_60 rfl (lv_at hl 0 rfl) ?_
      refine lv_iload_n F.1 F.2.1 dX9_reflect_61 rfl (lv_at hl 1 rfl) ?_
      refine lv_iload_n F.1 F.2.1 dX9_reflect_62 rfl (lv_at hl 3 rfl) ?_
      obtain ⟨r11, S10, hc, hf⟩ := oi_b hf
      refine k_i0 (S' := S10) (r := r11) w (runV (As := [.int a1, .int a3]) (rest := [.int r9, .ref (x.2.2 (80))]) (kb := 80) F w (k_X9_markAt l x S8 a1 a3 hc H.size) cy_X9_markAt q924 q926 qp22 ⟨rfl, rfl⟩ ⟨Nat.le_of_ble_eq_true rfl, Nat.le_of_ble_eq_true rfl⟩ (by decide) rfl rfl rfl rfl hl.1 (Nat.le_of_ble_eq_true rfl) ⟨Nat.le_of_ble_eq_true rfl, Nat.le_of_ble_eq_true rfl⟩ dX9_reflect_63) (fun H locs w => ?_)
      refine lv_isub F.1 F.2.1 dX9_reflect_66 ?_
      obtain ⟨S12, hc, hf⟩ := oi_v hf
      refine k_v0 (S' := S12) w (runV (As := [.int (r9 - r11)]) (rest := []) (kb := 80) F w (k_X9_comes l x S10 (r9 - r11) hc H.size) cy_X9_comes q940 q942 qp26 ⟨rfl, rfl⟩ ⟨Nat.le_of_ble_eq_true rfl, Nat.le_of_ble_eq_true rfl⟩ (by decide) rfl rfl rfl rfl hl.1 (Nat.le_of_ble_eq_true rfl) ⟨Nat.le_of_ble_eq_true rfl, Nat.le_of_ble_eq_true rfl⟩ dX9_reflect_67) (fun H locs w => ?_)
      obtain ⟨v13, e_v13⟩ : ∃ y : Int32, y = (a3 + 1) := ⟨_, rfl⟩
      replace hf := oi_l hf e_v13
      refine lv_iinc (v := v13) (lv' := [(3, .int v13), (0, .ref (x.2.2 (80))), (1, .int a1), (2, .int a2)]) F.1 F.2.1 dX9_reflect_70 hl (k := 3) rfl (by rw [e_v13]; rfl) (by decide) rfl (fun ls hl => ?_)
      refine lv_goto (tgt := 38) F.1 F.2.1 dX9_reflect_73 (by decide) ?_
      exact ih _ _ _ _ w a1 a2 v13 (lv_sub hl [1, 2, 3, 0] rfl) hf
def f_X9_reflect_20 (S : ST) (a1 : Int32) (a2 : Int32) (as0 : Int32) : Option (Int32 × ST) := oB (f_X9_refused S as0) (fun (r2 : Int32) (S1 : ST) => (if r2 = 0 then oV (f_X9_saves S1) (fun (S4 : ST) => oV (f_X9_begins S4) (fun (S5 : ST) => f_X9_reflect_38 FU S5 a1 a2 0)) else some (0, S1)))
set_option maxHeartbeats 4000000 in
set_option maxRecDepth 100000 in
theorem b_X9_reflect_20 {p : Program} {l : Launch} {e : Env} {s : State} {m : MethodId} {args : Array Value} {below : List Frame} {meth : Method} {c : Code} {x : CX} {res : Int32 × ST} (F : MF p m meth c cX9_reflect 4 s args RX9 (some .int)) : ∀ (H : Heap) (locs : List Loc) (ls : Array Slot) (S : ST), WD x s S H locs → ∀ (a1 : Int32) (a2 : Int32) (as0 : Int32), lv_has ls 4 [(0, .ref (x.2.2 (80))), (1, .int a1), (2, .int a2)] → f_X9_reflect_20 S a1 a2 as0 = some res → W p l e ({ frames := 2, cells := 0, slots := 0, locals := 42 } : Room) s m args below meth c H locs 0 0 (MQ below (QI x res.2 res.1 s.heap.size) args s 0 0 (AA x s.heap.size)) (F0 m 20 ls [.int as0, .ref (x.2.2 (80))]) := by
  intro H locs ls S w a1 a2 as0 hl hf
  unfold f_X9_reflect_20 at hf
  obtain ⟨r2, S1, hc, hf⟩ := oi_b hf
  refine k_i0 (S' := S1) (r := r2) w (runV (As := [.int as0]) (rest := []) (kb := 80) F w (k_X9_refused l x S as0 hc H.size) cy_X9_refused q902 q904 qp19 ⟨rfl, rfl⟩ ⟨Nat.le_of_ble_eq_true rfl, Nat.le_of_ble_eq_true rfl⟩ (by decide) rfl rfl rfl rfl hl.1 (Nat.le_of_ble_eq_true rfl) ⟨Nat.le_of_ble_eq_true rfl, Nat.le_of_ble_eq_true rfl⟩ dX9_reflect_20) (fun H locs w => ?_)
  refine lv_if_eq (tgt := 28) F.1 F.2.1 dX9_reflect_23 (by decide) (fun c3 => ?_) (fun c3 => ?_)
  · replace hf := oi_t hf c3
    refine lv_aload_n F.1 F.2.1 dX9_reflect_28 rfl (lv_at hl 0 rfl) ?_
    obtain ⟨S4, hc, hf⟩ := oi_v hf
    refine k_v0 (S' := S4) w (runV (As := []) (rest := []) (kb := 80) F w (k_X9_saves l x S1 hc H.size) cy_X9_saves q928 q930 qp23 ⟨rfl, rfl⟩ ⟨Nat.le_of_ble_eq_true rfl, Nat.le_of_ble_eq_true rfl⟩ (by decide) rfl rfl rfl rfl hl.1 (Nat.le_of_ble_eq_true rfl) ⟨Nat.le_of_ble_eq_true rfl, Nat.le_of_ble_eq_true rfl⟩ dX9_reflect_29) (fun H locs w => ?_)
    refine lv_aload_n F.1 F.2.1 dX9_reflect_32 rfl (lv_at hl 0 rfl) ?_
    obtain ⟨S5, hc, hf⟩ := oi_v hf
    refine k_v0 (S' := S5) w (runV (As := []) (rest := []) (kb := 80) F w (k_X9_begins l x S4 hc H.size) cy_X9_begins q936 q938 qp25 ⟨rfl, rfl⟩ ⟨Nat.le_of_ble_eq_true rfl, Nat.le_of_ble_eq_true rfl⟩ (by decide) rfl rfl rfl rfl hl.1 (Nat.le_of_ble_eq_true rfl) ⟨Nat.le_of_ble_eq_true rfl, Nat.le_of_ble_eq_true rfl⟩ dX9_reflect_33) (fun H locs w => ?_)
    refine lv_iconst (v := 0) F.1 F.2.1 dX9_reflect_36 (by decide) ?_
    refine lv_istore_n (lv' := [(3, .int 0), (0, .ref (x.2.2 (80))), (1, .int a1), (2, .int a2)]) F.1 F.2.1 dX9_reflect_37 rfl hl (by decide) rfl (fun ls hl => ?_)
    exact b_X9_reflect_38 F FU _ _ _ _ w a1 a2 0 (lv_sub hl [1, 2, 3, 0] rfl) hf
  · replace hf := oi_f hf c3
    refine lv_iconst (v := 0) F.1 F.2.1 dX9_reflect_26 (by decide) ?_
    exact r_iret F w (oi_s hf) dX9_reflect_27
def f_X9_reflect_19 (S : ST) (a1 : Int32) (a2 : Int32) : Option (Int32 × ST) := f_X9_reflect_20 S a1 a2 1
set_option maxHeartbeats 4000000 in
set_option maxRecDepth 100000 in
theorem b_X9_reflect_19 {p : Program} {l : Launch} {e : Env} {s : State} {m : MethodId} {args : Array Value} {below : List Frame} {meth : Method} {c : Code} {x : CX} {res : Int32 × ST} (F : MF p m meth c cX9_reflect 4 s args RX9 (some .int)) : ∀ (H : Heap) (locs : List Loc) (ls : Array Slot) (S : ST), WD x s S H locs → ∀ (a1 : Int32) (a2 : Int32), lv_has ls 4 [(0, .ref (x.2.2 (80))), (1, .int a1), (2, .int a2)] → f_X9_reflect_19 S a1 a2 = some res → W p l e ({ frames := 2, cells := 0, slots := 0, locals := 42 } : Room) s m args below meth c H locs 0 0 (MQ below (QI x res.2 res.1 s.heap.size) args s 0 0 (AA x s.heap.size)) (F0 m 19 ls [.ref (x.2.2 (80))]) := by
  intro H locs ls S w a1 a2 hl hf
  unfold f_X9_reflect_19 at hf
  refine lv_iconst (v := 1) F.1 F.2.1 dX9_reflect_19 (by decide) ?_
  exact b_X9_reflect_20 F  _ _ _ _ w a1 a2 1 (lv_sub hl [0, 1, 2] rfl) hf
def f_X9_reflect_0 (S : ST) (a1 : Int32) (a2 : Int32) : Option (Int32 × ST) := oB (f_X9_isSet S a1) (fun (r2 : Int32) (S1 : ST) => (if r2 = 0 then f_X9_reflect_19 S1 a1 a2 else oB (f_X9_isSet S1 a2) (fun (r5 : Int32) (S4 : ST) => (if r5 = 0 then f_X9_reflect_19 S4 a1 a2 else f_X9_reflect_20 S4 a1 a2 0))))
set_option maxHeartbeats 4000000 in
set_option maxRecDepth 100000 in
theorem b_X9_reflect_0 {p : Program} {l : Launch} {e : Env} {s : State} {m : MethodId} {args : Array Value} {below : List Frame} {meth : Method} {c : Code} {x : CX} {res : Int32 × ST} (F : MF p m meth c cX9_reflect 4 s args RX9 (some .int)) : ∀ (H : Heap) (locs : List Loc) (ls : Array Slot) (S : ST), WD x s S H locs → ∀ (a1 : Int32) (a2 : Int32), lv_has ls 4 [(0, .ref (x.2.2 (80))), (1, .int a1), (2, .int a2)] → f_X9_reflect_0 S a1 a2 = some res → W p l e ({ frames := 2, cells := 0, slots := 0, locals := 42 } : Room) s m args below meth c H locs 0 0 (MQ below (QI x res.2 res.1 s.heap.size) args s 0 0 (AA x s.heap.size)) (F0 m 0 ls []) := by
  intro H locs ls S w a1 a2 hl hf
  unfold f_X9_reflect_0 at hf
  refine lv_aload_n F.1 F.2.1 dX9_reflect_0 rfl (lv_at hl 0 rfl) ?_
  refine lv_iload_n F.1 F.2.1 dX9_reflect_1 rfl (lv_at hl 1 rfl) ?_
  obtain ⟨r2, S1, hc, hf⟩ := oi_b hf
  refine k_i0 (S' := S1) (r := r2) w (runS (As := [.int a1]) (rest := [.ref (x.2.2 (80))]) F w (k_X9_isSet l x S a1 hc H.size) cy_X9_isSet q910 q911 ⟨rfl, rfl⟩ ⟨Nat.le_of_ble_eq_true rfl, Nat.le_of_ble_eq_true rfl⟩ rfl rfl hl.1 (Nat.le_of_ble_eq_true rfl) ⟨Nat.le_of_ble_eq_true rfl, Nat.le_of_ble_eq_true rfl⟩ dX9_reflect_2) (fun H locs w => ?_)
  refine lv_if_eq (tgt := 19) F.1 F.2.1 dX9_reflect_5 (by decide) (fun c3 => ?_) (fun c3 => ?_)
  · replace hf := oi_t hf c3
    exact b_X9_reflect_19 F  _ _ _ _ w a1 a2 (lv_sub hl [0, 1, 2] rfl) hf
  · replace hf := oi_f hf c3
    refine lv_iload_n F.1 F.2.1 dX9_reflect_8 rfl (lv_at hl 2 rfl) ?_
    obtain ⟨r5, S4, hc, hf⟩ := oi_b hf
    refine k_i0 (S' := S4) (r := r5) w (runS (As := [.int a2]) (rest := [.ref (x.2.2 (80))]) F w (k_X9_isSet l x S1 a2 hc H.size) cy_X9_isSet q910 q911 ⟨rfl, rfl⟩ ⟨Nat.le_of_ble_eq_true rfl, Nat.le_of_ble_eq_true rfl⟩ rfl rfl hl.1 (Nat.le_of_ble_eq_true rfl) ⟨Nat.le_of_ble_eq_true rfl, Nat.le_of_ble_eq_true rfl⟩ dX9_reflect_9) (fun H locs w => ?_)
    refine lv_if_eq (tgt := 19) F.1 F.2.1 dX9_reflect_12 (by decide) (fun c6 => ?_) (fun c6 => ?_)
    · replace hf := oi_t hf c6
      exact b_X9_reflect_19 F  _ _ _ _ w a1 a2 (lv_sub hl [0, 1, 2] rfl) hf
    · replace hf := oi_f hf c6
      refine lv_iconst (v := 0) F.1 F.2.1 dX9_reflect_15 (by decide) ?_
      refine lv_goto (tgt := 20) F.1 F.2.1 dX9_reflect_16 (by decide) ?_
      exact b_X9_reflect_20 F  _ _ _ _ w a1 a2 0 (lv_sub hl [0, 1, 2] rfl) hf
def f_X9_reflect (S : ST) (a1 : Int32) (a2 : Int32) : Option (Int32 × ST) := f_X9_reflect_0 S a1 a2
set_option maxHeartbeats 4000000 in
set_option maxRecDepth 100000 in
theorem k_X9_reflect (l : Launch) (x : CX) (S : ST) (a1 : Int32) (a2 : Int32) {res : Int32 × ST} (hf : f_X9_reflect S a1 a2 = some res) (sz : Nat) : Met l yX9_reflect (Cond.code yX9_reflect cX9_reflect 4 (some .int) :: GW) ({ frames := 2, cells := 0, slots := 0, locals := 42 } : Room) (PC x S sz [.ref (x.2.2 (80)), .int a1, .int a2]) (QI x res.2 res.1 sz) 0 0 (AA x sz) := by
  refine Met.ofW (cc := cX9_reflect) (maxL := 4) (ret := (some .int)) (by decide) rfl ?_
  intro p e s m args below meth c s₁ B hml hv
  obtain ⟨rfl, rfl, hPW⟩ := hv
  have F : MF p m meth c cX9_reflect 4 s _ RX9 (some .int) := MF.of B hml
  have w := WD.of hPW
  have hl := lv_entry ([.ref (x.2.2 (80)), .int a1, .int a2]) (n := 4) (Nat.le_of_ble_eq_true rfl)
  rw [lg_entry_eq]
  generalize (lg_sl ([.ref (x.2.2 (80)), .int a1, .int a2]) ++ List.replicate (4 - (lg_sl ([.ref (x.2.2 (80)), .int a1, .int a2])).length) Slot.unset).toArray = ls at hl ⊢
  have hl : lv_has ls 4 [(0, .ref (x.2.2 (80))), (1, .int a1), (2, .int a2)] := hl
  unfold f_X9_reflect at hf
  exact b_X9_reflect_0 F  _ _ _ _ w a1 a2 (lv_sub hl [0, 1, 2] rfl) hf
theorem cy_X9_divisor : CY yX9_divisor RX9 cX9_divisor 5 (some .int) 2 := ⟨q10, q1082, rfl, by decide, by decide, by decide +kernel⟩
def f_X9_divisor_4 : Nat → ST → Int32 → Int32 → Option (Int32 × ST)
  | 0, _, _, _ => none
  | n + 1, S, a2, a3 => (if a3 = 0 then some (a2, S) else oG (nz a3) (oL (a2 - a2 / a3 * a3) (fun (v3 : Int32) => (f_X9_divisor_4 n) S a3 v3)))
set_option maxHeartbeats 4000000 in
set_option maxRecDepth 100000 in
theorem b_X9_divisor_4 {p : Program} {l : Launch} {e : Env} {s : State} {m : MethodId} {args : Array Value} {below : List Frame} {meth : Method} {c : Code} {x : CX} {res : Int32 × ST} (F : MF p m meth c cX9_divisor 5 s args RX9 (some .int)) : ∀ (n : Nat), ∀ (H : Heap) (locs : List Loc) (ls : Array Slot) (S : ST), WD x s S H locs → ∀ (a2 : Int32) (a3 : Int32), lv_has ls 5 [(2, .int a2), (3, .int a3)] → f_X9_divisor_4 n S a2 a3 = some res → W p l e ({ frames := 0, cells := 0, slots := 0, locals := 0 } : Room) s m args below meth c H locs 0 0 (MQ below (QI x res.2 res.1 s.heap.size) args s 0 0 (AA x s.heap.size)) (F0 m 4 ls []) := by
  intro n
  induction n with
  | zero =>
    intro H locs ls S w a2 a3 hl hf
    have hf : (none : Option (Int32 × ST)) = some res := hf
    cases hf
  | succ n ih =>
    intro H locs ls S w a2 a3 hl hf
    unfold f_X9_divisor_4 at hf
    refine lv_iload_n F.1 F.2.1 dX9_divisor_4 rfl (lv_at hl 1 rfl) ?_
    refine lv_if_eq (tgt := 21) F.1 F.2.1 dX9_divisor_5 (by decide) (fun c1 => ?_) (fun c1 => ?_)
    · replace hf := oi_t hf c1
      refine lv_iload_n F.1 F.2.1 dX9_divisor_21 rfl (lv_at hl 0 rfl) ?_
      exact r_iret F w (oi_s hf) dX9_divisor_22
    · replace hf := oi_f hf c1
      refine lv_iload_n F.1 F.2.1 dX9_divisor_8 rfl (lv_at hl 0 rfl) ?_
      refine lv_iload_n F.1 F.2.1 dX9_divisor_9 rfl (lv_at hl 1 rfl) ?_
      obtain ⟨hz2, hf⟩ := oi_g hf
      refine lv_irem F.1 F.2.1 dX9_divisor_10 (nz_ne hz2) ?_
      refine lv_topi (fun v3 e_v3 => ?_)
      replace hf := oi_l hf e_v3
      refine lv_istore (lv' := [(4, .int v3), (2, .int a2), (3, .int a3)]) F.1 F.2.1 dX9_divisor_11 hl (by decide) rfl (fun ls hl => ?_)
      refine lv_iload_n F.1 F.2.1 dX9_divisor_13 rfl (lv_at hl 2 rfl) ?_
      refine lv_istore_n (lv' := [(2, .int a3), (4, .int v3), (3, .int a3)]) F.1 F.2.1 dX9_divisor_14 rfl hl (by decide) rfl (fun ls hl => ?_)
      refine lv_iload F.1 F.2.1 dX9_divisor_15 (lv_at hl 1 rfl) ?_
      refine lv_istore_n (lv' := [(3, .int v3), (2, .int a3), (4, .int v3)]) F.1 F.2.1 dX9_divisor_17 rfl hl (by decide) rfl (fun ls hl => ?_)
      refine lv_goto (tgt := 4) F.1 F.2.1 dX9_divisor_18 (by decide) ?_
      exact ih _ _ _ _ w a3 v3 (lv_sub hl [1, 0] rfl) hf
def f_X9_divisor_0 (S : ST) (a0 : Int32) (a1 : Int32) : Option (Int32 × ST) := f_X9_divisor_4 FU S a0 a1
set_option maxHeartbeats 4000000 in
set_option maxRecDepth 100000 in
theorem b_X9_divisor_0 {p : Program} {l : Launch} {e : Env} {s : State} {m : MethodId} {args : Array Value} {below : List Frame} {meth : Method} {c : Code} {x : CX} {res : Int32 × ST} (F : MF p m meth c cX9_divisor 5 s args RX9 (some .int)) : ∀ (H : Heap) (locs : List Loc) (ls : Array Slot) (S : ST), WD x s S H locs → ∀ (a0 : Int32) (a1 : Int32), lv_has ls 5 [(0, .int a0), (1, .int a1)] → f_X9_divisor_0 S a0 a1 = some res → W p l e ({ frames := 0, cells := 0, slots := 0, locals := 0 } : Room) s m args below meth c H locs 0 0 (MQ below (QI x res.2 res.1 s.heap.size) args s 0 0 (AA x s.heap.size)) (F0 m 0 ls []) := by
  intro H locs ls S w a0 a1 hl hf
  unfold f_X9_divisor_0 at hf
  refine lv_iload_n F.1 F.2.1 dX9_divisor_0 rfl (lv_at hl 0 rfl) ?_
  refine lv_istore_n (lv' := [(2, .int a0), (0, .int a0), (1, .int a1)]) F.1 F.2.1 dX9_divisor_1 rfl hl (by decide) rfl (fun ls hl => ?_)
  refine lv_iload_n F.1 F.2.1 dX9_divisor_2 rfl (lv_at hl 2 rfl) ?_
  refine lv_istore_n (lv' := [(3, .int a1), (2, .int a0), (0, .int a0), (1, .int a1)]) F.1 F.2.1 dX9_divisor_3 rfl hl (by decide) rfl (fun ls hl => ?_)
  exact b_X9_divisor_4 F FU _ _ _ _ w a0 a1 (lv_sub hl [1, 0] rfl) hf
def f_X9_divisor (S : ST) (a0 : Int32) (a1 : Int32) : Option (Int32 × ST) := f_X9_divisor_0 S a0 a1
set_option maxHeartbeats 4000000 in
set_option maxRecDepth 100000 in
theorem k_X9_divisor (l : Launch) (x : CX) (S : ST) (a0 : Int32) (a1 : Int32) {res : Int32 × ST} (hf : f_X9_divisor S a0 a1 = some res) (sz : Nat) : Met l yX9_divisor (Cond.code yX9_divisor cX9_divisor 5 (some .int) :: GW) ({ frames := 0, cells := 0, slots := 0, locals := 0 } : Room) (PC x S sz [.int a0, .int a1]) (QI x res.2 res.1 sz) 0 0 (AA x sz) := by
  refine Met.ofW (cc := cX9_divisor) (maxL := 5) (ret := (some .int)) (by decide) rfl ?_
  intro p e s m args below meth c s₁ B hml hv
  obtain ⟨rfl, rfl, hPW⟩ := hv
  have F : MF p m meth c cX9_divisor 5 s _ RX9 (some .int) := MF.of B hml
  have w := WD.of hPW
  have hl := lv_entry ([.int a0, .int a1]) (n := 5) (Nat.le_of_ble_eq_true rfl)
  rw [lg_entry_eq]
  generalize (lg_sl ([.int a0, .int a1]) ++ List.replicate (5 - (lg_sl ([.int a0, .int a1])).length) Slot.unset).toArray = ls at hl ⊢
  have hl : lv_has ls 5 [(0, .int a0), (1, .int a1)] := hl
  unfold f_X9_divisor at hf
  exact b_X9_divisor_0 F  _ _ _ _ w a0 a1 (lv_sub hl [0, 1] rfl) hf
theorem cy_X9_liesOn : CY yX9_liesOn RX9 cX9_liesOn 6 (some .boolean) 3 := ⟨q10, q1090, rfl, by decide, by decide, by decide +kernel⟩
def f_X9_liesOn_50 (k6 : ST → Int32 → Int32 → Int32 → Int32 → Int32 → Option (Int32 × ST)) (S : ST) (a1 : Int32) (a2 : Int32) (a3 : Int32) (a5 : Int32) (as0 : Int32) : Option (Int32 × ST) := oL (a5 + 1) (fun (v1 : Int32) => k6 S a1 a2 a3 as0 v1)
set_option maxHeartbeats 4000000 in
set_option maxRecDepth 100000 in
theorem b_X9_liesOn_50 {p : Program} {l : Launch} {e : Env} {s : State} {m : MethodId} {args : Array Value} {below : List Frame} {meth : Method} {c : Code} {x : CX} {res : Int32 × ST} (F : MF p m meth c cX9_liesOn 6 s args RX9 (some .boolean)) (k6 : ST → Int32 → Int32 → Int32 → Int32 → Int32 → Option (Int32 × ST)) (hk6 : ∀ (H : Heap) (locs : List Loc) (ls : Array Slot) (S : ST), WD x s S H locs → ∀ (a1 : Int32) (a2 : Int32) (a3 : Int32) (a4 : Int32) (a5 : Int32), lv_has ls 6 [(0, .ref (x.2.2 (80))), (1, .int a1), (2, .int a2), (3, .int a3), (4, .int a4), (5, .int a5)] → k6 S a1 a2 a3 a4 a5 = some res → W p l e ({ frames := 2, cells := 0, slots := 0, locals := 46 } : Room) s m args below meth c H locs 0 0 (MQ below (QI x res.2 res.1 s.heap.size) args s 0 0 (AA x s.heap.size)) (F0 m 6 ls [])) : ∀ (H : Heap) (locs : List Loc) (ls : Array Slot) (S : ST), WD x s S H locs → ∀ (a1 : Int32) (a2 : Int32) (a3 : Int32) (a5 : Int32) (as0 : Int32), lv_has ls 6 [(0, .ref (x.2.2 (80))), (1, .int a1), (2, .int a2), (3, .int a3), (5, .int a5)] → f_X9_liesOn_50 k6 S a1 a2 a3 a5 as0 = some res → W p l e ({ frames := 2, cells := 0, slots := 0, locals := 46 } : Room) s m args below meth c H locs 0 0 (MQ below (QI x res.2 res.1 s.heap.size) args s 0 0 (AA x s.heap.size)) (F0 m 50 ls [.int as0]) := by
  intro H locs ls S w a1 a2 a3 a5 as0 hl hf
  unfold f_X9_liesOn_50 at hf
  refine lv_istore (lv' := [(4, .int as0), (0, .ref (x.2.2 (80))), (1, .int a1), (2, .int a2), (3, .int a3), (5, .int a5)]) F.1 F.2.1 dX9_liesOn_50 hl (by decide) rfl (fun ls hl => ?_)
  obtain ⟨v1, e_v1⟩ : ∃ y : Int32, y = (a5 + 1) := ⟨_, rfl⟩
  replace hf := oi_l hf e_v1
  refine lv_iinc (v := v1) (lv' := [(5, .int v1), (4, .int as0), (0, .ref (x.2.2 (80))), (1, .int a1), (2, .int a2), (3, .int a3)]) F.1 F.2.1 dX9_liesOn_52 hl (k := 5) rfl (by rw [e_v1]; rfl) (by decide) rfl (fun ls hl => ?_)
  refine lv_goto (tgt := 6) F.1 F.2.1 dX9_liesOn_55 (by decide) ?_
  exact hk6 _ _ _ _ w a1 a2 a3 as0 v1 (lv_sub hl [2, 3, 4, 5, 1, 0] rfl) hf
def f_X9_liesOn_58 (S : ST) (a4 : Int32) : Option (Int32 × ST) := oG (isB a4) (some (a4, S))
set_option maxHeartbeats 4000000 in
set_option maxRecDepth 100000 in
theorem b_X9_liesOn_58 {p : Program} {l : Launch} {e : Env} {s : State} {m : MethodId} {args : Array Value} {below : List Frame} {meth : Method} {c : Code} {x : CX} {res : Int32 × ST} (F : MF p m meth c cX9_liesOn 6 s args RX9 (some .boolean)) : ∀ (H : Heap) (locs : List Loc) (ls : Array Slot) (S : ST), WD x s S H locs → ∀ (a4 : Int32), lv_has ls 6 [(4, .int a4)] → f_X9_liesOn_58 S a4 = some res → W p l e ({ frames := 2, cells := 0, slots := 0, locals := 46 } : Room) s m args below meth c H locs 0 0 (MQ below (QI x res.2 res.1 s.heap.size) args s 0 0 (AA x s.heap.size)) (F0 m 58 ls []) := by
  intro H locs ls S w a4 hl hf
  unfold f_X9_liesOn_58 at hf
  refine lv_iload F.1 F.2.1 dX9_liesOn_58 (lv_at hl 0 rfl) ?_
  obtain ⟨hz1, hf⟩ := oi_g hf
  exact r_zret F w (isB_nar hz1) (oi_s hf) dX9_liesOn_60
def f_X9_liesOn_6 : Nat → ST → Int32 → Int32 → Int32 → Int32 → Int32 → Option (Int32 × ST)
  | 0, _, _, _, _, _, _ => none
  | n + 1, S, a1, a2, a3, a4, a5 => oB (f_X9_many S a1) (fun (r2 : Int32) (S1 : ST) => (if r2 ≤ a5 then f_X9_liesOn_58 S1 a4 else (if a4 = 0 then f_X9_liesOn_58 S1 a4 else oB (f_X9_markAt S1 a1 a5) (fun (r6 : Int32) (S5 : ST) => oB (f_X9_around S5 ((a2 * r6) - a3)) (fun (r8 : Int32) (S7 : ST) => oB (f_X9_numberOf S7 a1 r8) (fun (r10 : Int32) (S9 : ST) => (if r10 = (-1) then f_X9_liesOn_50 (f_X9_liesOn_6 n) S9 a1 a2 a3 a5 0 else f_X9_liesOn_50 (f_X9_liesOn_6 n) S9 a1 a2 a3 a5 1)))))))
set_option maxHeartbeats 4000000 in
set_option maxRecDepth 100000 in
theorem b_X9_liesOn_6 {p : Program} {l : Launch} {e : Env} {s : State} {m : MethodId} {args : Array Value} {below : List Frame} {meth : Method} {c : Code} {x : CX} {res : Int32 × ST} (F : MF p m meth c cX9_liesOn 6 s args RX9 (some .boolean)) : ∀ (n : Nat), ∀ (H : Heap) (locs : List Loc) (ls : Array Slot) (S : ST), WD x s S H locs → ∀ (a1 : Int32) (a2 : Int32) (a3 : Int32) (a4 : Int32) (a5 : Int32), lv_has ls 6 [(0, .ref (x.2.2 (80))), (1, .int a1), (2, .int a2), (3, .int a3), (4, .int a4), (5, .int a5)] → f_X9_liesOn_6 n S a1 a2 a3 a4 a5 = some res → W p l e ({ frames := 2, cells := 0, slots := 0, locals := 46 } : Room) s m args below meth c H locs 0 0 (MQ below (QI x res.2 res.1 s.heap.size) args s 0 0 (AA x s.heap.size)) (F0 m 6 ls []) := by
  intro n
  induction n with
  | zero =>
    intro H locs ls S w a1 a2 a3 a4 a5 hl hf
    have hf : (none : Option (Int32 × ST)) = some res := hf
    cases hf
  | succ n ih =>
    intro H locs ls S w a1 a2 a3 a4 a5 hl hf
    unfold f_X9_liesOn_6 at hf
    refine lv_iload F.1 F.2.1 dX9_liesOn_6 (lv_at hl 5 rfl) ?_
    refine lv_aload_n F.1 F.2.1 dX9_liesOn_8 rfl (lv_at hl 0 rfl) ?_
    refine lv_iload_n F.1 F.2.1 dX9_liesOn_9 rfl (lv_at hl 1 rfl) ?_
    obtain ⟨r2, S1, hc, hf⟩ := oi_b hf
    refine k_i0 (S' := S1) (r := r2) w (runV (As := [.int a1]) (rest := [.int a5]) (kb := 80) F w (k_X9_many l x S a1 hc H.size) cy_X9_many q920 q922 qp21 ⟨rfl, rfl⟩ ⟨Nat.le_of_ble_eq_true rfl, Nat.le_of_ble_eq_true rfl⟩ (by decide) rfl rfl rfl rfl hl.1 (Nat.le_of_ble_eq_true rfl) ⟨Nat.le_of_ble_eq_true rfl, Nat.le_of_ble_eq_true rfl⟩ dX9_liesOn_10) (fun H locs w => ?_)
    refine lv_icmp_ge (tgt := 58) F.1 F.2.1 dX9_liesOn_13 (by decide) (fun c3 => ?_) (fun c3 => ?_)
    · replace hf := oi_t hf c3
      exact b_X9_liesOn_58 F  _ _ _ _ w a4 (lv_sub hl [4] rfl) hf
    · replace hf := oi_f hf c3
      refine lv_iload F.1 F.2.1 dX9_liesOn_16 (lv_at hl 4 rfl) ?_
      refine lv_if_eq (tgt := 58) F.1 F.2.1 dX9_liesOn_18 (by decide) (fun c4 => ?_) (fun c4 => ?_)
      · replace hf := oi_t hf c4
        exact b_X9_liesOn_58 F  _ _ _ _ w a4 (lv_sub hl [4] rfl) hf
      · replace hf := oi_f hf c4
        refine lv_aload_n F.1 F.2.1 dX9_liesOn_21 rfl (lv_at hl 0 rfl) ?_
        refine lv_iload_n F.1 F.2.1 dX9_liesOn_22 rfl (lv_at hl 1 rfl) ?_
        refine lv_aload_n F.1 F.2.1 dX9_liesOn_23 rfl (lv_at hl 0 rfl) ?_
        refine lv_iload_n F.1 F.2.1 dX9_liesOn_24 rfl (lv_at hl 2 rfl) ?_
        refine lv_aload_n F.1 F.2.1 dX9_liesOn_25 rfl (lv_at hl 0 rfl) ?_
        refine lv_iload_n F.1 F.2.1 dX9_liesOn_26 rfl (lv_at hl 1 rfl) ?_
        refine lv_iload F.1 F.2.1 dX9_liesOn_27 (lv_at hl 5 rfl) ?_
        obtain ⟨r6, S5, hc, hf⟩ := oi_b hf
        refine k_i0 (S' := S5) (r := r6) w (runV (As := [.int a1, .int a5]) (rest := [.int a2, .ref (x.2.2 (80)), .int a1, .ref (x.2.2 (80))]) (kb := 80) F w (k_X9_markAt l x S1 a1 a5 hc H.size) cy_X9_markAt q924 q926 qp22 ⟨rfl, rfl⟩ ⟨Nat.le_of_ble_eq_true rfl, Nat.le_of_ble_eq_true rfl⟩ (by decide) rfl rfl rfl rfl hl.1 (Nat.le_of_ble_eq_true rfl) ⟨Nat.le_of_ble_eq_true rfl, Nat.le_of_ble_eq_true rfl⟩ dX9_liesOn_29) (fun H locs w => ?_)
        refine lv_imul F.1 F.2.1 dX9_liesOn_32 ?_
        refine lv_iload_n F.1 F.2.1 dX9_liesOn_33 rfl (lv_at hl 3 rfl) ?_
        refine lv_isub F.1 F.2.1 dX9_liesOn_34 ?_
        obtain ⟨r8, S7, hc, hf⟩ := oi_b hf
        refine k_i0 (S' := S7) (r := r8) w (runV (As := [.int ((a2 * r6) - a3)]) (rest := [.int a1, .ref (x.2.2 (80))]) (kb := 80) F w (k_X9_around l x S5 ((a2 * r6) - a3) hc H.size) cy_X9_around q1040 q1042 qp38 ⟨rfl, rfl⟩ ⟨Nat.le_of_ble_eq_true rfl, Nat.le_of_ble_eq_true rfl⟩ (by decide) rfl rfl rfl rfl hl.1 (Nat.le_of_ble_eq_true rfl) ⟨Nat.le_of_ble_eq_true rfl, Nat.le_of_ble_eq_true rfl⟩ dX9_liesOn_35) (fun H locs w => ?_)
        obtain ⟨r10, S9, hc, hf⟩ := oi_b hf
        refine k_i0 (S' := S9) (r := r10) w (runV (As := [.int a1, .int r8]) (rest := []) (kb := 80) F w (k_X9_numberOf l x S7 a1 r8 hc H.size) cy_X9_numberOf q916 q918 qp20 ⟨rfl, rfl⟩ ⟨Nat.le_of_ble_eq_true rfl, Nat.le_of_ble_eq_true rfl⟩ (by decide) rfl rfl rfl rfl hl.1 (Nat.le_of_ble_eq_true rfl) ⟨Nat.le_of_ble_eq_true rfl, Nat.le_of_ble_eq_true rfl⟩ dX9_liesOn_38) (fun H locs w => ?_)
        refine lv_iconst (v := (-1)) F.1 F.2.1 dX9_liesOn_41 (by decide) ?_
        refine lv_icmp_eq (tgt := 49) F.1 F.2.1 dX9_liesOn_42 (by decide) (fun c11 => ?_) (fun c11 => ?_)
        · replace hf := oi_t hf c11
          refine lv_iconst (v := 0) F.1 F.2.1 dX9_liesOn_49 (by decide) ?_
          exact b_X9_liesOn_50 F (f_X9_liesOn_6 n) ih _ _ _ _ w a1 a2 a3 a5 0 (lv_sub hl [0, 1, 2, 3, 5] rfl) hf
        · replace hf := oi_f hf c11
          refine lv_iconst (v := 1) F.1 F.2.1 dX9_liesOn_45 (by decide) ?_
          refine lv_goto (tgt := 50) F.1 F.2.1 dX9_liesOn_46 (by decide) ?_
          exact b_X9_liesOn_50 F (f_X9_liesOn_6 n) ih _ _ _ _ w a1 a2 a3 a5 1 (lv_sub hl [0, 1, 2, 3, 5] rfl) hf
def f_X9_liesOn_0 (S : ST) (a1 : Int32) (a2 : Int32) (a3 : Int32) : Option (Int32 × ST) := f_X9_liesOn_6 FU S a1 a2 a3 1 0
set_option maxHeartbeats 4000000 in
set_option maxRecDepth 100000 in
theorem b_X9_liesOn_0 {p : Program} {l : Launch} {e : Env} {s : State} {m : MethodId} {args : Array Value} {below : List Frame} {meth : Method} {c : Code} {x : CX} {res : Int32 × ST} (F : MF p m meth c cX9_liesOn 6 s args RX9 (some .boolean)) : ∀ (H : Heap) (locs : List Loc) (ls : Array Slot) (S : ST), WD x s S H locs → ∀ (a1 : Int32) (a2 : Int32) (a3 : Int32), lv_has ls 6 [(0, .ref (x.2.2 (80))), (1, .int a1), (2, .int a2), (3, .int a3)] → f_X9_liesOn_0 S a1 a2 a3 = some res → W p l e ({ frames := 2, cells := 0, slots := 0, locals := 46 } : Room) s m args below meth c H locs 0 0 (MQ below (QI x res.2 res.1 s.heap.size) args s 0 0 (AA x s.heap.size)) (F0 m 0 ls []) := by
  intro H locs ls S w a1 a2 a3 hl hf
  unfold f_X9_liesOn_0 at hf
  refine lv_iconst (v := 1) F.1 F.2.1 dX9_liesOn_0 (by decide) ?_
  refine lv_istore (lv' := [(4, .int 1), (0, .ref (x.2.2 (80))), (1, .int a1), (2, .int a2), (3, .int a3)]) F.1 F.2.1 dX9_liesOn_1 hl (by decide) rfl (fun ls hl => ?_)
  refine lv_iconst (v := 0) F.1 F.2.1 dX9_liesOn_3 (by decide) ?_
  refine lv_istore (lv' := [(5, .int 0), (4, .int 1), (0, .ref (x.2.2 (80))), (1, .int a1), (2, .int a2), (3, .int a3)]) F.1 F.2.1 dX9_liesOn_4 hl (by decide) rfl (fun ls hl => ?_)
  exact b_X9_liesOn_6 F FU _ _ _ _ w a1 a2 a3 1 0 (lv_sub hl [2, 3, 4, 5, 1, 0] rfl) hf
def f_X9_liesOn (S : ST) (a1 : Int32) (a2 : Int32) (a3 : Int32) : Option (Int32 × ST) := f_X9_liesOn_0 S a1 a2 a3
set_option maxHeartbeats 4000000 in
set_option maxRecDepth 100000 in
theorem k_X9_liesOn (l : Launch) (x : CX) (S : ST) (a1 : Int32) (a2 : Int32) (a3 : Int32) {res : Int32 × ST} (hf : f_X9_liesOn S a1 a2 a3 = some res) (sz : Nat) : Met l yX9_liesOn (Cond.code yX9_liesOn cX9_liesOn 6 (some .boolean) :: GW) ({ frames := 2, cells := 0, slots := 0, locals := 46 } : Room) (PC x S sz [.ref (x.2.2 (80)), .int a1, .int a2, .int a3]) (QI x res.2 res.1 sz) 0 0 (AA x sz) := by
  refine Met.ofW (cc := cX9_liesOn) (maxL := 6) (ret := (some .boolean)) (by decide) rfl ?_
  intro p e s m args below meth c s₁ B hml hv
  obtain ⟨rfl, rfl, hPW⟩ := hv
  have F : MF p m meth c cX9_liesOn 6 s _ RX9 (some .boolean) := MF.of B hml
  have w := WD.of hPW
  have hl := lv_entry ([.ref (x.2.2 (80)), .int a1, .int a2, .int a3]) (n := 6) (Nat.le_of_ble_eq_true rfl)
  rw [lg_entry_eq]
  generalize (lg_sl ([.ref (x.2.2 (80)), .int a1, .int a2, .int a3]) ++ List.replicate (6 - (lg_sl ([.ref (x.2.2 (80)), .int a1, .int a2, .int a3])).length) Slot.unset).toArray = ls at hl ⊢
  have hl : lv_has ls 6 [(0, .ref (x.2.2 (80))), (1, .int a1), (2, .int a2), (3, .int a3)] := hl
  unfold f_X9_liesOn at hf
  exact b_X9_liesOn_0 F  _ _ _ _ w a1 a2 a3 (lv_sub hl [0, 1, 2, 3] rfl) hf
theorem cy_X9_multiplies : CY yX9_multiplies RX9 cX9_multiplies 5 (some .boolean) 2 := ⟨q10, q1086, rfl, by decide, by decide, by decide +kernel⟩
def f_X9_multiplies_64 (S : ST) (a3 : Int32) : Option (Int32 × ST) := oG (isB a3) (some (a3, S))
set_option maxHeartbeats 4000000 in
set_option maxRecDepth 100000 in
theorem b_X9_multiplies_64 {p : Program} {l : Launch} {e : Env} {s : State} {m : MethodId} {args : Array Value} {below : List Frame} {meth : Method} {c : Code} {x : CX} {res : Int32 × ST} (F : MF p m meth c cX9_multiplies 5 s args RX9 (some .boolean)) : ∀ (H : Heap) (locs : List Loc) (ls : Array Slot) (S : ST), WD x s S H locs → ∀ (a3 : Int32), lv_has ls 5 [(3, .int a3)] → f_X9_multiplies_64 S a3 = some res → W p l e ({ frames := 3, cells := 0, slots := 0, locals := 71 } : Room) s m args below meth c H locs 0 0 (MQ below (QI x res.2 res.1 s.heap.size) args s 0 0 (AA x s.heap.size)) (F0 m 64 ls []) := by
  intro H locs ls S w a3 hl hf
  unfold f_X9_multiplies_64 at hf
  refine lv_iload_n F.1 F.2.1 dX9_multiplies_64 rfl (lv_at hl 0 rfl) ?_
  obtain ⟨hz1, hf⟩ := oi_g hf
  exact r_zret F w (isB_nar hz1) (oi_s hf) dX9_multiplies_65
def f_X9_multiplies_17 : Nat → ST → Int32 → Int32 → Int32 → Int32 → Option (Int32 × ST)
  | 0, _, _, _, _, _ => none
  | n + 1, S, a1, a2, a3, a4 => oB (f_X9_many S a1) (fun (r2 : Int32) (S1 : ST) => (if r2 ≤ a4 then f_X9_multiplies_64 S1 a3 else (if a3 = 0 then oB (f_X9_markAt S1 a1 0) (fun (r6 : Int32) (S5 : ST) => oB (f_X9_markAt S5 a1 a4) (fun (r8 : Int32) (S7 : ST) => oB (f_X9_around S7 ((a2 * r6) - r8)) (fun (r10 : Int32) (S9 : ST) => oB (f_X9_liesOn S9 a1 a2 r10) (fun (r12 : Int32) (S11 : ST) => oL (a4 + 1) (fun (v13 : Int32) => (f_X9_multiplies_17 n) S11 a1 a2 r12 v13))))) else f_X9_multiplies_64 S1 a3)))
set_option maxHeartbeats 4000000 in
set_option maxRecDepth 100000 in
theorem b_X9_multiplies_17 {p : Program} {l : Launch} {e : Env} {s : State} {m : MethodId} {args : Array Value} {below : List Frame} {meth : Method} {c : Code} {x : CX} {res : Int32 × ST} (F : MF p m meth c cX9_multiplies 5 s args RX9 (some .boolean)) : ∀ (n : Nat), ∀ (H : Heap) (locs : List Loc) (ls : Array Slot) (S : ST), WD x s S H locs → ∀ (a1 : Int32) (a2 : Int32) (a3 : Int32) (a4 : Int32), lv_has ls 5 [(0, .ref (x.2.2 (80))), (1, .int a1), (2, .int a2), (3, .int a3), (4, .int a4)] → f_X9_multiplies_17 n S a1 a2 a3 a4 = some res → W p l e ({ frames := 3, cells := 0, slots := 0, locals := 71 } : Room) s m args below meth c H locs 0 0 (MQ below (QI x res.2 res.1 s.heap.size) args s 0 0 (AA x s.heap.size)) (F0 m 17 ls []) := by
  intro n
  induction n with
  | zero =>
    intro H locs ls S w a1 a2 a3 a4 hl hf
    have hf : (none : Option (Int32 × ST)) = some res := hf
    cases hf
  | succ n ih =>
    intro H locs ls S w a1 a2 a3 a4 hl hf
    unfold f_X9_multiplies_17 at hf
    refine lv_iload F.1 F.2.1 dX9_multiplies_17 (lv_at hl 4 rfl) ?_
    refine lv_aload_n F.1 F.2.1 dX9_multiplies_19 rfl (lv_at hl 0 rfl) ?_
    refine lv_iload_n F.1 F.2.1 dX9_multiplies_20 rfl (lv_at hl 1 rfl) ?_
    obtain ⟨r2, S1, hc, hf⟩ := oi_b hf
    refine k_i0 (S' := S1) (r := r2) w (runV (As := [.int a1]) (rest := [.int a4]) (kb := 80) F w (k_X9_many l x S a1 hc H.size) cy_X9_many q920 q922 qp21 ⟨rfl, rfl⟩ ⟨Nat.le_of_ble_eq_true rfl, Nat.le_of_ble_eq_true rfl⟩ (by decide) rfl rfl rfl rfl hl.1 (Nat.le_of_ble_eq_true rfl) ⟨Nat.le_of_ble_eq_true rfl, Nat.le_of_ble_eq_true rfl⟩ dX9_multiplies_21) (fun H locs w => ?_)
    refine lv_icmp_ge (tgt := 64) F.1 F.2.1 dX9_multiplies_24 (by decide) (fun c3 => ?_) (fun c3 => ?_)
    · replace hf := oi_t hf c3
      exact b_X9_multiplies_64 F  _ _ _ _ w a3 (lv_sub hl [3] rfl) hf
    · replace hf := oi_f hf c3
      refine lv_iload_n F.1 F.2.1 dX9_multiplies_27 rfl (lv_at hl 3 rfl) ?_
      refine lv_if_ne (tgt := 64) F.1 F.2.1 dX9_multiplies_28 (by decide) (fun c4 => ?_) (fun c4 => ?_)
      · replace hf := oi_f hf c4
        exact b_X9_multiplies_64 F  _ _ _ _ w a3 (lv_sub hl [3] rfl) hf
      · replace hf := oi_t hf c4
        refine lv_aload_n F.1 F.2.1 dX9_multiplies_31 rfl (lv_at hl 0 rfl) ?_
        refine lv_iload_n F.1 F.2.1 dX9_multiplies_32 rfl (lv_at hl 1 rfl) ?_
        refine lv_iload_n F.1 F.2.1 dX9_multiplies_33 rfl (lv_at hl 2 rfl) ?_
        refine lv_aload_n F.1 F.2.1 dX9_multiplies_34 rfl (lv_at hl 0 rfl) ?_
        refine lv_iload_n F.1 F.2.1 dX9_multiplies_35 rfl (lv_at hl 2 rfl) ?_
        refine lv_aload_n F.1 F.2.1 dX9_multiplies_36 rfl (lv_at hl 0 rfl) ?_
        refine lv_iload_n F.1 F.2.1 dX9_multiplies_37 rfl (lv_at hl 1 rfl) ?_
        refine lv_iconst (v := 0) F.1 F.2.1 dX9_multiplies_38 (by decide) ?_
        obtain ⟨r6, S5, hc, hf⟩ := oi_b hf
        refine k_i0 (S' := S5) (r := r6) w (runV (As := [.int a1, .int 0]) (rest := [.int a2, .ref (x.2.2 (80)), .int a2, .int a1, .ref (x.2.2 (80))]) (kb := 80) F w (k_X9_markAt l x S1 a1 0 hc H.size) cy_X9_markAt q924 q926 qp22 ⟨rfl, rfl⟩ ⟨Nat.le_of_ble_eq_true rfl, Nat.le_of_ble_eq_true rfl⟩ (by decide) rfl rfl rfl rfl hl.1 (Nat.le_of_ble_eq_true rfl) ⟨Nat.le_of_ble_eq_true rfl, Nat.le_of_ble_eq_true rfl⟩ dX9_multiplies_39) (fun H locs w => ?_)
        refine lv_imul F.1 F.2.1 dX9_multiplies_42 ?_
        refine lv_aload_n F.1 F.2.1 dX9_multiplies_43 rfl (lv_at hl 0 rfl) ?_
        refine lv_iload_n F.1 F.2.1 dX9_multiplies_44 rfl (lv_at hl 1 rfl) ?_
        refine lv_iload F.1 F.2.1 dX9_multiplies_45 (lv_at hl 4 rfl) ?_
        obtain ⟨r8, S7, hc, hf⟩ := oi_b hf
        refine k_i0 (S' := S7) (r := r8) w (runV (As := [.int a1, .int a4]) (rest := [.int (a2 * r6), .ref (x.2.2 (80)), .int a2, .int a1, .ref (x.2.2 (80))]) (kb := 80) F w (k_X9_markAt l x S5 a1 a4 hc H.size) cy_X9_markAt q924 q926 qp22 ⟨rfl, rfl⟩ ⟨Nat.le_of_ble_eq_true rfl, Nat.le_of_ble_eq_true rfl⟩ (by decide) rfl rfl rfl rfl hl.1 (Nat.le_of_ble_eq_true rfl) ⟨Nat.le_of_ble_eq_true rfl, Nat.le_of_ble_eq_true rfl⟩ dX9_multiplies_47) (fun H locs w => ?_)
        refine lv_isub F.1 F.2.1 dX9_multiplies_50 ?_
        obtain ⟨r10, S9, hc, hf⟩ := oi_b hf
        refine k_i0 (S' := S9) (r := r10) w (runV (As := [.int ((a2 * r6) - r8)]) (rest := [.int a2, .int a1, .ref (x.2.2 (80))]) (kb := 80) F w (k_X9_around l x S7 ((a2 * r6) - r8) hc H.size) cy_X9_around q1040 q1042 qp38 ⟨rfl, rfl⟩ ⟨Nat.le_of_ble_eq_true rfl, Nat.le_of_ble_eq_true rfl⟩ (by decide) rfl rfl rfl rfl hl.1 (Nat.le_of_ble_eq_true rfl) ⟨Nat.le_of_ble_eq_true rfl, Nat.le_of_ble_eq_true rfl⟩ dX9_multiplies_51) (fun H locs w => ?_)
        obtain ⟨r12, S11, hc, hf⟩ := oi_b hf
        refine k_i0 (S' := S11) (r := r12) w (runV (As := [.int a1, .int a2, .int r10]) (rest := []) (kb := 80) F w (k_X9_liesOn l x S9 a1 a2 r10 hc H.size) cy_X9_liesOn q1087 q1089 qp43 ⟨rfl, rfl⟩ ⟨Nat.le_of_ble_eq_true rfl, Nat.le_of_ble_eq_true rfl⟩ (by decide) rfl rfl rfl rfl hl.1 (Nat.le_of_ble_eq_true rfl) ⟨Nat.le_of_ble_eq_true rfl, Nat.le_of_ble_eq_true rfl⟩ dX9_multiplies_54) (fun H locs w => ?_)
        refine lv_istore_n (lv' := [(3, .int r12), (0, .ref (x.2.2 (80))), (1, .int a1), (2, .int a2), (4, .int a4)]) F.1 F.2.1 dX9_multiplies_57 rfl hl (by decide) rfl (fun ls hl => ?_)
        obtain ⟨v13, e_v13⟩ : ∃ y : Int32, y = (a4 + 1) := ⟨_, rfl⟩
        replace hf := oi_l hf e_v13
        refine lv_iinc (v := v13) (lv' := [(4, .int v13), (3, .int r12), (0, .ref (x.2.2 (80))), (1, .int a1), (2, .int a2)]) F.1 F.2.1 dX9_multiplies_58 hl (k := 4) rfl (by rw [e_v13]; rfl) (by decide) rfl (fun ls hl => ?_)
        refine lv_goto (tgt := 17) F.1 F.2.1 dX9_multiplies_61 (by decide) ?_
        exact ih _ _ _ _ w a1 a2 r12 v13 (lv_sub hl [2, 3, 4, 1, 0] rfl) hf
def f_X9_multiplies_13 (S : ST) (a1 : Int32) (a2 : Int32) (as0 : Int32) : Option (Int32 × ST) := f_X9_multiplies_17 FU S a1 a2 as0 0
set_option maxHeartbeats 4000000 in
set_option maxRecDepth 100000 in
theorem b_X9_multiplies_13 {p : Program} {l : Launch} {e : Env} {s : State} {m : MethodId} {args : Array Value} {below : List Frame} {meth : Method} {c : Code} {x : CX} {res : Int32 × ST} (F : MF p m meth c cX9_multiplies 5 s args RX9 (some .boolean)) : ∀ (H : Heap) (locs : List Loc) (ls : Array Slot) (S : ST), WD x s S H locs → ∀ (a1 : Int32) (a2 : Int32) (as0 : Int32), lv_has ls 5 [(0, .ref (x.2.2 (80))), (1, .int a1), (2, .int a2)] → f_X9_multiplies_13 S a1 a2 as0 = some res → W p l e ({ frames := 3, cells := 0, slots := 0, locals := 71 } : Room) s m args below meth c H locs 0 0 (MQ below (QI x res.2 res.1 s.heap.size) args s 0 0 (AA x s.heap.size)) (F0 m 13 ls [.int as0]) := by
  intro H locs ls S w a1 a2 as0 hl hf
  unfold f_X9_multiplies_13 at hf
  refine lv_istore_n (lv' := [(3, .int as0), (0, .ref (x.2.2 (80))), (1, .int a1), (2, .int a2)]) F.1 F.2.1 dX9_multiplies_13 rfl hl (by decide) rfl (fun ls hl => ?_)
  refine lv_iconst (v := 0) F.1 F.2.1 dX9_multiplies_14 (by decide) ?_
  refine lv_istore (lv' := [(4, .int 0), (3, .int as0), (0, .ref (x.2.2 (80))), (1, .int a1), (2, .int a2)]) F.1 F.2.1 dX9_multiplies_15 hl (by decide) rfl (fun ls hl => ?_)
  exact b_X9_multiplies_17 F FU _ _ _ _ w a1 a2 as0 0 (lv_sub hl [2, 3, 4, 1, 0] rfl) hf
def f_X9_multiplies_0 (S : ST) (a1 : Int32) (a2 : Int32) : Option (Int32 × ST) := oB (f_X9_many S a1) (fun (r2 : Int32) (S1 : ST) => (if r2 = 0 then f_X9_multiplies_13 S1 a1 a2 1 else f_X9_multiplies_13 S1 a1 a2 0))
set_option maxHeartbeats 4000000 in
set_option maxRecDepth 100000 in
theorem b_X9_multiplies_0 {p : Program} {l : Launch} {e : Env} {s : State} {m : MethodId} {args : Array Value} {below : List Frame} {meth : Method} {c : Code} {x : CX} {res : Int32 × ST} (F : MF p m meth c cX9_multiplies 5 s args RX9 (some .boolean)) : ∀ (H : Heap) (locs : List Loc) (ls : Array Slot) (S : ST), WD x s S H locs → ∀ (a1 : Int32) (a2 : Int32), lv_has ls 5 [(0, .ref (x.2.2 (80))), (1, .int a1), (2, .int a2)] → f_X9_multiplies_0 S a1 a2 = some res → W p l e ({ frames := 3, cells := 0, slots := 0, locals := 71 } : Room) s m args below meth c H locs 0 0 (MQ below (QI x res.2 res.1 s.heap.size) args s 0 0 (AA x s.heap.size)) (F0 m 0 ls []) := by
  intro H locs ls S w a1 a2 hl hf
  unfold f_X9_multiplies_0 at hf
  refine lv_aload_n F.1 F.2.1 dX9_multiplies_0 rfl (lv_at hl 0 rfl) ?_
  refine lv_iload_n F.1 F.2.1 dX9_multiplies_1 rfl (lv_at hl 1 rfl) ?_
  obtain ⟨r2, S1, hc, hf⟩ := oi_b hf
  refine k_i0 (S' := S1) (r := r2) w (runV (As := [.int a1]) (rest := []) (kb := 80) F w (k_X9_many l x S a1 hc H.size) cy_X9_many q920 q922 qp21 ⟨rfl, rfl⟩ ⟨Nat.le_of_ble_eq_true rfl, Nat.le_of_ble_eq_true rfl⟩ (by decide) rfl rfl rfl rfl hl.1 (Nat.le_of_ble_eq_true rfl) ⟨Nat.le_of_ble_eq_true rfl, Nat.le_of_ble_eq_true rfl⟩ dX9_multiplies_2) (fun H locs w => ?_)
  refine lv_if_ne (tgt := 12) F.1 F.2.1 dX9_multiplies_5 (by decide) (fun c3 => ?_) (fun c3 => ?_)
  · replace hf := oi_f hf c3
    refine lv_iconst (v := 0) F.1 F.2.1 dX9_multiplies_12 (by decide) ?_
    exact b_X9_multiplies_13 F  _ _ _ _ w a1 a2 0 (lv_sub hl [0, 1, 2] rfl) hf
  · replace hf := oi_t hf c3
    refine lv_iconst (v := 1) F.1 F.2.1 dX9_multiplies_8 (by decide) ?_
    refine lv_goto (tgt := 13) F.1 F.2.1 dX9_multiplies_9 (by decide) ?_
    exact b_X9_multiplies_13 F  _ _ _ _ w a1 a2 1 (lv_sub hl [0, 1, 2] rfl) hf
def f_X9_multiplies (S : ST) (a1 : Int32) (a2 : Int32) : Option (Int32 × ST) := f_X9_multiplies_0 S a1 a2
set_option maxHeartbeats 4000000 in
set_option maxRecDepth 100000 in
theorem k_X9_multiplies (l : Launch) (x : CX) (S : ST) (a1 : Int32) (a2 : Int32) {res : Int32 × ST} (hf : f_X9_multiplies S a1 a2 = some res) (sz : Nat) : Met l yX9_multiplies (Cond.code yX9_multiplies cX9_multiplies 5 (some .boolean) :: GW) ({ frames := 3, cells := 0, slots := 0, locals := 71 } : Room) (PC x S sz [.ref (x.2.2 (80)), .int a1, .int a2]) (QI x res.2 res.1 sz) 0 0 (AA x sz) := by
  refine Met.ofW (cc := cX9_multiplies) (maxL := 5) (ret := (some .boolean)) (by decide) rfl ?_
  intro p e s m args below meth c s₁ B hml hv
  obtain ⟨rfl, rfl, hPW⟩ := hv
  have F : MF p m meth c cX9_multiplies 5 s _ RX9 (some .boolean) := MF.of B hml
  have w := WD.of hPW
  have hl := lv_entry ([.ref (x.2.2 (80)), .int a1, .int a2]) (n := 5) (Nat.le_of_ble_eq_true rfl)
  rw [lg_entry_eq]
  generalize (lg_sl ([.ref (x.2.2 (80)), .int a1, .int a2]) ++ List.replicate (5 - (lg_sl ([.ref (x.2.2 (80)), .int a1, .int a2])).length) Slot.unset).toArray = ls at hl ⊢
  have hl : lv_has ls 5 [(0, .ref (x.2.2 (80))), (1, .int a1), (2, .int a2)] := hl
  unfold f_X9_multiplies at hf
  exact b_X9_multiplies_0 F  _ _ _ _ w a1 a2 (lv_sub hl [0, 1, 2] rfl) hf
theorem cy_X9_multipliersOf : CY yX9_multipliersOf RX9 cX9_multipliersOf 4 (some .int) 1 := ⟨q10, q1079, rfl, by decide, by decide, by decide +kernel⟩
def f_X9_multipliersOf_39 (k4 : ST → Int32 → Int32 → Int32 → Option (Int32 × ST)) (S : ST) (a1 : Int32) (a3 : Int32) (as0 : Int32) (as1 : Int32) : Option (Int32 × ST) := oL (as1 + as0) (fun (v1 : Int32) => oL (a3 + 1) (fun (v2 : Int32) => k4 S a1 v1 v2))
set_option maxHeartbeats 4000000 in
set_option maxRecDepth 100000 in
theorem b_X9_multipliersOf_39 {p : Program} {l : Launch} {e : Env} {s : State} {m : MethodId} {args : Array Value} {below : List Frame} {meth : Method} {c : Code} {x : CX} {res : Int32 × ST} (F : MF p m meth c cX9_multipliersOf 4 s args RX9 (some .int)) (k4 : ST → Int32 → Int32 → Int32 → Option (Int32 × ST)) (hk4 : ∀ (H : Heap) (locs : List Loc) (ls : Array Slot) (S : ST), WD x s S H locs → ∀ (a1 : Int32) (a2 : Int32) (a3 : Int32), lv_has ls 4 [(0, .ref (x.2.2 (80))), (1, .int a1), (2, .int a2), (3, .int a3)] → k4 S a1 a2 a3 = some res → W p l e ({ frames := 4, cells := 0, slots := 0, locals := 95 } : Room) s m args below meth c H locs 0 0 (MQ below (QI x res.2 res.1 s.heap.size) args s 0 0 (AA x s.heap.size)) (F0 m 4 ls [])) : ∀ (H : Heap) (locs : List Loc) (ls : Array Slot) (S : ST), WD x s S H locs → ∀ (a1 : Int32) (a3 : Int32) (as0 : Int32) (as1 : Int32), lv_has ls 4 [(0, .ref (x.2.2 (80))), (1, .int a1), (3, .int a3)] → f_X9_multipliersOf_39 k4 S a1 a3 as0 as1 = some res → W p l e ({ frames := 4, cells := 0, slots := 0, locals := 95 } : Room) s m args below meth c H locs 0 0 (MQ below (QI x res.2 res.1 s.heap.size) args s 0 0 (AA x s.heap.size)) (F0 m 39 ls [.int as0, .int as1]) := by
  intro H locs ls S w a1 a3 as0 as1 hl hf
  unfold f_X9_multipliersOf_39 at hf
  refine lv_iadd F.1 F.2.1 dX9_multipliersOf_39 ?_
  refine lv_topi (fun v1 e_v1 => ?_)
  replace hf := oi_l hf e_v1
  refine lv_istore_n (lv' := [(2, .int v1), (0, .ref (x.2.2 (80))), (1, .int a1), (3, .int a3)]) F.1 F.2.1 dX9_multipliersOf_40 rfl hl (by decide) rfl (fun ls hl => ?_)
  obtain ⟨v2, e_v2⟩ : ∃ y : Int32, y = (a3 + 1) := ⟨_, rfl⟩
  replace hf := oi_l hf e_v2
  refine lv_iinc (v := v2) (lv' := [(3, .int v2), (2, .int v1), (0, .ref (x.2.2 (80))), (1, .int a1)]) F.1 F.2.1 dX9_multipliersOf_41 hl (k := 3) rfl (by rw [e_v2]; rfl) (by decide) rfl (fun ls hl => ?_)
  refine lv_goto (tgt := 4) F.1 F.2.1 dX9_multipliersOf_44 (by decide) ?_
  exact hk4 _ _ _ _ w a1 v1 v2 (lv_sub hl [2, 3, 1, 0] rfl) hf
def f_X9_multipliersOf_38 (k4 : ST → Int32 → Int32 → Int32 → Option (Int32 × ST)) (S : ST) (a1 : Int32) (a3 : Int32) (as0 : Int32) : Option (Int32 × ST) := f_X9_multipliersOf_39 k4 S a1 a3 0 as0
set_option maxHeartbeats 4000000 in
set_option maxRecDepth 100000 in
theorem b_X9_multipliersOf_38 {p : Program} {l : Launch} {e : Env} {s : State} {m : MethodId} {args : Array Value} {below : List Frame} {meth : Method} {c : Code} {x : CX} {res : Int32 × ST} (F : MF p m meth c cX9_multipliersOf 4 s args RX9 (some .int)) (k4 : ST → Int32 → Int32 → Int32 → Option (Int32 × ST)) (hk4 : ∀ (H : Heap) (locs : List Loc) (ls : Array Slot) (S : ST), WD x s S H locs → ∀ (a1 : Int32) (a2 : Int32) (a3 : Int32), lv_has ls 4 [(0, .ref (x.2.2 (80))), (1, .int a1), (2, .int a2), (3, .int a3)] → k4 S a1 a2 a3 = some res → W p l e ({ frames := 4, cells := 0, slots := 0, locals := 95 } : Room) s m args below meth c H locs 0 0 (MQ below (QI x res.2 res.1 s.heap.size) args s 0 0 (AA x s.heap.size)) (F0 m 4 ls [])) : ∀ (H : Heap) (locs : List Loc) (ls : Array Slot) (S : ST), WD x s S H locs → ∀ (a1 : Int32) (a3 : Int32) (as0 : Int32), lv_has ls 4 [(0, .ref (x.2.2 (80))), (1, .int a1), (3, .int a3)] → f_X9_multipliersOf_38 k4 S a1 a3 as0 = some res → W p l e ({ frames := 4, cells := 0, slots := 0, locals := 95 } : Room) s m args below meth c H locs 0 0 (MQ below (QI x res.2 res.1 s.heap.size) args s 0 0 (AA x s.heap.size)) (F0 m 38 ls [.int as0]) := by
  intro H locs ls S w a1 a3 as0 hl hf
  unfold f_X9_multipliersOf_38 at hf
  refine lv_iconst (v := 0) F.1 F.2.1 dX9_multipliersOf_38 (by decide) ?_
  exact b_X9_multipliersOf_39 F k4 hk4 _ _ _ _ w a1 a3 0 as0 (lv_sub hl [0, 1, 2] rfl) hf
def f_X9_multipliersOf_4 : Nat → ST → Int32 → Int32 → Int32 → Option (Int32 × ST)
  | 0, _, _, _, _ => none
  | n + 1, S, a1, a2, a3 => oB (f_X9_modulus S) (fun (r2 : Int32) (S1 : ST) => (if r2 ≤ a3 then some (a2, S1) else oB (f_X9_modulus S1) (fun (r5 : Int32) (S4 : ST) => oB (f_X9_divisor S4 a3 r5) (fun (r7 : Int32) (S6 : ST) => (if r7 = 1 then oB (f_X9_multiplies S6 a1 a3) (fun (r10 : Int32) (S9 : ST) => (if r10 = 0 then f_X9_multipliersOf_38 (f_X9_multipliersOf_4 n) S9 a1 a3 a2 else f_X9_multipliersOf_39 (f_X9_multipliersOf_4 n) S9 a1 a3 1 a2)) else f_X9_multipliersOf_38 (f_X9_multipliersOf_4 n) S6 a1 a3 a2)))))
set_option maxHeartbeats 4000000 in
set_option maxRecDepth 100000 in
theorem b_X9_multipliersOf_4 {p : Program} {l : Launch} {e : Env} {s : State} {m : MethodId} {args : Array Value} {below : List Frame} {meth : Method} {c : Code} {x : CX} {res : Int32 × ST} (F : MF p m meth c cX9_multipliersOf 4 s args RX9 (some .int)) : ∀ (n : Nat), ∀ (H : Heap) (locs : List Loc) (ls : Array Slot) (S : ST), WD x s S H locs → ∀ (a1 : Int32) (a2 : Int32) (a3 : Int32), lv_has ls 4 [(0, .ref (x.2.2 (80))), (1, .int a1), (2, .int a2), (3, .int a3)] → f_X9_multipliersOf_4 n S a1 a2 a3 = some res → W p l e ({ frames := 4, cells := 0, slots := 0, locals := 95 } : Room) s m args below meth c H locs 0 0 (MQ below (QI x res.2 res.1 s.heap.size) args s 0 0 (AA x s.heap.size)) (F0 m 4 ls []) := by
  intro n
  induction n with
  | zero =>
    intro H locs ls S w a1 a2 a3 hl hf
    have hf : (none : Option (Int32 × ST)) = some res := hf
    cases hf
  | succ n ih =>
    intro H locs ls S w a1 a2 a3 hl hf
    unfold f_X9_multipliersOf_4 at hf
    refine lv_iload_n F.1 F.2.1 dX9_multipliersOf_4 rfl (lv_at hl 3 rfl) ?_
    refine lv_aload_n F.1 F.2.1 dX9_multipliersOf_5 rfl (lv_at hl 0 rfl) ?_
    obtain ⟨r2, S1, hc, hf⟩ := oi_b hf
    refine k_i0 (S' := S1) (r := r2) w (runV (As := []) (rest := [.int a3]) (kb := 80) F w (k_X9_modulus l x S hc H.size) cy_X9_modulus q1024 q1026 qp35 ⟨rfl, rfl⟩ ⟨Nat.le_of_ble_eq_true rfl, Nat.le_of_ble_eq_true rfl⟩ (by decide) rfl rfl rfl rfl hl.1 (Nat.le_of_ble_eq_true rfl) ⟨Nat.le_of_ble_eq_true rfl, Nat.le_of_ble_eq_true rfl⟩ dX9_multipliersOf_6) (fun H locs w => ?_)
    refine lv_icmp_ge (tgt := 47) F.1 F.2.1 dX9_multipliersOf_9 (by decide) (fun c3 => ?_) (fun c3 => ?_)
    · replace hf := oi_t hf c3
      refine lv_iload_n F.1 F.2.1 dX9_multipliersOf_47 rfl (lv_at hl 2 rfl) ?_
      exact r_iret F w (oi_s hf) dX9_multipliersOf_48
    · replace hf := oi_f hf c3
      refine lv_iload_n F.1 F.2.1 dX9_multipliersOf_12 rfl (lv_at hl 2 rfl) ?_
      refine lv_iload_n F.1 F.2.1 dX9_multipliersOf_13 rfl (lv_at hl 3 rfl) ?_
      refine lv_aload_n F.1 F.2.1 dX9_multipliersOf_14 rfl (lv_at hl 0 rfl) ?_
      obtain ⟨r5, S4, hc, hf⟩ := oi_b hf
      refine k_i0 (S' := S4) (r := r5) w (runV (As := []) (rest := [.int a3, .int a2]) (kb := 80) F w (k_X9_modulus l x S1 hc H.size) cy_X9_modulus q1024 q1026 qp35 ⟨rfl, rfl⟩ ⟨Nat.le_of_ble_eq_true rfl, Nat.le_of_ble_eq_true rfl⟩ (by decide) rfl rfl rfl rfl hl.1 (Nat.le_of_ble_eq_true rfl) ⟨Nat.le_of_ble_eq_true rfl, Nat.le_of_ble_eq_true rfl⟩ dX9_multipliersOf_15) (fun H locs w => ?_)
      obtain ⟨r7, S6, hc, hf⟩ := oi_b hf
      refine k_i0 (S' := S6) (r := r7) w (runS (As := [.int a3, .int r5]) (rest := [.int a2]) F w (k_X9_divisor l x S4 a3 r5 hc H.size) cy_X9_divisor q1080 q1081 ⟨rfl, rfl⟩ ⟨Nat.le_of_ble_eq_true rfl, Nat.le_of_ble_eq_true rfl⟩ rfl rfl hl.1 (Nat.le_of_ble_eq_true rfl) ⟨Nat.le_of_ble_eq_true rfl, Nat.le_of_ble_eq_true rfl⟩ dX9_multipliersOf_18) (fun H locs w => ?_)
      refine lv_iconst (v := 1) F.1 F.2.1 dX9_multipliersOf_21 (by decide) ?_
      refine lv_icmp_ne (tgt := 38) F.1 F.2.1 dX9_multipliersOf_22 (by decide) (fun c8 => ?_) (fun c8 => ?_)
      · replace hf := oi_f hf c8
        exact b_X9_multipliersOf_38 F (f_X9_multipliersOf_4 n) ih _ _ _ _ w a1 a3 a2 (lv_sub hl [0, 1, 3] rfl) hf
      · replace hf := oi_t hf c8
        refine lv_aload_n F.1 F.2.1 dX9_multipliersOf_25 rfl (lv_at hl 0 rfl) ?_
        refine lv_iload_n F.1 F.2.1 dX9_multipliersOf_26 rfl (lv_at hl 1 rfl) ?_
        refine lv_iload_n F.1 F.2.1 dX9_multipliersOf_27 rfl (lv_at hl 3 rfl) ?_
        obtain ⟨r10, S9, hc, hf⟩ := oi_b hf
        refine k_i0 (S' := S9) (r := r10) w (runV (As := [.int a1, .int a3]) (rest := [.int a2]) (kb := 80) F w (k_X9_multiplies l x S6 a1 a3 hc H.size) cy_X9_multiplies q1083 q1085 qp42 ⟨rfl, rfl⟩ ⟨Nat.le_of_ble_eq_true rfl, Nat.le_of_ble_eq_true rfl⟩ (by decide) rfl rfl rfl rfl hl.1 (Nat.le_of_ble_eq_true rfl) ⟨Nat.le_of_ble_eq_true rfl, Nat.le_of_ble_eq_true rfl⟩ dX9_multipliersOf_28) (fun H locs w => ?_)
        refine lv_if_eq (tgt := 38) F.1 F.2.1 dX9_multipliersOf_31 (by decide) (fun c11 => ?_) (fun c11 => ?_)
        · replace hf := oi_t hf c11
          exact b_X9_multipliersOf_38 F (f_X9_multipliersOf_4 n) ih _ _ _ _ w a1 a3 a2 (lv_sub hl [0, 1, 3] rfl) hf
        · replace hf := oi_f hf c11
          refine lv_iconst (v := 1) F.1 F.2.1 dX9_multipliersOf_34 (by decide) ?_
          refine lv_goto (tgt := 39) F.1 F.2.1 dX9_multipliersOf_35 (by decide) ?_
          exact b_X9_multipliersOf_39 F (f_X9_multipliersOf_4 n) ih _ _ _ _ w a1 a3 1 a2 (lv_sub hl [0, 1, 3] rfl) hf
def f_X9_multipliersOf_0 (S : ST) (a1 : Int32) : Option (Int32 × ST) := f_X9_multipliersOf_4 FU S a1 0 1
set_option maxHeartbeats 4000000 in
set_option maxRecDepth 100000 in
theorem b_X9_multipliersOf_0 {p : Program} {l : Launch} {e : Env} {s : State} {m : MethodId} {args : Array Value} {below : List Frame} {meth : Method} {c : Code} {x : CX} {res : Int32 × ST} (F : MF p m meth c cX9_multipliersOf 4 s args RX9 (some .int)) : ∀ (H : Heap) (locs : List Loc) (ls : Array Slot) (S : ST), WD x s S H locs → ∀ (a1 : Int32), lv_has ls 4 [(0, .ref (x.2.2 (80))), (1, .int a1)] → f_X9_multipliersOf_0 S a1 = some res → W p l e ({ frames := 4, cells := 0, slots := 0, locals := 95 } : Room) s m args below meth c H locs 0 0 (MQ below (QI x res.2 res.1 s.heap.size) args s 0 0 (AA x s.heap.size)) (F0 m 0 ls []) := by
  intro H locs ls S w a1 hl hf
  unfold f_X9_multipliersOf_0 at hf
  refine lv_iconst (v := 0) F.1 F.2.1 dX9_multipliersOf_0 (by decide) ?_
  refine lv_istore_n (lv' := [(2, .int 0), (0, .ref (x.2.2 (80))), (1, .int a1)]) F.1 F.2.1 dX9_multipliersOf_1 rfl hl (by decide) rfl (fun ls hl => ?_)
  refine lv_iconst (v := 1) F.1 F.2.1 dX9_multipliersOf_2 (by decide) ?_
  refine lv_istore_n (lv' := [(3, .int 1), (2, .int 0), (0, .ref (x.2.2 (80))), (1, .int a1)]) F.1 F.2.1 dX9_multipliersOf_3 rfl hl (by decide) rfl (fun ls hl => ?_)
  exact b_X9_multipliersOf_4 F FU _ _ _ _ w a1 0 1 (lv_sub hl [2, 3, 1, 0] rfl) hf
def f_X9_multipliersOf (S : ST) (a1 : Int32) : Option (Int32 × ST) := f_X9_multipliersOf_0 S a1
set_option maxHeartbeats 4000000 in
set_option maxRecDepth 100000 in
theorem k_X9_multipliersOf (l : Launch) (x : CX) (S : ST) (a1 : Int32) {res : Int32 × ST} (hf : f_X9_multipliersOf S a1 = some res) (sz : Nat) : Met l yX9_multipliersOf (Cond.code yX9_multipliersOf cX9_multipliersOf 4 (some .int) :: GW) ({ frames := 4, cells := 0, slots := 0, locals := 95 } : Room) (PC x S sz [.ref (x.2.2 (80)), .int a1]) (QI x res.2 res.1 sz) 0 0 (AA x sz) := by
  refine Met.ofW (cc := cX9_multipliersOf) (maxL := 4) (ret := (some .int)) (by decide) rfl ?_
  intro p e s m args below meth c s₁ B hml hv
  obtain ⟨rfl, rfl, hPW⟩ := hv
  have F : MF p m meth c cX9_multipliersOf 4 s _ RX9 (some .int) := MF.of B hml
  have w := WD.of hPW
  have hl := lv_entry ([.ref (x.2.2 (80)), .int a1]) (n := 4) (Nat.le_of_ble_eq_true rfl)
  rw [lg_entry_eq]
  generalize (lg_sl ([.ref (x.2.2 (80)), .int a1]) ++ List.replicate (4 - (lg_sl ([.ref (x.2.2 (80)), .int a1])).length) Slot.unset).toArray = ls at hl ⊢
  have hl : lv_has ls 4 [(0, .ref (x.2.2 (80))), (1, .int a1)] := hl
  unfold f_X9_multipliersOf at hf
  exact b_X9_multipliersOf_0 F  _ _ _ _ w a1 (lv_sub hl [0, 1] rfl) hf
theorem cy_X9_multipliers : CY yX9_multipliers RX9 cX9_multipliers 2 (some .int) 1 := ⟨q10, q1075, rfl, by decide, by decide, by decide +kernel⟩
def f_X9_multipliers_21 (S : ST) (as0 : Int32) : Option (Int32 × ST) := some (as0, S)
set_option maxHeartbeats 4000000 in
set_option maxRecDepth 100000 in
theorem b_X9_multipliers_21 {p : Program} {l : Launch} {e : Env} {s : State} {m : MethodId} {args : Array Value} {below : List Frame} {meth : Method} {c : Code} {x : CX} {res : Int32 × ST} (F : MF p m meth c cX9_multipliers 2 s args RX9 (some .int)) : ∀ (H : Heap) (locs : List Loc) (ls : Array Slot) (S : ST), WD x s S H locs → ∀ (as0 : Int32), lv_has ls 2 [] → f_X9_multipliers_21 S as0 = some res → W p l e ({ frames := 5, cells := 0, slots := 0, locals := 118 } : Room) s m args below meth c H locs 0 0 (MQ below (QI x res.2 res.1 s.heap.size) args s 0 0 (AA x s.heap.size)) (F0 m 21 ls [.int as0]) := by
  intro H locs ls S w as0 hl hf
  unfold f_X9_multipliers_21 at hf
  exact r_iret F w (oi_s hf) dX9_multipliers_21
def f_X9_multipliers_0 (S : ST) (a1 : Int32) : Option (Int32 × ST) := oB (f_X9_bar S a1) (fun (r2 : Int32) (S1 : ST) => oB (f_X9_refused S1 r2) (fun (r4 : Int32) (S3 : ST) => (if r4 = 0 then oB (f_X9_multipliersOf S3 a1) (fun (r7 : Int32) (S6 : ST) => f_X9_multipliers_21 S6 r7) else f_X9_multipliers_21 S3 0)))
set_option maxHeartbeats 4000000 in
set_option maxRecDepth 100000 in
theorem b_X9_multipliers_0 {p : Program} {l : Launch} {e : Env} {s : State} {m : MethodId} {args : Array Value} {below : List Frame} {meth : Method} {c : Code} {x : CX} {res : Int32 × ST} (F : MF p m meth c cX9_multipliers 2 s args RX9 (some .int)) : ∀ (H : Heap) (locs : List Loc) (ls : Array Slot) (S : ST), WD x s S H locs → ∀ (a1 : Int32), lv_has ls 2 [(0, .ref (x.2.2 (80))), (1, .int a1)] → f_X9_multipliers_0 S a1 = some res → W p l e ({ frames := 5, cells := 0, slots := 0, locals := 118 } : Room) s m args below meth c H locs 0 0 (MQ below (QI x res.2 res.1 s.heap.size) args s 0 0 (AA x s.heap.size)) (F0 m 0 ls []) := by
  intro H locs ls S w a1 hl hf
  unfold f_X9_multipliers_0 at hf
  refine lv_aload_n F.1 F.2.1 dX9_multipliers_0 rfl (lv_at hl 0 rfl) ?_
  refine lv_aload_n F.1 F.2.1 dX9_multipliers_1 rfl (lv_at hl 0 rfl) ?_
  refine lv_iload_n F.1 F.2.1 dX9_multipliers_2 rfl (lv_at hl 1 rfl) ?_
  obtain ⟨r2, S1, hc, hf⟩ := oi_b hf
  refine k_i0 (S' := S1) (r := r2) w (runV (As := [.int a1]) (rest := [.ref (x.2.2 (80))]) (kb := 80) F w (k_X9_bar l x S a1 hc H.size) cy_X9_bar q1048 q1050 qp39 ⟨rfl, rfl⟩ ⟨Nat.le_of_ble_eq_true rfl, Nat.le_of_ble_eq_true rfl⟩ (by decide) rfl rfl rfl rfl hl.1 (Nat.le_of_ble_eq_true rfl) ⟨Nat.le_of_ble_eq_true rfl, Nat.le_of_ble_eq_true rfl⟩ dX9_multipliers_3) (fun H locs w => ?_)
  obtain ⟨r4, S3, hc, hf⟩ := oi_b hf
  refine k_i0 (S' := S3) (r := r4) w (runV (As := [.int r2]) (rest := []) (kb := 80) F w (k_X9_refused l x S1 r2 hc H.size) cy_X9_refused q902 q904 qp19 ⟨rfl, rfl⟩ ⟨Nat.le_of_ble_eq_true rfl, Nat.le_of_ble_eq_true rfl⟩ (by decide) rfl rfl rfl rfl hl.1 (Nat.le_of_ble_eq_true rfl) ⟨Nat.le_of_ble_eq_true rfl, Nat.le_of_ble_eq_true rfl⟩ dX9_multipliers_6) (fun H locs w => ?_)
  refine lv_if_eq (tgt := 16) F.1 F.2.1 dX9_multipliers_9 (by decide) (fun c5 => ?_) (fun c5 => ?_)
  · replace hf := oi_t hf c5
    refine lv_aload_n F.1 F.2.1 dX9_multipliers_16 rfl (lv_at hl 0 rfl) ?_
    refine lv_iload_n F.1 F.2.1 dX9_multipliers_17 rfl (lv_at hl 1 rfl) ?_
    obtain ⟨r7, S6, hc, hf⟩ := oi_b hf
    refine k_i0 (S' := S6) (r := r7) w (runV (As := [.int a1]) (rest := []) (kb := 80) F w (k_X9_multipliersOf l x S3 a1 hc H.size) cy_X9_multipliersOf q1076 q1078 qp41 ⟨rfl, rfl⟩ ⟨Nat.le_of_ble_eq_true rfl, Nat.le_of_ble_eq_true rfl⟩ (by decide) rfl rfl rfl rfl hl.1 (Nat.le_of_ble_eq_true rfl) ⟨Nat.le_of_ble_eq_true rfl, Nat.le_of_ble_eq_true rfl⟩ dX9_multipliers_18) (fun H locs w => ?_)
    exact b_X9_multipliers_21 F  _ _ _ _ w r7 (lv_sub hl [] rfl) hf
  · replace hf := oi_f hf c5
    refine lv_iconst (v := 0) F.1 F.2.1 dX9_multipliers_12 (by decide) ?_
    refine lv_goto (tgt := 21) F.1 F.2.1 dX9_multipliers_13 (by decide) ?_
    exact b_X9_multipliers_21 F  _ _ _ _ w 0 (lv_sub hl [] rfl) hf
def f_X9_multipliers (S : ST) (a1 : Int32) : Option (Int32 × ST) := f_X9_multipliers_0 S a1
set_option maxHeartbeats 4000000 in
set_option maxRecDepth 100000 in
theorem k_X9_multipliers (l : Launch) (x : CX) (S : ST) (a1 : Int32) {res : Int32 × ST} (hf : f_X9_multipliers S a1 = some res) (sz : Nat) : Met l yX9_multipliers (Cond.code yX9_multipliers cX9_multipliers 2 (some .int) :: GW) ({ frames := 5, cells := 0, slots := 0, locals := 118 } : Room) (PC x S sz [.ref (x.2.2 (80)), .int a1]) (QI x res.2 res.1 sz) 0 0 (AA x sz) := by
  refine Met.ofW (cc := cX9_multipliers) (maxL := 2) (ret := (some .int)) (by decide) rfl ?_
  intro p e s m args below meth c s₁ B hml hv
  obtain ⟨rfl, rfl, hPW⟩ := hv
  have F : MF p m meth c cX9_multipliers 2 s _ RX9 (some .int) := MF.of B hml
  have w := WD.of hPW
  have hl := lv_entry ([.ref (x.2.2 (80)), .int a1]) (n := 2) (Nat.le_of_ble_eq_true rfl)
  rw [lg_entry_eq]
  generalize (lg_sl ([.ref (x.2.2 (80)), .int a1]) ++ List.replicate (2 - (lg_sl ([.ref (x.2.2 (80)), .int a1])).length) Slot.unset).toArray = ls at hl ⊢
  have hl : lv_has ls 2 [(0, .ref (x.2.2 (80))), (1, .int a1)] := hl
  unfold f_X9_multipliers at hf
  exact b_X9_multipliers_0 F  _ _ _ _ w a1 (lv_sub hl [0, 1] rfl) hf
