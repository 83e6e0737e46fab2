theorem cy_X3_measure : CY yX3_measure RX3 cX3_measure 5 none 1 := ⟨q7, q208, rfl, by decide, by decide, by decide +kernel⟩
def f_X3_measure_59 (k14 : ST → Nat → Nat → Int32 → Option (ST)) (k24 : ST → Nat → Nat → Int32 → Int32 → Option (ST)) (S : ST) (i0 : Nat) (i1 : Nat) (a2 : Int32) (a3 : Int32) (a4 : Int32) : Option (ST) := oV (f_X0_put S (i0 + 1) a4) (fun (S1 : ST) => oL (a3 + 1) (fun (v2 : Int32) => k24 S1 i0 i1 a2 v2))
set_option maxHeartbeats 4000000 in
set_option maxRecDepth 100000 in
theorem b_X3_measure_59 {p : Program} {l : Launch} {e : Env} {s : State} {m : MethodId} {args : Array Value} {below : List Frame} {meth : Method} {c : Code} {x : CX} {res : ST} (F : MF p m meth c cX3_measure 5 s args RX3 none) (k14 : ST → Nat → Nat → Int32 → Option (ST)) (hk14 : ∀ (H : Heap) (locs : List Loc) (ls : Array Slot) (S : ST), WD x s S H locs → ∀ (i0 : Nat) (i1 : Nat) (a2 : Int32), i0 < 4 → i1 < 22 → lv_has ls 5 [(0, .ref (x.2.2 (58 + i0))), (1, .ref (x.2.2 (2 * i1))), (2, .int a2)] → k14 S i0 i1 a2 = some res → W p l e ({ frames := 2, cells := 0, slots := 0, locals := 44 } : Room) s m args below meth c H locs 0 0 (MQ below (QV x res s.heap.size) args s 0 0 (AA x s.heap.size)) (F0 m 14 ls [])) (k24 : ST → Nat → Nat → Int32 → Int32 → Option (ST)) (hk24 : ∀ (H : Heap) (locs : List Loc) (ls : Array Slot) (S : ST), WD x s S H locs → ∀ (i0 : Nat) (i1 : Nat) (a2 : Int32) (a3 : Int32), i0 < 4 → i1 < 22 → lv_has ls 5 [(0, .ref (x.2.2 (58 + i0))), (1, .ref (x.2.2 (2 * i1))), (2, .int a2), (3, .int a3)] → k24 S i0 i1 a2 a3 = some res → W p l e ({ frames := 2, cells := 0, slots := 0, locals := 44 } : Room) s m args below meth c H locs 0 0 (MQ below (QV x res s.heap.size) args s 0 0 (AA x s.heap.size)) (F0 m 24 ls [])) : ∀ (H : Heap) (locs : List Loc) (ls : Array Slot) (S : ST), WD x s S H locs → ∀ (i0 : Nat) (i1 : Nat) (a2 : Int32) (a3 : Int32) (a4 : Int32), i0 < 4 → i1 < 22 → lv_has ls 5 [(0, .ref (x.2.2 (58 + i0))), (1, .ref (x.2.2 (2 * i1))), (2, .int a2), (3, .int a3), (4, .int a4)] → f_X3_measure_59 k14 k24 S i0 i1 a2 a3 a4 = some res → W p l e ({ frames := 2, cells := 0, slots := 0, locals := 44 } : Room) s m args below meth c H locs 0 0 (MQ below (QV x res s.heap.size) args s 0 0 (AA x s.heap.size)) (F0 m 59 ls []) := by
  intro H locs ls S w i0 i1 a2 a3 a4 h0 h1 hl hf
  unfold f_X3_measure_59 at hf
  refine lv_aload_n F.1 F.2.1 dX3_measure_59 rfl (lv_at hl 0 rfl) ?_
  refine g_SP_row (i := i0) F w h0 q122 dX3_measure_60 ?_
  refine lv_iload F.1 F.2.1 dX3_measure_63 (lv_at hl 4 rfl) ?_
  obtain ⟨S1, hc, hf⟩ := oi_v hf
  refine k_v0 (S' := S1) w (runV (As := [.int a4]) (rest := []) (kb := 48 + 2 * (i0 + 1)) F w (k_X0_put l x S (i0 + 1) a4 (Nat.succ_lt_succ h0) hc H.size) cy_X0_put q224 q225 q226 ⟨rfl, rfl⟩ ⟨Nat.le_of_ble_eq_true rfl, Nat.le_of_ble_eq_true rfl⟩ (k_br (Nat.succ_lt_succ h0)) (enc_br x S (Nat.succ_lt_succ h0)) rfl rfl rfl hl.1 (Nat.le_of_ble_eq_true rfl) ⟨Nat.le_of_ble_eq_true rfl, Nat.le_of_ble_eq_true rfl⟩ dX3_measure_65) (fun H locs w => ?_)
  obtain ⟨v2, e_v2⟩ : ∃ y : Int32, y = (a3 + 1) := ⟨_, rfl⟩
  replace hf := oi_l hf e_v2
  refine lv_iinc (v := v2) (lv' := [(3, .int v2), (0, .ref (x.2.2 (58 + i0))), (1, .ref (x.2.2 (2 * i1))), (2, .int a2), (4, .int a4)]) F.1 F.2.1 dX3_measure_68 hl (k := 3) rfl (by rw [e_v2]; rfl) (by decide) rfl (fun ls hl => ?_)
  refine lv_goto (tgt := 24) F.1 F.2.1 dX3_measure_71 (by decide) ?_
  exact hk24 _ _ _ _ w i0 i1 a2 v2 h0 h1 (lv_sub hl [1, 2, 3, 0] rfl) hf
def f_X3_measure_24 (k14 : ST → Nat → Nat → Int32 → Option (ST)) : Nat → ST → Nat → Nat → Int32 → Int32 → Option (ST)
  | 0, _, _, _, _, _ => none
  | n + 1, S, i0, i1, a2, a3 => (if a2 ≤ a3 then oL (a2 + 1) (fun (v2 : Int32) => k14 S i0 i1 v2) else oB (f_X2_at S i1 a2) (fun (r4 : Int32) (S3 : ST) => oB (f_X2_at S3 i1 a3) (fun (r6 : Int32) (S5 : ST) => oL (r4 - r6) (fun (v7 : Int32) => oB (f_X0_has S5 (i0 + 1) v7) (fun (r9 : Int32) (S8 : ST) => (if r9 = 0 then f_X3_measure_59 k14 (f_X3_measure_24 k14 n) S8 i0 i1 a2 a3 v7 else oL (sI S8 (40 + i0) 0) (fun (S11 : ST) => f_X3_measure_59 k14 (f_X3_measure_24 k14 n) S11 i0 i1 a2 a3 v7)))))))
set_option maxHeartbeats 4000000 in
set_option maxRecDepth 100000 in
theorem b_X3_measure_24 {p : Program} {l : Launch} {e : Env} {s : State} {m : MethodId} {args : Array Value} {below : List Frame} {meth : Method} {c : Code} {x : CX} {res : ST} (F : MF p m meth c cX3_measure 5 s args RX3 none) (k14 : ST → Nat → Nat → Int32 → Option (ST)) (hk14 : ∀ (H : Heap) (locs : List Loc) (ls : Array Slot) (S : ST), WD x s S H locs → ∀ (i0 : Nat) (i1 : Nat) (a2 : Int32), i0 < 4 → i1 < 22 → lv_has ls 5 [(0, .ref (x.2.2 (58 + i0))), (1, .ref (x.2.2 (2 * i1))), (2, .int a2)] → k14 S i0 i1 a2 = some res → W p l e ({ frames := 2, cells := 0, slots := 0, locals := 44 } : Room) s m args below meth c H locs 0 0 (MQ below (QV x res s.heap.size) args s 0 0 (AA x s.heap.size)) (F0 m 14 ls [])) : ∀ (n : Nat), ∀ (H : Heap) (locs : List Loc) (ls : Array Slot) (S : ST), WD x s S H locs → ∀ (i0 : Nat) (i1 : Nat) (a2 : Int32) (a3 : Int32), i0 < 4 → i1 < 22 → lv_has ls 5 [(0, .ref (x.2.2 (58 + i0))), (1, .ref (x.2.2 (2 * i1))), (2, .int a2), (3, .int a3)] → f_X3_measure_24 k14 n S i0 i1 a2 a3 = some res → W p l e ({ frames := 2, cells := 0, slots := 0, locals := 44 } : Room) s m args below meth c H locs 0 0 (MQ below (QV x res s.heap.size) args s 0 0 (AA x s.heap.size)) (F0 m 24 ls []) := by
  intro n
  induction n with
  | zero =>
    intro H locs ls S w i0 i1 a2 a3 h0 h1 hl hf
    have hf : (none : Option (ST)) = some res := hf
    cases hf
  | succ n ih =>
    intro H locs ls S w i0 i1 a2 a3 h0 h1 hl hf
    unfold f_X3_measure_24 at hf
    refine lv_iload_n F.1 F.2.1 dX3_measure_24 rfl (lv_at hl 3 rfl) ?_
    refine lv_iload_n F.1 F.2.1 dX3_measure_25 rfl (lv_at hl 2 rfl) ?_
    refine lv_icmp_ge (tgt := 74) F.1 F.2.1 dX3_measure_26 (by decide) (fun c1 => ?_) (fun c1 => ?_)
    · replace hf := oi_t hf c1
      obtain ⟨v2, e_v2⟩ : ∃ y : Int32, y = (a2 + 1) := ⟨_, rfl⟩
      replace hf := oi_l hf e_v2
      refine lv_iinc (v := v2) (lv' := [(2, .int v2), (0, .ref (x.2.2 (58 + i0))), (1, .ref (x.2.2 (2 * i1))), (3, .int a3)]) F.1 F.2.1 dX3_measure_74 hl (k := 2) rfl (by rw [e_v2]; rfl) (by decide) rfl (fun ls hl => ?_)
      refine lv_goto (tgt := 14) F.1 F.2.1 dX3_measure_77 (by decide) ?_
      exact hk14 _ _ _ _ w i0 i1 v2 h0 h1 (lv_sub hl [1, 2, 0] rfl) hf
    · replace hf := oi_f hf c1
      refine lv_aload_n F.1 F.2.1 dX3_measure_29 rfl (lv_at hl 1 rfl) ?_
      refine lv_iload_n F.1 F.2.1 dX3_measure_30 rfl (lv_at hl 2 rfl) ?_
      obtain ⟨r4, S3, hc, hf⟩ := oi_b hf
      refine k_i0 (S' := S3) (r := r4) w (runV (As := [.int a2]) (rest := []) (kb := 2 * i1) F w (k_X2_at l x S i1 a2 h1 hc H.size) cy_X2_at q216 q217 q218 ⟨rfl, rfl⟩ ⟨Nat.le_of_ble_eq_true rfl, Nat.le_of_ble_eq_true rfl⟩ (k_ms h1) (enc_ms x S h1) rfl rfl rfl hl.1 (Nat.le_of_ble_eq_true rfl) ⟨Nat.le_of_ble_eq_true rfl, Nat.le_of_ble_eq_true rfl⟩ dX3_measure_31) (fun H locs w => ?_)
      refine lv_aload_n F.1 F.2.1 dX3_measure_34 rfl (lv_at hl 1 rfl) ?_
      refine lv_iload_n F.1 F.2.1 dX3_measure_35 rfl (lv_at hl 3 rfl) ?_
      obtain ⟨r6, S5, hc, hf⟩ := oi_b hf
      refine k_i0 (S' := S5) (r := r6) w (runV (As := [.int a3]) (rest := [.int r4]) (kb := 2 * i1) F w (k_X2_at l x S3 i1 a3 h1 hc H.size) cy_X2_at q216 q217 q218 ⟨rfl, rfl⟩ ⟨Nat.le_of_ble_eq_true rfl, Nat.le_of_ble_eq_true rfl⟩ (k_ms h1) (enc_ms x S3 h1) rfl rfl rfl hl.1 (Nat.le_of_ble_eq_true rfl) ⟨Nat.le_of_ble_eq_true rfl, Nat.le_of_ble_eq_true rfl⟩ dX3_measure_36) (fun H locs w => ?_)
      refine lv_isub F.1 F.2.1 dX3_measure_39 ?_
      refine lv_topi (fun v7 e_v7 => ?_)
      replace hf := oi_l hf e_v7
      refine lv_istore (lv' := [(4, .int v7), (0, .ref (x.2.2 (58 + i0))), (1, .ref (x.2.2 (2 * i1))), (2, .int a2), (3, .int a3)]) F.1 F.2.1 dX3_measure_40 hl (by decide) rfl (fun ls hl => ?_)
      refine lv_aload_n F.1 F.2.1 dX3_measure_42 rfl (lv_at hl 1 rfl) ?_
      refine g_SP_row (i := i0) F w h0 q122 dX3_measure_43 ?_
      refine lv_iload F.1 F.2.1 dX3_measure_46 (lv_at hl 0 rfl) ?_
      obtain ⟨r9, S8, hc, hf⟩ := oi_b hf
      refine k_i0 (S' := S8) (r := r9) w (runV (As := [.int v7]) (rest := []) (kb := 48 + 2 * (i0 + 1)) F w (k_X0_has l x S5 (i0 + 1) v7 (Nat.succ_lt_succ h0) hc H.size) cy_X0_has q220 q221 q222 ⟨rfl, rfl⟩ ⟨Nat.le_of_ble_eq_true rfl, Nat.le_of_ble_eq_true rfl⟩ (k_br (Nat.succ_lt_succ h0)) (enc_br x S5 (Nat.succ_lt_succ h0)) rfl rfl rfl hl.1 (Nat.le_of_ble_eq_true rfl) ⟨Nat.le_of_ble_eq_true rfl, Nat.le_of_ble_eq_true rfl⟩ dX3_measure_48) (fun H locs w => ?_)
      refine lv_if_eq (tgt := 59) F.1 F.2.1 dX3_measure_51 (by decide) (fun c10 => ?_) (fun c10 => ?_)
      · replace hf := oi_t hf c10
        exact b_X3_measure_59 F k14 hk14 (f_X3_measure_24 k14 n) ih _ _ _ _ w i0 i1 a2 a3 v7 h0 h1 (lv_sub hl [1, 2, 3, 4, 0] rfl) hf
      · replace hf := oi_f hf c10
        refine lv_aload_n F.1 F.2.1 dX3_measure_54 rfl (lv_at hl 1 rfl) ?_
        refine lv_iconst (v := 0) F.1 F.2.1 dX3_measure_55 (by decide) ?_
        refine p_SP_distinct (i := i0) F w h0 (by decide) q124 dX3_measure_56 (fun H locs w => ?_)
        obtain ⟨S11, e_S11⟩ : ∃ y : ST, y = sI S8 (40 + i0) 0 := ⟨_, rfl⟩
        replace w : WD x s S11 H locs := by rw [e_S11]; exact w
        replace hf := oi_l hf e_S11
        exact b_X3_measure_59 F k14 hk14 (f_X3_measure_24 k14 n) ih _ _ _ _ w i0 i1 a2 a3 v7 h0 h1 (lv_sub hl [1, 2, 3, 4, 0] rfl) hf
def f_X3_measure_14 : Nat → ST → Nat → Nat → Int32 → Option (ST)
  | 0, _, _, _, _ => none
  | n + 1, S, i0, i1, a2 => (if (fi S i1) ≤ a2 then some S else f_X3_measure_24 (f_X3_measure_14 n) FU S i0 i1 a2 0)
set_option maxHeartbeats 4000000 in
set_option maxRecDepth 100000 in
theorem b_X3_measure_14 {p : Program} {l : Launch} {e : Env} {s : State} {m : MethodId} {args : Array Value} {below : List Frame} {meth : Method} {c : Code} {x : CX} {res : ST} (F : MF p m meth c cX3_measure 5 s args RX3 none) : ∀ (n : Nat), ∀ (H : Heap) (locs : List Loc) (ls : Array Slot) (S : ST), WD x s S H locs → ∀ (i0 : Nat) (i1 : Nat) (a2 : Int32), i0 < 4 → i1 < 22 → lv_has ls 5 [(0, .ref (x.2.2 (58 + i0))), (1, .ref (x.2.2 (2 * i1))), (2, .int a2)] → f_X3_measure_14 n S i0 i1 a2 = some res → W p l e ({ frames := 2, cells := 0, slots := 0, locals := 44 } : Room) s m args below meth c H locs 0 0 (MQ below (QV x res s.heap.size) args s 0 0 (AA x s.heap.size)) (F0 m 14 ls []) := by
  intro n
  induction n with
  | zero =>
    intro H locs ls S w i0 i1 a2 h0 h1 hl hf
    have hf : (none : Option (ST)) = some res := hf
    cases hf
  | succ n ih =>
    intro H locs ls S w i0 i1 a2 h0 h1 hl hf
    unfold f_X3_measure_14 at hf
    refine lv_iload_n F.1 F.2.1 dX3_measure_14 rfl (lv_at hl 2 rfl) ?_
    refine lv_aload_n F.1 F.2.1 dX3_measure_15 rfl (lv_at hl 1 rfl) ?_
    refine gN_MS_count (i := i1) F w h1 (by simp [NF]) dX3_measure_16 ?_
    refine lv_icmp_ge (tgt := 80) F.1 F.2.1 dX3_measure_19 (by decide) (fun c1 => ?_) (fun c1 => ?_)
    · replace hf := oi_t hf c1
      exact r_vret F w (oi_s hf) dX3_measure_80
    · replace hf := oi_f hf c1
      refine lv_iconst (v := 0) F.1 F.2.1 dX3_measure_22 (by decide) ?_
      refine lv_istore_n (lv' := [(3, .int 0), (0, .ref (x.2.2 (58 + i0))), (1, .ref (x.2.2 (2 * i1))), (2, .int a2)]) F.1 F.2.1 dX3_measure_23 rfl hl (by decide) rfl (fun ls hl => ?_)
      exact b_X3_measure_24 F (f_X3_measure_14 n) ih FU _ _ _ _ w i0 i1 a2 0 h0 h1 (lv_sub hl [1, 2, 3, 0] rfl) hf
def f_X3_measure_0 (S : ST) (i0 : Nat) (i1 : Nat) : Option (ST) := oV (f_X0_wipe S (i0 + 1)) (fun (S1 : ST) => oL (sI S1 (40 + i0) 1) (fun (S2 : ST) => f_X3_measure_14 FU S2 i0 i1 1))
set_option maxHeartbeats 4000000 in
set_option maxRecDepth 100000 in
theorem b_X3_measure_0 {p : Program} {l : Launch} {e : Env} {s : State} {m : MethodId} {args : Array Value} {below : List Frame} {meth : Method} {c : Code} {x : CX} {res : ST} (F : MF p m meth c cX3_measure 5 s args RX3 none) : ∀ (H : Heap) (locs : List Loc) (ls : Array Slot) (S : ST), WD x s S H locs → ∀ (i0 : Nat) (i1 : Nat), i0 < 4 → i1 < 22 → lv_has ls 5 [(0, .ref (x.2.2 (58 + i0))), (1, .ref (x.2.2 (2 * i1)))] → f_X3_measure_0 S i0 i1 = some res → W p l e ({ frames := 2, cells := 0, slots := 0, locals := 44 } : Room) s m args below meth c H locs 0 0 (MQ below (QV x res s.heap.size) args s 0 0 (AA x s.heap.size)) (F0 m 0 ls []) := by
  intro H locs ls S w i0 i1 h0 h1 hl hf
  unfold f_X3_measure_0 at hf
  refine lv_aload_n F.1 F.2.1 dX3_measure_0 rfl (lv_at hl 0 rfl) ?_
  refine g_SP_row (i := i0) F w h0 q122 dX3_measure_1 ?_
  obtain ⟨S1, hc, hf⟩ := oi_v hf
  refine k_v0 (S' := S1) w (runV (As := []) (rest := []) (kb := 48 + 2 * (i0 + 1)) F w (k_X0_wipe l x S (i0 + 1) (Nat.succ_lt_succ h0) hc H.size) cy_X0_wipe q209 q210 q211 ⟨rfl, rfl⟩ ⟨Nat.le_of_ble_eq_true rfl, Nat.le_of_ble_eq_true rfl⟩ (k_br (Nat.succ_lt_succ h0)) (enc_br x S (Nat.succ_lt_succ h0)) rfl rfl rfl hl.1 (Nat.le_of_ble_eq_true rfl) ⟨Nat.le_of_ble_eq_true rfl, Nat.le_of_ble_eq_true rfl⟩ dX3_measure_4) (fun H locs w => ?_)
  refine lv_aload_n F.1 F.2.1 dX3_measure_7 rfl (lv_at hl 0 rfl) ?_
  refine lv_iconst (v := 1) F.1 F.2.1 dX3_measure_8 (by decide) ?_
  refine p_SP_distinct (i := i0) F w h0 (by decide) q124 dX3_measure_9 (fun H locs w => ?_)
  obtain ⟨S2, e_S2⟩ : ∃ y : ST, y = sI S1 (40 + i0) 1 := ⟨_, rfl⟩
  replace w : WD x s S2 H locs := by rw [e_S2]; exact w
  replace hf := oi_l hf e_S2
  refine lv_iconst (v := 1) F.1 F.2.1 dX3_measure_12 (by decide) ?_
  refine lv_istore_n (lv' := [(2, .int 1), (0, .ref (x.2.2 (58 + i0))), (1, .ref (x.2.2 (2 * i1)))]) F.1 F.2.1 dX3_measure_13 rfl hl (by decide) rfl (fun ls hl => ?_)
  exact b_X3_measure_14 F FU _ _ _ _ w i0 i1 1 h0 h1 (lv_sub hl [1, 2, 0] rfl) hf
def f_X3_measure (S : ST) (i0 : Nat) (i1 : Nat) : Option (ST) := f_X3_measure_0 S i0 i1
set_option maxHeartbeats 4000000 in
set_option maxRecDepth 100000 in
theorem k_X3_measure (l : Launch) (x : CX) (S : ST) (i0 : Nat) (i1 : Nat) (h0 : i0 < 4) (h1 : i1 < 22) {res : ST} (hf : f_X3_measure S i0 i1 = some res) (sz : Nat) : Met l yX3_measure (Cond.code yX3_measure cX3_measure 5 none :: GW) ({ frames := 2, cells := 0, slots := 0, locals := 44 } : Room) (PC x S sz [.ref (x.2.2 (58 + i0)), .ref (x.2.2 (2 * i1))]) (QV x res sz) 0 0 (AA x sz) := by
  refine Met.ofW (cc := cX3_measure) (maxL := 5) (ret := none) (by decide) rfl ?_
  intro p e s m args below meth c s₁ B hml hv
  obtain ⟨rfl, rfl, hPW⟩ := hv
  have F : MF p m meth c cX3_measure 5 s _ RX3 none := MF.of B hml
  have w := WD.of hPW
  have hl := lv_entry ([.ref (x.2.2 (58 + i0)), .ref (x.2.2 (2 * i1))]) (n := 5) (Nat.le_of_ble_eq_true rfl)
  rw [lg_entry_eq]
  generalize (lg_sl ([.ref (x.2.2 (58 + i0)), .ref (x.2.2 (2 * i1))]) ++ List.replicate (5 - (lg_sl ([.ref (x.2.2 (58 + i0)), .ref (x.2.2 (2 * i1))])).length) Slot.unset).toArray = ls at hl ⊢
  have hl : lv_has ls 5 [(0, .ref (x.2.2 (58 + i0))), (1, .ref (x.2.2 (2 * i1)))] := hl
  unfold f_X3_measure at hf
  exact b_X3_measure_0 F  _ _ _ _ w i0 i1 h0 h1 (lv_sub hl [0, 1] rfl) hf
theorem cy_X3_unbroken : CY yX3_unbroken RX3 cX3_unbroken 2 (some .int) 0 := ⟨q7, q245, rfl, by decide, by decide, by decide +kernel⟩
def f_X3_unbroken_28 (S : ST) (a1 : Int32) : Option (Int32 × ST) := some (a1, S)
set_option maxHeartbeats 4000000 in
set_option maxRecDepth 100000 in
theorem b_X3_unbroken_28 {p : Program} {l : Launch} {e : Env} {s : State} {m : MethodId} {args : Array Value} {below : List Frame} {meth : Method} {c : Code} {x : CX} {res : Int32 × ST} (F : MF p m meth c cX3_unbroken 2 s args RX3 (some .int)) : ∀ (H : Heap) (locs : List Loc) (ls : Array Slot) (S : ST), WD x s S H locs → ∀ (a1 : Int32), lv_has ls 2 [(1, .int a1)] → f_X3_unbroken_28 S a1 = some res → W p l e ({ frames := 1, cells := 0, slots := 0, locals := 21 } : Room) s m args below meth c H locs 0 0 (MQ below (QI x res.2 res.1 s.heap.size) args s 0 0 (AA x s.heap.size)) (F0 m 28 ls []) := by
  intro H locs ls S w a1 hl hf
  unfold f_X3_unbroken_28 at hf
  refine lv_iload_n F.1 F.2.1 dX3_unbroken_28 rfl (lv_at hl 0 rfl) ?_
  exact r_iret F w (oi_s hf) dX3_unbroken_29
def f_X3_unbroken_2 : Nat → ST → Nat → Int32 → Option (Int32 × ST)
  | 0, _, _, _ => none
  | n + 1, S, i0, a1 => (if 2000 ≤ a1 then f_X3_unbroken_28 S a1 else oB (f_X0_has S (i0 + 1) (a1 + (1 : Int32))) (fun (r3 : Int32) (S2 : ST) => (if r3 = 0 then f_X3_unbroken_28 S2 a1 else oL (a1 + 1) (fun (v5 : Int32) => (f_X3_unbroken_2 n) S2 i0 v5))))
set_option maxHeartbeats 4000000 in
set_option maxRecDepth 100000 in
theorem b_X3_unbroken_2 {p : Program} {l : Launch} {e : Env} {s : State} {m : MethodId} {args : Array Value} {below : List Frame} {meth : Method} {c : Code} {x : CX} {res : Int32 × ST} (F : MF p m meth c cX3_unbroken 2 s args RX3 (some .int)) : ∀ (n : Nat), ∀ (H : Heap) (locs : List Loc) (ls : Array Slot) (S : ST), WD x s S H locs → ∀ (i0 : Nat) (a1 : Int32), i0 < 4 → lv_has ls 2 [(0, .ref (x.2.2 (58 + i0))), (1, .int a1)] → f_X3_unbroken_2 n S i0 a1 = some res → W p l e ({ frames := 1, cells := 0, slots := 0, locals := 21 } : Room) s m args below meth c H locs 0 0 (MQ below (QI x res.2 res.1 s.heap.size) args s 0 0 (AA x s.heap.size)) (F0 m 2 ls []) := by
  intro n
  induction n with
  | zero =>
    intro H locs ls S w i0 a1 h0 hl hf
    have hf : (none : Option (Int32 × ST)) = some res := hf
    cases hf
  | succ n ih =>
    intro H locs ls S w i0 a1 h0 hl hf
    unfold f_X3_unbroken_2 at hf
    refine lv_iload_n F.1 F.2.1 dX3_unbroken_2 rfl (lv_at hl 1 rfl) ?_
    refine lv_sipush (v := 2000) F.1 F.2.1 dX3_unbroken_3 (by decide) ?_
    refine lv_icmp_ge (tgt := 28) F.1 F.2.1 dX3_unbroken_6 (by decide) (fun c1 => ?_) (fun c1 => ?_)
    · replace hf := oi_t hf c1
      exact b_X3_unbroken_28 F  _ _ _ _ w a1 (lv_sub hl [1] rfl) hf
    · replace hf := oi_f hf c1
      refine lv_aload_n F.1 F.2.1 dX3_unbroken_9 rfl (lv_at hl 0 rfl) ?_
      refine g_SP_row (i := i0) F w h0 q122 dX3_unbroken_10 ?_
      refine lv_iload_n F.1 F.2.1 dX3_unbroken_13 rfl (lv_at hl 1 rfl) ?_
      refine lv_iconst (v := 1) F.1 F.2.1 dX3_unbroken_14 (by decide) ?_
      refine lv_iadd F.1 F.2.1 dX3_unbroken_15 ?_
      obtain ⟨r3, S2, hc, hf⟩ := oi_b hf
      refine k_i0 (S' := S2) (r := r3) w (runV (As := [.int (a1 + (1 : Int32))]) (rest := []) (kb := 48 + 2 * (i0 + 1)) F w (k_X0_has l x S (i0 + 1) (a1 + (1 : Int32)) (Nat.succ_lt_succ h0) hc H.size) cy_X0_has q220 q221 q222 ⟨rfl, rfl⟩ ⟨Nat.le_of_ble_eq_true rfl, Nat.le_of_ble_eq_true rfl⟩ (k_br (Nat.succ_lt_succ h0)) (enc_br x S (Nat.succ_lt_succ h0)) rfl rfl rfl hl.1 (Nat.le_of_ble_eq_true rfl) ⟨Nat.le_of_ble_eq_true rfl, Nat.le_of_ble_eq_true rfl⟩ dX3_unbroken_16) (fun H locs w => ?_)
      refine lv_if_eq (tgt := 28) F.1 F.2.1 dX3_unbroken_19 (by decide) (fun c4 => ?_) (fun c4 => ?_)
      · replace hf := oi_t hf c4
        exact b_X3_unbroken_28 F  _ _ _ _ w a1 (lv_sub hl [1] rfl) hf
      · replace hf := oi_f hf c4
        obtain ⟨v5, e_v5⟩ : ∃ y : Int32, y = (a1 + 1) := ⟨_, rfl⟩
        replace hf := oi_l hf e_v5
        refine lv_iinc (v := v5) (lv' := [(1, .int v5), (0, .ref (x.2.2 (58 + i0)))]) F.1 F.2.1 dX3_unbroken_22 hl (k := 1) rfl (by rw [e_v5]; rfl) (by decide) rfl (fun ls hl => ?_)
        refine lv_goto (tgt := 2) F.1 F.2.1 dX3_unbroken_25 (by decide) ?_
        exact ih _ _ _ _ w i0 v5 h0 (lv_sub hl [1, 0] rfl) hf
def f_X3_unbroken_0 (S : ST) (i0 : Nat) : Option (Int32 × ST) := f_X3_unbroken_2 FU S i0 0
set_option maxHeartbeats 4000000 in
set_option maxRecDepth 100000 in
theorem b_X3_unbroken_0 {p : Program} {l : Launch} {e : Env} {s : State} {m : MethodId} {args : Array Value} {below : List Frame} {meth : Method} {c : Code} {x : CX} {res : Int32 × ST} (F : MF p m meth c cX3_unbroken 2 s args RX3 (some .int)) : ∀ (H : Heap) (locs : List Loc) (ls : Array Slot) (S : ST), WD x s S H locs → ∀ (i0 : Nat), i0 < 4 → lv_has ls 2 [(0, .ref (x.2.2 (58 + i0)))] → f_X3_unbroken_0 S i0 = some res → W p l e ({ frames := 1, cells := 0, slots := 0, locals := 21 } : Room) s m args below meth c H locs 0 0 (MQ below (QI x res.2 res.1 s.heap.size) args s 0 0 (AA x s.heap.size)) (F0 m 0 ls []) := by
  intro H locs ls S w i0 h0 hl hf
  unfold f_X3_unbroken_0 at hf
  refine lv_iconst (v := 0) F.1 F.2.1 dX3_unbroken_0 (by decide) ?_
  refine lv_istore_n (lv' := [(1, .int 0), (0, .ref (x.2.2 (58 + i0)))]) F.1 F.2.1 dX3_unbroken_1 rfl hl (by decide) rfl (fun ls hl => ?_)
  exact b_X3_unbroken_2 F FU _ _ _ _ w i0 0 h0 (lv_sub hl [1, 0] rfl) hf
def f_X3_unbroken (S : ST) (i0 : Nat) : Option (Int32 × ST) := f_X3_unbroken_0 S i0
set_option maxHeartbeats 4000000 in
set_option maxRecDepth 100000 in
theorem k_X3_unbroken (l : Launch) (x : CX) (S : ST) (i0 : Nat) (h0 : i0 < 4) {res : Int32 × ST} (hf : f_X3_unbroken S i0 = some res) (sz : Nat) : Met l yX3_unbroken (Cond.code yX3_unbroken cX3_unbroken 2 (some .int) :: GW) ({ frames := 1, cells := 0, slots := 0, locals := 21 } : Room) (PC x S sz [.ref (x.2.2 (58 + i0))]) (QI x res.2 res.1 sz) 0 0 (AA x sz) := by
  refine Met.ofW (cc := cX3_unbroken) (maxL := 2) (ret := (some .int)) (by decide) rfl ?_
  intro p e s m args below meth c s₁ B hml hv
  obtain ⟨rfl, rfl, hPW⟩ := hv
  have F : MF p m meth c cX3_unbroken 2 s _ RX3 (some .int) := MF.of B hml
  have w := WD.of hPW
  have hl := lv_entry ([.ref (x.2.2 (58 + i0))]) (n := 2) (Nat.le_of_ble_eq_true rfl)
  rw [lg_entry_eq]
  generalize (lg_sl ([.ref (x.2.2 (58 + i0))]) ++ List.replicate (2 - (lg_sl ([.ref (x.2.2 (58 + i0))])).length) Slot.unset).toArray = ls at hl ⊢
  have hl : lv_has ls 2 [(0, .ref (x.2.2 (58 + i0)))] := hl
  unfold f_X3_unbroken at hf
  exact b_X3_unbroken_0 F  _ _ _ _ w i0 h0 (lv_sub hl [0] rfl) hf
theorem cy_X3_isFree : CY yX3_isFree RX3 cX3_isFree 4 (some .boolean) 2 := ⟨q7, q778, rfl, by decide, by decide, by decide +kernel⟩
def f_X3_isFree_2 : Nat → ST → Nat → Nat → Int32 → Int32 → Option (Int32 × ST)
  | 0, _, _, _, _, _ => none
  | n + 1, S, i0, i1, a2, a3 => (if (fi S i1) ≤ a3 then some (1, S) else oB (f_X2_at S i1 a3) (fun (r3 : Int32) (S2 : ST) => oB (f_X0_has S2 (i0 + 1) (a2 - r3)) (fun (r5 : Int32) (S4 : ST) => (if r5 = 0 then oL (a3 + 1) (fun (v7 : Int32) => (f_X3_isFree_2 n) S4 i0 i1 a2 v7) else some (0, S4)))))
set_option maxHeartbeats 4000000 in
set_option maxRecDepth 100000 in
theorem b_X3_isFree_2 {p : Program} {l : Launch} {e : Env} {s : State} {m : MethodId} {args : Array Value} {below : List Frame} {meth : Method} {c : Code} {x : CX} {res : Int32 × ST} (F : MF p m meth c cX3_isFree 4 s args RX3 (some .boolean)) : ∀ (n : Nat), ∀ (H : Heap) (locs : List Loc) (ls : Array Slot) (S : ST), WD x s S H locs → ∀ (i0 : Nat) (i1 : Nat) (a2 : Int32) (a3 : Int32), i0 < 4 → i1 < 22 → lv_has ls 4 [(0, .ref (x.2.2 (58 + i0))), (1, .ref (x.2.2 (2 * i1))), (2, .int a2), (3, .int a3)] → f_X3_isFree_2 n S i0 i1 a2 a3 = some res → W p l e ({ frames := 1, cells := 0, slots := 0, locals := 21 } : Room) s m args below meth c H locs 0 0 (MQ below (QI x res.2 res.1 s.heap.size) args s 0 0 (AA x s.heap.size)) (F0 m 2 ls []) := by
  intro n
  induction n with
  | zero =>
    intro H locs ls S w i0 i1 a2 a3 h0 h1 hl hf
    have hf : (none : Option (Int32 × ST)) = some res := hf
    cases hf
  | succ n ih =>
    intro H locs ls S w i0 i1 a2 a3 h0 h1 hl hf
    unfold f_X3_isFree_2 at hf
    refine lv_iload_n F.1 F.2.1 dX3_isFree_2 rfl (lv_at hl 3 rfl) ?_
    refine lv_aload_n F.1 F.2.1 dX3_isFree_3 rfl (lv_at hl 1 rfl) ?_
    refine gN_MS_count (i := i1) F w h1 (by simp [NF]) dX3_isFree_4 ?_
    refine lv_icmp_ge (tgt := 35) F.1 F.2.1 dX3_isFree_7 (by decide) (fun c1 => ?_) (fun c1 => ?_)
    · replace hf := oi_t hf c1
      refine lv_iconst (v := 1) F.1 F.2.1 dX3_isFree_35 (by decide) ?_
      exact r_zret F w rfl (oi_s hf) dX3_isFree_36
    · replace hf := oi_f hf c1
      refine lv_aload_n F.1 F.2.1 dX3_isFree_10 rfl (lv_at hl 0 rfl) ?_
      refine g_SP_row (i := i0) F w h0 q122 dX3_isFree_11 ?_
      refine lv_iload_n F.1 F.2.1 dX3_isFree_14 rfl (lv_at hl 2 rfl) ?_
      refine lv_aload_n F.1 F.2.1 dX3_isFree_15 rfl (lv_at hl 1 rfl) ?_
      refine lv_iload_n F.1 F.2.1 dX3_isFree_16 rfl (lv_at hl 3 rfl) ?_
      obtain ⟨r3, S2, hc, hf⟩ := oi_b hf
      refine k_i0 (S' := S2) (r := r3) w (runV (As := [.int a3]) (rest := [.int a2, .ref (x.2.2 (48 + 2 * (i0 + 1)))]) (kb := 2 * i1) F w (k_X2_at l x S i1 a3 h1 hc H.size) cy_X2_at q216 q217 q218 ⟨rfl, rfl⟩ ⟨Nat.le_of_ble_eq_true rfl, Nat.le_of_ble_eq_true rfl⟩ (k_ms h1) (enc_ms x S h1) rfl rfl rfl hl.1 (Nat.le_of_ble_eq_true rfl) ⟨Nat.le_of_ble_eq_true rfl, Nat.le_of_ble_eq_true rfl⟩ dX3_isFree_17) (fun H locs w => ?_)
      refine lv_isub F.1 F.2.1 dX3_isFree_20 ?_
      obtain ⟨r5, S4, hc, hf⟩ := oi_b hf
      refine k_i0 (S' := S4) (r := r5) w (runV (As := [.int (a2 - r3)]) (rest := []) (kb := 48 + 2 * (i0 + 1)) F w (k_X0_has l x S2 (i0 + 1) (a2 - r3) (Nat.succ_lt_succ h0) hc H.size) cy_X0_has q220 q221 q222 ⟨rfl, rfl⟩ ⟨Nat.le_of_ble_eq_true rfl, Nat.le_of_ble_eq_true rfl⟩ (k_br (Nat.succ_lt_succ h0)) (enc_br x S2 (Nat.succ_lt_succ h0)) rfl rfl rfl hl.1 (Nat.le_of_ble_eq_true rfl) ⟨Nat.le_of_ble_eq_true rfl, Nat.le_of_ble_eq_true rfl⟩ dX3_isFree_21) (fun H locs w => ?_)
      refine lv_if_eq (tgt := 29) F.1 F.2.1 dX3_isFree_24 (by decide) (fun c6 => ?_) (fun c6 => ?_)
      · replace hf := oi_t hf c6
        obtain ⟨v7, e_v7⟩ : ∃ y : Int32, y = (a3 + 1) := ⟨_, rfl⟩
        replace hf := oi_l hf e_v7
        refine lv_iinc (v := v7) (lv' := [(3, .int v7), (0, .ref (x.2.2 (58 + i0))), (1, .ref (x.2.2 (2 * i1))), (2, .int a2)]) F.1 F.2.1 dX3_isFree_29 hl (k := 3) rfl (by rw [e_v7]; rfl) (by decide) rfl (fun ls hl => ?_)
        refine lv_goto (tgt := 2) F.1 F.2.1 dX3_isFree_32 (by decide) ?_
        exact ih _ _ _ _ w i0 i1 a2 v7 h0 h1 (lv_sub hl [1, 2, 3, 0] rfl) hf
      · replace hf := oi_f hf c6
        refine lv_iconst (v := 0) F.1 F.2.1 dX3_isFree_27 (by decide) ?_
        exact r_zret F w rfl (oi_s hf) dX3_isFree_28
def f_X3_isFree_0 (S : ST) (i0 : Nat) (i1 : Nat) (a2 : Int32) : Option (Int32 × ST) := f_X3_isFree_2 FU S i0 i1 a2 0
set_option maxHeartbeats 4000000 in
set_option maxRecDepth 100000 in
theorem b_X3_isFree_0 {p : Program} {l : Launch} {e : Env} {s : State} {m : MethodId} {args : Array Value} {below : List Frame} {meth : Method} {c : Code} {x : CX} {res : Int32 × ST} (F : MF p m meth c cX3_isFree 4 s args RX3 (some .boolean)) : ∀ (H : Heap) (locs : List Loc) (ls : Array Slot) (S : ST), WD x s S H locs → ∀ (i0 : Nat) (i1 : Nat) (a2 : Int32), i0 < 4 → i1 < 22 → lv_has ls 4 [(0, .ref (x.2.2 (58 + i0))), (1, .ref (x.2.2 (2 * i1))), (2, .int a2)] → f_X3_isFree_0 S i0 i1 a2 = some res → W p l e ({ frames := 1, cells := 0, slots := 0, locals := 21 } : Room) s m args below meth c H locs 0 0 (MQ below (QI x res.2 res.1 s.heap.size) args s 0 0 (AA x s.heap.size)) (F0 m 0 ls []) := by
  intro H locs ls S w i0 i1 a2 h0 h1 hl hf
  unfold f_X3_isFree_0 at hf
  refine lv_iconst (v := 0) F.1 F.2.1 dX3_isFree_0 (by decide) ?_
  refine lv_istore_n (lv' := [(3, .int 0), (0, .ref (x.2.2 (58 + i0))), (1, .ref (x.2.2 (2 * i1))), (2, .int a2)]) F.1 F.2.1 dX3_isFree_1 rfl hl (by decide) rfl (fun ls hl => ?_)
  exact b_X3_isFree_2 F FU _ _ _ _ w i0 i1 a2 0 h0 h1 (lv_sub hl [1, 2, 3, 0] rfl) hf
def f_X3_isFree (S : ST) (i0 : Nat) (i1 : Nat) (a2 : Int32) : Option (Int32 × ST) := f_X3_isFree_0 S i0 i1 a2
set_option maxHeartbeats 4000000 in
set_option maxRecDepth 100000 in
theorem k_X3_isFree (l : Launch) (x : CX) (S : ST) (i0 : Nat) (i1 : Nat) (a2 : Int32) (h0 : i0 < 4) (h1 : i1 < 22) {res : Int32 × ST} (hf : f_X3_isFree S i0 i1 a2 = some res) (sz : Nat) : Met l yX3_isFree (Cond.code yX3_isFree cX3_isFree 4 (some .boolean) :: GW) ({ frames := 1, cells := 0, slots := 0, locals := 21 } : Room) (PC x S sz [.ref (x.2.2 (58 + i0)), .ref (x.2.2 (2 * i1)), .int a2]) (QI x res.2 res.1 sz) 0 0 (AA x sz) := by
  refine Met.ofW (cc := cX3_isFree) (maxL := 4) (ret := (some .boolean)) (by decide) rfl ?_
  intro p e s m args below meth c s₁ B hml hv
  obtain ⟨rfl, rfl, hPW⟩ := hv
  have F : MF p m meth c cX3_isFree 4 s _ RX3 (some .boolean) := MF.of B hml
  have w := WD.of hPW
  have hl := lv_entry ([.ref (x.2.2 (58 + i0)), .ref (x.2.2 (2 * i1)), .int a2]) (n := 4) (Nat.le_of_ble_eq_true rfl)
  rw [lg_entry_eq]
  generalize (lg_sl ([.ref (x.2.2 (58 + i0)), .ref (x.2.2 (2 * i1)), .int a2]) ++ List.replicate (4 - (lg_sl ([.ref (x.2.2 (58 + i0)), .ref (x.2.2 (2 * i1)), .int a2])).length) Slot.unset).toArray = ls at hl ⊢
  have hl : lv_has ls 4 [(0, .ref (x.2.2 (58 + i0))), (1, .ref (x.2.2 (2 * i1))), (2, .int a2)] := hl
  unfold f_X3_isFree at hf
  exact b_X3_isFree_0 F  _ _ _ _ w i0 i1 a2 h0 h1 (lv_sub hl [0, 1, 2] rfl) hf
theorem cy_X3_note : CY yX3_note RX3 cX3_note 4 none 2 := ⟨q7, q782, rfl, by decide, by decide, by decide +kernel⟩
def f_X3_note_2 : Nat → ST → Nat → Nat → Int32 → Int32 → Option (ST)
  | 0, _, _, _, _, _ => none
  | n + 1, S, i0, i1, a2, a3 => (if (fi S i1) ≤ a3 then some S else oB (f_X2_at S i1 a3) (fun (r3 : Int32) (S2 : ST) => oV (f_X0_put S2 (i0 + 1) (a2 - r3)) (fun (S4 : ST) => oL (a3 + 1) (fun (v5 : Int32) => (f_X3_note_2 n) S4 i0 i1 a2 v5))))
set_option maxHeartbeats 4000000 in
set_option maxRecDepth 100000 in
theorem b_X3_note_2 {p : Program} {l : Launch} {e : Env} {s : State} {m : MethodId} {args : Array Value} {below : List Frame} {meth : Method} {c : Code} {x : CX} {res : ST} (F : MF p m meth c cX3_note 4 s args RX3 none) : ∀ (n : Nat), ∀ (H : Heap) (locs : List Loc) (ls : Array Slot) (S : ST), WD x s S H locs → ∀ (i0 : Nat) (i1 : Nat) (a2 : Int32) (a3 : Int32), i0 < 4 → i1 < 22 → lv_has ls 4 [(0, .ref (x.2.2 (58 + i0))), (1, .ref (x.2.2 (2 * i1))), (2, .int a2), (3, .int a3)] → f_X3_note_2 n S i0 i1 a2 a3 = some res → W p l e ({ frames := 1, cells := 0, slots := 0, locals := 21 } : Room) s m args below meth c H locs 0 0 (MQ below (QV x res s.heap.size) args s 0 0 (AA x s.heap.size)) (F0 m 2 ls []) := by
  intro n
  induction n with
  | zero =>
    intro H locs ls S w i0 i1 a2 a3 h0 h1 hl hf
    have hf : (none : Option (ST)) = some res := hf
    cases hf
  | succ n ih =>
    intro H locs ls S w i0 i1 a2 a3 h0 h1 hl hf
    unfold f_X3_note_2 at hf
    refine lv_iload_n F.1 F.2.1 dX3_note_2 rfl (lv_at hl 3 rfl) ?_
    refine lv_aload_n F.1 F.2.1 dX3_note_3 rfl (lv_at hl 1 rfl) ?_
    refine gN_MS_count (i := i1) F w h1 (by simp [NF]) dX3_note_4 ?_
    refine lv_icmp_ge (tgt := 30) F.1 F.2.1 dX3_note_7 (by decide) (fun c1 => ?_) (fun c1 => ?_)
    · replace hf := oi_t hf c1
      exact r_vret F w (oi_s hf) dX3_note_30
    · replace hf := oi_f hf c1
      refine lv_aload_n F.1 F.2.1 dX3_note_10 rfl (lv_at hl 0 rfl) ?_
      refine g_SP_row (i := i0) F w h0 q122 dX3_note_11 ?_
      refine lv_iload_n F.1 F.2.1 dX3_note_14 rfl (lv_at hl 2 rfl) ?_
      refine lv_aload_n F.1 F.2.1 dX3_note_15 rfl (lv_at hl 1 rfl) ?_
      refine lv_iload_n F.1 F.2.1 dX3_note_16 rfl (lv_at hl 3 rfl) ?_
      obtain ⟨r3, S2, hc, hf⟩ := oi_b hf
      refine k_i0 (S' := S2) (r := r3) w (runV (As := [.int a3]) (rest := [.int a2, .ref (x.2.2 (48 + 2 * (i0 + 1)))]) (kb := 2 * i1) F w (k_X2_at l x S i1 a3 h1 hc H.size) cy_X2_at q216 q217 q218 ⟨rfl, rfl⟩ ⟨Nat.le_of_ble_eq_true rfl, Nat.le_of_ble_eq_true rfl⟩ (k_ms h1) (enc_ms x S h1) rfl rfl rfl hl.1 (Nat.le_of_ble_eq_true rfl) ⟨Nat.le_of_ble_eq_true rfl, Nat.le_of_ble_eq_true rfl⟩ dX3_note_17) (fun H locs w => ?_)
      refine lv_isub F.1 F.2.1 dX3_note_20 ?_
      obtain ⟨S4, hc, hf⟩ := oi_v hf
      refine k_v0 (S' := S4) w (runV (As := [.int (a2 - r3)]) (rest := []) (kb := 48 + 2 * (i0 + 1)) F w (k_X0_put l x S2 (i0 + 1) (a2 - r3) (Nat.succ_lt_succ h0) hc H.size) cy_X0_put q224 q225 q226 ⟨rfl, rfl⟩ ⟨Nat.le_of_ble_eq_true rfl, Nat.le_of_ble_eq_true rfl⟩ (k_br (Nat.succ_lt_succ h0)) (enc_br x S2 (Nat.succ_lt_succ h0)) rfl rfl rfl hl.1 (Nat.le_of_ble_eq_true rfl) ⟨Nat.le_of_ble_eq_true rfl, Nat.le_of_ble_eq_true rfl⟩ dX3_note_21) (fun H locs w => ?_)
      obtain ⟨v5, e_v5⟩ : ∃ y : Int32, y = (a3 + 1) := ⟨_, rfl⟩
      replace hf := oi_l hf e_v5
      refine lv_iinc (v := v5) (lv' := [(3, .int v5), (0, .ref (x.2.2 (58 + i0))), (1, .ref (x.2.2 (2 * i1))), (2, .int a2)]) F.1 F.2.1 dX3_note_24 hl (k := 3) rfl (by rw [e_v5]; rfl) (by decide) rfl (fun ls hl => ?_)
      refine lv_goto (tgt := 2) F.1 F.2.1 dX3_note_27 (by decide) ?_
      exact ih _ _ _ _ w i0 i1 a2 v5 h0 h1 (lv_sub hl [1, 2, 3, 0] rfl) hf
def f_X3_note_0 (S : ST) (i0 : Nat) (i1 : Nat) (a2 : Int32) : Option (ST) := f_X3_note_2 FU S i0 i1 a2 0
set_option maxHeartbeats 4000000 in
set_option maxRecDepth 100000 in
theorem b_X3_note_0 {p : Program} {l : Launch} {e : Env} {s : State} {m : MethodId} {args : Array Value} {below : List Frame} {meth : Method} {c : Code} {x : CX} {res : ST} (F : MF p m meth c cX3_note 4 s args RX3 none) : ∀ (H : Heap) (locs : List Loc) (ls : Array Slot) (S : ST), WD x s S H locs → ∀ (i0 : Nat) (i1 : Nat) (a2 : Int32), i0 < 4 → i1 < 22 → lv_has ls 4 [(0, .ref (x.2.2 (58 + i0))), (1, .ref (x.2.2 (2 * i1))), (2, .int a2)] → f_X3_note_0 S i0 i1 a2 = some res → W p l e ({ frames := 1, cells := 0, slots := 0, locals := 21 } : Room) s m args below meth c H locs 0 0 (MQ below (QV x res s.heap.size) args s 0 0 (AA x s.heap.size)) (F0 m 0 ls []) := by
  intro H locs ls S w i0 i1 a2 h0 h1 hl hf
  unfold f_X3_note_0 at hf
  refine lv_iconst (v := 0) F.1 F.2.1 dX3_note_0 (by decide) ?_
  refine lv_istore_n (lv' := [(3, .int 0), (0, .ref (x.2.2 (58 + i0))), (1, .ref (x.2.2 (2 * i1))), (2, .int a2)]) F.1 F.2.1 dX3_note_1 rfl hl (by decide) rfl (fun ls hl => ?_)
  exact b_X3_note_2 F FU _ _ _ _ w i0 i1 a2 0 h0 h1 (lv_sub hl [1, 2, 3, 0] rfl) hf
def f_X3_note (S : ST) (i0 : Nat) (i1 : Nat) (a2 : Int32) : Option (ST) := f_X3_note_0 S i0 i1 a2
set_option maxHeartbeats 4000000 in
set_option maxRecDepth 100000 in
theorem k_X3_note (l : Launch) (x : CX) (S : ST) (i0 : Nat) (i1 : Nat) (a2 : Int32) (h0 : i0 < 4) (h1 : i1 < 22) {res : ST} (hf : f_X3_note S i0 i1 a2 = some res) (sz : Nat) : Met l yX3_note (Cond.code yX3_note cX3_note 4 none :: GW) ({ frames := 1, cells := 0, slots := 0, locals := 21 } : Room) (PC x S sz [.ref (x.2.2 (58 + i0)), .ref (x.2.2 (2 * i1)), .int a2]) (QV x res sz) 0 0 (AA x sz) := by
  refine Met.ofW (cc := cX3_note) (maxL := 4) (ret := none) (by decide) rfl ?_
  intro p e s m args below meth c s₁ B hml hv
  obtain ⟨rfl, rfl, hPW⟩ := hv
  have F : MF p m meth c cX3_note 4 s _ RX3 none := MF.of B hml
  have w := WD.of hPW
  have hl := lv_entry ([.ref (x.2.2 (58 + i0)), .ref (x.2.2 (2 * i1)), .int a2]) (n := 4) (Nat.le_of_ble_eq_true rfl)
  rw [lg_entry_eq]
  generalize (lg_sl ([.ref (x.2.2 (58 + i0)), .ref (x.2.2 (2 * i1)), .int a2]) ++ List.replicate (4 - (lg_sl ([.ref (x.2.2 (58 + i0)), .ref (x.2.2 (2 * i1)), .int a2])).length) Slot.unset).toArray = ls at hl ⊢
  have hl : lv_has ls 4 [(0, .ref (x.2.2 (58 + i0))), (1, .ref (x.2.2 (2 * i1))), (2, .int a2)] := hl
  unfold f_X3_note at hf
  exact b_X3_note_0 F  _ _ _ _ w i0 i1 a2 h0 h1 (lv_sub hl [0, 1, 2] rfl) hf
