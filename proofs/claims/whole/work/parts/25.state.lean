theorem cy_X4_take : CY yX4_take RX4 cX4_take 3 none 1 := ⟨q2, q473, rfl, by decide, by decide, by decide +kernel⟩
def f_X4_take_2 : Nat → ST → Nat → Nat → Int32 → Option (ST)
  | 0, _, _, _, _ => none
  | n + 1, S, i0, i1, a2 => (if 4 ≤ a2 then oL (sI S (30 + i0) (fi S (30 + i1))) (fun (S2 : ST) => some S2) else oG (inB a2 4) (oG (inB a2 4) (oV (f_X2_take S (4 * i0 + (Int32.toNatClampNeg a2)) (4 * i1 + (Int32.toNatClampNeg a2))) (fun (S5 : ST) => oL (a2 + 1) (fun (v6 : Int32) => (f_X4_take_2 n) S5 i0 i1 v6)))))
set_option maxHeartbeats 4000000 in
set_option maxRecDepth 100000 in
theorem b_X4_take_2 {p : Program} {l : Launch} {e : Env} {s : State} {m : MethodId} {args : Array Value} {below : List Frame} {meth : Method} {c : Code} {x : CX} {res : ST} (F : MF p m meth c cX4_take 3 s args RX4 none) : ∀ (n : Nat), ∀ (H : Heap) (locs : List Loc) (ls : Array Slot) (S : ST), WD x s S H locs → ∀ (i0 : Nat) (i1 : Nat) (a2 : Int32), i0 < 5 → i1 < 5 → lv_has ls 3 [(0, .ref (x.2.2 (63 + 2 * i0))), (1, .ref (x.2.2 (63 + 2 * i1))), (2, .int a2)] → f_X4_take_2 n S i0 i1 a2 = some res → W p l e ({ frames := 2, cells := 0, slots := 0, locals := 85 } : Room) s m args below meth c H locs 0 0 (MQ below (QV x res s.heap.size) args s 0 0 (AA x s.heap.size)) (F0 m 2 ls []) := by
  intro n
  induction n with
  | zero =>
    intro H locs ls S w i0 i1 a2 h0 h1 hl hf
    have hf : (none : Option (ST)) = some res := hf
    cases hf
  | succ n ih =>
    intro H locs ls S w i0 i1 a2 h0 h1 hl hf
    unfold f_X4_take_2 at hf
    refine lv_iload_n F.1 F.2.1 dX4_take_2 rfl (lv_at hl 2 rfl) ?_
    refine lv_iconst (v := 4) F.1 F.2.1 dX4_take_3 (by decide) ?_
    refine lv_icmp_ge (tgt := 28) F.1 F.2.1 dX4_take_4 (by decide) (fun c1 => ?_) (fun c1 => ?_)
    · replace hf := oi_t hf c1
      refine lv_aload_n F.1 F.2.1 dX4_take_28 rfl (lv_at hl 0 rfl) ?_
      refine lv_aload_n F.1 F.2.1 dX4_take_29 rfl (lv_at hl 1 rfl) ?_
      refine g_ST_modulus (i := i1) F w h1 q59 dX4_take_30 ?_
      refine p_ST_modulus (i := i0) F w h0 q59 dX4_take_33 (fun H locs w => ?_)
      obtain ⟨S2, e_S2⟩ : ∃ y : ST, y = sI S (30 + i0) (fi S (30 + i1)) := ⟨_, rfl⟩
      replace w : WD x s S2 H locs := by rw [e_S2]; exact w
      replace hf := oi_l hf e_S2
      exact r_vret F w (oi_s hf) dX4_take_36
    · replace hf := oi_f hf c1
      refine lv_aload_n F.1 F.2.1 dX4_take_7 rfl (lv_at hl 0 rfl) ?_
      refine g_ST_sets (i := i0) F w h0 q57 dX4_take_8 ?_
      refine lv_iload_n F.1 F.2.1 dX4_take_11 rfl (lv_at hl 2 rfl) ?_
      obtain ⟨hb3, hf⟩ := oi_g hf
      refine r_sets F w (j := i0) h0 hb3 dX4_take_12 ?_
      refine lv_aload_n F.1 F.2.1 dX4_take_13 rfl (lv_at hl 1 rfl) ?_
      refine g_ST_sets (i := i1) F w h1 q57 dX4_take_14 ?_
      refine lv_iload_n F.1 F.2.1 dX4_take_17 rfl (lv_at hl 2 rfl) ?_
      obtain ⟨hb4, hf⟩ := oi_g hf
      refine r_sets F w (j := i1) h1 hb4 dX4_take_18 ?_
      obtain ⟨S5, hc, hf⟩ := oi_v hf
      refine k_v0 (S' := S5) w (runV (As := [.ref (x.2.2 (2 * (4 * i1 + (Int32.toNatClampNeg a2))))]) (rest := []) (kb := 2 * (4 * i0 + (Int32.toNatClampNeg a2))) F w (k_X2_take l x S (4 * i0 + (Int32.toNatClampNeg a2)) (4 * i1 + (Int32.toNatClampNeg a2)) (ms_lt h0 (inB_lt hb3)) (ms_lt h1 (inB_lt hb4)) hc H.size) cy_X2_take q474 q475 q476 ⟨rfl, rfl⟩ ⟨Nat.le_of_ble_eq_true rfl, Nat.le_of_ble_eq_true rfl⟩ (k_ms (ms_lt h0 (inB_lt hb3))) (enc_ms x S (ms_lt h0 (inB_lt hb3))) rfl rfl rfl hl.1 (Nat.le_of_ble_eq_true rfl) ⟨Nat.le_of_ble_eq_true rfl, Nat.le_of_ble_eq_true rfl⟩ dX4_take_19) (fun H locs w => ?_)
      obtain ⟨v6, e_v6⟩ : ∃ y : Int32, y = (a2 + 1) := ⟨_, rfl⟩
      replace hf := oi_l hf e_v6
      refine lv_iinc (v := v6) (lv' := [(2, .int v6), (0, .ref (x.2.2 (63 + 2 * i0))), (1, .ref (x.2.2 (63 + 2 * i1)))]) F.1 F.2.1 dX4_take_22 hl (k := 2) rfl (by rw [e_v6]; rfl) (by decide) rfl (fun ls hl => ?_)
      refine lv_goto (tgt := 2) F.1 F.2.1 dX4_take_25 (by decide) ?_
      exact ih _ _ _ _ w i0 i1 v6 h0 h1 (lv_sub hl [1, 2, 0] rfl) hf
def f_X4_take_0 (S : ST) (i0 : Nat) (i1 : Nat) : Option (ST) := f_X4_take_2 FU S i0 i1 0
set_option maxHeartbeats 4000000 in
set_option maxRecDepth 100000 in
theorem b_X4_take_0 {p : Program} {l : Launch} {e : Env} {s : State} {m : MethodId} {args : Array Value} {below : List Frame} {meth : Method} {c : Code} {x : CX} {res : ST} (F : MF p m meth c cX4_take 3 s args RX4 none) : ∀ (H : Heap) (locs : List Loc) (ls : Array Slot) (S : ST), WD x s S H locs → ∀ (i0 : Nat) (i1 : Nat), i0 < 5 → i1 < 5 → lv_has ls 3 [(0, .ref (x.2.2 (63 + 2 * i0))), (1, .ref (x.2.2 (63 + 2 * i1)))] → f_X4_take_0 S i0 i1 = some res → W p l e ({ frames := 2, cells := 0, slots := 0, locals := 85 } : Room) s m args below meth c H locs 0 0 (MQ below (QV x res s.heap.size) args s 0 0 (AA x s.heap.size)) (F0 m 0 ls []) := by
  intro H locs ls S w i0 i1 h0 h1 hl hf
  unfold f_X4_take_0 at hf
  refine lv_iconst (v := 0) F.1 F.2.1 dX4_take_0 (by decide) ?_
  refine lv_istore_n (lv' := [(2, .int 0), (0, .ref (x.2.2 (63 + 2 * i0))), (1, .ref (x.2.2 (63 + 2 * i1)))]) F.1 F.2.1 dX4_take_1 rfl hl (by decide) rfl (fun ls hl => ?_)
  exact b_X4_take_2 F FU _ _ _ _ w i0 i1 0 h0 h1 (lv_sub hl [1, 2, 0] rfl) hf
def f_X4_take (S : ST) (i0 : Nat) (i1 : Nat) : Option (ST) := f_X4_take_0 S i0 i1
set_option maxHeartbeats 4000000 in
set_option maxRecDepth 100000 in
theorem k_X4_take (l : Launch) (x : CX) (S : ST) (i0 : Nat) (i1 : Nat) (h0 : i0 < 5) (h1 : i1 < 5) {res : ST} (hf : f_X4_take S i0 i1 = some res) (sz : Nat) : Met l yX4_take (Cond.code yX4_take cX4_take 3 none :: GW) ({ frames := 2, cells := 0, slots := 0, locals := 85 } : Room) (PC x S sz [.ref (x.2.2 (63 + 2 * i0)), .ref (x.2.2 (63 + 2 * i1))]) (QV x res sz) 0 0 (AA x sz) := by
  refine Met.ofW (cc := cX4_take) (maxL := 3) (ret := none) (by decide) rfl ?_
  intro p e s m args below meth c s₁ B hml hv
  obtain ⟨rfl, rfl, hPW⟩ := hv
  have F : MF p m meth c cX4_take 3 s _ RX4 none := MF.of B hml
  have w := WD.of hPW
  have hl := lv_entry ([.ref (x.2.2 (63 + 2 * i0)), .ref (x.2.2 (63 + 2 * i1))]) (n := 3) (Nat.le_of_ble_eq_true rfl)
  rw [lg_entry_eq]
  generalize (lg_sl ([.ref (x.2.2 (63 + 2 * i0)), .ref (x.2.2 (63 + 2 * i1))]) ++ List.replicate (3 - (lg_sl ([.ref (x.2.2 (63 + 2 * i0)), .ref (x.2.2 (63 + 2 * i1))])).length) Slot.unset).toArray = ls at hl ⊢
  have hl : lv_has ls 3 [(0, .ref (x.2.2 (63 + 2 * i0))), (1, .ref (x.2.2 (63 + 2 * i1)))] := hl
  unfold f_X4_take at hf
  exact b_X4_take_0 F  _ _ _ _ w i0 i1 h0 h1 (lv_sub hl [0, 1] rfl) hf
theorem cy_X6_save : CY yX6_save RX6 cX6_save 2 none 1 := ⟨q4, q469, rfl, by decide, by decide, by decide +kernel⟩
def f_X6_save_15 (S : ST)  : Option (ST) := some S
set_option maxHeartbeats 4000000 in
set_option maxRecDepth 100000 in
theorem b_X6_save_15 {p : Program} {l : Launch} {e : Env} {s : State} {m : MethodId} {args : Array Value} {below : List Frame} {meth : Method} {c : Code} {x : CX} {res : ST} (F : MF p m meth c cX6_save 2 s args RX6 none) : ∀ (H : Heap) (locs : List Loc) (ls : Array Slot) (S : ST), WD x s S H locs → lv_has ls 2 [] → f_X6_save_15 S = some res → W p l e ({ frames := 3, cells := 0, slots := 0, locals := 107 } : Room) s m args below meth c H locs 0 0 (MQ below (QV x res s.heap.size) args s 0 0 (AA x s.heap.size)) (F0 m 15 ls []) := by
  intro H locs ls S w hl hf
  unfold f_X6_save_15 at hf
  exact r_vret F w (oi_s hf) dX6_save_15
def f_X6_save_48 (S : ST) (as0 : Int32) : Option (ST) := oL (sI S 36 as0) (fun (S1 : ST) => oL (sI S1 37 (if 4 < ((fi S1 37) + (1 : Int32)) then 4 else ((fi S1 37) + (1 : Int32)))) (fun (S2 : ST) => some S2))
set_option maxHeartbeats 4000000 in
set_option maxRecDepth 100000 in
theorem b_X6_save_48 {p : Program} {l : Launch} {e : Env} {s : State} {m : MethodId} {args : Array Value} {below : List Frame} {meth : Method} {c : Code} {x : CX} {res : ST} (F : MF p m meth c cX6_save 2 s args RX6 none) : ∀ (H : Heap) (locs : List Loc) (ls : Array Slot) (S : ST), WD x s S H locs → ∀ (as0 : Int32), lv_has ls 2 [(0, .ref (x.2.2 (73)))] → f_X6_save_48 S as0 = some res → W p l e ({ frames := 3, cells := 0, slots := 0, locals := 107 } : Room) s m args below meth c H locs 0 0 (MQ below (QV x res s.heap.size) args s 0 0 (AA x s.heap.size)) (F0 m 48 ls [.int as0, .ref (x.2.2 (73))]) := by
  intro H locs ls S w as0 hl hf
  unfold f_X6_save_48 at hf
  refine p_US_next F w q76 dX6_save_48 (fun H locs w => ?_)
  obtain ⟨S1, e_S1⟩ : ∃ y : ST, y = sI S 36 as0 := ⟨_, rfl⟩
  replace w : WD x s S1 H locs := by rw [e_S1]; exact w
  replace hf := oi_l hf e_S1
  refine lv_aload_n F.1 F.2.1 dX6_save_51 rfl (lv_at hl 0 rfl) ?_
  refine lv_aload_n F.1 F.2.1 dX6_save_52 rfl (lv_at hl 0 rfl) ?_
  refine g_US_depth F w q77 dX6_save_53 ?_
  refine lv_iconst (v := 1) F.1 F.2.1 dX6_save_56 (by decide) ?_
  refine lv_iadd F.1 F.2.1 dX6_save_57 ?_
  refine lv_iconst (v := 4) F.1 F.2.1 dX6_save_58 (by decide) ?_
  refine va_mmin F.1 F.2.1 (F.2.2.1.trans hl.1.symm) F.2.2.2.1 (F.2.2.2.2.1 _ q481) (F.2.2.2.2.1 _ q482) (F.2.2.2.2.1 _ q18) (F.2.2.2.2.1 _ q483) (Nat.le_of_ble_eq_true rfl) (Nat.le_of_ble_eq_true rfl) (Nat.le_of_ble_eq_true rfl) (Nat.le_of_ble_eq_true rfl) dX6_save_59 ?_
  refine p_US_depth F w q77 dX6_save_62 (fun H locs w => ?_)
  obtain ⟨S2, e_S2⟩ : ∃ y : ST, y = sI S1 37 (if 4 < ((fi S1 37) + (1 : Int32)) then 4 else ((fi S1 37) + (1 : Int32))) := ⟨_, rfl⟩
  replace w : WD x s S2 H locs := by rw [e_S2]; exact w
  replace hf := oi_l hf e_S2
  exact r_vret F w (oi_s hf) dX6_save_65
def f_X6_save_0 (S : ST) (i1 : Nat) : Option (ST) := (if (fi S 36) < 0 then f_X6_save_15 S else (if (fi S 36) < 4 then oG (inB (fi S 36) 4) (oV (f_X4_take S ((Int32.toNatClampNeg (fi S 36)) + 1) i1) (fun (S4 : ST) => (if (fi S4 36) = 3 then f_X6_save_48 S4 0 else f_X6_save_48 S4 ((fi S4 36) + (1 : Int32))))) else f_X6_save_15 S))
set_option maxHeartbeats 4000000 in
set_option maxRecDepth 100000 in
theorem b_X6_save_0 {p : Program} {l : Launch} {e : Env} {s : State} {m : MethodId} {args : Array Value} {below : List Frame} {meth : Method} {c : Code} {x : CX} {res : ST} (F : MF p m meth c cX6_save 2 s args RX6 none) : ∀ (H : Heap) (locs : List Loc) (ls : Array Slot) (S : ST), WD x s S H locs → ∀ (i1 : Nat), i1 < 5 → lv_has ls 2 [(0, .ref (x.2.2 (73))), (1, .ref (x.2.2 (63 + 2 * i1)))] → f_X6_save_0 S i1 = some res → W p l e ({ frames := 3, cells := 0, slots := 0, locals := 107 } : Room) s m args below meth c H locs 0 0 (MQ below (QV x res s.heap.size) args s 0 0 (AA x s.heap.size)) (F0 m 0 ls []) := by
  intro H locs ls S w i1 h1 hl hf
  unfold f_X6_save_0 at hf
  refine lv_aload_n F.1 F.2.1 dX6_save_0 rfl (lv_at hl 0 rfl) ?_
  refine g_US_next F w q76 dX6_save_1 ?_
  refine lv_if_lt (tgt := 15) F.1 F.2.1 dX6_save_4 (by decide) (fun c1 => ?_) (fun c1 => ?_)
  · replace hf := oi_t hf c1
    exact b_X6_save_15 F  _ _ _ _ w  (lv_sub hl [] rfl) hf
  · replace hf := oi_f hf c1
    refine lv_aload_n F.1 F.2.1 dX6_save_7 rfl (lv_at hl 0 rfl) ?_
    refine g_US_next F w q76 dX6_save_8 ?_
    refine lv_iconst (v := 4) F.1 F.2.1 dX6_save_11 (by decide) ?_
    refine lv_icmp_lt (tgt := 16) F.1 F.2.1 dX6_save_12 (by decide) (fun c2 => ?_) (fun c2 => ?_)
    · replace hf := oi_t hf c2
      refine lv_aload_n F.1 F.2.1 dX6_save_16 rfl (lv_at hl 0 rfl) ?_
      refine g_US_states F w q75 dX6_save_17 ?_
      refine lv_aload_n F.1 F.2.1 dX6_save_20 rfl (lv_at hl 0 rfl) ?_
      refine g_US_next F w q76 dX6_save_21 ?_
      obtain ⟨hb3, hf⟩ := oi_g hf
      refine r_states F w hb3 dX6_save_24 ?_
      refine lv_aload_n F.1 F.2.1 dX6_save_25 rfl (lv_at hl 1 rfl) ?_
      obtain ⟨S4, hc, hf⟩ := oi_v hf
      refine k_v0 (S' := S4) w (runV (As := [.ref (x.2.2 (63 + 2 * i1))]) (rest := []) (kb := 63 + 2 * ((Int32.toNatClampNeg (fi S 36)) + 1)) F w (k_X4_take l x S ((Int32.toNatClampNeg (fi S 36)) + 1) i1 (Nat.succ_lt_succ (inB_lt hb3)) h1 hc H.size) cy_X4_take q470 q471 q472 ⟨rfl, rfl⟩ ⟨Nat.le_of_ble_eq_true rfl, Nat.le_of_ble_eq_true rfl⟩ (k_st (Nat.succ_lt_succ (inB_lt hb3))) (enc_st x S (Nat.succ_lt_succ (inB_lt hb3))) rfl rfl rfl hl.1 (Nat.le_of_ble_eq_true rfl) ⟨Nat.le_of_ble_eq_true rfl, Nat.le_of_ble_eq_true rfl⟩ dX6_save_26) (fun H locs w => ?_)
      refine lv_aload_n F.1 F.2.1 dX6_save_29 rfl (lv_at hl 0 rfl) ?_
      refine lv_aload_n F.1 F.2.1 dX6_save_30 rfl (lv_at hl 0 rfl) ?_
      refine g_US_next F w q76 dX6_save_31 ?_
      refine lv_iconst (v := 3) F.1 F.2.1 dX6_save_34 (by decide) ?_
      refine lv_icmp_ne (tgt := 42) F.1 F.2.1 dX6_save_35 (by decide) (fun c5 => ?_) (fun c5 => ?_)
      · replace hf := oi_f hf c5
        refine lv_aload_n F.1 F.2.1 dX6_save_42 rfl (lv_at hl 0 rfl) ?_
        refine g_US_next F w q76 dX6_save_43 ?_
        refine lv_iconst (v := 1) F.1 F.2.1 dX6_save_46 (by decide) ?_
        refine lv_iadd F.1 F.2.1 dX6_save_47 ?_
        exact b_X6_save_48 F  _ _ _ _ w ((fi S4 36) + (1 : Int32)) (lv_sub hl [0] rfl) hf
      · replace hf := oi_t hf c5
        refine lv_iconst (v := 0) F.1 F.2.1 dX6_save_38 (by decide) ?_
        refine lv_goto (tgt := 48) F.1 F.2.1 dX6_save_39 (by decide) ?_
        exact b_X6_save_48 F  _ _ _ _ w 0 (lv_sub hl [0] rfl) hf
    · replace hf := oi_f hf c2
      exact b_X6_save_15 F  _ _ _ _ w  (lv_sub hl [] rfl) hf
def f_X6_save (S : ST) (i1 : Nat) : Option (ST) := f_X6_save_0 S i1
set_option maxHeartbeats 4000000 in
set_option maxRecDepth 100000 in
theorem k_X6_save (l : Launch) (x : CX) (S : ST) (i1 : Nat) (h1 : i1 < 5) {res : ST} (hf : f_X6_save S i1 = some res) (sz : Nat) : Met l yX6_save (Cond.code yX6_save cX6_save 2 none :: GW) ({ frames := 3, cells := 0, slots := 0, locals := 107 } : Room) (PC x S sz [.ref (x.2.2 (73)), .ref (x.2.2 (63 + 2 * i1))]) (QV x res sz) 0 0 (AA x sz) := by
  refine Met.ofW (cc := cX6_save) (maxL := 2) (ret := none) (by decide) rfl ?_
  intro p e s m args below meth c s₁ B hml hv
  obtain ⟨rfl, rfl, hPW⟩ := hv
  have F : MF p m meth c cX6_save 2 s _ RX6 none := MF.of B hml
  have w := WD.of hPW
  have hl := lv_entry ([.ref (x.2.2 (73)), .ref (x.2.2 (63 + 2 * i1))]) (n := 2) (Nat.le_of_ble_eq_true rfl)
  rw [lg_entry_eq]
  generalize (lg_sl ([.ref (x.2.2 (73)), .ref (x.2.2 (63 + 2 * i1))]) ++ List.replicate (2 - (lg_sl ([.ref (x.2.2 (73)), .ref (x.2.2 (63 + 2 * i1))])).length) Slot.unset).toArray = ls at hl ⊢
  have hl : lv_has ls 2 [(0, .ref (x.2.2 (73))), (1, .ref (x.2.2 (63 + 2 * i1)))] := hl
  unfold f_X6_save at hf
  exact b_X6_save_0 F  _ _ _ _ w i1 h1 (lv_sub hl [0, 1] rfl) hf
theorem cy_X6_restore : CY yX6_restore RX6 cX6_restore 3 none 1 := ⟨q4, q856, rfl, by decide, by decide, by decide +kernel⟩
def f_X6_restore_34 (S : ST)  : Option (ST) := some S
set_option maxHeartbeats 4000000 in
set_option maxRecDepth 100000 in
theorem b_X6_restore_34 {p : Program} {l : Launch} {e : Env} {s : State} {m : MethodId} {args : Array Value} {below : List Frame} {meth : Method} {c : Code} {x : CX} {res : ST} (F : MF p m meth c cX6_restore 3 s args RX6 none) : ∀ (H : Heap) (locs : List Loc) (ls : Array Slot) (S : ST), WD x s S H locs → lv_has ls 3 [] → f_X6_restore_34 S = some res → W p l e ({ frames := 3, cells := 0, slots := 0, locals := 107 } : Room) s m args below meth c H locs 0 0 (MQ below (QV x res s.heap.size) args s 0 0 (AA x s.heap.size)) (F0 m 34 ls []) := by
  intro H locs ls S w hl hf
  unfold f_X6_restore_34 at hf
  exact r_vret F w (oi_s hf) dX6_restore_34
def f_X6_restore_17 (S : ST) (i1 : Nat) (as0 : Int32) : Option (ST) := (if (fi S 37) = 0 then f_X6_restore_34 S else (if as0 < 0 then f_X6_restore_34 S else (if as0 < 4 then oG (inB as0 4) (oV (f_X4_take S i1 ((Int32.toNatClampNeg as0) + 1)) (fun (S5 : ST) => oL (sI S5 36 as0) (fun (S6 : ST) => oL (sI S6 37 ((fi S6 37) - (1 : Int32))) (fun (S7 : ST) => some S7)))) else f_X6_restore_34 S)))
set_option maxHeartbeats 4000000 in
set_option maxRecDepth 100000 in
theorem b_X6_restore_17 {p : Program} {l : Launch} {e : Env} {s : State} {m : MethodId} {args : Array Value} {below : List Frame} {meth : Method} {c : Code} {x : CX} {res : ST} (F : MF p m meth c cX6_restore 3 s args RX6 none) : ∀ (H : Heap) (locs : List Loc) (ls : Array Slot) (S : ST), WD x s S H locs → ∀ (i1 : Nat) (as0 : Int32), i1 < 5 → lv_has ls 3 [(0, .ref (x.2.2 (73))), (1, .ref (x.2.2 (63 + 2 * i1)))] → f_X6_restore_17 S i1 as0 = some res → W p l e ({ frames := 3, cells := 0, slots := 0, locals := 107 } : Room) s m args below meth c H locs 0 0 (MQ below (QV x res s.heap.size) args s 0 0 (AA x s.heap.size)) (F0 m 17 ls [.int as0]) := by
  intro H locs ls S w i1 as0 h1 hl hf
  unfold f_X6_restore_17 at hf
  refine lv_istore_n (lv' := [(2, .int as0), (0, .ref (x.2.2 (73))), (1, .ref (x.2.2 (63 + 2 * i1)))]) F.1 F.2.1 dX6_restore_17 rfl hl (by decide) rfl (fun ls hl => ?_)
  refine lv_aload_n F.1 F.2.1 dX6_restore_18 rfl (lv_at hl 1 rfl) ?_
  refine g_US_depth F w q77 dX6_restore_19 ?_
  refine lv_if_eq (tgt := 34) F.1 F.2.1 dX6_restore_22 (by decide) (fun c1 => ?_) (fun c1 => ?_)
  · replace hf := oi_t hf c1
    exact b_X6_restore_34 F  _ _ _ _ w  (lv_sub hl [] rfl) hf
  · replace hf := oi_f hf c1
    refine lv_iload_n F.1 F.2.1 dX6_restore_25 rfl (lv_at hl 0 rfl) ?_
    refine lv_if_lt (tgt := 34) F.1 F.2.1 dX6_restore_26 (by decide) (fun c2 => ?_) (fun c2 => ?_)
    · replace hf := oi_t hf c2
      exact b_X6_restore_34 F  _ _ _ _ w  (lv_sub hl [] rfl) hf
    · replace hf := oi_f hf c2
      refine lv_iload_n F.1 F.2.1 dX6_restore_29 rfl (lv_at hl 0 rfl) ?_
      refine lv_iconst (v := 4) F.1 F.2.1 dX6_restore_30 (by decide) ?_
      refine lv_icmp_lt (tgt := 35) F.1 F.2.1 dX6_restore_31 (by decide) (fun c3 => ?_) (fun c3 => ?_)
      · replace hf := oi_t hf c3
        refine lv_aload_n F.1 F.2.1 dX6_restore_35 rfl (lv_at hl 2 rfl) ?_
        refine lv_aload_n F.1 F.2.1 dX6_restore_36 rfl (lv_at hl 1 rfl) ?_
        refine g_US_states F w q75 dX6_restore_37 ?_
        refine lv_iload_n F.1 F.2.1 dX6_restore_40 rfl (lv_at hl 0 rfl) ?_
        obtain ⟨hb4, hf⟩ := oi_g hf
        refine r_states F w hb4 dX6_restore_41 ?_
        obtain ⟨S5, hc, hf⟩ := oi_v hf
        refine k_v0 (S' := S5) w (runV (As := [.ref (x.2.2 (63 + 2 * ((Int32.toNatClampNeg as0) + 1)))]) (rest := []) (kb := 63 + 2 * i1) F w (k_X4_take l x S i1 ((Int32.toNatClampNeg as0) + 1) h1 (Nat.succ_lt_succ (inB_lt hb4)) hc H.size) cy_X4_take q470 q471 q472 ⟨rfl, rfl⟩ ⟨Nat.le_of_ble_eq_true rfl, Nat.le_of_ble_eq_true rfl⟩ (k_st h1) (enc_st x S h1) rfl rfl rfl hl.1 (Nat.le_of_ble_eq_true rfl) ⟨Nat.le_of_ble_eq_true rfl, Nat.le_of_ble_eq_true rfl⟩ dX6_restore_42) (fun H locs w => ?_)
        refine lv_aload_n F.1 F.2.1 dX6_restore_45 rfl (lv_at hl 1 rfl) ?_
        refine lv_iload_n F.1 F.2.1 dX6_restore_46 rfl (lv_at hl 0 rfl) ?_
        refine p_US_next F w q76 dX6_restore_47 (fun H locs w => ?_)
        obtain ⟨S6, e_S6⟩ : ∃ y : ST, y = sI S5 36 as0 := ⟨_, rfl⟩
        replace w : WD x s S6 H locs := by rw [e_S6]; exact w
        replace hf := oi_l hf e_S6
        refine lv_aload_n F.1 F.2.1 dX6_restore_50 rfl (lv_at hl 1 rfl) ?_
        refine lv_dup F.1 F.2.1 dX6_restore_51 rfl ?_
        refine g_US_depth F w q77 dX6_restore_52 ?_
        refine lv_iconst (v := 1) F.1 F.2.1 dX6_restore_55 (by decide) ?_
        refine lv_isub F.1 F.2.1 dX6_restore_56 ?_
        refine p_US_depth F w q77 dX6_restore_57 (fun H locs w => ?_)
        obtain ⟨S7, e_S7⟩ : ∃ y : ST, y = sI S6 37 ((fi S6 37) - (1 : Int32)) := ⟨_, rfl⟩
        replace w : WD x s S7 H locs := by rw [e_S7]; exact w
        replace hf := oi_l hf e_S7
        exact r_vret F w (oi_s hf) dX6_restore_60
      · replace hf := oi_f hf c3
        exact b_X6_restore_34 F  _ _ _ _ w  (lv_sub hl [] rfl) hf
def f_X6_restore_0 (S : ST) (i1 : Nat) : Option (ST) := (if (fi S 36) = 0 then f_X6_restore_17 S i1 3 else f_X6_restore_17 S i1 ((fi S 36) - (1 : Int32)))
set_option maxHeartbeats 4000000 in
set_option maxRecDepth 100000 in
theorem b_X6_restore_0 {p : Program} {l : Launch} {e : Env} {s : State} {m : MethodId} {args : Array Value} {below : List Frame} {meth : Method} {c : Code} {x : CX} {res : ST} (F : MF p m meth c cX6_restore 3 s args RX6 none) : ∀ (H : Heap) (locs : List Loc) (ls : Array Slot) (S : ST), WD x s S H locs → ∀ (i1 : Nat), i1 < 5 → lv_has ls 3 [(0, .ref (x.2.2 (73))), (1, .ref (x.2.2 (63 + 2 * i1)))] → f_X6_restore_0 S i1 = some res → W p l e ({ frames := 3, cells := 0, slots := 0, locals := 107 } : Room) s m args below meth c H locs 0 0 (MQ below (QV x res s.heap.size) args s 0 0 (AA x s.heap.size)) (F0 m 0 ls []) := by
  intro H locs ls S w i1 h1 hl hf
  unfold f_X6_restore_0 at hf
  refine lv_aload_n F.1 F.2.1 dX6_restore_0 rfl (lv_at hl 0 rfl) ?_
  refine g_US_next F w q76 dX6_restore_1 ?_
  refine lv_if_ne (tgt := 11) F.1 F.2.1 dX6_restore_4 (by decide) (fun c1 => ?_) (fun c1 => ?_)
  · replace hf := oi_f hf c1
    refine lv_aload_n F.1 F.2.1 dX6_restore_11 rfl (lv_at hl 0 rfl) ?_
    refine g_US_next F w q76 dX6_restore_12 ?_
    refine lv_iconst (v := 1) F.1 F.2.1 dX6_restore_15 (by decide) ?_
    refine lv_isub F.1 F.2.1 dX6_restore_16 ?_
    exact b_X6_restore_17 F  _ _ _ _ w i1 ((fi S 36) - (1 : Int32)) h1 (lv_sub hl [0, 1] rfl) hf
  · replace hf := oi_t hf c1
    refine lv_iconst (v := 3) F.1 F.2.1 dX6_restore_7 (by decide) ?_
    refine lv_goto (tgt := 17) F.1 F.2.1 dX6_restore_8 (by decide) ?_
    exact b_X6_restore_17 F  _ _ _ _ w i1 3 h1 (lv_sub hl [0, 1] rfl) hf
def f_X6_restore (S : ST) (i1 : Nat) : Option (ST) := f_X6_restore_0 S i1
set_option maxHeartbeats 4000000 in
set_option maxRecDepth 100000 in
theorem k_X6_restore (l : Launch) (x : CX) (S : ST) (i1 : Nat) (h1 : i1 < 5) {res : ST} (hf : f_X6_restore S i1 = some res) (sz : Nat) : Met l yX6_restore (Cond.code yX6_restore cX6_restore 3 none :: GW) ({ frames := 3, cells := 0, slots := 0, locals := 107 } : Room) (PC x S sz [.ref (x.2.2 (73)), .ref (x.2.2 (63 + 2 * i1))]) (QV x res sz) 0 0 (AA x sz) := by
  refine Met.ofW (cc := cX6_restore) (maxL := 3) (ret := none) (by decide) rfl ?_
  intro p e s m args below meth c s₁ B hml hv
  obtain ⟨rfl, rfl, hPW⟩ := hv
  have F : MF p m meth c cX6_restore 3 s _ RX6 none := MF.of B hml
  have w := WD.of hPW
  have hl := lv_entry ([.ref (x.2.2 (73)), .ref (x.2.2 (63 + 2 * i1))]) (n := 3) (Nat.le_of_ble_eq_true rfl)
  rw [lg_entry_eq]
  generalize (lg_sl ([.ref (x.2.2 (73)), .ref (x.2.2 (63 + 2 * i1))]) ++ List.replicate (3 - (lg_sl ([.ref (x.2.2 (73)), .ref (x.2.2 (63 + 2 * i1))])).length) Slot.unset).toArray = ls at hl ⊢
  have hl : lv_has ls 3 [(0, .ref (x.2.2 (73))), (1, .ref (x.2.2 (63 + 2 * i1)))] := hl
  unfold f_X6_restore at hf
  exact b_X6_restore_0 F  _ _ _ _ w i1 h1 (lv_sub hl [0, 1] rfl) hf
