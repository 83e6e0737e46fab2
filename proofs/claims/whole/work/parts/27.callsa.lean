theorem cy_X8_needSet : CY yX8_needSet RX8 cX8_needSet 1 none 1 := ⟨q1, q344, rfl, by decide, by decide, by decide +kernel⟩
def f_X8_needSet_9 (S : ST)  : Option (Nat × Unit × ST) := some (1, (), S)
set_option maxHeartbeats 4000000 in
set_option maxRecDepth 100000 in
theorem b_X8_needSet_9 {p : Program} {l : Launch} {e : Env} {s : State} {m : MethodId} {args : Array Value} {below : List Frame} {meth : Method} {c : Code} {x : CX} {res : Nat × Unit × ST} (F : MF p m meth c cX8_needSet 1 s args RX8 none) (ht : ∀ z ∈ c.exceptionTable.toList, False) (hls : l.stackTraces = false) : ∀ (H : Heap) (locs : List Loc) (ls : Array Slot) (S : ST), WD x s S H locs → lv_has ls 1 [] → f_X8_needSet_9 S = some res → W p l e ({ frames := 6, cells := 1, slots := 6, locals := 100 } : Room) s m args below meth c H locs 0 0 (vx_MQ below (QXV x res.2.2 res.1 s.heap.size) (XX x res.2.2 res.1 s.heap.size) args s 1 6 (AA x s.heap.size)) (F0 m 9 ls []) := by
  intro H locs ls S w hl hf
  unfold f_X8_needSet_9 at hf
  exact x_throwW (E := eIO) (text := "there is no such set") F ht hls w (oi_s hf) (by simp [XK]) xq_IO (by simp [XT]) hl.1 dX8_needSet_9 dX8_needSet_12 dX8_needSet_13 dX8_needSet_16 dX8_needSet_19 (Nat.le_of_ble_eq_true rfl) (Nat.le_of_ble_eq_true rfl) (Nat.le_of_ble_eq_true rfl) (Nat.le_of_ble_eq_true rfl) (Nat.le_of_ble_eq_true rfl) (Nat.le_of_ble_eq_true rfl)
def f_X8_needSet_0 (S : ST) (a0 : Int32) : Option (Nat × Unit × ST) := (if a0 < 0 then f_X8_needSet_9 S else (if a0 < 4 then some (0, (), S) else f_X8_needSet_9 S))
set_option maxHeartbeats 4000000 in
set_option maxRecDepth 100000 in
theorem b_X8_needSet_0 {p : Program} {l : Launch} {e : Env} {s : State} {m : MethodId} {args : Array Value} {below : List Frame} {meth : Method} {c : Code} {x : CX} {res : Nat × Unit × ST} (F : MF p m meth c cX8_needSet 1 s args RX8 none) (ht : ∀ z ∈ c.exceptionTable.toList, False) (hls : l.stackTraces = false) : ∀ (H : Heap) (locs : List Loc) (ls : Array Slot) (S : ST), WD x s S H locs → ∀ (a0 : Int32), lv_has ls 1 [(0, .int a0)] → f_X8_needSet_0 S a0 = some res → W p l e ({ frames := 6, cells := 1, slots := 6, locals := 100 } : Room) s m args below meth c H locs 0 0 (vx_MQ below (QXV x res.2.2 res.1 s.heap.size) (XX x res.2.2 res.1 s.heap.size) args s 1 6 (AA x s.heap.size)) (F0 m 0 ls []) := by
  intro H locs ls S w a0 hl hf
  unfold f_X8_needSet_0 at hf
  refine lv_iload_n F.1 F.2.1 dX8_needSet_0 rfl (lv_at hl 0 rfl) ?_
  refine lv_if_lt (tgt := 9) F.1 F.2.1 dX8_needSet_1 (by decide) (fun c1 => ?_) (fun c1 => ?_)
  · replace hf := oi_t hf c1
    exact b_X8_needSet_9 F ht hls  _ _ _ _ w  (lv_sub hl [] rfl) hf
  · replace hf := oi_f hf c1
    refine lv_iload_n F.1 F.2.1 dX8_needSet_4 rfl (lv_at hl 0 rfl) ?_
    refine lv_iconst (v := 4) F.1 F.2.1 dX8_needSet_5 (by decide) ?_
    refine lv_icmp_lt (tgt := 20) F.1 F.2.1 dX8_needSet_6 (by decide) (fun c2 => ?_) (fun c2 => ?_)
    · replace hf := oi_t hf c2
      refine W.widen (k := 1) (n := 6) (by decide) (by decide) ?_
      exact x_vret F w (oi_s hf) dX8_needSet_20
    · replace hf := oi_f hf c2
      exact b_X8_needSet_9 F ht hls  _ _ _ _ w  (lv_sub hl [] rfl) hf
def f_X8_needSet (S : ST) (a0 : Int32) : Option (Nat × Unit × ST) := f_X8_needSet_0 S a0
set_option maxHeartbeats 4000000 in
set_option maxRecDepth 100000 in
theorem k_X8_needSet (l : Launch) (x : CX) (S : ST) (a0 : Int32) {res : Nat × Unit × ST} (hf : f_X8_needSet S a0 = some res) (hls : l.stackTraces = false) (sz : Nat) : vx_Met l yX8_needSet (Cond.code yX8_needSet cX8_needSet 1 none :: GW) ({ frames := 6, cells := 1, slots := 6, locals := 100 } : Room) (PC x S sz [.int a0]) (QXV x res.2.2 res.1 sz) (XX x res.2.2 res.1 sz) 1 6 (AA x sz) := by
  refine vx_ofW (cc := cX8_needSet) (maxL := 1) (ret := none) (by decide) rfl ?_
  intro p e s m args below meth c s₁ B hml ht hv
  obtain ⟨rfl, rfl, hPW⟩ := hv
  have F : MF p m meth c cX8_needSet 1 s _ RX8 none := MF.of B hml
  have w := WD.of hPW
  have hl := lv_entry ([.int a0]) (n := 1) (Nat.le_of_ble_eq_true rfl)
  rw [lg_entry_eq]
  generalize (lg_sl ([.int a0]) ++ List.replicate (1 - (lg_sl ([.int a0])).length) Slot.unset).toArray = ls at hl ⊢
  have hl : lv_has ls 1 [(0, .int a0)] := hl
  unfold f_X8_needSet at hf
  exact b_X8_needSet_0 F ht hls  _ _ _ _ w a0 (lv_sub hl [0] rfl) hf
theorem cy_X8_add : CY yX8_add RX8 cX8_add 5 (some .int) 2 := ⟨q1, q341, rfl, by decide, by decide, by decide +kernel⟩
def f_X8_add_15 (S : ST)  : Option (Nat × Int32 × ST) := some (2, 0, S)
set_option maxHeartbeats 4000000 in
set_option maxRecDepth 100000 in
theorem b_X8_add_15 {p : Program} {l : Launch} {e : Env} {s : State} {m : MethodId} {args : Array Value} {below : List Frame} {meth : Method} {c : Code} {x : CX} {res : Nat × Int32 × ST} (F : MF p m meth c cX8_add 5 s args RX8 (some .int)) (ht : ∀ z ∈ c.exceptionTable.toList, False) (hls : l.stackTraces = false) : ∀ (H : Heap) (locs : List Loc) (ls : Array Slot) (S : ST), WD x s S H locs → lv_has ls 5 [] → f_X8_add_15 S = some res → W p l e ({ frames := 7, cells := 4, slots := 24, locals := 150 } : Room) s m args below meth c H locs 1 6 (vx_MQ below (QXI x res.2.2 res.1 res.2.1 s.heap.size) (XX x res.2.2 res.1 s.heap.size) args s 4 24 (AA x s.heap.size)) (F0 m 15 ls []) := by
  intro H locs ls S w hl hf
  unfold f_X8_add_15 at hf
  exact x_throw (E := eIA) (text := "mark is out of range") F ht hls w (oi_s hf) (by simp [XK]) xq_IA (by simp [XT]) hl.1 dX8_add_15 dX8_add_18 dX8_add_19 dX8_add_21 dX8_add_24 (Nat.le_of_ble_eq_true rfl) (Nat.le_of_ble_eq_true rfl) (Nat.le_of_ble_eq_true rfl) (Nat.le_of_ble_eq_true rfl) (Nat.le_of_ble_eq_true rfl) (Nat.le_of_ble_eq_true rfl)
def f_X8_add_0 (S : ST) (a1 : Int32) (a2 : Int32) : Option (Nat × Int32 × ST) := oX (f_X8_needSet S a1) (0 : Int32) (fun (S1 : ST) => (if a2 < 0 then f_X8_add_15 S1 else (if a2 ≤ 2000 then oG (inB a1 4) (oB (f_X2_countBelow S1 ((Int32.toNatClampNeg a1)) a2) (fun (r7 : Int32) (S6 : ST) => oB (f_X2_at S6 ((Int32.toNatClampNeg a1)) r7) (fun (r9 : Int32) (S8 : ST) => (if r9 = a2 then some (3, 0, S8) else (if (fi S8 ((Int32.toNatClampNeg a1))) < 24 then oV (f_X2_takeWith S8 20 ((Int32.toNatClampNeg a1)) r7 a2) (fun (S12 : ST) => oV (f_X8_replace S12 a1 (fi S12 (30 + 0))) (fun (S13 : ST) => some (0, r7, S13))) else some (3, 0, S8)))))) else f_X8_add_15 S1)))
set_option maxHeartbeats 4000000 in
set_option maxRecDepth 100000 in
theorem b_X8_add_0 {p : Program} {l : Launch} {e : Env} {s : State} {m : MethodId} {args : Array Value} {below : List Frame} {meth : Method} {c : Code} {x : CX} {res : Nat × Int32 × ST} (F : MF p m meth c cX8_add 5 s args RX8 (some .int)) (ht : ∀ z ∈ c.exceptionTable.toList, False) (hls : l.stackTraces = false) : ∀ (H : Heap) (locs : List Loc) (ls : Array Slot) (S : ST), WD x s S H locs → ∀ (a1 : Int32) (a2 : Int32), lv_has ls 5 [(0, .ref (x.2.2 (79))), (1, .int a1), (2, .int a2)] → f_X8_add_0 S a1 a2 = some res → W p l e ({ frames := 7, cells := 4, slots := 24, locals := 150 } : Room) s m args below meth c H locs 0 0 (vx_MQ below (QXI x res.2.2 res.1 res.2.1 s.heap.size) (XX x res.2.2 res.1 s.heap.size) args s 4 24 (AA x s.heap.size)) (F0 m 0 ls []) := by
  intro H locs ls S w a1 a2 hl hf
  unfold f_X8_add_0 at hf
  refine lv_iload_n F.1 F.2.1 dX8_add_0 rfl (lv_at hl 1 rfl) ?_
  obtain ⟨n2, S1, hc, hf, hx⟩ := oi_x hf
  refine kx_v (S1 := S1) (n1 := n2) F ht w (xrunS (As := [.int a1]) (rest := []) F w (k_X8_needSet l x S a1 hc hls H.size) cy_X8_needSet q342 q343 ⟨rfl, rfl⟩ ⟨Nat.le_of_ble_eq_true rfl, Nat.le_of_ble_eq_true rfl⟩ rfl rfl hl.1 (Nat.le_of_ble_eq_true rfl) ⟨Nat.le_of_ble_eq_true rfl, Nat.le_of_ble_eq_true rfl⟩ dX8_add_1) hx (Nat.le_of_ble_eq_true rfl) (Nat.le_of_ble_eq_true rfl) (fun hn H locs w => ?_)
  replace hf := hf hn
  refine lv_iload_n F.1 F.2.1 dX8_add_4 rfl (lv_at hl 2 rfl) ?_
  refine lv_if_lt (tgt := 15) F.1 F.2.1 dX8_add_5 (by decide) (fun c3 => ?_) (fun c3 => ?_)
  · replace hf := oi_t hf c3
    exact b_X8_add_15 F ht hls  _ _ _ _ w  (lv_sub hl [] rfl) hf
  · replace hf := oi_f hf c3
    refine lv_iload_n F.1 F.2.1 dX8_add_8 rfl (lv_at hl 2 rfl) ?_
    refine lv_sipush (v := 2000) F.1 F.2.1 dX8_add_9 (by decide) ?_
    refine lv_icmp_le (tgt := 25) F.1 F.2.1 dX8_add_12 (by decide) (fun c4 => ?_) (fun c4 => ?_)
    · replace hf := oi_t hf c4
      refine lv_aload_n F.1 F.2.1 dX8_add_25 rfl (lv_at hl 0 rfl) ?_
      refine g_RW_now F w q162 dX8_add_26 ?_
      refine gN_ST_sets (i := 0) F w (by decide) (by simp [NF]) dX8_add_29 ?_
      refine lv_iload_n F.1 F.2.1 dX8_add_32 rfl (lv_at hl 1 rfl) ?_
      obtain ⟨hb5, hf⟩ := oi_g hf
      refine r_now F w hb5 dX8_add_33 ?_
      refine lv_astore_n (lv' := [(3, .ref (x.2.2 (2 * ((Int32.toNatClampNeg a1))))), (0, .ref (x.2.2 (79))), (1, .int a1), (2, .int a2)]) F.1 F.2.1 dX8_add_34 rfl hl (by decide) rfl (fun ls hl => ?_)
      refine lv_aload_n F.1 F.2.1 dX8_add_35 rfl (lv_at hl 0 rfl) ?_
      refine lv_iload_n F.1 F.2.1 dX8_add_36 rfl (lv_at hl 3 rfl) ?_
      obtain ⟨r7, S6, hc, hf⟩ := oi_b hf
      refine k_i0 (S' := S6) (r := r7) w (runV (As := [.int a2]) (rest := []) (kb := 2 * ((Int32.toNatClampNeg a1))) F w (k_X2_countBelow l x S1 ((Int32.toNatClampNeg a1)) a2 (Nat.lt_of_lt_of_le (inB_lt hb5) (by decide)) hc H.size) cy_X2_countBelow q429 q430 q431 ⟨rfl, rfl⟩ ⟨Nat.le_of_ble_eq_true rfl, Nat.le_of_ble_eq_true rfl⟩ (k_ms (Nat.lt_of_lt_of_le (inB_lt hb5) (by decide))) (enc_ms x S1 (Nat.lt_of_lt_of_le (inB_lt hb5) (by decide))) rfl rfl rfl hl.1 (Nat.le_of_ble_eq_true rfl) ⟨Nat.le_of_ble_eq_true rfl, Nat.le_of_ble_eq_true rfl⟩ dX8_add_37) (fun H locs w => ?_)
      refine lv_istore (lv' := [(4, .int r7), (3, .ref (x.2.2 (2 * ((Int32.toNatClampNeg a1))))), (0, .ref (x.2.2 (79))), (1, .int a1), (2, .int a2)]) F.1 F.2.1 dX8_add_40 hl (by decide) rfl (fun ls hl => ?_)
      refine lv_aload_n F.1 F.2.1 dX8_add_42 rfl (lv_at hl 1 rfl) ?_
      refine lv_iload F.1 F.2.1 dX8_add_43 (lv_at hl 0 rfl) ?_
      obtain ⟨r9, S8, hc, hf⟩ := oi_b hf
      refine k_i0 (S' := S8) (r := r9) w (runV (As := [.int r7]) (rest := []) (kb := 2 * ((Int32.toNatClampNeg a1))) F w (k_X2_at l x S6 ((Int32.toNatClampNeg a1)) r7 (Nat.lt_of_lt_of_le (inB_lt hb5) (by decide)) hc H.size) cy_X2_at q241 q217 q218 ⟨rfl, rfl⟩ ⟨Nat.le_of_ble_eq_true rfl, Nat.le_of_ble_eq_true rfl⟩ (k_ms (Nat.lt_of_lt_of_le (inB_lt hb5) (by decide))) (enc_ms x S6 (Nat.lt_of_lt_of_le (inB_lt hb5) (by decide))) rfl rfl rfl hl.1 (Nat.le_of_ble_eq_true rfl) ⟨Nat.le_of_ble_eq_true rfl, Nat.le_of_ble_eq_true rfl⟩ dX8_add_45) (fun H locs w => ?_)
      refine lv_iload_n F.1 F.2.1 dX8_add_48 rfl (lv_at hl 4 rfl) ?_
      refine lv_icmp_ne (tgt := 62) F.1 F.2.1 dX8_add_49 (by decide) (fun c10 => ?_) (fun c10 => ?_)
      · replace hf := oi_f hf c10
        refine lv_aload_n F.1 F.2.1 dX8_add_62 rfl (lv_at hl 1 rfl) ?_
        refine gN_MS_count (i := ((Int32.toNatClampNeg a1))) F w (Nat.lt_of_lt_of_le (inB_lt hb5) (by decide)) (by simp [NF]) dX8_add_63 ?_
        refine lv_bipush (v := 24) F.1 F.2.1 dX8_add_66 (by decide) ?_
        refine lv_icmp_lt (tgt := 81) F.1 F.2.1 dX8_add_68 (by decide) (fun c11 => ?_) (fun c11 => ?_)
        · replace hf := oi_t hf c11
          refine lv_aload_n F.1 F.2.1 dX8_add_81 rfl (lv_at hl 2 rfl) ?_
          refine g_RW_made F w q164 dX8_add_82 ?_
          refine lv_aload_n F.1 F.2.1 dX8_add_85 rfl (lv_at hl 1 rfl) ?_
          refine lv_iload F.1 F.2.1 dX8_add_86 (lv_at hl 0 rfl) ?_
          refine lv_iload_n F.1 F.2.1 dX8_add_88 rfl (lv_at hl 4 rfl) ?_
          obtain ⟨S12, hc, hf⟩ := oi_v hf
          refine k_v0 (S' := S12) w (runV (As := [.ref (x.2.2 (2 * ((Int32.toNatClampNeg a1)))), .int r7, .int a2]) (rest := []) (kb := 2 * 20) F w (k_X2_takeWith l x S8 20 ((Int32.toNatClampNeg a1)) r7 a2 (by decide) (Nat.lt_of_lt_of_le (inB_lt hb5) (by decide)) hc H.size) cy_X2_takeWith q450 q451 q452 ⟨rfl, rfl⟩ ⟨Nat.le_of_ble_eq_true rfl, Nat.le_of_ble_eq_true rfl⟩ (k_ms (by decide)) (enc_ms x S8 (by decide)) rfl rfl rfl hl.1 (Nat.le_of_ble_eq_true rfl) ⟨Nat.le_of_ble_eq_true rfl, Nat.le_of_ble_eq_true rfl⟩ dX8_add_89) (fun H locs w => ?_)
          refine lv_aload_n F.1 F.2.1 dX8_add_92 rfl (lv_at hl 2 rfl) ?_
          refine lv_iload_n F.1 F.2.1 dX8_add_93 rfl (lv_at hl 3 rfl) ?_
          refine lv_aload_n F.1 F.2.1 dX8_add_94 rfl (lv_at hl 2 rfl) ?_
          refine g_RW_now F w q162 dX8_add_95 ?_
          refine gN_ST_modulus (i := 0) F w (by decide) (by simp [NF]) dX8_add_98 ?_
          obtain ⟨S13, hc, hf⟩ := oi_v hf
          refine k_v0 (S' := S13) w (runV (As := [.int a1, .int (fi S12 (30 + 0))]) (rest := []) (kb := 79) F w (k_X8_replace l x S12 a1 (fi S12 (30 + 0)) hc H.size) cy_X8_replace q462 q464 qp10 ⟨rfl, rfl⟩ ⟨Nat.le_of_ble_eq_true rfl, Nat.le_of_ble_eq_true rfl⟩ (by decide) rfl rfl rfl rfl hl.1 (Nat.le_of_ble_eq_true rfl) ⟨Nat.le_of_ble_eq_true rfl, Nat.le_of_ble_eq_true rfl⟩ dX8_add_101) (fun H locs w => ?_)
          refine lv_iload F.1 F.2.1 dX8_add_104 (lv_at hl 0 rfl) ?_
          refine W.widen (k := 4) (n := 24) (by decide) (by decide) ?_
          exact x_iret F w (oi_s hf) dX8_add_106
        · replace hf := oi_f hf c11
          exact x_throw (E := eIS) (text := "the set is full") F ht hls w (oi_s hf) (by simp [XK]) xq_IS (by simp [XT]) hl.1 dX8_add_71 dX8_add_74 dX8_add_75 dX8_add_77 dX8_add_80 (Nat.le_of_ble_eq_true rfl) (Nat.le_of_ble_eq_true rfl) (Nat.le_of_ble_eq_true rfl) (Nat.le_of_ble_eq_true rfl) (Nat.le_of_ble_eq_true rfl) (Nat.le_of_ble_eq_true rfl)
      · replace hf := oi_t hf c10
        exact x_throw (E := eIS) (text := "the set has this mark already") F ht hls w (oi_s hf) (by simp [XK]) xq_IS (by simp [XT]) hl.1 dX8_add_52 dX8_add_55 dX8_add_56 dX8_add_58 dX8_add_61 (Nat.le_of_ble_eq_true rfl) (Nat.le_of_ble_eq_true rfl) (Nat.le_of_ble_eq_true rfl) (Nat.le_of_ble_eq_true rfl) (Nat.le_of_ble_eq_true rfl) (Nat.le_of_ble_eq_true rfl)
    · replace hf := oi_f hf c4
      exact b_X8_add_15 F ht hls  _ _ _ _ w  (lv_sub hl [] rfl) hf
def f_X8_add (S : ST) (a1 : Int32) (a2 : Int32) : Option (Nat × Int32 × ST) := f_X8_add_0 S a1 a2
set_option maxHeartbeats 4000000 in
set_option maxRecDepth 100000 in
theorem k_X8_add (l : Launch) (x : CX) (S : ST) (a1 : Int32) (a2 : Int32) {res : Nat × Int32 × ST} (hf : f_X8_add S a1 a2 = some res) (hls : l.stackTraces = false) (sz : Nat) : vx_Met l yX8_add (Cond.code yX8_add cX8_add 5 (some .int) :: GW) ({ frames := 7, cells := 4, slots := 24, locals := 150 } : Room) (PC x S sz [.ref (x.2.2 (79)), .int a1, .int a2]) (QXI x res.2.2 res.1 res.2.1 sz) (XX x res.2.2 res.1 sz) 4 24 (AA x sz) := by
  refine vx_ofW (cc := cX8_add) (maxL := 5) (ret := (some .int)) (by decide) rfl ?_
  intro p e s m args below meth c s₁ B hml ht hv
  obtain ⟨rfl, rfl, hPW⟩ := hv
  have F : MF p m meth c cX8_add 5 s _ RX8 (some .int) := MF.of B hml
  have w := WD.of hPW
  have hl := lv_entry ([.ref (x.2.2 (79)), .int a1, .int a2]) (n := 5) (Nat.le_of_ble_eq_true rfl)
  rw [lg_entry_eq]
  generalize (lg_sl ([.ref (x.2.2 (79)), .int a1, .int a2]) ++ List.replicate (5 - (lg_sl ([.ref (x.2.2 (79)), .int a1, .int a2])).length) Slot.unset).toArray = ls at hl ⊢
  have hl : lv_has ls 5 [(0, .ref (x.2.2 (79))), (1, .int a1), (2, .int a2)] := hl
  unfold f_X8_add at hf
  exact b_X8_add_0 F ht hls  _ _ _ _ w a1 a2 (lv_sub hl [0, 1, 2] rfl) hf
theorem cy_X8_remove : CY yX8_remove RX8 cX8_remove 4 (some .int) 2 := ⟨q1, q491, rfl, by decide, by decide, by decide +kernel⟩
def f_X8_remove_31 (S : ST)  : Option (Nat × Int32 × ST) := some (3, 0, S)
set_option maxHeartbeats 4000000 in
set_option maxRecDepth 100000 in
theorem b_X8_remove_31 {p : Program} {l : Launch} {e : Env} {s : State} {m : MethodId} {args : Array Value} {below : List Frame} {meth : Method} {c : Code} {x : CX} {res : Nat × Int32 × ST} (F : MF p m meth c cX8_remove 4 s args RX8 (some .int)) (ht : ∀ z ∈ c.exceptionTable.toList, False) (hls : l.stackTraces = false) : ∀ (H : Heap) (locs : List Loc) (ls : Array Slot) (S : ST), WD x s S H locs → lv_has ls 4 [] → f_X8_remove_31 S = some res → W p l e ({ frames := 7, cells := 2, slots := 12, locals := 150 } : Room) s m args below meth c H locs 1 6 (vx_MQ below (QXI x res.2.2 res.1 res.2.1 s.heap.size) (XX x res.2.2 res.1 s.heap.size) args s 2 12 (AA x s.heap.size)) (F0 m 31 ls []) := by
  intro H locs ls S w hl hf
  unfold f_X8_remove_31 at hf
  exact x_throw (E := eIS) (text := "the set does not have this mark") F ht hls w (oi_s hf) (by simp [XK]) xq_IS (by simp [XT]) hl.1 dX8_remove_31 dX8_remove_34 dX8_remove_35 dX8_remove_37 dX8_remove_40 (Nat.le_of_ble_eq_true rfl) (Nat.le_of_ble_eq_true rfl) (Nat.le_of_ble_eq_true rfl) (Nat.le_of_ble_eq_true rfl) (Nat.le_of_ble_eq_true rfl) (Nat.le_of_ble_eq_true rfl)
def f_X8_remove_0 (S : ST) (a1 : Int32) (a2 : Int32) : Option (Nat × Int32 × ST) := oX (f_X8_needSet S a1) (0 : Int32) (fun (S1 : ST) => oG (inB a1 4) ((if a2 < 0 then f_X8_remove_31 S1 else oB (f_X2_countBelow S1 ((Int32.toNatClampNeg a1)) a2) (fun (r6 : Int32) (S5 : ST) => oB (f_X2_at S5 ((Int32.toNatClampNeg a1)) r6) (fun (r8 : Int32) (S7 : ST) => (if r8 = a2 then oV (f_X2_takeWithout S7 20 ((Int32.toNatClampNeg a1)) a2) (fun (S10 : ST) => oV (f_X8_replace S10 a1 (fi S10 (30 + 0))) (fun (S11 : ST) => some (0, (fi S11 20), S11))) else f_X8_remove_31 S7))))))
set_option maxHeartbeats 4000000 in
set_option maxRecDepth 100000 in
theorem b_X8_remove_0 {p : Program} {l : Launch} {e : Env} {s : State} {m : MethodId} {args : Array Value} {below : List Frame} {meth : Method} {c : Code} {x : CX} {res : Nat × Int32 × ST} (F : MF p m meth c cX8_remove 4 s args RX8 (some .int)) (ht : ∀ z ∈ c.exceptionTable.toList, False) (hls : l.stackTraces = false) : ∀ (H : Heap) (locs : List Loc) (ls : Array Slot) (S : ST), WD x s S H locs → ∀ (a1 : Int32) (a2 : Int32), lv_has ls 4 [(0, .ref (x.2.2 (79))), (1, .int a1), (2, .int a2)] → f_X8_remove_0 S a1 a2 = some res → W p l e ({ frames := 7, cells := 2, slots := 12, locals := 150 } : Room) s m args below meth c H locs 0 0 (vx_MQ below (QXI x res.2.2 res.1 res.2.1 s.heap.size) (XX x res.2.2 res.1 s.heap.size) args s 2 12 (AA x s.heap.size)) (F0 m 0 ls []) := by
  intro H locs ls S w a1 a2 hl hf
  unfold f_X8_remove_0 at hf
  refine lv_iload_n F.1 F.2.1 dX8_remove_0 rfl (lv_at hl 1 rfl) ?_
  obtain ⟨n2, S1, hc, hf, hx⟩ := oi_x hf
  refine kx_v (S1 := S1) (n1 := n2) F ht w (xrunS (As := [.int a1]) (rest := []) F w (k_X8_needSet l x S a1 hc hls H.size) cy_X8_needSet q342 q343 ⟨rfl, rfl⟩ ⟨Nat.le_of_ble_eq_true rfl, Nat.le_of_ble_eq_true rfl⟩ rfl rfl hl.1 (Nat.le_of_ble_eq_true rfl) ⟨Nat.le_of_ble_eq_true rfl, Nat.le_of_ble_eq_true rfl⟩ dX8_remove_1) hx (Nat.le_of_ble_eq_true rfl) (Nat.le_of_ble_eq_true rfl) (fun hn H locs w => ?_)
  replace hf := hf hn
  refine lv_aload_n F.1 F.2.1 dX8_remove_4 rfl (lv_at hl 0 rfl) ?_
  refine g_RW_now F w q162 dX8_remove_5 ?_
  refine gN_ST_sets (i := 0) F w (by decide) (by simp [NF]) dX8_remove_8 ?_
  refine lv_iload_n F.1 F.2.1 dX8_remove_11 rfl (lv_at hl 1 rfl) ?_
  obtain ⟨hb3, hf⟩ := oi_g hf
  refine r_now F w hb3 dX8_remove_12 ?_
  refine lv_astore_n (lv' := [(3, .ref (x.2.2 (2 * ((Int32.toNatClampNeg a1))))), (0, .ref (x.2.2 (79))), (1, .int a1), (2, .int a2)]) F.1 F.2.1 dX8_remove_13 rfl hl (by decide) rfl (fun ls hl => ?_)
  refine lv_iload_n F.1 F.2.1 dX8_remove_14 rfl (lv_at hl 3 rfl) ?_
  refine lv_if_lt (tgt := 31) F.1 F.2.1 dX8_remove_15 (by decide) (fun c4 => ?_) (fun c4 => ?_)
  · replace hf := oi_t hf c4
    exact b_X8_remove_31 F ht hls  _ _ _ _ w  (lv_sub hl [] rfl) hf
  · replace hf := oi_f hf c4
    refine lv_aload_n F.1 F.2.1 dX8_remove_18 rfl (lv_at hl 0 rfl) ?_
    refine lv_aload_n F.1 F.2.1 dX8_remove_19 rfl (lv_at hl 0 rfl) ?_
    refine lv_iload_n F.1 F.2.1 dX8_remove_20 rfl (lv_at hl 3 rfl) ?_
    obtain ⟨r6, S5, hc, hf⟩ := oi_b hf
    refine k_i0 (S' := S5) (r := r6) w (runV (As := [.int a2]) (rest := [.ref (x.2.2 (2 * ((Int32.toNatClampNeg a1))))]) (kb := 2 * ((Int32.toNatClampNeg a1))) F w (k_X2_countBelow l x S1 ((Int32.toNatClampNeg a1)) a2 (Nat.lt_of_lt_of_le (inB_lt hb3) (by decide)) hc H.size) cy_X2_countBelow q429 q430 q431 ⟨rfl, rfl⟩ ⟨Nat.le_of_ble_eq_true rfl, Nat.le_of_ble_eq_true rfl⟩ (k_ms (Nat.lt_of_lt_of_le (inB_lt hb3) (by decide))) (enc_ms x S1 (Nat.lt_of_lt_of_le (inB_lt hb3) (by decide))) rfl rfl rfl hl.1 (Nat.le_of_ble_eq_true rfl) ⟨Nat.le_of_ble_eq_true rfl, Nat.le_of_ble_eq_true rfl⟩ dX8_remove_21) (fun H locs w => ?_)
    obtain ⟨r8, S7, hc, hf⟩ := oi_b hf
    refine k_i0 (S' := S7) (r := r8) w (runV (As := [.int r6]) (rest := []) (kb := 2 * ((Int32.toNatClampNeg a1))) F w (k_X2_at l x S5 ((Int32.toNatClampNeg a1)) r6 (Nat.lt_of_lt_of_le (inB_lt hb3) (by decide)) hc H.size) cy_X2_at q241 q217 q218 ⟨rfl, rfl⟩ ⟨Nat.le_of_ble_eq_true rfl, Nat.le_of_ble_eq_true rfl⟩ (k_ms (Nat.lt_of_lt_of_le (inB_lt hb3) (by decide))) (enc_ms x S5 (Nat.lt_of_lt_of_le (inB_lt hb3) (by decide))) rfl rfl rfl hl.1 (Nat.le_of_ble_eq_true rfl) ⟨Nat.le_of_ble_eq_true rfl, Nat.le_of_ble_eq_true rfl⟩ dX8_remove_24) (fun H locs w => ?_)
    refine lv_iload_n F.1 F.2.1 dX8_remove_27 rfl (lv_at hl 3 rfl) ?_
    refine lv_icmp_eq (tgt := 41) F.1 F.2.1 dX8_remove_28 (by decide) (fun c9 => ?_) (fun c9 => ?_)
    · replace hf := oi_t hf c9
      refine lv_aload_n F.1 F.2.1 dX8_remove_41 rfl (lv_at hl 1 rfl) ?_
      refine g_RW_made F w q164 dX8_remove_42 ?_
      refine lv_aload_n F.1 F.2.1 dX8_remove_45 rfl (lv_at hl 0 rfl) ?_
      refine lv_iload_n F.1 F.2.1 dX8_remove_46 rfl (lv_at hl 3 rfl) ?_
      obtain ⟨S10, hc, hf⟩ := oi_v hf
      refine k_v0 (S' := S10) w (runV (As := [.ref (x.2.2 (2 * ((Int32.toNatClampNeg a1)))), .int a2]) (rest := []) (kb := 2 * 20) F w (k_X2_takeWithout l x S7 20 ((Int32.toNatClampNeg a1)) a2 (by decide) (Nat.lt_of_lt_of_le (inB_lt hb3) (by decide)) hc H.size) cy_X2_takeWithout q493 q494 q495 ⟨rfl, rfl⟩ ⟨Nat.le_of_ble_eq_true rfl, Nat.le_of_ble_eq_true rfl⟩ (k_ms (by decide)) (enc_ms x S7 (by decide)) rfl rfl rfl hl.1 (Nat.le_of_ble_eq_true rfl) ⟨Nat.le_of_ble_eq_true rfl, Nat.le_of_ble_eq_true rfl⟩ dX8_remove_47) (fun H locs w => ?_)
      refine lv_aload_n F.1 F.2.1 dX8_remove_50 rfl (lv_at hl 1 rfl) ?_
      refine lv_iload_n F.1 F.2.1 dX8_remove_51 rfl (lv_at hl 2 rfl) ?_
      refine lv_aload_n F.1 F.2.1 dX8_remove_52 rfl (lv_at hl 1 rfl) ?_
      refine g_RW_now F w q162 dX8_remove_53 ?_
      refine gN_ST_modulus (i := 0) F w (by decide) (by simp [NF]) dX8_remove_56 ?_
      obtain ⟨S11, hc, hf⟩ := oi_v hf
      refine k_v0 (S' := S11) w (runV (As := [.int a1, .int (fi S10 (30 + 0))]) (rest := []) (kb := 79) F w (k_X8_replace l x S10 a1 (fi S10 (30 + 0)) hc H.size) cy_X8_replace q462 q464 qp10 ⟨rfl, rfl⟩ ⟨Nat.le_of_ble_eq_true rfl, Nat.le_of_ble_eq_true rfl⟩ (by decide) rfl rfl rfl rfl hl.1 (Nat.le_of_ble_eq_true rfl) ⟨Nat.le_of_ble_eq_true rfl, Nat.le_of_ble_eq_true rfl⟩ dX8_remove_59) (fun H locs w => ?_)
      refine lv_aload_n F.1 F.2.1 dX8_remove_62 rfl (lv_at hl 1 rfl) ?_
      refine g_RW_made F w q164 dX8_remove_63 ?_
      refine gN_MS_count (i := 20) F w (by decide) (by simp [NF]) dX8_remove_66 ?_
      refine W.widen (k := 2) (n := 12) (by decide) (by decide) ?_
      exact x_iret F w (oi_s hf) dX8_remove_69
    · replace hf := oi_f hf c9
      exact b_X8_remove_31 F ht hls  _ _ _ _ w  (lv_sub hl [] rfl) hf
def f_X8_remove (S : ST) (a1 : Int32) (a2 : Int32) : Option (Nat × Int32 × ST) := f_X8_remove_0 S a1 a2
set_option maxHeartbeats 4000000 in
set_option maxRecDepth 100000 in
theorem k_X8_remove (l : Launch) (x : CX) (S : ST) (a1 : Int32) (a2 : Int32) {res : Nat × Int32 × ST} (hf : f_X8_remove S a1 a2 = some res) (hls : l.stackTraces = false) (sz : Nat) : vx_Met l yX8_remove (Cond.code yX8_remove cX8_remove 4 (some .int) :: GW) ({ frames := 7, cells := 2, slots := 12, locals := 150 } : Room) (PC x S sz [.ref (x.2.2 (79)), .int a1, .int a2]) (QXI x res.2.2 res.1 res.2.1 sz) (XX x res.2.2 res.1 sz) 2 12 (AA x sz) := by
  refine vx_ofW (cc := cX8_remove) (maxL := 4) (ret := (some .int)) (by decide) rfl ?_
  intro p e s m args below meth c s₁ B hml ht hv
  obtain ⟨rfl, rfl, hPW⟩ := hv
  have F : MF p m meth c cX8_remove 4 s _ RX8 (some .int) := MF.of B hml
  have w := WD.of hPW
  have hl := lv_entry ([.ref (x.2.2 (79)), .int a1, .int a2]) (n := 4) (Nat.le_of_ble_eq_true rfl)
  rw [lg_entry_eq]
  generalize (lg_sl ([.ref (x.2.2 (79)), .int a1, .int a2]) ++ List.replicate (4 - (lg_sl ([.ref (x.2.2 (79)), .int a1, .int a2])).length) Slot.unset).toArray = ls at hl ⊢
  have hl : lv_has ls 4 [(0, .ref (x.2.2 (79))), (1, .int a1), (2, .int a2)] := hl
  unfold f_X8_remove at hf
  exact b_X8_remove_0 F ht hls  _ _ _ _ w a1 a2 (lv_sub hl [0, 1, 2] rfl) hf
theorem cy_X8_clear : CY yX8_clear RX8 cX8_clear 3 (some .int) 1 := ⟨q1, q503, rfl, by decide, by decide, by decide +kernel⟩
def f_X8_clear_0 (S : ST) (a1 : Int32) : Option (Nat × Int32 × ST) := oX (f_X8_needSet S a1) (0 : Int32) (fun (S1 : ST) => oG (inB a1 4) (oL (fi S1 ((Int32.toNatClampNeg a1))) (fun (v4 : Int32) => oV (f_X2_empty S1 20) (fun (S5 : ST) => oV (f_X8_replace S5 a1 (fi S5 (30 + 0))) (fun (S6 : ST) => some (0, v4, S6))))))
set_option maxHeartbeats 4000000 in
set_option maxRecDepth 100000 in
theorem b_X8_clear_0 {p : Program} {l : Launch} {e : Env} {s : State} {m : MethodId} {args : Array Value} {below : List Frame} {meth : Method} {c : Code} {x : CX} {res : Nat × Int32 × ST} (F : MF p m meth c cX8_clear 3 s args RX8 (some .int)) (ht : ∀ z ∈ c.exceptionTable.toList, False) (hls : l.stackTraces = false) : ∀ (H : Heap) (locs : List Loc) (ls : Array Slot) (S : ST), WD x s S H locs → ∀ (a1 : Int32), lv_has ls 3 [(0, .ref (x.2.2 (79))), (1, .int a1)] → f_X8_clear_0 S a1 = some res → W p l e ({ frames := 7, cells := 1, slots := 6, locals := 150 } : Room) s m args below meth c H locs 0 0 (vx_MQ below (QXI x res.2.2 res.1 res.2.1 s.heap.size) (XX x res.2.2 res.1 s.heap.size) args s 1 6 (AA x s.heap.size)) (F0 m 0 ls []) := by
  intro H locs ls S w a1 hl hf
  unfold f_X8_clear_0 at hf
  refine lv_iload_n F.1 F.2.1 dX8_clear_0 rfl (lv_at hl 1 rfl) ?_
  obtain ⟨n2, S1, hc, hf, hx⟩ := oi_x hf
  refine kx_v (S1 := S1) (n1 := n2) F ht w (xrunS (As := [.int a1]) (rest := []) F w (k_X8_needSet l x S a1 hc hls H.size) cy_X8_needSet q342 q343 ⟨rfl, rfl⟩ ⟨Nat.le_of_ble_eq_true rfl, Nat.le_of_ble_eq_true rfl⟩ rfl rfl hl.1 (Nat.le_of_ble_eq_true rfl) ⟨Nat.le_of_ble_eq_true rfl, Nat.le_of_ble_eq_true rfl⟩ dX8_clear_1) hx (Nat.le_of_ble_eq_true rfl) (Nat.le_of_ble_eq_true rfl) (fun hn H locs w => ?_)
  replace hf := hf hn
  refine lv_aload_n F.1 F.2.1 dX8_clear_4 rfl (lv_at hl 0 rfl) ?_
  refine g_RW_now F w q162 dX8_clear_5 ?_
  refine gN_ST_sets (i := 0) F w (by decide) (by simp [NF]) dX8_clear_8 ?_
  refine lv_iload_n F.1 F.2.1 dX8_clear_11 rfl (lv_at hl 1 rfl) ?_
  obtain ⟨hb3, hf⟩ := oi_g hf
  refine r_now F w hb3 dX8_clear_12 ?_
  refine gN_MS_count (i := ((Int32.toNatClampNeg a1))) F w (Nat.lt_of_lt_of_le (inB_lt hb3) (by decide)) (by simp [NF]) dX8_clear_13 ?_
  refine lv_topi (fun v4 e_v4 => ?_)
  replace hf := oi_l hf e_v4
  refine lv_istore_n (lv' := [(2, .int v4), (0, .ref (x.2.2 (79))), (1, .int a1)]) F.1 F.2.1 dX8_clear_16 rfl hl (by decide) rfl (fun ls hl => ?_)
  refine lv_aload_n F.1 F.2.1 dX8_clear_17 rfl (lv_at hl 1 rfl) ?_
  refine g_RW_made F w q164 dX8_clear_18 ?_
  obtain ⟨S5, hc, hf⟩ := oi_v hf
  refine k_v0 (S' := S5) w (runV (As := []) (rest := []) (kb := 2 * 20) F w (k_X2_empty l x S1 20 (by decide) hc H.size) cy_X2_empty q504 q455 q456 ⟨rfl, rfl⟩ ⟨Nat.le_of_ble_eq_true rfl, Nat.le_of_ble_eq_true rfl⟩ (k_ms (by decide)) (enc_ms x S1 (by decide)) rfl rfl rfl hl.1 (Nat.le_of_ble_eq_true rfl) ⟨Nat.le_of_ble_eq_true rfl, Nat.le_of_ble_eq_true rfl⟩ dX8_clear_21) (fun H locs w => ?_)
  refine lv_aload_n F.1 F.2.1 dX8_clear_24 rfl (lv_at hl 1 rfl) ?_
  refine lv_iload_n F.1 F.2.1 dX8_clear_25 rfl (lv_at hl 2 rfl) ?_
  refine lv_aload_n F.1 F.2.1 dX8_clear_26 rfl (lv_at hl 1 rfl) ?_
  refine g_RW_now F w q162 dX8_clear_27 ?_
  refine gN_ST_modulus (i := 0) F w (by decide) (by simp [NF]) dX8_clear_30 ?_
  obtain ⟨S6, hc, hf⟩ := oi_v hf
  refine k_v0 (S' := S6) w (runV (As := [.int a1, .int (fi S5 (30 + 0))]) (rest := []) (kb := 79) F w (k_X8_replace l x S5 a1 (fi S5 (30 + 0)) hc H.size) cy_X8_replace q462 q464 qp10 ⟨rfl, rfl⟩ ⟨Nat.le_of_ble_eq_true rfl, Nat.le_of_ble_eq_true rfl⟩ (by decide) rfl rfl rfl rfl hl.1 (Nat.le_of_ble_eq_true rfl) ⟨Nat.le_of_ble_eq_true rfl, Nat.le_of_ble_eq_true rfl⟩ dX8_clear_33) (fun H locs w => ?_)
  refine lv_iload_n F.1 F.2.1 dX8_clear_36 rfl (lv_at hl 0 rfl) ?_
  exact x_iret F w (oi_s hf) dX8_clear_37
def f_X8_clear (S : ST) (a1 : Int32) : Option (Nat × Int32 × ST) := f_X8_clear_0 S a1
set_option maxHeartbeats 4000000 in
set_option maxRecDepth 100000 in
theorem k_X8_clear (l : Launch) (x : CX) (S : ST) (a1 : Int32) {res : Nat × Int32 × ST} (hf : f_X8_clear S a1 = some res) (hls : l.stackTraces = false) (sz : Nat) : vx_Met l yX8_clear (Cond.code yX8_clear cX8_clear 3 (some .int) :: GW) ({ frames := 7, cells := 1, slots := 6, locals := 150 } : Room) (PC x S sz [.ref (x.2.2 (79)), .int a1]) (QXI x res.2.2 res.1 res.2.1 sz) (XX x res.2.2 res.1 sz) 1 6 (AA x sz) := by
  refine vx_ofW (cc := cX8_clear) (maxL := 3) (ret := (some .int)) (by decide) rfl ?_
  intro p e s m args below meth c s₁ B hml ht hv
  obtain ⟨rfl, rfl, hPW⟩ := hv
  have F : MF p m meth c cX8_clear 3 s _ RX8 (some .int) := MF.of B hml
  have w := WD.of hPW
  have hl := lv_entry ([.ref (x.2.2 (79)), .int a1]) (n := 3) (Nat.le_of_ble_eq_true rfl)
  rw [lg_entry_eq]
  generalize (lg_sl ([.ref (x.2.2 (79)), .int a1]) ++ List.replicate (3 - (lg_sl ([.ref (x.2.2 (79)), .int a1])).length) Slot.unset).toArray = ls at hl ⊢
  have hl : lv_has ls 3 [(0, .ref (x.2.2 (79))), (1, .int a1)] := hl
  unfold f_X8_clear at hf
  exact b_X8_clear_0 F ht hls  _ _ _ _ w a1 (lv_sub hl [0, 1] rfl) hf
theorem cy_X8_copy : CY yX8_copy RX8 cX8_copy 3 (some .int) 2 := ⟨q1, q511, rfl, by decide, by decide, by decide +kernel⟩
def f_X8_copy_0 (S : ST) (a1 : Int32) (a2 : Int32) : Option (Nat × Int32 × ST) := oX (f_X8_needSet S a1) (0 : Int32) (fun (S1 : ST) => oX (f_X8_needSet S1 a2) (0 : Int32) (fun (S3 : ST) => oG (inB a1 4) (oV (f_X2_take S3 20 ((Int32.toNatClampNeg a1))) (fun (S6 : ST) => oV (f_X8_replace S6 a2 (fi S6 (30 + 0))) (fun (S7 : ST) => some (0, (fi S7 20), S7))))))
set_option maxHeartbeats 4000000 in
set_option maxRecDepth 100000 in
theorem b_X8_copy_0 {p : Program} {l : Launch} {e : Env} {s : State} {m : MethodId} {args : Array Value} {below : List Frame} {meth : Method} {c : Code} {x : CX} {res : Nat × Int32 × ST} (F : MF p m meth c cX8_copy 3 s args RX8 (some .int)) (ht : ∀ z ∈ c.exceptionTable.toList, False) (hls : l.stackTraces = false) : ∀ (H : Heap) (locs : List Loc) (ls : Array Slot) (S : ST), WD x s S H locs → ∀ (a1 : Int32) (a2 : Int32), lv_has ls 3 [(0, .ref (x.2.2 (79))), (1, .int a1), (2, .int a2)] → f_X8_copy_0 S a1 a2 = some res → W p l e ({ frames := 7, cells := 2, slots := 12, locals := 150 } : Room) s m args below meth c H locs 0 0 (vx_MQ below (QXI x res.2.2 res.1 res.2.1 s.heap.size) (XX x res.2.2 res.1 s.heap.size) args s 2 12 (AA x s.heap.size)) (F0 m 0 ls []) := by
  intro H locs ls S w a1 a2 hl hf
  unfold f_X8_copy_0 at hf
  refine lv_iload_n F.1 F.2.1 dX8_copy_0 rfl (lv_at hl 1 rfl) ?_
  obtain ⟨n2, S1, hc, hf, hx⟩ := oi_x hf
  refine kx_v (S1 := S1) (n1 := n2) F ht w (xrunS (As := [.int a1]) (rest := []) F w (k_X8_needSet l x S a1 hc hls H.size) cy_X8_needSet q342 q343 ⟨rfl, rfl⟩ ⟨Nat.le_of_ble_eq_true rfl, Nat.le_of_ble_eq_true rfl⟩ rfl rfl hl.1 (Nat.le_of_ble_eq_true rfl) ⟨Nat.le_of_ble_eq_true rfl, Nat.le_of_ble_eq_true rfl⟩ dX8_copy_1) hx (Nat.le_of_ble_eq_true rfl) (Nat.le_of_ble_eq_true rfl) (fun hn H locs w => ?_)
  replace hf := hf hn
  refine lv_iload_n F.1 F.2.1 dX8_copy_4 rfl (lv_at hl 2 rfl) ?_
  obtain ⟨n4, S3, hc, hf, hx⟩ := oi_x hf
  refine kx_v (S1 := S3) (n1 := n4) F ht w (xrunS (As := [.int a2]) (rest := []) F w (k_X8_needSet l x S1 a2 hc hls H.size) cy_X8_needSet q342 q343 ⟨rfl, rfl⟩ ⟨Nat.le_of_ble_eq_true rfl, Nat.le_of_ble_eq_true rfl⟩ rfl rfl hl.1 (Nat.le_of_ble_eq_true rfl) ⟨Nat.le_of_ble_eq_true rfl, Nat.le_of_ble_eq_true rfl⟩ dX8_copy_5) hx (Nat.le_of_ble_eq_true rfl) (Nat.le_of_ble_eq_true rfl) (fun hn H locs w => ?_)
  replace hf := hf hn
  refine lv_aload_n F.1 F.2.1 dX8_copy_8 rfl (lv_at hl 0 rfl) ?_
  refine g_RW_made F w q164 dX8_copy_9 ?_
  refine lv_aload_n F.1 F.2.1 dX8_copy_12 rfl (lv_at hl 0 rfl) ?_
  refine g_RW_now F w q162 dX8_copy_13 ?_
  refine gN_ST_sets (i := 0) F w (by decide) (by simp [NF]) dX8_copy_16 ?_
  refine lv_iload_n F.1 F.2.1 dX8_copy_19 rfl (lv_at hl 1 rfl) ?_
  obtain ⟨hb5, hf⟩ := oi_g hf
  refine r_now F w hb5 dX8_copy_20 ?_
  obtain ⟨S6, hc, hf⟩ := oi_v hf
  refine k_v0 (S' := S6) w (runV (As := [.ref (x.2.2 (2 * ((Int32.toNatClampNeg a1))))]) (rest := []) (kb := 2 * 20) F w (k_X2_take l x S3 20 ((Int32.toNatClampNeg a1)) (by decide) (Nat.lt_of_lt_of_le (inB_lt hb5) (by decide)) hc H.size) cy_X2_take q484 q475 q476 ⟨rfl, rfl⟩ ⟨Nat.le_of_ble_eq_true rfl, Nat.le_of_ble_eq_true rfl⟩ (k_ms (by decide)) (enc_ms x S3 (by decide)) rfl rfl rfl hl.1 (Nat.le_of_ble_eq_true rfl) ⟨Nat.le_of_ble_eq_true rfl, Nat.le_of_ble_eq_true rfl⟩ dX8_copy_21) (fun H locs w => ?_)
  refine lv_aload_n F.1 F.2.1 dX8_copy_24 rfl (lv_at hl 0 rfl) ?_
  refine lv_iload_n F.1 F.2.1 dX8_copy_25 rfl (lv_at hl 2 rfl) ?_
  refine lv_aload_n F.1 F.2.1 dX8_copy_26 rfl (lv_at hl 0 rfl) ?_
  refine g_RW_now F w q162 dX8_copy_27 ?_
  refine gN_ST_modulus (i := 0) F w (by decide) (by simp [NF]) dX8_copy_30 ?_
  obtain ⟨S7, hc, hf⟩ := oi_v hf
  refine k_v0 (S' := S7) w (runV (As := [.int a2, .int (fi S6 (30 + 0))]) (rest := []) (kb := 79) F w (k_X8_replace l x S6 a2 (fi S6 (30 + 0)) hc H.size) cy_X8_replace q462 q464 qp10 ⟨rfl, rfl⟩ ⟨Nat.le_of_ble_eq_true rfl, Nat.le_of_ble_eq_true rfl⟩ (by decide) rfl rfl rfl rfl hl.1 (Nat.le_of_ble_eq_true rfl) ⟨Nat.le_of_ble_eq_true rfl, Nat.le_of_ble_eq_true rfl⟩ dX8_copy_33) (fun H locs w => ?_)
  refine lv_aload_n F.1 F.2.1 dX8_copy_36 rfl (lv_at hl 0 rfl) ?_
  refine g_RW_made F w q164 dX8_copy_37 ?_
  refine gN_MS_count (i := 20) F w (by decide) (by simp [NF]) dX8_copy_40 ?_
  exact x_iret F w (oi_s hf) dX8_copy_43
def f_X8_copy (S : ST) (a1 : Int32) (a2 : Int32) : Option (Nat × Int32 × ST) := f_X8_copy_0 S a1 a2
set_option maxHeartbeats 4000000 in
set_option maxRecDepth 100000 in
theorem k_X8_copy (l : Launch) (x : CX) (S : ST) (a1 : Int32) (a2 : Int32) {res : Nat × Int32 × ST} (hf : f_X8_copy S a1 a2 = some res) (hls : l.stackTraces = false) (sz : Nat) : vx_Met l yX8_copy (Cond.code yX8_copy cX8_copy 3 (some .int) :: GW) ({ frames := 7, cells := 2, slots := 12, locals := 150 } : Room) (PC x S sz [.ref (x.2.2 (79)), .int a1, .int a2]) (QXI x res.2.2 res.1 res.2.1 sz) (XX x res.2.2 res.1 sz) 2 12 (AA x sz) := by
  refine vx_ofW (cc := cX8_copy) (maxL := 3) (ret := (some .int)) (by decide) rfl ?_
  intro p e s m args below meth c s₁ B hml ht hv
  obtain ⟨rfl, rfl, hPW⟩ := hv
  have F : MF p m meth c cX8_copy 3 s _ RX8 (some .int) := MF.of B hml
  have w := WD.of hPW
  have hl := lv_entry ([.ref (x.2.2 (79)), .int a1, .int a2]) (n := 3) (Nat.le_of_ble_eq_true rfl)
  rw [lg_entry_eq]
  generalize (lg_sl ([.ref (x.2.2 (79)), .int a1, .int a2]) ++ List.replicate (3 - (lg_sl ([.ref (x.2.2 (79)), .int a1, .int a2])).length) Slot.unset).toArray = ls at hl ⊢
  have hl : lv_has ls 3 [(0, .ref (x.2.2 (79))), (1, .int a1), (2, .int a2)] := hl
  unfold f_X8_copy at hf
  exact b_X8_copy_0 F ht hls  _ _ _ _ w a1 a2 (lv_sub hl [0, 1, 2] rfl) hf
theorem cy_X8_size : CY yX8_size RX8 cX8_size 2 (some .int) 1 := ⟨q1, q518, rfl, by decide, by decide, by decide +kernel⟩
def f_X8_size_0 (S : ST) (a1 : Int32) : Option (Nat × Int32 × ST) := oX (f_X8_needSet S a1) (0 : Int32) (fun (S1 : ST) => oG (inB a1 4) (some (0, (fi S1 ((Int32.toNatClampNeg a1))), S1)))
set_option maxHeartbeats 4000000 in
set_option maxRecDepth 100000 in
theorem b_X8_size_0 {p : Program} {l : Launch} {e : Env} {s : State} {m : MethodId} {args : Array Value} {below : List Frame} {meth : Method} {c : Code} {x : CX} {res : Nat × Int32 × ST} (F : MF p m meth c cX8_size 2 s args RX8 (some .int)) (ht : ∀ z ∈ c.exceptionTable.toList, False) (hls : l.stackTraces = false) : ∀ (H : Heap) (locs : List Loc) (ls : Array Slot) (S : ST), WD x s S H locs → ∀ (a1 : Int32), lv_has ls 2 [(0, .ref (x.2.2 (79))), (1, .int a1)] → f_X8_size_0 S a1 = some res → W p l e ({ frames := 7, cells := 1, slots := 6, locals := 120 } : Room) s m args below meth c H locs 0 0 (vx_MQ below (QXI x res.2.2 res.1 res.2.1 s.heap.size) (XX x res.2.2 res.1 s.heap.size) args s 1 6 (AA x s.heap.size)) (F0 m 0 ls []) := by
  intro H locs ls S w a1 hl hf
  unfold f_X8_size_0 at hf
  refine lv_iload_n F.1 F.2.1 dX8_size_0 rfl (lv_at hl 1 rfl) ?_
  obtain ⟨n2, S1, hc, hf, hx⟩ := oi_x hf
  refine kx_v (S1 := S1) (n1 := n2) F ht w (xrunS (As := [.int a1]) (rest := []) F w (k_X8_needSet l x S a1 hc hls H.size) cy_X8_needSet q342 q343 ⟨rfl, rfl⟩ ⟨Nat.le_of_ble_eq_true rfl, Nat.le_of_ble_eq_true rfl⟩ rfl rfl hl.1 (Nat.le_of_ble_eq_true rfl) ⟨Nat.le_of_ble_eq_true rfl, Nat.le_of_ble_eq_true rfl⟩ dX8_size_1) hx (Nat.le_of_ble_eq_true rfl) (Nat.le_of_ble_eq_true rfl) (fun hn H locs w => ?_)
  replace hf := hf hn
  refine lv_aload_n F.1 F.2.1 dX8_size_4 rfl (lv_at hl 0 rfl) ?_
  refine g_RW_now F w q162 dX8_size_5 ?_
  refine gN_ST_sets (i := 0) F w (by decide) (by simp [NF]) dX8_size_8 ?_
  refine lv_iload_n F.1 F.2.1 dX8_size_11 rfl (lv_at hl 1 rfl) ?_
  obtain ⟨hb3, hf⟩ := oi_g hf
  refine r_now F w hb3 dX8_size_12 ?_
  refine gN_MS_count (i := ((Int32.toNatClampNeg a1))) F w (Nat.lt_of_lt_of_le (inB_lt hb3) (by decide)) (by simp [NF]) dX8_size_13 ?_
  exact x_iret F w (oi_s hf) dX8_size_16
def f_X8_size (S : ST) (a1 : Int32) : Option (Nat × Int32 × ST) := f_X8_size_0 S a1
set_option maxHeartbeats 4000000 in
set_option maxRecDepth 100000 in
theorem k_X8_size (l : Launch) (x : CX) (S : ST) (a1 : Int32) {res : Nat × Int32 × ST} (hf : f_X8_size S a1 = some res) (hls : l.stackTraces = false) (sz : Nat) : vx_Met l yX8_size (Cond.code yX8_size cX8_size 2 (some .int) :: GW) ({ frames := 7, cells := 1, slots := 6, locals := 120 } : Room) (PC x S sz [.ref (x.2.2 (79)), .int a1]) (QXI x res.2.2 res.1 res.2.1 sz) (XX x res.2.2 res.1 sz) 1 6 (AA x sz) := by
  refine vx_ofW (cc := cX8_size) (maxL := 2) (ret := (some .int)) (by decide) rfl ?_
  intro p e s m args below meth c s₁ B hml ht hv
  obtain ⟨rfl, rfl, hPW⟩ := hv
  have F : MF p m meth c cX8_size 2 s _ RX8 (some .int) := MF.of B hml
  have w := WD.of hPW
  have hl := lv_entry ([.ref (x.2.2 (79)), .int a1]) (n := 2) (Nat.le_of_ble_eq_true rfl)
  rw [lg_entry_eq]
  generalize (lg_sl ([.ref (x.2.2 (79)), .int a1]) ++ List.replicate (2 - (lg_sl ([.ref (x.2.2 (79)), .int a1])).length) Slot.unset).toArray = ls at hl ⊢
  have hl : lv_has ls 2 [(0, .ref (x.2.2 (79))), (1, .int a1)] := hl
  unfold f_X8_size at hf
  exact b_X8_size_0 F ht hls  _ _ _ _ w a1 (lv_sub hl [0, 1] rfl) hf
theorem cy_X8_mark : CY yX8_mark RX8 cX8_mark 3 (some .int) 2 := ⟨q1, q525, rfl, by decide, by decide, by decide +kernel⟩
def f_X8_mark_24 (S : ST)  : Option (Nat × Int32 × ST) := some (1, 0, S)
set_option maxHeartbeats 4000000 in
set_option maxRecDepth 100000 in
theorem b_X8_mark_24 {p : Program} {l : Launch} {e : Env} {s : State} {m : MethodId} {args : Array Value} {below : List Frame} {meth : Method} {c : Code} {x : CX} {res : Nat × Int32 × ST} (F : MF p m meth c cX8_mark 3 s args RX8 (some .int)) (ht : ∀ z ∈ c.exceptionTable.toList, False) (hls : l.stackTraces = false) : ∀ (H : Heap) (locs : List Loc) (ls : Array Slot) (S : ST), WD x s S H locs → lv_has ls 3 [] → f_X8_mark_24 S = some res → W p l e ({ frames := 7, cells := 2, slots := 12, locals := 120 } : Room) s m args below meth c H locs 1 6 (vx_MQ below (QXI x res.2.2 res.1 res.2.1 s.heap.size) (XX x res.2.2 res.1 s.heap.size) args s 2 12 (AA x s.heap.size)) (F0 m 24 ls []) := by
  intro H locs ls S w hl hf
  unfold f_X8_mark_24 at hf
  exact x_throw (E := eIO) (text := "there is no such mark") F ht hls w (oi_s hf) (by simp [XK]) xq_IO (by simp [XT]) hl.1 dX8_mark_24 dX8_mark_27 dX8_mark_28 dX8_mark_30 dX8_mark_33 (Nat.le_of_ble_eq_true rfl) (Nat.le_of_ble_eq_true rfl) (Nat.le_of_ble_eq_true rfl) (Nat.le_of_ble_eq_true rfl) (Nat.le_of_ble_eq_true rfl) (Nat.le_of_ble_eq_true rfl)
def f_X8_mark_0 (S : ST) (a1 : Int32) (a2 : Int32) : Option (Nat × Int32 × ST) := oX (f_X8_needSet S a1) (0 : Int32) (fun (S1 : ST) => (if a2 < 0 then f_X8_mark_24 S1 else oG (inB a1 4) ((if a2 < (fi S1 ((Int32.toNatClampNeg a1))) then oG (inB a1 4) (oB (f_X2_at S1 ((Int32.toNatClampNeg a1)) a2) (fun (r8 : Int32) (S7 : ST) => some (0, r8, S7))) else f_X8_mark_24 S1))))
set_option maxHeartbeats 4000000 in
set_option maxRecDepth 100000 in
theorem b_X8_mark_0 {p : Program} {l : Launch} {e : Env} {s : State} {m : MethodId} {args : Array Value} {below : List Frame} {meth : Method} {c : Code} {x : CX} {res : Nat × Int32 × ST} (F : MF p m meth c cX8_mark 3 s args RX8 (some .int)) (ht : ∀ z ∈ c.exceptionTable.toList, False) (hls : l.stackTraces = false) : ∀ (H : Heap) (locs : List Loc) (ls : Array Slot) (S : ST), WD x s S H locs → ∀ (a1 : Int32) (a2 : Int32), lv_has ls 3 [(0, .ref (x.2.2 (79))), (1, .int a1), (2, .int a2)] → f_X8_mark_0 S a1 a2 = some res → W p l e ({ frames := 7, cells := 2, slots := 12, locals := 120 } : Room) s m args below meth c H locs 0 0 (vx_MQ below (QXI x res.2.2 res.1 res.2.1 s.heap.size) (XX x res.2.2 res.1 s.heap.size) args s 2 12 (AA x s.heap.size)) (F0 m 0 ls []) := by
  intro H locs ls S w a1 a2 hl hf
  unfold f_X8_mark_0 at hf
  refine lv_iload_n F.1 F.2.1 dX8_mark_0 rfl (lv_at hl 1 rfl) ?_
  obtain ⟨n2, S1, hc, hf, hx⟩ := oi_x hf
  refine kx_v (S1 := S1) (n1 := n2) F ht w (xrunS (As := [.int a1]) (rest := []) F w (k_X8_needSet l x S a1 hc hls H.size) cy_X8_needSet q342 q343 ⟨rfl, rfl⟩ ⟨Nat.le_of_ble_eq_true rfl, Nat.le_of_ble_eq_true rfl⟩ rfl rfl hl.1 (Nat.le_of_ble_eq_true rfl) ⟨Nat.le_of_ble_eq_true rfl, Nat.le_of_ble_eq_true rfl⟩ dX8_mark_1) hx (Nat.le_of_ble_eq_true rfl) (Nat.le_of_ble_eq_true rfl) (fun hn H locs w => ?_)
  replace hf := hf hn
  refine lv_iload_n F.1 F.2.1 dX8_mark_4 rfl (lv_at hl 2 rfl) ?_
  refine lv_if_lt (tgt := 24) F.1 F.2.1 dX8_mark_5 (by decide) (fun c3 => ?_) (fun c3 => ?_)
  · replace hf := oi_t hf c3
    exact b_X8_mark_24 F ht hls  _ _ _ _ w  (lv_sub hl [] rfl) hf
  · replace hf := oi_f hf c3
    refine lv_iload_n F.1 F.2.1 dX8_mark_8 rfl (lv_at hl 2 rfl) ?_
    refine lv_aload_n F.1 F.2.1 dX8_mark_9 rfl (lv_at hl 0 rfl) ?_
    refine g_RW_now F w q162 dX8_mark_10 ?_
    refine gN_ST_sets (i := 0) F w (by decide) (by simp [NF]) dX8_mark_13 ?_
    refine lv_iload_n F.1 F.2.1 dX8_mark_16 rfl (lv_at hl 1 rfl) ?_
    obtain ⟨hb4, hf⟩ := oi_g hf
    refine r_now F w hb4 dX8_mark_17 ?_
    refine gN_MS_count (i := ((Int32.toNatClampNeg a1))) F w (Nat.lt_of_lt_of_le (inB_lt hb4) (by decide)) (by simp [NF]) dX8_mark_18 ?_
    refine lv_icmp_lt (tgt := 34) F.1 F.2.1 dX8_mark_21 (by decide) (fun c5 => ?_) (fun c5 => ?_)
    · replace hf := oi_t hf c5
      refine lv_aload_n F.1 F.2.1 dX8_mark_34 rfl (lv_at hl 0 rfl) ?_
      refine g_RW_now F w q162 dX8_mark_35 ?_
      refine gN_ST_sets (i := 0) F w (by decide) (by simp [NF]) dX8_mark_38 ?_
      refine lv_iload_n F.1 F.2.1 dX8_mark_41 rfl (lv_at hl 1 rfl) ?_
      obtain ⟨hb6, hf⟩ := oi_g hf
      refine r_now F w hb6 dX8_mark_42 ?_
      refine lv_iload_n F.1 F.2.1 dX8_mark_43 rfl (lv_at hl 2 rfl) ?_
      obtain ⟨r8, S7, hc, hf⟩ := oi_b hf
      refine k_i0 (S' := S7) (r := r8) w (runV (As := [.int a2]) (rest := []) (kb := 2 * ((Int32.toNatClampNeg a1))) F w (k_X2_at l x S1 ((Int32.toNatClampNeg a1)) a2 (Nat.lt_of_lt_of_le (inB_lt hb6) (by decide)) hc H.size) cy_X2_at q241 q217 q218 ⟨rfl, rfl⟩ ⟨Nat.le_of_ble_eq_true rfl, Nat.le_of_ble_eq_true rfl⟩ (k_ms (Nat.lt_of_lt_of_le (inB_lt hb6) (by decide))) (enc_ms x S1 (Nat.lt_of_lt_of_le (inB_lt hb6) (by decide))) rfl rfl rfl hl.1 (Nat.le_of_ble_eq_true rfl) ⟨Nat.le_of_ble_eq_true rfl, Nat.le_of_ble_eq_true rfl⟩ dX8_mark_44) (fun H locs w => ?_)
      refine W.widen (k := 2) (n := 12) (by decide) (by decide) ?_
      exact x_iret F w (oi_s hf) dX8_mark_47
    · replace hf := oi_f hf c5
      exact b_X8_mark_24 F ht hls  _ _ _ _ w  (lv_sub hl [] rfl) hf
def f_X8_mark (S : ST) (a1 : Int32) (a2 : Int32) : Option (Nat × Int32 × ST) := f_X8_mark_0 S a1 a2
set_option maxHeartbeats 4000000 in
set_option maxRecDepth 100000 in
theorem k_X8_mark (l : Launch) (x : CX) (S : ST) (a1 : Int32) (a2 : Int32) {res : Nat × Int32 × ST} (hf : f_X8_mark S a1 a2 = some res) (hls : l.stackTraces = false) (sz : Nat) : vx_Met l yX8_mark (Cond.code yX8_mark cX8_mark 3 (some .int) :: GW) ({ frames := 7, cells := 2, slots := 12, locals := 120 } : Room) (PC x S sz [.ref (x.2.2 (79)), .int a1, .int a2]) (QXI x res.2.2 res.1 res.2.1 sz) (XX x res.2.2 res.1 sz) 2 12 (AA x sz) := by
  refine vx_ofW (cc := cX8_mark) (maxL := 3) (ret := (some .int)) (by decide) rfl ?_
  intro p e s m args below meth c s₁ B hml ht hv
  obtain ⟨rfl, rfl, hPW⟩ := hv
  have F : MF p m meth c cX8_mark 3 s _ RX8 (some .int) := MF.of B hml
  have w := WD.of hPW
  have hl := lv_entry ([.ref (x.2.2 (79)), .int a1, .int a2]) (n := 3) (Nat.le_of_ble_eq_true rfl)
  rw [lg_entry_eq]
  generalize (lg_sl ([.ref (x.2.2 (79)), .int a1, .int a2]) ++ List.replicate (3 - (lg_sl ([.ref (x.2.2 (79)), .int a1, .int a2])).length) Slot.unset).toArray = ls at hl ⊢
  have hl : lv_has ls 3 [(0, .ref (x.2.2 (79))), (1, .int a1), (2, .int a2)] := hl
  unfold f_X8_mark at hf
  exact b_X8_mark_0 F ht hls  _ _ _ _ w a1 a2 (lv_sub hl [0, 1, 2] rfl) hf
theorem cy_X8_length : CY yX8_length RX8 cX8_length 2 (some .int) 1 := ⟨q1, q533, rfl, by decide, by decide, by decide +kernel⟩
def f_X8_length_0 (S : ST) (a1 : Int32) : Option (Nat × Int32 × ST) := oX (f_X8_needSet S a1) (0 : Int32) (fun (S1 : ST) => oG (inB a1 4) (oB (f_X2_span S1 ((Int32.toNatClampNeg a1))) (fun (r5 : Int32) (S4 : ST) => some (0, r5, S4))))
set_option maxHeartbeats 4000000 in
set_option maxRecDepth 100000 in
theorem b_X8_length_0 {p : Program} {l : Launch} {e : Env} {s : State} {m : MethodId} {args : Array Value} {below : List Frame} {meth : Method} {c : Code} {x : CX} {res : Nat × Int32 × ST} (F : MF p m meth c cX8_length 2 s args RX8 (some .int)) (ht : ∀ z ∈ c.exceptionTable.toList, False) (hls : l.stackTraces = false) : ∀ (H : Heap) (locs : List Loc) (ls : Array Slot) (S : ST), WD x s S H locs → ∀ (a1 : Int32), lv_has ls 2 [(0, .ref (x.2.2 (79))), (1, .int a1)] → f_X8_length_0 S a1 = some res → W p l e ({ frames := 7, cells := 1, slots := 6, locals := 120 } : Room) s m args below meth c H locs 0 0 (vx_MQ below (QXI x res.2.2 res.1 res.2.1 s.heap.size) (XX x res.2.2 res.1 s.heap.size) args s 1 6 (AA x s.heap.size)) (F0 m 0 ls []) := by
  intro H locs ls S w a1 hl hf
  unfold f_X8_length_0 at hf
  refine lv_iload_n F.1 F.2.1 dX8_length_0 rfl (lv_at hl 1 rfl) ?_
  obtain ⟨n2, S1, hc, hf, hx⟩ := oi_x hf
  refine kx_v (S1 := S1) (n1 := n2) F ht w (xrunS (As := [.int a1]) (rest := []) F w (k_X8_needSet l x S a1 hc hls H.size) cy_X8_needSet q342 q343 ⟨rfl, rfl⟩ ⟨Nat.le_of_ble_eq_true rfl, Nat.le_of_ble_eq_true rfl⟩ rfl rfl hl.1 (Nat.le_of_ble_eq_true rfl) ⟨Nat.le_of_ble_eq_true rfl, Nat.le_of_ble_eq_true rfl⟩ dX8_length_1) hx (Nat.le_of_ble_eq_true rfl) (Nat.le_of_ble_eq_true rfl) (fun hn H locs w => ?_)
  replace hf := hf hn
  refine lv_aload_n F.1 F.2.1 dX8_length_4 rfl (lv_at hl 0 rfl) ?_
  refine g_RW_now F w q162 dX8_length_5 ?_
  refine gN_ST_sets (i := 0) F w (by decide) (by simp [NF]) dX8_length_8 ?_
  refine lv_iload_n F.1 F.2.1 dX8_length_11 rfl (lv_at hl 1 rfl) ?_
  obtain ⟨hb3, hf⟩ := oi_g hf
  refine r_now F w hb3 dX8_length_12 ?_
  obtain ⟨r5, S4, hc, hf⟩ := oi_b hf
  refine k_i0 (S' := S4) (r := r5) w (runV (As := []) (rest := []) (kb := 2 * ((Int32.toNatClampNeg a1))) F w (k_X2_span l x S1 ((Int32.toNatClampNeg a1)) (Nat.lt_of_lt_of_le (inB_lt hb3) (by decide)) hc H.size) cy_X2_span q534 q535 q536 ⟨rfl, rfl⟩ ⟨Nat.le_of_ble_eq_true rfl, Nat.le_of_ble_eq_true rfl⟩ (k_ms (Nat.lt_of_lt_of_le (inB_lt hb3) (by decide))) (enc_ms x S1 (Nat.lt_of_lt_of_le (inB_lt hb3) (by decide))) rfl rfl rfl hl.1 (Nat.le_of_ble_eq_true rfl) ⟨Nat.le_of_ble_eq_true rfl, Nat.le_of_ble_eq_true rfl⟩ dX8_length_13) (fun H locs w => ?_)
  exact x_iret F w (oi_s hf) dX8_length_16
def f_X8_length (S : ST) (a1 : Int32) : Option (Nat × Int32 × ST) := f_X8_length_0 S a1
set_option maxHeartbeats 4000000 in
set_option maxRecDepth 100000 in
theorem k_X8_length (l : Launch) (x : CX) (S : ST) (a1 : Int32) {res : Nat × Int32 × ST} (hf : f_X8_length S a1 = some res) (hls : l.stackTraces = false) (sz : Nat) : vx_Met l yX8_length (Cond.code yX8_length cX8_length 2 (some .int) :: GW) ({ frames := 7, cells := 1, slots := 6, locals := 120 } : Room) (PC x S sz [.ref (x.2.2 (79)), .int a1]) (QXI x res.2.2 res.1 res.2.1 sz) (XX x res.2.2 res.1 sz) 1 6 (AA x sz) := by
  refine vx_ofW (cc := cX8_length) (maxL := 2) (ret := (some .int)) (by decide) rfl ?_
  intro p e s m args below meth c s₁ B hml ht hv
  obtain ⟨rfl, rfl, hPW⟩ := hv
  have F : MF p m meth c cX8_length 2 s _ RX8 (some .int) := MF.of B hml
  have w := WD.of hPW
  have hl := lv_entry ([.ref (x.2.2 (79)), .int a1]) (n := 2) (Nat.le_of_ble_eq_true rfl)
  rw [lg_entry_eq]
  generalize (lg_sl ([.ref (x.2.2 (79)), .int a1]) ++ List.replicate (2 - (lg_sl ([.ref (x.2.2 (79)), .int a1])).length) Slot.unset).toArray = ls at hl ⊢
  have hl : lv_has ls 2 [(0, .ref (x.2.2 (79))), (1, .int a1)] := hl
  unfold f_X8_length at hf
  exact b_X8_length_0 F ht hls  _ _ _ _ w a1 (lv_sub hl [0, 1] rfl) hf
theorem cy_X8_multiplicity : CY yX8_multiplicity RX8 cX8_multiplicity 3 (some .int) 2 := ⟨q1, q545, rfl, by decide, by decide, by decide +kernel⟩
def f_X8_multiplicity_16 (S : ST)  : Option (Nat × Int32 × ST) := some (2, 0, S)
set_option maxHeartbeats 4000000 in
set_option maxRecDepth 100000 in
theorem b_X8_multiplicity_16 {p : Program} {l : Launch} {e : Env} {s : State} {m : MethodId} {args : Array Value} {below : List Frame} {meth : Method} {c : Code} {x : CX} {res : Nat × Int32 × ST} (F : MF p m meth c cX8_multiplicity 3 s args RX8 (some .int)) (ht : ∀ z ∈ c.exceptionTable.toList, False) (hls : l.stackTraces = false) : ∀ (H : Heap) (locs : List Loc) (ls : Array Slot) (S : ST), WD x s S H locs → lv_has ls 3 [] → f_X8_multiplicity_16 S = some res → W p l e ({ frames := 7, cells := 2, slots := 12, locals := 120 } : Room) s m args below meth c H locs 1 6 (vx_MQ below (QXI x res.2.2 res.1 res.2.1 s.heap.size) (XX x res.2.2 res.1 s.heap.size) args s 2 12 (AA x s.heap.size)) (F0 m 16 ls []) := by
  intro H locs ls S w hl hf
  unfold f_X8_multiplicity_16 at hf
  exact x_throw (E := eIA) (text := "d is out of range") F ht hls w (oi_s hf) (by simp [XK]) xq_IA (by simp [XT]) hl.1 dX8_multiplicity_16 dX8_multiplicity_19 dX8_multiplicity_20 dX8_multiplicity_22 dX8_multiplicity_25 (Nat.le_of_ble_eq_true rfl) (Nat.le_of_ble_eq_true rfl) (Nat.le_of_ble_eq_true rfl) (Nat.le_of_ble_eq_true rfl) (Nat.le_of_ble_eq_true rfl) (Nat.le_of_ble_eq_true rfl)
def f_X8_multiplicity_0 (S : ST) (a1 : Int32) (a2 : Int32) : Option (Nat × Int32 × ST) := oX (f_X8_needSet S a1) (0 : Int32) (fun (S1 : ST) => (if a2 < 1 then f_X8_multiplicity_16 S1 else (if a2 ≤ 2000 then oG (inB a1 4) (oB (f_X2_pairsApart S1 ((Int32.toNatClampNeg a1)) a2) (fun (r7 : Int32) (S6 : ST) => some (0, r7, S6))) else f_X8_multiplicity_16 S1)))
set_option maxHeartbeats 4000000 in
set_option maxRecDepth 100000 in
theorem b_X8_multiplicity_0 {p : Program} {l : Launch} {e : Env} {s : State} {m : MethodId} {args : Array Value} {below : List Frame} {meth : Method} {c : Code} {x : CX} {res : Nat × Int32 × ST} (F : MF p m meth c cX8_multiplicity 3 s args RX8 (some .int)) (ht : ∀ z ∈ c.exceptionTable.toList, False) (hls : l.stackTraces = false) : ∀ (H : Heap) (locs : List Loc) (ls : Array Slot) (S : ST), WD x s S H locs → ∀ (a1 : Int32) (a2 : Int32), lv_has ls 3 [(0, .ref (x.2.2 (79))), (1, .int a1), (2, .int a2)] → f_X8_multiplicity_0 S a1 a2 = some res → W p l e ({ frames := 7, cells := 2, slots := 12, locals := 120 } : Room) s m args below meth c H locs 0 0 (vx_MQ below (QXI x res.2.2 res.1 res.2.1 s.heap.size) (XX x res.2.2 res.1 s.heap.size) args s 2 12 (AA x s.heap.size)) (F0 m 0 ls []) := by
  intro H locs ls S w a1 a2 hl hf
  unfold f_X8_multiplicity_0 at hf
  refine lv_iload_n F.1 F.2.1 dX8_multiplicity_0 rfl (lv_at hl 1 rfl) ?_
  obtain ⟨n2, S1, hc, hf, hx⟩ := oi_x hf
  refine kx_v (S1 := S1) (n1 := n2) F ht w (xrunS (As := [.int a1]) (rest := []) F w (k_X8_needSet l x S a1 hc hls H.size) cy_X8_needSet q342 q343 ⟨rfl, rfl⟩ ⟨Nat.le_of_ble_eq_true rfl, Nat.le_of_ble_eq_true rfl⟩ rfl rfl hl.1 (Nat.le_of_ble_eq_true rfl) ⟨Nat.le_of_ble_eq_true rfl, Nat.le_of_ble_eq_true rfl⟩ dX8_multiplicity_1) hx (Nat.le_of_ble_eq_true rfl) (Nat.le_of_ble_eq_true rfl) (fun hn H locs w => ?_)
  replace hf := hf hn
  refine lv_iload_n F.1 F.2.1 dX8_multiplicity_4 rfl (lv_at hl 2 rfl) ?_
  refine lv_iconst (v := 1) F.1 F.2.1 dX8_multiplicity_5 (by decide) ?_
  refine lv_icmp_lt (tgt := 16) F.1 F.2.1 dX8_multiplicity_6 (by decide) (fun c3 => ?_) (fun c3 => ?_)
  · replace hf := oi_t hf c3
    exact b_X8_multiplicity_16 F ht hls  _ _ _ _ w  (lv_sub hl [] rfl) hf
  · replace hf := oi_f hf c3
    refine lv_iload_n F.1 F.2.1 dX8_multiplicity_9 rfl (lv_at hl 2 rfl) ?_
    refine lv_sipush (v := 2000) F.1 F.2.1 dX8_multiplicity_10 (by decide) ?_
    refine lv_icmp_le (tgt := 26) F.1 F.2.1 dX8_multiplicity_13 (by decide) (fun c4 => ?_) (fun c4 => ?_)
    · replace hf := oi_t hf c4
      refine lv_aload_n F.1 F.2.1 dX8_multiplicity_26 rfl (lv_at hl 0 rfl) ?_
      refine g_RW_now F w q162 dX8_multiplicity_27 ?_
      refine gN_ST_sets (i := 0) F w (by decide) (by simp [NF]) dX8_multiplicity_30 ?_
      refine lv_iload_n F.1 F.2.1 dX8_multiplicity_33 rfl (lv_at hl 1 rfl) ?_
      obtain ⟨hb5, hf⟩ := oi_g hf
      refine r_now F w hb5 dX8_multiplicity_34 ?_
      refine lv_iload_n F.1 F.2.1 dX8_multiplicity_35 rfl (lv_at hl 2 rfl) ?_
      obtain ⟨r7, S6, hc, hf⟩ := oi_b hf
      refine k_i0 (S' := S6) (r := r7) w (runV (As := [.int a2]) (rest := []) (kb := 2 * ((Int32.toNatClampNeg a1))) F w (k_X2_pairsApart l x S1 ((Int32.toNatClampNeg a1)) a2 (Nat.lt_of_lt_of_le (inB_lt hb5) (by decide)) hc H.size) cy_X2_pairsApart q547 q548 q549 ⟨rfl, rfl⟩ ⟨Nat.le_of_ble_eq_true rfl, Nat.le_of_ble_eq_true rfl⟩ (k_ms (Nat.lt_of_lt_of_le (inB_lt hb5) (by decide))) (enc_ms x S1 (Nat.lt_of_lt_of_le (inB_lt hb5) (by decide))) rfl rfl rfl hl.1 (Nat.le_of_ble_eq_true rfl) ⟨Nat.le_of_ble_eq_true rfl, Nat.le_of_ble_eq_true rfl⟩ dX8_multiplicity_36) (fun H locs w => ?_)
      refine W.widen (k := 2) (n := 12) (by decide) (by decide) ?_
      exact x_iret F w (oi_s hf) dX8_multiplicity_39
    · replace hf := oi_f hf c4
      exact b_X8_multiplicity_16 F ht hls  _ _ _ _ w  (lv_sub hl [] rfl) hf
def f_X8_multiplicity (S : ST) (a1 : Int32) (a2 : Int32) : Option (Nat × Int32 × ST) := f_X8_multiplicity_0 S a1 a2
set_option maxHeartbeats 4000000 in
set_option maxRecDepth 100000 in
theorem k_X8_multiplicity (l : Launch) (x : CX) (S : ST) (a1 : Int32) (a2 : Int32) {res : Nat × Int32 × ST} (hf : f_X8_multiplicity S a1 a2 = some res) (hls : l.stackTraces = false) (sz : Nat) : vx_Met l yX8_multiplicity (Cond.code yX8_multiplicity cX8_multiplicity 3 (some .int) :: GW) ({ frames := 7, cells := 2, slots := 12, locals := 120 } : Room) (PC x S sz [.ref (x.2.2 (79)), .int a1, .int a2]) (QXI x res.2.2 res.1 res.2.1 sz) (XX x res.2.2 res.1 sz) 2 12 (AA x sz) := by
  refine vx_ofW (cc := cX8_multiplicity) (maxL := 3) (ret := (some .int)) (by decide) rfl ?_
  intro p e s m args below meth c s₁ B hml ht hv
  obtain ⟨rfl, rfl, hPW⟩ := hv
  have F : MF p m meth c cX8_multiplicity 3 s _ RX8 (some .int) := MF.of B hml
  have w := WD.of hPW
  have hl := lv_entry ([.ref (x.2.2 (79)), .int a1, .int a2]) (n := 3) (Nat.le_of_ble_eq_true rfl)
  rw [lg_entry_eq]
  generalize (lg_sl ([.ref (x.2.2 (79)), .int a1, .int a2]) ++ List.replicate (3 - (lg_sl ([.ref (x.2.2 (79)), .int a1, .int a2])).length) Slot.unset).toArray = ls at hl ⊢
  have hl : lv_has ls 3 [(0, .ref (x.2.2 (79))), (1, .int a1), (2, .int a2)] := hl
  unfold f_X8_multiplicity at hf
  exact b_X8_multiplicity_0 F ht hls  _ _ _ _ w a1 a2 (lv_sub hl [0, 1, 2] rfl) hf
theorem cy_X8_isRuler : CY yX8_isRuler RX8 cX8_isRuler 2 (some .boolean) 1 := ⟨q1, q557, rfl, by decide, by decide, by decide +kernel⟩
def f_X8_isRuler_0 (S : ST) (a1 : Int32) : Option (Nat × Int32 × ST) := oX (f_X8_needSet S a1) (0 : Int32) (fun (S1 : ST) => oB (f_X8_measured S1 a1) (fun (r4 : Nat) (S3 : ST) => oG (decide (r4 < 4)) (oG (isB (fi S3 (40 + r4))) (some (0, (fi S3 (40 + r4)), S3)))))
set_option maxHeartbeats 4000000 in
set_option maxRecDepth 100000 in
theorem b_X8_isRuler_0 {p : Program} {l : Launch} {e : Env} {s : State} {m : MethodId} {args : Array Value} {below : List Frame} {meth : Method} {c : Code} {x : CX} {res : Nat × Int32 × ST} (F : MF p m meth c cX8_isRuler 2 s args RX8 (some .boolean)) (ht : ∀ z ∈ c.exceptionTable.toList, False) (hls : l.stackTraces = false) : ∀ (H : Heap) (locs : List Loc) (ls : Array Slot) (S : ST), WD x s S H locs → ∀ (a1 : Int32), lv_has ls 2 [(0, .ref (x.2.2 (79))), (1, .int a1)] → f_X8_isRuler_0 S a1 = some res → W p l e ({ frames := 7, cells := 1, slots := 6, locals := 120 } : Room) s m args below meth c H locs 0 0 (vx_MQ below (QXI x res.2.2 res.1 res.2.1 s.heap.size) (XX x res.2.2 res.1 s.heap.size) args s 1 6 (AA x s.heap.size)) (F0 m 0 ls []) := by
  intro H locs ls S w a1 hl hf
  unfold f_X8_isRuler_0 at hf
  refine lv_iload_n F.1 F.2.1 dX8_isRuler_0 rfl (lv_at hl 1 rfl) ?_
  obtain ⟨n2, S1, hc, hf, hx⟩ := oi_x hf
  refine kx_v (S1 := S1) (n1 := n2) F ht w (xrunS (As := [.int a1]) (rest := []) F w (k_X8_needSet l x S a1 hc hls H.size) cy_X8_needSet q342 q343 ⟨rfl, rfl⟩ ⟨Nat.le_of_ble_eq_true rfl, Nat.le_of_ble_eq_true rfl⟩ rfl rfl hl.1 (Nat.le_of_ble_eq_true rfl) ⟨Nat.le_of_ble_eq_true rfl, Nat.le_of_ble_eq_true rfl⟩ dX8_isRuler_1) hx (Nat.le_of_ble_eq_true rfl) (Nat.le_of_ble_eq_true rfl) (fun hn H locs w => ?_)
  replace hf := hf hn
  refine lv_aload_n F.1 F.2.1 dX8_isRuler_4 rfl (lv_at hl 0 rfl) ?_
  refine lv_iload_n F.1 F.2.1 dX8_isRuler_5 rfl (lv_at hl 1 rfl) ?_
  obtain ⟨r4, S3, hc, hf⟩ := oi_b hf
  obtain ⟨hz5, hf⟩ := oi_g hf
  refine k_r0 (S' := S3) (k := 58 + r4) w (runV (As := [.int a1]) (rest := []) (kb := 79) F w (k_X8_measured l x S1 a1 hc H.size) cy_X8_measured q201 q203 qp1 ⟨rfl, rfl⟩ ⟨Nat.le_of_ble_eq_true rfl, Nat.le_of_ble_eq_true rfl⟩ (by decide) rfl rfl rfl rfl hl.1 (Nat.le_of_ble_eq_true rfl) ⟨Nat.le_of_ble_eq_true rfl, Nat.le_of_ble_eq_true rfl⟩ dX8_isRuler_6) (fun H locs w => ?_)
  refine gN_SP_distinct (i := r4) F w (of_decide_eq_true hz5) (by simp [NF]) dX8_isRuler_9 ?_
  obtain ⟨hz6, hf⟩ := oi_g hf
  exact x_zret F w (isB_nar hz6) (oi_s hf) dX8_isRuler_12
def f_X8_isRuler (S : ST) (a1 : Int32) : Option (Nat × Int32 × ST) := f_X8_isRuler_0 S a1
set_option maxHeartbeats 4000000 in
set_option maxRecDepth 100000 in
theorem k_X8_isRuler (l : Launch) (x : CX) (S : ST) (a1 : Int32) {res : Nat × Int32 × ST} (hf : f_X8_isRuler S a1 = some res) (hls : l.stackTraces = false) (sz : Nat) : vx_Met l yX8_isRuler (Cond.code yX8_isRuler cX8_isRuler 2 (some .boolean) :: GW) ({ frames := 7, cells := 1, slots := 6, locals := 120 } : Room) (PC x S sz [.ref (x.2.2 (79)), .int a1]) (QXI x res.2.2 res.1 res.2.1 sz) (XX x res.2.2 res.1 sz) 1 6 (AA x sz) := by
  refine vx_ofW (cc := cX8_isRuler) (maxL := 2) (ret := (some .boolean)) (by decide) rfl ?_
  intro p e s m args below meth c s₁ B hml ht hv
  obtain ⟨rfl, rfl, hPW⟩ := hv
  have F : MF p m meth c cX8_isRuler 2 s _ RX8 (some .boolean) := MF.of B hml
  have w := WD.of hPW
  have hl := lv_entry ([.ref (x.2.2 (79)), .int a1]) (n := 2) (Nat.le_of_ble_eq_true rfl)
  rw [lg_entry_eq]
  generalize (lg_sl ([.ref (x.2.2 (79)), .int a1]) ++ List.replicate (2 - (lg_sl ([.ref (x.2.2 (79)), .int a1])).length) Slot.unset).toArray = ls at hl ⊢
  have hl : lv_has ls 2 [(0, .ref (x.2.2 (79))), (1, .int a1)] := hl
  unfold f_X8_isRuler at hf
  exact b_X8_isRuler_0 F ht hls  _ _ _ _ w a1 (lv_sub hl [0, 1] rfl) hf
theorem cy_X8_completeUpTo : CY yX8_completeUpTo RX8 cX8_completeUpTo 2 (some .int) 1 := ⟨q1, q564, rfl, by decide, by decide, by decide +kernel⟩
def f_X8_completeUpTo_0 (S : ST) (a1 : Int32) : Option (Nat × Int32 × ST) := oX (f_X8_needSet S a1) (0 : Int32) (fun (S1 : ST) => oB (f_X8_measured S1 a1) (fun (r4 : Nat) (S3 : ST) => oG (decide (r4 < 4)) (oB (f_X3_unbroken S3 r4) (fun (r7 : Int32) (S6 : ST) => some (0, r7, S6)))))
set_option maxHeartbeats 4000000 in
set_option maxRecDepth 100000 in
theorem b_X8_completeUpTo_0 {p : Program} {l : Launch} {e : Env} {s : State} {m : MethodId} {args : Array Value} {below : List Frame} {meth : Method} {c : Code} {x : CX} {res : Nat × Int32 × ST} (F : MF p m meth c cX8_completeUpTo 2 s args RX8 (some .int)) (ht : ∀ z ∈ c.exceptionTable.toList, False) (hls : l.stackTraces = false) : ∀ (H : Heap) (locs : List Loc) (ls : Array Slot) (S : ST), WD x s S H locs → ∀ (a1 : Int32), lv_has ls 2 [(0, .ref (x.2.2 (79))), (1, .int a1)] → f_X8_completeUpTo_0 S a1 = some res → W p l e ({ frames := 7, cells := 1, slots := 6, locals := 120 } : Room) s m args below meth c H locs 0 0 (vx_MQ below (QXI x res.2.2 res.1 res.2.1 s.heap.size) (XX x res.2.2 res.1 s.heap.size) args s 1 6 (AA x s.heap.size)) (F0 m 0 ls []) := by
  intro H locs ls S w a1 hl hf
  unfold f_X8_completeUpTo_0 at hf
  refine lv_iload_n F.1 F.2.1 dX8_completeUpTo_0 rfl (lv_at hl 1 rfl) ?_
  obtain ⟨n2, S1, hc, hf, hx⟩ := oi_x hf
  refine kx_v (S1 := S1) (n1 := n2) F ht w (xrunS (As := [.int a1]) (rest := []) F w (k_X8_needSet l x S a1 hc hls H.size) cy_X8_needSet q342 q343 ⟨rfl, rfl⟩ ⟨Nat.le_of_ble_eq_true rfl, Nat.le_of_ble_eq_true rfl⟩ rfl rfl hl.1 (Nat.le_of_ble_eq_true rfl) ⟨Nat.le_of_ble_eq_true rfl, Nat.le_of_ble_eq_true rfl⟩ dX8_completeUpTo_1) hx (Nat.le_of_ble_eq_true rfl) (Nat.le_of_ble_eq_true rfl) (fun hn H locs w => ?_)
  replace hf := hf hn
  refine lv_aload_n F.1 F.2.1 dX8_completeUpTo_4 rfl (lv_at hl 0 rfl) ?_
  refine lv_iload_n F.1 F.2.1 dX8_completeUpTo_5 rfl (lv_at hl 1 rfl) ?_
  obtain ⟨r4, S3, hc, hf⟩ := oi_b hf
  obtain ⟨hz5, hf⟩ := oi_g hf
  refine k_r0 (S' := S3) (k := 58 + r4) w (runV (As := [.int a1]) (rest := []) (kb := 79) F w (k_X8_measured l x S1 a1 hc H.size) cy_X8_measured q201 q203 qp1 ⟨rfl, rfl⟩ ⟨Nat.le_of_ble_eq_true rfl, Nat.le_of_ble_eq_true rfl⟩ (by decide) rfl rfl rfl rfl hl.1 (Nat.le_of_ble_eq_true rfl) ⟨Nat.le_of_ble_eq_true rfl, Nat.le_of_ble_eq_true rfl⟩ dX8_completeUpTo_6) (fun H locs w => ?_)
  obtain ⟨r7, S6, hc, hf⟩ := oi_b hf
  refine k_i0 (S' := S6) (r := r7) w (runV (As := []) (rest := []) (kb := 58 + r4) F w (k_X3_unbroken l x S3 r4 (of_decide_eq_true hz5) hc H.size) cy_X3_unbroken q242 q243 q244 ⟨rfl, rfl⟩ ⟨Nat.le_of_ble_eq_true rfl, Nat.le_of_ble_eq_true rfl⟩ (k_sp (of_decide_eq_true hz5)) (enc_sp x S3 (of_decide_eq_true hz5)) rfl rfl rfl hl.1 (Nat.le_of_ble_eq_true rfl) ⟨Nat.le_of_ble_eq_true rfl, Nat.le_of_ble_eq_true rfl⟩ dX8_completeUpTo_9) (fun H locs w => ?_)
  exact x_iret F w (oi_s hf) dX8_completeUpTo_12
def f_X8_completeUpTo (S : ST) (a1 : Int32) : Option (Nat × Int32 × ST) := f_X8_completeUpTo_0 S a1
set_option maxHeartbeats 4000000 in
set_option maxRecDepth 100000 in
theorem k_X8_completeUpTo (l : Launch) (x : CX) (S : ST) (a1 : Int32) {res : Nat × Int32 × ST} (hf : f_X8_completeUpTo S a1 = some res) (hls : l.stackTraces = false) (sz : Nat) : vx_Met l yX8_completeUpTo (Cond.code yX8_completeUpTo cX8_completeUpTo 2 (some .int) :: GW) ({ frames := 7, cells := 1, slots := 6, locals := 120 } : Room) (PC x S sz [.ref (x.2.2 (79)), .int a1]) (QXI x res.2.2 res.1 res.2.1 sz) (XX x res.2.2 res.1 sz) 1 6 (AA x sz) := by
  refine vx_ofW (cc := cX8_completeUpTo) (maxL := 2) (ret := (some .int)) (by decide) rfl ?_
  intro p e s m args below meth c s₁ B hml ht hv
  obtain ⟨rfl, rfl, hPW⟩ := hv
  have F : MF p m meth c cX8_completeUpTo 2 s _ RX8 (some .int) := MF.of B hml
  have w := WD.of hPW
  have hl := lv_entry ([.ref (x.2.2 (79)), .int a1]) (n := 2) (Nat.le_of_ble_eq_true rfl)
  rw [lg_entry_eq]
  generalize (lg_sl ([.ref (x.2.2 (79)), .int a1]) ++ List.replicate (2 - (lg_sl ([.ref (x.2.2 (79)), .int a1])).length) Slot.unset).toArray = ls at hl ⊢
  have hl : lv_has ls 2 [(0, .ref (x.2.2 (79))), (1, .int a1)] := hl
  unfold f_X8_completeUpTo at hf
  exact b_X8_completeUpTo_0 F ht hls  _ _ _ _ w a1 (lv_sub hl [0, 1] rfl) hf
theorem cy_X8_differences : CY yX8_differences RX8 cX8_differences 2 (some .int) 1 := ⟨q1, q571, rfl, by decide, by decide, by decide +kernel⟩
def f_X8_differences_0 (S : ST) (a1 : Int32) : Option (Nat × Int32 × ST) := oX (f_X8_needSet S a1) (0 : Int32) (fun (S1 : ST) => oB (f_X8_measured S1 a1) (fun (r4 : Nat) (S3 : ST) => oG (decide (r4 < 4)) (oB (f_X0_ones S3 (r4 + 1)) (fun (r7 : Int32) (S6 : ST) => some (0, r7, S6)))))
set_option maxHeartbeats 4000000 in
set_option maxRecDepth 100000 in
theorem b_X8_differences_0 {p : Program} {l : Launch} {e : Env} {s : State} {m : MethodId} {args : Array Value} {below : List Frame} {meth : Method} {c : Code} {x : CX} {res : Nat × Int32 × ST} (F : MF p m meth c cX8_differences 2 s args RX8 (some .int)) (ht : ∀ z ∈ c.exceptionTable.toList, False) (hls : l.stackTraces = false) : ∀ (H : Heap) (locs : List Loc) (ls : Array Slot) (S : ST), WD x s S H locs → ∀ (a1 : Int32), lv_has ls 2 [(0, .ref (x.2.2 (79))), (1, .int a1)] → f_X8_differences_0 S a1 = some res → W p l e ({ frames := 7, cells := 1, slots := 6, locals := 120 } : Room) s m args below meth c H locs 0 0 (vx_MQ below (QXI x res.2.2 res.1 res.2.1 s.heap.size) (XX x res.2.2 res.1 s.heap.size) args s 1 6 (AA x s.heap.size)) (F0 m 0 ls []) := by
  intro H locs ls S w a1 hl hf
  unfold f_X8_differences_0 at hf
  refine lv_iload_n F.1 F.2.1 dX8_differences_0 rfl (lv_at hl 1 rfl) ?_
  obtain ⟨n2, S1, hc, hf, hx⟩ := oi_x hf
  refine kx_v (S1 := S1) (n1 := n2) F ht w (xrunS (As := [.int a1]) (rest := []) F w (k_X8_needSet l x S a1 hc hls H.size) cy_X8_needSet q342 q343 ⟨rfl, rfl⟩ ⟨Nat.le_of_ble_eq_true rfl, Nat.le_of_ble_eq_true rfl⟩ rfl rfl hl.1 (Nat.le_of_ble_eq_true rfl) ⟨Nat.le_of_ble_eq_true rfl, Nat.le_of_ble_eq_true rfl⟩ dX8_differences_1) hx (Nat.le_of_ble_eq_true rfl) (Nat.le_of_ble_eq_true rfl) (fun hn H locs w => ?_)
  replace hf := hf hn
  refine lv_aload_n F.1 F.2.1 dX8_differences_4 rfl (lv_at hl 0 rfl) ?_
  refine lv_iload_n F.1 F.2.1 dX8_differences_5 rfl (lv_at hl 1 rfl) ?_
  obtain ⟨r4, S3, hc, hf⟩ := oi_b hf
  obtain ⟨hz5, hf⟩ := oi_g hf
  refine k_r0 (S' := S3) (k := 58 + r4) w (runV (As := [.int a1]) (rest := []) (kb := 79) F w (k_X8_measured l x S1 a1 hc H.size) cy_X8_measured q201 q203 qp1 ⟨rfl, rfl⟩ ⟨Nat.le_of_ble_eq_true rfl, Nat.le_of_ble_eq_true rfl⟩ (by decide) rfl rfl rfl rfl hl.1 (Nat.le_of_ble_eq_true rfl) ⟨Nat.le_of_ble_eq_true rfl, Nat.le_of_ble_eq_true rfl⟩ dX8_differences_6) (fun H locs w => ?_)
  refine gN_SP_row (i := r4) F w (of_decide_eq_true hz5) (by simp [NF]) dX8_differences_9 ?_
  obtain ⟨r7, S6, hc, hf⟩ := oi_b hf
  refine k_i0 (S' := S6) (r := r7) w (runV (As := []) (rest := []) (kb := 48 + 2 * (r4 + 1)) F w (k_X0_ones l x S3 (r4 + 1) (Nat.succ_lt_succ (of_decide_eq_true hz5)) hc H.size) cy_X0_ones q246 q247 q248 ⟨rfl, rfl⟩ ⟨Nat.le_of_ble_eq_true rfl, Nat.le_of_ble_eq_true rfl⟩ (k_br (Nat.succ_lt_succ (of_decide_eq_true hz5))) (enc_br x S3 (Nat.succ_lt_succ (of_decide_eq_true hz5))) rfl rfl rfl hl.1 (Nat.le_of_ble_eq_true rfl) ⟨Nat.le_of_ble_eq_true rfl, Nat.le_of_ble_eq_true rfl⟩ dX8_differences_12) (fun H locs w => ?_)
  exact x_iret F w (oi_s hf) dX8_differences_15
def f_X8_differences (S : ST) (a1 : Int32) : Option (Nat × Int32 × ST) := f_X8_differences_0 S a1
set_option maxHeartbeats 4000000 in
set_option maxRecDepth 100000 in
theorem k_X8_differences (l : Launch) (x : CX) (S : ST) (a1 : Int32) {res : Nat × Int32 × ST} (hf : f_X8_differences S a1 = some res) (hls : l.stackTraces = false) (sz : Nat) : vx_Met l yX8_differences (Cond.code yX8_differences cX8_differences 2 (some .int) :: GW) ({ frames := 7, cells := 1, slots := 6, locals := 120 } : Room) (PC x S sz [.ref (x.2.2 (79)), .int a1]) (QXI x res.2.2 res.1 res.2.1 sz) (XX x res.2.2 res.1 sz) 1 6 (AA x sz) := by
  refine vx_ofW (cc := cX8_differences) (maxL := 2) (ret := (some .int)) (by decide) rfl ?_
  intro p e s m args below meth c s₁ B hml ht hv
  obtain ⟨rfl, rfl, hPW⟩ := hv
  have F : MF p m meth c cX8_differences 2 s _ RX8 (some .int) := MF.of B hml
  have w := WD.of hPW
  have hl := lv_entry ([.ref (x.2.2 (79)), .int a1]) (n := 2) (Nat.le_of_ble_eq_true rfl)
  rw [lg_entry_eq]
  generalize (lg_sl ([.ref (x.2.2 (79)), .int a1]) ++ List.replicate (2 - (lg_sl ([.ref (x.2.2 (79)), .int a1])).length) Slot.unset).toArray = ls at hl ⊢
  have hl : lv_has ls 2 [(0, .ref (x.2.2 (79))), (1, .int a1)] := hl
  unfold f_X8_differences at hf
  exact b_X8_differences_0 F ht hls  _ _ _ _ w a1 (lv_sub hl [0, 1] rfl) hf
theorem cy_X8_isFamily : CY yX8_isFamily RX8 cX8_isFamily 2 (some .boolean) 1 := ⟨q1, q578, rfl, by decide, by decide, by decide +kernel⟩
def f_X8_isFamily_10 (S : ST)  : Option (Nat × Int32 × ST) := some (2, 0, S)
set_option maxHeartbeats 4000000 in
set_option maxRecDepth 100000 in
theorem b_X8_isFamily_10 {p : Program} {l : Launch} {e : Env} {s : State} {m : MethodId} {args : Array Value} {below : List Frame} {meth : Method} {c : Code} {x : CX} {res : Nat × Int32 × ST} (F : MF p m meth c cX8_isFamily 2 s args RX8 (some .boolean)) (ht : ∀ z ∈ c.exceptionTable.toList, False) (hls : l.stackTraces = false) : ∀ (H : Heap) (locs : List Loc) (ls : Array Slot) (S : ST), WD x s S H locs → lv_has ls 2 [] → f_X8_isFamily_10 S = some res → W p l e ({ frames := 6, cells := 1, slots := 6, locals := 112 } : Room) s m args below meth c H locs 0 0 (vx_MQ below (QXI x res.2.2 res.1 res.2.1 s.heap.size) (XX x res.2.2 res.1 s.heap.size) args s 1 6 (AA x s.heap.size)) (F0 m 10 ls []) := by
  intro H locs ls S w hl hf
  unfold f_X8_isFamily_10 at hf
  exact x_throw (E := eIA) (text := "sets is out of range") F ht hls w (oi_s hf) (by simp [XK]) xq_IA (by simp [XT]) hl.1 dX8_isFamily_10 dX8_isFamily_13 dX8_isFamily_14 dX8_isFamily_16 dX8_isFamily_19 (Nat.le_of_ble_eq_true rfl) (Nat.le_of_ble_eq_true rfl) (Nat.le_of_ble_eq_true rfl) (Nat.le_of_ble_eq_true rfl) (Nat.le_of_ble_eq_true rfl) (Nat.le_of_ble_eq_true rfl)
def f_X8_isFamily_0 (S : ST) (a1 : Int32) : Option (Nat × Int32 × ST) := (if a1 < 0 then f_X8_isFamily_10 S else (if a1 ≤ 15 then oV (f_X8_measureAll S) (fun (S3 : ST) => oB (f_X8_formFamily S3 a1) (fun (r5 : Int32) (S4 : ST) => oG (isB r5) (some (0, r5, S4)))) else f_X8_isFamily_10 S))
set_option maxHeartbeats 4000000 in
set_option maxRecDepth 100000 in
theorem b_X8_isFamily_0 {p : Program} {l : Launch} {e : Env} {s : State} {m : MethodId} {args : Array Value} {below : List Frame} {meth : Method} {c : Code} {x : CX} {res : Nat × Int32 × ST} (F : MF p m meth c cX8_isFamily 2 s args RX8 (some .boolean)) (ht : ∀ z ∈ c.exceptionTable.toList, False) (hls : l.stackTraces = false) : ∀ (H : Heap) (locs : List Loc) (ls : Array Slot) (S : ST), WD x s S H locs → ∀ (a1 : Int32), lv_has ls 2 [(0, .ref (x.2.2 (79))), (1, .int a1)] → f_X8_isFamily_0 S a1 = some res → W p l e ({ frames := 6, cells := 1, slots := 6, locals := 112 } : Room) s m args below meth c H locs 0 0 (vx_MQ below (QXI x res.2.2 res.1 res.2.1 s.heap.size) (XX x res.2.2 res.1 s.heap.size) args s 1 6 (AA x s.heap.size)) (F0 m 0 ls []) := by
  intro H locs ls S w a1 hl hf
  unfold f_X8_isFamily_0 at hf
  refine lv_iload_n F.1 F.2.1 dX8_isFamily_0 rfl (lv_at hl 1 rfl) ?_
  refine lv_if_lt (tgt := 10) F.1 F.2.1 dX8_isFamily_1 (by decide) (fun c1 => ?_) (fun c1 => ?_)
  · replace hf := oi_t hf c1
    exact b_X8_isFamily_10 F ht hls  _ _ _ _ w  (lv_sub hl [] rfl) hf
  · replace hf := oi_f hf c1
    refine lv_iload_n F.1 F.2.1 dX8_isFamily_4 rfl (lv_at hl 1 rfl) ?_
    refine lv_bipush (v := 15) F.1 F.2.1 dX8_isFamily_5 (by decide) ?_
    refine lv_icmp_le (tgt := 20) F.1 F.2.1 dX8_isFamily_7 (by decide) (fun c2 => ?_) (fun c2 => ?_)
    · replace hf := oi_t hf c2
      refine lv_aload_n F.1 F.2.1 dX8_isFamily_20 rfl (lv_at hl 0 rfl) ?_
      obtain ⟨S3, hc, hf⟩ := oi_v hf
      refine k_v0 (S' := S3) w (runV (As := []) (rest := []) (kb := 79) F w (k_X8_measureAll l x S hc H.size) cy_X8_measureAll q197 q199 qp0 ⟨rfl, rfl⟩ ⟨Nat.le_of_ble_eq_true rfl, Nat.le_of_ble_eq_true rfl⟩ (by decide) rfl rfl rfl rfl hl.1 (Nat.le_of_ble_eq_true rfl) ⟨Nat.le_of_ble_eq_true rfl, Nat.le_of_ble_eq_true rfl⟩ dX8_isFamily_21) (fun H locs w => ?_)
      refine lv_aload_n F.1 F.2.1 dX8_isFamily_24 rfl (lv_at hl 0 rfl) ?_
      refine lv_iload_n F.1 F.2.1 dX8_isFamily_25 rfl (lv_at hl 1 rfl) ?_
      obtain ⟨r5, S4, hc, hf⟩ := oi_b hf
      refine k_i0 (S' := S4) (r := r5) w (runV (As := [.int a1]) (rest := []) (kb := 79) F w (k_X8_formFamily l x S3 a1 hc H.size) cy_X8_formFamily q328 q330 qp8 ⟨rfl, rfl⟩ ⟨Nat.le_of_ble_eq_true rfl, Nat.le_of_ble_eq_true rfl⟩ (by decide) rfl rfl rfl rfl hl.1 (Nat.le_of_ble_eq_true rfl) ⟨Nat.le_of_ble_eq_true rfl, Nat.le_of_ble_eq_true rfl⟩ dX8_isFamily_26) (fun H locs w => ?_)
      obtain ⟨hz6, hf⟩ := oi_g hf
      refine W.widen (k := 1) (n := 6) (by decide) (by decide) ?_
      exact x_zret F w (isB_nar hz6) (oi_s hf) dX8_isFamily_29
    · replace hf := oi_f hf c2
      exact b_X8_isFamily_10 F ht hls  _ _ _ _ w  (lv_sub hl [] rfl) hf
def f_X8_isFamily (S : ST) (a1 : Int32) : Option (Nat × Int32 × ST) := f_X8_isFamily_0 S a1
set_option maxHeartbeats 4000000 in
set_option maxRecDepth 100000 in
theorem k_X8_isFamily (l : Launch) (x : CX) (S : ST) (a1 : Int32) {res : Nat × Int32 × ST} (hf : f_X8_isFamily S a1 = some res) (hls : l.stackTraces = false) (sz : Nat) : vx_Met l yX8_isFamily (Cond.code yX8_isFamily cX8_isFamily 2 (some .boolean) :: GW) ({ frames := 6, cells := 1, slots := 6, locals := 112 } : Room) (PC x S sz [.ref (x.2.2 (79)), .int a1]) (QXI x res.2.2 res.1 res.2.1 sz) (XX x res.2.2 res.1 sz) 1 6 (AA x sz) := by
  refine vx_ofW (cc := cX8_isFamily) (maxL := 2) (ret := (some .boolean)) (by decide) rfl ?_
  intro p e s m args below meth c s₁ B hml ht hv
  obtain ⟨rfl, rfl, hPW⟩ := hv
  have F : MF p m meth c cX8_isFamily 2 s _ RX8 (some .boolean) := MF.of B hml
  have w := WD.of hPW
  have hl := lv_entry ([.ref (x.2.2 (79)), .int a1]) (n := 2) (Nat.le_of_ble_eq_true rfl)
  rw [lg_entry_eq]
  generalize (lg_sl ([.ref (x.2.2 (79)), .int a1]) ++ List.replicate (2 - (lg_sl ([.ref (x.2.2 (79)), .int a1])).length) Slot.unset).toArray = ls at hl ⊢
  have hl : lv_has ls 2 [(0, .ref (x.2.2 (79))), (1, .int a1)] := hl
  unfold f_X8_isFamily at hf
  exact b_X8_isFamily_0 F ht hls  _ _ _ _ w a1 (lv_sub hl [0, 1] rfl) hf
theorem cy_X8_setModulus : CY yX8_setModulus RX8 cX8_setModulus 3 (some .int) 1 := ⟨q1, q586, rfl, by decide, by decide, by decide +kernel⟩
def f_X8_setModulus_12 (S : ST)  : Option (Nat × Int32 × ST) := some (2, 0, S)
set_option maxHeartbeats 4000000 in
set_option maxRecDepth 100000 in
theorem b_X8_setModulus_12 {p : Program} {l : Launch} {e : Env} {s : State} {m : MethodId} {args : Array Value} {below : List Frame} {meth : Method} {c : Code} {x : CX} {res : Nat × Int32 × ST} (F : MF p m meth c cX8_setModulus 3 s args RX8 (some .int)) (ht : ∀ z ∈ c.exceptionTable.toList, False) (hls : l.stackTraces = false) : ∀ (H : Heap) (locs : List Loc) (ls : Array Slot) (S : ST), WD x s S H locs → lv_has ls 3 [] → f_X8_setModulus_12 S = some res → W p l e ({ frames := 6, cells := 1, slots := 6, locals := 128 } : Room) s m args below meth c H locs 0 0 (vx_MQ below (QXI x res.2.2 res.1 res.2.1 s.heap.size) (XX x res.2.2 res.1 s.heap.size) args s 1 6 (AA x s.heap.size)) (F0 m 12 ls []) := by
  intro H locs ls S w hl hf
  unfold f_X8_setModulus_12 at hf
  exact x_throw (E := eIA) (text := "m is out of range") F ht hls w (oi_s hf) (by simp [XK]) xq_IA (by simp [XT]) hl.1 dX8_setModulus_12 dX8_setModulus_15 dX8_setModulus_16 dX8_setModulus_18 dX8_setModulus_21 (Nat.le_of_ble_eq_true rfl) (Nat.le_of_ble_eq_true rfl) (Nat.le_of_ble_eq_true rfl) (Nat.le_of_ble_eq_true rfl) (Nat.le_of_ble_eq_true rfl) (Nat.le_of_ble_eq_true rfl)
def f_X8_setModulus_0 (S : ST) (a1 : Int32) : Option (Nat × Int32 × ST) := (if a1 < 2 then f_X8_setModulus_12 S else (if a1 ≤ 1000 then oL (fi S (30 + 0)) (fun (v3 : Int32) => oV (f_X6_save S 0) (fun (S4 : ST) => oL (sI S4 (30 + 0) a1) (fun (S5 : ST) => some (0, v3, S5)))) else f_X8_setModulus_12 S))
set_option maxHeartbeats 4000000 in
set_option maxRecDepth 100000 in
theorem b_X8_setModulus_0 {p : Program} {l : Launch} {e : Env} {s : State} {m : MethodId} {args : Array Value} {below : List Frame} {meth : Method} {c : Code} {x : CX} {res : Nat × Int32 × ST} (F : MF p m meth c cX8_setModulus 3 s args RX8 (some .int)) (ht : ∀ z ∈ c.exceptionTable.toList, False) (hls : l.stackTraces = false) : ∀ (H : Heap) (locs : List Loc) (ls : Array Slot) (S : ST), WD x s S H locs → ∀ (a1 : Int32), lv_has ls 3 [(0, .ref (x.2.2 (79))), (1, .int a1)] → f_X8_setModulus_0 S a1 = some res → W p l e ({ frames := 6, cells := 1, slots := 6, locals := 128 } : Room) s m args below meth c H locs 0 0 (vx_MQ below (QXI x res.2.2 res.1 res.2.1 s.heap.size) (XX x res.2.2 res.1 s.heap.size) args s 1 6 (AA x s.heap.size)) (F0 m 0 ls []) := by
  intro H locs ls S w a1 hl hf
  unfold f_X8_setModulus_0 at hf
  refine lv_iload_n F.1 F.2.1 dX8_setModulus_0 rfl (lv_at hl 1 rfl) ?_
  refine lv_iconst (v := 2) F.1 F.2.1 dX8_setModulus_1 (by decide) ?_
  refine lv_icmp_lt (tgt := 12) F.1 F.2.1 dX8_setModulus_2 (by decide) (fun c1 => ?_) (fun c1 => ?_)
  · replace hf := oi_t hf c1
    exact b_X8_setModulus_12 F ht hls  _ _ _ _ w  (lv_sub hl [] rfl) hf
  · replace hf := oi_f hf c1
    refine lv_iload_n F.1 F.2.1 dX8_setModulus_5 rfl (lv_at hl 1 rfl) ?_
    refine lv_sipush (v := 1000) F.1 F.2.1 dX8_setModulus_6 (by decide) ?_
    refine lv_icmp_le (tgt := 22) F.1 F.2.1 dX8_setModulus_9 (by decide) (fun c2 => ?_) (fun c2 => ?_)
    · replace hf := oi_t hf c2
      refine lv_aload_n F.1 F.2.1 dX8_setModulus_22 rfl (lv_at hl 0 rfl) ?_
      refine g_RW_now F w q162 dX8_setModulus_23 ?_
      refine gN_ST_modulus (i := 0) F w (by decide) (by simp [NF]) dX8_setModulus_26 ?_
      refine lv_topi (fun v3 e_v3 => ?_)
      replace hf := oi_l hf e_v3
      refine lv_istore_n (lv' := [(2, .int v3), (0, .ref (x.2.2 (79))), (1, .int a1)]) F.1 F.2.1 dX8_setModulus_29 rfl hl (by decide) rfl (fun ls hl => ?_)
      refine lv_aload_n F.1 F.2.1 dX8_setModulus_30 rfl (lv_at hl 1 rfl) ?_
      refine g_RW_saved F w q163 dX8_setModulus_31 ?_
      refine lv_aload_n F.1 F.2.1 dX8_setModulus_34 rfl (lv_at hl 1 rfl) ?_
      refine g_RW_now F w q162 dX8_setModulus_35 ?_
      obtain ⟨S4, hc, hf⟩ := oi_v hf
      refine k_v0 (S' := S4) w (runV (As := [.ref (x.2.2 (63 + 2 * 0))]) (rest := []) (kb := 73) F w (k_X6_save l x S 0 (by decide) hc H.size) cy_X6_save q466 q467 q468 ⟨rfl, rfl⟩ ⟨Nat.le_of_ble_eq_true rfl, Nat.le_of_ble_eq_true rfl⟩ (by decide) rfl rfl rfl rfl hl.1 (Nat.le_of_ble_eq_true rfl) ⟨Nat.le_of_ble_eq_true rfl, Nat.le_of_ble_eq_true rfl⟩ dX8_setModulus_38) (fun H locs w => ?_)
      refine lv_aload_n F.1 F.2.1 dX8_setModulus_41 rfl (lv_at hl 1 rfl) ?_
      refine g_RW_now F w q162 dX8_setModulus_42 ?_
      refine lv_iload_n F.1 F.2.1 dX8_setModulus_45 rfl (lv_at hl 2 rfl) ?_
      refine pN_ST_modulus (i := 0) F w (by decide) (by simp [NF]) dX8_setModulus_46 (fun H locs w => ?_)
      obtain ⟨S5, e_S5⟩ : ∃ y : ST, y = sI S4 (30 + 0) a1 := ⟨_, rfl⟩
      replace w : WD x s S5 H locs := by rw [e_S5]; exact w
      replace hf := oi_l hf e_S5
      refine lv_iload_n F.1 F.2.1 dX8_setModulus_49 rfl (lv_at hl 0 rfl) ?_
      refine W.widen (k := 1) (n := 6) (by decide) (by decide) ?_
      exact x_iret F w (oi_s hf) dX8_setModulus_50
    · replace hf := oi_f hf c2
      exact b_X8_setModulus_12 F ht hls  _ _ _ _ w  (lv_sub hl [] rfl) hf
def f_X8_setModulus (S : ST) (a1 : Int32) : Option (Nat × Int32 × ST) := f_X8_setModulus_0 S a1
set_option maxHeartbeats 4000000 in
set_option maxRecDepth 100000 in
theorem k_X8_setModulus (l : Launch) (x : CX) (S : ST) (a1 : Int32) {res : Nat × Int32 × ST} (hf : f_X8_setModulus S a1 = some res) (hls : l.stackTraces = false) (sz : Nat) : vx_Met l yX8_setModulus (Cond.code yX8_setModulus cX8_setModulus 3 (some .int) :: GW) ({ frames := 6, cells := 1, slots := 6, locals := 128 } : Room) (PC x S sz [.ref (x.2.2 (79)), .int a1]) (QXI x res.2.2 res.1 res.2.1 sz) (XX x res.2.2 res.1 sz) 1 6 (AA x sz) := by
  refine vx_ofW (cc := cX8_setModulus) (maxL := 3) (ret := (some .int)) (by decide) rfl ?_
  intro p e s m args below meth c s₁ B hml ht hv
  obtain ⟨rfl, rfl, hPW⟩ := hv
  have F : MF p m meth c cX8_setModulus 3 s _ RX8 (some .int) := MF.of B hml
  have w := WD.of hPW
  have hl := lv_entry ([.ref (x.2.2 (79)), .int a1]) (n := 3) (Nat.le_of_ble_eq_true rfl)
  rw [lg_entry_eq]
  generalize (lg_sl ([.ref (x.2.2 (79)), .int a1]) ++ List.replicate (3 - (lg_sl ([.ref (x.2.2 (79)), .int a1])).length) Slot.unset).toArray = ls at hl ⊢
  have hl : lv_has ls 3 [(0, .ref (x.2.2 (79))), (1, .int a1)] := hl
  unfold f_X8_setModulus at hf
  exact b_X8_setModulus_0 F ht hls  _ _ _ _ w a1 (lv_sub hl [0, 1] rfl) hf
theorem cy_X8_needBelowModulus : CY yX8_needBelowModulus RX8 cX8_needBelowModulus 2 none 1 := ⟨q1, q598, rfl, by decide, by decide, by decide +kernel⟩
def f_X8_needBelowModulus_0 (S : ST) (a1 : Int32) : Option (Nat × Unit × ST) := oG (inB a1 4) (oB (f_X2_greatest S ((Int32.toNatClampNeg a1))) (fun (r3 : Int32) (S2 : ST) => (if r3 < (fi S2 (30 + 0)) then some (0, (), S2) else some (3, (), S2))))
set_option maxHeartbeats 4000000 in
set_option maxRecDepth 100000 in
theorem b_X8_needBelowModulus_0 {p : Program} {l : Launch} {e : Env} {s : State} {m : MethodId} {args : Array Value} {below : List Frame} {meth : Method} {c : Code} {x : CX} {res : Nat × Unit × ST} (F : MF p m meth c cX8_needBelowModulus 2 s args RX8 none) (ht : ∀ z ∈ c.exceptionTable.toList, False) (hls : l.stackTraces = false) : ∀ (H : Heap) (locs : List Loc) (ls : Array Slot) (S : ST), WD x s S H locs → ∀ (a1 : Int32), lv_has ls 2 [(0, .ref (x.2.2 (79))), (1, .int a1)] → f_X8_needBelowModulus_0 S a1 = some res → W p l e ({ frames := 6, cells := 1, slots := 6, locals := 100 } : Room) s m args below meth c H locs 0 0 (vx_MQ below (QXV x res.2.2 res.1 s.heap.size) (XX x res.2.2 res.1 s.heap.size) args s 1 6 (AA x s.heap.size)) (F0 m 0 ls []) := by
  intro H locs ls S w a1 hl hf
  unfold f_X8_needBelowModulus_0 at hf
  refine lv_aload_n F.1 F.2.1 dX8_needBelowModulus_0 rfl (lv_at hl 0 rfl) ?_
  refine g_RW_now F w q162 dX8_needBelowModulus_1 ?_
  refine gN_ST_sets (i := 0) F w (by decide) (by simp [NF]) dX8_needBelowModulus_4 ?_
  refine lv_iload_n F.1 F.2.1 dX8_needBelowModulus_7 rfl (lv_at hl 1 rfl) ?_
  obtain ⟨hb1, hf⟩ := oi_g hf
  refine r_now F w hb1 dX8_needBelowModulus_8 ?_
  obtain ⟨r3, S2, hc, hf⟩ := oi_b hf
  refine k_i0 (S' := S2) (r := r3) w (runV (As := []) (rest := []) (kb := 2 * ((Int32.toNatClampNeg a1))) F w (k_X2_greatest l x S ((Int32.toNatClampNeg a1)) (Nat.lt_of_lt_of_le (inB_lt hb1) (by decide)) hc H.size) cy_X2_greatest q256 q257 q258 ⟨rfl, rfl⟩ ⟨Nat.le_of_ble_eq_true rfl, Nat.le_of_ble_eq_true rfl⟩ (k_ms (Nat.lt_of_lt_of_le (inB_lt hb1) (by decide))) (enc_ms x S (Nat.lt_of_lt_of_le (inB_lt hb1) (by decide))) rfl rfl rfl hl.1 (Nat.le_of_ble_eq_true rfl) ⟨Nat.le_of_ble_eq_true rfl, Nat.le_of_ble_eq_true rfl⟩ dX8_needBelowModulus_9) (fun H locs w => ?_)
  refine lv_aload_n F.1 F.2.1 dX8_needBelowModulus_12 rfl (lv_at hl 0 rfl) ?_
  refine g_RW_now F w q162 dX8_needBelowModulus_13 ?_
  refine gN_ST_modulus (i := 0) F w (by decide) (by simp [NF]) dX8_needBelowModulus_16 ?_
  refine lv_icmp_lt (tgt := 33) F.1 F.2.1 dX8_needBelowModulus_19 (by decide) (fun c4 => ?_) (fun c4 => ?_)
  · replace hf := oi_t hf c4
    refine W.widen (k := 1) (n := 6) (by decide) (by decide) ?_
    exact x_vret F w (oi_s hf) dX8_needBelowModulus_33
  · replace hf := oi_f hf c4
    exact x_throwW (E := eIS) (text := "the set has a mark that is not less than the modulus") F ht hls w (oi_s hf) (by simp [XK]) xq_IS (by simp [XT]) hl.1 dX8_needBelowModulus_22 dX8_needBelowModulus_25 dX8_needBelowModulus_26 dX8_needBelowModulus_29 dX8_needBelowModulus_32 (Nat.le_of_ble_eq_true rfl) (Nat.le_of_ble_eq_true rfl) (Nat.le_of_ble_eq_true rfl) (Nat.le_of_ble_eq_true rfl) (Nat.le_of_ble_eq_true rfl) (Nat.le_of_ble_eq_true rfl)
def f_X8_needBelowModulus (S : ST) (a1 : Int32) : Option (Nat × Unit × ST) := f_X8_needBelowModulus_0 S a1
set_option maxHeartbeats 4000000 in
set_option maxRecDepth 100000 in
theorem k_X8_needBelowModulus (l : Launch) (x : CX) (S : ST) (a1 : Int32) {res : Nat × Unit × ST} (hf : f_X8_needBelowModulus S a1 = some res) (hls : l.stackTraces = false) (sz : Nat) : vx_Met l yX8_needBelowModulus (Cond.code yX8_needBelowModulus cX8_needBelowModulus 2 none :: GW) ({ frames := 6, cells := 1, slots := 6, locals := 100 } : Room) (PC x S sz [.ref (x.2.2 (79)), .int a1]) (QXV x res.2.2 res.1 sz) (XX x res.2.2 res.1 sz) 1 6 (AA x sz) := by
  refine vx_ofW (cc := cX8_needBelowModulus) (maxL := 2) (ret := none) (by decide) rfl ?_
  intro p e s m args below meth c s₁ B hml ht hv
  obtain ⟨rfl, rfl, hPW⟩ := hv
  have F : MF p m meth c cX8_needBelowModulus 2 s _ RX8 none := MF.of B hml
  have w := WD.of hPW
  have hl := lv_entry ([.ref (x.2.2 (79)), .int a1]) (n := 2) (Nat.le_of_ble_eq_true rfl)
  rw [lg_entry_eq]
  generalize (lg_sl ([.ref (x.2.2 (79)), .int a1]) ++ List.replicate (2 - (lg_sl ([.ref (x.2.2 (79)), .int a1])).length) Slot.unset).toArray = ls at hl ⊢
  have hl : lv_has ls 2 [(0, .ref (x.2.2 (79))), (1, .int a1)] := hl
  unfold f_X8_needBelowModulus at hf
  exact b_X8_needBelowModulus_0 F ht hls  _ _ _ _ w a1 (lv_sub hl [0, 1] rfl) hf
theorem cy_X8_cyclicMultiplicity : CY yX8_cyclicMultiplicity RX8 cX8_cyclicMultiplicity 4 (some .int) 2 := ⟨q1, q594, rfl, by decide, by decide, by decide +kernel⟩
def f_X8_cyclicMultiplicity_20 (S : ST)  : Option (Nat × Int32 × ST) := some (2, 0, S)
set_option maxHeartbeats 4000000 in
set_option maxRecDepth 100000 in
theorem b_X8_cyclicMultiplicity_20 {p : Program} {l : Launch} {e : Env} {s : State} {m : MethodId} {args : Array Value} {below : List Frame} {meth : Method} {c : Code} {x : CX} {res : Nat × Int32 × ST} (F : MF p m meth c cX8_cyclicMultiplicity 4 s args RX8 (some .int)) (ht : ∀ z ∈ c.exceptionTable.toList, False) (hls : l.stackTraces = false) : ∀ (H : Heap) (locs : List Loc) (ls : Array Slot) (S : ST), WD x s S H locs → lv_has ls 4 [] → f_X8_cyclicMultiplicity_20 S = some res → W p l e ({ frames := 7, cells := 3, slots := 18, locals := 121 } : Room) s m args below meth c H locs 1 6 (vx_MQ below (QXI x res.2.2 res.1 res.2.1 s.heap.size) (XX x res.2.2 res.1 s.heap.size) args s 3 18 (AA x s.heap.size)) (F0 m 20 ls []) := by
  intro H locs ls S w hl hf
  unfold f_X8_cyclicMultiplicity_20 at hf
  exact x_throw (E := eIA) (text := "d is out of range") F ht hls w (oi_s hf) (by simp [XK]) xq_IA (by simp [XT]) hl.1 dX8_cyclicMultiplicity_20 dX8_cyclicMultiplicity_23 dX8_cyclicMultiplicity_24 dX8_cyclicMultiplicity_26 dX8_cyclicMultiplicity_29 (Nat.le_of_ble_eq_true rfl) (Nat.le_of_ble_eq_true rfl) (Nat.le_of_ble_eq_true rfl) (Nat.le_of_ble_eq_true rfl) (Nat.le_of_ble_eq_true rfl) (Nat.le_of_ble_eq_true rfl)
def f_X8_cyclicMultiplicity_0 (S : ST) (a1 : Int32) (a2 : Int32) : Option (Nat × Int32 × ST) := oX (f_X8_needSet S a1) (0 : Int32) (fun (S1 : ST) => (if a2 < 1 then f_X8_cyclicMultiplicity_20 S1 else (if a2 < (fi S1 (30 + 0)) then oX (f_X8_needBelowModulus S1 a1) (0 : Int32) (fun (S5 : ST) => oG (inB a1 4) (oB (f_X2_pairsApart S5 ((Int32.toNatClampNeg a1)) a2) (fun (r9 : Int32) (S8 : ST) => oB (f_X2_pairsApart S8 ((Int32.toNatClampNeg a1)) ((fi S8 (30 + 0)) - a2)) (fun (r11 : Int32) (S10 : ST) => some (0, (r9 + r11), S10))))) else f_X8_cyclicMultiplicity_20 S1)))
set_option maxHeartbeats 4000000 in
set_option maxRecDepth 100000 in
theorem b_X8_cyclicMultiplicity_0 {p : Program} {l : Launch} {e : Env} {s : State} {m : MethodId} {args : Array Value} {below : List Frame} {meth : Method} {c : Code} {x : CX} {res : Nat × Int32 × ST} (F : MF p m meth c cX8_cyclicMultiplicity 4 s args RX8 (some .int)) (ht : ∀ z ∈ c.exceptionTable.toList, False) (hls : l.stackTraces = false) : ∀ (H : Heap) (locs : List Loc) (ls : Array Slot) (S : ST), WD x s S H locs → ∀ (a1 : Int32) (a2 : Int32), lv_has ls 4 [(0, .ref (x.2.2 (79))), (1, .int a1), (2, .int a2)] → f_X8_cyclicMultiplicity_0 S a1 a2 = some res → W p l e ({ frames := 7, cells := 3, slots := 18, locals := 121 } : Room) s m args below meth c H locs 0 0 (vx_MQ below (QXI x res.2.2 res.1 res.2.1 s.heap.size) (XX x res.2.2 res.1 s.heap.size) args s 3 18 (AA x s.heap.size)) (F0 m 0 ls []) := by
  intro H locs ls S w a1 a2 hl hf
  unfold f_X8_cyclicMultiplicity_0 at hf
  refine lv_iload_n F.1 F.2.1 dX8_cyclicMultiplicity_0 rfl (lv_at hl 1 rfl) ?_
  obtain ⟨n2, S1, hc, hf, hx⟩ := oi_x hf
  refine kx_v (S1 := S1) (n1 := n2) F ht w (xrunS (As := [.int a1]) (rest := []) F w (k_X8_needSet l x S a1 hc hls H.size) cy_X8_needSet q342 q343 ⟨rfl, rfl⟩ ⟨Nat.le_of_ble_eq_true rfl, Nat.le_of_ble_eq_true rfl⟩ rfl rfl hl.1 (Nat.le_of_ble_eq_true rfl) ⟨Nat.le_of_ble_eq_true rfl, Nat.le_of_ble_eq_true rfl⟩ dX8_cyclicMultiplicity_1) hx (Nat.le_of_ble_eq_true rfl) (Nat.le_of_ble_eq_true rfl) (fun hn H locs w => ?_)
  replace hf := hf hn
  refine lv_iload_n F.1 F.2.1 dX8_cyclicMultiplicity_4 rfl (lv_at hl 2 rfl) ?_
  refine lv_iconst (v := 1) F.1 F.2.1 dX8_cyclicMultiplicity_5 (by decide) ?_
  refine lv_icmp_lt (tgt := 20) F.1 F.2.1 dX8_cyclicMultiplicity_6 (by decide) (fun c3 => ?_) (fun c3 => ?_)
  · replace hf := oi_t hf c3
    exact b_X8_cyclicMultiplicity_20 F ht hls  _ _ _ _ w  (lv_sub hl [] rfl) hf
  · replace hf := oi_f hf c3
    refine lv_iload_n F.1 F.2.1 dX8_cyclicMultiplicity_9 rfl (lv_at hl 2 rfl) ?_
    refine lv_aload_n F.1 F.2.1 dX8_cyclicMultiplicity_10 rfl (lv_at hl 0 rfl) ?_
    refine g_RW_now F w q162 dX8_cyclicMultiplicity_11 ?_
    refine gN_ST_modulus (i := 0) F w (by decide) (by simp [NF]) dX8_cyclicMultiplicity_14 ?_
    refine lv_icmp_lt (tgt := 30) F.1 F.2.1 dX8_cyclicMultiplicity_17 (by decide) (fun c4 => ?_) (fun c4 => ?_)
    · replace hf := oi_t hf c4
      refine lv_aload_n F.1 F.2.1 dX8_cyclicMultiplicity_30 rfl (lv_at hl 0 rfl) ?_
      refine lv_iload_n F.1 F.2.1 dX8_cyclicMultiplicity_31 rfl (lv_at hl 1 rfl) ?_
      obtain ⟨n6, S5, hc, hf, hx⟩ := oi_x hf
      refine kx_v (S1 := S5) (n1 := n6) F ht w (xrunV (As := [.int a1]) (rest := []) (kb := 79) F w (k_X8_needBelowModulus l x S1 a1 hc hls H.size) cy_X8_needBelowModulus q595 q597 qp11 ⟨rfl, rfl⟩ ⟨Nat.le_of_ble_eq_true rfl, Nat.le_of_ble_eq_true rfl⟩ (by decide) rfl rfl rfl rfl hl.1 (Nat.le_of_ble_eq_true rfl) ⟨Nat.le_of_ble_eq_true rfl, Nat.le_of_ble_eq_true rfl⟩ dX8_cyclicMultiplicity_32) hx (Nat.le_of_ble_eq_true rfl) (Nat.le_of_ble_eq_true rfl) (fun hn H locs w => ?_)
      replace hf := hf hn
      refine lv_aload_n F.1 F.2.1 dX8_cyclicMultiplicity_35 rfl (lv_at hl 0 rfl) ?_
      refine g_RW_now F w q162 dX8_cyclicMultiplicity_36 ?_
      refine gN_ST_sets (i := 0) F w (by decide) (by simp [NF]) dX8_cyclicMultiplicity_39 ?_
      refine lv_iload_n F.1 F.2.1 dX8_cyclicMultiplicity_42 rfl (lv_at hl 1 rfl) ?_
      obtain ⟨hb7, hf⟩ := oi_g hf
      refine r_now F w hb7 dX8_cyclicMultiplicity_43 ?_
      refine lv_astore_n (lv' := [(3, .ref (x.2.2 (2 * ((Int32.toNatClampNeg a1))))), (0, .ref (x.2.2 (79))), (1, .int a1), (2, .int a2)]) F.1 F.2.1 dX8_cyclicMultiplicity_44 rfl hl (by decide) rfl (fun ls hl => ?_)
      refine lv_aload_n F.1 F.2.1 dX8_cyclicMultiplicity_45 rfl (lv_at hl 0 rfl) ?_
      refine lv_iload_n F.1 F.2.1 dX8_cyclicMultiplicity_46 rfl (lv_at hl 3 rfl) ?_
      obtain ⟨r9, S8, hc, hf⟩ := oi_b hf
      refine k_i0 (S' := S8) (r := r9) w (runV (As := [.int a2]) (rest := []) (kb := 2 * ((Int32.toNatClampNeg a1))) F w (k_X2_pairsApart l x S5 ((Int32.toNatClampNeg a1)) a2 (Nat.lt_of_lt_of_le (inB_lt hb7) (by decide)) hc H.size) cy_X2_pairsApart q547 q548 q549 ⟨rfl, rfl⟩ ⟨Nat.le_of_ble_eq_true rfl, Nat.le_of_ble_eq_true rfl⟩ (k_ms (Nat.lt_of_lt_of_le (inB_lt hb7) (by decide))) (enc_ms x S5 (Nat.lt_of_lt_of_le (inB_lt hb7) (by decide))) rfl rfl rfl hl.1 (Nat.le_of_ble_eq_true rfl) ⟨Nat.le_of_ble_eq_true rfl, Nat.le_of_ble_eq_true rfl⟩ dX8_cyclicMultiplicity_47) (fun H locs w => ?_)
      refine lv_aload_n F.1 F.2.1 dX8_cyclicMultiplicity_50 rfl (lv_at hl 0 rfl) ?_
      refine lv_aload_n F.1 F.2.1 dX8_cyclicMultiplicity_51 rfl (lv_at hl 1 rfl) ?_
      refine g_RW_now F w q162 dX8_cyclicMultiplicity_52 ?_
      refine gN_ST_modulus (i := 0) F w (by decide) (by simp [NF]) dX8_cyclicMultiplicity_55 ?_
      refine lv_iload_n F.1 F.2.1 dX8_cyclicMultiplicity_58 rfl (lv_at hl 3 rfl) ?_
      refine lv_isub F.1 F.2.1 dX8_cyclicMultiplicity_59 ?_
      obtain ⟨r11, S10, hc, hf⟩ := oi_b hf
      refine k_i0 (S' := S10) (r := r11) w (runV (As := [.int ((fi S8 (30 + 0)) - a2)]) (rest := [.int r9]) (kb := 2 * ((Int32.toNatClampNeg a1))) F w (k_X2_pairsApart l x S8 ((Int32.toNatClampNeg a1)) ((fi S8 (30 + 0)) - a2) (Nat.lt_of_lt_of_le (inB_lt hb7) (by decide)) hc H.size) cy_X2_pairsApart q547 q548 q549 ⟨rfl, rfl⟩ ⟨Nat.le_of_ble_eq_true rfl, Nat.le_of_ble_eq_true rfl⟩ (k_ms (Nat.lt_of_lt_of_le (inB_lt hb7) (by decide))) (enc_ms x S8 (Nat.lt_of_lt_of_le (inB_lt hb7) (by decide))) rfl rfl rfl hl.1 (Nat.le_of_ble_eq_true rfl) ⟨Nat.le_of_ble_eq_true rfl, Nat.le_of_ble_eq_true rfl⟩ dX8_cyclicMultiplicity_60) (fun H locs w => ?_)
      refine lv_iadd F.1 F.2.1 dX8_cyclicMultiplicity_63 ?_
      refine W.widen (k := 3) (n := 18) (by decide) (by decide) ?_
      exact x_iret F w (oi_s hf) dX8_cyclicMultiplicity_64
    · replace hf := oi_f hf c4
      exact b_X8_cyclicMultiplicity_20 F ht hls  _ _ _ _ w  (lv_sub hl [] rfl) hf
def f_X8_cyclicMultiplicity (S : ST) (a1 : Int32) (a2 : Int32) : Option (Nat × Int32 × ST) := f_X8_cyclicMultiplicity_0 S a1 a2
set_option maxHeartbeats 4000000 in
set_option maxRecDepth 100000 in
theorem k_X8_cyclicMultiplicity (l : Launch) (x : CX) (S : ST) (a1 : Int32) (a2 : Int32) {res : Nat × Int32 × ST} (hf : f_X8_cyclicMultiplicity S a1 a2 = some res) (hls : l.stackTraces = false) (sz : Nat) : vx_Met l yX8_cyclicMultiplicity (Cond.code yX8_cyclicMultiplicity cX8_cyclicMultiplicity 4 (some .int) :: GW) ({ frames := 7, cells := 3, slots := 18, locals := 121 } : Room) (PC x S sz [.ref (x.2.2 (79)), .int a1, .int a2]) (QXI x res.2.2 res.1 res.2.1 sz) (XX x res.2.2 res.1 sz) 3 18 (AA x sz) := by
  refine vx_ofW (cc := cX8_cyclicMultiplicity) (maxL := 4) (ret := (some .int)) (by decide) rfl ?_
  intro p e s m args below meth c s₁ B hml ht hv
  obtain ⟨rfl, rfl, hPW⟩ := hv
  have F : MF p m meth c cX8_cyclicMultiplicity 4 s _ RX8 (some .int) := MF.of B hml
  have w := WD.of hPW
  have hl := lv_entry ([.ref (x.2.2 (79)), .int a1, .int a2]) (n := 4) (Nat.le_of_ble_eq_true rfl)
  rw [lg_entry_eq]
  generalize (lg_sl ([.ref (x.2.2 (79)), .int a1, .int a2]) ++ List.replicate (4 - (lg_sl ([.ref (x.2.2 (79)), .int a1, .int a2])).length) Slot.unset).toArray = ls at hl ⊢
  have hl : lv_has ls 4 [(0, .ref (x.2.2 (79))), (1, .int a1), (2, .int a2)] := hl
  unfold f_X8_cyclicMultiplicity at hf
  exact b_X8_cyclicMultiplicity_0 F ht hls  _ _ _ _ w a1 a2 (lv_sub hl [0, 1, 2] rfl) hf
theorem cy_X8_isCyclicRuler : CY yX8_isCyclicRuler RX8 cX8_isCyclicRuler 2 (some .boolean) 1 := ⟨q1, q606, rfl, by decide, by decide, by decide +kernel⟩
def f_X8_isCyclicRuler_0 (S : ST) (a1 : Int32) : Option (Nat × Int32 × ST) := oX (f_X8_needSet S a1) (0 : Int32) (fun (S1 : ST) => oX (f_X8_needBelowModulus S1 a1) (0 : Int32) (fun (S3 : ST) => oG (inB a1 4) (oV (f_X5_countCyclic S3 ((Int32.toNatClampNeg a1)) (fi S3 (30 + 0))) (fun (S6 : ST) => oB (f_X5_isAtMost S6 1 (fi S6 (30 + 0))) (fun (r8 : Int32) (S7 : ST) => oG (isB r8) (some (0, r8, S7)))))))
set_option maxHeartbeats 4000000 in
set_option maxRecDepth 100000 in
theorem b_X8_isCyclicRuler_0 {p : Program} {l : Launch} {e : Env} {s : State} {m : MethodId} {args : Array Value} {below : List Frame} {meth : Method} {c : Code} {x : CX} {res : Nat × Int32 × ST} (F : MF p m meth c cX8_isCyclicRuler 2 s args RX8 (some .boolean)) (ht : ∀ z ∈ c.exceptionTable.toList, False) (hls : l.stackTraces = false) : ∀ (H : Heap) (locs : List Loc) (ls : Array Slot) (S : ST), WD x s S H locs → ∀ (a1 : Int32), lv_has ls 2 [(0, .ref (x.2.2 (79))), (1, .int a1)] → f_X8_isCyclicRuler_0 S a1 = some res → W p l e ({ frames := 7, cells := 2, slots := 12, locals := 121 } : Room) s m args below meth c H locs 0 0 (vx_MQ below (QXI x res.2.2 res.1 res.2.1 s.heap.size) (XX x res.2.2 res.1 s.heap.size) args s 2 12 (AA x s.heap.size)) (F0 m 0 ls []) := by
  intro H locs ls S w a1 hl hf
  unfold f_X8_isCyclicRuler_0 at hf
  refine lv_iload_n F.1 F.2.1 dX8_isCyclicRuler_0 rfl (lv_at hl 1 rfl) ?_
  obtain ⟨n2, S1, hc, hf, hx⟩ := oi_x hf
  refine kx_v (S1 := S1) (n1 := n2) F ht w (xrunS (As := [.int a1]) (rest := []) F w (k_X8_needSet l x S a1 hc hls H.size) cy_X8_needSet q342 q343 ⟨rfl, rfl⟩ ⟨Nat.le_of_ble_eq_true rfl, Nat.le_of_ble_eq_true rfl⟩ rfl rfl hl.1 (Nat.le_of_ble_eq_true rfl) ⟨Nat.le_of_ble_eq_true rfl, Nat.le_of_ble_eq_true rfl⟩ dX8_isCyclicRuler_1) hx (Nat.le_of_ble_eq_true rfl) (Nat.le_of_ble_eq_true rfl) (fun hn H locs w => ?_)
  replace hf := hf hn
  refine lv_aload_n F.1 F.2.1 dX8_isCyclicRuler_4 rfl (lv_at hl 0 rfl) ?_
  refine lv_iload_n F.1 F.2.1 dX8_isCyclicRuler_5 rfl (lv_at hl 1 rfl) ?_
  obtain ⟨n4, S3, hc, hf, hx⟩ := oi_x hf
  refine kx_v (S1 := S3) (n1 := n4) F ht w (xrunV (As := [.int a1]) (rest := []) (kb := 79) F w (k_X8_needBelowModulus l x S1 a1 hc hls H.size) cy_X8_needBelowModulus q595 q597 qp11 ⟨rfl, rfl⟩ ⟨Nat.le_of_ble_eq_true rfl, Nat.le_of_ble_eq_true rfl⟩ (by decide) rfl rfl rfl rfl hl.1 (Nat.le_of_ble_eq_true rfl) ⟨Nat.le_of_ble_eq_true rfl, Nat.le_of_ble_eq_true rfl⟩ dX8_isCyclicRuler_6) hx (Nat.le_of_ble_eq_true rfl) (Nat.le_of_ble_eq_true rfl) (fun hn H locs w => ?_)
  replace hf := hf hn
  refine lv_aload_n F.1 F.2.1 dX8_isCyclicRuler_9 rfl (lv_at hl 0 rfl) ?_
  refine g_RW_tally F w q170 dX8_isCyclicRuler_10 ?_
  refine lv_aload_n F.1 F.2.1 dX8_isCyclicRuler_13 rfl (lv_at hl 0 rfl) ?_
  refine g_RW_now F w q162 dX8_isCyclicRuler_14 ?_
  refine gN_ST_sets (i := 0) F w (by decide) (by simp [NF]) dX8_isCyclicRuler_17 ?_
  refine lv_iload_n F.1 F.2.1 dX8_isCyclicRuler_20 rfl (lv_at hl 1 rfl) ?_
  obtain ⟨hb5, hf⟩ := oi_g hf
  refine r_now F w hb5 dX8_isCyclicRuler_21 ?_
  refine lv_aload_n F.1 F.2.1 dX8_isCyclicRuler_22 rfl (lv_at hl 0 rfl) ?_
  refine g_RW_now F w q162 dX8_isCyclicRuler_23 ?_
  refine gN_ST_modulus (i := 0) F w (by decide) (by simp [NF]) dX8_isCyclicRuler_26 ?_
  obtain ⟨S6, hc, hf⟩ := oi_v hf
  refine k_v0 (S' := S6) w (runV (As := [.ref (x.2.2 (2 * ((Int32.toNatClampNeg a1)))), .int (fi S3 (30 + 0))]) (rest := []) (kb := 75) F w (k_X5_countCyclic l x S3 ((Int32.toNatClampNeg a1)) (fi S3 (30 + 0)) (Nat.lt_of_lt_of_le (inB_lt hb5) (by decide)) hc H.size) cy_X5_countCyclic q265 q266 q267 ⟨rfl, rfl⟩ ⟨Nat.le_of_ble_eq_true rfl, Nat.le_of_ble_eq_true rfl⟩ (by decide) rfl rfl rfl rfl hl.1 (Nat.le_of_ble_eq_true rfl) ⟨Nat.le_of_ble_eq_true rfl, Nat.le_of_ble_eq_true rfl⟩ dX8_isCyclicRuler_29) (fun H locs w => ?_)
  refine lv_aload_n F.1 F.2.1 dX8_isCyclicRuler_32 rfl (lv_at hl 0 rfl) ?_
  refine g_RW_tally F w q170 dX8_isCyclicRuler_33 ?_
  refine lv_iconst (v := 1) F.1 F.2.1 dX8_isCyclicRuler_36 (by decide) ?_
  refine lv_aload_n F.1 F.2.1 dX8_isCyclicRuler_37 rfl (lv_at hl 0 rfl) ?_
  refine g_RW_now F w q162 dX8_isCyclicRuler_38 ?_
  refine gN_ST_modulus (i := 0) F w (by decide) (by simp [NF]) dX8_isCyclicRuler_41 ?_
  obtain ⟨r8, S7, hc, hf⟩ := oi_b hf
  refine k_i0 (S' := S7) (r := r8) w (runV (As := [.int 1, .int (fi S6 (30 + 0))]) (rest := []) (kb := 75) F w (k_X5_isAtMost l x S6 1 (fi S6 (30 + 0)) hc H.size) cy_X5_isAtMost q607 q608 q609 ⟨rfl, rfl⟩ ⟨Nat.le_of_ble_eq_true rfl, Nat.le_of_ble_eq_true rfl⟩ (by decide) rfl rfl rfl rfl hl.1 (Nat.le_of_ble_eq_true rfl) ⟨Nat.le_of_ble_eq_true rfl, Nat.le_of_ble_eq_true rfl⟩ dX8_isCyclicRuler_44) (fun H locs w => ?_)
  obtain ⟨hz9, hf⟩ := oi_g hf
  exact x_zret F w (isB_nar hz9) (oi_s hf) dX8_isCyclicRuler_47
def f_X8_isCyclicRuler (S : ST) (a1 : Int32) : Option (Nat × Int32 × ST) := f_X8_isCyclicRuler_0 S a1
set_option maxHeartbeats 4000000 in
set_option maxRecDepth 100000 in
theorem k_X8_isCyclicRuler (l : Launch) (x : CX) (S : ST) (a1 : Int32) {res : Nat × Int32 × ST} (hf : f_X8_isCyclicRuler S a1 = some res) (hls : l.stackTraces = false) (sz : Nat) : vx_Met l yX8_isCyclicRuler (Cond.code yX8_isCyclicRuler cX8_isCyclicRuler 2 (some .boolean) :: GW) ({ frames := 7, cells := 2, slots := 12, locals := 121 } : Room) (PC x S sz [.ref (x.2.2 (79)), .int a1]) (QXI x res.2.2 res.1 res.2.1 sz) (XX x res.2.2 res.1 sz) 2 12 (AA x sz) := by
  refine vx_ofW (cc := cX8_isCyclicRuler) (maxL := 2) (ret := (some .boolean)) (by decide) rfl ?_
  intro p e s m args below meth c s₁ B hml ht hv
  obtain ⟨rfl, rfl, hPW⟩ := hv
  have F : MF p m meth c cX8_isCyclicRuler 2 s _ RX8 (some .boolean) := MF.of B hml
  have w := WD.of hPW
  have hl := lv_entry ([.ref (x.2.2 (79)), .int a1]) (n := 2) (Nat.le_of_ble_eq_true rfl)
  rw [lg_entry_eq]
  generalize (lg_sl ([.ref (x.2.2 (79)), .int a1]) ++ List.replicate (2 - (lg_sl ([.ref (x.2.2 (79)), .int a1])).length) Slot.unset).toArray = ls at hl ⊢
  have hl : lv_has ls 2 [(0, .ref (x.2.2 (79))), (1, .int a1)] := hl
  unfold f_X8_isCyclicRuler at hf
  exact b_X8_isCyclicRuler_0 F ht hls  _ _ _ _ w a1 (lv_sub hl [0, 1] rfl) hf
theorem cy_X8_index : CY yX8_index RX8 cX8_index 2 (some .int) 1 := ⟨q1, q617, rfl, by decide, by decide, by decide +kernel⟩
def f_X8_index_0 (S : ST) (a1 : Int32) : Option (Nat × Int32 × ST) := oX (f_X8_needSet S a1) (0 : Int32) (fun (S1 : ST) => oX (f_X8_needBelowModulus S1 a1) (0 : Int32) (fun (S3 : ST) => oG (inB a1 4) (oB (f_X8_indexOf S3 ((Int32.toNatClampNeg a1))) (fun (r7 : Int32) (S6 : ST) => some (0, r7, S6)))))
set_option maxHeartbeats 4000000 in
set_option maxRecDepth 100000 in
theorem b_X8_index_0 {p : Program} {l : Launch} {e : Env} {s : State} {m : MethodId} {args : Array Value} {below : List Frame} {meth : Method} {c : Code} {x : CX} {res : Nat × Int32 × ST} (F : MF p m meth c cX8_index 2 s args RX8 (some .int)) (ht : ∀ z ∈ c.exceptionTable.toList, False) (hls : l.stackTraces = false) : ∀ (H : Heap) (locs : List Loc) (ls : Array Slot) (S : ST), WD x s S H locs → ∀ (a1 : Int32), lv_has ls 2 [(0, .ref (x.2.2 (79))), (1, .int a1)] → f_X8_index_0 S a1 = some res → W p l e ({ frames := 7, cells := 2, slots := 12, locals := 121 } : Room) s m args below meth c H locs 0 0 (vx_MQ below (QXI x res.2.2 res.1 res.2.1 s.heap.size) (XX x res.2.2 res.1 s.heap.size) args s 2 12 (AA x s.heap.size)) (F0 m 0 ls []) := by
  intro H locs ls S w a1 hl hf
  unfold f_X8_index_0 at hf
  refine lv_iload_n F.1 F.2.1 dX8_index_0 rfl (lv_at hl 1 rfl) ?_
  obtain ⟨n2, S1, hc, hf, hx⟩ := oi_x hf
  refine kx_v (S1 := S1) (n1 := n2) F ht w (xrunS (As := [.int a1]) (rest := []) F w (k_X8_needSet l x S a1 hc hls H.size) cy_X8_needSet q342 q343 ⟨rfl, rfl⟩ ⟨Nat.le_of_ble_eq_true rfl, Nat.le_of_ble_eq_true rfl⟩ rfl rfl hl.1 (Nat.le_of_ble_eq_true rfl) ⟨Nat.le_of_ble_eq_true rfl, Nat.le_of_ble_eq_true rfl⟩ dX8_index_1) hx (Nat.le_of_ble_eq_true rfl) (Nat.le_of_ble_eq_true rfl) (fun hn H locs w => ?_)
  replace hf := hf hn
  refine lv_aload_n F.1 F.2.1 dX8_index_4 rfl (lv_at hl 0 rfl) ?_
  refine lv_iload_n F.1 F.2.1 dX8_index_5 rfl (lv_at hl 1 rfl) ?_
  obtain ⟨n4, S3, hc, hf, hx⟩ := oi_x hf
  refine kx_v (S1 := S3) (n1 := n4) F ht w (xrunV (As := [.int a1]) (rest := []) (kb := 79) F w (k_X8_needBelowModulus l x S1 a1 hc hls H.size) cy_X8_needBelowModulus q595 q597 qp11 ⟨rfl, rfl⟩ ⟨Nat.le_of_ble_eq_true rfl, Nat.le_of_ble_eq_true rfl⟩ (by decide) rfl rfl rfl rfl hl.1 (Nat.le_of_ble_eq_true rfl) ⟨Nat.le_of_ble_eq_true rfl, Nat.le_of_ble_eq_true rfl⟩ dX8_index_6) hx (Nat.le_of_ble_eq_true rfl) (Nat.le_of_ble_eq_true rfl) (fun hn H locs w => ?_)
  replace hf := hf hn
  refine lv_aload_n F.1 F.2.1 dX8_index_9 rfl (lv_at hl 0 rfl) ?_
  refine lv_aload_n F.1 F.2.1 dX8_index_10 rfl (lv_at hl 0 rfl) ?_
  refine g_RW_now F w q162 dX8_index_11 ?_
  refine gN_ST_sets (i := 0) F w (by decide) (by simp [NF]) dX8_index_14 ?_
  refine lv_iload_n F.1 F.2.1 dX8_index_17 rfl (lv_at hl 1 rfl) ?_
  obtain ⟨hb5, hf⟩ := oi_g hf
  refine r_now F w hb5 dX8_index_18 ?_
  obtain ⟨r7, S6, hc, hf⟩ := oi_b hf
  refine k_i0 (S' := S6) (r := r7) w (runV (As := [.ref (x.2.2 (2 * ((Int32.toNatClampNeg a1))))]) (rest := []) (kb := 79) F w (k_X8_indexOf l x S3 ((Int32.toNatClampNeg a1)) (Nat.lt_of_lt_of_le (inB_lt hb5) (by decide)) hc H.size) cy_X8_indexOf q261 q263 qp3 ⟨rfl, rfl⟩ ⟨Nat.le_of_ble_eq_true rfl, Nat.le_of_ble_eq_true rfl⟩ (by decide) rfl rfl rfl rfl hl.1 (Nat.le_of_ble_eq_true rfl) ⟨Nat.le_of_ble_eq_true rfl, Nat.le_of_ble_eq_true rfl⟩ dX8_index_19) (fun H locs w => ?_)
  exact x_iret F w (oi_s hf) dX8_index_22
def f_X8_index (S : ST) (a1 : Int32) : Option (Nat × Int32 × ST) := f_X8_index_0 S a1
set_option maxHeartbeats 4000000 in
set_option maxRecDepth 100000 in
theorem k_X8_index (l : Launch) (x : CX) (S : ST) (a1 : Int32) {res : Nat × Int32 × ST} (hf : f_X8_index S a1 = some res) (hls : l.stackTraces = false) (sz : Nat) : vx_Met l yX8_index (Cond.code yX8_index cX8_index 2 (some .int) :: GW) ({ frames := 7, cells := 2, slots := 12, locals := 121 } : Room) (PC x S sz [.ref (x.2.2 (79)), .int a1]) (QXI x res.2.2 res.1 res.2.1 sz) (XX x res.2.2 res.1 sz) 2 12 (AA x sz) := by
  refine vx_ofW (cc := cX8_index) (maxL := 2) (ret := (some .int)) (by decide) rfl ?_
  intro p e s m args below meth c s₁ B hml ht hv
  obtain ⟨rfl, rfl, hPW⟩ := hv
  have F : MF p m meth c cX8_index 2 s _ RX8 (some .int) := MF.of B hml
  have w := WD.of hPW
  have hl := lv_entry ([.ref (x.2.2 (79)), .int a1]) (n := 2) (Nat.le_of_ble_eq_true rfl)
  rw [lg_entry_eq]
  generalize (lg_sl ([.ref (x.2.2 (79)), .int a1]) ++ List.replicate (2 - (lg_sl ([.ref (x.2.2 (79)), .int a1])).length) Slot.unset).toArray = ls at hl ⊢
  have hl : lv_has ls 2 [(0, .ref (x.2.2 (79))), (1, .int a1)] := hl
  unfold f_X8_index at hf
  exact b_X8_index_0 F ht hls  _ _ _ _ w a1 (lv_sub hl [0, 1] rfl) hf
theorem cy_X8_map : CY yX8_map RX8 cX8_map 5 (some .int) 4 := ⟨q1, q624, rfl, by decide, by decide, by decide +kernel⟩
def f_X8_map_31 (S : ST)  : Option (Nat × Int32 × ST) := some (2, 0, S)
set_option maxHeartbeats 4000000 in
set_option maxRecDepth 100000 in
theorem b_X8_map_31 {p : Program} {l : Launch} {e : Env} {s : State} {m : MethodId} {args : Array Value} {below : List Frame} {meth : Method} {c : Code} {x : CX} {res : Nat × Int32 × ST} (F : MF p m meth c cX8_map 5 s args RX8 (some .int)) (ht : ∀ z ∈ c.exceptionTable.toList, False) (hls : l.stackTraces = false) : ∀ (H : Heap) (locs : List Loc) (ls : Array Slot) (S : ST), WD x s S H locs → lv_has ls 5 [] → f_X8_map_31 S = some res → W p l e ({ frames := 7, cells := 4, slots := 24, locals := 150 } : Room) s m args below meth c H locs 2 12 (vx_MQ below (QXI x res.2.2 res.1 res.2.1 s.heap.size) (XX x res.2.2 res.1 s.heap.size) args s 4 24 (AA x s.heap.size)) (F0 m 31 ls []) := by
  intro H locs ls S w hl hf
  unfold f_X8_map_31 at hf
  exact x_throw (E := eIA) (text := "t or s is out of range") F ht hls w (oi_s hf) (by simp [XK]) xq_IA (by simp [XT]) hl.1 dX8_map_31 dX8_map_34 dX8_map_35 dX8_map_37 dX8_map_40 (Nat.le_of_ble_eq_true rfl) (Nat.le_of_ble_eq_true rfl) (Nat.le_of_ble_eq_true rfl) (Nat.le_of_ble_eq_true rfl) (Nat.le_of_ble_eq_true rfl) (Nat.le_of_ble_eq_true rfl)
def f_X8_map_0 (S : ST) (a1 : Int32) (a2 : Int32) (a3 : Int32) (a4 : Int32) : Option (Nat × Int32 × ST) := oX (f_X8_needSet S a1) (0 : Int32) (fun (S1 : ST) => oX (f_X8_needSet S1 a4) (0 : Int32) (fun (S3 : ST) => (if a2 < 0 then f_X8_map_31 S3 else (if 1000 < a2 then f_X8_map_31 S3 else (if a3 < 0 then f_X8_map_31 S3 else (if a3 ≤ 1000 then oX (f_X8_needBelowModulus S3 a1) (0 : Int32) (fun (S9 : ST) => oG (inB a1 4) (oV (f_X8_turn S9 ((Int32.toNatClampNeg a1)) a2 a3 20) (fun (S12 : ST) => oV (f_X8_replace S12 a4 (fi S12 (30 + 0))) (fun (S13 : ST) => some (0, (fi S13 20), S13))))) else f_X8_map_31 S3))))))
set_option maxHeartbeats 4000000 in
set_option maxRecDepth 100000 in
theorem b_X8_map_0 {p : Program} {l : Launch} {e : Env} {s : State} {m : MethodId} {args : Array Value} {below : List Frame} {meth : Method} {c : Code} {x : CX} {res : Nat × Int32 × ST} (F : MF p m meth c cX8_map 5 s args RX8 (some .int)) (ht : ∀ z ∈ c.exceptionTable.toList, False) (hls : l.stackTraces = false) : ∀ (H : Heap) (locs : List Loc) (ls : Array Slot) (S : ST), WD x s S H locs → ∀ (a1 : Int32) (a2 : Int32) (a3 : Int32) (a4 : Int32), lv_has ls 5 [(0, .ref (x.2.2 (79))), (1, .int a1), (2, .int a2), (3, .int a3), (4, .int a4)] → f_X8_map_0 S a1 a2 a3 a4 = some res → W p l e ({ frames := 7, cells := 4, slots := 24, locals := 150 } : Room) s m args below meth c H locs 0 0 (vx_MQ below (QXI x res.2.2 res.1 res.2.1 s.heap.size) (XX x res.2.2 res.1 s.heap.size) args s 4 24 (AA x s.heap.size)) (F0 m 0 ls []) := by
  intro H locs ls S w a1 a2 a3 a4 hl hf
  unfold f_X8_map_0 at hf
  refine lv_iload_n F.1 F.2.1 dX8_map_0 rfl (lv_at hl 1 rfl) ?_
  obtain ⟨n2, S1, hc, hf, hx⟩ := oi_x hf
  refine kx_v (S1 := S1) (n1 := n2) F ht w (xrunS (As := [.int a1]) (rest := []) F w (k_X8_needSet l x S a1 hc hls H.size) cy_X8_needSet q342 q343 ⟨rfl, rfl⟩ ⟨Nat.le_of_ble_eq_true rfl, Nat.le_of_ble_eq_true rfl⟩ rfl rfl hl.1 (Nat.le_of_ble_eq_true rfl) ⟨Nat.le_of_ble_eq_true rfl, Nat.le_of_ble_eq_true rfl⟩ dX8_map_1) hx (Nat.le_of_ble_eq_true rfl) (Nat.le_of_ble_eq_true rfl) (fun hn H locs w => ?_)
  replace hf := hf hn
  refine lv_iload F.1 F.2.1 dX8_map_4 (lv_at hl 4 rfl) ?_
  obtain ⟨n4, S3, hc, hf, hx⟩ := oi_x hf
  refine kx_v (S1 := S3) (n1 := n4) F ht w (xrunS (As := [.int a4]) (rest := []) F w (k_X8_needSet l x S1 a4 hc hls H.size) cy_X8_needSet q342 q343 ⟨rfl, rfl⟩ ⟨Nat.le_of_ble_eq_true rfl, Nat.le_of_ble_eq_true rfl⟩ rfl rfl hl.1 (Nat.le_of_ble_eq_true rfl) ⟨Nat.le_of_ble_eq_true rfl, Nat.le_of_ble_eq_true rfl⟩ dX8_map_6) hx (Nat.le_of_ble_eq_true rfl) (Nat.le_of_ble_eq_true rfl) (fun hn H locs w => ?_)
  replace hf := hf hn
  refine lv_iload_n F.1 F.2.1 dX8_map_9 rfl (lv_at hl 2 rfl) ?_
  refine lv_if_lt (tgt := 31) F.1 F.2.1 dX8_map_10 (by decide) (fun c5 => ?_) (fun c5 => ?_)
  · replace hf := oi_t hf c5
    exact b_X8_map_31 F ht hls  _ _ _ _ w  (lv_sub hl [] rfl) hf
  · replace hf := oi_f hf c5
    refine lv_iload_n F.1 F.2.1 dX8_map_13 rfl (lv_at hl 2 rfl) ?_
    refine lv_sipush (v := 1000) F.1 F.2.1 dX8_map_14 (by decide) ?_
    refine lv_icmp_gt (tgt := 31) F.1 F.2.1 dX8_map_17 (by decide) (fun c6 => ?_) (fun c6 => ?_)
    · replace hf := oi_t hf c6
      exact b_X8_map_31 F ht hls  _ _ _ _ w  (lv_sub hl [] rfl) hf
    · replace hf := oi_f hf c6
      refine lv_iload_n F.1 F.2.1 dX8_map_20 rfl (lv_at hl 3 rfl) ?_
      refine lv_if_lt (tgt := 31) F.1 F.2.1 dX8_map_21 (by decide) (fun c7 => ?_) (fun c7 => ?_)
      · replace hf := oi_t hf c7
        exact b_X8_map_31 F ht hls  _ _ _ _ w  (lv_sub hl [] rfl) hf
      · replace hf := oi_f hf c7
        refine lv_iload_n F.1 F.2.1 dX8_map_24 rfl (lv_at hl 3 rfl) ?_
        refine lv_sipush (v := 1000) F.1 F.2.1 dX8_map_25 (by decide) ?_
        refine lv_icmp_le (tgt := 41) F.1 F.2.1 dX8_map_28 (by decide) (fun c8 => ?_) (fun c8 => ?_)
        · replace hf := oi_t hf c8
          refine lv_aload_n F.1 F.2.1 dX8_map_41 rfl (lv_at hl 0 rfl) ?_
          refine lv_iload_n F.1 F.2.1 dX8_map_42 rfl (lv_at hl 1 rfl) ?_
          obtain ⟨n10, S9, hc, hf, hx⟩ := oi_x hf
          refine kx_v (S1 := S9) (n1 := n10) F ht w (xrunV (As := [.int a1]) (rest := []) (kb := 79) F w (k_X8_needBelowModulus l x S3 a1 hc hls H.size) cy_X8_needBelowModulus q595 q597 qp11 ⟨rfl, rfl⟩ ⟨Nat.le_of_ble_eq_true rfl, Nat.le_of_ble_eq_true rfl⟩ (by decide) rfl rfl rfl rfl hl.1 (Nat.le_of_ble_eq_true rfl) ⟨Nat.le_of_ble_eq_true rfl, Nat.le_of_ble_eq_true rfl⟩ dX8_map_43) hx (Nat.le_of_ble_eq_true rfl) (Nat.le_of_ble_eq_true rfl) (fun hn H locs w => ?_)
          replace hf := hf hn
          refine lv_aload_n F.1 F.2.1 dX8_map_46 rfl (lv_at hl 0 rfl) ?_
          refine lv_aload_n F.1 F.2.1 dX8_map_47 rfl (lv_at hl 0 rfl) ?_
          refine g_RW_now F w q162 dX8_map_48 ?_
          refine gN_ST_sets (i := 0) F w (by decide) (by simp [NF]) dX8_map_51 ?_
          refine lv_iload_n F.1 F.2.1 dX8_map_54 rfl (lv_at hl 1 rfl) ?_
          obtain ⟨hb11, hf⟩ := oi_g hf
          refine r_now F w hb11 dX8_map_55 ?_
          refine lv_iload_n F.1 F.2.1 dX8_map_56 rfl (lv_at hl 2 rfl) ?_
          refine lv_iload_n F.1 F.2.1 dX8_map_57 rfl (lv_at hl 3 rfl) ?_
          refine lv_aload_n F.1 F.2.1 dX8_map_58 rfl (lv_at hl 0 rfl) ?_
          refine g_RW_made F w q164 dX8_map_59 ?_
          obtain ⟨S12, hc, hf⟩ := oi_v hf
          refine k_v0 (S' := S12) w (runV (As := [.ref (x.2.2 (2 * ((Int32.toNatClampNeg a1)))), .int a2, .int a3, .ref (x.2.2 (2 * 20))]) (rest := []) (kb := 79) F w (k_X8_turn l x S9 ((Int32.toNatClampNeg a1)) a2 a3 20 (Nat.lt_of_lt_of_le (inB_lt hb11) (by decide)) (by decide) hc H.size) cy_X8_turn q626 q628 qp12 ⟨rfl, rfl⟩ ⟨Nat.le_of_ble_eq_true rfl, Nat.le_of_ble_eq_true rfl⟩ (by decide) rfl rfl rfl rfl hl.1 (Nat.le_of_ble_eq_true rfl) ⟨Nat.le_of_ble_eq_true rfl, Nat.le_of_ble_eq_true rfl⟩ dX8_map_62) (fun H locs w => ?_)
          refine lv_aload_n F.1 F.2.1 dX8_map_65 rfl (lv_at hl 0 rfl) ?_
          refine lv_iload F.1 F.2.1 dX8_map_66 (lv_at hl 4 rfl) ?_
          refine lv_aload_n F.1 F.2.1 dX8_map_68 rfl (lv_at hl 0 rfl) ?_
          refine g_RW_now F w q162 dX8_map_69 ?_
          refine gN_ST_modulus (i := 0) F w (by decide) (by simp [NF]) dX8_map_72 ?_
          obtain ⟨S13, hc, hf⟩ := oi_v hf
          refine k_v0 (S' := S13) w (runV (As := [.int a4, .int (fi S12 (30 + 0))]) (rest := []) (kb := 79) F w (k_X8_replace l x S12 a4 (fi S12 (30 + 0)) hc H.size) cy_X8_replace q462 q464 qp10 ⟨rfl, rfl⟩ ⟨Nat.le_of_ble_eq_true rfl, Nat.le_of_ble_eq_true rfl⟩ (by decide) rfl rfl rfl rfl hl.1 (Nat.le_of_ble_eq_true rfl) ⟨Nat.le_of_ble_eq_true rfl, Nat.le_of_ble_eq_true rfl⟩ dX8_map_75) (fun H locs w => ?_)
          refine lv_aload_n F.1 F.2.1 dX8_map_78 rfl (lv_at hl 0 rfl) ?_
          refine g_RW_made F w q164 dX8_map_79 ?_
          refine gN_MS_count (i := 20) F w (by decide) (by simp [NF]) dX8_map_82 ?_
          refine W.widen (k := 4) (n := 24) (by decide) (by decide) ?_
          exact x_iret F w (oi_s hf) dX8_map_85
        · replace hf := oi_f hf c8
          exact b_X8_map_31 F ht hls  _ _ _ _ w  (lv_sub hl [] rfl) hf
def f_X8_map (S : ST) (a1 : Int32) (a2 : Int32) (a3 : Int32) (a4 : Int32) : Option (Nat × Int32 × ST) := f_X8_map_0 S a1 a2 a3 a4
set_option maxHeartbeats 4000000 in
set_option maxRecDepth 100000 in
theorem k_X8_map (l : Launch) (x : CX) (S : ST) (a1 : Int32) (a2 : Int32) (a3 : Int32) (a4 : Int32) {res : Nat × Int32 × ST} (hf : f_X8_map S a1 a2 a3 a4 = some res) (hls : l.stackTraces = false) (sz : Nat) : vx_Met l yX8_map (Cond.code yX8_map cX8_map 5 (some .int) :: GW) ({ frames := 7, cells := 4, slots := 24, locals := 150 } : Room) (PC x S sz [.ref (x.2.2 (79)), .int a1, .int a2, .int a3, .int a4]) (QXI x res.2.2 res.1 res.2.1 sz) (XX x res.2.2 res.1 sz) 4 24 (AA x sz) := by
  refine vx_ofW (cc := cX8_map) (maxL := 5) (ret := (some .int)) (by decide) rfl ?_
  intro p e s m args below meth c s₁ B hml ht hv
  obtain ⟨rfl, rfl, hPW⟩ := hv
  have F : MF p m meth c cX8_map 5 s _ RX8 (some .int) := MF.of B hml
  have w := WD.of hPW
  have hl := lv_entry ([.ref (x.2.2 (79)), .int a1, .int a2, .int a3, .int a4]) (n := 5) (Nat.le_of_ble_eq_true rfl)
  rw [lg_entry_eq]
  generalize (lg_sl ([.ref (x.2.2 (79)), .int a1, .int a2, .int a3, .int a4]) ++ List.replicate (5 - (lg_sl ([.ref (x.2.2 (79)), .int a1, .int a2, .int a3, .int a4])).length) Slot.unset).toArray = ls at hl ⊢
  have hl : lv_has ls 5 [(0, .ref (x.2.2 (79))), (1, .int a1), (2, .int a2), (3, .int a3), (4, .int a4)] := hl
  unfold f_X8_map at hf
  exact b_X8_map_0 F ht hls  _ _ _ _ w a1 a2 a3 a4 (lv_sub hl [0, 1, 2, 3, 4] rfl) hf
theorem cy_X8_complement : CY yX8_complement RX8 cX8_complement 4 (some .int) 2 := ⟨q1, q651, rfl, by decide, by decide, by decide +kernel⟩
def f_X8_complement_103 (k73 : ST → Int32 → Int32 → Option (Nat × Int32 × ST)) (S : ST) (a2 : Int32) (a3 : Int32) : Option (Nat × Int32 × ST) := oL (a3 + 1) (fun (v1 : Int32) => k73 S a2 v1)
set_option maxHeartbeats 4000000 in
set_option maxRecDepth 100000 in
theorem b_X8_complement_103 {p : Program} {l : Launch} {e : Env} {s : State} {m : MethodId} {args : Array Value} {below : List Frame} {meth : Method} {c : Code} {x : CX} {res : Nat × Int32 × ST} (F : MF p m meth c cX8_complement 4 s args RX8 (some .int)) (ht : ∀ z ∈ c.exceptionTable.toList, False) (hls : l.stackTraces = false) (k73 : ST → Int32 → Int32 → Option (Nat × Int32 × ST)) (hk73 : ∀ (H : Heap) (locs : List Loc) (ls : Array Slot) (S : ST), WD x s S H locs → ∀ (a2 : Int32) (a3 : Int32), lv_has ls 4 [(0, .ref (x.2.2 (79))), (2, .int a2), (3, .int a3)] → k73 S a2 a3 = some res → W p l e ({ frames := 7, cells := 4, slots := 24, locals := 150 } : Room) s m args below meth c H locs 3 18 (vx_MQ below (QXI x res.2.2 res.1 res.2.1 s.heap.size) (XX x res.2.2 res.1 s.heap.size) args s 4 24 (AA x s.heap.size)) (F0 m 73 ls [])) : ∀ (H : Heap) (locs : List Loc) (ls : Array Slot) (S : ST), WD x s S H locs → ∀ (a2 : Int32) (a3 : Int32), lv_has ls 4 [(0, .ref (x.2.2 (79))), (2, .int a2), (3, .int a3)] → f_X8_complement_103 k73 S a2 a3 = some res → W p l e ({ frames := 7, cells := 4, slots := 24, locals := 150 } : Room) s m args below meth c H locs 3 18 (vx_MQ below (QXI x res.2.2 res.1 res.2.1 s.heap.size) (XX x res.2.2 res.1 s.heap.size) args s 4 24 (AA x s.heap.size)) (F0 m 103 ls []) := by
  intro H locs ls S w a2 a3 hl hf
  unfold f_X8_complement_103 at hf
  obtain ⟨v1, e_v1⟩ : ∃ y : Int32, y = (a3 + 1) := ⟨_, rfl⟩
  replace hf := oi_l hf e_v1
  refine lv_iinc (v := v1) (lv' := [(3, .int v1), (0, .ref (x.2.2 (79))), (2, .int a2)]) F.1 F.2.1 dX8_complement_103 hl (k := 2) rfl (by rw [e_v1]; rfl) (by decide) rfl (fun ls hl => ?_)
  refine lv_goto (tgt := 73) F.1 F.2.1 dX8_complement_106 (by decide) ?_
  exact hk73 _ _ _ _ w a2 v1 (lv_sub hl [1, 2, 0] rfl) hf
def f_X8_complement_73 : Nat → ST → Int32 → Int32 → Option (Nat × Int32 × ST)
  | 0, _, _, _ => none
  | n + 1, S, a2, a3 => (if (fi S (30 + 0)) ≤ a3 then oV (f_X8_replace S a2 (fi S (30 + 0))) (fun (S2 : ST) => some (0, (fi S2 20), S2)) else oB (f_X0_has S 0 a3) (fun (r4 : Int32) (S3 : ST) => (if r4 = 0 then oV (f_X2_push S3 20 a3) (fun (S6 : ST) => f_X8_complement_103 (f_X8_complement_73 n) S6 a2 a3) else f_X8_complement_103 (f_X8_complement_73 n) S3 a2 a3)))
set_option maxHeartbeats 4000000 in
set_option maxRecDepth 100000 in
theorem b_X8_complement_73 {p : Program} {l : Launch} {e : Env} {s : State} {m : MethodId} {args : Array Value} {below : List Frame} {meth : Method} {c : Code} {x : CX} {res : Nat × Int32 × ST} (F : MF p m meth c cX8_complement 4 s args RX8 (some .int)) (ht : ∀ z ∈ c.exceptionTable.toList, False) (hls : l.stackTraces = false) : ∀ (n : Nat), ∀ (H : Heap) (locs : List Loc) (ls : Array Slot) (S : ST), WD x s S H locs → ∀ (a2 : Int32) (a3 : Int32), lv_has ls 4 [(0, .ref (x.2.2 (79))), (2, .int a2), (3, .int a3)] → f_X8_complement_73 n S a2 a3 = some res → W p l e ({ frames := 7, cells := 4, slots := 24, locals := 150 } : Room) s m args below meth c H locs 3 18 (vx_MQ below (QXI x res.2.2 res.1 res.2.1 s.heap.size) (XX x res.2.2 res.1 s.heap.size) args s 4 24 (AA x s.heap.size)) (F0 m 73 ls []) := by
  intro n
  induction n with
  | zero =>
    intro H locs ls S w a2 a3 hl hf
    have hf : (none : Option (Nat × Int32 × ST)) = some res := hf
    cases hf
  | succ n ih =>
    intro H locs ls S w a2 a3 hl hf
    unfold f_X8_complement_73 at hf
    refine lv_iload_n F.1 F.2.1 dX8_complement_73 rfl (lv_at hl 2 rfl) ?_
    refine lv_aload_n F.1 F.2.1 dX8_complement_74 rfl (lv_at hl 0 rfl) ?_
    refine g_RW_now F w q162 dX8_complement_75 ?_
    refine gN_ST_modulus (i := 0) F w (by decide) (by simp [NF]) dX8_complement_78 ?_
    refine lv_icmp_ge (tgt := 109) F.1 F.2.1 dX8_complement_81 (by decide) (fun c1 => ?_) (fun c1 => ?_)
    · replace hf := oi_t hf c1
      refine lv_aload_n F.1 F.2.1 dX8_complement_109 rfl (lv_at hl 0 rfl) ?_
      refine lv_iload_n F.1 F.2.1 dX8_complement_110 rfl (lv_at hl 1 rfl) ?_
      refine lv_aload_n F.1 F.2.1 dX8_complement_111 rfl (lv_at hl 0 rfl) ?_
      refine g_RW_now F w q162 dX8_complement_112 ?_
      refine gN_ST_modulus (i := 0) F w (by decide) (by simp [NF]) dX8_complement_115 ?_
      obtain ⟨S2, hc, hf⟩ := oi_v hf
      refine k_v0 (S' := S2) w (runV (As := [.int a2, .int (fi S (30 + 0))]) (rest := []) (kb := 79) F w (k_X8_replace l x S a2 (fi S (30 + 0)) hc H.size) cy_X8_replace q462 q464 qp10 ⟨rfl, rfl⟩ ⟨Nat.le_of_ble_eq_true rfl, Nat.le_of_ble_eq_true rfl⟩ (by decide) rfl rfl rfl rfl hl.1 (Nat.le_of_ble_eq_true rfl) ⟨Nat.le_of_ble_eq_true rfl, Nat.le_of_ble_eq_true rfl⟩ dX8_complement_118) (fun H locs w => ?_)
      refine lv_aload_n F.1 F.2.1 dX8_complement_121 rfl (lv_at hl 0 rfl) ?_
      refine g_RW_made F w q164 dX8_complement_122 ?_
      refine gN_MS_count (i := 20) F w (by decide) (by simp [NF]) dX8_complement_125 ?_
      refine W.widen (k := 4) (n := 24) (by decide) (by decide) ?_
      exact x_iret F w (oi_s hf) dX8_complement_128
    · replace hf := oi_f hf c1
      refine lv_aload_n F.1 F.2.1 dX8_complement_84 rfl (lv_at hl 0 rfl) ?_
      refine g_RW_row F w q168 dX8_complement_85 ?_
      refine lv_iload_n F.1 F.2.1 dX8_complement_88 rfl (lv_at hl 2 rfl) ?_
      obtain ⟨r4, S3, hc, hf⟩ := oi_b hf
      refine k_i0 (S' := S3) (r := r4) w (runV (As := [.int a3]) (rest := []) (kb := 48 + 2 * 0) F w (k_X0_has l x S 0 a3 (by decide) hc H.size) cy_X0_has q327 q221 q222 ⟨rfl, rfl⟩ ⟨Nat.le_of_ble_eq_true rfl, Nat.le_of_ble_eq_true rfl⟩ (k_br (by decide)) (enc_br x S (by decide)) rfl rfl rfl hl.1 (Nat.le_of_ble_eq_true rfl) ⟨Nat.le_of_ble_eq_true rfl, Nat.le_of_ble_eq_true rfl⟩ dX8_complement_89) (fun H locs w => ?_)
      refine lv_if_ne (tgt := 103) F.1 F.2.1 dX8_complement_92 (by decide) (fun c5 => ?_) (fun c5 => ?_)
      · replace hf := oi_f hf c5
        exact b_X8_complement_103 F ht hls (f_X8_complement_73 n) ih _ _ _ _ w a2 a3 (lv_sub hl [0, 1, 2] rfl) hf
      · replace hf := oi_t hf c5
        refine lv_aload_n F.1 F.2.1 dX8_complement_95 rfl (lv_at hl 0 rfl) ?_
        refine g_RW_made F w q164 dX8_complement_96 ?_
        refine lv_iload_n F.1 F.2.1 dX8_complement_99 rfl (lv_at hl 2 rfl) ?_
        obtain ⟨S6, hc, hf⟩ := oi_v hf
        refine k_v0 (S' := S6) w (runV (As := [.int a3]) (rest := []) (kb := 2 * 20) F w (k_X2_push l x S3 20 a3 (by decide) hc H.size) cy_X2_push q653 q459 q460 ⟨rfl, rfl⟩ ⟨Nat.le_of_ble_eq_true rfl, Nat.le_of_ble_eq_true rfl⟩ (k_ms (by decide)) (enc_ms x S3 (by decide)) rfl rfl rfl hl.1 (Nat.le_of_ble_eq_true rfl) ⟨Nat.le_of_ble_eq_true rfl, Nat.le_of_ble_eq_true rfl⟩ dX8_complement_100) (fun H locs w => ?_)
        exact b_X8_complement_103 F ht hls (f_X8_complement_73 n) ih _ _ _ _ w a2 a3 (lv_sub hl [0, 1, 2] rfl) hf
def f_X8_complement_0 (S : ST) (a1 : Int32) (a2 : Int32) : Option (Nat × Int32 × ST) := oX (f_X8_needSet S a1) (0 : Int32) (fun (S1 : ST) => oX (f_X8_needSet S1 a2) (0 : Int32) (fun (S3 : ST) => oX (f_X8_needBelowModulus S3 a1) (0 : Int32) (fun (S5 : ST) => oG (inB a1 4) ((if ((fi S5 (30 + 0)) - (fi S5 ((Int32.toNatClampNeg a1)))) ≤ 24 then oG (inB a1 4) (oV (f_X0_hold S5 0 ((Int32.toNatClampNeg a1))) (fun (S10 : ST) => oV (f_X2_empty S10 20) (fun (S11 : ST) => f_X8_complement_73 FU S11 a2 0))) else some (3, 0, S5))))))
set_option maxHeartbeats 4000000 in
set_option maxRecDepth 100000 in
theorem b_X8_complement_0 {p : Program} {l : Launch} {e : Env} {s : State} {m : MethodId} {args : Array Value} {below : List Frame} {meth : Method} {c : Code} {x : CX} {res : Nat × Int32 × ST} (F : MF p m meth c cX8_complement 4 s args RX8 (some .int)) (ht : ∀ z ∈ c.exceptionTable.toList, False) (hls : l.stackTraces = false) : ∀ (H : Heap) (locs : List Loc) (ls : Array Slot) (S : ST), WD x s S H locs → ∀ (a1 : Int32) (a2 : Int32), lv_has ls 4 [(0, .ref (x.2.2 (79))), (1, .int a1), (2, .int a2)] → f_X8_complement_0 S a1 a2 = some res → W p l e ({ frames := 7, cells := 4, slots := 24, locals := 150 } : Room) s m args below meth c H locs 0 0 (vx_MQ below (QXI x res.2.2 res.1 res.2.1 s.heap.size) (XX x res.2.2 res.1 s.heap.size) args s 4 24 (AA x s.heap.size)) (F0 m 0 ls []) := by
  intro H locs ls S w a1 a2 hl hf
  unfold f_X8_complement_0 at hf
  refine lv_iload_n F.1 F.2.1 dX8_complement_0 rfl (lv_at hl 1 rfl) ?_
  obtain ⟨n2, S1, hc, hf, hx⟩ := oi_x hf
  refine kx_v (S1 := S1) (n1 := n2) F ht w (xrunS (As := [.int a1]) (rest := []) F w (k_X8_needSet l x S a1 hc hls H.size) cy_X8_needSet q342 q343 ⟨rfl, rfl⟩ ⟨Nat.le_of_ble_eq_true rfl, Nat.le_of_ble_eq_true rfl⟩ rfl rfl hl.1 (Nat.le_of_ble_eq_true rfl) ⟨Nat.le_of_ble_eq_true rfl, Nat.le_of_ble_eq_true rfl⟩ dX8_complement_1) hx (Nat.le_of_ble_eq_true rfl) (Nat.le_of_ble_eq_true rfl) (fun hn H locs w => ?_)
  replace hf := hf hn
  refine lv_iload_n F.1 F.2.1 dX8_complement_4 rfl (lv_at hl 2 rfl) ?_
  obtain ⟨n4, S3, hc, hf, hx⟩ := oi_x hf
  refine kx_v (S1 := S3) (n1 := n4) F ht w (xrunS (As := [.int a2]) (rest := []) F w (k_X8_needSet l x S1 a2 hc hls H.size) cy_X8_needSet q342 q343 ⟨rfl, rfl⟩ ⟨Nat.le_of_ble_eq_true rfl, Nat.le_of_ble_eq_true rfl⟩ rfl rfl hl.1 (Nat.le_of_ble_eq_true rfl) ⟨Nat.le_of_ble_eq_true rfl, Nat.le_of_ble_eq_true rfl⟩ dX8_complement_5) hx (Nat.le_of_ble_eq_true rfl) (Nat.le_of_ble_eq_true rfl) (fun hn H locs w => ?_)
  replace hf := hf hn
  refine lv_aload_n F.1 F.2.1 dX8_complement_8 rfl (lv_at hl 0 rfl) ?_
  refine lv_iload_n F.1 F.2.1 dX8_complement_9 rfl (lv_at hl 1 rfl) ?_
  obtain ⟨n6, S5, hc, hf, hx⟩ := oi_x hf
  refine kx_v (S1 := S5) (n1 := n6) F ht w (xrunV (As := [.int a1]) (rest := []) (kb := 79) F w (k_X8_needBelowModulus l x S3 a1 hc hls H.size) cy_X8_needBelowModulus q595 q597 qp11 ⟨rfl, rfl⟩ ⟨Nat.le_of_ble_eq_true rfl, Nat.le_of_ble_eq_true rfl⟩ (by decide) rfl rfl rfl rfl hl.1 (Nat.le_of_ble_eq_true rfl) ⟨Nat.le_of_ble_eq_true rfl, Nat.le_of_ble_eq_true rfl⟩ dX8_complement_10) hx (Nat.le_of_ble_eq_true rfl) (Nat.le_of_ble_eq_true rfl) (fun hn H locs w => ?_)
  replace hf := hf hn
  refine lv_aload_n F.1 F.2.1 dX8_complement_13 rfl (lv_at hl 0 rfl) ?_
  refine g_RW_now F w q162 dX8_complement_14 ?_
  refine gN_ST_modulus (i := 0) F w (by decide) (by simp [NF]) dX8_complement_17 ?_
  refine lv_aload_n F.1 F.2.1 dX8_complement_20 rfl (lv_at hl 0 rfl) ?_
  refine g_RW_now F w q162 dX8_complement_21 ?_
  refine gN_ST_sets (i := 0) F w (by decide) (by simp [NF]) dX8_complement_24 ?_
  refine lv_iload_n F.1 F.2.1 dX8_complement_27 rfl (lv_at hl 1 rfl) ?_
  obtain ⟨hb7, hf⟩ := oi_g hf
  refine r_now F w hb7 dX8_complement_28 ?_
  refine gN_MS_count (i := ((Int32.toNatClampNeg a1))) F w (Nat.lt_of_lt_of_le (inB_lt hb7) (by decide)) (by simp [NF]) dX8_complement_29 ?_
  refine lv_isub F.1 F.2.1 dX8_complement_32 ?_
  refine lv_bipush (v := 24) F.1 F.2.1 dX8_complement_33 (by decide) ?_
  refine lv_icmp_le (tgt := 48) F.1 F.2.1 dX8_complement_35 (by decide) (fun c8 => ?_) (fun c8 => ?_)
  · replace hf := oi_t hf c8
    refine lv_aload_n F.1 F.2.1 dX8_complement_48 rfl (lv_at hl 0 rfl) ?_
    refine g_RW_row F w q168 dX8_complement_49 ?_
    refine lv_aload_n F.1 F.2.1 dX8_complement_52 rfl (lv_at hl 0 rfl) ?_
    refine g_RW_now F w q162 dX8_complement_53 ?_
    refine gN_ST_sets (i := 0) F w (by decide) (by simp [NF]) dX8_complement_56 ?_
    refine lv_iload_n F.1 F.2.1 dX8_complement_59 rfl (lv_at hl 1 rfl) ?_
    obtain ⟨hb9, hf⟩ := oi_g hf
    refine r_now F w hb9 dX8_complement_60 ?_
    obtain ⟨S10, hc, hf⟩ := oi_v hf
    refine k_v0 (S' := S10) w (runV (As := [.ref (x.2.2 (2 * ((Int32.toNatClampNeg a1))))]) (rest := []) (kb := 48 + 2 * 0) F w (k_X0_hold l x S5 0 ((Int32.toNatClampNeg a1)) (by decide) (Nat.lt_of_lt_of_le (inB_lt hb9) (by decide)) hc H.size) cy_X0_hold q304 q305 q306 ⟨rfl, rfl⟩ ⟨Nat.le_of_ble_eq_true rfl, Nat.le_of_ble_eq_true rfl⟩ (k_br (by decide)) (enc_br x S5 (by decide)) rfl rfl rfl hl.1 (Nat.le_of_ble_eq_true rfl) ⟨Nat.le_of_ble_eq_true rfl, Nat.le_of_ble_eq_true rfl⟩ dX8_complement_61) (fun H locs w => ?_)
    refine lv_aload_n F.1 F.2.1 dX8_complement_64 rfl (lv_at hl 0 rfl) ?_
    refine g_RW_made F w q164 dX8_complement_65 ?_
    obtain ⟨S11, hc, hf⟩ := oi_v hf
    refine k_v0 (S' := S11) w (runV (As := []) (rest := []) (kb := 2 * 20) F w (k_X2_empty l x S10 20 (by decide) hc H.size) cy_X2_empty q504 q455 q456 ⟨rfl, rfl⟩ ⟨Nat.le_of_ble_eq_true rfl, Nat.le_of_ble_eq_true rfl⟩ (k_ms (by decide)) (enc_ms x S10 (by decide)) rfl rfl rfl hl.1 (Nat.le_of_ble_eq_true rfl) ⟨Nat.le_of_ble_eq_true rfl, Nat.le_of_ble_eq_true rfl⟩ dX8_complement_68) (fun H locs w => ?_)
    refine lv_iconst (v := 0) F.1 F.2.1 dX8_complement_71 (by decide) ?_
    refine lv_istore_n (lv' := [(3, .int 0), (0, .ref (x.2.2 (79))), (1, .int a1), (2, .int a2)]) F.1 F.2.1 dX8_complement_72 rfl hl (by decide) rfl (fun ls hl => ?_)
    exact b_X8_complement_73 F ht hls FU _ _ _ _ w a2 0 (lv_sub hl [1, 3, 0] rfl) hf
  · replace hf := oi_f hf c8
    exact x_throw (E := eIS) (text := "the result would have too many marks") F ht hls w (oi_s hf) (by simp [XK]) xq_IS (by simp [XT]) hl.1 dX8_complement_38 dX8_complement_41 dX8_complement_42 dX8_complement_44 dX8_complement_47 (Nat.le_of_ble_eq_true rfl) (Nat.le_of_ble_eq_true rfl) (Nat.le_of_ble_eq_true rfl) (Nat.le_of_ble_eq_true rfl) (Nat.le_of_ble_eq_true rfl) (Nat.le_of_ble_eq_true rfl)
def f_X8_complement (S : ST) (a1 : Int32) (a2 : Int32) : Option (Nat × Int32 × ST) := f_X8_complement_0 S a1 a2
set_option maxHeartbeats 4000000 in
set_option maxRecDepth 100000 in
theorem k_X8_complement (l : Launch) (x : CX) (S : ST) (a1 : Int32) (a2 : Int32) {res : Nat × Int32 × ST} (hf : f_X8_complement S a1 a2 = some res) (hls : l.stackTraces = false) (sz : Nat) : vx_Met l yX8_complement (Cond.code yX8_complement cX8_complement 4 (some .int) :: GW) ({ frames := 7, cells := 4, slots := 24, locals := 150 } : Room) (PC x S sz [.ref (x.2.2 (79)), .int a1, .int a2]) (QXI x res.2.2 res.1 res.2.1 sz) (XX x res.2.2 res.1 sz) 4 24 (AA x sz) := by
  refine vx_ofW (cc := cX8_complement) (maxL := 4) (ret := (some .int)) (by decide) rfl ?_
  intro p e s m args below meth c s₁ B hml ht hv
  obtain ⟨rfl, rfl, hPW⟩ := hv
  have F : MF p m meth c cX8_complement 4 s _ RX8 (some .int) := MF.of B hml
  have w := WD.of hPW
  have hl := lv_entry ([.ref (x.2.2 (79)), .int a1, .int a2]) (n := 4) (Nat.le_of_ble_eq_true rfl)
  rw [lg_entry_eq]
  generalize (lg_sl ([.ref (x.2.2 (79)), .int a1, .int a2]) ++ List.replicate (4 - (lg_sl ([.ref (x.2.2 (79)), .int a1, .int a2])).length) Slot.unset).toArray = ls at hl ⊢
  have hl : lv_has ls 4 [(0, .ref (x.2.2 (79))), (1, .int a1), (2, .int a2)] := hl
  unfold f_X8_complement at hf
  exact b_X8_complement_0 F ht hls  _ _ _ _ w a1 a2 (lv_sub hl [0, 1, 2] rfl) hf
theorem cy_X8_reflect : CY yX8_reflect RX8 cX8_reflect 5 (some .int) 2 := ⟨q1, q660, rfl, by decide, by decide, by decide +kernel⟩
def f_X8_reflect_33 : Nat → ST → Int32 → Nat → Int32 → Option (Nat × Int32 × ST)
  | 0, _, _, _, _ => none
  | n + 1, S, a2, i3, a4 => (if a4 < 0 then oV (f_X8_replace S a2 (fi S (30 + 0))) (fun (S2 : ST) => some (0, (fi S2 20), S2)) else oB (f_X2_greatest S i3) (fun (r4 : Int32) (S3 : ST) => oB (f_X2_at S3 i3 a4) (fun (r6 : Int32) (S5 : ST) => oV (f_X2_push S5 20 (r4 - r6)) (fun (S7 : ST) => oL (a4 + (-1)) (fun (v8 : Int32) => (f_X8_reflect_33 n) S7 a2 i3 v8)))))
set_option maxHeartbeats 4000000 in
set_option maxRecDepth 100000 in
theorem b_X8_reflect_33 {p : Program} {l : Launch} {e : Env} {s : State} {m : MethodId} {args : Array Value} {below : List Frame} {meth : Method} {c : Code} {x : CX} {res : Nat × Int32 × ST} (F : MF p m meth c cX8_reflect 5 s args RX8 (some .int)) (ht : ∀ z ∈ c.exceptionTable.toList, False) (hls : l.stackTraces = false) : ∀ (n : Nat), ∀ (H : Heap) (locs : List Loc) (ls : Array Slot) (S : ST), WD x s S H locs → ∀ (a2 : Int32) (i3 : Nat) (a4 : Int32), i3 < 22 → lv_has ls 5 [(0, .ref (x.2.2 (79))), (2, .int a2), (3, .ref (x.2.2 (2 * i3))), (4, .int a4)] → f_X8_reflect_33 n S a2 i3 a4 = some res → W p l e ({ frames := 7, cells := 2, slots := 12, locals := 150 } : Room) s m args below meth c H locs 2 12 (vx_MQ below (QXI x res.2.2 res.1 res.2.1 s.heap.size) (XX x res.2.2 res.1 s.heap.size) args s 2 12 (AA x s.heap.size)) (F0 m 33 ls []) := by
  intro n
  induction n with
  | zero =>
    intro H locs ls S w a2 i3 a4 h3 hl hf
    have hf : (none : Option (Nat × Int32 × ST)) = some res := hf
    cases hf
  | succ n ih =>
    intro H locs ls S w a2 i3 a4 h3 hl hf
    unfold f_X8_reflect_33 at hf
    refine lv_iload F.1 F.2.1 dX8_reflect_33 (lv_at hl 3 rfl) ?_
    refine lv_if_lt (tgt := 62) F.1 F.2.1 dX8_reflect_35 (by decide) (fun c1 => ?_) (fun c1 => ?_)
    · replace hf := oi_t hf c1
      refine lv_aload_n F.1 F.2.1 dX8_reflect_62 rfl (lv_at hl 0 rfl) ?_
      refine lv_iload_n F.1 F.2.1 dX8_reflect_63 rfl (lv_at hl 1 rfl) ?_
      refine lv_aload_n F.1 F.2.1 dX8_reflect_64 rfl (lv_at hl 0 rfl) ?_
      refine g_RW_now F w q162 dX8_reflect_65 ?_
      refine gN_ST_modulus (i := 0) F w (by decide) (by simp [NF]) dX8_reflect_68 ?_
      obtain ⟨S2, hc, hf⟩ := oi_v hf
      refine k_v0 (S' := S2) w (runV (As := [.int a2, .int (fi S (30 + 0))]) (rest := []) (kb := 79) F w (k_X8_replace l x S a2 (fi S (30 + 0)) hc H.size) cy_X8_replace q462 q464 qp10 ⟨rfl, rfl⟩ ⟨Nat.le_of_ble_eq_true rfl, Nat.le_of_ble_eq_true rfl⟩ (by decide) rfl rfl rfl rfl hl.1 (Nat.le_of_ble_eq_true rfl) ⟨Nat.le_of_ble_eq_true rfl, Nat.le_of_ble_eq_true rfl⟩ dX8_reflect_71) (fun H locs w => ?_)
      refine lv_aload_n F.1 F.2.1 dX8_reflect_74 rfl (lv_at hl 0 rfl) ?_
      refine g_RW_made F w q164 dX8_reflect_75 ?_
      refine gN_MS_count (i := 20) F w (by decide) (by simp [NF]) dX8_reflect_78 ?_
      exact x_iret F w (oi_s hf) dX8_reflect_81
    · replace hf := oi_f hf c1
      refine lv_aload_n F.1 F.2.1 dX8_reflect_38 rfl (lv_at hl 0 rfl) ?_
      refine g_RW_made F w q164 dX8_reflect_39 ?_
      refine lv_aload_n F.1 F.2.1 dX8_reflect_42 rfl (lv_at hl 2 rfl) ?_
      obtain ⟨r4, S3, hc, hf⟩ := oi_b hf
      refine k_i0 (S' := S3) (r := r4) w (runV (As := []) (rest := [.ref (x.2.2 (2 * 20))]) (kb := 2 * i3) F w (k_X2_greatest l x S i3 h3 hc H.size) cy_X2_greatest q256 q257 q258 ⟨rfl, rfl⟩ ⟨Nat.le_of_ble_eq_true rfl, Nat.le_of_ble_eq_true rfl⟩ (k_ms h3) (enc_ms x S h3) rfl rfl rfl hl.1 (Nat.le_of_ble_eq_true rfl) ⟨Nat.le_of_ble_eq_true rfl, Nat.le_of_ble_eq_true rfl⟩ dX8_reflect_43) (fun H locs w => ?_)
      refine lv_aload_n F.1 F.2.1 dX8_reflect_46 rfl (lv_at hl 2 rfl) ?_
      refine lv_iload F.1 F.2.1 dX8_reflect_47 (lv_at hl 3 rfl) ?_
      obtain ⟨r6, S5, hc, hf⟩ := oi_b hf
      refine k_i0 (S' := S5) (r := r6) w (runV (As := [.int a4]) (rest := [.int r4, .ref (x.2.2 (2 * 20))]) (kb := 2 * i3) F w (k_X2_at l x S3 i3 a4 h3 hc H.size) cy_X2_at q241 q217 q218 ⟨rfl, rfl⟩ ⟨Nat.le_of_ble_eq_true rfl, Nat.le_of_ble_eq_true rfl⟩ (k_ms h3) (enc_ms x S3 h3) rfl rfl rfl hl.1 (Nat.le_of_ble_eq_true rfl) ⟨Nat.le_of_ble_eq_true rfl, Nat.le_of_ble_eq_true rfl⟩ dX8_reflect_49) (fun H locs w => ?_)
      refine lv_isub F.1 F.2.1 dX8_reflect_52 ?_
      obtain ⟨S7, hc, hf⟩ := oi_v hf
      refine k_v0 (S' := S7) w (runV (As := [.int (r4 - r6)]) (rest := []) (kb := 2 * 20) F w (k_X2_push l x S5 20 (r4 - r6) (by decide) hc H.size) cy_X2_push q653 q459 q460 ⟨rfl, rfl⟩ ⟨Nat.le_of_ble_eq_true rfl, Nat.le_of_ble_eq_true rfl⟩ (k_ms (by decide)) (enc_ms x S5 (by decide)) rfl rfl rfl hl.1 (Nat.le_of_ble_eq_true rfl) ⟨Nat.le_of_ble_eq_true rfl, Nat.le_of_ble_eq_true rfl⟩ dX8_reflect_53) (fun H locs w => ?_)
      obtain ⟨v8, e_v8⟩ : ∃ y : Int32, y = (a4 + (-1)) := ⟨_, rfl⟩
      replace hf := oi_l hf e_v8
      refine lv_iinc (v := v8) (lv' := [(4, .int v8), (0, .ref (x.2.2 (79))), (2, .int a2), (3, .ref (x.2.2 (2 * i3)))]) F.1 F.2.1 dX8_reflect_56 hl (k := 3) rfl (by rw [e_v8]; rfl) (by decide) rfl (fun ls hl => ?_)
      refine lv_goto (tgt := 33) F.1 F.2.1 dX8_reflect_59 (by decide) ?_
      exact ih _ _ _ _ w a2 i3 v8 h3 (lv_sub hl [1, 2, 3, 0] rfl) hf
def f_X8_reflect_0 (S : ST) (a1 : Int32) (a2 : Int32) : Option (Nat × Int32 × ST) := oX (f_X8_needSet S a1) (0 : Int32) (fun (S1 : ST) => oX (f_X8_needSet S1 a2) (0 : Int32) (fun (S3 : ST) => oG (inB a1 4) (oV (f_X2_empty S3 20) (fun (S6 : ST) => oL ((fi S6 ((Int32.toNatClampNeg a1))) - (1 : Int32)) (fun (v7 : Int32) => f_X8_reflect_33 FU S6 a2 ((Int32.toNatClampNeg a1)) v7)))))
set_option maxHeartbeats 4000000 in
set_option maxRecDepth 100000 in
theorem b_X8_reflect_0 {p : Program} {l : Launch} {e : Env} {s : State} {m : MethodId} {args : Array Value} {below : List Frame} {meth : Method} {c : Code} {x : CX} {res : Nat × Int32 × ST} (F : MF p m meth c cX8_reflect 5 s args RX8 (some .int)) (ht : ∀ z ∈ c.exceptionTable.toList, False) (hls : l.stackTraces = false) : ∀ (H : Heap) (locs : List Loc) (ls : Array Slot) (S : ST), WD x s S H locs → ∀ (a1 : Int32) (a2 : Int32), lv_has ls 5 [(0, .ref (x.2.2 (79))), (1, .int a1), (2, .int a2)] → f_X8_reflect_0 S a1 a2 = some res → W p l e ({ frames := 7, cells := 2, slots := 12, locals := 150 } : Room) s m args below meth c H locs 0 0 (vx_MQ below (QXI x res.2.2 res.1 res.2.1 s.heap.size) (XX x res.2.2 res.1 s.heap.size) args s 2 12 (AA x s.heap.size)) (F0 m 0 ls []) := by
  intro H locs ls S w a1 a2 hl hf
  unfold f_X8_reflect_0 at hf
  refine lv_iload_n F.1 F.2.1 dX8_reflect_0 rfl (lv_at hl 1 rfl) ?_
  obtain ⟨n2, S1, hc, hf, hx⟩ := oi_x hf
  refine kx_v (S1 := S1) (n1 := n2) F ht w (xrunS (As := [.int a1]) (rest := []) F w (k_X8_needSet l x S a1 hc hls H.size) cy_X8_needSet q342 q343 ⟨rfl, rfl⟩ ⟨Nat.le_of_ble_eq_true rfl, Nat.le_of_ble_eq_true rfl⟩ rfl rfl hl.1 (Nat.le_of_ble_eq_true rfl) ⟨Nat.le_of_ble_eq_true rfl, Nat.le_of_ble_eq_true rfl⟩ dX8_reflect_1) hx (Nat.le_of_ble_eq_true rfl) (Nat.le_of_ble_eq_true rfl) (fun hn H locs w => ?_)
  replace hf := hf hn
  refine lv_iload_n F.1 F.2.1 dX8_reflect_4 rfl (lv_at hl 2 rfl) ?_
  obtain ⟨n4, S3, hc, hf, hx⟩ := oi_x hf
  refine kx_v (S1 := S3) (n1 := n4) F ht w (xrunS (As := [.int a2]) (rest := []) F w (k_X8_needSet l x S1 a2 hc hls H.size) cy_X8_needSet q342 q343 ⟨rfl, rfl⟩ ⟨Nat.le_of_ble_eq_true rfl, Nat.le_of_ble_eq_true rfl⟩ rfl rfl hl.1 (Nat.le_of_ble_eq_true rfl) ⟨Nat.le_of_ble_eq_true rfl, Nat.le_of_ble_eq_true rfl⟩ dX8_reflect_5) hx (Nat.le_of_ble_eq_true rfl) (Nat.le_of_ble_eq_true rfl) (fun hn H locs w => ?_)
  replace hf := hf hn
  refine lv_aload_n F.1 F.2.1 dX8_reflect_8 rfl (lv_at hl 0 rfl) ?_
  refine g_RW_now F w q162 dX8_reflect_9 ?_
  refine gN_ST_sets (i := 0) F w (by decide) (by simp [NF]) dX8_reflect_12 ?_
  refine lv_iload_n F.1 F.2.1 dX8_reflect_15 rfl (lv_at hl 1 rfl) ?_
  obtain ⟨hb5, hf⟩ := oi_g hf
  refine r_now F w hb5 dX8_reflect_16 ?_
  refine lv_astore_n (lv' := [(3, .ref (x.2.2 (2 * ((Int32.toNatClampNeg a1))))), (0, .ref (x.2.2 (79))), (1, .int a1), (2, .int a2)]) F.1 F.2.1 dX8_reflect_17 rfl hl (by decide) rfl (fun ls hl => ?_)
  refine lv_aload_n F.1 F.2.1 dX8_reflect_18 rfl (lv_at hl 1 rfl) ?_
  refine g_RW_made F w q164 dX8_reflect_19 ?_
  obtain ⟨S6, hc, hf⟩ := oi_v hf
  refine k_v0 (S' := S6) w (runV (As := []) (rest := []) (kb := 2 * 20) F w (k_X2_empty l x S3 20 (by decide) hc H.size) cy_X2_empty q504 q455 q456 ⟨rfl, rfl⟩ ⟨Nat.le_of_ble_eq_true rfl, Nat.le_of_ble_eq_true rfl⟩ (k_ms (by decide)) (enc_ms x S3 (by decide)) rfl rfl rfl hl.1 (Nat.le_of_ble_eq_true rfl) ⟨Nat.le_of_ble_eq_true rfl, Nat.le_of_ble_eq_true rfl⟩ dX8_reflect_22) (fun H locs w => ?_)
  refine lv_aload_n F.1 F.2.1 dX8_reflect_25 rfl (lv_at hl 0 rfl) ?_
  refine gN_MS_count (i := ((Int32.toNatClampNeg a1))) F w (Nat.lt_of_lt_of_le (inB_lt hb5) (by decide)) (by simp [NF]) dX8_reflect_26 ?_
  refine lv_iconst (v := 1) F.1 F.2.1 dX8_reflect_29 (by decide) ?_
  refine lv_isub F.1 F.2.1 dX8_reflect_30 ?_
  refine lv_topi (fun v7 e_v7 => ?_)
  replace hf := oi_l hf e_v7
  refine lv_istore (lv' := [(4, .int v7), (3, .ref (x.2.2 (2 * ((Int32.toNatClampNeg a1))))), (0, .ref (x.2.2 (79))), (1, .int a1), (2, .int a2)]) F.1 F.2.1 dX8_reflect_31 hl (by decide) rfl (fun ls hl => ?_)
  exact b_X8_reflect_33 F ht hls FU _ _ _ _ w a2 ((Int32.toNatClampNeg a1)) v7 (Nat.lt_of_lt_of_le (inB_lt hb5) (by decide)) (lv_sub hl [2, 4, 1, 0] rfl) hf
def f_X8_reflect (S : ST) (a1 : Int32) (a2 : Int32) : Option (Nat × Int32 × ST) := f_X8_reflect_0 S a1 a2
set_option maxHeartbeats 4000000 in
set_option maxRecDepth 100000 in
theorem k_X8_reflect (l : Launch) (x : CX) (S : ST) (a1 : Int32) (a2 : Int32) {res : Nat × Int32 × ST} (hf : f_X8_reflect S a1 a2 = some res) (hls : l.stackTraces = false) (sz : Nat) : vx_Met l yX8_reflect (Cond.code yX8_reflect cX8_reflect 5 (some .int) :: GW) ({ frames := 7, cells := 2, slots := 12, locals := 150 } : Room) (PC x S sz [.ref (x.2.2 (79)), .int a1, .int a2]) (QXI x res.2.2 res.1 res.2.1 sz) (XX x res.2.2 res.1 sz) 2 12 (AA x sz) := by
  refine vx_ofW (cc := cX8_reflect) (maxL := 5) (ret := (some .int)) (by decide) rfl ?_
  intro p e s m args below meth c s₁ B hml ht hv
  obtain ⟨rfl, rfl, hPW⟩ := hv
  have F : MF p m meth c cX8_reflect 5 s _ RX8 (some .int) := MF.of B hml
  have w := WD.of hPW
  have hl := lv_entry ([.ref (x.2.2 (79)), .int a1, .int a2]) (n := 5) (Nat.le_of_ble_eq_true rfl)
  rw [lg_entry_eq]
  generalize (lg_sl ([.ref (x.2.2 (79)), .int a1, .int a2]) ++ List.replicate (5 - (lg_sl ([.ref (x.2.2 (79)), .int a1, .int a2])).length) Slot.unset).toArray = ls at hl ⊢
  have hl : lv_has ls 5 [(0, .ref (x.2.2 (79))), (1, .int a1), (2, .int a2)] := hl
  unfold f_X8_reflect at hf
  exact b_X8_reflect_0 F ht hls  _ _ _ _ w a1 a2 (lv_sub hl [0, 1, 2] rfl) hf
theorem cy_X8_multipliers : CY yX8_multipliers RX8 cX8_multipliers 2 (some .int) 1 := ⟨q1, q667, rfl, by decide, by decide, by decide +kernel⟩
def f_X8_multipliers_0 (S : ST) (a1 : Int32) : Option (Nat × Int32 × ST) := oX (f_X8_needSet S a1) (0 : Int32) (fun (S1 : ST) => oX (f_X8_needBelowModulus S1 a1) (0 : Int32) (fun (S3 : ST) => oG (inB a1 4) (oB (f_X8_countMultipliers S3 ((Int32.toNatClampNeg a1))) (fun (r7 : Int32) (S6 : ST) => some (0, r7, S6)))))
set_option maxHeartbeats 4000000 in
set_option maxRecDepth 100000 in
theorem b_X8_multipliers_0 {p : Program} {l : Launch} {e : Env} {s : State} {m : MethodId} {args : Array Value} {below : List Frame} {meth : Method} {c : Code} {x : CX} {res : Nat × Int32 × ST} (F : MF p m meth c cX8_multipliers 2 s args RX8 (some .int)) (ht : ∀ z ∈ c.exceptionTable.toList, False) (hls : l.stackTraces = false) : ∀ (H : Heap) (locs : List Loc) (ls : Array Slot) (S : ST), WD x s S H locs → ∀ (a1 : Int32), lv_has ls 2 [(0, .ref (x.2.2 (79))), (1, .int a1)] → f_X8_multipliers_0 S a1 = some res → W p l e ({ frames := 7, cells := 2, slots := 12, locals := 121 } : Room) s m args below meth c H locs 0 0 (vx_MQ below (QXI x res.2.2 res.1 res.2.1 s.heap.size) (XX x res.2.2 res.1 s.heap.size) args s 2 12 (AA x s.heap.size)) (F0 m 0 ls []) := by
  intro H locs ls S w a1 hl hf
  unfold f_X8_multipliers_0 at hf
  refine lv_iload_n F.1 F.2.1 dX8_multipliers_0 rfl (lv_at hl 1 rfl) ?_
  obtain ⟨n2, S1, hc, hf, hx⟩ := oi_x hf
  refine kx_v (S1 := S1) (n1 := n2) F ht w (xrunS (As := [.int a1]) (rest := []) F w (k_X8_needSet l x S a1 hc hls H.size) cy_X8_needSet q342 q343 ⟨rfl, rfl⟩ ⟨Nat.le_of_ble_eq_true rfl, Nat.le_of_ble_eq_true rfl⟩ rfl rfl hl.1 (Nat.le_of_ble_eq_true rfl) ⟨Nat.le_of_ble_eq_true rfl, Nat.le_of_ble_eq_true rfl⟩ dX8_multipliers_1) hx (Nat.le_of_ble_eq_true rfl) (Nat.le_of_ble_eq_true rfl) (fun hn H locs w => ?_)
  replace hf := hf hn
  refine lv_aload_n F.1 F.2.1 dX8_multipliers_4 rfl (lv_at hl 0 rfl) ?_
  refine lv_iload_n F.1 F.2.1 dX8_multipliers_5 rfl (lv_at hl 1 rfl) ?_
  obtain ⟨n4, S3, hc, hf, hx⟩ := oi_x hf
  refine kx_v (S1 := S3) (n1 := n4) F ht w (xrunV (As := [.int a1]) (rest := []) (kb := 79) F w (k_X8_needBelowModulus l x S1 a1 hc hls H.size) cy_X8_needBelowModulus q595 q597 qp11 ⟨rfl, rfl⟩ ⟨Nat.le_of_ble_eq_true rfl, Nat.le_of_ble_eq_true rfl⟩ (by decide) rfl rfl rfl rfl hl.1 (Nat.le_of_ble_eq_true rfl) ⟨Nat.le_of_ble_eq_true rfl, Nat.le_of_ble_eq_true rfl⟩ dX8_multipliers_6) hx (Nat.le_of_ble_eq_true rfl) (Nat.le_of_ble_eq_true rfl) (fun hn H locs w => ?_)
  replace hf := hf hn
  refine lv_aload_n F.1 F.2.1 dX8_multipliers_9 rfl (lv_at hl 0 rfl) ?_
  refine lv_aload_n F.1 F.2.1 dX8_multipliers_10 rfl (lv_at hl 0 rfl) ?_
  refine g_RW_now F w q162 dX8_multipliers_11 ?_
  refine gN_ST_sets (i := 0) F w (by decide) (by simp [NF]) dX8_multipliers_14 ?_
  refine lv_iload_n F.1 F.2.1 dX8_multipliers_17 rfl (lv_at hl 1 rfl) ?_
  obtain ⟨hb5, hf⟩ := oi_g hf
  refine r_now F w hb5 dX8_multipliers_18 ?_
  obtain ⟨r7, S6, hc, hf⟩ := oi_b hf
  refine k_i0 (S' := S6) (r := r7) w (runV (As := [.ref (x.2.2 (2 * ((Int32.toNatClampNeg a1))))]) (rest := []) (kb := 79) F w (k_X8_countMultipliers l x S3 ((Int32.toNatClampNeg a1)) (Nat.lt_of_lt_of_le (inB_lt hb5) (by decide)) hc H.size) cy_X8_countMultipliers q290 q292 qp4 ⟨rfl, rfl⟩ ⟨Nat.le_of_ble_eq_true rfl, Nat.le_of_ble_eq_true rfl⟩ (by decide) rfl rfl rfl rfl hl.1 (Nat.le_of_ble_eq_true rfl) ⟨Nat.le_of_ble_eq_true rfl, Nat.le_of_ble_eq_true rfl⟩ dX8_multipliers_19) (fun H locs w => ?_)
  exact x_iret F w (oi_s hf) dX8_multipliers_22
def f_X8_multipliers (S : ST) (a1 : Int32) : Option (Nat × Int32 × ST) := f_X8_multipliers_0 S a1
set_option maxHeartbeats 4000000 in
set_option maxRecDepth 100000 in
theorem k_X8_multipliers (l : Launch) (x : CX) (S : ST) (a1 : Int32) {res : Nat × Int32 × ST} (hf : f_X8_multipliers S a1 = some res) (hls : l.stackTraces = false) (sz : Nat) : vx_Met l yX8_multipliers (Cond.code yX8_multipliers cX8_multipliers 2 (some .int) :: GW) ({ frames := 7, cells := 2, slots := 12, locals := 121 } : Room) (PC x S sz [.ref (x.2.2 (79)), .int a1]) (QXI x res.2.2 res.1 res.2.1 sz) (XX x res.2.2 res.1 sz) 2 12 (AA x sz) := by
  refine vx_ofW (cc := cX8_multipliers) (maxL := 2) (ret := (some .int)) (by decide) rfl ?_
  intro p e s m args below meth c s₁ B hml ht hv
  obtain ⟨rfl, rfl, hPW⟩ := hv
  have F : MF p m meth c cX8_multipliers 2 s _ RX8 (some .int) := MF.of B hml
  have w := WD.of hPW
  have hl := lv_entry ([.ref (x.2.2 (79)), .int a1]) (n := 2) (Nat.le_of_ble_eq_true rfl)
  rw [lg_entry_eq]
  generalize (lg_sl ([.ref (x.2.2 (79)), .int a1]) ++ List.replicate (2 - (lg_sl ([.ref (x.2.2 (79)), .int a1])).length) Slot.unset).toArray = ls at hl ⊢
  have hl : lv_has ls 2 [(0, .ref (x.2.2 (79))), (1, .int a1)] := hl
  unfold f_X8_multipliers at hf
  exact b_X8_multipliers_0 F ht hls  _ _ _ _ w a1 (lv_sub hl [0, 1] rfl) hf
theorem cy_X8_canonical : CY yX8_canonical RX8 cX8_canonical 3 (some .int) 2 := ⟨q1, q674, rfl, by decide, by decide, by decide +kernel⟩
def f_X8_canonical_0 (S : ST) (a1 : Int32) (a2 : Int32) : Option (Nat × Int32 × ST) := oX (f_X8_needSet S a1) (0 : Int32) (fun (S1 : ST) => oX (f_X8_needSet S1 a2) (0 : Int32) (fun (S3 : ST) => oG (inB a1 4) ((if (fi S3 ((Int32.toNatClampNeg a1))) = 0 then some (3, 0, S3) else oX (f_X8_needBelowModulus S3 a1) (0 : Int32) (fun (S7 : ST) => oG (inB a1 4) (oV (f_X8_makeCanonical S7 ((Int32.toNatClampNeg a1))) (fun (S10 : ST) => oV (f_X8_replace S10 a2 (fi S10 (30 + 0))) (fun (S11 : ST) => some (0, (fi S11 20), S11)))))))))
set_option maxHeartbeats 4000000 in
set_option maxRecDepth 100000 in
theorem b_X8_canonical_0 {p : Program} {l : Launch} {e : Env} {s : State} {m : MethodId} {args : Array Value} {below : List Frame} {meth : Method} {c : Code} {x : CX} {res : Nat × Int32 × ST} (F : MF p m meth c cX8_canonical 3 s args RX8 (some .int)) (ht : ∀ z ∈ c.exceptionTable.toList, False) (hls : l.stackTraces = false) : ∀ (H : Heap) (locs : List Loc) (ls : Array Slot) (S : ST), WD x s S H locs → ∀ (a1 : Int32) (a2 : Int32), lv_has ls 3 [(0, .ref (x.2.2 (79))), (1, .int a1), (2, .int a2)] → f_X8_canonical_0 S a1 a2 = some res → W p l e ({ frames := 7, cells := 4, slots := 24, locals := 150 } : Room) s m args below meth c H locs 0 0 (vx_MQ below (QXI x res.2.2 res.1 res.2.1 s.heap.size) (XX x res.2.2 res.1 s.heap.size) args s 4 24 (AA x s.heap.size)) (F0 m 0 ls []) := by
  intro H locs ls S w a1 a2 hl hf
  unfold f_X8_canonical_0 at hf
  refine lv_iload_n F.1 F.2.1 dX8_canonical_0 rfl (lv_at hl 1 rfl) ?_
  obtain ⟨n2, S1, hc, hf, hx⟩ := oi_x hf
  refine kx_v (S1 := S1) (n1 := n2) F ht w (xrunS (As := [.int a1]) (rest := []) F w (k_X8_needSet l x S a1 hc hls H.size) cy_X8_needSet q342 q343 ⟨rfl, rfl⟩ ⟨Nat.le_of_ble_eq_true rfl, Nat.le_of_ble_eq_true rfl⟩ rfl rfl hl.1 (Nat.le_of_ble_eq_true rfl) ⟨Nat.le_of_ble_eq_true rfl, Nat.le_of_ble_eq_true rfl⟩ dX8_canonical_1) hx (Nat.le_of_ble_eq_true rfl) (Nat.le_of_ble_eq_true rfl) (fun hn H locs w => ?_)
  replace hf := hf hn
  refine lv_iload_n F.1 F.2.1 dX8_canonical_4 rfl (lv_at hl 2 rfl) ?_
  obtain ⟨n4, S3, hc, hf, hx⟩ := oi_x hf
  refine kx_v (S1 := S3) (n1 := n4) F ht w (xrunS (As := [.int a2]) (rest := []) F w (k_X8_needSet l x S1 a2 hc hls H.size) cy_X8_needSet q342 q343 ⟨rfl, rfl⟩ ⟨Nat.le_of_ble_eq_true rfl, Nat.le_of_ble_eq_true rfl⟩ rfl rfl hl.1 (Nat.le_of_ble_eq_true rfl) ⟨Nat.le_of_ble_eq_true rfl, Nat.le_of_ble_eq_true rfl⟩ dX8_canonical_5) hx (Nat.le_of_ble_eq_true rfl) (Nat.le_of_ble_eq_true rfl) (fun hn H locs w => ?_)
  replace hf := hf hn
  refine lv_aload_n F.1 F.2.1 dX8_canonical_8 rfl (lv_at hl 0 rfl) ?_
  refine g_RW_now F w q162 dX8_canonical_9 ?_
  refine gN_ST_sets (i := 0) F w (by decide) (by simp [NF]) dX8_canonical_12 ?_
  refine lv_iload_n F.1 F.2.1 dX8_canonical_15 rfl (lv_at hl 1 rfl) ?_
  obtain ⟨hb5, hf⟩ := oi_g hf
  refine r_now F w hb5 dX8_canonical_16 ?_
  refine gN_MS_count (i := ((Int32.toNatClampNeg a1))) F w (Nat.lt_of_lt_of_le (inB_lt hb5) (by decide)) (by simp [NF]) dX8_canonical_17 ?_
  refine lv_if_ne (tgt := 33) F.1 F.2.1 dX8_canonical_20 (by decide) (fun c6 => ?_) (fun c6 => ?_)
  · replace hf := oi_f hf c6
    refine lv_aload_n F.1 F.2.1 dX8_canonical_33 rfl (lv_at hl 0 rfl) ?_
    refine lv_iload_n F.1 F.2.1 dX8_canonical_34 rfl (lv_at hl 1 rfl) ?_
    obtain ⟨n8, S7, hc, hf, hx⟩ := oi_x hf
    refine kx_v (S1 := S7) (n1 := n8) F ht w (xrunV (As := [.int a1]) (rest := []) (kb := 79) F w (k_X8_needBelowModulus l x S3 a1 hc hls H.size) cy_X8_needBelowModulus q595 q597 qp11 ⟨rfl, rfl⟩ ⟨Nat.le_of_ble_eq_true rfl, Nat.le_of_ble_eq_true rfl⟩ (by decide) rfl rfl rfl rfl hl.1 (Nat.le_of_ble_eq_true rfl) ⟨Nat.le_of_ble_eq_true rfl, Nat.le_of_ble_eq_true rfl⟩ dX8_canonical_35) hx (Nat.le_of_ble_eq_true rfl) (Nat.le_of_ble_eq_true rfl) (fun hn H locs w => ?_)
    replace hf := hf hn
    refine lv_aload_n F.1 F.2.1 dX8_canonical_38 rfl (lv_at hl 0 rfl) ?_
    refine lv_aload_n F.1 F.2.1 dX8_canonical_39 rfl (lv_at hl 0 rfl) ?_
    refine g_RW_now F w q162 dX8_canonical_40 ?_
    refine gN_ST_sets (i := 0) F w (by decide) (by simp [NF]) dX8_canonical_43 ?_
    refine lv_iload_n F.1 F.2.1 dX8_canonical_46 rfl (lv_at hl 1 rfl) ?_
    obtain ⟨hb9, hf⟩ := oi_g hf
    refine r_now F w hb9 dX8_canonical_47 ?_
    obtain ⟨S10, hc, hf⟩ := oi_v hf
    refine k_v0 (S' := S10) w (runV (As := [.ref (x.2.2 (2 * ((Int32.toNatClampNeg a1))))]) (rest := []) (kb := 79) F w (k_X8_makeCanonical l x S7 ((Int32.toNatClampNeg a1)) (Nat.lt_of_lt_of_le (inB_lt hb9) (by decide)) hc H.size) cy_X8_makeCanonical q676 q678 qp13 ⟨rfl, rfl⟩ ⟨Nat.le_of_ble_eq_true rfl, Nat.le_of_ble_eq_true rfl⟩ (by decide) rfl rfl rfl rfl hl.1 (Nat.le_of_ble_eq_true rfl) ⟨Nat.le_of_ble_eq_true rfl, Nat.le_of_ble_eq_true rfl⟩ dX8_canonical_48) (fun H locs w => ?_)
    refine lv_aload_n F.1 F.2.1 dX8_canonical_51 rfl (lv_at hl 0 rfl) ?_
    refine lv_iload_n F.1 F.2.1 dX8_canonical_52 rfl (lv_at hl 2 rfl) ?_
    refine lv_aload_n F.1 F.2.1 dX8_canonical_53 rfl (lv_at hl 0 rfl) ?_
    refine g_RW_now F w q162 dX8_canonical_54 ?_
    refine gN_ST_modulus (i := 0) F w (by decide) (by simp [NF]) dX8_canonical_57 ?_
    obtain ⟨S11, hc, hf⟩ := oi_v hf
    refine k_v0 (S' := S11) w (runV (As := [.int a2, .int (fi S10 (30 + 0))]) (rest := []) (kb := 79) F w (k_X8_replace l x S10 a2 (fi S10 (30 + 0)) hc H.size) cy_X8_replace q462 q464 qp10 ⟨rfl, rfl⟩ ⟨Nat.le_of_ble_eq_true rfl, Nat.le_of_ble_eq_true rfl⟩ (by decide) rfl rfl rfl rfl hl.1 (Nat.le_of_ble_eq_true rfl) ⟨Nat.le_of_ble_eq_true rfl, Nat.le_of_ble_eq_true rfl⟩ dX8_canonical_60) (fun H locs w => ?_)
    refine lv_aload_n F.1 F.2.1 dX8_canonical_63 rfl (lv_at hl 0 rfl) ?_
    refine g_RW_made F w q164 dX8_canonical_64 ?_
    refine gN_MS_count (i := 20) F w (by decide) (by simp [NF]) dX8_canonical_67 ?_
    refine W.widen (k := 4) (n := 24) (by decide) (by decide) ?_
    exact x_iret F w (oi_s hf) dX8_canonical_70
  · replace hf := oi_t hf c6
    exact x_throw (E := eIS) (text := "the set is empty") F ht hls w (oi_s hf) (by simp [XK]) xq_IS (by simp [XT]) hl.1 dX8_canonical_23 dX8_canonical_26 dX8_canonical_27 dX8_canonical_29 dX8_canonical_32 (Nat.le_of_ble_eq_true rfl) (Nat.le_of_ble_eq_true rfl) (Nat.le_of_ble_eq_true rfl) (Nat.le_of_ble_eq_true rfl) (Nat.le_of_ble_eq_true rfl) (Nat.le_of_ble_eq_true rfl)
def f_X8_canonical (S : ST) (a1 : Int32) (a2 : Int32) : Option (Nat × Int32 × ST) := f_X8_canonical_0 S a1 a2
set_option maxHeartbeats 4000000 in
set_option maxRecDepth 100000 in
theorem k_X8_canonical (l : Launch) (x : CX) (S : ST) (a1 : Int32) (a2 : Int32) {res : Nat × Int32 × ST} (hf : f_X8_canonical S a1 a2 = some res) (hls : l.stackTraces = false) (sz : Nat) : vx_Met l yX8_canonical (Cond.code yX8_canonical cX8_canonical 3 (some .int) :: GW) ({ frames := 7, cells := 4, slots := 24, locals := 150 } : Room) (PC x S sz [.ref (x.2.2 (79)), .int a1, .int a2]) (QXI x res.2.2 res.1 res.2.1 sz) (XX x res.2.2 res.1 sz) 4 24 (AA x sz) := by
  refine vx_ofW (cc := cX8_canonical) (maxL := 3) (ret := (some .int)) (by decide) rfl ?_
  intro p e s m args below meth c s₁ B hml ht hv
  obtain ⟨rfl, rfl, hPW⟩ := hv
  have F : MF p m meth c cX8_canonical 3 s _ RX8 (some .int) := MF.of B hml
  have w := WD.of hPW
  have hl := lv_entry ([.ref (x.2.2 (79)), .int a1, .int a2]) (n := 3) (Nat.le_of_ble_eq_true rfl)
  rw [lg_entry_eq]
  generalize (lg_sl ([.ref (x.2.2 (79)), .int a1, .int a2]) ++ List.replicate (3 - (lg_sl ([.ref (x.2.2 (79)), .int a1, .int a2])).length) Slot.unset).toArray = ls at hl ⊢
  have hl : lv_has ls 3 [(0, .ref (x.2.2 (79))), (1, .int a1), (2, .int a2)] := hl
  unfold f_X8_canonical at hf
  exact b_X8_canonical_0 F ht hls  _ _ _ _ w a1 a2 (lv_sub hl [0, 1, 2] rfl) hf
theorem cy_X8_needPrime : CY yX8_needPrime RX8 cX8_needPrime 1 none 1 := ⟨q1, q738, rfl, by decide, by decide, by decide +kernel⟩
def f_X8_needPrime_18 (S : ST)  : Option (Nat × Unit × ST) := some (2, (), S)
set_option maxHeartbeats 4000000 in
set_option maxRecDepth 100000 in
theorem b_X8_needPrime_18 {p : Program} {l : Launch} {e : Env} {s : State} {m : MethodId} {args : Array Value} {below : List Frame} {meth : Method} {c : Code} {x : CX} {res : Nat × Unit × ST} (F : MF p m meth c cX8_needPrime 1 s args RX8 none) (ht : ∀ z ∈ c.exceptionTable.toList, False) (hls : l.stackTraces = false) : ∀ (H : Heap) (locs : List Loc) (ls : Array Slot) (S : ST), WD x s S H locs → lv_has ls 1 [] → f_X8_needPrime_18 S = some res → W p l e ({ frames := 6, cells := 1, slots := 6, locals := 100 } : Room) s m args below meth c H locs 0 0 (vx_MQ below (QXV x res.2.2 res.1 s.heap.size) (XX x res.2.2 res.1 s.heap.size) args s 1 6 (AA x s.heap.size)) (F0 m 18 ls []) := by
  intro H locs ls S w hl hf
  unfold f_X8_needPrime_18 at hf
  exact x_throwW (E := eIA) (text := "p is out of range or not a prime") F ht hls w (oi_s hf) (by simp [XK]) xq_IA (by simp [XT]) hl.1 dX8_needPrime_18 dX8_needPrime_21 dX8_needPrime_22 dX8_needPrime_25 dX8_needPrime_28 (Nat.le_of_ble_eq_true rfl) (Nat.le_of_ble_eq_true rfl) (Nat.le_of_ble_eq_true rfl) (Nat.le_of_ble_eq_true rfl) (Nat.le_of_ble_eq_true rfl) (Nat.le_of_ble_eq_true rfl)
def f_X8_needPrime_0 (S : ST) (a0 : Int32) : Option (Nat × Unit × ST) := (if a0 < 3 then f_X8_needPrime_18 S else (if 23 < a0 then f_X8_needPrime_18 S else oB (f_X8_isPrime S a0) (fun (r4 : Int32) (S3 : ST) => (if r4 = 0 then f_X8_needPrime_18 S3 else some (0, (), S3)))))
set_option maxHeartbeats 4000000 in
set_option maxRecDepth 100000 in
theorem b_X8_needPrime_0 {p : Program} {l : Launch} {e : Env} {s : State} {m : MethodId} {args : Array Value} {below : List Frame} {meth : Method} {c : Code} {x : CX} {res : Nat × Unit × ST} (F : MF p m meth c cX8_needPrime 1 s args RX8 none) (ht : ∀ z ∈ c.exceptionTable.toList, False) (hls : l.stackTraces = false) : ∀ (H : Heap) (locs : List Loc) (ls : Array Slot) (S : ST), WD x s S H locs → ∀ (a0 : Int32), lv_has ls 1 [(0, .int a0)] → f_X8_needPrime_0 S a0 = some res → W p l e ({ frames := 6, cells := 1, slots := 6, locals := 100 } : Room) s m args below meth c H locs 0 0 (vx_MQ below (QXV x res.2.2 res.1 s.heap.size) (XX x res.2.2 res.1 s.heap.size) args s 1 6 (AA x s.heap.size)) (F0 m 0 ls []) := by
  intro H locs ls S w a0 hl hf
  unfold f_X8_needPrime_0 at hf
  refine lv_iload_n F.1 F.2.1 dX8_needPrime_0 rfl (lv_at hl 0 rfl) ?_
  refine lv_iconst (v := 3) F.1 F.2.1 dX8_needPrime_1 (by decide) ?_
  refine lv_icmp_lt (tgt := 18) F.1 F.2.1 dX8_needPrime_2 (by decide) (fun c1 => ?_) (fun c1 => ?_)
  · replace hf := oi_t hf c1
    exact b_X8_needPrime_18 F ht hls  _ _ _ _ w  (lv_sub hl [] rfl) hf
  · replace hf := oi_f hf c1
    refine lv_iload_n F.1 F.2.1 dX8_needPrime_5 rfl (lv_at hl 0 rfl) ?_
    refine lv_bipush (v := 23) F.1 F.2.1 dX8_needPrime_6 (by decide) ?_
    refine lv_icmp_gt (tgt := 18) F.1 F.2.1 dX8_needPrime_8 (by decide) (fun c2 => ?_) (fun c2 => ?_)
    · replace hf := oi_t hf c2
      exact b_X8_needPrime_18 F ht hls  _ _ _ _ w  (lv_sub hl [] rfl) hf
    · replace hf := oi_f hf c2
      refine lv_iload_n F.1 F.2.1 dX8_needPrime_11 rfl (lv_at hl 0 rfl) ?_
      obtain ⟨r4, S3, hc, hf⟩ := oi_b hf
      refine k_i0 (S' := S3) (r := r4) w (runS (As := [.int a0]) (rest := []) F w (k_X8_isPrime l x S a0 hc H.size) cy_X8_isPrime q739 q740 ⟨rfl, rfl⟩ ⟨Nat.le_of_ble_eq_true rfl, Nat.le_of_ble_eq_true rfl⟩ rfl rfl hl.1 (Nat.le_of_ble_eq_true rfl) ⟨Nat.le_of_ble_eq_true rfl, Nat.le_of_ble_eq_true rfl⟩ dX8_needPrime_12) (fun H locs w => ?_)
      refine lv_if_ne (tgt := 29) F.1 F.2.1 dX8_needPrime_15 (by decide) (fun c5 => ?_) (fun c5 => ?_)
      · replace hf := oi_f hf c5
        refine W.widen (k := 1) (n := 6) (by decide) (by decide) ?_
        exact x_vret F w (oi_s hf) dX8_needPrime_29
      · replace hf := oi_t hf c5
        exact b_X8_needPrime_18 F ht hls  _ _ _ _ w  (lv_sub hl [] rfl) hf
def f_X8_needPrime (S : ST) (a0 : Int32) : Option (Nat × Unit × ST) := f_X8_needPrime_0 S a0
set_option maxHeartbeats 4000000 in
set_option maxRecDepth 100000 in
theorem k_X8_needPrime (l : Launch) (x : CX) (S : ST) (a0 : Int32) {res : Nat × Unit × ST} (hf : f_X8_needPrime S a0 = some res) (hls : l.stackTraces = false) (sz : Nat) : vx_Met l yX8_needPrime (Cond.code yX8_needPrime cX8_needPrime 1 none :: GW) ({ frames := 6, cells := 1, slots := 6, locals := 100 } : Room) (PC x S sz [.int a0]) (QXV x res.2.2 res.1 sz) (XX x res.2.2 res.1 sz) 1 6 (AA x sz) := by
  refine vx_ofW (cc := cX8_needPrime) (maxL := 1) (ret := none) (by decide) rfl ?_
  intro p e s m args below meth c s₁ B hml ht hv
  obtain ⟨rfl, rfl, hPW⟩ := hv
  have F : MF p m meth c cX8_needPrime 1 s _ RX8 none := MF.of B hml
  have w := WD.of hPW
  have hl := lv_entry ([.int a0]) (n := 1) (Nat.le_of_ble_eq_true rfl)
  rw [lg_entry_eq]
  generalize (lg_sl ([.int a0]) ++ List.replicate (1 - (lg_sl ([.int a0])).length) Slot.unset).toArray = ls at hl ⊢
  have hl : lv_has ls 1 [(0, .int a0)] := hl
  unfold f_X8_needPrime at hf
  exact b_X8_needPrime_0 F ht hls  _ _ _ _ w a0 (lv_sub hl [0] rfl) hf
theorem cy_X8_erdosTuran : CY yX8_erdosTuran RX8 cX8_erdosTuran 4 (some .int) 2 := ⟨q1, q735, rfl, by decide, by decide, by decide +kernel⟩
def f_X8_erdosTuran_17 : Nat → ST → Int32 → Int32 → Int32 → Option (Nat × Int32 × ST)
  | 0, _, _, _, _ => none
  | n + 1, S, a1, a2, a3 => (if a1 ≤ a3 then oV (f_X8_replace S a2 (fi S (30 + 0))) (fun (S2 : ST) => oB (f_X2_span S2 20) (fun (r4 : Int32) (S3 : ST) => some (0, r4, S3))) else oB (f_X8_residue S (a3 * a3) a1) (fun (r6 : Int32) (S5 : ST) => oV (f_X2_push S5 20 ((((2 : Int32) * a1) * a3) + r6)) (fun (S7 : ST) => oL (a3 + 1) (fun (v8 : Int32) => (f_X8_erdosTuran_17 n) S7 a1 a2 v8))))
set_option maxHeartbeats 4000000 in
set_option maxRecDepth 100000 in
theorem b_X8_erdosTuran_17 {p : Program} {l : Launch} {e : Env} {s : State} {m : MethodId} {args : Array Value} {below : List Frame} {meth : Method} {c : Code} {x : CX} {res : Nat × Int32 × ST} (F : MF p m meth c cX8_erdosTuran 4 s args RX8 (some .int)) (ht : ∀ z ∈ c.exceptionTable.toList, False) (hls : l.stackTraces = false) : ∀ (n : Nat), ∀ (H : Heap) (locs : List Loc) (ls : Array Slot) (S : ST), WD x s S H locs → ∀ (a1 : Int32) (a2 : Int32) (a3 : Int32), lv_has ls 4 [(0, .ref (x.2.2 (79))), (1, .int a1), (2, .int a2), (3, .int a3)] → f_X8_erdosTuran_17 n S a1 a2 a3 = some res → W p l e ({ frames := 7, cells := 2, slots := 12, locals := 150 } : Room) s m args below meth c H locs 2 12 (vx_MQ below (QXI x res.2.2 res.1 res.2.1 s.heap.size) (XX x res.2.2 res.1 s.heap.size) args s 2 12 (AA x s.heap.size)) (F0 m 17 ls []) := by
  intro n
  induction n with
  | zero =>
    intro H locs ls S w a1 a2 a3 hl hf
    have hf : (none : Option (Nat × Int32 × ST)) = some res := hf
    cases hf
  | succ n ih =>
    intro H locs ls S w a1 a2 a3 hl hf
    unfold f_X8_erdosTuran_17 at hf
    refine lv_iload_n F.1 F.2.1 dX8_erdosTuran_17 rfl (lv_at hl 3 rfl) ?_
    refine lv_iload_n F.1 F.2.1 dX8_erdosTuran_18 rfl (lv_at hl 1 rfl) ?_
    refine lv_icmp_ge (tgt := 48) F.1 F.2.1 dX8_erdosTuran_19 (by decide) (fun c1 => ?_) (fun c1 => ?_)
    · replace hf := oi_t hf c1
      refine lv_aload_n F.1 F.2.1 dX8_erdosTuran_48 rfl (lv_at hl 0 rfl) ?_
      refine lv_iload_n F.1 F.2.1 dX8_erdosTuran_49 rfl (lv_at hl 2 rfl) ?_
      refine lv_aload_n F.1 F.2.1 dX8_erdosTuran_50 rfl (lv_at hl 0 rfl) ?_
      refine g_RW_now F w q162 dX8_erdosTuran_51 ?_
      refine gN_ST_modulus (i := 0) F w (by decide) (by simp [NF]) dX8_erdosTuran_54 ?_
      obtain ⟨S2, hc, hf⟩ := oi_v hf
      refine k_v0 (S' := S2) w (runV (As := [.int a2, .int (fi S (30 + 0))]) (rest := []) (kb := 79) F w (k_X8_replace l x S a2 (fi S (30 + 0)) hc H.size) cy_X8_replace q462 q464 qp10 ⟨rfl, rfl⟩ ⟨Nat.le_of_ble_eq_true rfl, Nat.le_of_ble_eq_true rfl⟩ (by decide) rfl rfl rfl rfl hl.1 (Nat.le_of_ble_eq_true rfl) ⟨Nat.le_of_ble_eq_true rfl, Nat.le_of_ble_eq_true rfl⟩ dX8_erdosTuran_57) (fun H locs w => ?_)
      refine lv_aload_n F.1 F.2.1 dX8_erdosTuran_60 rfl (lv_at hl 0 rfl) ?_
      refine g_RW_made F w q164 dX8_erdosTuran_61 ?_
      obtain ⟨r4, S3, hc, hf⟩ := oi_b hf
      refine k_i0 (S' := S3) (r := r4) w (runV (As := []) (rest := []) (kb := 2 * 20) F w (k_X2_span l x S2 20 (by decide) hc H.size) cy_X2_span q534 q535 q536 ⟨rfl, rfl⟩ ⟨Nat.le_of_ble_eq_true rfl, Nat.le_of_ble_eq_true rfl⟩ (k_ms (by decide)) (enc_ms x S2 (by decide)) rfl rfl rfl hl.1 (Nat.le_of_ble_eq_true rfl) ⟨Nat.le_of_ble_eq_true rfl, Nat.le_of_ble_eq_true rfl⟩ dX8_erdosTuran_64) (fun H locs w => ?_)
      exact x_iret F w (oi_s hf) dX8_erdosTuran_67
    · replace hf := oi_f hf c1
      refine lv_aload_n F.1 F.2.1 dX8_erdosTuran_22 rfl (lv_at hl 0 rfl) ?_
      refine g_RW_made F w q164 dX8_erdosTuran_23 ?_
      refine lv_iconst (v := 2) F.1 F.2.1 dX8_erdosTuran_26 (by decide) ?_
      refine lv_iload_n F.1 F.2.1 dX8_erdosTuran_27 rfl (lv_at hl 1 rfl) ?_
      refine lv_imul F.1 F.2.1 dX8_erdosTuran_28 ?_
      refine lv_iload_n F.1 F.2.1 dX8_erdosTuran_29 rfl (lv_at hl 3 rfl) ?_
      refine lv_imul F.1 F.2.1 dX8_erdosTuran_30 ?_
      refine lv_iload_n F.1 F.2.1 dX8_erdosTuran_31 rfl (lv_at hl 3 rfl) ?_
      refine lv_iload_n F.1 F.2.1 dX8_erdosTuran_32 rfl (lv_at hl 3 rfl) ?_
      refine lv_imul F.1 F.2.1 dX8_erdosTuran_33 ?_
      refine lv_iload_n F.1 F.2.1 dX8_erdosTuran_34 rfl (lv_at hl 1 rfl) ?_
      obtain ⟨r6, S5, hc, hf⟩ := oi_b hf
      refine k_i0 (S' := S5) (r := r6) w (runS (As := [.int (a3 * a3), .int a1]) (rest := [.int (((2 : Int32) * a1) * a3), .ref (x.2.2 (2 * 20))]) F w (k_X8_residue l x S (a3 * a3) a1 hc H.size) cy_X8_residue q301 q302 ⟨rfl, rfl⟩ ⟨Nat.le_of_ble_eq_true rfl, Nat.le_of_ble_eq_true rfl⟩ rfl rfl hl.1 (Nat.le_of_ble_eq_true rfl) ⟨Nat.le_of_ble_eq_true rfl, Nat.le_of_ble_eq_true rfl⟩ dX8_erdosTuran_35) (fun H locs w => ?_)
      refine lv_iadd F.1 F.2.1 dX8_erdosTuran_38 ?_
      obtain ⟨S7, hc, hf⟩ := oi_v hf
      refine k_v0 (S' := S7) w (runV (As := [.int ((((2 : Int32) * a1) * a3) + r6)]) (rest := []) (kb := 2 * 20) F w (k_X2_push l x S5 20 ((((2 : Int32) * a1) * a3) + r6) (by decide) hc H.size) cy_X2_push q653 q459 q460 ⟨rfl, rfl⟩ ⟨Nat.le_of_ble_eq_true rfl, Nat.le_of_ble_eq_true rfl⟩ (k_ms (by decide)) (enc_ms x S5 (by decide)) rfl rfl rfl hl.1 (Nat.le_of_ble_eq_true rfl) ⟨Nat.le_of_ble_eq_true rfl, Nat.le_of_ble_eq_true rfl⟩ dX8_erdosTuran_39) (fun H locs w => ?_)
      obtain ⟨v8, e_v8⟩ : ∃ y : Int32, y = (a3 + 1) := ⟨_, rfl⟩
      replace hf := oi_l hf e_v8
      refine lv_iinc (v := v8) (lv' := [(3, .int v8), (0, .ref (x.2.2 (79))), (1, .int a1), (2, .int a2)]) F.1 F.2.1 dX8_erdosTuran_42 hl (k := 3) rfl (by rw [e_v8]; rfl) (by decide) rfl (fun ls hl => ?_)
      refine lv_goto (tgt := 17) F.1 F.2.1 dX8_erdosTuran_45 (by decide) ?_
      exact ih _ _ _ _ w a1 a2 v8 (lv_sub hl [1, 2, 3, 0] rfl) hf
def f_X8_erdosTuran_0 (S : ST) (a1 : Int32) (a2 : Int32) : Option (Nat × Int32 × ST) := oX (f_X8_needSet S a2) (0 : Int32) (fun (S1 : ST) => oX (f_X8_needPrime S1 a1) (0 : Int32) (fun (S3 : ST) => oV (f_X2_empty S3 20) (fun (S5 : ST) => f_X8_erdosTuran_17 FU S5 a1 a2 0)))
set_option maxHeartbeats 4000000 in
set_option maxRecDepth 100000 in
theorem b_X8_erdosTuran_0 {p : Program} {l : Launch} {e : Env} {s : State} {m : MethodId} {args : Array Value} {below : List Frame} {meth : Method} {c : Code} {x : CX} {res : Nat × Int32 × ST} (F : MF p m meth c cX8_erdosTuran 4 s args RX8 (some .int)) (ht : ∀ z ∈ c.exceptionTable.toList, False) (hls : l.stackTraces = false) : ∀ (H : Heap) (locs : List Loc) (ls : Array Slot) (S : ST), WD x s S H locs → ∀ (a1 : Int32) (a2 : Int32), lv_has ls 4 [(0, .ref (x.2.2 (79))), (1, .int a1), (2, .int a2)] → f_X8_erdosTuran_0 S a1 a2 = some res → W p l e ({ frames := 7, cells := 2, slots := 12, locals := 150 } : Room) s m args below meth c H locs 0 0 (vx_MQ below (QXI x res.2.2 res.1 res.2.1 s.heap.size) (XX x res.2.2 res.1 s.heap.size) args s 2 12 (AA x s.heap.size)) (F0 m 0 ls []) := by
  intro H locs ls S w a1 a2 hl hf
  unfold f_X8_erdosTuran_0 at hf
  refine lv_iload_n F.1 F.2.1 dX8_erdosTuran_0 rfl (lv_at hl 2 rfl) ?_
  obtain ⟨n2, S1, hc, hf, hx⟩ := oi_x hf
  refine kx_v (S1 := S1) (n1 := n2) F ht w (xrunS (As := [.int a2]) (rest := []) F w (k_X8_needSet l x S a2 hc hls H.size) cy_X8_needSet q342 q343 ⟨rfl, rfl⟩ ⟨Nat.le_of_ble_eq_true rfl, Nat.le_of_ble_eq_true rfl⟩ rfl rfl hl.1 (Nat.le_of_ble_eq_true rfl) ⟨Nat.le_of_ble_eq_true rfl, Nat.le_of_ble_eq_true rfl⟩ dX8_erdosTuran_1) hx (Nat.le_of_ble_eq_true rfl) (Nat.le_of_ble_eq_true rfl) (fun hn H locs w => ?_)
  replace hf := hf hn
  refine lv_iload_n F.1 F.2.1 dX8_erdosTuran_4 rfl (lv_at hl 1 rfl) ?_
  obtain ⟨n4, S3, hc, hf, hx⟩ := oi_x hf
  refine kx_v (S1 := S3) (n1 := n4) F ht w (xrunS (As := [.int a1]) (rest := []) F w (k_X8_needPrime l x S1 a1 hc hls H.size) cy_X8_needPrime q736 q737 ⟨rfl, rfl⟩ ⟨Nat.le_of_ble_eq_true rfl, Nat.le_of_ble_eq_true rfl⟩ rfl rfl hl.1 (Nat.le_of_ble_eq_true rfl) ⟨Nat.le_of_ble_eq_true rfl, Nat.le_of_ble_eq_true rfl⟩ dX8_erdosTuran_5) hx (Nat.le_of_ble_eq_true rfl) (Nat.le_of_ble_eq_true rfl) (fun hn H locs w => ?_)
  replace hf := hf hn
  refine lv_aload_n F.1 F.2.1 dX8_erdosTuran_8 rfl (lv_at hl 0 rfl) ?_
  refine g_RW_made F w q164 dX8_erdosTuran_9 ?_
  obtain ⟨S5, hc, hf⟩ := oi_v hf
  refine k_v0 (S' := S5) w (runV (As := []) (rest := []) (kb := 2 * 20) F w (k_X2_empty l x S3 20 (by decide) hc H.size) cy_X2_empty q504 q455 q456 ⟨rfl, rfl⟩ ⟨Nat.le_of_ble_eq_true rfl, Nat.le_of_ble_eq_true rfl⟩ (k_ms (by decide)) (enc_ms x S3 (by decide)) rfl rfl rfl hl.1 (Nat.le_of_ble_eq_true rfl) ⟨Nat.le_of_ble_eq_true rfl, Nat.le_of_ble_eq_true rfl⟩ dX8_erdosTuran_12) (fun H locs w => ?_)
  refine lv_iconst (v := 0) F.1 F.2.1 dX8_erdosTuran_15 (by decide) ?_
  refine lv_istore_n (lv' := [(3, .int 0), (0, .ref (x.2.2 (79))), (1, .int a1), (2, .int a2)]) F.1 F.2.1 dX8_erdosTuran_16 rfl hl (by decide) rfl (fun ls hl => ?_)
  exact b_X8_erdosTuran_17 F ht hls FU _ _ _ _ w a1 a2 0 (lv_sub hl [1, 2, 3, 0] rfl) hf
def f_X8_erdosTuran (S : ST) (a1 : Int32) (a2 : Int32) : Option (Nat × Int32 × ST) := f_X8_erdosTuran_0 S a1 a2
set_option maxHeartbeats 4000000 in
set_option maxRecDepth 100000 in
theorem k_X8_erdosTuran (l : Launch) (x : CX) (S : ST) (a1 : Int32) (a2 : Int32) {res : Nat × Int32 × ST} (hf : f_X8_erdosTuran S a1 a2 = some res) (hls : l.stackTraces = false) (sz : Nat) : vx_Met l yX8_erdosTuran (Cond.code yX8_erdosTuran cX8_erdosTuran 4 (some .int) :: GW) ({ frames := 7, cells := 2, slots := 12, locals := 150 } : Room) (PC x S sz [.ref (x.2.2 (79)), .int a1, .int a2]) (QXI x res.2.2 res.1 res.2.1 sz) (XX x res.2.2 res.1 sz) 2 12 (AA x sz) := by
  refine vx_ofW (cc := cX8_erdosTuran) (maxL := 4) (ret := (some .int)) (by decide) rfl ?_
  intro p e s m args below meth c s₁ B hml ht hv
  obtain ⟨rfl, rfl, hPW⟩ := hv
  have F : MF p m meth c cX8_erdosTuran 4 s _ RX8 (some .int) := MF.of B hml
  have w := WD.of hPW
  have hl := lv_entry ([.ref (x.2.2 (79)), .int a1, .int a2]) (n := 4) (Nat.le_of_ble_eq_true rfl)
  rw [lg_entry_eq]
  generalize (lg_sl ([.ref (x.2.2 (79)), .int a1, .int a2]) ++ List.replicate (4 - (lg_sl ([.ref (x.2.2 (79)), .int a1, .int a2])).length) Slot.unset).toArray = ls at hl ⊢
  have hl : lv_has ls 4 [(0, .ref (x.2.2 (79))), (1, .int a1), (2, .int a2)] := hl
  unfold f_X8_erdosTuran at hf
  exact b_X8_erdosTuran_0 F ht hls  _ _ _ _ w a1 a2 (lv_sub hl [0, 1, 2] rfl) hf
