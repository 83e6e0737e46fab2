theorem cy_X8_ruzsa : CY yX8_ruzsa RX8 cX8_ruzsa 7 (some .int) 3 := ⟨q1, q749, rfl, by decide, by decide, by decide +kernel⟩
def f_X8_ruzsa_46 : Nat → ST → Int32 → Int32 → Int32 → Int32 → Int32 → Int32 → Option (Nat × Int32 × ST)
  | 0, _, _, _, _, _, _, _ => none
  | n + 1, S, a1, a2, a3, a4, a5, a6 => (if a1 ≤ a6 then oV (f_X0_spillInto S 0 20) (fun (S2 : ST) => oV (f_X8_replace S2 a3 a4) (fun (S3 : ST) => oB (f_X2_span S3 20) (fun (r5 : Int32) (S4 : ST) => some (0, r5, S4)))) else oB (f_X8_residue S (a5 * a2) a1) (fun (r7 : Int32) (S6 : ST) => oB (f_X8_residue S6 ((a1 * a6) + ((a1 - (1 : Int32)) * r7)) a4) (fun (r9 : Int32) (S8 : ST) => oV (f_X0_put S8 0 r9) (fun (S10 : ST) => oL (a6 + 1) (fun (v11 : Int32) => (f_X8_ruzsa_46 n) S10 a1 a2 a3 a4 r7 v11)))))
set_option maxHeartbeats 4000000 in
set_option maxRecDepth 100000 in
theorem b_X8_ruzsa_46 {p : Program} {l : Launch} {e : Env} {s : State} {m : MethodId} {args : Array Value} {below : List Frame} {meth : Method} {c : Code} {x : CX} {res : Nat × Int32 × ST} (F : MF p m meth c cX8_ruzsa 7 s args RX8 (some .int)) (ht : ∀ z ∈ c.exceptionTable.toList, False) (hls : l.stackTraces = false) : ∀ (n : Nat), ∀ (H : Heap) (locs : List Loc) (ls : Array Slot) (S : ST), WD x s S H locs → ∀ (a1 : Int32) (a2 : Int32) (a3 : Int32) (a4 : Int32) (a5 : Int32) (a6 : Int32), lv_has ls 7 [(0, .ref (x.2.2 (79))), (1, .int a1), (2, .int a2), (3, .int a3), (4, .int a4), (5, .int a5), (6, .int a6)] → f_X8_ruzsa_46 n S a1 a2 a3 a4 a5 a6 = some res → W p l e ({ frames := 7, cells := 3, slots := 18, locals := 150 } : Room) s m args below meth c H locs 2 12 (vx_MQ below (QXI x res.2.2 res.1 res.2.1 s.heap.size) (XX x res.2.2 res.1 s.heap.size) args s 3 18 (AA x s.heap.size)) (F0 m 46 ls []) := by
  intro n
  induction n with
  | zero =>
    intro H locs ls S w a1 a2 a3 a4 a5 a6 hl hf
    have hf : (none : Option (Nat × Int32 × ST)) = some res := hf
    cases hf
  | succ n ih =>
    intro H locs ls S w a1 a2 a3 a4 a5 a6 hl hf
    unfold f_X8_ruzsa_46 at hf
    refine lv_iload F.1 F.2.1 dX8_ruzsa_46 (lv_at hl 6 rfl) ?_
    refine lv_iload_n F.1 F.2.1 dX8_ruzsa_48 rfl (lv_at hl 1 rfl) ?_
    refine lv_icmp_ge (tgt := 91) F.1 F.2.1 dX8_ruzsa_49 (by decide) (fun c1 => ?_) (fun c1 => ?_)
    · replace hf := oi_t hf c1
      refine lv_aload_n F.1 F.2.1 dX8_ruzsa_91 rfl (lv_at hl 0 rfl) ?_
      refine g_RW_row F w q168 dX8_ruzsa_92 ?_
      refine lv_aload_n F.1 F.2.1 dX8_ruzsa_95 rfl (lv_at hl 0 rfl) ?_
      refine g_RW_made F w q164 dX8_ruzsa_96 ?_
      obtain ⟨S2, hc, hf⟩ := oi_v hf
      refine k_v0 (S' := S2) w (runV (As := [.ref (x.2.2 (2 * 20))]) (rest := []) (kb := 48 + 2 * 0) F w (k_X0_spillInto l x S 0 20 (by decide) (by decide) hc H.size) cy_X0_spillInto q632 q633 q634 ⟨rfl, rfl⟩ ⟨Nat.le_of_ble_eq_true rfl, Nat.le_of_ble_eq_true rfl⟩ (k_br (by decide)) (enc_br x S (by decide)) rfl rfl rfl hl.1 (Nat.le_of_ble_eq_true rfl) ⟨Nat.le_of_ble_eq_true rfl, Nat.le_of_ble_eq_true rfl⟩ dX8_ruzsa_99) (fun H locs w => ?_)
      refine lv_aload_n F.1 F.2.1 dX8_ruzsa_102 rfl (lv_at hl 0 rfl) ?_
      refine lv_iload_n F.1 F.2.1 dX8_ruzsa_103 rfl (lv_at hl 3 rfl) ?_
      refine lv_iload F.1 F.2.1 dX8_ruzsa_104 (lv_at hl 4 rfl) ?_
      obtain ⟨S3, hc, hf⟩ := oi_v hf
      refine k_v0 (S' := S3) w (runV (As := [.int a3, .int a4]) (rest := []) (kb := 79) F w (k_X8_replace l x S2 a3 a4 hc H.size) cy_X8_replace q462 q464 qp10 ⟨rfl, rfl⟩ ⟨Nat.le_of_ble_eq_true rfl, Nat.le_of_ble_eq_true rfl⟩ (by decide) rfl rfl rfl rfl hl.1 (Nat.le_of_ble_eq_true rfl) ⟨Nat.le_of_ble_eq_true rfl, Nat.le_of_ble_eq_true rfl⟩ dX8_ruzsa_106) (fun H locs w => ?_)
      refine lv_aload_n F.1 F.2.1 dX8_ruzsa_109 rfl (lv_at hl 0 rfl) ?_
      refine g_RW_made F w q164 dX8_ruzsa_110 ?_
      obtain ⟨r5, S4, hc, hf⟩ := oi_b hf
      refine k_i0 (S' := S4) (r := r5) w (runV (As := []) (rest := []) (kb := 2 * 20) F w (k_X2_span l x S3 20 (by decide) hc H.size) cy_X2_span q534 q535 q536 ⟨rfl, rfl⟩ ⟨Nat.le_of_ble_eq_true rfl, Nat.le_of_ble_eq_true rfl⟩ (k_ms (by decide)) (enc_ms x S3 (by decide)) rfl rfl rfl hl.1 (Nat.le_of_ble_eq_true rfl) ⟨Nat.le_of_ble_eq_true rfl, Nat.le_of_ble_eq_true rfl⟩ dX8_ruzsa_113) (fun H locs w => ?_)
      refine W.widen (k := 3) (n := 18) (by decide) (by decide) ?_
      exact x_iret F w (oi_s hf) dX8_ruzsa_116
    · replace hf := oi_f hf c1
      refine lv_iload F.1 F.2.1 dX8_ruzsa_52 (lv_at hl 5 rfl) ?_
      refine lv_iload_n F.1 F.2.1 dX8_ruzsa_54 rfl (lv_at hl 2 rfl) ?_
      refine lv_imul F.1 F.2.1 dX8_ruzsa_55 ?_
      refine lv_iload_n F.1 F.2.1 dX8_ruzsa_56 rfl (lv_at hl 1 rfl) ?_
      obtain ⟨r7, S6, hc, hf⟩ := oi_b hf
      refine k_i0 (S' := S6) (r := r7) w (runS (As := [.int (a5 * a2), .int a1]) (rest := []) F w (k_X8_residue l x S (a5 * a2) a1 hc H.size) cy_X8_residue q301 q302 ⟨rfl, rfl⟩ ⟨Nat.le_of_ble_eq_true rfl, Nat.le_of_ble_eq_true rfl⟩ rfl rfl hl.1 (Nat.le_of_ble_eq_true rfl) ⟨Nat.le_of_ble_eq_true rfl, Nat.le_of_ble_eq_true rfl⟩ dX8_ruzsa_57) (fun H locs w => ?_)
      refine lv_istore (lv' := [(5, .int r7), (0, .ref (x.2.2 (79))), (1, .int a1), (2, .int a2), (3, .int a3), (4, .int a4), (6, .int a6)]) F.1 F.2.1 dX8_ruzsa_60 hl (by decide) rfl (fun ls hl => ?_)
      refine lv_aload_n F.1 F.2.1 dX8_ruzsa_62 rfl (lv_at hl 1 rfl) ?_
      refine g_RW_row F w q168 dX8_ruzsa_63 ?_
      refine lv_iload_n F.1 F.2.1 dX8_ruzsa_66 rfl (lv_at hl 2 rfl) ?_
      refine lv_iload F.1 F.2.1 dX8_ruzsa_67 (lv_at hl 6 rfl) ?_
      refine lv_imul F.1 F.2.1 dX8_ruzsa_69 ?_
      refine lv_iload_n F.1 F.2.1 dX8_ruzsa_70 rfl (lv_at hl 2 rfl) ?_
      refine lv_iconst (v := 1) F.1 F.2.1 dX8_ruzsa_71 (by decide) ?_
      refine lv_isub F.1 F.2.1 dX8_ruzsa_72 ?_
      refine lv_iload F.1 F.2.1 dX8_ruzsa_73 (lv_at hl 0 rfl) ?_
      refine lv_imul F.1 F.2.1 dX8_ruzsa_75 ?_
      refine lv_iadd F.1 F.2.1 dX8_ruzsa_76 ?_
      refine lv_iload F.1 F.2.1 dX8_ruzsa_77 (lv_at hl 5 rfl) ?_
      obtain ⟨r9, S8, hc, hf⟩ := oi_b hf
      refine k_i0 (S' := S8) (r := r9) w (runS (As := [.int ((a1 * a6) + ((a1 - (1 : Int32)) * r7)), .int a4]) (rest := [.ref (x.2.2 (48 + 2 * 0))]) F w (k_X8_residue l x S6 ((a1 * a6) + ((a1 - (1 : Int32)) * r7)) a4 hc H.size) cy_X8_residue q301 q302 ⟨rfl, rfl⟩ ⟨Nat.le_of_ble_eq_true rfl, Nat.le_of_ble_eq_true rfl⟩ rfl rfl hl.1 (Nat.le_of_ble_eq_true rfl) ⟨Nat.le_of_ble_eq_true rfl, Nat.le_of_ble_eq_true rfl⟩ dX8_ruzsa_79) (fun H locs w => ?_)
      obtain ⟨S10, hc, hf⟩ := oi_v hf
      refine k_v0 (S' := S10) w (runV (As := [.int r9]) (rest := []) (kb := 48 + 2 * 0) F w (k_X0_put l x S8 0 r9 (by decide) hc H.size) cy_X0_put q631 q225 q226 ⟨rfl, rfl⟩ ⟨Nat.le_of_ble_eq_true rfl, Nat.le_of_ble_eq_true rfl⟩ (k_br (by decide)) (enc_br x S8 (by decide)) rfl rfl rfl hl.1 (Nat.le_of_ble_eq_true rfl) ⟨Nat.le_of_ble_eq_true rfl, Nat.le_of_ble_eq_true rfl⟩ dX8_ruzsa_82) (fun H locs w => ?_)
      obtain ⟨v11, e_v11⟩ : ∃ y : Int32, y = (a6 + 1) := ⟨_, rfl⟩
      replace hf := oi_l hf e_v11
      refine lv_iinc (v := v11) (lv' := [(6, .int v11), (5, .int r7), (0, .ref (x.2.2 (79))), (1, .int a1), (2, .int a2), (3, .int a3), (4, .int a4)]) F.1 F.2.1 dX8_ruzsa_85 hl (k := 6) rfl (by rw [e_v11]; rfl) (by decide) rfl (fun ls hl => ?_)
      refine lv_goto (tgt := 46) F.1 F.2.1 dX8_ruzsa_88 (by decide) ?_
      exact ih _ _ _ _ w a1 a2 a3 a4 r7 v11 (lv_sub hl [2, 3, 4, 5, 6, 1, 0] rfl) hf
def f_X8_ruzsa_0 (S : ST) (a1 : Int32) (a2 : Int32) (a3 : Int32) : Option (Nat × Int32 × ST) := oX (f_X8_needSet S a3) (0 : Int32) (fun (S1 : ST) => oX (f_X8_needPrime S1 a1) (0 : Int32) (fun (S3 : ST) => oB (f_X8_isPrimitiveRoot S3 a2 a1) (fun (r6 : Int32) (S5 : ST) => (if r6 = 0 then some (2, 0, S5) else oL (a1 * (a1 - (1 : Int32))) (fun (v8 : Int32) => oV (f_X0_wipe S5 0) (fun (S9 : ST) => f_X8_ruzsa_46 FU S9 a1 a2 a3 v8 1 1))))))
set_option maxHeartbeats 4000000 in
set_option maxRecDepth 100000 in
theorem b_X8_ruzsa_0 {p : Program} {l : Launch} {e : Env} {s : State} {m : MethodId} {args : Array Value} {below : List Frame} {meth : Method} {c : Code} {x : CX} {res : Nat × Int32 × ST} (F : MF p m meth c cX8_ruzsa 7 s args RX8 (some .int)) (ht : ∀ z ∈ c.exceptionTable.toList, False) (hls : l.stackTraces = false) : ∀ (H : Heap) (locs : List Loc) (ls : Array Slot) (S : ST), WD x s S H locs → ∀ (a1 : Int32) (a2 : Int32) (a3 : Int32), lv_has ls 7 [(0, .ref (x.2.2 (79))), (1, .int a1), (2, .int a2), (3, .int a3)] → f_X8_ruzsa_0 S a1 a2 a3 = some res → W p l e ({ frames := 7, cells := 3, slots := 18, locals := 150 } : Room) s m args below meth c H locs 0 0 (vx_MQ below (QXI x res.2.2 res.1 res.2.1 s.heap.size) (XX x res.2.2 res.1 s.heap.size) args s 3 18 (AA x s.heap.size)) (F0 m 0 ls []) := by
  intro H locs ls S w a1 a2 a3 hl hf
  unfold f_X8_ruzsa_0 at hf
  refine lv_iload_n F.1 F.2.1 dX8_ruzsa_0 rfl (lv_at hl 3 rfl) ?_
  obtain ⟨n2, S1, hc, hf, hx⟩ := oi_x hf
  refine kx_v (S1 := S1) (n1 := n2) F ht w (xrunS (As := [.int a3]) (rest := []) F w (k_X8_needSet l x S a3 hc hls H.size) cy_X8_needSet q342 q343 ⟨rfl, rfl⟩ ⟨Nat.le_of_ble_eq_true rfl, Nat.le_of_ble_eq_true rfl⟩ rfl rfl hl.1 (Nat.le_of_ble_eq_true rfl) ⟨Nat.le_of_ble_eq_true rfl, Nat.le_of_ble_eq_true rfl⟩ dX8_ruzsa_1) hx (Nat.le_of_ble_eq_true rfl) (Nat.le_of_ble_eq_true rfl) (fun hn H locs w => ?_)
  replace hf := hf hn
  refine lv_iload_n F.1 F.2.1 dX8_ruzsa_4 rfl (lv_at hl 1 rfl) ?_
  obtain ⟨n4, S3, hc, hf, hx⟩ := oi_x hf
  refine kx_v (S1 := S3) (n1 := n4) F ht w (xrunS (As := [.int a1]) (rest := []) F w (k_X8_needPrime l x S1 a1 hc hls H.size) cy_X8_needPrime q736 q737 ⟨rfl, rfl⟩ ⟨Nat.le_of_ble_eq_true rfl, Nat.le_of_ble_eq_true rfl⟩ rfl rfl hl.1 (Nat.le_of_ble_eq_true rfl) ⟨Nat.le_of_ble_eq_true rfl, Nat.le_of_ble_eq_true rfl⟩ dX8_ruzsa_5) hx (Nat.le_of_ble_eq_true rfl) (Nat.le_of_ble_eq_true rfl) (fun hn H locs w => ?_)
  replace hf := hf hn
  refine lv_iload_n F.1 F.2.1 dX8_ruzsa_8 rfl (lv_at hl 2 rfl) ?_
  refine lv_iload_n F.1 F.2.1 dX8_ruzsa_9 rfl (lv_at hl 1 rfl) ?_
  obtain ⟨r6, S5, hc, hf⟩ := oi_b hf
  refine k_i0 (S' := S5) (r := r6) w (runS (As := [.int a2, .int a1]) (rest := []) F w (k_X8_isPrimitiveRoot l x S3 a2 a1 hc H.size) cy_X8_isPrimitiveRoot q750 q751 ⟨rfl, rfl⟩ ⟨Nat.le_of_ble_eq_true rfl, Nat.le_of_ble_eq_true rfl⟩ rfl rfl hl.1 (Nat.le_of_ble_eq_true rfl) ⟨Nat.le_of_ble_eq_true rfl, Nat.le_of_ble_eq_true rfl⟩ dX8_ruzsa_10) (fun H locs w => ?_)
  refine lv_if_ne (tgt := 26) F.1 F.2.1 dX8_ruzsa_13 (by decide) (fun c7 => ?_) (fun c7 => ?_)
  · replace hf := oi_f hf c7
    refine lv_iload_n F.1 F.2.1 dX8_ruzsa_26 rfl (lv_at hl 1 rfl) ?_
    refine lv_iload_n F.1 F.2.1 dX8_ruzsa_27 rfl (lv_at hl 1 rfl) ?_
    refine lv_iconst (v := 1) F.1 F.2.1 dX8_ruzsa_28 (by decide) ?_
    refine lv_isub F.1 F.2.1 dX8_ruzsa_29 ?_
    refine lv_imul F.1 F.2.1 dX8_ruzsa_30 ?_
    refine lv_topi (fun v8 e_v8 => ?_)
    replace hf := oi_l hf e_v8
    refine lv_istore (lv' := [(4, .int v8), (0, .ref (x.2.2 (79))), (1, .int a1), (2, .int a2), (3, .int a3)]) F.1 F.2.1 dX8_ruzsa_31 hl (by decide) rfl (fun ls hl => ?_)
    refine lv_iconst (v := 1) F.1 F.2.1 dX8_ruzsa_33 (by decide) ?_
    refine lv_istore (lv' := [(5, .int 1), (4, .int v8), (0, .ref (x.2.2 (79))), (1, .int a1), (2, .int a2), (3, .int a3)]) F.1 F.2.1 dX8_ruzsa_34 hl (by decide) rfl (fun ls hl => ?_)
    refine lv_aload_n F.1 F.2.1 dX8_ruzsa_36 rfl (lv_at hl 2 rfl) ?_
    refine g_RW_row F w q168 dX8_ruzsa_37 ?_
    obtain ⟨S9, hc, hf⟩ := oi_v hf
    refine k_v0 (S' := S9) w (runV (As := []) (rest := []) (kb := 48 + 2 * 0) F w (k_X0_wipe l x S5 0 (by decide) hc H.size) cy_X0_wipe q630 q210 q211 ⟨rfl, rfl⟩ ⟨Nat.le_of_ble_eq_true rfl, Nat.le_of_ble_eq_true rfl⟩ (k_br (by decide)) (enc_br x S5 (by decide)) rfl rfl rfl hl.1 (Nat.le_of_ble_eq_true rfl) ⟨Nat.le_of_ble_eq_true rfl, Nat.le_of_ble_eq_true rfl⟩ dX8_ruzsa_40) (fun H locs w => ?_)
    refine lv_iconst (v := 1) F.1 F.2.1 dX8_ruzsa_43 (by decide) ?_
    refine lv_istore (lv' := [(6, .int 1), (5, .int 1), (4, .int v8), (0, .ref (x.2.2 (79))), (1, .int a1), (2, .int a2), (3, .int a3)]) F.1 F.2.1 dX8_ruzsa_44 hl (by decide) rfl (fun ls hl => ?_)
    exact b_X8_ruzsa_46 F ht hls FU _ _ _ _ w a1 a2 a3 v8 1 1 (lv_sub hl [3, 4, 5, 6, 2, 1, 0] rfl) hf
  · replace hf := oi_t hf c7
    exact x_throw (E := eIA) (text := "g is not a primitive root of p") F ht hls w (oi_s hf) (by simp [XK]) xq_IA (by simp [XT]) hl.1 dX8_ruzsa_16 dX8_ruzsa_19 dX8_ruzsa_20 dX8_ruzsa_22 dX8_ruzsa_25 (Nat.le_of_ble_eq_true rfl) (Nat.le_of_ble_eq_true rfl) (Nat.le_of_ble_eq_true rfl) (Nat.le_of_ble_eq_true rfl) (Nat.le_of_ble_eq_true rfl) (Nat.le_of_ble_eq_true rfl)
def f_X8_ruzsa (S : ST) (a1 : Int32) (a2 : Int32) (a3 : Int32) : Option (Nat × Int32 × ST) := f_X8_ruzsa_0 S a1 a2 a3
set_option maxHeartbeats 4000000 in
set_option maxRecDepth 100000 in
theorem k_X8_ruzsa (l : Launch) (x : CX) (S : ST) (a1 : Int32) (a2 : Int32) (a3 : Int32) {res : Nat × Int32 × ST} (hf : f_X8_ruzsa S a1 a2 a3 = some res) (hls : l.stackTraces = false) (sz : Nat) : vx_Met l yX8_ruzsa (Cond.code yX8_ruzsa cX8_ruzsa 7 (some .int) :: GW) ({ frames := 7, cells := 3, slots := 18, locals := 150 } : Room) (PC x S sz [.ref (x.2.2 (79)), .int a1, .int a2, .int a3]) (QXI x res.2.2 res.1 res.2.1 sz) (XX x res.2.2 res.1 sz) 3 18 (AA x sz) := by
  refine vx_ofW (cc := cX8_ruzsa) (maxL := 7) (ret := (some .int)) (by decide) rfl ?_
  intro p e s m args below meth c s₁ B hml ht hv
  obtain ⟨rfl, rfl, hPW⟩ := hv
  have F : MF p m meth c cX8_ruzsa 7 s _ RX8 (some .int) := MF.of B hml
  have w := WD.of hPW
  have hl := lv_entry ([.ref (x.2.2 (79)), .int a1, .int a2, .int a3]) (n := 7) (Nat.le_of_ble_eq_true rfl)
  rw [lg_entry_eq]
  generalize (lg_sl ([.ref (x.2.2 (79)), .int a1, .int a2, .int a3]) ++ List.replicate (7 - (lg_sl ([.ref (x.2.2 (79)), .int a1, .int a2, .int a3])).length) Slot.unset).toArray = ls at hl ⊢
  have hl : lv_has ls 7 [(0, .ref (x.2.2 (79))), (1, .int a1), (2, .int a2), (3, .int a3)] := hl
  unfold f_X8_ruzsa at hf
  exact b_X8_ruzsa_0 F ht hls  _ _ _ _ w a1 a2 a3 (lv_sub hl [0, 1, 2, 3] rfl) hf
theorem cy_X8_residues : CY yX8_residues RX8 cX8_residues 4 (some .int) 2 := ⟨q1, q760, rfl, by decide, by decide, by decide +kernel⟩
def f_X8_residues_17 : Nat → ST → Int32 → Int32 → Int32 → Option (Nat × Int32 × ST)
  | 0, _, _, _, _ => none
  | n + 1, S, a1, a2, a3 => (if a1 ≤ a3 then oV (f_X0_spillInto S 0 20) (fun (S2 : ST) => oV (f_X8_replace S2 a2 a1) (fun (S3 : ST) => some (0, (fi S3 20), S3))) else oB (f_X8_residue S (a3 * a3) a1) (fun (r5 : Int32) (S4 : ST) => oV (f_X0_put S4 0 r5) (fun (S6 : ST) => oL (a3 + 1) (fun (v7 : Int32) => (f_X8_residues_17 n) S6 a1 a2 v7))))
set_option maxHeartbeats 4000000 in
set_option maxRecDepth 100000 in
theorem b_X8_residues_17 {p : Program} {l : Launch} {e : Env} {s : State} {m : MethodId} {args : Array Value} {below : List Frame} {meth : Method} {c : Code} {x : CX} {res : Nat × Int32 × ST} (F : MF p m meth c cX8_residues 4 s args RX8 (some .int)) (ht : ∀ z ∈ c.exceptionTable.toList, False) (hls : l.stackTraces = false) : ∀ (n : Nat), ∀ (H : Heap) (locs : List Loc) (ls : Array Slot) (S : ST), WD x s S H locs → ∀ (a1 : Int32) (a2 : Int32) (a3 : Int32), lv_has ls 4 [(0, .ref (x.2.2 (79))), (1, .int a1), (2, .int a2), (3, .int a3)] → f_X8_residues_17 n S a1 a2 a3 = some res → W p l e ({ frames := 7, cells := 2, slots := 12, locals := 150 } : Room) s m args below meth c H locs 2 12 (vx_MQ below (QXI x res.2.2 res.1 res.2.1 s.heap.size) (XX x res.2.2 res.1 s.heap.size) args s 2 12 (AA x s.heap.size)) (F0 m 17 ls []) := by
  intro n
  induction n with
  | zero =>
    intro H locs ls S w a1 a2 a3 hl hf
    have hf : (none : Option (Nat × Int32 × ST)) = some res := hf
    cases hf
  | succ n ih =>
    intro H locs ls S w a1 a2 a3 hl hf
    unfold f_X8_residues_17 at hf
    refine lv_iload_n F.1 F.2.1 dX8_residues_17 rfl (lv_at hl 3 rfl) ?_
    refine lv_iload_n F.1 F.2.1 dX8_residues_18 rfl (lv_at hl 1 rfl) ?_
    refine lv_icmp_ge (tgt := 42) F.1 F.2.1 dX8_residues_19 (by decide) (fun c1 => ?_) (fun c1 => ?_)
    · replace hf := oi_t hf c1
      refine lv_aload_n F.1 F.2.1 dX8_residues_42 rfl (lv_at hl 0 rfl) ?_
      refine g_RW_row F w q168 dX8_residues_43 ?_
      refine lv_aload_n F.1 F.2.1 dX8_residues_46 rfl (lv_at hl 0 rfl) ?_
      refine g_RW_made F w q164 dX8_residues_47 ?_
      obtain ⟨S2, hc, hf⟩ := oi_v hf
      refine k_v0 (S' := S2) w (runV (As := [.ref (x.2.2 (2 * 20))]) (rest := []) (kb := 48 + 2 * 0) F w (k_X0_spillInto l x S 0 20 (by decide) (by decide) hc H.size) cy_X0_spillInto q632 q633 q634 ⟨rfl, rfl⟩ ⟨Nat.le_of_ble_eq_true rfl, Nat.le_of_ble_eq_true rfl⟩ (k_br (by decide)) (enc_br x S (by decide)) rfl rfl rfl hl.1 (Nat.le_of_ble_eq_true rfl) ⟨Nat.le_of_ble_eq_true rfl, Nat.le_of_ble_eq_true rfl⟩ dX8_residues_50) (fun H locs w => ?_)
      refine lv_aload_n F.1 F.2.1 dX8_residues_53 rfl (lv_at hl 0 rfl) ?_
      refine lv_iload_n F.1 F.2.1 dX8_residues_54 rfl (lv_at hl 2 rfl) ?_
      refine lv_iload_n F.1 F.2.1 dX8_residues_55 rfl (lv_at hl 1 rfl) ?_
      obtain ⟨S3, hc, hf⟩ := oi_v hf
      refine k_v0 (S' := S3) w (runV (As := [.int a2, .int a1]) (rest := []) (kb := 79) F w (k_X8_replace l x S2 a2 a1 hc H.size) cy_X8_replace q462 q464 qp10 ⟨rfl, rfl⟩ ⟨Nat.le_of_ble_eq_true rfl, Nat.le_of_ble_eq_true rfl⟩ (by decide) rfl rfl rfl rfl hl.1 (Nat.le_of_ble_eq_true rfl) ⟨Nat.le_of_ble_eq_true rfl, Nat.le_of_ble_eq_true rfl⟩ dX8_residues_56) (fun H locs w => ?_)
      refine lv_aload_n F.1 F.2.1 dX8_residues_59 rfl (lv_at hl 0 rfl) ?_
      refine g_RW_made F w q164 dX8_residues_60 ?_
      refine gN_MS_count (i := 20) F w (by decide) (by simp [NF]) dX8_residues_63 ?_
      exact x_iret F w (oi_s hf) dX8_residues_66
    · replace hf := oi_f hf c1
      refine lv_aload_n F.1 F.2.1 dX8_residues_22 rfl (lv_at hl 0 rfl) ?_
      refine g_RW_row F w q168 dX8_residues_23 ?_
      refine lv_iload_n F.1 F.2.1 dX8_residues_26 rfl (lv_at hl 3 rfl) ?_
      refine lv_iload_n F.1 F.2.1 dX8_residues_27 rfl (lv_at hl 3 rfl) ?_
      refine lv_imul F.1 F.2.1 dX8_residues_28 ?_
      refine lv_iload_n F.1 F.2.1 dX8_residues_29 rfl (lv_at hl 1 rfl) ?_
      obtain ⟨r5, S4, hc, hf⟩ := oi_b hf
      refine k_i0 (S' := S4) (r := r5) w (runS (As := [.int (a3 * a3), .int a1]) (rest := [.ref (x.2.2 (48 + 2 * 0))]) F w (k_X8_residue l x S (a3 * a3) a1 hc H.size) cy_X8_residue q301 q302 ⟨rfl, rfl⟩ ⟨Nat.le_of_ble_eq_true rfl, Nat.le_of_ble_eq_true rfl⟩ rfl rfl hl.1 (Nat.le_of_ble_eq_true rfl) ⟨Nat.le_of_ble_eq_true rfl, Nat.le_of_ble_eq_true rfl⟩ dX8_residues_30) (fun H locs w => ?_)
      obtain ⟨S6, hc, hf⟩ := oi_v hf
      refine k_v0 (S' := S6) w (runV (As := [.int r5]) (rest := []) (kb := 48 + 2 * 0) F w (k_X0_put l x S4 0 r5 (by decide) hc H.size) cy_X0_put q631 q225 q226 ⟨rfl, rfl⟩ ⟨Nat.le_of_ble_eq_true rfl, Nat.le_of_ble_eq_true rfl⟩ (k_br (by decide)) (enc_br x S4 (by decide)) rfl rfl rfl hl.1 (Nat.le_of_ble_eq_true rfl) ⟨Nat.le_of_ble_eq_true rfl, Nat.le_of_ble_eq_true rfl⟩ dX8_residues_33) (fun H locs w => ?_)
      obtain ⟨v7, e_v7⟩ : ∃ y : Int32, y = (a3 + 1) := ⟨_, rfl⟩
      replace hf := oi_l hf e_v7
      refine lv_iinc (v := v7) (lv' := [(3, .int v7), (0, .ref (x.2.2 (79))), (1, .int a1), (2, .int a2)]) F.1 F.2.1 dX8_residues_36 hl (k := 3) rfl (by rw [e_v7]; rfl) (by decide) rfl (fun ls hl => ?_)
      refine lv_goto (tgt := 17) F.1 F.2.1 dX8_residues_39 (by decide) ?_
      exact ih _ _ _ _ w a1 a2 v7 (lv_sub hl [1, 2, 3, 0] rfl) hf
def f_X8_residues_0 (S : ST) (a1 : Int32) (a2 : Int32) : Option (Nat × Int32 × ST) := oX (f_X8_needSet S a2) (0 : Int32) (fun (S1 : ST) => oX (f_X8_needPrime S1 a1) (0 : Int32) (fun (S3 : ST) => oV (f_X0_wipe S3 0) (fun (S5 : ST) => f_X8_residues_17 FU S5 a1 a2 1)))
set_option maxHeartbeats 4000000 in
set_option maxRecDepth 100000 in
theorem b_X8_residues_0 {p : Program} {l : Launch} {e : Env} {s : State} {m : MethodId} {args : Array Value} {below : List Frame} {meth : Method} {c : Code} {x : CX} {res : Nat × Int32 × ST} (F : MF p m meth c cX8_residues 4 s args RX8 (some .int)) (ht : ∀ z ∈ c.exceptionTable.toList, False) (hls : l.stackTraces = false) : ∀ (H : Heap) (locs : List Loc) (ls : Array Slot) (S : ST), WD x s S H locs → ∀ (a1 : Int32) (a2 : Int32), lv_has ls 4 [(0, .ref (x.2.2 (79))), (1, .int a1), (2, .int a2)] → f_X8_residues_0 S a1 a2 = some res → W p l e ({ frames := 7, cells := 2, slots := 12, locals := 150 } : Room) s m args below meth c H locs 0 0 (vx_MQ below (QXI x res.2.2 res.1 res.2.1 s.heap.size) (XX x res.2.2 res.1 s.heap.size) args s 2 12 (AA x s.heap.size)) (F0 m 0 ls []) := by
  intro H locs ls S w a1 a2 hl hf
  unfold f_X8_residues_0 at hf
  refine lv_iload_n F.1 F.2.1 dX8_residues_0 rfl (lv_at hl 2 rfl) ?_
  obtain ⟨n2, S1, hc, hf, hx⟩ := oi_x hf
  refine kx_v (S1 := S1) (n1 := n2) F ht w (xrunS (As := [.int a2]) (rest := []) F w (k_X8_needSet l x S a2 hc hls H.size) cy_X8_needSet q342 q343 ⟨rfl, rfl⟩ ⟨Nat.le_of_ble_eq_true rfl, Nat.le_of_ble_eq_true rfl⟩ rfl rfl hl.1 (Nat.le_of_ble_eq_true rfl) ⟨Nat.le_of_ble_eq_true rfl, Nat.le_of_ble_eq_true rfl⟩ dX8_residues_1) hx (Nat.le_of_ble_eq_true rfl) (Nat.le_of_ble_eq_true rfl) (fun hn H locs w => ?_)
  replace hf := hf hn
  refine lv_iload_n F.1 F.2.1 dX8_residues_4 rfl (lv_at hl 1 rfl) ?_
  obtain ⟨n4, S3, hc, hf, hx⟩ := oi_x hf
  refine kx_v (S1 := S3) (n1 := n4) F ht w (xrunS (As := [.int a1]) (rest := []) F w (k_X8_needPrime l x S1 a1 hc hls H.size) cy_X8_needPrime q736 q737 ⟨rfl, rfl⟩ ⟨Nat.le_of_ble_eq_true rfl, Nat.le_of_ble_eq_true rfl⟩ rfl rfl hl.1 (Nat.le_of_ble_eq_true rfl) ⟨Nat.le_of_ble_eq_true rfl, Nat.le_of_ble_eq_true rfl⟩ dX8_residues_5) hx (Nat.le_of_ble_eq_true rfl) (Nat.le_of_ble_eq_true rfl) (fun hn H locs w => ?_)
  replace hf := hf hn
  refine lv_aload_n F.1 F.2.1 dX8_residues_8 rfl (lv_at hl 0 rfl) ?_
  refine g_RW_row F w q168 dX8_residues_9 ?_
  obtain ⟨S5, hc, hf⟩ := oi_v hf
  refine k_v0 (S' := S5) w (runV (As := []) (rest := []) (kb := 48 + 2 * 0) F w (k_X0_wipe l x S3 0 (by decide) hc H.size) cy_X0_wipe q630 q210 q211 ⟨rfl, rfl⟩ ⟨Nat.le_of_ble_eq_true rfl, Nat.le_of_ble_eq_true rfl⟩ (k_br (by decide)) (enc_br x S3 (by decide)) rfl rfl rfl hl.1 (Nat.le_of_ble_eq_true rfl) ⟨Nat.le_of_ble_eq_true rfl, Nat.le_of_ble_eq_true rfl⟩ dX8_residues_12) (fun H locs w => ?_)
  refine lv_iconst (v := 1) F.1 F.2.1 dX8_residues_15 (by decide) ?_
  refine lv_istore_n (lv' := [(3, .int 1), (0, .ref (x.2.2 (79))), (1, .int a1), (2, .int a2)]) F.1 F.2.1 dX8_residues_16 rfl hl (by decide) rfl (fun ls hl => ?_)
  exact b_X8_residues_17 F ht hls FU _ _ _ _ w a1 a2 1 (lv_sub hl [1, 2, 3, 0] rfl) hf
def f_X8_residues (S : ST) (a1 : Int32) (a2 : Int32) : Option (Nat × Int32 × ST) := f_X8_residues_0 S a1 a2
set_option maxHeartbeats 4000000 in
set_option maxRecDepth 100000 in
theorem k_X8_residues (l : Launch) (x : CX) (S : ST) (a1 : Int32) (a2 : Int32) {res : Nat × Int32 × ST} (hf : f_X8_residues S a1 a2 = some res) (hls : l.stackTraces = false) (sz : Nat) : vx_Met l yX8_residues (Cond.code yX8_residues cX8_residues 4 (some .int) :: GW) ({ frames := 7, cells := 2, slots := 12, locals := 150 } : Room) (PC x S sz [.ref (x.2.2 (79)), .int a1, .int a2]) (QXI x res.2.2 res.1 res.2.1 sz) (XX x res.2.2 res.1 sz) 2 12 (AA x sz) := by
  refine vx_ofW (cc := cX8_residues) (maxL := 4) (ret := (some .int)) (by decide) rfl ?_
  intro p e s m args below meth c s₁ B hml ht hv
  obtain ⟨rfl, rfl, hPW⟩ := hv
  have F : MF p m meth c cX8_residues 4 s _ RX8 (some .int) := MF.of B hml
  have w := WD.of hPW
  have hl := lv_entry ([.ref (x.2.2 (79)), .int a1, .int a2]) (n := 4) (Nat.le_of_ble_eq_true rfl)
  rw [lg_entry_eq]
  generalize (lg_sl ([.ref (x.2.2 (79)), .int a1, .int a2]) ++ List.replicate (4 - (lg_sl ([.ref (x.2.2 (79)), .int a1, .int a2])).length) Slot.unset).toArray = ls at hl ⊢
  have hl : lv_has ls 4 [(0, .ref (x.2.2 (79))), (1, .int a1), (2, .int a2)] := hl
  unfold f_X8_residues at hf
  exact b_X8_residues_0 F ht hls  _ _ _ _ w a1 a2 (lv_sub hl [0, 1, 2] rfl) hf
theorem cy_X8_extend : CY yX8_extend RX8 cX8_extend 3 (some .int) 2 := ⟨q1, q767, rfl, by decide, by decide, by decide +kernel⟩
def f_X8_extend_15 (S : ST)  : Option (Nat × Int32 × ST) := some (2, 0, S)
set_option maxHeartbeats 4000000 in
set_option maxRecDepth 100000 in
theorem b_X8_extend_15 {p : Program} {l : Launch} {e : Env} {s : State} {m : MethodId} {args : Array Value} {below : List Frame} {meth : Method} {c : Code} {x : CX} {res : Nat × Int32 × ST} (F : MF p m meth c cX8_extend 3 s args RX8 (some .int)) (ht : ∀ z ∈ c.exceptionTable.toList, False) (hls : l.stackTraces = false) : ∀ (H : Heap) (locs : List Loc) (ls : Array Slot) (S : ST), WD x s S H locs → lv_has ls 3 [] → f_X8_extend_15 S = some res → W p l e ({ frames := 7, cells := 5, slots := 30, locals := 150 } : Room) s m args below meth c H locs 1 6 (vx_MQ below (QXI x res.2.2 res.1 res.2.1 s.heap.size) (XX x res.2.2 res.1 s.heap.size) args s 5 30 (AA x s.heap.size)) (F0 m 15 ls []) := by
  intro H locs ls S w hl hf
  unfold f_X8_extend_15 at hf
  exact x_throw (E := eIA) (text := "n is out of range") F ht hls w (oi_s hf) (by simp [XK]) xq_IA (by simp [XT]) hl.1 dX8_extend_15 dX8_extend_18 dX8_extend_19 dX8_extend_21 dX8_extend_24 (Nat.le_of_ble_eq_true rfl) (Nat.le_of_ble_eq_true rfl) (Nat.le_of_ble_eq_true rfl) (Nat.le_of_ble_eq_true rfl) (Nat.le_of_ble_eq_true rfl) (Nat.le_of_ble_eq_true rfl)
def f_X8_extend_0 (S : ST) (a1 : Int32) (a2 : Int32) : Option (Nat × Int32 × ST) := oX (f_X8_needSet S a1) (0 : Int32) (fun (S1 : ST) => (if a2 < 1 then f_X8_extend_15 S1 else (if a2 ≤ 24 then oB (f_X8_measured S1 a1) (fun (r6 : Nat) (S5 : ST) => oG (decide (r6 < 4)) ((if (fi S5 (40 + r6)) = 0 then some (3, 0, S5) else oG (inB a1 4) ((if (fi S5 ((Int32.toNatClampNeg a1))) ≤ a2 then oG (inB a1 4) (oG (inB a1 4) (oB (f_X8_makeExtended S5 ((Int32.toNatClampNeg a1)) ((Int32.toNatClampNeg a1)) a2) (fun (r14 : Int32) (S13 : ST) => (if r14 = 0 then some (3, 0, S13) else oV (f_X8_replace S13 a1 (fi S13 (30 + 0))) (fun (S16 : ST) => oB (f_X2_greatest S16 20) (fun (r18 : Int32) (S17 : ST) => some (0, r18, S17))))))) else some (3, 0, S5)))))) else f_X8_extend_15 S1)))
set_option maxHeartbeats 4000000 in
set_option maxRecDepth 100000 in
theorem b_X8_extend_0 {p : Program} {l : Launch} {e : Env} {s : State} {m : MethodId} {args : Array Value} {below : List Frame} {meth : Method} {c : Code} {x : CX} {res : Nat × Int32 × ST} (F : MF p m meth c cX8_extend 3 s args RX8 (some .int)) (ht : ∀ z ∈ c.exceptionTable.toList, False) (hls : l.stackTraces = false) : ∀ (H : Heap) (locs : List Loc) (ls : Array Slot) (S : ST), WD x s S H locs → ∀ (a1 : Int32) (a2 : Int32), lv_has ls 3 [(0, .ref (x.2.2 (79))), (1, .int a1), (2, .int a2)] → f_X8_extend_0 S a1 a2 = some res → W p l e ({ frames := 7, cells := 5, slots := 30, locals := 150 } : Room) s m args below meth c H locs 0 0 (vx_MQ below (QXI x res.2.2 res.1 res.2.1 s.heap.size) (XX x res.2.2 res.1 s.heap.size) args s 5 30 (AA x s.heap.size)) (F0 m 0 ls []) := by
  intro H locs ls S w a1 a2 hl hf
  unfold f_X8_extend_0 at hf
  refine lv_iload_n F.1 F.2.1 dX8_extend_0 rfl (lv_at hl 1 rfl) ?_
  obtain ⟨n2, S1, hc, hf, hx⟩ := oi_x hf
  refine kx_v (S1 := S1) (n1 := n2) F ht w (xrunS (As := [.int a1]) (rest := []) F w (k_X8_needSet l x S a1 hc hls H.size) cy_X8_needSet q342 q343 ⟨rfl, rfl⟩ ⟨Nat.le_of_ble_eq_true rfl, Nat.le_of_ble_eq_true rfl⟩ rfl rfl hl.1 (Nat.le_of_ble_eq_true rfl) ⟨Nat.le_of_ble_eq_true rfl, Nat.le_of_ble_eq_true rfl⟩ dX8_extend_1) hx (Nat.le_of_ble_eq_true rfl) (Nat.le_of_ble_eq_true rfl) (fun hn H locs w => ?_)
  replace hf := hf hn
  refine lv_iload_n F.1 F.2.1 dX8_extend_4 rfl (lv_at hl 2 rfl) ?_
  refine lv_iconst (v := 1) F.1 F.2.1 dX8_extend_5 (by decide) ?_
  refine lv_icmp_lt (tgt := 15) F.1 F.2.1 dX8_extend_6 (by decide) (fun c3 => ?_) (fun c3 => ?_)
  · replace hf := oi_t hf c3
    exact b_X8_extend_15 F ht hls  _ _ _ _ w  (lv_sub hl [] rfl) hf
  · replace hf := oi_f hf c3
    refine lv_iload_n F.1 F.2.1 dX8_extend_9 rfl (lv_at hl 2 rfl) ?_
    refine lv_bipush (v := 24) F.1 F.2.1 dX8_extend_10 (by decide) ?_
    refine lv_icmp_le (tgt := 25) F.1 F.2.1 dX8_extend_12 (by decide) (fun c4 => ?_) (fun c4 => ?_)
    · replace hf := oi_t hf c4
      refine lv_aload_n F.1 F.2.1 dX8_extend_25 rfl (lv_at hl 0 rfl) ?_
      refine lv_iload_n F.1 F.2.1 dX8_extend_26 rfl (lv_at hl 1 rfl) ?_
      obtain ⟨r6, S5, hc, hf⟩ := oi_b hf
      obtain ⟨hz7, hf⟩ := oi_g hf
      refine k_r0 (S' := S5) (k := 58 + r6) w (runV (As := [.int a1]) (rest := []) (kb := 79) F w (k_X8_measured l x S1 a1 hc H.size) cy_X8_measured q201 q203 qp1 ⟨rfl, rfl⟩ ⟨Nat.le_of_ble_eq_true rfl, Nat.le_of_ble_eq_true rfl⟩ (by decide) rfl rfl rfl rfl hl.1 (Nat.le_of_ble_eq_true rfl) ⟨Nat.le_of_ble_eq_true rfl, Nat.le_of_ble_eq_true rfl⟩ dX8_extend_27) (fun H locs w => ?_)
      refine gN_SP_distinct (i := r6) F w (of_decide_eq_true hz7) (by simp [NF]) dX8_extend_30 ?_
      refine lv_if_ne (tgt := 46) F.1 F.2.1 dX8_extend_33 (by decide) (fun c8 => ?_) (fun c8 => ?_)
      · replace hf := oi_f hf c8
        refine lv_aload_n F.1 F.2.1 dX8_extend_46 rfl (lv_at hl 0 rfl) ?_
        refine g_RW_now F w q162 dX8_extend_47 ?_
        refine gN_ST_sets (i := 0) F w (by decide) (by simp [NF]) dX8_extend_50 ?_
        refine lv_iload_n F.1 F.2.1 dX8_extend_53 rfl (lv_at hl 1 rfl) ?_
        obtain ⟨hb9, hf⟩ := oi_g hf
        refine r_now F w hb9 dX8_extend_54 ?_
        refine gN_MS_count (i := ((Int32.toNatClampNeg a1))) F w (Nat.lt_of_lt_of_le (inB_lt hb9) (by decide)) (by simp [NF]) dX8_extend_55 ?_
        refine lv_iload_n F.1 F.2.1 dX8_extend_58 rfl (lv_at hl 2 rfl) ?_
        refine lv_icmp_le (tgt := 72) F.1 F.2.1 dX8_extend_59 (by decide) (fun c10 => ?_) (fun c10 => ?_)
        · replace hf := oi_t hf c10
          refine lv_aload_n F.1 F.2.1 dX8_extend_72 rfl (lv_at hl 0 rfl) ?_
          refine lv_aload_n F.1 F.2.1 dX8_extend_73 rfl (lv_at hl 0 rfl) ?_
          refine g_RW_now F w q162 dX8_extend_74 ?_
          refine gN_ST_sets (i := 0) F w (by decide) (by simp [NF]) dX8_extend_77 ?_
          refine lv_iload_n F.1 F.2.1 dX8_extend_80 rfl (lv_at hl 1 rfl) ?_
          obtain ⟨hb11, hf⟩ := oi_g hf
          refine r_now F w hb11 dX8_extend_81 ?_
          refine lv_aload_n F.1 F.2.1 dX8_extend_82 rfl (lv_at hl 0 rfl) ?_
          refine g_RW_spans F w q169 dX8_extend_83 ?_
          refine lv_iload_n F.1 F.2.1 dX8_extend_86 rfl (lv_at hl 1 rfl) ?_
          obtain ⟨hb12, hf⟩ := oi_g hf
          refine r_spans F w hb12 dX8_extend_87 ?_
          refine lv_iload_n F.1 F.2.1 dX8_extend_88 rfl (lv_at hl 2 rfl) ?_
          obtain ⟨r14, S13, hc, hf⟩ := oi_b hf
          refine k_i0 (S' := S13) (r := r14) w (runV (As := [.ref (x.2.2 (2 * ((Int32.toNatClampNeg a1)))), .ref (x.2.2 (58 + ((Int32.toNatClampNeg a1)))), .int a2]) (rest := []) (kb := 79) F w (k_X8_makeExtended l x S5 ((Int32.toNatClampNeg a1)) ((Int32.toNatClampNeg a1)) a2 (Nat.lt_of_lt_of_le (inB_lt hb11) (by decide)) (inB_lt hb12) hc H.size) cy_X8_makeExtended q771 q773 qp15 ⟨rfl, rfl⟩ ⟨Nat.le_of_ble_eq_true rfl, Nat.le_of_ble_eq_true rfl⟩ (by decide) rfl rfl rfl rfl hl.1 (Nat.le_of_ble_eq_true rfl) ⟨Nat.le_of_ble_eq_true rfl, Nat.le_of_ble_eq_true rfl⟩ dX8_extend_89) (fun H locs w => ?_)
          refine lv_if_ne (tgt := 105) F.1 F.2.1 dX8_extend_92 (by decide) (fun c15 => ?_) (fun c15 => ?_)
          · replace hf := oi_f hf c15
            refine lv_aload_n F.1 F.2.1 dX8_extend_105 rfl (lv_at hl 0 rfl) ?_
            refine lv_iload_n F.1 F.2.1 dX8_extend_106 rfl (lv_at hl 1 rfl) ?_
            refine lv_aload_n F.1 F.2.1 dX8_extend_107 rfl (lv_at hl 0 rfl) ?_
            refine g_RW_now F w q162 dX8_extend_108 ?_
            refine gN_ST_modulus (i := 0) F w (by decide) (by simp [NF]) dX8_extend_111 ?_
            obtain ⟨S16, hc, hf⟩ := oi_v hf
            refine k_v0 (S' := S16) w (runV (As := [.int a1, .int (fi S13 (30 + 0))]) (rest := []) (kb := 79) F w (k_X8_replace l x S13 a1 (fi S13 (30 + 0)) hc H.size) cy_X8_replace q462 q464 qp10 ⟨rfl, rfl⟩ ⟨Nat.le_of_ble_eq_true rfl, Nat.le_of_ble_eq_true rfl⟩ (by decide) rfl rfl rfl rfl hl.1 (Nat.le_of_ble_eq_true rfl) ⟨Nat.le_of_ble_eq_true rfl, Nat.le_of_ble_eq_true rfl⟩ dX8_extend_114) (fun H locs w => ?_)
            refine lv_aload_n F.1 F.2.1 dX8_extend_117 rfl (lv_at hl 0 rfl) ?_
            refine g_RW_made F w q164 dX8_extend_118 ?_
            obtain ⟨r18, S17, hc, hf⟩ := oi_b hf
            refine k_i0 (S' := S17) (r := r18) w (runV (As := []) (rest := []) (kb := 2 * 20) F w (k_X2_greatest l x S16 20 (by decide) hc H.size) cy_X2_greatest q256 q257 q258 ⟨rfl, rfl⟩ ⟨Nat.le_of_ble_eq_true rfl, Nat.le_of_ble_eq_true rfl⟩ (k_ms (by decide)) (enc_ms x S16 (by decide)) rfl rfl rfl hl.1 (Nat.le_of_ble_eq_true rfl) ⟨Nat.le_of_ble_eq_true rfl, Nat.le_of_ble_eq_true rfl⟩ dX8_extend_121) (fun H locs w => ?_)
            refine W.widen (k := 5) (n := 30) (by decide) (by decide) ?_
            exact x_iret F w (oi_s hf) dX8_extend_124
          · replace hf := oi_t hf c15
            exact x_throw (E := eIS) (text := "a mark would be greater than 2000") F ht hls w (oi_s hf) (by simp [XK]) xq_IS (by simp [XT]) hl.1 dX8_extend_95 dX8_extend_98 dX8_extend_99 dX8_extend_101 dX8_extend_104 (Nat.le_of_ble_eq_true rfl) (Nat.le_of_ble_eq_true rfl) (Nat.le_of_ble_eq_true rfl) (Nat.le_of_ble_eq_true rfl) (Nat.le_of_ble_eq_true rfl) (Nat.le_of_ble_eq_true rfl)
        · replace hf := oi_f hf c10
          exact x_throw (E := eIS) (text := "the set has more than n marks") F ht hls w (oi_s hf) (by simp [XK]) xq_IS (by simp [XT]) hl.1 dX8_extend_62 dX8_extend_65 dX8_extend_66 dX8_extend_68 dX8_extend_71 (Nat.le_of_ble_eq_true rfl) (Nat.le_of_ble_eq_true rfl) (Nat.le_of_ble_eq_true rfl) (Nat.le_of_ble_eq_true rfl) (Nat.le_of_ble_eq_true rfl) (Nat.le_of_ble_eq_true rfl)
      · replace hf := oi_t hf c8
        exact x_throw (E := eIS) (text := "the set is not a ruler") F ht hls w (oi_s hf) (by simp [XK]) xq_IS (by simp [XT]) hl.1 dX8_extend_36 dX8_extend_39 dX8_extend_40 dX8_extend_42 dX8_extend_45 (Nat.le_of_ble_eq_true rfl) (Nat.le_of_ble_eq_true rfl) (Nat.le_of_ble_eq_true rfl) (Nat.le_of_ble_eq_true rfl) (Nat.le_of_ble_eq_true rfl) (Nat.le_of_ble_eq_true rfl)
    · replace hf := oi_f hf c4
      exact b_X8_extend_15 F ht hls  _ _ _ _ w  (lv_sub hl [] rfl) hf
def f_X8_extend (S : ST) (a1 : Int32) (a2 : Int32) : Option (Nat × Int32 × ST) := f_X8_extend_0 S a1 a2
set_option maxHeartbeats 4000000 in
set_option maxRecDepth 100000 in
theorem k_X8_extend (l : Launch) (x : CX) (S : ST) (a1 : Int32) (a2 : Int32) {res : Nat × Int32 × ST} (hf : f_X8_extend S a1 a2 = some res) (hls : l.stackTraces = false) (sz : Nat) : vx_Met l yX8_extend (Cond.code yX8_extend cX8_extend 3 (some .int) :: GW) ({ frames := 7, cells := 5, slots := 30, locals := 150 } : Room) (PC x S sz [.ref (x.2.2 (79)), .int a1, .int a2]) (QXI x res.2.2 res.1 res.2.1 sz) (XX x res.2.2 res.1 sz) 5 30 (AA x sz) := by
  refine vx_ofW (cc := cX8_extend) (maxL := 3) (ret := (some .int)) (by decide) rfl ?_
  intro p e s m args below meth c s₁ B hml ht hv
  obtain ⟨rfl, rfl, hPW⟩ := hv
  have F : MF p m meth c cX8_extend 3 s _ RX8 (some .int) := MF.of B hml
  have w := WD.of hPW
  have hl := lv_entry ([.ref (x.2.2 (79)), .int a1, .int a2]) (n := 3) (Nat.le_of_ble_eq_true rfl)
  rw [lg_entry_eq]
  generalize (lg_sl ([.ref (x.2.2 (79)), .int a1, .int a2]) ++ List.replicate (3 - (lg_sl ([.ref (x.2.2 (79)), .int a1, .int a2])).length) Slot.unset).toArray = ls at hl ⊢
  have hl : lv_has ls 3 [(0, .ref (x.2.2 (79))), (1, .int a1), (2, .int a2)] := hl
  unfold f_X8_extend at hf
  exact b_X8_extend_0 F ht hls  _ _ _ _ w a1 a2 (lv_sub hl [0, 1, 2] rfl) hf
theorem cy_X8_optimal : CY yX8_optimal RX8 cX8_optimal 3 (some .int) 2 := ⟨q1, q790, rfl, by decide, by decide, by decide +kernel⟩
def f_X8_optimal_15 (S : ST)  : Option (Nat × Int32 × ST) := some (2, 0, S)
set_option maxHeartbeats 4000000 in
set_option maxRecDepth 100000 in
theorem b_X8_optimal_15 {p : Program} {l : Launch} {e : Env} {s : State} {m : MethodId} {args : Array Value} {below : List Frame} {meth : Method} {c : Code} {x : CX} {res : Nat × Int32 × ST} (F : MF p m meth c cX8_optimal 3 s args RX8 (some .int)) (ht : ∀ z ∈ c.exceptionTable.toList, False) (hls : l.stackTraces = false) : ∀ (H : Heap) (locs : List Loc) (ls : Array Slot) (S : ST), WD x s S H locs → lv_has ls 3 [] → f_X8_optimal_15 S = some res → W p l e ({ frames := 28, cells := 2, slots := 12, locals := 889 } : Room) s m args below meth c H locs 1 6 (vx_MQ below (QXI x res.2.2 res.1 res.2.1 s.heap.size) (XX x res.2.2 res.1 s.heap.size) args s 2 12 (AA x s.heap.size)) (F0 m 15 ls []) := by
  intro H locs ls S w hl hf
  unfold f_X8_optimal_15 at hf
  exact x_throw (E := eIA) (text := "n is out of range") F ht hls w (oi_s hf) (by simp [XK]) xq_IA (by simp [XT]) hl.1 dX8_optimal_15 dX8_optimal_18 dX8_optimal_19 dX8_optimal_21 dX8_optimal_24 (Nat.le_of_ble_eq_true rfl) (Nat.le_of_ble_eq_true rfl) (Nat.le_of_ble_eq_true rfl) (Nat.le_of_ble_eq_true rfl) (Nat.le_of_ble_eq_true rfl) (Nat.le_of_ble_eq_true rfl)
def f_X8_optimal_0 (S : ST) (a1 : Int32) (a2 : Int32) : Option (Nat × Int32 × ST) := oX (f_X8_needSet S a2) (0 : Int32) (fun (S1 : ST) => (if a1 < 1 then f_X8_optimal_15 S1 else (if a1 ≤ 7 then oV (f_X8_makeOptimal S1 a1) (fun (S5 : ST) => oV (f_X8_replace S5 a2 (fi S5 (30 + 0))) (fun (S6 : ST) => oB (f_X2_span S6 20) (fun (r8 : Int32) (S7 : ST) => some (0, r8, S7)))) else f_X8_optimal_15 S1)))
set_option maxHeartbeats 4000000 in
set_option maxRecDepth 100000 in
theorem b_X8_optimal_0 {p : Program} {l : Launch} {e : Env} {s : State} {m : MethodId} {args : Array Value} {below : List Frame} {meth : Method} {c : Code} {x : CX} {res : Nat × Int32 × ST} (F : MF p m meth c cX8_optimal 3 s args RX8 (some .int)) (ht : ∀ z ∈ c.exceptionTable.toList, False) (hls : l.stackTraces = false) : ∀ (H : Heap) (locs : List Loc) (ls : Array Slot) (S : ST), WD x s S H locs → ∀ (a1 : Int32) (a2 : Int32), lv_has ls 3 [(0, .ref (x.2.2 (79))), (1, .int a1), (2, .int a2)] → f_X8_optimal_0 S a1 a2 = some res → W p l e ({ frames := 28, cells := 2, slots := 12, locals := 889 } : Room) s m args below meth c H locs 0 0 (vx_MQ below (QXI x res.2.2 res.1 res.2.1 s.heap.size) (XX x res.2.2 res.1 s.heap.size) args s 2 12 (AA x s.heap.size)) (F0 m 0 ls []) := by
  intro H locs ls S w a1 a2 hl hf
  unfold f_X8_optimal_0 at hf
  refine lv_iload_n F.1 F.2.1 dX8_optimal_0 rfl (lv_at hl 2 rfl) ?_
  obtain ⟨n2, S1, hc, hf, hx⟩ := oi_x hf
  refine kx_v (S1 := S1) (n1 := n2) F ht w (xrunS (As := [.int a2]) (rest := []) F w (k_X8_needSet l x S a2 hc hls H.size) cy_X8_needSet q342 q343 ⟨rfl, rfl⟩ ⟨Nat.le_of_ble_eq_true rfl, Nat.le_of_ble_eq_true rfl⟩ rfl rfl hl.1 (Nat.le_of_ble_eq_true rfl) ⟨Nat.le_of_ble_eq_true rfl, Nat.le_of_ble_eq_true rfl⟩ dX8_optimal_1) hx (Nat.le_of_ble_eq_true rfl) (Nat.le_of_ble_eq_true rfl) (fun hn H locs w => ?_)
  replace hf := hf hn
  refine lv_iload_n F.1 F.2.1 dX8_optimal_4 rfl (lv_at hl 1 rfl) ?_
  refine lv_iconst (v := 1) F.1 F.2.1 dX8_optimal_5 (by decide) ?_
  refine lv_icmp_lt (tgt := 15) F.1 F.2.1 dX8_optimal_6 (by decide) (fun c3 => ?_) (fun c3 => ?_)
  · replace hf := oi_t hf c3
    exact b_X8_optimal_15 F ht hls  _ _ _ _ w  (lv_sub hl [] rfl) hf
  · replace hf := oi_f hf c3
    refine lv_iload_n F.1 F.2.1 dX8_optimal_9 rfl (lv_at hl 1 rfl) ?_
    refine lv_bipush (v := 7) F.1 F.2.1 dX8_optimal_10 (by decide) ?_
    refine lv_icmp_le (tgt := 25) F.1 F.2.1 dX8_optimal_12 (by decide) (fun c4 => ?_) (fun c4 => ?_)
    · replace hf := oi_t hf c4
      refine lv_aload_n F.1 F.2.1 dX8_optimal_25 rfl (lv_at hl 0 rfl) ?_
      refine lv_iload_n F.1 F.2.1 dX8_optimal_26 rfl (lv_at hl 1 rfl) ?_
      obtain ⟨S5, hc, hf⟩ := oi_v hf
      refine k_v0 (S' := S5) w (runV (As := [.int a1]) (rest := []) (kb := 79) F w (k_X8_makeOptimal l x S1 a1 hc H.size) cy_X8_makeOptimal q791 q793 qp16 ⟨rfl, rfl⟩ ⟨Nat.le_of_ble_eq_true rfl, Nat.le_of_ble_eq_true rfl⟩ (by decide) rfl rfl rfl rfl hl.1 (Nat.le_of_ble_eq_true rfl) ⟨Nat.le_of_ble_eq_true rfl, Nat.le_of_ble_eq_true rfl⟩ dX8_optimal_27) (fun H locs w => ?_)
      refine lv_aload_n F.1 F.2.1 dX8_optimal_30 rfl (lv_at hl 0 rfl) ?_
      refine lv_iload_n F.1 F.2.1 dX8_optimal_31 rfl (lv_at hl 2 rfl) ?_
      refine lv_aload_n F.1 F.2.1 dX8_optimal_32 rfl (lv_at hl 0 rfl) ?_
      refine g_RW_now F w q162 dX8_optimal_33 ?_
      refine gN_ST_modulus (i := 0) F w (by decide) (by simp [NF]) dX8_optimal_36 ?_
      obtain ⟨S6, hc, hf⟩ := oi_v hf
      refine k_v0 (S' := S6) w (runV (As := [.int a2, .int (fi S5 (30 + 0))]) (rest := []) (kb := 79) F w (k_X8_replace l x S5 a2 (fi S5 (30 + 0)) hc H.size) cy_X8_replace q462 q464 qp10 ⟨rfl, rfl⟩ ⟨Nat.le_of_ble_eq_true rfl, Nat.le_of_ble_eq_true rfl⟩ (by decide) rfl rfl rfl rfl hl.1 (Nat.le_of_ble_eq_true rfl) ⟨Nat.le_of_ble_eq_true rfl, Nat.le_of_ble_eq_true rfl⟩ dX8_optimal_39) (fun H locs w => ?_)
      refine lv_aload_n F.1 F.2.1 dX8_optimal_42 rfl (lv_at hl 0 rfl) ?_
      refine g_RW_made F w q164 dX8_optimal_43 ?_
      obtain ⟨r8, S7, hc, hf⟩ := oi_b hf
      refine k_i0 (S' := S7) (r := r8) w (runV (As := []) (rest := []) (kb := 2 * 20) F w (k_X2_span l x S6 20 (by decide) hc H.size) cy_X2_span q534 q535 q536 ⟨rfl, rfl⟩ ⟨Nat.le_of_ble_eq_true rfl, Nat.le_of_ble_eq_true rfl⟩ (k_ms (by decide)) (enc_ms x S6 (by decide)) rfl rfl rfl hl.1 (Nat.le_of_ble_eq_true rfl) ⟨Nat.le_of_ble_eq_true rfl, Nat.le_of_ble_eq_true rfl⟩ dX8_optimal_46) (fun H locs w => ?_)
      refine W.widen (k := 2) (n := 12) (by decide) (by decide) ?_
      exact x_iret F w (oi_s hf) dX8_optimal_49
    · replace hf := oi_f hf c4
      exact b_X8_optimal_15 F ht hls  _ _ _ _ w  (lv_sub hl [] rfl) hf
def f_X8_optimal (S : ST) (a1 : Int32) (a2 : Int32) : Option (Nat × Int32 × ST) := f_X8_optimal_0 S a1 a2
set_option maxHeartbeats 4000000 in
set_option maxRecDepth 100000 in
theorem k_X8_optimal (l : Launch) (x : CX) (S : ST) (a1 : Int32) (a2 : Int32) {res : Nat × Int32 × ST} (hf : f_X8_optimal S a1 a2 = some res) (hls : l.stackTraces = false) (sz : Nat) : vx_Met l yX8_optimal (Cond.code yX8_optimal cX8_optimal 3 (some .int) :: GW) ({ frames := 28, cells := 2, slots := 12, locals := 889 } : Room) (PC x S sz [.ref (x.2.2 (79)), .int a1, .int a2]) (QXI x res.2.2 res.1 res.2.1 sz) (XX x res.2.2 res.1 sz) 2 12 (AA x sz) := by
  refine vx_ofW (cc := cX8_optimal) (maxL := 3) (ret := (some .int)) (by decide) rfl ?_
  intro p e s m args below meth c s₁ B hml ht hv
  obtain ⟨rfl, rfl, hPW⟩ := hv
  have F : MF p m meth c cX8_optimal 3 s _ RX8 (some .int) := MF.of B hml
  have w := WD.of hPW
  have hl := lv_entry ([.ref (x.2.2 (79)), .int a1, .int a2]) (n := 3) (Nat.le_of_ble_eq_true rfl)
  rw [lg_entry_eq]
  generalize (lg_sl ([.ref (x.2.2 (79)), .int a1, .int a2]) ++ List.replicate (3 - (lg_sl ([.ref (x.2.2 (79)), .int a1, .int a2])).length) Slot.unset).toArray = ls at hl ⊢
  have hl : lv_has ls 3 [(0, .ref (x.2.2 (79))), (1, .int a1), (2, .int a2)] := hl
  unfold f_X8_optimal at hf
  exact b_X8_optimal_0 F ht hls  _ _ _ _ w a1 a2 (lv_sub hl [0, 1, 2] rfl) hf
theorem cy_X8_sparse : CY yX8_sparse RX8 cX8_sparse 3 (some .int) 2 := ⟨q1, q808, rfl, by decide, by decide, by decide +kernel⟩
def f_X8_sparse_15 (S : ST)  : Option (Nat × Int32 × ST) := some (2, 0, S)
set_option maxHeartbeats 4000000 in
set_option maxRecDepth 100000 in
theorem b_X8_sparse_15 {p : Program} {l : Launch} {e : Env} {s : State} {m : MethodId} {args : Array Value} {below : List Frame} {meth : Method} {c : Code} {x : CX} {res : Nat × Int32 × ST} (F : MF p m meth c cX8_sparse 3 s args RX8 (some .int)) (ht : ∀ z ∈ c.exceptionTable.toList, False) (hls : l.stackTraces = false) : ∀ (H : Heap) (locs : List Loc) (ls : Array Slot) (S : ST), WD x s S H locs → lv_has ls 3 [] → f_X8_sparse_15 S = some res → W p l e ({ frames := 28, cells := 2, slots := 12, locals := 891 } : Room) s m args below meth c H locs 1 6 (vx_MQ below (QXI x res.2.2 res.1 res.2.1 s.heap.size) (XX x res.2.2 res.1 s.heap.size) args s 2 12 (AA x s.heap.size)) (F0 m 15 ls []) := by
  intro H locs ls S w hl hf
  unfold f_X8_sparse_15 at hf
  exact x_throw (E := eIA) (text := "n is out of range") F ht hls w (oi_s hf) (by simp [XK]) xq_IA (by simp [XT]) hl.1 dX8_sparse_15 dX8_sparse_18 dX8_sparse_19 dX8_sparse_21 dX8_sparse_24 (Nat.le_of_ble_eq_true rfl) (Nat.le_of_ble_eq_true rfl) (Nat.le_of_ble_eq_true rfl) (Nat.le_of_ble_eq_true rfl) (Nat.le_of_ble_eq_true rfl) (Nat.le_of_ble_eq_true rfl)
def f_X8_sparse_0 (S : ST) (a1 : Int32) (a2 : Int32) : Option (Nat × Int32 × ST) := oX (f_X8_needSet S a2) (0 : Int32) (fun (S1 : ST) => (if a1 < 1 then f_X8_sparse_15 S1 else (if a1 ≤ 20 then oV (f_X8_makeSparse S1 a1) (fun (S5 : ST) => oV (f_X8_replace S5 a2 (fi S5 (30 + 0))) (fun (S6 : ST) => some (0, (fi S6 20), S6))) else f_X8_sparse_15 S1)))
set_option maxHeartbeats 4000000 in
set_option maxRecDepth 100000 in
theorem b_X8_sparse_0 {p : Program} {l : Launch} {e : Env} {s : State} {m : MethodId} {args : Array Value} {below : List Frame} {meth : Method} {c : Code} {x : CX} {res : Nat × Int32 × ST} (F : MF p m meth c cX8_sparse 3 s args RX8 (some .int)) (ht : ∀ z ∈ c.exceptionTable.toList, False) (hls : l.stackTraces = false) : ∀ (H : Heap) (locs : List Loc) (ls : Array Slot) (S : ST), WD x s S H locs → ∀ (a1 : Int32) (a2 : Int32), lv_has ls 3 [(0, .ref (x.2.2 (79))), (1, .int a1), (2, .int a2)] → f_X8_sparse_0 S a1 a2 = some res → W p l e ({ frames := 28, cells := 2, slots := 12, locals := 891 } : Room) s m args below meth c H locs 0 0 (vx_MQ below (QXI x res.2.2 res.1 res.2.1 s.heap.size) (XX x res.2.2 res.1 s.heap.size) args s 2 12 (AA x s.heap.size)) (F0 m 0 ls []) := by
  intro H locs ls S w a1 a2 hl hf
  unfold f_X8_sparse_0 at hf
  refine lv_iload_n F.1 F.2.1 dX8_sparse_0 rfl (lv_at hl 2 rfl) ?_
  obtain ⟨n2, S1, hc, hf, hx⟩ := oi_x hf
  refine kx_v (S1 := S1) (n1 := n2) F ht w (xrunS (As := [.int a2]) (rest := []) F w (k_X8_needSet l x S a2 hc hls H.size) cy_X8_needSet q342 q343 ⟨rfl, rfl⟩ ⟨Nat.le_of_ble_eq_true rfl, Nat.le_of_ble_eq_true rfl⟩ rfl rfl hl.1 (Nat.le_of_ble_eq_true rfl) ⟨Nat.le_of_ble_eq_true rfl, Nat.le_of_ble_eq_true rfl⟩ dX8_sparse_1) hx (Nat.le_of_ble_eq_true rfl) (Nat.le_of_ble_eq_true rfl) (fun hn H locs w => ?_)
  replace hf := hf hn
  refine lv_iload_n F.1 F.2.1 dX8_sparse_4 rfl (lv_at hl 1 rfl) ?_
  refine lv_iconst (v := 1) F.1 F.2.1 dX8_sparse_5 (by decide) ?_
  refine lv_icmp_lt (tgt := 15) F.1 F.2.1 dX8_sparse_6 (by decide) (fun c3 => ?_) (fun c3 => ?_)
  · replace hf := oi_t hf c3
    exact b_X8_sparse_15 F ht hls  _ _ _ _ w  (lv_sub hl [] rfl) hf
  · replace hf := oi_f hf c3
    refine lv_iload_n F.1 F.2.1 dX8_sparse_9 rfl (lv_at hl 1 rfl) ?_
    refine lv_bipush (v := 20) F.1 F.2.1 dX8_sparse_10 (by decide) ?_
    refine lv_icmp_le (tgt := 25) F.1 F.2.1 dX8_sparse_12 (by decide) (fun c4 => ?_) (fun c4 => ?_)
    · replace hf := oi_t hf c4
      refine lv_aload_n F.1 F.2.1 dX8_sparse_25 rfl (lv_at hl 0 rfl) ?_
      refine lv_iload_n F.1 F.2.1 dX8_sparse_26 rfl (lv_at hl 1 rfl) ?_
      obtain ⟨S5, hc, hf⟩ := oi_v hf
      refine k_v0 (S' := S5) w (runV (As := [.int a1]) (rest := []) (kb := 79) F w (k_X8_makeSparse l x S1 a1 hc H.size) cy_X8_makeSparse q809 q811 qp17 ⟨rfl, rfl⟩ ⟨Nat.le_of_ble_eq_true rfl, Nat.le_of_ble_eq_true rfl⟩ (by decide) rfl rfl rfl rfl hl.1 (Nat.le_of_ble_eq_true rfl) ⟨Nat.le_of_ble_eq_true rfl, Nat.le_of_ble_eq_true rfl⟩ dX8_sparse_27) (fun H locs w => ?_)
      refine lv_aload_n F.1 F.2.1 dX8_sparse_30 rfl (lv_at hl 0 rfl) ?_
      refine lv_iload_n F.1 F.2.1 dX8_sparse_31 rfl (lv_at hl 2 rfl) ?_
      refine lv_aload_n F.1 F.2.1 dX8_sparse_32 rfl (lv_at hl 0 rfl) ?_
      refine g_RW_now F w q162 dX8_sparse_33 ?_
      refine gN_ST_modulus (i := 0) F w (by decide) (by simp [NF]) dX8_sparse_36 ?_
      obtain ⟨S6, hc, hf⟩ := oi_v hf
      refine k_v0 (S' := S6) w (runV (As := [.int a2, .int (fi S5 (30 + 0))]) (rest := []) (kb := 79) F w (k_X8_replace l x S5 a2 (fi S5 (30 + 0)) hc H.size) cy_X8_replace q462 q464 qp10 ⟨rfl, rfl⟩ ⟨Nat.le_of_ble_eq_true rfl, Nat.le_of_ble_eq_true rfl⟩ (by decide) rfl rfl rfl rfl hl.1 (Nat.le_of_ble_eq_true rfl) ⟨Nat.le_of_ble_eq_true rfl, Nat.le_of_ble_eq_true rfl⟩ dX8_sparse_39) (fun H locs w => ?_)
      refine lv_aload_n F.1 F.2.1 dX8_sparse_42 rfl (lv_at hl 0 rfl) ?_
      refine g_RW_made F w q164 dX8_sparse_43 ?_
      refine gN_MS_count (i := 20) F w (by decide) (by simp [NF]) dX8_sparse_46 ?_
      refine W.widen (k := 2) (n := 12) (by decide) (by decide) ?_
      exact x_iret F w (oi_s hf) dX8_sparse_49
    · replace hf := oi_f hf c4
      exact b_X8_sparse_15 F ht hls  _ _ _ _ w  (lv_sub hl [] rfl) hf
def f_X8_sparse (S : ST) (a1 : Int32) (a2 : Int32) : Option (Nat × Int32 × ST) := f_X8_sparse_0 S a1 a2
set_option maxHeartbeats 4000000 in
set_option maxRecDepth 100000 in
theorem k_X8_sparse (l : Launch) (x : CX) (S : ST) (a1 : Int32) (a2 : Int32) {res : Nat × Int32 × ST} (hf : f_X8_sparse S a1 a2 = some res) (hls : l.stackTraces = false) (sz : Nat) : vx_Met l yX8_sparse (Cond.code yX8_sparse cX8_sparse 3 (some .int) :: GW) ({ frames := 28, cells := 2, slots := 12, locals := 891 } : Room) (PC x S sz [.ref (x.2.2 (79)), .int a1, .int a2]) (QXI x res.2.2 res.1 res.2.1 sz) (XX x res.2.2 res.1 sz) 2 12 (AA x sz) := by
  refine vx_ofW (cc := cX8_sparse) (maxL := 3) (ret := (some .int)) (by decide) rfl ?_
  intro p e s m args below meth c s₁ B hml ht hv
  obtain ⟨rfl, rfl, hPW⟩ := hv
  have F : MF p m meth c cX8_sparse 3 s _ RX8 (some .int) := MF.of B hml
  have w := WD.of hPW
  have hl := lv_entry ([.ref (x.2.2 (79)), .int a1, .int a2]) (n := 3) (Nat.le_of_ble_eq_true rfl)
  rw [lg_entry_eq]
  generalize (lg_sl ([.ref (x.2.2 (79)), .int a1, .int a2]) ++ List.replicate (3 - (lg_sl ([.ref (x.2.2 (79)), .int a1, .int a2])).length) Slot.unset).toArray = ls at hl ⊢
  have hl : lv_has ls 3 [(0, .ref (x.2.2 (79))), (1, .int a1), (2, .int a2)] := hl
  unfold f_X8_sparse at hf
  exact b_X8_sparse_0 F ht hls  _ _ _ _ w a1 a2 (lv_sub hl [0, 1, 2] rfl) hf
theorem cy_X8_firstDifferenceSet : CY yX8_firstDifferenceSet RX8 cX8_firstDifferenceSet 6 (some .int) 3 := ⟨q1, q825, rfl, by decide, by decide, by decide +kernel⟩
def f_X8_firstDifferenceSet_31 (S : ST)  : Option (Nat × Int32 × ST) := some (2, 0, S)
set_option maxHeartbeats 4000000 in
set_option maxRecDepth 100000 in
theorem b_X8_firstDifferenceSet_31 {p : Program} {l : Launch} {e : Env} {s : State} {m : MethodId} {args : Array Value} {below : List Frame} {meth : Method} {c : Code} {x : CX} {res : Nat × Int32 × ST} (F : MF p m meth c cX8_firstDifferenceSet 6 s args RX8 (some .int)) (ht : ∀ z ∈ c.exceptionTable.toList, False) (hls : l.stackTraces = false) : ∀ (H : Heap) (locs : List Loc) (ls : Array Slot) (S : ST), WD x s S H locs → lv_has ls 6 [] → f_X8_firstDifferenceSet_31 S = some res → W p l e ({ frames := 28, cells := 2, slots := 12, locals := 699 } : Room) s m args below meth c H locs 1 6 (vx_MQ below (QXI x res.2.2 res.1 res.2.1 s.heap.size) (XX x res.2.2 res.1 s.heap.size) args s 2 12 (AA x s.heap.size)) (F0 m 31 ls []) := by
  intro H locs ls S w hl hf
  unfold f_X8_firstDifferenceSet_31 at hf
  exact x_throw (E := eIA) (text := "v or k is out of range") F ht hls w (oi_s hf) (by simp [XK]) xq_IA (by simp [XT]) hl.1 dX8_firstDifferenceSet_31 dX8_firstDifferenceSet_34 dX8_firstDifferenceSet_35 dX8_firstDifferenceSet_37 dX8_firstDifferenceSet_40 (Nat.le_of_ble_eq_true rfl) (Nat.le_of_ble_eq_true rfl) (Nat.le_of_ble_eq_true rfl) (Nat.le_of_ble_eq_true rfl) (Nat.le_of_ble_eq_true rfl) (Nat.le_of_ble_eq_true rfl)
def f_X8_firstDifferenceSet_0 (S : ST) (a1 : Int32) (a2 : Int32) (a3 : Int32) : Option (Nat × Int32 × ST) := oX (f_X8_needSet S a3) (0 : Int32) (fun (S1 : ST) => (if a1 < 3 then f_X8_firstDifferenceSet_31 S1 else (if 31 < a1 then f_X8_firstDifferenceSet_31 S1 else (if a2 < 2 then f_X8_firstDifferenceSet_31 S1 else (if 6 < a2 then f_X8_firstDifferenceSet_31 S1 else (if a2 < a1 then oL (a2 * (a2 - (1 : Int32))) (fun (v8 : Int32) => oB (f_X8_residue S1 v8 (a1 - (1 : Int32))) (fun (r10 : Int32) (S9 : ST) => (if r10 = 0 then oB (f_X8_quotient S9 v8 (a1 - (1 : Int32))) (fun (r13 : Int32) (S12 : ST) => oB (f_X8_makeDifferenceSet S12 a1 a2 r13) (fun (r15 : Int32) (S14 : ST) => (if r15 = 0 then some (0, (-1), S14) else oV (f_X8_replace S14 a3 a1) (fun (S17 : ST) => some (0, r13, S17))))) else some (0, (-1), S9)))) else f_X8_firstDifferenceSet_31 S1))))))
set_option maxHeartbeats 4000000 in
set_option maxRecDepth 100000 in
theorem b_X8_firstDifferenceSet_0 {p : Program} {l : Launch} {e : Env} {s : State} {m : MethodId} {args : Array Value} {below : List Frame} {meth : Method} {c : Code} {x : CX} {res : Nat × Int32 × ST} (F : MF p m meth c cX8_firstDifferenceSet 6 s args RX8 (some .int)) (ht : ∀ z ∈ c.exceptionTable.toList, False) (hls : l.stackTraces = false) : ∀ (H : Heap) (locs : List Loc) (ls : Array Slot) (S : ST), WD x s S H locs → ∀ (a1 : Int32) (a2 : Int32) (a3 : Int32), lv_has ls 6 [(0, .ref (x.2.2 (79))), (1, .int a1), (2, .int a2), (3, .int a3)] → f_X8_firstDifferenceSet_0 S a1 a2 a3 = some res → W p l e ({ frames := 28, cells := 2, slots := 12, locals := 699 } : Room) s m args below meth c H locs 0 0 (vx_MQ below (QXI x res.2.2 res.1 res.2.1 s.heap.size) (XX x res.2.2 res.1 s.heap.size) args s 2 12 (AA x s.heap.size)) (F0 m 0 ls []) := by
  intro H locs ls S w a1 a2 a3 hl hf
  unfold f_X8_firstDifferenceSet_0 at hf
  refine lv_iload_n F.1 F.2.1 dX8_firstDifferenceSet_0 rfl (lv_at hl 3 rfl) ?_
  obtain ⟨n2, S1, hc, hf, hx⟩ := oi_x hf
  refine kx_v (S1 := S1) (n1 := n2) F ht w (xrunS (As := [.int a3]) (rest := []) F w (k_X8_needSet l x S a3 hc hls H.size) cy_X8_needSet q342 q343 ⟨rfl, rfl⟩ ⟨Nat.le_of_ble_eq_true rfl, Nat.le_of_ble_eq_true rfl⟩ rfl rfl hl.1 (Nat.le_of_ble_eq_true rfl) ⟨Nat.le_of_ble_eq_true rfl, Nat.le_of_ble_eq_true rfl⟩ dX8_firstDifferenceSet_1) hx (Nat.le_of_ble_eq_true rfl) (Nat.le_of_ble_eq_true rfl) (fun hn H locs w => ?_)
  replace hf := hf hn
  refine lv_iload_n F.1 F.2.1 dX8_firstDifferenceSet_4 rfl (lv_at hl 1 rfl) ?_
  refine lv_iconst (v := 3) F.1 F.2.1 dX8_firstDifferenceSet_5 (by decide) ?_
  refine lv_icmp_lt (tgt := 31) F.1 F.2.1 dX8_firstDifferenceSet_6 (by decide) (fun c3 => ?_) (fun c3 => ?_)
  · replace hf := oi_t hf c3
    exact b_X8_firstDifferenceSet_31 F ht hls  _ _ _ _ w  (lv_sub hl [] rfl) hf
  · replace hf := oi_f hf c3
    refine lv_iload_n F.1 F.2.1 dX8_firstDifferenceSet_9 rfl (lv_at hl 1 rfl) ?_
    refine lv_bipush (v := 31) F.1 F.2.1 dX8_firstDifferenceSet_10 (by decide) ?_
    refine lv_icmp_gt (tgt := 31) F.1 F.2.1 dX8_firstDifferenceSet_12 (by decide) (fun c4 => ?_) (fun c4 => ?_)
    · replace hf := oi_t hf c4
      exact b_X8_firstDifferenceSet_31 F ht hls  _ _ _ _ w  (lv_sub hl [] rfl) hf
    · replace hf := oi_f hf c4
      refine lv_iload_n F.1 F.2.1 dX8_firstDifferenceSet_15 rfl (lv_at hl 2 rfl) ?_
      refine lv_iconst (v := 2) F.1 F.2.1 dX8_firstDifferenceSet_16 (by decide) ?_
      refine lv_icmp_lt (tgt := 31) F.1 F.2.1 dX8_firstDifferenceSet_17 (by decide) (fun c5 => ?_) (fun c5 => ?_)
      · replace hf := oi_t hf c5
        exact b_X8_firstDifferenceSet_31 F ht hls  _ _ _ _ w  (lv_sub hl [] rfl) hf
      · replace hf := oi_f hf c5
        refine lv_iload_n F.1 F.2.1 dX8_firstDifferenceSet_20 rfl (lv_at hl 2 rfl) ?_
        refine lv_bipush (v := 6) F.1 F.2.1 dX8_firstDifferenceSet_21 (by decide) ?_
        refine lv_icmp_gt (tgt := 31) F.1 F.2.1 dX8_firstDifferenceSet_23 (by decide) (fun c6 => ?_) (fun c6 => ?_)
        · replace hf := oi_t hf c6
          exact b_X8_firstDifferenceSet_31 F ht hls  _ _ _ _ w  (lv_sub hl [] rfl) hf
        · replace hf := oi_f hf c6
          refine lv_iload_n F.1 F.2.1 dX8_firstDifferenceSet_26 rfl (lv_at hl 2 rfl) ?_
          refine lv_iload_n F.1 F.2.1 dX8_firstDifferenceSet_27 rfl (lv_at hl 1 rfl) ?_
          refine lv_icmp_lt (tgt := 41) F.1 F.2.1 dX8_firstDifferenceSet_28 (by decide) (fun c7 => ?_) (fun c7 => ?_)
          · replace hf := oi_t hf c7
            refine lv_iload_n F.1 F.2.1 dX8_firstDifferenceSet_41 rfl (lv_at hl 2 rfl) ?_
            refine lv_iload_n F.1 F.2.1 dX8_firstDifferenceSet_42 rfl (lv_at hl 2 rfl) ?_
            refine lv_iconst (v := 1) F.1 F.2.1 dX8_firstDifferenceSet_43 (by decide) ?_
            refine lv_isub F.1 F.2.1 dX8_firstDifferenceSet_44 ?_
            refine lv_imul F.1 F.2.1 dX8_firstDifferenceSet_45 ?_
            refine lv_topi (fun v8 e_v8 => ?_)
            replace hf := oi_l hf e_v8
            refine lv_istore (lv' := [(4, .int v8), (0, .ref (x.2.2 (79))), (1, .int a1), (2, .int a2), (3, .int a3)]) F.1 F.2.1 dX8_firstDifferenceSet_46 hl (by decide) rfl (fun ls hl => ?_)
            refine lv_iload F.1 F.2.1 dX8_firstDifferenceSet_48 (lv_at hl 0 rfl) ?_
            refine lv_iload_n F.1 F.2.1 dX8_firstDifferenceSet_50 rfl (lv_at hl 2 rfl) ?_
            refine lv_iconst (v := 1) F.1 F.2.1 dX8_firstDifferenceSet_51 (by decide) ?_
            refine lv_isub F.1 F.2.1 dX8_firstDifferenceSet_52 ?_
            obtain ⟨r10, S9, hc, hf⟩ := oi_b hf
            refine k_i0 (S' := S9) (r := r10) w (runS (As := [.int v8, .int (a1 - (1 : Int32))]) (rest := []) F w (k_X8_residue l x S1 v8 (a1 - (1 : Int32)) hc H.size) cy_X8_residue q301 q302 ⟨rfl, rfl⟩ ⟨Nat.le_of_ble_eq_true rfl, Nat.le_of_ble_eq_true rfl⟩ rfl rfl hl.1 (Nat.le_of_ble_eq_true rfl) ⟨Nat.le_of_ble_eq_true rfl, Nat.le_of_ble_eq_true rfl⟩ dX8_firstDifferenceSet_53) (fun H locs w => ?_)
            refine lv_if_eq (tgt := 61) F.1 F.2.1 dX8_firstDifferenceSet_56 (by decide) (fun c11 => ?_) (fun c11 => ?_)
            · replace hf := oi_t hf c11
              refine lv_iload F.1 F.2.1 dX8_firstDifferenceSet_61 (lv_at hl 0 rfl) ?_
              refine lv_iload_n F.1 F.2.1 dX8_firstDifferenceSet_63 rfl (lv_at hl 2 rfl) ?_
              refine lv_iconst (v := 1) F.1 F.2.1 dX8_firstDifferenceSet_64 (by decide) ?_
              refine lv_isub F.1 F.2.1 dX8_firstDifferenceSet_65 ?_
              obtain ⟨r13, S12, hc, hf⟩ := oi_b hf
              refine k_i0 (S' := S12) (r := r13) w (runS (As := [.int v8, .int (a1 - (1 : Int32))]) (rest := []) F w (k_X8_quotient l x S9 v8 (a1 - (1 : Int32)) hc H.size) cy_X8_quotient q827 q828 ⟨rfl, rfl⟩ ⟨Nat.le_of_ble_eq_true rfl, Nat.le_of_ble_eq_true rfl⟩ rfl rfl hl.1 (Nat.le_of_ble_eq_true rfl) ⟨Nat.le_of_ble_eq_true rfl, Nat.le_of_ble_eq_true rfl⟩ dX8_firstDifferenceSet_66) (fun H locs w => ?_)
              refine lv_istore (lv' := [(5, .int r13), (4, .int v8), (0, .ref (x.2.2 (79))), (1, .int a1), (2, .int a2), (3, .int a3)]) F.1 F.2.1 dX8_firstDifferenceSet_69 hl (by decide) rfl (fun ls hl => ?_)
              refine lv_aload_n F.1 F.2.1 dX8_firstDifferenceSet_71 rfl (lv_at hl 2 rfl) ?_
              refine lv_iload_n F.1 F.2.1 dX8_firstDifferenceSet_72 rfl (lv_at hl 3 rfl) ?_
              refine lv_iload_n F.1 F.2.1 dX8_firstDifferenceSet_73 rfl (lv_at hl 4 rfl) ?_
              refine lv_iload F.1 F.2.1 dX8_firstDifferenceSet_74 (lv_at hl 0 rfl) ?_
              obtain ⟨r15, S14, hc, hf⟩ := oi_b hf
              refine k_i0 (S' := S14) (r := r15) w (runV (As := [.int a1, .int a2, .int r13]) (rest := []) (kb := 79) F w (k_X8_makeDifferenceSet l x S12 a1 a2 r13 hc H.size) cy_X8_makeDifferenceSet q830 q832 qp18 ⟨rfl, rfl⟩ ⟨Nat.le_of_ble_eq_true rfl, Nat.le_of_ble_eq_true rfl⟩ (by decide) rfl rfl rfl rfl hl.1 (Nat.le_of_ble_eq_true rfl) ⟨Nat.le_of_ble_eq_true rfl, Nat.le_of_ble_eq_true rfl⟩ dX8_firstDifferenceSet_76) (fun H locs w => ?_)
              refine lv_if_ne (tgt := 84) F.1 F.2.1 dX8_firstDifferenceSet_79 (by decide) (fun c16 => ?_) (fun c16 => ?_)
              · replace hf := oi_f hf c16
                refine lv_aload_n F.1 F.2.1 dX8_firstDifferenceSet_84 rfl (lv_at hl 2 rfl) ?_
                refine lv_iload_n F.1 F.2.1 dX8_firstDifferenceSet_85 rfl (lv_at hl 5 rfl) ?_
                refine lv_iload_n F.1 F.2.1 dX8_firstDifferenceSet_86 rfl (lv_at hl 3 rfl) ?_
                obtain ⟨S17, hc, hf⟩ := oi_v hf
                refine k_v0 (S' := S17) w (runV (As := [.int a3, .int a1]) (rest := []) (kb := 79) F w (k_X8_replace l x S14 a3 a1 hc H.size) cy_X8_replace q462 q464 qp10 ⟨rfl, rfl⟩ ⟨Nat.le_of_ble_eq_true rfl, Nat.le_of_ble_eq_true rfl⟩ (by decide) rfl rfl rfl rfl hl.1 (Nat.le_of_ble_eq_true rfl) ⟨Nat.le_of_ble_eq_true rfl, Nat.le_of_ble_eq_true rfl⟩ dX8_firstDifferenceSet_87) (fun H locs w => ?_)
                refine lv_iload F.1 F.2.1 dX8_firstDifferenceSet_90 (lv_at hl 0 rfl) ?_
                refine W.widen (k := 2) (n := 12) (by decide) (by decide) ?_
                exact x_iret F w (oi_s hf) dX8_firstDifferenceSet_92
              · replace hf := oi_t hf c16
                refine lv_iconst (v := (-1)) F.1 F.2.1 dX8_firstDifferenceSet_82 (by decide) ?_
                refine W.widen (k := 2) (n := 12) (by decide) (by decide) ?_
                exact x_iret F w (oi_s hf) dX8_firstDifferenceSet_83
            · replace hf := oi_f hf c11
              refine lv_iconst (v := (-1)) F.1 F.2.1 dX8_firstDifferenceSet_59 (by decide) ?_
              refine W.widen (k := 2) (n := 12) (by decide) (by decide) ?_
              exact x_iret F w (oi_s hf) dX8_firstDifferenceSet_60
          · replace hf := oi_f hf c7
            exact b_X8_firstDifferenceSet_31 F ht hls  _ _ _ _ w  (lv_sub hl [] rfl) hf
def f_X8_firstDifferenceSet (S : ST) (a1 : Int32) (a2 : Int32) (a3 : Int32) : Option (Nat × Int32 × ST) := f_X8_firstDifferenceSet_0 S a1 a2 a3
set_option maxHeartbeats 4000000 in
set_option maxRecDepth 100000 in
theorem k_X8_firstDifferenceSet (l : Launch) (x : CX) (S : ST) (a1 : Int32) (a2 : Int32) (a3 : Int32) {res : Nat × Int32 × ST} (hf : f_X8_firstDifferenceSet S a1 a2 a3 = some res) (hls : l.stackTraces = false) (sz : Nat) : vx_Met l yX8_firstDifferenceSet (Cond.code yX8_firstDifferenceSet cX8_firstDifferenceSet 6 (some .int) :: GW) ({ frames := 28, cells := 2, slots := 12, locals := 699 } : Room) (PC x S sz [.ref (x.2.2 (79)), .int a1, .int a2, .int a3]) (QXI x res.2.2 res.1 res.2.1 sz) (XX x res.2.2 res.1 sz) 2 12 (AA x sz) := by
  refine vx_ofW (cc := cX8_firstDifferenceSet) (maxL := 6) (ret := (some .int)) (by decide) rfl ?_
  intro p e s m args below meth c s₁ B hml ht hv
  obtain ⟨rfl, rfl, hPW⟩ := hv
  have F : MF p m meth c cX8_firstDifferenceSet 6 s _ RX8 (some .int) := MF.of B hml
  have w := WD.of hPW
  have hl := lv_entry ([.ref (x.2.2 (79)), .int a1, .int a2, .int a3]) (n := 6) (Nat.le_of_ble_eq_true rfl)
  rw [lg_entry_eq]
  generalize (lg_sl ([.ref (x.2.2 (79)), .int a1, .int a2, .int a3]) ++ List.replicate (6 - (lg_sl ([.ref (x.2.2 (79)), .int a1, .int a2, .int a3])).length) Slot.unset).toArray = ls at hl ⊢
  have hl : lv_has ls 6 [(0, .ref (x.2.2 (79))), (1, .int a1), (2, .int a2), (3, .int a3)] := hl
  unfold f_X8_firstDifferenceSet at hf
  exact b_X8_firstDifferenceSet_0 F ht hls  _ _ _ _ w a1 a2 a3 (lv_sub hl [0, 1, 2, 3] rfl) hf
theorem cy_X8_undo : CY yX8_undo RX8 cX8_undo 1 (some .int) 0 := ⟨q1, q851, rfl, by decide, by decide, by decide +kernel⟩
def f_X8_undo_0 (S : ST)  : Option (Nat × Int32 × ST) := (if (fi S 37) = 0 then some (3, 0, S) else oV (f_X6_restore S 0) (fun (S2 : ST) => some (0, (fi S2 37), S2)))
set_option maxHeartbeats 4000000 in
set_option maxRecDepth 100000 in
theorem b_X8_undo_0 {p : Program} {l : Launch} {e : Env} {s : State} {m : MethodId} {args : Array Value} {below : List Frame} {meth : Method} {c : Code} {x : CX} {res : Nat × Int32 × ST} (F : MF p m meth c cX8_undo 1 s args RX8 (some .int)) (ht : ∀ z ∈ c.exceptionTable.toList, False) (hls : l.stackTraces = false) : ∀ (H : Heap) (locs : List Loc) (ls : Array Slot) (S : ST), WD x s S H locs → lv_has ls 1 [(0, .ref (x.2.2 (79)))] → f_X8_undo_0 S = some res → W p l e ({ frames := 6, cells := 1, slots := 6, locals := 129 } : Room) s m args below meth c H locs 0 0 (vx_MQ below (QXI x res.2.2 res.1 res.2.1 s.heap.size) (XX x res.2.2 res.1 s.heap.size) args s 1 6 (AA x s.heap.size)) (F0 m 0 ls []) := by
  intro H locs ls S w hl hf
  unfold f_X8_undo_0 at hf
  refine lv_aload_n F.1 F.2.1 dX8_undo_0 rfl (lv_at hl 0 rfl) ?_
  refine g_RW_saved F w q163 dX8_undo_1 ?_
  refine gN_US_depth F w (by simp [NF]) dX8_undo_4 ?_
  refine lv_if_ne (tgt := 21) F.1 F.2.1 dX8_undo_7 (by decide) (fun c1 => ?_) (fun c1 => ?_)
  · replace hf := oi_f hf c1
    refine lv_aload_n F.1 F.2.1 dX8_undo_21 rfl (lv_at hl 0 rfl) ?_
    refine g_RW_saved F w q163 dX8_undo_22 ?_
    refine lv_aload_n F.1 F.2.1 dX8_undo_25 rfl (lv_at hl 0 rfl) ?_
    refine g_RW_now F w q162 dX8_undo_26 ?_
    obtain ⟨S2, hc, hf⟩ := oi_v hf
    refine k_v0 (S' := S2) w (runV (As := [.ref (x.2.2 (63 + 2 * 0))]) (rest := []) (kb := 73) F w (k_X6_restore l x S 0 (by decide) hc H.size) cy_X6_restore q853 q854 q855 ⟨rfl, rfl⟩ ⟨Nat.le_of_ble_eq_true rfl, Nat.le_of_ble_eq_true rfl⟩ (by decide) rfl rfl rfl rfl hl.1 (Nat.le_of_ble_eq_true rfl) ⟨Nat.le_of_ble_eq_true rfl, Nat.le_of_ble_eq_true rfl⟩ dX8_undo_29) (fun H locs w => ?_)
    refine lv_aload_n F.1 F.2.1 dX8_undo_32 rfl (lv_at hl 0 rfl) ?_
    refine g_RW_saved F w q163 dX8_undo_33 ?_
    refine gN_US_depth F w (by simp [NF]) dX8_undo_36 ?_
    refine W.widen (k := 1) (n := 6) (by decide) (by decide) ?_
    exact x_iret F w (oi_s hf) dX8_undo_39
  · replace hf := oi_t hf c1
    exact x_throwW (E := eIS) (text := "the undo stack is empty") F ht hls w (oi_s hf) (by simp [XK]) xq_IS (by simp [XT]) hl.1 dX8_undo_10 dX8_undo_13 dX8_undo_14 dX8_undo_17 dX8_undo_20 (Nat.le_of_ble_eq_true rfl) (Nat.le_of_ble_eq_true rfl) (Nat.le_of_ble_eq_true rfl) (Nat.le_of_ble_eq_true rfl) (Nat.le_of_ble_eq_true rfl) (Nat.le_of_ble_eq_true rfl)
def f_X8_undo (S : ST)  : Option (Nat × Int32 × ST) := f_X8_undo_0 S
set_option maxHeartbeats 4000000 in
set_option maxRecDepth 100000 in
theorem k_X8_undo (l : Launch) (x : CX) (S : ST)  {res : Nat × Int32 × ST} (hf : f_X8_undo S  = some res) (hls : l.stackTraces = false) (sz : Nat) : vx_Met l yX8_undo (Cond.code yX8_undo cX8_undo 1 (some .int) :: GW) ({ frames := 6, cells := 1, slots := 6, locals := 129 } : Room) (PC x S sz [.ref (x.2.2 (79))]) (QXI x res.2.2 res.1 res.2.1 sz) (XX x res.2.2 res.1 sz) 1 6 (AA x sz) := by
  refine vx_ofW (cc := cX8_undo) (maxL := 1) (ret := (some .int)) (by decide) rfl ?_
  intro p e s m args below meth c s₁ B hml ht hv
  obtain ⟨rfl, rfl, hPW⟩ := hv
  have F : MF p m meth c cX8_undo 1 s _ RX8 (some .int) := MF.of B hml
  have w := WD.of hPW
  have hl := lv_entry ([.ref (x.2.2 (79))]) (n := 1) (Nat.le_of_ble_eq_true rfl)
  rw [lg_entry_eq]
  generalize (lg_sl ([.ref (x.2.2 (79))]) ++ List.replicate (1 - (lg_sl ([.ref (x.2.2 (79))])).length) Slot.unset).toArray = ls at hl ⊢
  have hl : lv_has ls 1 [(0, .ref (x.2.2 (79)))] := hl
  unfold f_X8_undo at hf
  exact b_X8_undo_0 F ht hls  _ _ _ _ w  (lv_sub hl [0] rfl) hf
