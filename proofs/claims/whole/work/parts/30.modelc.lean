theorem cy_X9_isAhead : CY yX9_isAhead RX9 cX9_isAhead 2 (some .boolean) 0 := ⟨q10, q1098, rfl, by decide, by decide, by decide +kernel⟩
def f_X9_isAhead_59 (S : ST) (as0 : Int32) : Option (Int32 × ST) := oG (isB as0) (some (as0, S))
set_option maxHeartbeats 4000000 in
set_option maxRecDepth 100000 in
theorem b_X9_isAhead_59 {p : Program} {l : Launch} {e : Env} {s : State} {m : MethodId} {args : Array Value} {below : List Frame} {meth : Method} {c : Code} {x : CX} {res : Int32 × ST} (F : MF p m meth c cX9_isAhead 2 s args RX9 (some .boolean)) : ∀ (H : Heap) (locs : List Loc) (ls : Array Slot) (S : ST), WD x s S H locs → ∀ (as0 : Int32), lv_has ls 2 [] → f_X9_isAhead_59 S as0 = some res → W p l e ({ frames := 0, cells := 0, slots := 0, locals := 0 } : Room) s m args below meth c H locs 0 0 (MQ below (QI x res.2 res.1 s.heap.size) args s 0 0 (AA x s.heap.size)) (F0 m 59 ls [.int as0]) := by
  intro H locs ls S w as0 hl hf
  unfold f_X9_isAhead_59 at hf
  obtain ⟨hz1, hf⟩ := oi_g hf
  exact r_zret F w (isB_nar hz1) (oi_s hf) dX9_isAhead_59
def f_X9_isAhead_58 (S : ST)  : Option (Int32 × ST) := f_X9_isAhead_59 S 0
set_option maxHeartbeats 4000000 in
set_option maxRecDepth 100000 in
theorem b_X9_isAhead_58 {p : Program} {l : Launch} {e : Env} {s : State} {m : MethodId} {args : Array Value} {below : List Frame} {meth : Method} {c : Code} {x : CX} {res : Int32 × ST} (F : MF p m meth c cX9_isAhead 2 s args RX9 (some .boolean)) : ∀ (H : Heap) (locs : List Loc) (ls : Array Slot) (S : ST), WD x s S H locs → lv_has ls 2 [] → f_X9_isAhead_58 S = some res → W p l e ({ frames := 0, cells := 0, slots := 0, locals := 0 } : Room) s m args below meth c H locs 0 0 (MQ below (QI x res.2 res.1 s.heap.size) args s 0 0 (AA x s.heap.size)) (F0 m 58 ls []) := by
  intro H locs ls S w hl hf
  unfold f_X9_isAhead_58 at hf
  refine lv_iconst (v := 0) F.1 F.2.1 dX9_isAhead_58 (by decide) ?_
  exact b_X9_isAhead_59 F  _ _ _ _ w 0 (lv_sub hl [] rfl) hf
def f_X9_isAhead_31 (S : ST) (a1 : Int32) : Option (Int32 × ST) := (if (fi S 52) ≤ a1 then f_X9_isAhead_58 S else oG (inB a1 24) (oG (inB a1 24) ((if (ai S 34 (Int32.toNatClampNeg a1)) ≤ (ai S 32 (Int32.toNatClampNeg a1)) then f_X9_isAhead_58 S else f_X9_isAhead_59 S 1))))
set_option maxHeartbeats 4000000 in
set_option maxRecDepth 100000 in
theorem b_X9_isAhead_31 {p : Program} {l : Launch} {e : Env} {s : State} {m : MethodId} {args : Array Value} {below : List Frame} {meth : Method} {c : Code} {x : CX} {res : Int32 × ST} (F : MF p m meth c cX9_isAhead 2 s args RX9 (some .boolean)) : ∀ (H : Heap) (locs : List Loc) (ls : Array Slot) (S : ST), WD x s S H locs → ∀ (a1 : Int32), lv_has ls 2 [(0, .ref (x.2.2 (80))), (1, .int a1)] → f_X9_isAhead_31 S a1 = some res → W p l e ({ frames := 0, cells := 0, slots := 0, locals := 0 } : Room) s m args below meth c H locs 0 0 (MQ below (QI x res.2 res.1 s.heap.size) args s 0 0 (AA x s.heap.size)) (F0 m 31 ls []) := by
  intro H locs ls S w a1 hl hf
  unfold f_X9_isAhead_31 at hf
  refine lv_iload_n F.1 F.2.1 dX9_isAhead_31 rfl (lv_at hl 1 rfl) ?_
  refine lv_aload_n F.1 F.2.1 dX9_isAhead_32 rfl (lv_at hl 0 rfl) ?_
  refine g_MD_madeMany F w q868 dX9_isAhead_33 ?_
  refine lv_icmp_ge (tgt := 58) F.1 F.2.1 dX9_isAhead_36 (by decide) (fun c1 => ?_) (fun c1 => ?_)
  · replace hf := oi_t hf c1
    exact b_X9_isAhead_58 F  _ _ _ _ w  (lv_sub hl [] rfl) hf
  · replace hf := oi_f hf c1
    refine lv_aload_n F.1 F.2.1 dX9_isAhead_39 rfl (lv_at hl 0 rfl) ?_
    refine g_MD_made F w q867 dX9_isAhead_40 ?_
    refine lv_iload_n F.1 F.2.1 dX9_isAhead_43 rfl (lv_at hl 1 rfl) ?_
    obtain ⟨hb2, hf⟩ := oi_g hf
    refine r_iald F w (k := 83) (f := ai S 32) (by decide) rfl hb2 dX9_isAhead_44 ?_
    refine lv_aload_n F.1 F.2.1 dX9_isAhead_45 rfl (lv_at hl 0 rfl) ?_
    refine g_MD_first F w q870 dX9_isAhead_46 ?_
    refine lv_iload_n F.1 F.2.1 dX9_isAhead_49 rfl (lv_at hl 1 rfl) ?_
    obtain ⟨hb3, hf⟩ := oi_g hf
    refine r_iald F w (k := 85) (f := ai S 34) (by decide) rfl hb3 dX9_isAhead_50 ?_
    refine lv_icmp_ge (tgt := 58) F.1 F.2.1 dX9_isAhead_51 (by decide) (fun c4 => ?_) (fun c4 => ?_)
    · replace hf := oi_t hf c4
      exact b_X9_isAhead_58 F  _ _ _ _ w  (lv_sub hl [] rfl) hf
    · replace hf := oi_f hf c4
      refine lv_iconst (v := 1) F.1 F.2.1 dX9_isAhead_54 (by decide) ?_
      refine lv_goto (tgt := 59) F.1 F.2.1 dX9_isAhead_55 (by decide) ?_
      exact b_X9_isAhead_59 F  _ _ _ _ w 1 (lv_sub hl [] rfl) hf
def f_X9_isAhead_2 : Nat → ST → Int32 → Option (Int32 × ST)
  | 0, _, _ => none
  | n + 1, S, a1 => (if (fi S 52) ≤ a1 then f_X9_isAhead_31 S a1 else oG (inB a1 24) (oG (inB a1 24) ((if (ai S 32 (Int32.toNatClampNeg a1)) = (ai S 34 (Int32.toNatClampNeg a1)) then oL (a1 + 1) (fun (v5 : Int32) => (f_X9_isAhead_2 n) S v5) else f_X9_isAhead_31 S a1))))
set_option maxHeartbeats 4000000 in
set_option maxRecDepth 100000 in
theorem b_X9_isAhead_2 {p : Program} {l : Launch} {e : Env} {s : State} {m : MethodId} {args : Array Value} {below : List Frame} {meth : Method} {c : Code} {x : CX} {res : Int32 × ST} (F : MF p m meth c cX9_isAhead 2 s args RX9 (some .boolean)) : ∀ (n : Nat), ∀ (H : Heap) (locs : List Loc) (ls : Array Slot) (S : ST), WD x s S H locs → ∀ (a1 : Int32), lv_has ls 2 [(0, .ref (x.2.2 (80))), (1, .int a1)] → f_X9_isAhead_2 n S a1 = some res → W p l e ({ frames := 0, cells := 0, slots := 0, locals := 0 } : Room) s m args below meth c H locs 0 0 (MQ below (QI x res.2 res.1 s.heap.size) args s 0 0 (AA x s.heap.size)) (F0 m 2 ls []) := by
  intro n
  induction n with
  | zero =>
    intro H locs ls S w a1 hl hf
    have hf : (none : Option (Int32 × ST)) = some res := hf
    cases hf
  | succ n ih =>
    intro H locs ls S w a1 hl hf
    unfold f_X9_isAhead_2 at hf
    refine lv_iload_n F.1 F.2.1 dX9_isAhead_2 rfl (lv_at hl 1 rfl) ?_
    refine lv_aload_n F.1 F.2.1 dX9_isAhead_3 rfl (lv_at hl 0 rfl) ?_
    refine g_MD_madeMany F w q868 dX9_isAhead_4 ?_
    refine lv_icmp_ge (tgt := 31) F.1 F.2.1 dX9_isAhead_7 (by decide) (fun c1 => ?_) (fun c1 => ?_)
    · replace hf := oi_t hf c1
      exact b_X9_isAhead_31 F  _ _ _ _ w a1 (lv_sub hl [0, 1] rfl) hf
    · replace hf := oi_f hf c1
      refine lv_aload_n F.1 F.2.1 dX9_isAhead_10 rfl (lv_at hl 0 rfl) ?_
      refine g_MD_made F w q867 dX9_isAhead_11 ?_
      refine lv_iload_n F.1 F.2.1 dX9_isAhead_14 rfl (lv_at hl 1 rfl) ?_
      obtain ⟨hb2, hf⟩ := oi_g hf
      refine r_iald F w (k := 83) (f := ai S 32) (by decide) rfl hb2 dX9_isAhead_15 ?_
      refine lv_aload_n F.1 F.2.1 dX9_isAhead_16 rfl (lv_at hl 0 rfl) ?_
      refine g_MD_first F w q870 dX9_isAhead_17 ?_
      refine lv_iload_n F.1 F.2.1 dX9_isAhead_20 rfl (lv_at hl 1 rfl) ?_
      obtain ⟨hb3, hf⟩ := oi_g hf
      refine r_iald F w (k := 85) (f := ai S 34) (by decide) rfl hb3 dX9_isAhead_21 ?_
      refine lv_icmp_ne (tgt := 31) F.1 F.2.1 dX9_isAhead_22 (by decide) (fun c4 => ?_) (fun c4 => ?_)
      · replace hf := oi_f hf c4
        exact b_X9_isAhead_31 F  _ _ _ _ w a1 (lv_sub hl [0, 1] rfl) hf
      · replace hf := oi_t hf c4
        obtain ⟨v5, e_v5⟩ : ∃ y : Int32, y = (a1 + 1) := ⟨_, rfl⟩
        replace hf := oi_l hf e_v5
        refine lv_iinc (v := v5) (lv' := [(1, .int v5), (0, .ref (x.2.2 (80)))]) F.1 F.2.1 dX9_isAhead_25 hl (k := 1) rfl (by rw [e_v5]; rfl) (by decide) rfl (fun ls hl => ?_)
        refine lv_goto (tgt := 2) F.1 F.2.1 dX9_isAhead_28 (by decide) ?_
        exact ih _ _ _ _ w v5 (lv_sub hl [1, 0] rfl) hf
def f_X9_isAhead_0 (S : ST)  : Option (Int32 × ST) := f_X9_isAhead_2 FU S 0
set_option maxHeartbeats 4000000 in
set_option maxRecDepth 100000 in
theorem b_X9_isAhead_0 {p : Program} {l : Launch} {e : Env} {s : State} {m : MethodId} {args : Array Value} {below : List Frame} {meth : Method} {c : Code} {x : CX} {res : Int32 × ST} (F : MF p m meth c cX9_isAhead 2 s args RX9 (some .boolean)) : ∀ (H : Heap) (locs : List Loc) (ls : Array Slot) (S : ST), WD x s S H locs → lv_has ls 2 [(0, .ref (x.2.2 (80)))] → f_X9_isAhead_0 S = some res → W p l e ({ frames := 0, cells := 0, slots := 0, locals := 0 } : Room) s m args below meth c H locs 0 0 (MQ below (QI x res.2 res.1 s.heap.size) args s 0 0 (AA x s.heap.size)) (F0 m 0 ls []) := by
  intro H locs ls S w hl hf
  unfold f_X9_isAhead_0 at hf
  refine lv_iconst (v := 0) F.1 F.2.1 dX9_isAhead_0 (by decide) ?_
  refine lv_istore_n (lv' := [(1, .int 0), (0, .ref (x.2.2 (80)))]) F.1 F.2.1 dX9_isAhead_1 rfl hl (by decide) rfl (fun ls hl => ?_)
  exact b_X9_isAhead_2 F FU _ _ _ _ w 0 (lv_sub hl [1, 0] rfl) hf
def f_X9_isAhead (S : ST)  : Option (Int32 × ST) := f_X9_isAhead_0 S
set_option maxHeartbeats 4000000 in
set_option maxRecDepth 100000 in
theorem k_X9_isAhead (l : Launch) (x : CX) (S : ST)  {res : Int32 × ST} (hf : f_X9_isAhead S  = some res) (sz : Nat) : Met l yX9_isAhead (Cond.code yX9_isAhead cX9_isAhead 2 (some .boolean) :: GW) ({ frames := 0, cells := 0, slots := 0, locals := 0 } : Room) (PC x S sz [.ref (x.2.2 (80))]) (QI x res.2 res.1 sz) 0 0 (AA x sz) := by
  refine Met.ofW (cc := cX9_isAhead) (maxL := 2) (ret := (some .boolean)) (by decide) rfl ?_
  intro p e s m args below meth c s₁ B hml hv
  obtain ⟨rfl, rfl, hPW⟩ := hv
  have F : MF p m meth c cX9_isAhead 2 s _ RX9 (some .boolean) := MF.of B hml
  have w := WD.of hPW
  have hl := lv_entry ([.ref (x.2.2 (80))]) (n := 2) (Nat.le_of_ble_eq_true rfl)
  rw [lg_entry_eq]
  generalize (lg_sl ([.ref (x.2.2 (80))]) ++ List.replicate (2 - (lg_sl ([.ref (x.2.2 (80))])).length) Slot.unset).toArray = ls at hl ⊢
  have hl : lv_has ls 2 [(0, .ref (x.2.2 (80)))] := hl
  unfold f_X9_isAhead at hf
  exact b_X9_isAhead_0 F  _ _ _ _ w  (lv_sub hl [0] rfl) hf
theorem cy_X9_keepsFirst : CY yX9_keepsFirst RX9 cX9_keepsFirst 2 none 0 := ⟨q10, q1102, rfl, by decide, by decide, by decide +kernel⟩
def f_X9_keepsFirst_2 : Nat → ST → Int32 → Option (ST)
  | 0, _, _ => none
  | n + 1, S, a1 => (if (fi S 52) ≤ a1 then some S else oG (inB a1 24) (oG (inB a1 24) (oL (sA S 34 (upd (ai S 34) (Int32.toNatClampNeg a1) (ai S 32 (Int32.toNatClampNeg a1)))) (fun (S4 : ST) => oL (a1 + 1) (fun (v5 : Int32) => (f_X9_keepsFirst_2 n) S4 v5)))))
set_option maxHeartbeats 4000000 in
set_option maxRecDepth 100000 in
theorem b_X9_keepsFirst_2 {p : Program} {l : Launch} {e : Env} {s : State} {m : MethodId} {args : Array Value} {below : List Frame} {meth : Method} {c : Code} {x : CX} {res : ST} (F : MF p m meth c cX9_keepsFirst 2 s args RX9 none) : ∀ (n : Nat), ∀ (H : Heap) (locs : List Loc) (ls : Array Slot) (S : ST), WD x s S H locs → ∀ (a1 : Int32), lv_has ls 2 [(0, .ref (x.2.2 (80))), (1, .int a1)] → f_X9_keepsFirst_2 n S a1 = some res → W p l e ({ frames := 0, cells := 0, slots := 0, locals := 0 } : Room) s m args below meth c H locs 0 0 (MQ below (QV x res s.heap.size) args s 0 0 (AA x s.heap.size)) (F0 m 2 ls []) := by
  intro n
  induction n with
  | zero =>
    intro H locs ls S w a1 hl hf
    have hf : (none : Option (ST)) = some res := hf
    cases hf
  | succ n ih =>
    intro H locs ls S w a1 hl hf
    unfold f_X9_keepsFirst_2 at hf
    refine lv_iload_n F.1 F.2.1 dX9_keepsFirst_2 rfl (lv_at hl 1 rfl) ?_
    refine lv_aload_n F.1 F.2.1 dX9_keepsFirst_3 rfl (lv_at hl 0 rfl) ?_
    refine g_MD_madeMany F w q868 dX9_keepsFirst_4 ?_
    refine lv_icmp_ge (tgt := 28) F.1 F.2.1 dX9_keepsFirst_7 (by decide) (fun c1 => ?_) (fun c1 => ?_)
    · replace hf := oi_t hf c1
      exact r_vret F w (oi_s hf) dX9_keepsFirst_28
    · replace hf := oi_f hf c1
      refine lv_aload_n F.1 F.2.1 dX9_keepsFirst_10 rfl (lv_at hl 0 rfl) ?_
      refine g_MD_first F w q870 dX9_keepsFirst_11 ?_
      refine lv_iload_n F.1 F.2.1 dX9_keepsFirst_14 rfl (lv_at hl 1 rfl) ?_
      refine lv_aload_n F.1 F.2.1 dX9_keepsFirst_15 rfl (lv_at hl 0 rfl) ?_
      refine g_MD_made F w q867 dX9_keepsFirst_16 ?_
      refine lv_iload_n F.1 F.2.1 dX9_keepsFirst_19 rfl (lv_at hl 1 rfl) ?_
      obtain ⟨hb2, hf⟩ := oi_g hf
      refine r_iald F w (k := 83) (f := ai S 32) (by decide) rfl hb2 dX9_keepsFirst_20 ?_
      obtain ⟨hb3, hf⟩ := oi_g hf
      refine r_iast F w (k := 85) (a := 34) (n := 24) (by decide) (fun S9 => rfl) rfl hb3 dX9_keepsFirst_21 (fun H locs w => ?_)
      obtain ⟨S4, e_S4⟩ : ∃ y : ST, y = sA S 34 (upd (ai S 34) (Int32.toNatClampNeg a1) (ai S 32 (Int32.toNatClampNeg a1))) := ⟨_, rfl⟩
      replace w : WD x s S4 H locs := by rw [e_S4]; exact w
      replace hf := oi_l hf e_S4
      obtain ⟨v5, e_v5⟩ : ∃ y : Int32, y = (a1 + 1) := ⟨_, rfl⟩
      replace hf := oi_l hf e_v5
      refine lv_iinc (v := v5) (lv' := [(1, .int v5), (0, .ref (x.2.2 (80)))]) F.1 F.2.1 dX9_keepsFirst_22 hl (k := 1) rfl (by rw [e_v5]; rfl) (by decide) rfl (fun ls hl => ?_)
      refine lv_goto (tgt := 2) F.1 F.2.1 dX9_keepsFirst_25 (by decide) ?_
      exact ih _ _ _ _ w v5 (lv_sub hl [1, 0] rfl) hf
def f_X9_keepsFirst_0 (S : ST)  : Option (ST) := f_X9_keepsFirst_2 FU S 0
set_option maxHeartbeats 4000000 in
set_option maxRecDepth 100000 in
theorem b_X9_keepsFirst_0 {p : Program} {l : Launch} {e : Env} {s : State} {m : MethodId} {args : Array Value} {below : List Frame} {meth : Method} {c : Code} {x : CX} {res : ST} (F : MF p m meth c cX9_keepsFirst 2 s args RX9 none) : ∀ (H : Heap) (locs : List Loc) (ls : Array Slot) (S : ST), WD x s S H locs → lv_has ls 2 [(0, .ref (x.2.2 (80)))] → f_X9_keepsFirst_0 S = some res → W p l e ({ frames := 0, cells := 0, slots := 0, locals := 0 } : Room) s m args below meth c H locs 0 0 (MQ below (QV x res s.heap.size) args s 0 0 (AA x s.heap.size)) (F0 m 0 ls []) := by
  intro H locs ls S w hl hf
  unfold f_X9_keepsFirst_0 at hf
  refine lv_iconst (v := 0) F.1 F.2.1 dX9_keepsFirst_0 (by decide) ?_
  refine lv_istore_n (lv' := [(1, .int 0), (0, .ref (x.2.2 (80)))]) F.1 F.2.1 dX9_keepsFirst_1 rfl hl (by decide) rfl (fun ls hl => ?_)
  exact b_X9_keepsFirst_2 F FU _ _ _ _ w 0 (lv_sub hl [1, 0] rfl) hf
def f_X9_keepsFirst (S : ST)  : Option (ST) := f_X9_keepsFirst_0 S
set_option maxHeartbeats 4000000 in
set_option maxRecDepth 100000 in
theorem k_X9_keepsFirst (l : Launch) (x : CX) (S : ST)  {res : ST} (hf : f_X9_keepsFirst S  = some res) (sz : Nat) : Met l yX9_keepsFirst (Cond.code yX9_keepsFirst cX9_keepsFirst 2 none :: GW) ({ frames := 0, cells := 0, slots := 0, locals := 0 } : Room) (PC x S sz [.ref (x.2.2 (80))]) (QV x res sz) 0 0 (AA x sz) := by
  refine Met.ofW (cc := cX9_keepsFirst) (maxL := 2) (ret := none) (by decide) rfl ?_
  intro p e s m args below meth c s₁ B hml hv
  obtain ⟨rfl, rfl, hPW⟩ := hv
  have F : MF p m meth c cX9_keepsFirst 2 s _ RX9 none := MF.of B hml
  have w := WD.of hPW
  have hl := lv_entry ([.ref (x.2.2 (80))]) (n := 2) (Nat.le_of_ble_eq_true rfl)
  rw [lg_entry_eq]
  generalize (lg_sl ([.ref (x.2.2 (80))]) ++ List.replicate (2 - (lg_sl ([.ref (x.2.2 (80))])).length) Slot.unset).toArray = ls at hl ⊢
  have hl : lv_has ls 2 [(0, .ref (x.2.2 (80)))] := hl
  unfold f_X9_keepsFirst at hf
  exact b_X9_keepsFirst_0 F  _ _ _ _ w  (lv_sub hl [0] rfl) hf
theorem cy_X9_canonical : CY yX9_canonical RX9 cX9_canonical 7 (some .int) 2 := ⟨q10, q1094, rfl, by decide, by decide, by decide +kernel⟩
def f_X9_canonical_176 (k86 : ST → Int32 → Int32 → Int32 → Int32 → Option (Int32 × ST)) (k98 : ST → Int32 → Int32 → Int32 → Int32 → Int32 → Option (Int32 × ST)) (S : ST) (a1 : Int32) (a2 : Int32) (a3 : Int32) (a4 : Int32) (a5 : Int32) : Option (Int32 × ST) := oL (a5 + 1) (fun (v1 : Int32) => k98 S a1 a2 a3 a4 v1)
set_option maxHeartbeats 4000000 in
set_option maxRecDepth 100000 in
theorem b_X9_canonical_176 {p : Program} {l : Launch} {e : Env} {s : State} {m : MethodId} {args : Array Value} {below : List Frame} {meth : Method} {c : Code} {x : CX} {res : Int32 × ST} (F : MF p m meth c cX9_canonical 7 s args RX9 (some .int)) (k86 : ST → Int32 → Int32 → Int32 → Int32 → Option (Int32 × ST)) (hk86 : ∀ (H : Heap) (locs : List Loc) (ls : Array Slot) (S : ST), WD x s S H locs → ∀ (a1 : Int32) (a2 : Int32) (a3 : Int32) (a4 : Int32), lv_has ls 7 [(0, .ref (x.2.2 (80))), (1, .int a1), (2, .int a2), (3, .int a3), (4, .int a4)] → k86 S a1 a2 a3 a4 = some res → W p l e ({ frames := 2, cells := 0, slots := 0, locals := 43 } : Room) s m args below meth c H locs 0 0 (MQ below (QI x res.2 res.1 s.heap.size) args s 0 0 (AA x s.heap.size)) (F0 m 86 ls [])) (k98 : ST → Int32 → Int32 → Int32 → Int32 → Int32 → Option (Int32 × ST)) (hk98 : ∀ (H : Heap) (locs : List Loc) (ls : Array Slot) (S : ST), WD x s S H locs → ∀ (a1 : Int32) (a2 : Int32) (a3 : Int32) (a4 : Int32) (a5 : Int32), lv_has ls 7 [(0, .ref (x.2.2 (80))), (1, .int a1), (2, .int a2), (3, .int a3), (4, .int a4), (5, .int a5)] → k98 S a1 a2 a3 a4 a5 = some res → W p l e ({ frames := 2, cells := 0, slots := 0, locals := 43 } : Room) s m args below meth c H locs 0 0 (MQ below (QI x res.2 res.1 s.heap.size) args s 0 0 (AA x s.heap.size)) (F0 m 98 ls [])) : ∀ (H : Heap) (locs : List Loc) (ls : Array Slot) (S : ST), WD x s S H locs → ∀ (a1 : Int32) (a2 : Int32) (a3 : Int32) (a4 : Int32) (a5 : Int32), lv_has ls 7 [(0, .ref (x.2.2 (80))), (1, .int a1), (2, .int a2), (3, .int a3), (4, .int a4), (5, .int a5)] → f_X9_canonical_176 k86 k98 S a1 a2 a3 a4 a5 = some res → W p l e ({ frames := 2, cells := 0, slots := 0, locals := 43 } : Room) s m args below meth c H locs 0 0 (MQ below (QI x res.2 res.1 s.heap.size) args s 0 0 (AA x s.heap.size)) (F0 m 176 ls []) := by
  intro H locs ls S w a1 a2 a3 a4 a5 hl hf
  unfold f_X9_canonical_176 at hf
  obtain ⟨v1, e_v1⟩ : ∃ y : Int32, y = (a5 + 1) := ⟨_, rfl⟩
  replace hf := oi_l hf e_v1
  refine lv_iinc (v := v1) (lv' := [(5, .int v1), (0, .ref (x.2.2 (80))), (1, .int a1), (2, .int a2), (3, .int a3), (4, .int a4)]) F.1 F.2.1 dX9_canonical_176 hl (k := 5) rfl (by rw [e_v1]; rfl) (by decide) rfl (fun ls hl => ?_)
  refine lv_goto (tgt := 98) F.1 F.2.1 dX9_canonical_179 (by decide) ?_
  exact hk98 _ _ _ _ w a1 a2 a3 a4 v1 (lv_sub hl [1, 2, 3, 4, 5, 0] rfl) hf
def f_X9_canonical_124 (k86 : ST → Int32 → Int32 → Int32 → Int32 → Option (Int32 × ST)) (k98 : ST → Int32 → Int32 → Int32 → Int32 → Int32 → Option (Int32 × ST)) : Nat → ST → Int32 → Int32 → Int32 → Int32 → Int32 → Int32 → Option (Int32 × ST)
  | 0, _, _, _, _, _, _, _ => none
  | n + 1, S, a1, a2, a3, a4, a5, a6 => (if a3 ≤ a6 then oB (f_X9_isAhead S) (fun (r3 : Int32) (S2 : ST) => (if r3 = 0 then f_X9_canonical_176 k86 k98 S2 a1 a2 a3 a4 a5 else oV (f_X9_keepsFirst S2) (fun (S5 : ST) => f_X9_canonical_176 k86 k98 S5 a1 a2 a3 a4 a5))) else oB (f_X9_markAt S a1 a6) (fun (r7 : Int32) (S6 : ST) => oB (f_X9_markAt S6 a1 a5) (fun (r9 : Int32) (S8 : ST) => oB (f_X9_around S8 ((a4 * r7) - (a4 * r9))) (fun (r11 : Int32) (S10 : ST) => oV (f_X9_comes S10 r11) (fun (S12 : ST) => oL (a6 + 1) (fun (v13 : Int32) => (f_X9_canonical_124 k86 k98 n) S12 a1 a2 a3 a4 a5 v13))))))
set_option maxHeartbeats 4000000 in
set_option maxRecDepth 100000 in
theorem b_X9_canonical_124 {p : Program} {l : Launch} {e : Env} {s : State} {m : MethodId} {args : Array Value} {below : List Frame} {meth : Method} {c : Code} {x : CX} {res : Int32 × ST} (F : MF p m meth c cX9_canonical 7 s args RX9 (some .int)) (k86 : ST → Int32 → Int32 → Int32 → Int32 → Option (Int32 × ST)) (hk86 : ∀ (H : Heap) (locs : List Loc) (ls : Array Slot) (S : ST), WD x s S H locs → ∀ (a1 : Int32) (a2 : Int32) (a3 : Int32) (a4 : Int32), lv_has ls 7 [(0, .ref (x.2.2 (80))), (1, .int a1), (2, .int a2), (3, .int a3), (4, .int a4)] → k86 S a1 a2 a3 a4 = some res → W p l e ({ frames := 2, cells := 0, slots := 0, locals := 43 } : Room) s m args below meth c H locs 0 0 (MQ below (QI x res.2 res.1 s.heap.size) args s 0 0 (AA x s.heap.size)) (F0 m 86 ls [])) (k98 : ST → Int32 → Int32 → Int32 → Int32 → Int32 → Option (Int32 × ST)) (hk98 : ∀ (H : Heap) (locs : List Loc) (ls : Array Slot) (S : ST), WD x s S H locs → ∀ (a1 : Int32) (a2 : Int32) (a3 : Int32) (a4 : Int32) (a5 : Int32), lv_has ls 7 [(0, .ref (x.2.2 (80))), (1, .int a1), (2, .int a2), (3, .int a3), (4, .int a4), (5, .int a5)] → k98 S a1 a2 a3 a4 a5 = some res → W p l e ({ frames := 2, cells := 0, slots := 0, locals := 43 } : Room) s m args below meth c H locs 0 0 (MQ below (QI x res.2 res.1 s.heap.size) args s 0 0 (AA x s.heap.size)) (F0 m 98 ls [])) : ∀ (n : Nat), ∀ (H : Heap) (locs : List Loc) (ls : Array Slot) (S : ST), WD x s S H locs → ∀ (a1 : Int32) (a2 : Int32) (a3 : Int32) (a4 : Int32) (a5 : Int32) (a6 : Int32), lv_has ls 7 [(0, .ref (x.2.2 (80))), (1, .int a1), (2, .int a2), (3, .int a3), (4, .int a4), (5, .int a5), (6, .int a6)] → f_X9_canonical_124 k86 k98 n S a1 a2 a3 a4 a5 a6 = some res → W p l e ({ frames := 2, cells := 0, slots := 0, locals := 43 } : Room) s m args below meth c H locs 0 0 (MQ below (QI x res.2 res.1 s.heap.size) args s 0 0 (AA x s.heap.size)) (F0 m 124 ls []) := by
  intro n
  induction n with
  | zero =>
    intro H locs ls S w a1 a2 a3 a4 a5 a6 hl hf
    have hf : (none : Option (Int32 × ST)) = some res := hf
    cases hf
  | succ n ih =>
    intro H locs ls S w a1 a2 a3 a4 a5 a6 hl hf
    unfold f_X9_canonical_124 at hf
    refine lv_iload F.1 F.2.1 dX9_canonical_124 (lv_at hl 6 rfl) ?_
    refine lv_iload_n F.1 F.2.1 dX9_canonical_126 rfl (lv_at hl 3 rfl) ?_
    refine lv_icmp_ge (tgt := 165) F.1 F.2.1 dX9_canonical_127 (by decide) (fun c1 => ?_) (fun c1 => ?_)
    · replace hf := oi_t hf c1
      refine lv_aload_n F.1 F.2.1 dX9_canonical_165 rfl (lv_at hl 0 rfl) ?_
      obtain ⟨r3, S2, hc, hf⟩ := oi_b hf
      refine k_i0 (S' := S2) (r := r3) w (runV (As := []) (rest := []) (kb := 80) F w (k_X9_isAhead l x S hc H.size) cy_X9_isAhead q1095 q1097 qp44 ⟨rfl, rfl⟩ ⟨Nat.le_of_ble_eq_true rfl, Nat.le_of_ble_eq_true rfl⟩ (by decide) rfl rfl rfl rfl hl.1 (Nat.le_of_ble_eq_true rfl) ⟨Nat.le_of_ble_eq_true rfl, Nat.le_of_ble_eq_true rfl⟩ dX9_canonical_166) (fun H locs w => ?_)
      refine lv_if_eq (tgt := 176) F.1 F.2.1 dX9_canonical_169 (by decide) (fun c4 => ?_) (fun c4 => ?_)
      · replace hf := oi_t hf c4
        exact b_X9_canonical_176 F k86 hk86 k98 hk98 _ _ _ _ w a1 a2 a3 a4 a5 (lv_sub hl [0, 1, 2, 3, 4, 5] rfl) hf
      · replace hf := oi_f hf c4
        refine lv_aload_n F.1 F.2.1 dX9_canonical_172 rfl (lv_at hl 0 rfl) ?_
        obtain ⟨S5, hc, hf⟩ := oi_v hf
        refine k_v0 (S' := S5) w (runV (As := []) (rest := []) (kb := 80) F w (k_X9_keepsFirst l x S2 hc H.size) cy_X9_keepsFirst q1099 q1101 qp45 ⟨rfl, rfl⟩ ⟨Nat.le_of_ble_eq_true rfl, Nat.le_of_ble_eq_true rfl⟩ (by decide) rfl rfl rfl rfl hl.1 (Nat.le_of_ble_eq_true rfl) ⟨Nat.le_of_ble_eq_true rfl, Nat.le_of_ble_eq_true rfl⟩ dX9_canonical_173) (fun H locs w => ?_)
        exact b_X9_canonical_176 F k86 hk86 k98 hk98 _ _ _ _ w a1 a2 a3 a4 a5 (lv_sub hl [0, 1, 2, 3, 4, 5] rfl) hf
    · replace hf := oi_f hf c1
      refine lv_aload_n F.1 F.2.1 dX9_canonical_130 rfl (lv_at hl 0 rfl) ?_
      refine lv_aload_n F.1 F.2.1 dX9_canonical_131 rfl (lv_at hl 0 rfl) ?_
      refine lv_iload F.1 F.2.1 dX9_canonical_132 (lv_at hl 4 rfl) ?_
      refine lv_aload_n F.1 F.2.1 dX9_canonical_134 rfl (lv_at hl 0 rfl) ?_
      refine lv_iload_n F.1 F.2.1 dX9_canonical_135 rfl (lv_at hl 1 rfl) ?_
      refine lv_iload F.1 F.2.1 dX9_canonical_136 (lv_at hl 6 rfl) ?_
      obtain ⟨r7, S6, hc, hf⟩ := oi_b hf
      refine k_i0 (S' := S6) (r := r7) w (runV (As := [.int a1, .int a6]) (rest := [.int a4, .ref (x.2.2 (80)), .ref (x.2.2 (80))]) (kb := 80) F w (k_X9_markAt l x S a1 a6 hc H.size) cy_X9_markAt q924 q926 qp22 ⟨rfl, rfl⟩ ⟨Nat.le_of_ble_eq_true rfl, Nat.le_of_ble_eq_true rfl⟩ (by decide) rfl rfl rfl rfl hl.1 (Nat.le_of_ble_eq_true rfl) ⟨Nat.le_of_ble_eq_true rfl, Nat.le_of_ble_eq_true rfl⟩ dX9_canonical_138) (fun H locs w => ?_)
      refine lv_imul F.1 F.2.1 dX9_canonical_141 ?_
      refine lv_iload F.1 F.2.1 dX9_canonical_142 (lv_at hl 4 rfl) ?_
      refine lv_aload_n F.1 F.2.1 dX9_canonical_144 rfl (lv_at hl 0 rfl) ?_
      refine lv_iload_n F.1 F.2.1 dX9_canonical_145 rfl (lv_at hl 1 rfl) ?_
      refine lv_iload F.1 F.2.1 dX9_canonical_146 (lv_at hl 5 rfl) ?_
      obtain ⟨r9, S8, hc, hf⟩ := oi_b hf
      refine k_i0 (S' := S8) (r := r9) w (runV (As := [.int a1, .int a5]) (rest := [.int a4, .int (a4 * r7), .ref (x.2.2 (80)), .ref (x.2.2 (80))]) (kb := 80) F w (k_X9_markAt l x S6 a1 a5 hc H.size) cy_X9_markAt q924 q926 qp22 ⟨rfl, rfl⟩ ⟨Nat.le_of_ble_eq_true rfl, Nat.le_of_ble_eq_true rfl⟩ (by decide) rfl rfl rfl rfl hl.1 (Nat.le_of_ble_eq_true rfl) ⟨Nat.le_of_ble_eq_true rfl, Nat.le_of_ble_eq_true rfl⟩ dX9_canonical_148) (fun H locs w => ?_)
      refine lv_imul F.1 F.2.1 dX9_canonical_151 ?_
      refine lv_isub F.1 F.2.1 dX9_canonical_152 ?_
      obtain ⟨r11, S10, hc, hf⟩ := oi_b hf
      refine k_i0 (S' := S10) (r := r11) w (runV (As := [.int ((a4 * r7) - (a4 * r9))]) (rest := [.ref (x.2.2 (80))]) (kb := 80) F w (k_X9_around l x S8 ((a4 * r7) - (a4 * r9)) hc H.size) cy_X9_around q1040 q1042 qp38 ⟨rfl, rfl⟩ ⟨Nat.le_of_ble_eq_true rfl, Nat.le_of_ble_eq_true rfl⟩ (by decide) rfl rfl rfl rfl hl.1 (Nat.le_of_ble_eq_true rfl) ⟨Nat.le_of_ble_eq_true rfl, Nat.le_of_ble_eq_true rfl⟩ dX9_canonical_153) (fun H locs w => ?_)
      obtain ⟨S12, hc, hf⟩ := oi_v hf
      refine k_v0 (S' := S12) w (runV (As := [.int r11]) (rest := []) (kb := 80) F w (k_X9_comes l x S10 r11 hc H.size) cy_X9_comes q940 q942 qp26 ⟨rfl, rfl⟩ ⟨Nat.le_of_ble_eq_true rfl, Nat.le_of_ble_eq_true rfl⟩ (by decide) rfl rfl rfl rfl hl.1 (Nat.le_of_ble_eq_true rfl) ⟨Nat.le_of_ble_eq_true rfl, Nat.le_of_ble_eq_true rfl⟩ dX9_canonical_156) (fun H locs w => ?_)
      obtain ⟨v13, e_v13⟩ : ∃ y : Int32, y = (a6 + 1) := ⟨_, rfl⟩
      replace hf := oi_l hf e_v13
      refine lv_iinc (v := v13) (lv' := [(6, .int v13), (0, .ref (x.2.2 (80))), (1, .int a1), (2, .int a2), (3, .int a3), (4, .int a4), (5, .int a5)]) F.1 F.2.1 dX9_canonical_159 hl (k := 6) rfl (by rw [e_v13]; rfl) (by decide) rfl (fun ls hl => ?_)
      refine lv_goto (tgt := 124) F.1 F.2.1 dX9_canonical_162 (by decide) ?_
      exact ih _ _ _ _ w a1 a2 a3 a4 a5 v13 (lv_sub hl [1, 2, 3, 4, 5, 6, 0] rfl) hf
def f_X9_canonical_182 (k86 : ST → Int32 → Int32 → Int32 → Int32 → Option (Int32 × ST)) (S : ST) (a1 : Int32) (a2 : Int32) (a3 : Int32) (a4 : Int32) : Option (Int32 × ST) := oL (a4 + 1) (fun (v1 : Int32) => k86 S a1 a2 a3 v1)
set_option maxHeartbeats 4000000 in
set_option maxRecDepth 100000 in
theorem b_X9_canonical_182 {p : Program} {l : Launch} {e : Env} {s : State} {m : MethodId} {args : Array Value} {below : List Frame} {meth : Method} {c : Code} {x : CX} {res : Int32 × ST} (F : MF p m meth c cX9_canonical 7 s args RX9 (some .int)) (k86 : ST → Int32 → Int32 → Int32 → Int32 → Option (Int32 × ST)) (hk86 : ∀ (H : Heap) (locs : List Loc) (ls : Array Slot) (S : ST), WD x s S H locs → ∀ (a1 : Int32) (a2 : Int32) (a3 : Int32) (a4 : Int32), lv_has ls 7 [(0, .ref (x.2.2 (80))), (1, .int a1), (2, .int a2), (3, .int a3), (4, .int a4)] → k86 S a1 a2 a3 a4 = some res → W p l e ({ frames := 2, cells := 0, slots := 0, locals := 43 } : Room) s m args below meth c H locs 0 0 (MQ below (QI x res.2 res.1 s.heap.size) args s 0 0 (AA x s.heap.size)) (F0 m 86 ls [])) : ∀ (H : Heap) (locs : List Loc) (ls : Array Slot) (S : ST), WD x s S H locs → ∀ (a1 : Int32) (a2 : Int32) (a3 : Int32) (a4 : Int32), lv_has ls 7 [(0, .ref (x.2.2 (80))), (1, .int a1), (2, .int a2), (3, .int a3), (4, .int a4)] → f_X9_canonical_182 k86 S a1 a2 a3 a4 = some res → W p l e ({ frames := 2, cells := 0, slots := 0, locals := 43 } : Room) s m args below meth c H locs 0 0 (MQ below (QI x res.2 res.1 s.heap.size) args s 0 0 (AA x s.heap.size)) (F0 m 182 ls []) := by
  intro H locs ls S w a1 a2 a3 a4 hl hf
  unfold f_X9_canonical_182 at hf
  obtain ⟨v1, e_v1⟩ : ∃ y : Int32, y = (a4 + 1) := ⟨_, rfl⟩
  replace hf := oi_l hf e_v1
  refine lv_iinc (v := v1) (lv' := [(4, .int v1), (0, .ref (x.2.2 (80))), (1, .int a1), (2, .int a2), (3, .int a3)]) F.1 F.2.1 dX9_canonical_182 hl (k := 4) rfl (by rw [e_v1]; rfl) (by decide) rfl (fun ls hl => ?_)
  refine lv_goto (tgt := 86) F.1 F.2.1 dX9_canonical_185 (by decide) ?_
  exact hk86 _ _ _ _ w a1 a2 a3 v1 (lv_sub hl [1, 2, 3, 4, 0] rfl) hf
def f_X9_canonical_98 (k86 : ST → Int32 → Int32 → Int32 → Int32 → Option (Int32 × ST)) : Nat → ST → Int32 → Int32 → Int32 → Int32 → Int32 → Option (Int32 × ST)
  | 0, _, _, _, _, _, _ => none
  | n + 1, S, a1, a2, a3, a4, a5 => (if a3 ≤ a5 then f_X9_canonical_182 k86 S a1 a2 a3 a4 else oB (f_X9_modulus S) (fun (r3 : Int32) (S2 : ST) => oB (f_X9_divisor S2 a4 r3) (fun (r5 : Int32) (S4 : ST) => (if r5 = 1 then oV (f_X9_begins S4) (fun (S7 : ST) => f_X9_canonical_124 k86 (f_X9_canonical_98 k86 n) FU S7 a1 a2 a3 a4 a5 0) else f_X9_canonical_182 k86 S4 a1 a2 a3 a4))))
set_option maxHeartbeats 4000000 in
set_option maxRecDepth 100000 in
theorem b_X9_canonical_98 {p : Program} {l : Launch} {e : Env} {s : State} {m : MethodId} {args : Array Value} {below : List Frame} {meth : Method} {c : Code} {x : CX} {res : Int32 × ST} (F : MF p m meth c cX9_canonical 7 s args RX9 (some .int)) (k86 : ST → Int32 → Int32 → Int32 → Int32 → Option (Int32 × ST)) (hk86 : ∀ (H : Heap) (locs : List Loc) (ls : Array Slot) (S : ST), WD x s S H locs → ∀ (a1 : Int32) (a2 : Int32) (a3 : Int32) (a4 : Int32), lv_has ls 7 [(0, .ref (x.2.2 (80))), (1, .int a1), (2, .int a2), (3, .int a3), (4, .int a4)] → k86 S a1 a2 a3 a4 = some res → W p l e ({ frames := 2, cells := 0, slots := 0, locals := 43 } : Room) s m args below meth c H locs 0 0 (MQ below (QI x res.2 res.1 s.heap.size) args s 0 0 (AA x s.heap.size)) (F0 m 86 ls [])) : ∀ (n : Nat), ∀ (H : Heap) (locs : List Loc) (ls : Array Slot) (S : ST), WD x s S H locs → ∀ (a1 : Int32) (a2 : Int32) (a3 : Int32) (a4 : Int32) (a5 : Int32), lv_has ls 7 [(0, .ref (x.2.2 (80))), (1, .int a1), (2, .int a2), (3, .int a3), (4, .int a4), (5, .int a5)] → f_X9_canonical_98 k86 n S a1 a2 a3 a4 a5 = some res → W p l e ({ frames := 2, cells := 0, slots := 0, locals := 43 } : Room) s m args below meth c H locs 0 0 (MQ below (QI x res.2 res.1 s.heap.size) args s 0 0 (AA x s.heap.size)) (F0 m 98 ls []) := by
  intro n
  induction n with
  | zero =>
    intro H locs ls S w a1 a2 a3 a4 a5 hl hf
    have hf : (none : Option (Int32 × ST)) = some res := hf
    cases hf
  | succ n ih =>
    intro H locs ls S w a1 a2 a3 a4 a5 hl hf
    unfold f_X9_canonical_98 at hf
    refine lv_iload F.1 F.2.1 dX9_canonical_98 (lv_at hl 5 rfl) ?_
    refine lv_iload_n F.1 F.2.1 dX9_canonical_100 rfl (lv_at hl 3 rfl) ?_
    refine lv_icmp_ge (tgt := 182) F.1 F.2.1 dX9_canonical_101 (by decide) (fun c1 => ?_) (fun c1 => ?_)
    · replace hf := oi_t hf c1
      exact b_X9_canonical_182 F k86 hk86 _ _ _ _ w a1 a2 a3 a4 (lv_sub hl [0, 1, 2, 3, 4] rfl) hf
    · replace hf := oi_f hf c1
      refine lv_iload F.1 F.2.1 dX9_canonical_104 (lv_at hl 4 rfl) ?_
      refine lv_aload_n F.1 F.2.1 dX9_canonical_106 rfl (lv_at hl 0 rfl) ?_
      obtain ⟨r3, S2, hc, hf⟩ := oi_b hf
      refine k_i0 (S' := S2) (r := r3) w (runV (As := []) (rest := [.int a4]) (kb := 80) F w (k_X9_modulus l x S hc H.size) cy_X9_modulus q1024 q1026 qp35 ⟨rfl, rfl⟩ ⟨Nat.le_of_ble_eq_true rfl, Nat.le_of_ble_eq_true rfl⟩ (by decide) rfl rfl rfl rfl hl.1 (Nat.le_of_ble_eq_true rfl) ⟨Nat.le_of_ble_eq_true rfl, Nat.le_of_ble_eq_true rfl⟩ dX9_canonical_107) (fun H locs w => ?_)
      obtain ⟨r5, S4, hc, hf⟩ := oi_b hf
      refine k_i0 (S' := S4) (r := r5) w (runS (As := [.int a4, .int r3]) (rest := []) F w (k_X9_divisor l x S2 a4 r3 hc H.size) cy_X9_divisor q1080 q1081 ⟨rfl, rfl⟩ ⟨Nat.le_of_ble_eq_true rfl, Nat.le_of_ble_eq_true rfl⟩ rfl rfl hl.1 (Nat.le_of_ble_eq_true rfl) ⟨Nat.le_of_ble_eq_true rfl, Nat.le_of_ble_eq_true rfl⟩ dX9_canonical_110) (fun H locs w => ?_)
      refine lv_iconst (v := 1) F.1 F.2.1 dX9_canonical_113 (by decide) ?_
      refine lv_icmp_ne (tgt := 182) F.1 F.2.1 dX9_canonical_114 (by decide) (fun c6 => ?_) (fun c6 => ?_)
      · replace hf := oi_f hf c6
        exact b_X9_canonical_182 F k86 hk86 _ _ _ _ w a1 a2 a3 a4 (lv_sub hl [0, 1, 2, 3, 4] rfl) hf
      · replace hf := oi_t hf c6
        refine lv_aload_n F.1 F.2.1 dX9_canonical_117 rfl (lv_at hl 0 rfl) ?_
        obtain ⟨S7, hc, hf⟩ := oi_v hf
        refine k_v0 (S' := S7) w (runV (As := []) (rest := []) (kb := 80) F w (k_X9_begins l x S4 hc H.size) cy_X9_begins q936 q938 qp25 ⟨rfl, rfl⟩ ⟨Nat.le_of_ble_eq_true rfl, Nat.le_of_ble_eq_true rfl⟩ (by decide) rfl rfl rfl rfl hl.1 (Nat.le_of_ble_eq_true rfl) ⟨Nat.le_of_ble_eq_true rfl, Nat.le_of_ble_eq_true rfl⟩ dX9_canonical_118) (fun H locs w => ?_)
        refine lv_iconst (v := 0) F.1 F.2.1 dX9_canonical_121 (by decide) ?_
        refine lv_istore (lv' := [(6, .int 0), (0, .ref (x.2.2 (80))), (1, .int a1), (2, .int a2), (3, .int a3), (4, .int a4), (5, .int a5)]) F.1 F.2.1 dX9_canonical_122 hl (by decide) rfl (fun ls hl => ?_)
        exact b_X9_canonical_124 F k86 hk86 (f_X9_canonical_98 k86 n) ih FU _ _ _ _ w a1 a2 a3 a4 a5 0 (lv_sub hl [1, 2, 3, 4, 5, 6, 0] rfl) hf
def f_X9_canonical_195 : Nat → ST → Int32 → Int32 → Int32 → Option (Int32 × ST)
  | 0, _, _, _, _ => none
  | n + 1, S, a2, a3, a4 => (if a3 ≤ a4 then oB (f_X9_becomes S a2) (fun (r3 : Int32) (S2 : ST) => some (r3, S2)) else oG (inB a4 24) (oV (f_X9_comes S (ai S 34 (Int32.toNatClampNeg a4))) (fun (S5 : ST) => oL (a4 + 1) (fun (v6 : Int32) => (f_X9_canonical_195 n) S5 a2 a3 v6))))
set_option maxHeartbeats 4000000 in
set_option maxRecDepth 100000 in
theorem b_X9_canonical_195 {p : Program} {l : Launch} {e : Env} {s : State} {m : MethodId} {args : Array Value} {below : List Frame} {meth : Method} {c : Code} {x : CX} {res : Int32 × ST} (F : MF p m meth c cX9_canonical 7 s args RX9 (some .int)) : ∀ (n : Nat), ∀ (H : Heap) (locs : List Loc) (ls : Array Slot) (S : ST), WD x s S H locs → ∀ (a2 : Int32) (a3 : Int32) (a4 : Int32), lv_has ls 7 [(0, .ref (x.2.2 (80))), (2, .int a2), (3, .int a3), (4, .int a4)] → f_X9_canonical_195 n S a2 a3 a4 = some res → W p l e ({ frames := 2, cells := 0, slots := 0, locals := 43 } : Room) s m args below meth c H locs 0 0 (MQ below (QI x res.2 res.1 s.heap.size) args s 0 0 (AA x s.heap.size)) (F0 m 195 ls []) := by
  intro n
  induction n with
  | zero =>
    intro H locs ls S w a2 a3 a4 hl hf
    have hf : (none : Option (Int32 × ST)) = some res := hf
    cases hf
  | succ n ih =>
    intro H locs ls S w a2 a3 a4 hl hf
    unfold f_X9_canonical_195 at hf
    refine lv_iload F.1 F.2.1 dX9_canonical_195 (lv_at hl 3 rfl) ?_
    refine lv_iload_n F.1 F.2.1 dX9_canonical_197 rfl (lv_at hl 2 rfl) ?_
    refine lv_icmp_ge (tgt := 218) F.1 F.2.1 dX9_canonical_198 (by decide) (fun c1 => ?_) (fun c1 => ?_)
    · replace hf := oi_t hf c1
      refine lv_aload_n F.1 F.2.1 dX9_canonical_218 rfl (lv_at hl 0 rfl) ?_
      refine lv_iload_n F.1 F.2.1 dX9_canonical_219 rfl (lv_at hl 1 rfl) ?_
      obtain ⟨r3, S2, hc, hf⟩ := oi_b hf
      refine k_i0 (S' := S2) (r := r3) w (runV (As := [.int a2]) (rest := []) (kb := 80) F w (k_X9_becomes l x S a2 hc H.size) cy_X9_becomes q944 q946 qp27 ⟨rfl, rfl⟩ ⟨Nat.le_of_ble_eq_true rfl, Nat.le_of_ble_eq_true rfl⟩ (by decide) rfl rfl rfl rfl hl.1 (Nat.le_of_ble_eq_true rfl) ⟨Nat.le_of_ble_eq_true rfl, Nat.le_of_ble_eq_true rfl⟩ dX9_canonical_220) (fun H locs w => ?_)
      exact r_iret F w (oi_s hf) dX9_canonical_223
    · replace hf := oi_f hf c1
      refine lv_aload_n F.1 F.2.1 dX9_canonical_201 rfl (lv_at hl 0 rfl) ?_
      refine lv_aload_n F.1 F.2.1 dX9_canonical_202 rfl (lv_at hl 0 rfl) ?_
      refine g_MD_first F w q870 dX9_canonical_203 ?_
      refine lv_iload F.1 F.2.1 dX9_canonical_206 (lv_at hl 3 rfl) ?_
      obtain ⟨hb4, hf⟩ := oi_g hf
      refine r_iald F w (k := 85) (f := ai S 34) (by decide) rfl hb4 dX9_canonical_208 ?_
      obtain ⟨S5, hc, hf⟩ := oi_v hf
      refine k_v0 (S' := S5) w (runV (As := [.int (ai S 34 (Int32.toNatClampNeg a4))]) (rest := []) (kb := 80) F w (k_X9_comes l x S (ai S 34 (Int32.toNatClampNeg a4)) hc H.size) cy_X9_comes q940 q942 qp26 ⟨rfl, rfl⟩ ⟨Nat.le_of_ble_eq_true rfl, Nat.le_of_ble_eq_true rfl⟩ (by decide) rfl rfl rfl rfl hl.1 (Nat.le_of_ble_eq_true rfl) ⟨Nat.le_of_ble_eq_true rfl, Nat.le_of_ble_eq_true rfl⟩ dX9_canonical_209) (fun H locs w => ?_)
      obtain ⟨v6, e_v6⟩ : ∃ y : Int32, y = (a4 + 1) := ⟨_, rfl⟩
      replace hf := oi_l hf e_v6
      refine lv_iinc (v := v6) (lv' := [(4, .int v6), (0, .ref (x.2.2 (80))), (2, .int a2), (3, .int a3)]) F.1 F.2.1 dX9_canonical_212 hl (k := 3) rfl (by rw [e_v6]; rfl) (by decide) rfl (fun ls hl => ?_)
      refine lv_goto (tgt := 195) F.1 F.2.1 dX9_canonical_215 (by decide) ?_
      exact ih _ _ _ _ w a2 a3 v6 (lv_sub hl [1, 2, 3, 0] rfl) hf
def f_X9_canonical_86 : Nat → ST → Int32 → Int32 → Int32 → Int32 → Option (Int32 × ST)
  | 0, _, _, _, _, _ => none
  | n + 1, S, a1, a2, a3, a4 => oB (f_X9_modulus S) (fun (r2 : Int32) (S1 : ST) => (if r2 ≤ a4 then oV (f_X9_begins S1) (fun (S4 : ST) => f_X9_canonical_195 FU S4 a2 a3 0) else f_X9_canonical_98 (f_X9_canonical_86 n) FU S1 a1 a2 a3 a4 0))
set_option maxHeartbeats 4000000 in
set_option maxRecDepth 100000 in
theorem b_X9_canonical_86 {p : Program} {l : Launch} {e : Env} {s : State} {m : MethodId} {args : Array Value} {below : List Frame} {meth : Method} {c : Code} {x : CX} {res : Int32 × ST} (F : MF p m meth c cX9_canonical 7 s args RX9 (some .int)) : ∀ (n : Nat), ∀ (H : Heap) (locs : List Loc) (ls : Array Slot) (S : ST), WD x s S H locs → ∀ (a1 : Int32) (a2 : Int32) (a3 : Int32) (a4 : Int32), lv_has ls 7 [(0, .ref (x.2.2 (80))), (1, .int a1), (2, .int a2), (3, .int a3), (4, .int a4)] → f_X9_canonical_86 n S a1 a2 a3 a4 = some res → W p l e ({ frames := 2, cells := 0, slots := 0, locals := 43 } : Room) s m args below meth c H locs 0 0 (MQ below (QI x res.2 res.1 s.heap.size) args s 0 0 (AA x s.heap.size)) (F0 m 86 ls []) := by
  intro n
  induction n with
  | zero =>
    intro H locs ls S w a1 a2 a3 a4 hl hf
    have hf : (none : Option (Int32 × ST)) = some res := hf
    cases hf
  | succ n ih =>
    intro H locs ls S w a1 a2 a3 a4 hl hf
    unfold f_X9_canonical_86 at hf
    refine lv_iload F.1 F.2.1 dX9_canonical_86 (lv_at hl 4 rfl) ?_
    refine lv_aload_n F.1 F.2.1 dX9_canonical_88 rfl (lv_at hl 0 rfl) ?_
    obtain ⟨r2, S1, hc, hf⟩ := oi_b hf
    refine k_i0 (S' := S1) (r := r2) w (runV (As := []) (rest := [.int a4]) (kb := 80) F w (k_X9_modulus l x S hc H.size) cy_X9_modulus q1024 q1026 qp35 ⟨rfl, rfl⟩ ⟨Nat.le_of_ble_eq_true rfl, Nat.le_of_ble_eq_true rfl⟩ (by decide) rfl rfl rfl rfl hl.1 (Nat.le_of_ble_eq_true rfl) ⟨Nat.le_of_ble_eq_true rfl, Nat.le_of_ble_eq_true rfl⟩ dX9_canonical_89) (fun H locs w => ?_)
    refine lv_icmp_ge (tgt := 188) F.1 F.2.1 dX9_canonical_92 (by decide) (fun c3 => ?_) (fun c3 => ?_)
    · replace hf := oi_t hf c3
      refine lv_aload_n F.1 F.2.1 dX9_canonical_188 rfl (lv_at hl 0 rfl) ?_
      obtain ⟨S4, hc, hf⟩ := oi_v hf
      refine k_v0 (S' := S4) w (runV (As := []) (rest := []) (kb := 80) F w (k_X9_begins l x S1 hc H.size) cy_X9_begins q936 q938 qp25 ⟨rfl, rfl⟩ ⟨Nat.le_of_ble_eq_true rfl, Nat.le_of_ble_eq_true rfl⟩ (by decide) rfl rfl rfl rfl hl.1 (Nat.le_of_ble_eq_true rfl) ⟨Nat.le_of_ble_eq_true rfl, Nat.le_of_ble_eq_true rfl⟩ dX9_canonical_189) (fun H locs w => ?_)
      refine lv_iconst (v := 0) F.1 F.2.1 dX9_canonical_192 (by decide) ?_
      refine lv_istore (lv' := [(4, .int 0), (0, .ref (x.2.2 (80))), (1, .int a1), (2, .int a2), (3, .int a3)]) F.1 F.2.1 dX9_canonical_193 hl (by decide) rfl (fun ls hl => ?_)
      exact b_X9_canonical_195 F FU _ _ _ _ w a2 a3 0 (lv_sub hl [1, 3, 4, 0] rfl) hf
    · replace hf := oi_f hf c3
      refine lv_iconst (v := 0) F.1 F.2.1 dX9_canonical_95 (by decide) ?_
      refine lv_istore (lv' := [(5, .int 0), (0, .ref (x.2.2 (80))), (1, .int a1), (2, .int a2), (3, .int a3), (4, .int a4)]) F.1 F.2.1 dX9_canonical_96 hl (by decide) rfl (fun ls hl => ?_)
      exact b_X9_canonical_98 F (f_X9_canonical_86 n) ih FU _ _ _ _ w a1 a2 a3 a4 0 (lv_sub hl [1, 2, 3, 4, 5, 0] rfl) hf
def f_X9_canonical_61 : Nat → ST → Int32 → Int32 → Int32 → Int32 → Option (Int32 × ST)
  | 0, _, _, _, _, _ => none
  | n + 1, S, a1, a2, a3, a4 => (if a3 ≤ a4 then f_X9_canonical_86 FU S a1 a2 a3 1 else oG (inB a4 24) (oL (sA S 34 (upd (ai S 34) (Int32.toNatClampNeg a4) 2000)) (fun (S3 : ST) => oL (a4 + 1) (fun (v4 : Int32) => (f_X9_canonical_61 n) S3 a1 a2 a3 v4))))
set_option maxHeartbeats 4000000 in
set_option maxRecDepth 100000 in
theorem b_X9_canonical_61 {p : Program} {l : Launch} {e : Env} {s : State} {m : MethodId} {args : Array Value} {below : List Frame} {meth : Method} {c : Code} {x : CX} {res : Int32 × ST} (F : MF p m meth c cX9_canonical 7 s args RX9 (some .int)) : ∀ (n : Nat), ∀ (H : Heap) (locs : List Loc) (ls : Array Slot) (S : ST), WD x s S H locs → ∀ (a1 : Int32) (a2 : Int32) (a3 : Int32) (a4 : Int32), lv_has ls 7 [(0, .ref (x.2.2 (80))), (1, .int a1), (2, .int a2), (3, .int a3), (4, .int a4)] → f_X9_canonical_61 n S a1 a2 a3 a4 = some res → W p l e ({ frames := 2, cells := 0, slots := 0, locals := 43 } : Room) s m args below meth c H locs 0 0 (MQ below (QI x res.2 res.1 s.heap.size) args s 0 0 (AA x s.heap.size)) (F0 m 61 ls []) := by
  intro n
  induction n with
  | zero =>
    intro H locs ls S w a1 a2 a3 a4 hl hf
    have hf : (none : Option (Int32 × ST)) = some res := hf
    cases hf
  | succ n ih =>
    intro H locs ls S w a1 a2 a3 a4 hl hf
    unfold f_X9_canonical_61 at hf
    refine lv_iload F.1 F.2.1 dX9_canonical_61 (lv_at hl 4 rfl) ?_
    refine lv_iload_n F.1 F.2.1 dX9_canonical_63 rfl (lv_at hl 3 rfl) ?_
    refine lv_icmp_ge (tgt := 83) F.1 F.2.1 dX9_canonical_64 (by decide) (fun c1 => ?_) (fun c1 => ?_)
    · replace hf := oi_t hf c1
      refine lv_iconst (v := 1) F.1 F.2.1 dX9_canonical_83 (by decide) ?_
      refine lv_istore (lv' := [(4, .int 1), (0, .ref (x.2.2 (80))), (1, .int a1), (2, .int a2), (3, .int a3)]) F.1 F.2.1 dX9_canonical_84 hl (by decide) rfl (fun ls hl => ?_)
      exact b_X9_canonical_86 F FU _ _ _ _ w a1 a2 a3 1 (lv_sub hl [1, 2, 3, 4, 0] rfl) hf
    · replace hf := oi_f hf c1
      refine lv_aload_n F.1 F.2.1 dX9_canonical_67 rfl (lv_at hl 0 rfl) ?_
      refine g_MD_first F w q870 dX9_canonical_68 ?_
      refine lv_iload F.1 F.2.1 dX9_canonical_71 (lv_at hl 4 rfl) ?_
      refine lv_sipush (v := 2000) F.1 F.2.1 dX9_canonical_73 (by decide) ?_
      obtain ⟨hb2, hf⟩ := oi_g hf
      refine r_iast F w (k := 85) (a := 34) (n := 24) (by decide) (fun S9 => rfl) rfl hb2 dX9_canonical_76 (fun H locs w => ?_)
      obtain ⟨S3, e_S3⟩ : ∃ y : ST, y = sA S 34 (upd (ai S 34) (Int32.toNatClampNeg a4) 2000) := ⟨_, rfl⟩
      replace w : WD x s S3 H locs := by rw [e_S3]; exact w
      replace hf := oi_l hf e_S3
      obtain ⟨v4, e_v4⟩ : ∃ y : Int32, y = (a4 + 1) := ⟨_, rfl⟩
      replace hf := oi_l hf e_v4
      refine lv_iinc (v := v4) (lv' := [(4, .int v4), (0, .ref (x.2.2 (80))), (1, .int a1), (2, .int a2), (3, .int a3)]) F.1 F.2.1 dX9_canonical_77 hl (k := 4) rfl (by rw [e_v4]; rfl) (by decide) rfl (fun ls hl => ?_)
      refine lv_goto (tgt := 61) F.1 F.2.1 dX9_canonical_80 (by decide) ?_
      exact ih _ _ _ _ w a1 a2 a3 v4 (lv_sub hl [1, 2, 3, 4, 0] rfl) hf
def f_X9_canonical_40 (S : ST) (a1 : Int32) (a2 : Int32) (as0 : Int32) : Option (Int32 × ST) := oB (f_X9_refused S as0) (fun (r2 : Int32) (S1 : ST) => (if r2 = 0 then oV (f_X9_saves S1) (fun (S4 : ST) => oB (f_X9_many S4 a1) (fun (r6 : Int32) (S5 : ST) => f_X9_canonical_61 FU S5 a1 a2 r6 0)) else some (0, S1)))
set_option maxHeartbeats 4000000 in
set_option maxRecDepth 100000 in
theorem b_X9_canonical_40 {p : Program} {l : Launch} {e : Env} {s : State} {m : MethodId} {args : Array Value} {below : List Frame} {meth : Method} {c : Code} {x : CX} {res : Int32 × ST} (F : MF p m meth c cX9_canonical 7 s args RX9 (some .int)) : ∀ (H : Heap) (locs : List Loc) (ls : Array Slot) (S : ST), WD x s S H locs → ∀ (a1 : Int32) (a2 : Int32) (as0 : Int32), lv_has ls 7 [(0, .ref (x.2.2 (80))), (1, .int a1), (2, .int a2)] → f_X9_canonical_40 S a1 a2 as0 = some res → W p l e ({ frames := 2, cells := 0, slots := 0, locals := 43 } : Room) s m args below meth c H locs 0 0 (MQ below (QI x res.2 res.1 s.heap.size) args s 0 0 (AA x s.heap.size)) (F0 m 40 ls [.int as0, .ref (x.2.2 (80))]) := by
  intro H locs ls S w a1 a2 as0 hl hf
  unfold f_X9_canonical_40 at hf
  obtain ⟨r2, S1, hc, hf⟩ := oi_b hf
  refine k_i0 (S' := S1) (r := r2) w (runV (As := [.int as0]) (rest := []) (kb := 80) F w (k_X9_refused l x S as0 hc H.size) cy_X9_refused q902 q904 qp19 ⟨rfl, rfl⟩ ⟨Nat.le_of_ble_eq_true rfl, Nat.le_of_ble_eq_true rfl⟩ (by decide) rfl rfl rfl rfl hl.1 (Nat.le_of_ble_eq_true rfl) ⟨Nat.le_of_ble_eq_true rfl, Nat.le_of_ble_eq_true rfl⟩ dX9_canonical_40) (fun H locs w => ?_)
  refine lv_if_eq (tgt := 48) F.1 F.2.1 dX9_canonical_43 (by decide) (fun c3 => ?_) (fun c3 => ?_)
  · replace hf := oi_t hf c3
    refine lv_aload_n F.1 F.2.1 dX9_canonical_48 rfl (lv_at hl 0 rfl) ?_
    obtain ⟨S4, hc, hf⟩ := oi_v hf
    refine k_v0 (S' := S4) w (runV (As := []) (rest := []) (kb := 80) F w (k_X9_saves l x S1 hc H.size) cy_X9_saves q928 q930 qp23 ⟨rfl, rfl⟩ ⟨Nat.le_of_ble_eq_true rfl, Nat.le_of_ble_eq_true rfl⟩ (by decide) rfl rfl rfl rfl hl.1 (Nat.le_of_ble_eq_true rfl) ⟨Nat.le_of_ble_eq_true rfl, Nat.le_of_ble_eq_true rfl⟩ dX9_canonical_49) (fun H locs w => ?_)
    refine lv_aload_n F.1 F.2.1 dX9_canonical_52 rfl (lv_at hl 0 rfl) ?_
    refine lv_iload_n F.1 F.2.1 dX9_canonical_53 rfl (lv_at hl 1 rfl) ?_
    obtain ⟨r6, S5, hc, hf⟩ := oi_b hf
    refine k_i0 (S' := S5) (r := r6) w (runV (As := [.int a1]) (rest := []) (kb := 80) F w (k_X9_many l x S4 a1 hc H.size) cy_X9_many q920 q922 qp21 ⟨rfl, rfl⟩ ⟨Nat.le_of_ble_eq_true rfl, Nat.le_of_ble_eq_true rfl⟩ (by decide) rfl rfl rfl rfl hl.1 (Nat.le_of_ble_eq_true rfl) ⟨Nat.le_of_ble_eq_true rfl, Nat.le_of_ble_eq_true rfl⟩ dX9_canonical_54) (fun H locs w => ?_)
    refine lv_istore_n (lv' := [(3, .int r6), (0, .ref (x.2.2 (80))), (1, .int a1), (2, .int a2)]) F.1 F.2.1 dX9_canonical_57 rfl hl (by decide) rfl (fun ls hl => ?_)
    refine lv_iconst (v := 0) F.1 F.2.1 dX9_canonical_58 (by decide) ?_
    refine lv_istore (lv' := [(4, .int 0), (3, .int r6), (0, .ref (x.2.2 (80))), (1, .int a1), (2, .int a2)]) F.1 F.2.1 dX9_canonical_59 hl (by decide) rfl (fun ls hl => ?_)
    exact b_X9_canonical_61 F FU _ _ _ _ w a1 a2 r6 0 (lv_sub hl [2, 3, 4, 1, 0] rfl) hf
  · replace hf := oi_f hf c3
    refine lv_iconst (v := 0) F.1 F.2.1 dX9_canonical_46 (by decide) ?_
    exact r_iret F w (oi_s hf) dX9_canonical_47
def f_X9_canonical_15 (S : ST) (a1 : Int32) (a2 : Int32) : Option (Int32 × ST) := f_X9_canonical_40 S a1 a2 1
set_option maxHeartbeats 4000000 in
set_option maxRecDepth 100000 in
theorem b_X9_canonical_15 {p : Program} {l : Launch} {e : Env} {s : State} {m : MethodId} {args : Array Value} {below : List Frame} {meth : Method} {c : Code} {x : CX} {res : Int32 × ST} (F : MF p m meth c cX9_canonical 7 s args RX9 (some .int)) : ∀ (H : Heap) (locs : List Loc) (ls : Array Slot) (S : ST), WD x s S H locs → ∀ (a1 : Int32) (a2 : Int32), lv_has ls 7 [(0, .ref (x.2.2 (80))), (1, .int a1), (2, .int a2)] → f_X9_canonical_15 S a1 a2 = some res → W p l e ({ frames := 2, cells := 0, slots := 0, locals := 43 } : Room) s m args below meth c H locs 0 0 (MQ below (QI x res.2 res.1 s.heap.size) args s 0 0 (AA x s.heap.size)) (F0 m 15 ls [.ref (x.2.2 (80))]) := by
  intro H locs ls S w a1 a2 hl hf
  unfold f_X9_canonical_15 at hf
  refine lv_iconst (v := 1) F.1 F.2.1 dX9_canonical_15 (by decide) ?_
  refine lv_goto (tgt := 40) F.1 F.2.1 dX9_canonical_16 (by decide) ?_
  exact b_X9_canonical_40 F  _ _ _ _ w a1 a2 1 (lv_sub hl [0, 1, 2] rfl) hf
def f_X9_canonical_35 (S : ST) (a1 : Int32) (a2 : Int32) : Option (Int32 × ST) := f_X9_canonical_40 S a1 a2 2
set_option maxHeartbeats 4000000 in
set_option maxRecDepth 100000 in
theorem b_X9_canonical_35 {p : Program} {l : Launch} {e : Env} {s : State} {m : MethodId} {args : Array Value} {below : List Frame} {meth : Method} {c : Code} {x : CX} {res : Int32 × ST} (F : MF p m meth c cX9_canonical 7 s args RX9 (some .int)) : ∀ (H : Heap) (locs : List Loc) (ls : Array Slot) (S : ST), WD x s S H locs → ∀ (a1 : Int32) (a2 : Int32), lv_has ls 7 [(0, .ref (x.2.2 (80))), (1, .int a1), (2, .int a2)] → f_X9_canonical_35 S a1 a2 = some res → W p l e ({ frames := 2, cells := 0, slots := 0, locals := 43 } : Room) s m args below meth c H locs 0 0 (MQ below (QI x res.2 res.1 s.heap.size) args s 0 0 (AA x s.heap.size)) (F0 m 35 ls [.ref (x.2.2 (80))]) := by
  intro H locs ls S w a1 a2 hl hf
  unfold f_X9_canonical_35 at hf
  refine lv_iconst (v := 2) F.1 F.2.1 dX9_canonical_35 (by decide) ?_
  refine lv_goto (tgt := 40) F.1 F.2.1 dX9_canonical_36 (by decide) ?_
  exact b_X9_canonical_40 F  _ _ _ _ w a1 a2 2 (lv_sub hl [0, 1, 2] rfl) hf
def f_X9_canonical_0 (S : ST) (a1 : Int32) (a2 : Int32) : Option (Int32 × ST) := oB (f_X9_isSet S a1) (fun (r2 : Int32) (S1 : ST) => (if r2 = 0 then f_X9_canonical_15 S1 a1 a2 else oB (f_X9_isSet S1 a2) (fun (r5 : Int32) (S4 : ST) => (if r5 = 0 then f_X9_canonical_15 S4 a1 a2 else oB (f_X9_many S4 a1) (fun (r8 : Int32) (S7 : ST) => (if r8 = 0 then f_X9_canonical_35 S7 a1 a2 else oB (f_X9_isLow S7 a1) (fun (r11 : Int32) (S10 : ST) => (if r11 = 0 then f_X9_canonical_35 S10 a1 a2 else f_X9_canonical_40 S10 a1 a2 0))))))))
set_option maxHeartbeats 4000000 in
set_option maxRecDepth 100000 in
theorem b_X9_canonical_0 {p : Program} {l : Launch} {e : Env} {s : State} {m : MethodId} {args : Array Value} {below : List Frame} {meth : Method} {c : Code} {x : CX} {res : Int32 × ST} (F : MF p m meth c cX9_canonical 7 s args RX9 (some .int)) : ∀ (H : Heap) (locs : List Loc) (ls : Array Slot) (S : ST), WD x s S H locs → ∀ (a1 : Int32) (a2 : Int32), lv_has ls 7 [(0, .ref (x.2.2 (80))), (1, .int a1), (2, .int a2)] → f_X9_canonical_0 S a1 a2 = some res → W p l e ({ frames := 2, cells := 0, slots := 0, locals := 43 } : Room) s m args below meth c H locs 0 0 (MQ below (QI x res.2 res.1 s.heap.size) args s 0 0 (AA x s.heap.size)) (F0 m 0 ls []) := by
  intro H locs ls S w a1 a2 hl hf
  unfold f_X9_canonical_0 at hf
  refine lv_aload_n F.1 F.2.1 dX9_canonical_0 rfl (lv_at hl 0 rfl) ?_
  refine lv_iload_n F.1 F.2.1 dX9_canonical_1 rfl (lv_at hl 1 rfl) ?_
  obtain ⟨r2, S1, hc, hf⟩ := oi_b hf
  refine k_i0 (S' := S1) (r := r2) w (runS (As := [.int a1]) (rest := [.ref (x.2.2 (80))]) F w (k_X9_isSet l x S a1 hc H.size) cy_X9_isSet q910 q911 ⟨rfl, rfl⟩ ⟨Nat.le_of_ble_eq_true rfl, Nat.le_of_ble_eq_true rfl⟩ rfl rfl hl.1 (Nat.le_of_ble_eq_true rfl) ⟨Nat.le_of_ble_eq_true rfl, Nat.le_of_ble_eq_true rfl⟩ dX9_canonical_2) (fun H locs w => ?_)
  refine lv_if_eq (tgt := 15) F.1 F.2.1 dX9_canonical_5 (by decide) (fun c3 => ?_) (fun c3 => ?_)
  · replace hf := oi_t hf c3
    exact b_X9_canonical_15 F  _ _ _ _ w a1 a2 (lv_sub hl [0, 1, 2] rfl) hf
  · replace hf := oi_f hf c3
    refine lv_iload_n F.1 F.2.1 dX9_canonical_8 rfl (lv_at hl 2 rfl) ?_
    obtain ⟨r5, S4, hc, hf⟩ := oi_b hf
    refine k_i0 (S' := S4) (r := r5) w (runS (As := [.int a2]) (rest := [.ref (x.2.2 (80))]) F w (k_X9_isSet l x S1 a2 hc H.size) cy_X9_isSet q910 q911 ⟨rfl, rfl⟩ ⟨Nat.le_of_ble_eq_true rfl, Nat.le_of_ble_eq_true rfl⟩ rfl rfl hl.1 (Nat.le_of_ble_eq_true rfl) ⟨Nat.le_of_ble_eq_true rfl, Nat.le_of_ble_eq_true rfl⟩ dX9_canonical_9) (fun H locs w => ?_)
    refine lv_if_ne (tgt := 19) F.1 F.2.1 dX9_canonical_12 (by decide) (fun c6 => ?_) (fun c6 => ?_)
    · replace hf := oi_f hf c6
      refine lv_aload_n F.1 F.2.1 dX9_canonical_19 rfl (lv_at hl 0 rfl) ?_
      refine lv_iload_n F.1 F.2.1 dX9_canonical_20 rfl (lv_at hl 1 rfl) ?_
      obtain ⟨r8, S7, hc, hf⟩ := oi_b hf
      refine k_i0 (S' := S7) (r := r8) w (runV (As := [.int a1]) (rest := [.ref (x.2.2 (80))]) (kb := 80) F w (k_X9_many l x S4 a1 hc H.size) cy_X9_many q920 q922 qp21 ⟨rfl, rfl⟩ ⟨Nat.le_of_ble_eq_true rfl, Nat.le_of_ble_eq_true rfl⟩ (by decide) rfl rfl rfl rfl hl.1 (Nat.le_of_ble_eq_true rfl) ⟨Nat.le_of_ble_eq_true rfl, Nat.le_of_ble_eq_true rfl⟩ dX9_canonical_21) (fun H locs w => ?_)
      refine lv_if_eq (tgt := 35) F.1 F.2.1 dX9_canonical_24 (by decide) (fun c9 => ?_) (fun c9 => ?_)
      · replace hf := oi_t hf c9
        exact b_X9_canonical_35 F  _ _ _ _ w a1 a2 (lv_sub hl [0, 1, 2] rfl) hf
      · replace hf := oi_f hf c9
        refine lv_aload_n F.1 F.2.1 dX9_canonical_27 rfl (lv_at hl 0 rfl) ?_
        refine lv_iload_n F.1 F.2.1 dX9_canonical_28 rfl (lv_at hl 1 rfl) ?_
        obtain ⟨r11, S10, hc, hf⟩ := oi_b hf
        refine k_i0 (S' := S10) (r := r11) w (runV (As := [.int a1]) (rest := [.ref (x.2.2 (80))]) (kb := 80) F w (k_X9_isLow l x S7 a1 hc H.size) cy_X9_isLow q1032 q1034 qp36 ⟨rfl, rfl⟩ ⟨Nat.le_of_ble_eq_true rfl, Nat.le_of_ble_eq_true rfl⟩ (by decide) rfl rfl rfl rfl hl.1 (Nat.le_of_ble_eq_true rfl) ⟨Nat.le_of_ble_eq_true rfl, Nat.le_of_ble_eq_true rfl⟩ dX9_canonical_29) (fun H locs w => ?_)
        refine lv_if_ne (tgt := 39) F.1 F.2.1 dX9_canonical_32 (by decide) (fun c12 => ?_) (fun c12 => ?_)
        · replace hf := oi_f hf c12
          refine lv_iconst (v := 0) F.1 F.2.1 dX9_canonical_39 (by decide) ?_
          exact b_X9_canonical_40 F  _ _ _ _ w a1 a2 0 (lv_sub hl [0, 1, 2] rfl) hf
        · replace hf := oi_t hf c12
          exact b_X9_canonical_35 F  _ _ _ _ w a1 a2 (lv_sub hl [0, 1, 2] rfl) hf
    · replace hf := oi_t hf c6
      exact b_X9_canonical_15 F  _ _ _ _ w a1 a2 (lv_sub hl [0, 1, 2] rfl) hf
def f_X9_canonical (S : ST) (a1 : Int32) (a2 : Int32) : Option (Int32 × ST) := f_X9_canonical_0 S a1 a2
set_option maxHeartbeats 4000000 in
set_option maxRecDepth 100000 in
theorem k_X9_canonical (l : Launch) (x : CX) (S : ST) (a1 : Int32) (a2 : Int32) {res : Int32 × ST} (hf : f_X9_canonical S a1 a2 = some res) (sz : Nat) : Met l yX9_canonical (Cond.code yX9_canonical cX9_canonical 7 (some .int) :: GW) ({ frames := 2, cells := 0, slots := 0, locals := 43 } : Room) (PC x S sz [.ref (x.2.2 (80)), .int a1, .int a2]) (QI x res.2 res.1 sz) 0 0 (AA x sz) := by
  refine Met.ofW (cc := cX9_canonical) (maxL := 7) (ret := (some .int)) (by decide) rfl ?_
  intro p e s m args below meth c s₁ B hml hv
  obtain ⟨rfl, rfl, hPW⟩ := hv
  have F : MF p m meth c cX9_canonical 7 s _ RX9 (some .int) := MF.of B hml
  have w := WD.of hPW
  have hl := lv_entry ([.ref (x.2.2 (80)), .int a1, .int a2]) (n := 7) (Nat.le_of_ble_eq_true rfl)
  rw [lg_entry_eq]
  generalize (lg_sl ([.ref (x.2.2 (80)), .int a1, .int a2]) ++ List.replicate (7 - (lg_sl ([.ref (x.2.2 (80)), .int a1, .int a2])).length) Slot.unset).toArray = ls at hl ⊢
  have hl : lv_has ls 7 [(0, .ref (x.2.2 (80))), (1, .int a1), (2, .int a2)] := hl
  unfold f_X9_canonical at hf
  exact b_X9_canonical_0 F  _ _ _ _ w a1 a2 (lv_sub hl [0, 1, 2] rfl) hf
theorem cy_X9_isPrime : CY yX9_isPrime RX9 cX9_isPrime 3 (some .boolean) 1 := ⟨q10, q1109, rfl, by decide, by decide, by decide +kernel⟩
def f_X9_isPrime_30 (k10 : ST → Int32 → Int32 → Int32 → Option (Int32 × ST)) (S : ST) (a0 : Int32) (a2 : Int32) (as0 : Int32) : Option (Int32 × ST) := oL (a2 + 1) (fun (v1 : Int32) => k10 S a0 as0 v1)
set_option maxHeartbeats 4000000 in
set_option maxRecDepth 100000 in
theorem b_X9_isPrime_30 {p : Program} {l : Launch} {e : Env} {s : State} {m : MethodId} {args : Array Value} {below : List Frame} {meth : Method} {c : Code} {x : CX} {res : Int32 × ST} (F : MF p m meth c cX9_isPrime 3 s args RX9 (some .boolean)) (k10 : ST → Int32 → Int32 → Int32 → Option (Int32 × ST)) (hk10 : ∀ (H : Heap) (locs : List Loc) (ls : Array Slot) (S : ST), WD x s S H locs → ∀ (a0 : Int32) (a1 : Int32) (a2 : Int32), lv_has ls 3 [(0, .int a0), (1, .int a1), (2, .int a2)] → k10 S a0 a1 a2 = some res → W p l e ({ frames := 1, cells := 0, slots := 0, locals := 22 } : Room) s m args below meth c H locs 0 0 (MQ below (QI x res.2 res.1 s.heap.size) args s 0 0 (AA x s.heap.size)) (F0 m 10 ls [])) : ∀ (H : Heap) (locs : List Loc) (ls : Array Slot) (S : ST), WD x s S H locs → ∀ (a0 : Int32) (a2 : Int32) (as0 : Int32), lv_has ls 3 [(0, .int a0), (2, .int a2)] → f_X9_isPrime_30 k10 S a0 a2 as0 = some res → W p l e ({ frames := 1, cells := 0, slots := 0, locals := 22 } : Room) s m args below meth c H locs 0 0 (MQ below (QI x res.2 res.1 s.heap.size) args s 0 0 (AA x s.heap.size)) (F0 m 30 ls [.int as0]) := by
  intro H locs ls S w a0 a2 as0 hl hf
  unfold f_X9_isPrime_30 at hf
  refine lv_istore_n (lv' := [(1, .int as0), (0, .int a0), (2, .int a2)]) F.1 F.2.1 dX9_isPrime_30 rfl hl (by decide) rfl (fun ls hl => ?_)
  obtain ⟨v1, e_v1⟩ : ∃ y : Int32, y = (a2 + 1) := ⟨_, rfl⟩
  replace hf := oi_l hf e_v1
  refine lv_iinc (v := v1) (lv' := [(2, .int v1), (1, .int as0), (0, .int a0)]) F.1 F.2.1 dX9_isPrime_31 hl (k := 2) rfl (by rw [e_v1]; rfl) (by decide) rfl (fun ls hl => ?_)
  refine lv_goto (tgt := 10) F.1 F.2.1 dX9_isPrime_34 (by decide) ?_
  exact hk10 _ _ _ _ w a0 as0 v1 (lv_sub hl [2, 1, 0] rfl) hf
def f_X9_isPrime_37 (S : ST) (a1 : Int32) : Option (Int32 × ST) := oG (isB a1) (some (a1, S))
set_option maxHeartbeats 4000000 in
set_option maxRecDepth 100000 in
theorem b_X9_isPrime_37 {p : Program} {l : Launch} {e : Env} {s : State} {m : MethodId} {args : Array Value} {below : List Frame} {meth : Method} {c : Code} {x : CX} {res : Int32 × ST} (F : MF p m meth c cX9_isPrime 3 s args RX9 (some .boolean)) : ∀ (H : Heap) (locs : List Loc) (ls : Array Slot) (S : ST), WD x s S H locs → ∀ (a1 : Int32), lv_has ls 3 [(1, .int a1)] → f_X9_isPrime_37 S a1 = some res → W p l e ({ frames := 1, cells := 0, slots := 0, locals := 22 } : Room) s m args below meth c H locs 0 0 (MQ below (QI x res.2 res.1 s.heap.size) args s 0 0 (AA x s.heap.size)) (F0 m 37 ls []) := by
  intro H locs ls S w a1 hl hf
  unfold f_X9_isPrime_37 at hf
  refine lv_iload_n F.1 F.2.1 dX9_isPrime_37 rfl (lv_at hl 0 rfl) ?_
  obtain ⟨hz1, hf⟩ := oi_g hf
  exact r_zret F w (isB_nar hz1) (oi_s hf) dX9_isPrime_38
def f_X9_isPrime_10 : Nat → ST → Int32 → Int32 → Int32 → Option (Int32 × ST)
  | 0, _, _, _, _ => none
  | n + 1, S, a0, a1, a2 => (if a0 ≤ a2 then f_X9_isPrime_37 S a1 else (if a1 = 0 then f_X9_isPrime_37 S a1 else oG (nz a2) ((if (a0 - a0 / a2 * a2) = 0 then f_X9_isPrime_30 (f_X9_isPrime_10 n) S a0 a2 0 else f_X9_isPrime_30 (f_X9_isPrime_10 n) S a0 a2 1))))
set_option maxHeartbeats 4000000 in
set_option maxRecDepth 100000 in
theorem b_X9_isPrime_10 {p : Program} {l : Launch} {e : Env} {s : State} {m : MethodId} {args : Array Value} {below : List Frame} {meth : Method} {c : Code} {x : CX} {res : Int32 × ST} (F : MF p m meth c cX9_isPrime 3 s args RX9 (some .boolean)) : ∀ (n : Nat), ∀ (H : Heap) (locs : List Loc) (ls : Array Slot) (S : ST), WD x s S H locs → ∀ (a0 : Int32) (a1 : Int32) (a2 : Int32), lv_has ls 3 [(0, .int a0), (1, .int a1), (2, .int a2)] → f_X9_isPrime_10 n S a0 a1 a2 = some res → W p l e ({ frames := 1, cells := 0, slots := 0, locals := 22 } : Room) s m args below meth c H locs 0 0 (MQ below (QI x res.2 res.1 s.heap.size) args s 0 0 (AA x s.heap.size)) (F0 m 10 ls []) := by
  intro n
  induction n with
  | zero =>
    intro H locs ls S w a0 a1 a2 hl hf
    have hf : (none : Option (Int32 × ST)) = some res := hf
    cases hf
  | succ n ih =>
    intro H locs ls S w a0 a1 a2 hl hf
    unfold f_X9_isPrime_10 at hf
    refine lv_iload_n F.1 F.2.1 dX9_isPrime_10 rfl (lv_at hl 2 rfl) ?_
    refine lv_iload_n F.1 F.2.1 dX9_isPrime_11 rfl (lv_at hl 0 rfl) ?_
    refine lv_icmp_ge (tgt := 37) F.1 F.2.1 dX9_isPrime_12 (by decide) (fun c1 => ?_) (fun c1 => ?_)
    · replace hf := oi_t hf c1
      exact b_X9_isPrime_37 F  _ _ _ _ w a1 (lv_sub hl [1] rfl) hf
    · replace hf := oi_f hf c1
      refine lv_iload_n F.1 F.2.1 dX9_isPrime_15 rfl (lv_at hl 1 rfl) ?_
      refine lv_if_eq (tgt := 37) F.1 F.2.1 dX9_isPrime_16 (by decide) (fun c2 => ?_) (fun c2 => ?_)
      · replace hf := oi_t hf c2
        exact b_X9_isPrime_37 F  _ _ _ _ w a1 (lv_sub hl [1] rfl) hf
      · replace hf := oi_f hf c2
        refine lv_iload_n F.1 F.2.1 dX9_isPrime_19 rfl (lv_at hl 0 rfl) ?_
        refine lv_iload_n F.1 F.2.1 dX9_isPrime_20 rfl (lv_at hl 2 rfl) ?_
        obtain ⟨hz3, hf⟩ := oi_g hf
        refine lv_irem F.1 F.2.1 dX9_isPrime_21 (nz_ne hz3) ?_
        refine lv_if_eq (tgt := 29) F.1 F.2.1 dX9_isPrime_22 (by decide) (fun c4 => ?_) (fun c4 => ?_)
        · replace hf := oi_t hf c4
          refine lv_iconst (v := 0) F.1 F.2.1 dX9_isPrime_29 (by decide) ?_
          exact b_X9_isPrime_30 F (f_X9_isPrime_10 n) ih _ _ _ _ w a0 a2 0 (lv_sub hl [0, 2] rfl) hf
        · replace hf := oi_f hf c4
          refine lv_iconst (v := 1) F.1 F.2.1 dX9_isPrime_25 (by decide) ?_
          refine lv_goto (tgt := 30) F.1 F.2.1 dX9_isPrime_26 (by decide) ?_
          exact b_X9_isPrime_30 F (f_X9_isPrime_10 n) ih _ _ _ _ w a0 a2 1 (lv_sub hl [0, 2] rfl) hf
def f_X9_isPrime_0 (S : ST) (a0 : Int32) : Option (Int32 × ST) := oB (f_X9_within S a0 3 23) (fun (r2 : Int32) (S1 : ST) => f_X9_isPrime_10 FU S1 a0 r2 2)
set_option maxHeartbeats 4000000 in
set_option maxRecDepth 100000 in
theorem b_X9_isPrime_0 {p : Program} {l : Launch} {e : Env} {s : State} {m : MethodId} {args : Array Value} {below : List Frame} {meth : Method} {c : Code} {x : CX} {res : Int32 × ST} (F : MF p m meth c cX9_isPrime 3 s args RX9 (some .boolean)) : ∀ (H : Heap) (locs : List Loc) (ls : Array Slot) (S : ST), WD x s S H locs → ∀ (a0 : Int32), lv_has ls 3 [(0, .int a0)] → f_X9_isPrime_0 S a0 = some res → W p l e ({ frames := 1, cells := 0, slots := 0, locals := 22 } : Room) s m args below meth c H locs 0 0 (MQ below (QI x res.2 res.1 s.heap.size) args s 0 0 (AA x s.heap.size)) (F0 m 0 ls []) := by
  intro H locs ls S w a0 hl hf
  unfold f_X9_isPrime_0 at hf
  refine lv_iload_n F.1 F.2.1 dX9_isPrime_0 rfl (lv_at hl 0 rfl) ?_
  refine lv_iconst (v := 3) F.1 F.2.1 dX9_isPrime_1 (by decide) ?_
  refine lv_bipush (v := 23) F.1 F.2.1 dX9_isPrime_2 (by decide) ?_
  obtain ⟨r2, S1, hc, hf⟩ := oi_b hf
  refine k_i0 (S' := S1) (r := r2) w (runS (As := [.int a0, .int 3, .int 23]) (rest := []) F w (k_X9_within l x S a0 3 23 hc H.size) cy_X9_within q913 q914 ⟨rfl, rfl⟩ ⟨Nat.le_of_ble_eq_true rfl, Nat.le_of_ble_eq_true rfl⟩ rfl rfl hl.1 (Nat.le_of_ble_eq_true rfl) ⟨Nat.le_of_ble_eq_true rfl, Nat.le_of_ble_eq_true rfl⟩ dX9_isPrime_4) (fun H locs w => ?_)
  refine lv_istore_n (lv' := [(1, .int r2), (0, .int a0)]) F.1 F.2.1 dX9_isPrime_7 rfl hl (by decide) rfl (fun ls hl => ?_)
  refine lv_iconst (v := 2) F.1 F.2.1 dX9_isPrime_8 (by decide) ?_
  refine lv_istore_n (lv' := [(2, .int 2), (1, .int r2), (0, .int a0)]) F.1 F.2.1 dX9_isPrime_9 rfl hl (by decide) rfl (fun ls hl => ?_)
  exact b_X9_isPrime_10 F FU _ _ _ _ w a0 r2 2 (lv_sub hl [2, 1, 0] rfl) hf
def f_X9_isPrime (S : ST) (a0 : Int32) : Option (Int32 × ST) := f_X9_isPrime_0 S a0
set_option maxHeartbeats 4000000 in
set_option maxRecDepth 100000 in
theorem k_X9_isPrime (l : Launch) (x : CX) (S : ST) (a0 : Int32) {res : Int32 × ST} (hf : f_X9_isPrime S a0 = some res) (sz : Nat) : Met l yX9_isPrime (Cond.code yX9_isPrime cX9_isPrime 3 (some .boolean) :: GW) ({ frames := 1, cells := 0, slots := 0, locals := 22 } : Room) (PC x S sz [.int a0]) (QI x res.2 res.1 sz) 0 0 (AA x sz) := by
  refine Met.ofW (cc := cX9_isPrime) (maxL := 3) (ret := (some .boolean)) (by decide) rfl ?_
  intro p e s m args below meth c s₁ B hml hv
  obtain ⟨rfl, rfl, hPW⟩ := hv
  have F : MF p m meth c cX9_isPrime 3 s _ RX9 (some .boolean) := MF.of B hml
  have w := WD.of hPW
  have hl := lv_entry ([.int a0]) (n := 3) (Nat.le_of_ble_eq_true rfl)
  rw [lg_entry_eq]
  generalize (lg_sl ([.int a0]) ++ List.replicate (3 - (lg_sl ([.int a0])).length) Slot.unset).toArray = ls at hl ⊢
  have hl : lv_has ls 3 [(0, .int a0)] := hl
  unfold f_X9_isPrime at hf
  exact b_X9_isPrime_0 F  _ _ _ _ w a0 (lv_sub hl [0] rfl) hf
theorem cy_X9_isRoot : CY yX9_isRoot RX9 cX9_isRoot 4 (some .boolean) 2 := ⟨q10, q1116, rfl, by decide, by decide, by decide +kernel⟩
def f_X9_isRoot_46 (S : ST) (as0 : Int32) : Option (Int32 × ST) := oG (isB as0) (some (as0, S))
set_option maxHeartbeats 4000000 in
set_option maxRecDepth 100000 in
theorem b_X9_isRoot_46 {p : Program} {l : Launch} {e : Env} {s : State} {m : MethodId} {args : Array Value} {below : List Frame} {meth : Method} {c : Code} {x : CX} {res : Int32 × ST} (F : MF p m meth c cX9_isRoot 4 s args RX9 (some .boolean)) : ∀ (H : Heap) (locs : List Loc) (ls : Array Slot) (S : ST), WD x s S H locs → ∀ (as0 : Int32), lv_has ls 4 [] → f_X9_isRoot_46 S as0 = some res → W p l e ({ frames := 1, cells := 0, slots := 0, locals := 22 } : Room) s m args below meth c H locs 0 0 (MQ below (QI x res.2 res.1 s.heap.size) args s 0 0 (AA x s.heap.size)) (F0 m 46 ls [.int as0]) := by
  intro H locs ls S w as0 hl hf
  unfold f_X9_isRoot_46 at hf
  obtain ⟨hz1, hf⟩ := oi_g hf
  exact r_zret F w (isB_nar hz1) (oi_s hf) dX9_isRoot_46
def f_X9_isRoot_17 : Nat → ST → Int32 → Int32 → Int32 → Int32 → Option (Int32 × ST)
  | 0, _, _, _, _, _ => none
  | n + 1, S, a0, a1, a2, a3 => (if a2 = 1 then (if a3 = (a0 - (1 : Int32)) then f_X9_isRoot_46 S 1 else f_X9_isRoot_46 S 0) else oG (nz a0) (oL ((a2 * a1) - (a2 * a1) / a0 * a0) (fun (v4 : Int32) => oL (a3 + 1) (fun (v5 : Int32) => (f_X9_isRoot_17 n) S a0 a1 v4 v5))))
set_option maxHeartbeats 4000000 in
set_option maxRecDepth 100000 in
theorem b_X9_isRoot_17 {p : Program} {l : Launch} {e : Env} {s : State} {m : MethodId} {args : Array Value} {below : List Frame} {meth : Method} {c : Code} {x : CX} {res : Int32 × ST} (F : MF p m meth c cX9_isRoot 4 s args RX9 (some .boolean)) : ∀ (n : Nat), ∀ (H : Heap) (locs : List Loc) (ls : Array Slot) (S : ST), WD x s S H locs → ∀ (a0 : Int32) (a1 : Int32) (a2 : Int32) (a3 : Int32), lv_has ls 4 [(0, .int a0), (1, .int a1), (2, .int a2), (3, .int a3)] → f_X9_isRoot_17 n S a0 a1 a2 a3 = some res → W p l e ({ frames := 1, cells := 0, slots := 0, locals := 22 } : Room) s m args below meth c H locs 0 0 (MQ below (QI x res.2 res.1 s.heap.size) args s 0 0 (AA x s.heap.size)) (F0 m 17 ls []) := by
  intro n
  induction n with
  | zero =>
    intro H locs ls S w a0 a1 a2 a3 hl hf
    have hf : (none : Option (Int32 × ST)) = some res := hf
    cases hf
  | succ n ih =>
    intro H locs ls S w a0 a1 a2 a3 hl hf
    unfold f_X9_isRoot_17 at hf
    refine lv_iload_n F.1 F.2.1 dX9_isRoot_17 rfl (lv_at hl 2 rfl) ?_
    refine lv_iconst (v := 1) F.1 F.2.1 dX9_isRoot_18 (by decide) ?_
    refine lv_icmp_eq (tgt := 34) F.1 F.2.1 dX9_isRoot_19 (by decide) (fun c1 => ?_) (fun c1 => ?_)
    · replace hf := oi_t hf c1
      refine lv_iload_n F.1 F.2.1 dX9_isRoot_34 rfl (lv_at hl 3 rfl) ?_
      refine lv_iload_n F.1 F.2.1 dX9_isRoot_35 rfl (lv_at hl 0 rfl) ?_
      refine lv_iconst (v := 1) F.1 F.2.1 dX9_isRoot_36 (by decide) ?_
      refine lv_isub F.1 F.2.1 dX9_isRoot_37 ?_
      refine lv_icmp_ne (tgt := 45) F.1 F.2.1 dX9_isRoot_38 (by decide) (fun c2 => ?_) (fun c2 => ?_)
      · replace hf := oi_f hf c2
        refine lv_iconst (v := 0) F.1 F.2.1 dX9_isRoot_45 (by decide) ?_
        exact b_X9_isRoot_46 F  _ _ _ _ w 0 (lv_sub hl [] rfl) hf
      · replace hf := oi_t hf c2
        refine lv_iconst (v := 1) F.1 F.2.1 dX9_isRoot_41 (by decide) ?_
        refine lv_goto (tgt := 46) F.1 F.2.1 dX9_isRoot_42 (by decide) ?_
        exact b_X9_isRoot_46 F  _ _ _ _ w 1 (lv_sub hl [] rfl) hf
    · replace hf := oi_f hf c1
      refine lv_iload_n F.1 F.2.1 dX9_isRoot_22 rfl (lv_at hl 2 rfl) ?_
      refine lv_iload_n F.1 F.2.1 dX9_isRoot_23 rfl (lv_at hl 1 rfl) ?_
      refine lv_imul F.1 F.2.1 dX9_isRoot_24 ?_
      refine lv_iload_n F.1 F.2.1 dX9_isRoot_25 rfl (lv_at hl 0 rfl) ?_
      obtain ⟨hz3, hf⟩ := oi_g hf
      refine lv_irem F.1 F.2.1 dX9_isRoot_26 (nz_ne hz3) ?_
      refine lv_topi (fun v4 e_v4 => ?_)
      replace hf := oi_l hf e_v4
      refine lv_istore_n (lv' := [(2, .int v4), (0, .int a0), (1, .int a1), (3, .int a3)]) F.1 F.2.1 dX9_isRoot_27 rfl hl (by decide) rfl (fun ls hl => ?_)
      obtain ⟨v5, e_v5⟩ : ∃ y : Int32, y = (a3 + 1) := ⟨_, rfl⟩
      replace hf := oi_l hf e_v5
      refine lv_iinc (v := v5) (lv' := [(3, .int v5), (2, .int v4), (0, .int a0), (1, .int a1)]) F.1 F.2.1 dX9_isRoot_28 hl (k := 3) rfl (by rw [e_v5]; rfl) (by decide) rfl (fun ls hl => ?_)
      refine lv_goto (tgt := 17) F.1 F.2.1 dX9_isRoot_31 (by decide) ?_
      exact ih _ _ _ _ w a0 a1 v4 v5 (lv_sub hl [2, 3, 1, 0] rfl) hf
def f_X9_isRoot_0 (S : ST) (a0 : Int32) (a1 : Int32) : Option (Int32 × ST) := oB (f_X9_within S a1 2 (a0 - (1 : Int32))) (fun (r2 : Int32) (S1 : ST) => (if r2 = 0 then some (0, S1) else f_X9_isRoot_17 FU S1 a0 a1 a1 1))
set_option maxHeartbeats 4000000 in
set_option maxRecDepth 100000 in
theorem b_X9_isRoot_0 {p : Program} {l : Launch} {e : Env} {s : State} {m : MethodId} {args : Array Value} {below : List Frame} {meth : Method} {c : Code} {x : CX} {res : Int32 × ST} (F : MF p m meth c cX9_isRoot 4 s args RX9 (some .boolean)) : ∀ (H : Heap) (locs : List Loc) (ls : Array Slot) (S : ST), WD x s S H locs → ∀ (a0 : Int32) (a1 : Int32), lv_has ls 4 [(0, .int a0), (1, .int a1)] → f_X9_isRoot_0 S a0 a1 = some res → W p l e ({ frames := 1, cells := 0, slots := 0, locals := 22 } : Room) s m args below meth c H locs 0 0 (MQ below (QI x res.2 res.1 s.heap.size) args s 0 0 (AA x s.heap.size)) (F0 m 0 ls []) := by
  intro H locs ls S w a0 a1 hl hf
  unfold f_X9_isRoot_0 at hf
  refine lv_iload_n F.1 F.2.1 dX9_isRoot_0 rfl (lv_at hl 1 rfl) ?_
  refine lv_iconst (v := 2) F.1 F.2.1 dX9_isRoot_1 (by decide) ?_
  refine lv_iload_n F.1 F.2.1 dX9_isRoot_2 rfl (lv_at hl 0 rfl) ?_
  refine lv_iconst (v := 1) F.1 F.2.1 dX9_isRoot_3 (by decide) ?_
  refine lv_isub F.1 F.2.1 dX9_isRoot_4 ?_
  obtain ⟨r2, S1, hc, hf⟩ := oi_b hf
  refine k_i0 (S' := S1) (r := r2) w (runS (As := [.int a1, .int 2, .int (a0 - (1 : Int32))]) (rest := []) F w (k_X9_within l x S a1 2 (a0 - (1 : Int32)) hc H.size) cy_X9_within q913 q914 ⟨rfl, rfl⟩ ⟨Nat.le_of_ble_eq_true rfl, Nat.le_of_ble_eq_true rfl⟩ rfl rfl hl.1 (Nat.le_of_ble_eq_true rfl) ⟨Nat.le_of_ble_eq_true rfl, Nat.le_of_ble_eq_true rfl⟩ dX9_isRoot_5) (fun H locs w => ?_)
  refine lv_if_ne (tgt := 13) F.1 F.2.1 dX9_isRoot_8 (by decide) (fun c3 => ?_) (fun c3 => ?_)
  · replace hf := oi_f hf c3
    refine lv_iload_n F.1 F.2.1 dX9_isRoot_13 rfl (lv_at hl 1 rfl) ?_
    refine lv_istore_n (lv' := [(2, .int a1), (0, .int a0), (1, .int a1)]) F.1 F.2.1 dX9_isRoot_14 rfl hl (by decide) rfl (fun ls hl => ?_)
    refine lv_iconst (v := 1) F.1 F.2.1 dX9_isRoot_15 (by decide) ?_
    refine lv_istore_n (lv' := [(3, .int 1), (2, .int a1), (0, .int a0), (1, .int a1)]) F.1 F.2.1 dX9_isRoot_16 rfl hl (by decide) rfl (fun ls hl => ?_)
    exact b_X9_isRoot_17 F FU _ _ _ _ w a0 a1 a1 1 (lv_sub hl [2, 3, 1, 0] rfl) hf
  · replace hf := oi_t hf c3
    refine lv_iconst (v := 0) F.1 F.2.1 dX9_isRoot_11 (by decide) ?_
    exact r_zret F w rfl (oi_s hf) dX9_isRoot_12
def f_X9_isRoot (S : ST) (a0 : Int32) (a1 : Int32) : Option (Int32 × ST) := f_X9_isRoot_0 S a0 a1
set_option maxHeartbeats 4000000 in
set_option maxRecDepth 100000 in
theorem k_X9_isRoot (l : Launch) (x : CX) (S : ST) (a0 : Int32) (a1 : Int32) {res : Int32 × ST} (hf : f_X9_isRoot S a0 a1 = some res) (sz : Nat) : Met l yX9_isRoot (Cond.code yX9_isRoot cX9_isRoot 4 (some .boolean) :: GW) ({ frames := 1, cells := 0, slots := 0, locals := 22 } : Room) (PC x S sz [.int a0, .int a1]) (QI x res.2 res.1 sz) 0 0 (AA x sz) := by
  refine Met.ofW (cc := cX9_isRoot) (maxL := 4) (ret := (some .boolean)) (by decide) rfl ?_
  intro p e s m args below meth c s₁ B hml hv
  obtain ⟨rfl, rfl, hPW⟩ := hv
  have F : MF p m meth c cX9_isRoot 4 s _ RX9 (some .boolean) := MF.of B hml
  have w := WD.of hPW
  have hl := lv_entry ([.int a0, .int a1]) (n := 4) (Nat.le_of_ble_eq_true rfl)
  rw [lg_entry_eq]
  generalize (lg_sl ([.int a0, .int a1]) ++ List.replicate (4 - (lg_sl ([.int a0, .int a1])).length) Slot.unset).toArray = ls at hl ⊢
  have hl : lv_has ls 4 [(0, .int a0), (1, .int a1)] := hl
  unfold f_X9_isRoot at hf
  exact b_X9_isRoot_0 F  _ _ _ _ w a0 a1 (lv_sub hl [0, 1] rfl) hf
theorem cy_X9_erdosTuran : CY yX9_erdosTuran RX9 cX9_erdosTuran 4 (some .int) 2 := ⟨q10, q1106, rfl, by decide, by decide, by decide +kernel⟩
def f_X9_erdosTuran_42 : Nat → ST → Int32 → Int32 → Int32 → Option (Int32 × ST)
  | 0, _, _, _, _ => none
  | n + 1, S, a1, a2, a3 => (if a1 ≤ a3 then oB (f_X9_becomes S a2) (fun (r3 : Int32) (S2 : ST) => oB (f_X9_lengthOf S2 a2) (fun (r5 : Int32) (S4 : ST) => some (r5, S4))) else oG (nz a1) (oV (f_X9_comes S ((((2 : Int32) * a1) * a3) + ((a3 * a3) - (a3 * a3) / a1 * a1))) (fun (S7 : ST) => oL (a3 + 1) (fun (v8 : Int32) => (f_X9_erdosTuran_42 n) S7 a1 a2 v8))))
set_option maxHeartbeats 4000000 in
set_option maxRecDepth 100000 in
theorem b_X9_erdosTuran_42 {p : Program} {l : Launch} {e : Env} {s : State} {m : MethodId} {args : Array Value} {below : List Frame} {meth : Method} {c : Code} {x : CX} {res : Int32 × ST} (F : MF p m meth c cX9_erdosTuran 4 s args RX9 (some .int)) : ∀ (n : Nat), ∀ (H : Heap) (locs : List Loc) (ls : Array Slot) (S : ST), WD x s S H locs → ∀ (a1 : Int32) (a2 : Int32) (a3 : Int32), lv_has ls 4 [(0, .ref (x.2.2 (80))), (1, .int a1), (2, .int a2), (3, .int a3)] → f_X9_erdosTuran_42 n S a1 a2 a3 = some res → W p l e ({ frames := 2, cells := 0, slots := 0, locals := 44 } : Room) s m args below meth c H locs 0 0 (MQ below (QI x res.2 res.1 s.heap.size) args s 0 0 (AA x s.heap.size)) (F0 m 42 ls []) := by
  intro n
  induction n with
  | zero =>
    intro H locs ls S w a1 a2 a3 hl hf
    have hf : (none : Option (Int32 × ST)) = some res := hf
    cases hf
  | succ n ih =>
    intro H locs ls S w a1 a2 a3 hl hf
    unfold f_X9_erdosTuran_42 at hf
    refine lv_iload_n F.1 F.2.1 dX9_erdosTuran_42 rfl (lv_at hl 3 rfl) ?_
    refine lv_iload_n F.1 F.2.1 dX9_erdosTuran_43 rfl (lv_at hl 1 rfl) ?_
    refine lv_icmp_ge (tgt := 68) F.1 F.2.1 dX9_erdosTuran_44 (by decide) (fun c1 => ?_) (fun c1 => ?_)
    · replace hf := oi_t hf c1
      refine lv_aload_n F.1 F.2.1 dX9_erdosTuran_68 rfl (lv_at hl 0 rfl) ?_
      refine lv_iload_n F.1 F.2.1 dX9_erdosTuran_69 rfl (lv_at hl 2 rfl) ?_
      obtain ⟨r3, S2, hc, hf⟩ := oi_b hf
      refine k_i0 (S' := S2) (r := r3) w (runV (As := [.int a2]) (rest := []) (kb := 80) F w (k_X9_becomes l x S a2 hc H.size) cy_X9_becomes q944 q946 qp27 ⟨rfl, rfl⟩ ⟨Nat.le_of_ble_eq_true rfl, Nat.le_of_ble_eq_true rfl⟩ (by decide) rfl rfl rfl rfl hl.1 (Nat.le_of_ble_eq_true rfl) ⟨Nat.le_of_ble_eq_true rfl, Nat.le_of_ble_eq_true rfl⟩ dX9_erdosTuran_70) (fun H locs w => ?_)
      refine lv_pop F.1 F.2.1 dX9_erdosTuran_73 rfl ?_
      refine lv_aload_n F.1 F.2.1 dX9_erdosTuran_74 rfl (lv_at hl 0 rfl) ?_
      refine lv_iload_n F.1 F.2.1 dX9_erdosTuran_75 rfl (lv_at hl 2 rfl) ?_
      obtain ⟨r5, S4, hc, hf⟩ := oi_b hf
      refine k_i0 (S' := S4) (r := r5) w (runV (As := [.int a2]) (rest := []) (kb := 80) F w (k_X9_lengthOf l x S2 a2 hc H.size) cy_X9_lengthOf q972 q974 qp28 ⟨rfl, rfl⟩ ⟨Nat.le_of_ble_eq_true rfl, Nat.le_of_ble_eq_true rfl⟩ (by decide) rfl rfl rfl rfl hl.1 (Nat.le_of_ble_eq_true rfl) ⟨Nat.le_of_ble_eq_true rfl, Nat.le_of_ble_eq_true rfl⟩ dX9_erdosTuran_76) (fun H locs w => ?_)
      exact r_iret F w (oi_s hf) dX9_erdosTuran_79
    · replace hf := oi_f hf c1
      refine lv_aload_n F.1 F.2.1 dX9_erdosTuran_47 rfl (lv_at hl 0 rfl) ?_
      refine lv_iconst (v := 2) F.1 F.2.1 dX9_erdosTuran_48 (by decide) ?_
      refine lv_iload_n F.1 F.2.1 dX9_erdosTuran_49 rfl (lv_at hl 1 rfl) ?_
      refine lv_imul F.1 F.2.1 dX9_erdosTuran_50 ?_
      refine lv_iload_n F.1 F.2.1 dX9_erdosTuran_51 rfl (lv_at hl 3 rfl) ?_
      refine lv_imul F.1 F.2.1 dX9_erdosTuran_52 ?_
      refine lv_iload_n F.1 F.2.1 dX9_erdosTuran_53 rfl (lv_at hl 3 rfl) ?_
      refine lv_iload_n F.1 F.2.1 dX9_erdosTuran_54 rfl (lv_at hl 3 rfl) ?_
      refine lv_imul F.1 F.2.1 dX9_erdosTuran_55 ?_
      refine lv_iload_n F.1 F.2.1 dX9_erdosTuran_56 rfl (lv_at hl 1 rfl) ?_
      obtain ⟨hz6, hf⟩ := oi_g hf
      refine lv_irem F.1 F.2.1 dX9_erdosTuran_57 (nz_ne hz6) ?_
      refine lv_iadd F.1 F.2.1 dX9_erdosTuran_58 ?_
      obtain ⟨S7, hc, hf⟩ := oi_v hf
      refine k_v0 (S' := S7) w (runV (As := [.int ((((2 : Int32) * a1) * a3) + ((a3 * a3) - (a3 * a3) / a1 * a1))]) (rest := []) (kb := 80) F w (k_X9_comes l x S ((((2 : Int32) * a1) * a3) + ((a3 * a3) - (a3 * a3) / a1 * a1)) hc H.size) cy_X9_comes q940 q942 qp26 ⟨rfl, rfl⟩ ⟨Nat.le_of_ble_eq_true rfl, Nat.le_of_ble_eq_true rfl⟩ (by decide) rfl rfl rfl rfl hl.1 (Nat.le_of_ble_eq_true rfl) ⟨Nat.le_of_ble_eq_true rfl, Nat.le_of_ble_eq_true rfl⟩ dX9_erdosTuran_59) (fun H locs w => ?_)
      obtain ⟨v8, e_v8⟩ : ∃ y : Int32, y = (a3 + 1) := ⟨_, rfl⟩
      replace hf := oi_l hf e_v8
      refine lv_iinc (v := v8) (lv' := [(3, .int v8), (0, .ref (x.2.2 (80))), (1, .int a1), (2, .int a2)]) F.1 F.2.1 dX9_erdosTuran_62 hl (k := 3) rfl (by rw [e_v8]; rfl) (by decide) rfl (fun ls hl => ?_)
      refine lv_goto (tgt := 42) F.1 F.2.1 dX9_erdosTuran_65 (by decide) ?_
      exact ih _ _ _ _ w a1 a2 v8 (lv_sub hl [1, 2, 3, 0] rfl) hf
def f_X9_erdosTuran_24 (S : ST) (a1 : Int32) (a2 : Int32) (as0 : Int32) : Option (Int32 × ST) := oB (f_X9_refused S as0) (fun (r2 : Int32) (S1 : ST) => (if r2 = 0 then oV (f_X9_saves S1) (fun (S4 : ST) => oV (f_X9_begins S4) (fun (S5 : ST) => f_X9_erdosTuran_42 FU S5 a1 a2 0)) else some (0, S1)))
set_option maxHeartbeats 4000000 in
set_option maxRecDepth 100000 in
theorem b_X9_erdosTuran_24 {p : Program} {l : Launch} {e : Env} {s : State} {m : MethodId} {args : Array Value} {below : List Frame} {meth : Method} {c : Code} {x : CX} {res : Int32 × ST} (F : MF p m meth c cX9_erdosTuran 4 s args RX9 (some .int)) : ∀ (H : Heap) (locs : List Loc) (ls : Array Slot) (S : ST), WD x s S H locs → ∀ (a1 : Int32) (a2 : Int32) (as0 : Int32), lv_has ls 4 [(0, .ref (x.2.2 (80))), (1, .int a1), (2, .int a2)] → f_X9_erdosTuran_24 S a1 a2 as0 = some res → W p l e ({ frames := 2, cells := 0, slots := 0, locals := 44 } : Room) s m args below meth c H locs 0 0 (MQ below (QI x res.2 res.1 s.heap.size) args s 0 0 (AA x s.heap.size)) (F0 m 24 ls [.int as0, .ref (x.2.2 (80))]) := by
  intro H locs ls S w a1 a2 as0 hl hf
  unfold f_X9_erdosTuran_24 at hf
  obtain ⟨r2, S1, hc, hf⟩ := oi_b hf
  refine k_i0 (S' := S1) (r := r2) w (runV (As := [.int as0]) (rest := []) (kb := 80) F w (k_X9_refused l x S as0 hc H.size) cy_X9_refused q902 q904 qp19 ⟨rfl, rfl⟩ ⟨Nat.le_of_ble_eq_true rfl, Nat.le_of_ble_eq_true rfl⟩ (by decide) rfl rfl rfl rfl hl.1 (Nat.le_of_ble_eq_true rfl) ⟨Nat.le_of_ble_eq_true rfl, Nat.le_of_ble_eq_true rfl⟩ dX9_erdosTuran_24) (fun H locs w => ?_)
  refine lv_if_eq (tgt := 32) F.1 F.2.1 dX9_erdosTuran_27 (by decide) (fun c3 => ?_) (fun c3 => ?_)
  · replace hf := oi_t hf c3
    refine lv_aload_n F.1 F.2.1 dX9_erdosTuran_32 rfl (lv_at hl 0 rfl) ?_
    obtain ⟨S4, hc, hf⟩ := oi_v hf
    refine k_v0 (S' := S4) w (runV (As := []) (rest := []) (kb := 80) F w (k_X9_saves l x S1 hc H.size) cy_X9_saves q928 q930 qp23 ⟨rfl, rfl⟩ ⟨Nat.le_of_ble_eq_true rfl, Nat.le_of_ble_eq_true rfl⟩ (by decide) rfl rfl rfl rfl hl.1 (Nat.le_of_ble_eq_true rfl) ⟨Nat.le_of_ble_eq_true rfl, Nat.le_of_ble_eq_true rfl⟩ dX9_erdosTuran_33) (fun H locs w => ?_)
    refine lv_aload_n F.1 F.2.1 dX9_erdosTuran_36 rfl (lv_at hl 0 rfl) ?_
    obtain ⟨S5, hc, hf⟩ := oi_v hf
    refine k_v0 (S' := S5) w (runV (As := []) (rest := []) (kb := 80) F w (k_X9_begins l x S4 hc H.size) cy_X9_begins q936 q938 qp25 ⟨rfl, rfl⟩ ⟨Nat.le_of_ble_eq_true rfl, Nat.le_of_ble_eq_true rfl⟩ (by decide) rfl rfl rfl rfl hl.1 (Nat.le_of_ble_eq_true rfl) ⟨Nat.le_of_ble_eq_true rfl, Nat.le_of_ble_eq_true rfl⟩ dX9_erdosTuran_37) (fun H locs w => ?_)
    refine lv_iconst (v := 0) F.1 F.2.1 dX9_erdosTuran_40 (by decide) ?_
    refine lv_istore_n (lv' := [(3, .int 0), (0, .ref (x.2.2 (80))), (1, .int a1), (2, .int a2)]) F.1 F.2.1 dX9_erdosTuran_41 rfl hl (by decide) rfl (fun ls hl => ?_)
    exact b_X9_erdosTuran_42 F FU _ _ _ _ w a1 a2 0 (lv_sub hl [1, 2, 3, 0] rfl) hf
  · replace hf := oi_f hf c3
    refine lv_iconst (v := 0) F.1 F.2.1 dX9_erdosTuran_30 (by decide) ?_
    exact r_iret F w (oi_s hf) dX9_erdosTuran_31
def f_X9_erdosTuran_0 (S : ST) (a1 : Int32) (a2 : Int32) : Option (Int32 × ST) := oB (f_X9_isSet S a2) (fun (r2 : Int32) (S1 : ST) => (if r2 = 0 then f_X9_erdosTuran_24 S1 a1 a2 1 else oB (f_X9_isPrime S1 a1) (fun (r5 : Int32) (S4 : ST) => (if r5 = 0 then f_X9_erdosTuran_24 S4 a1 a2 2 else f_X9_erdosTuran_24 S4 a1 a2 0))))
set_option maxHeartbeats 4000000 in
set_option maxRecDepth 100000 in
theorem b_X9_erdosTuran_0 {p : Program} {l : Launch} {e : Env} {s : State} {m : MethodId} {args : Array Value} {below : List Frame} {meth : Method} {c : Code} {x : CX} {res : Int32 × ST} (F : MF p m meth c cX9_erdosTuran 4 s args RX9 (some .int)) : ∀ (H : Heap) (locs : List Loc) (ls : Array Slot) (S : ST), WD x s S H locs → ∀ (a1 : Int32) (a2 : Int32), lv_has ls 4 [(0, .ref (x.2.2 (80))), (1, .int a1), (2, .int a2)] → f_X9_erdosTuran_0 S a1 a2 = some res → W p l e ({ frames := 2, cells := 0, slots := 0, locals := 44 } : Room) s m args below meth c H locs 0 0 (MQ below (QI x res.2 res.1 s.heap.size) args s 0 0 (AA x s.heap.size)) (F0 m 0 ls []) := by
  intro H locs ls S w a1 a2 hl hf
  unfold f_X9_erdosTuran_0 at hf
  refine lv_aload_n F.1 F.2.1 dX9_erdosTuran_0 rfl (lv_at hl 0 rfl) ?_
  refine lv_iload_n F.1 F.2.1 dX9_erdosTuran_1 rfl (lv_at hl 2 rfl) ?_
  obtain ⟨r2, S1, hc, hf⟩ := oi_b hf
  refine k_i0 (S' := S1) (r := r2) w (runS (As := [.int a2]) (rest := [.ref (x.2.2 (80))]) F w (k_X9_isSet l x S a2 hc H.size) cy_X9_isSet q910 q911 ⟨rfl, rfl⟩ ⟨Nat.le_of_ble_eq_true rfl, Nat.le_of_ble_eq_true rfl⟩ rfl rfl hl.1 (Nat.le_of_ble_eq_true rfl) ⟨Nat.le_of_ble_eq_true rfl, Nat.le_of_ble_eq_true rfl⟩ dX9_erdosTuran_2) (fun H locs w => ?_)
  refine lv_if_ne (tgt := 12) F.1 F.2.1 dX9_erdosTuran_5 (by decide) (fun c3 => ?_) (fun c3 => ?_)
  · replace hf := oi_f hf c3
    refine lv_iload_n F.1 F.2.1 dX9_erdosTuran_12 rfl (lv_at hl 1 rfl) ?_
    obtain ⟨r5, S4, hc, hf⟩ := oi_b hf
    refine k_i0 (S' := S4) (r := r5) w (runS (As := [.int a1]) (rest := [.ref (x.2.2 (80))]) F w (k_X9_isPrime l x S1 a1 hc H.size) cy_X9_isPrime q1107 q1108 ⟨rfl, rfl⟩ ⟨Nat.le_of_ble_eq_true rfl, Nat.le_of_ble_eq_true rfl⟩ rfl rfl hl.1 (Nat.le_of_ble_eq_true rfl) ⟨Nat.le_of_ble_eq_true rfl, Nat.le_of_ble_eq_true rfl⟩ dX9_erdosTuran_13) (fun H locs w => ?_)
    refine lv_if_eq (tgt := 23) F.1 F.2.1 dX9_erdosTuran_16 (by decide) (fun c6 => ?_) (fun c6 => ?_)
    · replace hf := oi_t hf c6
      refine lv_iconst (v := 2) F.1 F.2.1 dX9_erdosTuran_23 (by decide) ?_
      exact b_X9_erdosTuran_24 F  _ _ _ _ w a1 a2 2 (lv_sub hl [0, 1, 2] rfl) hf
    · replace hf := oi_f hf c6
      refine lv_iconst (v := 0) F.1 F.2.1 dX9_erdosTuran_19 (by decide) ?_
      refine lv_goto (tgt := 24) F.1 F.2.1 dX9_erdosTuran_20 (by decide) ?_
      exact b_X9_erdosTuran_24 F  _ _ _ _ w a1 a2 0 (lv_sub hl [0, 1, 2] rfl) hf
  · replace hf := oi_t hf c3
    refine lv_iconst (v := 1) F.1 F.2.1 dX9_erdosTuran_8 (by decide) ?_
    refine lv_goto (tgt := 24) F.1 F.2.1 dX9_erdosTuran_9 (by decide) ?_
    exact b_X9_erdosTuran_24 F  _ _ _ _ w a1 a2 1 (lv_sub hl [0, 1, 2] rfl) hf
def f_X9_erdosTuran (S : ST) (a1 : Int32) (a2 : Int32) : Option (Int32 × ST) := f_X9_erdosTuran_0 S a1 a2
set_option maxHeartbeats 4000000 in
set_option maxRecDepth 100000 in
theorem k_X9_erdosTuran (l : Launch) (x : CX) (S : ST) (a1 : Int32) (a2 : Int32) {res : Int32 × ST} (hf : f_X9_erdosTuran S a1 a2 = some res) (sz : Nat) : Met l yX9_erdosTuran (Cond.code yX9_erdosTuran cX9_erdosTuran 4 (some .int) :: GW) ({ frames := 2, cells := 0, slots := 0, locals := 44 } : Room) (PC x S sz [.ref (x.2.2 (80)), .int a1, .int a2]) (QI x res.2 res.1 sz) 0 0 (AA x sz) := by
  refine Met.ofW (cc := cX9_erdosTuran) (maxL := 4) (ret := (some .int)) (by decide) rfl ?_
  intro p e s m args below meth c s₁ B hml hv
  obtain ⟨rfl, rfl, hPW⟩ := hv
  have F : MF p m meth c cX9_erdosTuran 4 s _ RX9 (some .int) := MF.of B hml
  have w := WD.of hPW
  have hl := lv_entry ([.ref (x.2.2 (80)), .int a1, .int a2]) (n := 4) (Nat.le_of_ble_eq_true rfl)
  rw [lg_entry_eq]
  generalize (lg_sl ([.ref (x.2.2 (80)), .int a1, .int a2]) ++ List.replicate (4 - (lg_sl ([.ref (x.2.2 (80)), .int a1, .int a2])).length) Slot.unset).toArray = ls at hl ⊢
  have hl : lv_has ls 4 [(0, .ref (x.2.2 (80))), (1, .int a1), (2, .int a2)] := hl
  unfold f_X9_erdosTuran at hf
  exact b_X9_erdosTuran_0 F  _ _ _ _ w a1 a2 (lv_sub hl [0, 1, 2] rfl) hf
theorem cy_X9_ruzsa : CY yX9_ruzsa RX9 cX9_ruzsa 6 (some .int) 3 := ⟨q10, q1113, rfl, by decide, by decide, by decide +kernel⟩
def f_X9_ruzsa_54 : Nat → ST → Int32 → Int32 → Int32 → Int32 → Int32 → Option (Int32 × ST)
  | 0, _, _, _, _, _, _ => none
  | n + 1, S, a1, a2, a3, a4, a5 => (if a1 ≤ a5 then oB (f_X9_becomes S a3) (fun (r3 : Int32) (S2 : ST) => oG (inB 0 101) (oL (sA S2 30 (upd (ai S2 30) (Int32.toNatClampNeg 0) (a1 * (a1 - (1 : Int32))))) (fun (S5 : ST) => oB (f_X9_lengthOf S5 a3) (fun (r7 : Int32) (S6 : ST) => some (r7, S6))))) else oG (nz a1) (oL ((a4 * a2) - (a4 * a2) / a1 * a1) (fun (v9 : Int32) => oG (nz (a1 * (a1 - (1 : Int32)))) (oV (f_X9_comes S (((a1 * a5) + ((a1 - (1 : Int32)) * v9)) - ((a1 * a5) + ((a1 - (1 : Int32)) * v9)) / (a1 * (a1 - (1 : Int32))) * (a1 * (a1 - (1 : Int32))))) (fun (S11 : ST) => oL (a5 + 1) (fun (v12 : Int32) => (f_X9_ruzsa_54 n) S11 a1 a2 a3 v9 v12))))))
set_option maxHeartbeats 4000000 in
set_option maxRecDepth 100000 in
theorem b_X9_ruzsa_54 {p : Program} {l : Launch} {e : Env} {s : State} {m : MethodId} {args : Array Value} {below : List Frame} {meth : Method} {c : Code} {x : CX} {res : Int32 × ST} (F : MF p m meth c cX9_ruzsa 6 s args RX9 (some .int)) : ∀ (n : Nat), ∀ (H : Heap) (locs : List Loc) (ls : Array Slot) (S : ST), WD x s S H locs → ∀ (a1 : Int32) (a2 : Int32) (a3 : Int32) (a4 : Int32) (a5 : Int32), lv_has ls 6 [(0, .ref (x.2.2 (80))), (1, .int a1), (2, .int a2), (3, .int a3), (4, .int a4), (5, .int a5)] → f_X9_ruzsa_54 n S a1 a2 a3 a4 a5 = some res → W p l e ({ frames := 2, cells := 0, slots := 0, locals := 45 } : Room) s m args below meth c H locs 0 0 (MQ below (QI x res.2 res.1 s.heap.size) args s 0 0 (AA x s.heap.size)) (F0 m 54 ls []) := by
  intro n
  induction n with
  | zero =>
    intro H locs ls S w a1 a2 a3 a4 a5 hl hf
    have hf : (none : Option (Int32 × ST)) = some res := hf
    cases hf
  | succ n ih =>
    intro H locs ls S w a1 a2 a3 a4 a5 hl hf
    unfold f_X9_ruzsa_54 at hf
    refine lv_iload F.1 F.2.1 dX9_ruzsa_54 (lv_at hl 5 rfl) ?_
    refine lv_iload_n F.1 F.2.1 dX9_ruzsa_56 rfl (lv_at hl 1 rfl) ?_
    refine lv_icmp_ge (tgt := 95) F.1 F.2.1 dX9_ruzsa_57 (by decide) (fun c1 => ?_) (fun c1 => ?_)
    · replace hf := oi_t hf c1
      refine lv_aload_n F.1 F.2.1 dX9_ruzsa_95 rfl (lv_at hl 0 rfl) ?_
      refine lv_iload_n F.1 F.2.1 dX9_ruzsa_96 rfl (lv_at hl 3 rfl) ?_
      obtain ⟨r3, S2, hc, hf⟩ := oi_b hf
      refine k_i0 (S' := S2) (r := r3) w (runV (As := [.int a3]) (rest := []) (kb := 80) F w (k_X9_becomes l x S a3 hc H.size) cy_X9_becomes q944 q946 qp27 ⟨rfl, rfl⟩ ⟨Nat.le_of_ble_eq_true rfl, Nat.le_of_ble_eq_true rfl⟩ (by decide) rfl rfl rfl rfl hl.1 (Nat.le_of_ble_eq_true rfl) ⟨Nat.le_of_ble_eq_true rfl, Nat.le_of_ble_eq_true rfl⟩ dX9_ruzsa_97) (fun H locs w => ?_)
      refine lv_pop F.1 F.2.1 dX9_ruzsa_100 rfl ?_
      refine lv_aload_n F.1 F.2.1 dX9_ruzsa_101 rfl (lv_at hl 0 rfl) ?_
      refine g_MD_now F w q863 dX9_ruzsa_102 ?_
      refine lv_iconst (v := 0) F.1 F.2.1 dX9_ruzsa_105 (by decide) ?_
      refine lv_iload_n F.1 F.2.1 dX9_ruzsa_106 rfl (lv_at hl 1 rfl) ?_
      refine lv_iload_n F.1 F.2.1 dX9_ruzsa_107 rfl (lv_at hl 1 rfl) ?_
      refine lv_iconst (v := 1) F.1 F.2.1 dX9_ruzsa_108 (by decide) ?_
      refine lv_isub F.1 F.2.1 dX9_ruzsa_109 ?_
      refine lv_imul F.1 F.2.1 dX9_ruzsa_110 ?_
      obtain ⟨hb4, hf⟩ := oi_g hf
      refine r_iast F w (k := 81) (a := 30) (n := 101) (by decide) (fun S9 => rfl) rfl hb4 dX9_ruzsa_111 (fun H locs w => ?_)
      obtain ⟨S5, e_S5⟩ : ∃ y : ST, y = sA S2 30 (upd (ai S2 30) (Int32.toNatClampNeg 0) (a1 * (a1 - (1 : Int32)))) := ⟨_, rfl⟩
      replace w : WD x s S5 H locs := by rw [e_S5]; exact w
      replace hf := oi_l hf e_S5
      refine lv_aload_n F.1 F.2.1 dX9_ruzsa_112 rfl (lv_at hl 0 rfl) ?_
      refine lv_iload_n F.1 F.2.1 dX9_ruzsa_113 rfl (lv_at hl 3 rfl) ?_
      obtain ⟨r7, S6, hc, hf⟩ := oi_b hf
      refine k_i0 (S' := S6) (r := r7) w (runV (As := [.int a3]) (rest := []) (kb := 80) F w (k_X9_lengthOf l x S5 a3 hc H.size) cy_X9_lengthOf q972 q974 qp28 ⟨rfl, rfl⟩ ⟨Nat.le_of_ble_eq_true rfl, Nat.le_of_ble_eq_true rfl⟩ (by decide) rfl rfl rfl rfl hl.1 (Nat.le_of_ble_eq_true rfl) ⟨Nat.le_of_ble_eq_true rfl, Nat.le_of_ble_eq_true rfl⟩ dX9_ruzsa_114) (fun H locs w => ?_)
      exact r_iret F w (oi_s hf) dX9_ruzsa_117
    · replace hf := oi_f hf c1
      refine lv_iload F.1 F.2.1 dX9_ruzsa_60 (lv_at hl 4 rfl) ?_
      refine lv_iload_n F.1 F.2.1 dX9_ruzsa_62 rfl (lv_at hl 2 rfl) ?_
      refine lv_imul F.1 F.2.1 dX9_ruzsa_63 ?_
      refine lv_iload_n F.1 F.2.1 dX9_ruzsa_64 rfl (lv_at hl 1 rfl) ?_
      obtain ⟨hz8, hf⟩ := oi_g hf
      refine lv_irem F.1 F.2.1 dX9_ruzsa_65 (nz_ne hz8) ?_
      refine lv_topi (fun v9 e_v9 => ?_)
      replace hf := oi_l hf e_v9
      refine lv_istore (lv' := [(4, .int v9), (0, .ref (x.2.2 (80))), (1, .int a1), (2, .int a2), (3, .int a3), (5, .int a5)]) F.1 F.2.1 dX9_ruzsa_66 hl (by decide) rfl (fun ls hl => ?_)
      refine lv_aload_n F.1 F.2.1 dX9_ruzsa_68 rfl (lv_at hl 1 rfl) ?_
      refine lv_iload_n F.1 F.2.1 dX9_ruzsa_69 rfl (lv_at hl 2 rfl) ?_
      refine lv_iload F.1 F.2.1 dX9_ruzsa_70 (lv_at hl 5 rfl) ?_
      refine lv_imul F.1 F.2.1 dX9_ruzsa_72 ?_
      refine lv_iload_n F.1 F.2.1 dX9_ruzsa_73 rfl (lv_at hl 2 rfl) ?_
      refine lv_iconst (v := 1) F.1 F.2.1 dX9_ruzsa_74 (by decide) ?_
      refine lv_isub F.1 F.2.1 dX9_ruzsa_75 ?_
      refine lv_iload F.1 F.2.1 dX9_ruzsa_76 (lv_at hl 0 rfl) ?_
      refine lv_imul F.1 F.2.1 dX9_ruzsa_78 ?_
      refine lv_iadd F.1 F.2.1 dX9_ruzsa_79 ?_
      refine lv_iload_n F.1 F.2.1 dX9_ruzsa_80 rfl (lv_at hl 2 rfl) ?_
      refine lv_iload_n F.1 F.2.1 dX9_ruzsa_81 rfl (lv_at hl 2 rfl) ?_
      refine lv_iconst (v := 1) F.1 F.2.1 dX9_ruzsa_82 (by decide) ?_
      refine lv_isub F.1 F.2.1 dX9_ruzsa_83 ?_
      refine lv_imul F.1 F.2.1 dX9_ruzsa_84 ?_
      obtain ⟨hz10, hf⟩ := oi_g hf
      refine lv_irem F.1 F.2.1 dX9_ruzsa_85 (nz_ne hz10) ?_
      obtain ⟨S11, hc, hf⟩ := oi_v hf
      refine k_v0 (S' := S11) w (runV (As := [.int (((a1 * a5) + ((a1 - (1 : Int32)) * v9)) - ((a1 * a5) + ((a1 - (1 : Int32)) * v9)) / (a1 * (a1 - (1 : Int32))) * (a1 * (a1 - (1 : Int32))))]) (rest := []) (kb := 80) F w (k_X9_comes l x S (((a1 * a5) + ((a1 - (1 : Int32)) * v9)) - ((a1 * a5) + ((a1 - (1 : Int32)) * v9)) / (a1 * (a1 - (1 : Int32))) * (a1 * (a1 - (1 : Int32)))) hc H.size) cy_X9_comes q940 q942 qp26 ⟨rfl, rfl⟩ ⟨Nat.le_of_ble_eq_true rfl, Nat.le_of_ble_eq_true rfl⟩ (by decide) rfl rfl rfl rfl hl.1 (Nat.le_of_ble_eq_true rfl) ⟨Nat.le_of_ble_eq_true rfl, Nat.le_of_ble_eq_true rfl⟩ dX9_ruzsa_86) (fun H locs w => ?_)
      obtain ⟨v12, e_v12⟩ : ∃ y : Int32, y = (a5 + 1) := ⟨_, rfl⟩
      replace hf := oi_l hf e_v12
      refine lv_iinc (v := v12) (lv' := [(5, .int v12), (4, .int v9), (0, .ref (x.2.2 (80))), (1, .int a1), (2, .int a2), (3, .int a3)]) F.1 F.2.1 dX9_ruzsa_89 hl (k := 5) rfl (by rw [e_v12]; rfl) (by decide) rfl (fun ls hl => ?_)
      refine lv_goto (tgt := 54) F.1 F.2.1 dX9_ruzsa_92 (by decide) ?_
      exact ih _ _ _ _ w a1 a2 a3 v9 v12 (lv_sub hl [2, 3, 4, 5, 1, 0] rfl) hf
def f_X9_ruzsa_32 (S : ST) (a1 : Int32) (a2 : Int32) (a3 : Int32) (as0 : Int32) : Option (Int32 × ST) := oB (f_X9_refused S as0) (fun (r2 : Int32) (S1 : ST) => (if r2 = 0 then oV (f_X9_saves S1) (fun (S4 : ST) => oV (f_X9_begins S4) (fun (S5 : ST) => f_X9_ruzsa_54 FU S5 a1 a2 a3 1 1)) else some (0, S1)))
set_option maxHeartbeats 4000000 in
set_option maxRecDepth 100000 in
theorem b_X9_ruzsa_32 {p : Program} {l : Launch} {e : Env} {s : State} {m : MethodId} {args : Array Value} {below : List Frame} {meth : Method} {c : Code} {x : CX} {res : Int32 × ST} (F : MF p m meth c cX9_ruzsa 6 s args RX9 (some .int)) : ∀ (H : Heap) (locs : List Loc) (ls : Array Slot) (S : ST), WD x s S H locs → ∀ (a1 : Int32) (a2 : Int32) (a3 : Int32) (as0 : Int32), lv_has ls 6 [(0, .ref (x.2.2 (80))), (1, .int a1), (2, .int a2), (3, .int a3)] → f_X9_ruzsa_32 S a1 a2 a3 as0 = some res → W p l e ({ frames := 2, cells := 0, slots := 0, locals := 45 } : Room) s m args below meth c H locs 0 0 (MQ below (QI x res.2 res.1 s.heap.size) args s 0 0 (AA x s.heap.size)) (F0 m 32 ls [.int as0, .ref (x.2.2 (80))]) := by
  intro H locs ls S w a1 a2 a3 as0 hl hf
  unfold f_X9_ruzsa_32 at hf
  obtain ⟨r2, S1, hc, hf⟩ := oi_b hf
  refine k_i0 (S' := S1) (r := r2) w (runV (As := [.int as0]) (rest := []) (kb := 80) F w (k_X9_refused l x S as0 hc H.size) cy_X9_refused q902 q904 qp19 ⟨rfl, rfl⟩ ⟨Nat.le_of_ble_eq_true rfl, Nat.le_of_ble_eq_true rfl⟩ (by decide) rfl rfl rfl rfl hl.1 (Nat.le_of_ble_eq_true rfl) ⟨Nat.le_of_ble_eq_true rfl, Nat.le_of_ble_eq_true rfl⟩ dX9_ruzsa_32) (fun H locs w => ?_)
  refine lv_if_eq (tgt := 40) F.1 F.2.1 dX9_ruzsa_35 (by decide) (fun c3 => ?_) (fun c3 => ?_)
  · replace hf := oi_t hf c3
    refine lv_aload_n F.1 F.2.1 dX9_ruzsa_40 rfl (lv_at hl 0 rfl) ?_
    obtain ⟨S4, hc, hf⟩ := oi_v hf
    refine k_v0 (S' := S4) w (runV (As := []) (rest := []) (kb := 80) F w (k_X9_saves l x S1 hc H.size) cy_X9_saves q928 q930 qp23 ⟨rfl, rfl⟩ ⟨Nat.le_of_ble_eq_true rfl, Nat.le_of_ble_eq_true rfl⟩ (by decide) rfl rfl rfl rfl hl.1 (Nat.le_of_ble_eq_true rfl) ⟨Nat.le_of_ble_eq_true rfl, Nat.le_of_ble_eq_true rfl⟩ dX9_ruzsa_41) (fun H locs w => ?_)
    refine lv_aload_n F.1 F.2.1 dX9_ruzsa_44 rfl (lv_at hl 0 rfl) ?_
    obtain ⟨S5, hc, hf⟩ := oi_v hf
    refine k_v0 (S' := S5) w (runV (As := []) (rest := []) (kb := 80) F w (k_X9_begins l x S4 hc H.size) cy_X9_begins q936 q938 qp25 ⟨rfl, rfl⟩ ⟨Nat.le_of_ble_eq_true rfl, Nat.le_of_ble_eq_true rfl⟩ (by decide) rfl rfl rfl rfl hl.1 (Nat.le_of_ble_eq_true rfl) ⟨Nat.le_of_ble_eq_true rfl, Nat.le_of_ble_eq_true rfl⟩ dX9_ruzsa_45) (fun H locs w => ?_)
    refine lv_iconst (v := 1) F.1 F.2.1 dX9_ruzsa_48 (by decide) ?_
    refine lv_istore (lv' := [(4, .int 1), (0, .ref (x.2.2 (80))), (1, .int a1), (2, .int a2), (3, .int a3)]) F.1 F.2.1 dX9_ruzsa_49 hl (by decide) rfl (fun ls hl => ?_)
    refine lv_iconst (v := 1) F.1 F.2.1 dX9_ruzsa_51 (by decide) ?_
    refine lv_istore (lv' := [(5, .int 1), (4, .int 1), (0, .ref (x.2.2 (80))), (1, .int a1), (2, .int a2), (3, .int a3)]) F.1 F.2.1 dX9_ruzsa_52 hl (by decide) rfl (fun ls hl => ?_)
    exact b_X9_ruzsa_54 F FU _ _ _ _ w a1 a2 a3 1 1 (lv_sub hl [2, 3, 4, 5, 1, 0] rfl) hf
  · replace hf := oi_f hf c3
    refine lv_iconst (v := 0) F.1 F.2.1 dX9_ruzsa_38 (by decide) ?_
    exact r_iret F w (oi_s hf) dX9_ruzsa_39
def f_X9_ruzsa_31 (S : ST) (a1 : Int32) (a2 : Int32) (a3 : Int32) : Option (Int32 × ST) := f_X9_ruzsa_32 S a1 a2 a3 2
set_option maxHeartbeats 4000000 in
set_option maxRecDepth 100000 in
theorem b_X9_ruzsa_31 {p : Program} {l : Launch} {e : Env} {s : State} {m : MethodId} {args : Array Value} {below : List Frame} {meth : Method} {c : Code} {x : CX} {res : Int32 × ST} (F : MF p m meth c cX9_ruzsa 6 s args RX9 (some .int)) : ∀ (H : Heap) (locs : List Loc) (ls : Array Slot) (S : ST), WD x s S H locs → ∀ (a1 : Int32) (a2 : Int32) (a3 : Int32), lv_has ls 6 [(0, .ref (x.2.2 (80))), (1, .int a1), (2, .int a2), (3, .int a3)] → f_X9_ruzsa_31 S a1 a2 a3 = some res → W p l e ({ frames := 2, cells := 0, slots := 0, locals := 45 } : Room) s m args below meth c H locs 0 0 (MQ below (QI x res.2 res.1 s.heap.size) args s 0 0 (AA x s.heap.size)) (F0 m 31 ls [.ref (x.2.2 (80))]) := by
  intro H locs ls S w a1 a2 a3 hl hf
  unfold f_X9_ruzsa_31 at hf
  refine lv_iconst (v := 2) F.1 F.2.1 dX9_ruzsa_31 (by decide) ?_
  exact b_X9_ruzsa_32 F  _ _ _ _ w a1 a2 a3 2 (lv_sub hl [0, 1, 2, 3] rfl) hf
def f_X9_ruzsa_0 (S : ST) (a1 : Int32) (a2 : Int32) (a3 : Int32) : Option (Int32 × ST) := oB (f_X9_isSet S a3) (fun (r2 : Int32) (S1 : ST) => (if r2 = 0 then f_X9_ruzsa_32 S1 a1 a2 a3 1 else oB (f_X9_isPrime S1 a1) (fun (r5 : Int32) (S4 : ST) => (if r5 = 0 then f_X9_ruzsa_31 S4 a1 a2 a3 else oB (f_X9_isRoot S4 a1 a2) (fun (r8 : Int32) (S7 : ST) => (if r8 = 0 then f_X9_ruzsa_31 S7 a1 a2 a3 else f_X9_ruzsa_32 S7 a1 a2 a3 0))))))
set_option maxHeartbeats 4000000 in
set_option maxRecDepth 100000 in
theorem b_X9_ruzsa_0 {p : Program} {l : Launch} {e : Env} {s : State} {m : MethodId} {args : Array Value} {below : List Frame} {meth : Method} {c : Code} {x : CX} {res : Int32 × ST} (F : MF p m meth c cX9_ruzsa 6 s args RX9 (some .int)) : ∀ (H : Heap) (locs : List Loc) (ls : Array Slot) (S : ST), WD x s S H locs → ∀ (a1 : Int32) (a2 : Int32) (a3 : Int32), lv_has ls 6 [(0, .ref (x.2.2 (80))), (1, .int a1), (2, .int a2), (3, .int a3)] → f_X9_ruzsa_0 S a1 a2 a3 = some res → W p l e ({ frames := 2, cells := 0, slots := 0, locals := 45 } : Room) s m args below meth c H locs 0 0 (MQ below (QI x res.2 res.1 s.heap.size) args s 0 0 (AA x s.heap.size)) (F0 m 0 ls []) := by
  intro H locs ls S w a1 a2 a3 hl hf
  unfold f_X9_ruzsa_0 at hf
  refine lv_aload_n F.1 F.2.1 dX9_ruzsa_0 rfl (lv_at hl 0 rfl) ?_
  refine lv_iload_n F.1 F.2.1 dX9_ruzsa_1 rfl (lv_at hl 3 rfl) ?_
  obtain ⟨r2, S1, hc, hf⟩ := oi_b hf
  refine k_i0 (S' := S1) (r := r2) w (runS (As := [.int a3]) (rest := [.ref (x.2.2 (80))]) F w (k_X9_isSet l x S a3 hc H.size) cy_X9_isSet q910 q911 ⟨rfl, rfl⟩ ⟨Nat.le_of_ble_eq_true rfl, Nat.le_of_ble_eq_true rfl⟩ rfl rfl hl.1 (Nat.le_of_ble_eq_true rfl) ⟨Nat.le_of_ble_eq_true rfl, Nat.le_of_ble_eq_true rfl⟩ dX9_ruzsa_2) (fun H locs w => ?_)
  refine lv_if_ne (tgt := 12) F.1 F.2.1 dX9_ruzsa_5 (by decide) (fun c3 => ?_) (fun c3 => ?_)
  · replace hf := oi_f hf c3
    refine lv_iload_n F.1 F.2.1 dX9_ruzsa_12 rfl (lv_at hl 1 rfl) ?_
    obtain ⟨r5, S4, hc, hf⟩ := oi_b hf
    refine k_i0 (S' := S4) (r := r5) w (runS (As := [.int a1]) (rest := [.ref (x.2.2 (80))]) F w (k_X9_isPrime l x S1 a1 hc H.size) cy_X9_isPrime q1107 q1108 ⟨rfl, rfl⟩ ⟨Nat.le_of_ble_eq_true rfl, Nat.le_of_ble_eq_true rfl⟩ rfl rfl hl.1 (Nat.le_of_ble_eq_true rfl) ⟨Nat.le_of_ble_eq_true rfl, Nat.le_of_ble_eq_true rfl⟩ dX9_ruzsa_13) (fun H locs w => ?_)
    refine lv_if_eq (tgt := 31) F.1 F.2.1 dX9_ruzsa_16 (by decide) (fun c6 => ?_) (fun c6 => ?_)
    · replace hf := oi_t hf c6
      exact b_X9_ruzsa_31 F  _ _ _ _ w a1 a2 a3 (lv_sub hl [0, 1, 2, 3] rfl) hf
    · replace hf := oi_f hf c6
      refine lv_iload_n F.1 F.2.1 dX9_ruzsa_19 rfl (lv_at hl 1 rfl) ?_
      refine lv_iload_n F.1 F.2.1 dX9_ruzsa_20 rfl (lv_at hl 2 rfl) ?_
      obtain ⟨r8, S7, hc, hf⟩ := oi_b hf
      refine k_i0 (S' := S7) (r := r8) w (runS (As := [.int a1, .int a2]) (rest := [.ref (x.2.2 (80))]) F w (k_X9_isRoot l x S4 a1 a2 hc H.size) cy_X9_isRoot q1114 q1115 ⟨rfl, rfl⟩ ⟨Nat.le_of_ble_eq_true rfl, Nat.le_of_ble_eq_true rfl⟩ rfl rfl hl.1 (Nat.le_of_ble_eq_true rfl) ⟨Nat.le_of_ble_eq_true rfl, Nat.le_of_ble_eq_true rfl⟩ dX9_ruzsa_21) (fun H locs w => ?_)
      refine lv_if_eq (tgt := 31) F.1 F.2.1 dX9_ruzsa_24 (by decide) (fun c9 => ?_) (fun c9 => ?_)
      · replace hf := oi_t hf c9
        exact b_X9_ruzsa_31 F  _ _ _ _ w a1 a2 a3 (lv_sub hl [0, 1, 2, 3] rfl) hf
      · replace hf := oi_f hf c9
        refine lv_iconst (v := 0) F.1 F.2.1 dX9_ruzsa_27 (by decide) ?_
        refine lv_goto (tgt := 32) F.1 F.2.1 dX9_ruzsa_28 (by decide) ?_
        exact b_X9_ruzsa_32 F  _ _ _ _ w a1 a2 a3 0 (lv_sub hl [0, 1, 2, 3] rfl) hf
  · replace hf := oi_t hf c3
    refine lv_iconst (v := 1) F.1 F.2.1 dX9_ruzsa_8 (by decide) ?_
    refine lv_goto (tgt := 32) F.1 F.2.1 dX9_ruzsa_9 (by decide) ?_
    exact b_X9_ruzsa_32 F  _ _ _ _ w a1 a2 a3 1 (lv_sub hl [0, 1, 2, 3] rfl) hf
def f_X9_ruzsa (S : ST) (a1 : Int32) (a2 : Int32) (a3 : Int32) : Option (Int32 × ST) := f_X9_ruzsa_0 S a1 a2 a3
set_option maxHeartbeats 4000000 in
set_option maxRecDepth 100000 in
theorem k_X9_ruzsa (l : Launch) (x : CX) (S : ST) (a1 : Int32) (a2 : Int32) (a3 : Int32) {res : Int32 × ST} (hf : f_X9_ruzsa S a1 a2 a3 = some res) (sz : Nat) : Met l yX9_ruzsa (Cond.code yX9_ruzsa cX9_ruzsa 6 (some .int) :: GW) ({ frames := 2, cells := 0, slots := 0, locals := 45 } : Room) (PC x S sz [.ref (x.2.2 (80)), .int a1, .int a2, .int a3]) (QI x res.2 res.1 sz) 0 0 (AA x sz) := by
  refine Met.ofW (cc := cX9_ruzsa) (maxL := 6) (ret := (some .int)) (by decide) rfl ?_
  intro p e s m args below meth c s₁ B hml hv
  obtain ⟨rfl, rfl, hPW⟩ := hv
  have F : MF p m meth c cX9_ruzsa 6 s _ RX9 (some .int) := MF.of B hml
  have w := WD.of hPW
  have hl := lv_entry ([.ref (x.2.2 (80)), .int a1, .int a2, .int a3]) (n := 6) (Nat.le_of_ble_eq_true rfl)
  rw [lg_entry_eq]
  generalize (lg_sl ([.ref (x.2.2 (80)), .int a1, .int a2, .int a3]) ++ List.replicate (6 - (lg_sl ([.ref (x.2.2 (80)), .int a1, .int a2, .int a3])).length) Slot.unset).toArray = ls at hl ⊢
  have hl : lv_has ls 6 [(0, .ref (x.2.2 (80))), (1, .int a1), (2, .int a2), (3, .int a3)] := hl
  unfold f_X9_ruzsa at hf
  exact b_X9_ruzsa_0 F  _ _ _ _ w a1 a2 a3 (lv_sub hl [0, 1, 2, 3] rfl) hf
theorem cy_X9_residues : CY yX9_residues RX9 cX9_residues 4 (some .int) 2 := ⟨q10, q1120, rfl, by decide, by decide, by decide +kernel⟩
def f_X9_residues_42 : Nat → ST → Int32 → Int32 → Int32 → Option (Int32 × ST)
  | 0, _, _, _, _ => none
  | n + 1, S, a1, a2, a3 => (if a1 ≤ a3 then oG (inB 0 101) (oL (sA S 30 (upd (ai S 30) (Int32.toNatClampNeg 0) a1)) (fun (S3 : ST) => oB (f_X9_becomes S3 a2) (fun (r5 : Int32) (S4 : ST) => some (r5, S4)))) else oG (nz a1) (oV (f_X9_comes S ((a3 * a3) - (a3 * a3) / a1 * a1)) (fun (S7 : ST) => oL (a3 + 1) (fun (v8 : Int32) => (f_X9_residues_42 n) S7 a1 a2 v8))))
set_option maxHeartbeats 4000000 in
set_option maxRecDepth 100000 in
theorem b_X9_residues_42 {p : Program} {l : Launch} {e : Env} {s : State} {m : MethodId} {args : Array Value} {below : List Frame} {meth : Method} {c : Code} {x : CX} {res : Int32 × ST} (F : MF p m meth c cX9_residues 4 s args RX9 (some .int)) : ∀ (n : Nat), ∀ (H : Heap) (locs : List Loc) (ls : Array Slot) (S : ST), WD x s S H locs → ∀ (a1 : Int32) (a2 : Int32) (a3 : Int32), lv_has ls 4 [(0, .ref (x.2.2 (80))), (1, .int a1), (2, .int a2), (3, .int a3)] → f_X9_residues_42 n S a1 a2 a3 = some res → W p l e ({ frames := 2, cells := 0, slots := 0, locals := 44 } : Room) s m args below meth c H locs 0 0 (MQ below (QI x res.2 res.1 s.heap.size) args s 0 0 (AA x s.heap.size)) (F0 m 42 ls []) := by
  intro n
  induction n with
  | zero =>
    intro H locs ls S w a1 a2 a3 hl hf
    have hf : (none : Option (Int32 × ST)) = some res := hf
    cases hf
  | succ n ih =>
    intro H locs ls S w a1 a2 a3 hl hf
    unfold f_X9_residues_42 at hf
    refine lv_iload_n F.1 F.2.1 dX9_residues_42 rfl (lv_at hl 3 rfl) ?_
    refine lv_iload_n F.1 F.2.1 dX9_residues_43 rfl (lv_at hl 1 rfl) ?_
    refine lv_icmp_ge (tgt := 62) F.1 F.2.1 dX9_residues_44 (by decide) (fun c1 => ?_) (fun c1 => ?_)
    · replace hf := oi_t hf c1
      refine lv_aload_n F.1 F.2.1 dX9_residues_62 rfl (lv_at hl 0 rfl) ?_
      refine g_MD_now F w q863 dX9_residues_63 ?_
      refine lv_iconst (v := 0) F.1 F.2.1 dX9_residues_66 (by decide) ?_
      refine lv_iload_n F.1 F.2.1 dX9_residues_67 rfl (lv_at hl 1 rfl) ?_
      obtain ⟨hb2, hf⟩ := oi_g hf
      refine r_iast F w (k := 81) (a := 30) (n := 101) (by decide) (fun S9 => rfl) rfl hb2 dX9_residues_68 (fun H locs w => ?_)
      obtain ⟨S3, e_S3⟩ : ∃ y : ST, y = sA S 30 (upd (ai S 30) (Int32.toNatClampNeg 0) a1) := ⟨_, rfl⟩
      replace w : WD x s S3 H locs := by rw [e_S3]; exact w
      replace hf := oi_l hf e_S3
      refine lv_aload_n F.1 F.2.1 dX9_residues_69 rfl (lv_at hl 0 rfl) ?_
      refine lv_iload_n F.1 F.2.1 dX9_residues_70 rfl (lv_at hl 2 rfl) ?_
      obtain ⟨r5, S4, hc, hf⟩ := oi_b hf
      refine k_i0 (S' := S4) (r := r5) w (runV (As := [.int a2]) (rest := []) (kb := 80) F w (k_X9_becomes l x S3 a2 hc H.size) cy_X9_becomes q944 q946 qp27 ⟨rfl, rfl⟩ ⟨Nat.le_of_ble_eq_true rfl, Nat.le_of_ble_eq_true rfl⟩ (by decide) rfl rfl rfl rfl hl.1 (Nat.le_of_ble_eq_true rfl) ⟨Nat.le_of_ble_eq_true rfl, Nat.le_of_ble_eq_true rfl⟩ dX9_residues_71) (fun H locs w => ?_)
      exact r_iret F w (oi_s hf) dX9_residues_74
    · replace hf := oi_f hf c1
      refine lv_aload_n F.1 F.2.1 dX9_residues_47 rfl (lv_at hl 0 rfl) ?_
      refine lv_iload_n F.1 F.2.1 dX9_residues_48 rfl (lv_at hl 3 rfl) ?_
      refine lv_iload_n F.1 F.2.1 dX9_residues_49 rfl (lv_at hl 3 rfl) ?_
      refine lv_imul F.1 F.2.1 dX9_residues_50 ?_
      refine lv_iload_n F.1 F.2.1 dX9_residues_51 rfl (lv_at hl 1 rfl) ?_
      obtain ⟨hz6, hf⟩ := oi_g hf
      refine lv_irem F.1 F.2.1 dX9_residues_52 (nz_ne hz6) ?_
      obtain ⟨S7, hc, hf⟩ := oi_v hf
      refine k_v0 (S' := S7) w (runV (As := [.int ((a3 * a3) - (a3 * a3) / a1 * a1)]) (rest := []) (kb := 80) F w (k_X9_comes l x S ((a3 * a3) - (a3 * a3) / a1 * a1) hc H.size) cy_X9_comes q940 q942 qp26 ⟨rfl, rfl⟩ ⟨Nat.le_of_ble_eq_true rfl, Nat.le_of_ble_eq_true rfl⟩ (by decide) rfl rfl rfl rfl hl.1 (Nat.le_of_ble_eq_true rfl) ⟨Nat.le_of_ble_eq_true rfl, Nat.le_of_ble_eq_true rfl⟩ dX9_residues_53) (fun H locs w => ?_)
      obtain ⟨v8, e_v8⟩ : ∃ y : Int32, y = (a3 + 1) := ⟨_, rfl⟩
      replace hf := oi_l hf e_v8
      refine lv_iinc (v := v8) (lv' := [(3, .int v8), (0, .ref (x.2.2 (80))), (1, .int a1), (2, .int a2)]) F.1 F.2.1 dX9_residues_56 hl (k := 3) rfl (by rw [e_v8]; rfl) (by decide) rfl (fun ls hl => ?_)
      refine lv_goto (tgt := 42) F.1 F.2.1 dX9_residues_59 (by decide) ?_
      exact ih _ _ _ _ w a1 a2 v8 (lv_sub hl [1, 2, 3, 0] rfl) hf
def f_X9_residues_24 (S : ST) (a1 : Int32) (a2 : Int32) (as0 : Int32) : Option (Int32 × ST) := oB (f_X9_refused S as0) (fun (r2 : Int32) (S1 : ST) => (if r2 = 0 then oV (f_X9_saves S1) (fun (S4 : ST) => oV (f_X9_begins S4) (fun (S5 : ST) => f_X9_residues_42 FU S5 a1 a2 1)) else some (0, S1)))
set_option maxHeartbeats 4000000 in
set_option maxRecDepth 100000 in
theorem b_X9_residues_24 {p : Program} {l : Launch} {e : Env} {s : State} {m : MethodId} {args : Array Value} {below : List Frame} {meth : Method} {c : Code} {x : CX} {res : Int32 × ST} (F : MF p m meth c cX9_residues 4 s args RX9 (some .int)) : ∀ (H : Heap) (locs : List Loc) (ls : Array Slot) (S : ST), WD x s S H locs → ∀ (a1 : Int32) (a2 : Int32) (as0 : Int32), lv_has ls 4 [(0, .ref (x.2.2 (80))), (1, .int a1), (2, .int a2)] → f_X9_residues_24 S a1 a2 as0 = some res → W p l e ({ frames := 2, cells := 0, slots := 0, locals := 44 } : Room) s m args below meth c H locs 0 0 (MQ below (QI x res.2 res.1 s.heap.size) args s 0 0 (AA x s.heap.size)) (F0 m 24 ls [.int as0, .ref (x.2.2 (80))]) := by
  intro H locs ls S w a1 a2 as0 hl hf
  unfold f_X9_residues_24 at hf
  obtain ⟨r2, S1, hc, hf⟩ := oi_b hf
  refine k_i0 (S' := S1) (r := r2) w (runV (As := [.int as0]) (rest := []) (kb := 80) F w (k_X9_refused l x S as0 hc H.size) cy_X9_refused q902 q904 qp19 ⟨rfl, rfl⟩ ⟨Nat.le_of_ble_eq_true rfl, Nat.le_of_ble_eq_true rfl⟩ (by decide) rfl rfl rfl rfl hl.1 (Nat.le_of_ble_eq_true rfl) ⟨Nat.le_of_ble_eq_true rfl, Nat.le_of_ble_eq_true rfl⟩ dX9_residues_24) (fun H locs w => ?_)
  refine lv_if_eq (tgt := 32) F.1 F.2.1 dX9_residues_27 (by decide) (fun c3 => ?_) (fun c3 => ?_)
  · replace hf := oi_t hf c3
    refine lv_aload_n F.1 F.2.1 dX9_residues_32 rfl (lv_at hl 0 rfl) ?_
    obtain ⟨S4, hc, hf⟩ := oi_v hf
    refine k_v0 (S' := S4) w (runV (As := []) (rest := []) (kb := 80) F w (k_X9_saves l x S1 hc H.size) cy_X9_saves q928 q930 qp23 ⟨rfl, rfl⟩ ⟨Nat.le_of_ble_eq_true rfl, Nat.le_of_ble_eq_true rfl⟩ (by decide) rfl rfl rfl rfl hl.1 (Nat.le_of_ble_eq_true rfl) ⟨Nat.le_of_ble_eq_true rfl, Nat.le_of_ble_eq_true rfl⟩ dX9_residues_33) (fun H locs w => ?_)
    refine lv_aload_n F.1 F.2.1 dX9_residues_36 rfl (lv_at hl 0 rfl) ?_
    obtain ⟨S5, hc, hf⟩ := oi_v hf
    refine k_v0 (S' := S5) w (runV (As := []) (rest := []) (kb := 80) F w (k_X9_begins l x S4 hc H.size) cy_X9_begins q936 q938 qp25 ⟨rfl, rfl⟩ ⟨Nat.le_of_ble_eq_true rfl, Nat.le_of_ble_eq_true rfl⟩ (by decide) rfl rfl rfl rfl hl.1 (Nat.le_of_ble_eq_true rfl) ⟨Nat.le_of_ble_eq_true rfl, Nat.le_of_ble_eq_true rfl⟩ dX9_residues_37) (fun H locs w => ?_)
    refine lv_iconst (v := 1) F.1 F.2.1 dX9_residues_40 (by decide) ?_
    refine lv_istore_n (lv' := [(3, .int 1), (0, .ref (x.2.2 (80))), (1, .int a1), (2, .int a2)]) F.1 F.2.1 dX9_residues_41 rfl hl (by decide) rfl (fun ls hl => ?_)
    exact b_X9_residues_42 F FU _ _ _ _ w a1 a2 1 (lv_sub hl [1, 2, 3, 0] rfl) hf
  · replace hf := oi_f hf c3
    refine lv_iconst (v := 0) F.1 F.2.1 dX9_residues_30 (by decide) ?_
    exact r_iret F w (oi_s hf) dX9_residues_31
def f_X9_residues_0 (S : ST) (a1 : Int32) (a2 : Int32) : Option (Int32 × ST) := oB (f_X9_isSet S a2) (fun (r2 : Int32) (S1 : ST) => (if r2 = 0 then f_X9_residues_24 S1 a1 a2 1 else oB (f_X9_isPrime S1 a1) (fun (r5 : Int32) (S4 : ST) => (if r5 = 0 then f_X9_residues_24 S4 a1 a2 2 else f_X9_residues_24 S4 a1 a2 0))))
set_option maxHeartbeats 4000000 in
set_option maxRecDepth 100000 in
theorem b_X9_residues_0 {p : Program} {l : Launch} {e : Env} {s : State} {m : MethodId} {args : Array Value} {below : List Frame} {meth : Method} {c : Code} {x : CX} {res : Int32 × ST} (F : MF p m meth c cX9_residues 4 s args RX9 (some .int)) : ∀ (H : Heap) (locs : List Loc) (ls : Array Slot) (S : ST), WD x s S H locs → ∀ (a1 : Int32) (a2 : Int32), lv_has ls 4 [(0, .ref (x.2.2 (80))), (1, .int a1), (2, .int a2)] → f_X9_residues_0 S a1 a2 = some res → W p l e ({ frames := 2, cells := 0, slots := 0, locals := 44 } : Room) s m args below meth c H locs 0 0 (MQ below (QI x res.2 res.1 s.heap.size) args s 0 0 (AA x s.heap.size)) (F0 m 0 ls []) := by
  intro H locs ls S w a1 a2 hl hf
  unfold f_X9_residues_0 at hf
  refine lv_aload_n F.1 F.2.1 dX9_residues_0 rfl (lv_at hl 0 rfl) ?_
  refine lv_iload_n F.1 F.2.1 dX9_residues_1 rfl (lv_at hl 2 rfl) ?_
  obtain ⟨r2, S1, hc, hf⟩ := oi_b hf
  refine k_i0 (S' := S1) (r := r2) w (runS (As := [.int a2]) (rest := [.ref (x.2.2 (80))]) F w (k_X9_isSet l x S a2 hc H.size) cy_X9_isSet q910 q911 ⟨rfl, rfl⟩ ⟨Nat.le_of_ble_eq_true rfl, Nat.le_of_ble_eq_true rfl⟩ rfl rfl hl.1 (Nat.le_of_ble_eq_true rfl) ⟨Nat.le_of_ble_eq_true rfl, Nat.le_of_ble_eq_true rfl⟩ dX9_residues_2) (fun H locs w => ?_)
  refine lv_if_ne (tgt := 12) F.1 F.2.1 dX9_residues_5 (by decide) (fun c3 => ?_) (fun c3 => ?_)
  · replace hf := oi_f hf c3
    refine lv_iload_n F.1 F.2.1 dX9_residues_12 rfl (lv_at hl 1 rfl) ?_
    obtain ⟨r5, S4, hc, hf⟩ := oi_b hf
    refine k_i0 (S' := S4) (r := r5) w (runS (As := [.int a1]) (rest := [.ref (x.2.2 (80))]) F w (k_X9_isPrime l x S1 a1 hc H.size) cy_X9_isPrime q1107 q1108 ⟨rfl, rfl⟩ ⟨Nat.le_of_ble_eq_true rfl, Nat.le_of_ble_eq_true rfl⟩ rfl rfl hl.1 (Nat.le_of_ble_eq_true rfl) ⟨Nat.le_of_ble_eq_true rfl, Nat.le_of_ble_eq_true rfl⟩ dX9_residues_13) (fun H locs w => ?_)
    refine lv_if_eq (tgt := 23) F.1 F.2.1 dX9_residues_16 (by decide) (fun c6 => ?_) (fun c6 => ?_)
    · replace hf := oi_t hf c6
      refine lv_iconst (v := 2) F.1 F.2.1 dX9_residues_23 (by decide) ?_
      exact b_X9_residues_24 F  _ _ _ _ w a1 a2 2 (lv_sub hl [0, 1, 2] rfl) hf
    · replace hf := oi_f hf c6
      refine lv_iconst (v := 0) F.1 F.2.1 dX9_residues_19 (by decide) ?_
      refine lv_goto (tgt := 24) F.1 F.2.1 dX9_residues_20 (by decide) ?_
      exact b_X9_residues_24 F  _ _ _ _ w a1 a2 0 (lv_sub hl [0, 1, 2] rfl) hf
  · replace hf := oi_t hf c3
    refine lv_iconst (v := 1) F.1 F.2.1 dX9_residues_8 (by decide) ?_
    refine lv_goto (tgt := 24) F.1 F.2.1 dX9_residues_9 (by decide) ?_
    exact b_X9_residues_24 F  _ _ _ _ w a1 a2 1 (lv_sub hl [0, 1, 2] rfl) hf
def f_X9_residues (S : ST) (a1 : Int32) (a2 : Int32) : Option (Int32 × ST) := f_X9_residues_0 S a1 a2
set_option maxHeartbeats 4000000 in
set_option maxRecDepth 100000 in
theorem k_X9_residues (l : Launch) (x : CX) (S : ST) (a1 : Int32) (a2 : Int32) {res : Int32 × ST} (hf : f_X9_residues S a1 a2 = some res) (sz : Nat) : Met l yX9_residues (Cond.code yX9_residues cX9_residues 4 (some .int) :: GW) ({ frames := 2, cells := 0, slots := 0, locals := 44 } : Room) (PC x S sz [.ref (x.2.2 (80)), .int a1, .int a2]) (QI x res.2 res.1 sz) 0 0 (AA x sz) := by
  refine Met.ofW (cc := cX9_residues) (maxL := 4) (ret := (some .int)) (by decide) rfl ?_
  intro p e s m args below meth c s₁ B hml hv
  obtain ⟨rfl, rfl, hPW⟩ := hv
  have F : MF p m meth c cX9_residues 4 s _ RX9 (some .int) := MF.of B hml
  have w := WD.of hPW
  have hl := lv_entry ([.ref (x.2.2 (80)), .int a1, .int a2]) (n := 4) (Nat.le_of_ble_eq_true rfl)
  rw [lg_entry_eq]
  generalize (lg_sl ([.ref (x.2.2 (80)), .int a1, .int a2]) ++ List.replicate (4 - (lg_sl ([.ref (x.2.2 (80)), .int a1, .int a2])).length) Slot.unset).toArray = ls at hl ⊢
  have hl : lv_has ls 4 [(0, .ref (x.2.2 (80))), (1, .int a1), (2, .int a2)] := hl
  unfold f_X9_residues at hf
  exact b_X9_residues_0 F  _ _ _ _ w a1 a2 (lv_sub hl [0, 1, 2] rfl) hf
theorem cy_X9_mayCome : CY yX9_mayCome RX9 cX9_mayCome 4 (some .boolean) 1 := ⟨q10, q1132, rfl, by decide, by decide, by decide +kernel⟩
def f_X9_mayCome_37 (k4 : ST → Int32 → Int32 → Int32 → Option (Int32 × ST)) (S : ST) (a1 : Int32) (a3 : Int32) (as0 : Int32) : Option (Int32 × ST) := oL (a3 + 1) (fun (v1 : Int32) => k4 S a1 as0 v1)
set_option maxHeartbeats 4000000 in
set_option maxRecDepth 100000 in
theorem b_X9_mayCome_37 {p : Program} {l : Launch} {e : Env} {s : State} {m : MethodId} {args : Array Value} {below : List Frame} {meth : Method} {c : Code} {x : CX} {res : Int32 × ST} (F : MF p m meth c cX9_mayCome 4 s args RX9 (some .boolean)) (k4 : ST → Int32 → Int32 → Int32 → Option (Int32 × ST)) (hk4 : ∀ (H : Heap) (locs : List Loc) (ls : Array Slot) (S : ST), WD x s S H locs → ∀ (a1 : Int32) (a2 : Int32) (a3 : Int32), lv_has ls 4 [(0, .ref (x.2.2 (80))), (1, .int a1), (2, .int a2), (3, .int a3)] → k4 S a1 a2 a3 = some res → W p l e ({ frames := 0, cells := 0, slots := 0, locals := 0 } : Room) s m args below meth c H locs 0 0 (MQ below (QI x res.2 res.1 s.heap.size) args s 0 0 (AA x s.heap.size)) (F0 m 4 ls [])) : ∀ (H : Heap) (locs : List Loc) (ls : Array Slot) (S : ST), WD x s S H locs → ∀ (a1 : Int32) (a3 : Int32) (as0 : Int32), lv_has ls 4 [(0, .ref (x.2.2 (80))), (1, .int a1), (3, .int a3)] → f_X9_mayCome_37 k4 S a1 a3 as0 = some res → W p l e ({ frames := 0, cells := 0, slots := 0, locals := 0 } : Room) s m args below meth c H locs 0 0 (MQ below (QI x res.2 res.1 s.heap.size) args s 0 0 (AA x s.heap.size)) (F0 m 37 ls [.int as0]) := by
  intro H locs ls S w a1 a3 as0 hl hf
  unfold f_X9_mayCome_37 at hf
  refine lv_istore_n (lv' := [(2, .int as0), (0, .ref (x.2.2 (80))), (1, .int a1), (3, .int a3)]) F.1 F.2.1 dX9_mayCome_37 rfl hl (by decide) rfl (fun ls hl => ?_)
  obtain ⟨v1, e_v1⟩ : ∃ y : Int32, y = (a3 + 1) := ⟨_, rfl⟩
  replace hf := oi_l hf e_v1
  refine lv_iinc (v := v1) (lv' := [(3, .int v1), (2, .int as0), (0, .ref (x.2.2 (80))), (1, .int a1)]) F.1 F.2.1 dX9_mayCome_38 hl (k := 3) rfl (by rw [e_v1]; rfl) (by decide) rfl (fun ls hl => ?_)
  refine lv_goto (tgt := 4) F.1 F.2.1 dX9_mayCome_41 (by decide) ?_
  exact hk4 _ _ _ _ w a1 as0 v1 (lv_sub hl [2, 3, 1, 0] rfl) hf
def f_X9_mayCome_36 (k4 : ST → Int32 → Int32 → Int32 → Option (Int32 × ST)) (S : ST) (a1 : Int32) (a3 : Int32) : Option (Int32 × ST) := f_X9_mayCome_37 k4 S a1 a3 0
set_option maxHeartbeats 4000000 in
set_option maxRecDepth 100000 in
theorem b_X9_mayCome_36 {p : Program} {l : Launch} {e : Env} {s : State} {m : MethodId} {args : Array Value} {below : List Frame} {meth : Method} {c : Code} {x : CX} {res : Int32 × ST} (F : MF p m meth c cX9_mayCome 4 s args RX9 (some .boolean)) (k4 : ST → Int32 → Int32 → Int32 → Option (Int32 × ST)) (hk4 : ∀ (H : Heap) (locs : List Loc) (ls : Array Slot) (S : ST), WD x s S H locs → ∀ (a1 : Int32) (a2 : Int32) (a3 : Int32), lv_has ls 4 [(0, .ref (x.2.2 (80))), (1, .int a1), (2, .int a2), (3, .int a3)] → k4 S a1 a2 a3 = some res → W p l e ({ frames := 0, cells := 0, slots := 0, locals := 0 } : Room) s m args below meth c H locs 0 0 (MQ below (QI x res.2 res.1 s.heap.size) args s 0 0 (AA x s.heap.size)) (F0 m 4 ls [])) : ∀ (H : Heap) (locs : List Loc) (ls : Array Slot) (S : ST), WD x s S H locs → ∀ (a1 : Int32) (a3 : Int32), lv_has ls 4 [(0, .ref (x.2.2 (80))), (1, .int a1), (3, .int a3)] → f_X9_mayCome_36 k4 S a1 a3 = some res → W p l e ({ frames := 0, cells := 0, slots := 0, locals := 0 } : Room) s m args below meth c H locs 0 0 (MQ below (QI x res.2 res.1 s.heap.size) args s 0 0 (AA x s.heap.size)) (F0 m 36 ls []) := by
  intro H locs ls S w a1 a3 hl hf
  unfold f_X9_mayCome_36 at hf
  refine lv_iconst (v := 0) F.1 F.2.1 dX9_mayCome_36 (by decide) ?_
  exact b_X9_mayCome_37 F k4 hk4 _ _ _ _ w a1 a3 0 (lv_sub hl [0, 1, 2] rfl) hf
def f_X9_mayCome_4 : Nat → ST → Int32 → Int32 → Int32 → Option (Int32 × ST)
  | 0, _, _, _, _ => none
  | n + 1, S, a1, a2, a3 => (if (fi S 52) ≤ a3 then oG (isB a2) (some (a2, S)) else (if a2 = 0 then f_X9_mayCome_36 (f_X9_mayCome_4 n) S a1 a3 else oG (inB a3 24) (oG (inB (a1 - (ai S 32 (Int32.toNatClampNeg a3))) 2001) ((if (ai S 33 (Int32.toNatClampNeg (a1 - (ai S 32 (Int32.toNatClampNeg a3))))) = 0 then f_X9_mayCome_37 (f_X9_mayCome_4 n) S a1 a3 1 else f_X9_mayCome_36 (f_X9_mayCome_4 n) S a1 a3)))))
set_option maxHeartbeats 4000000 in
set_option maxRecDepth 100000 in
theorem b_X9_mayCome_4 {p : Program} {l : Launch} {e : Env} {s : State} {m : MethodId} {args : Array Value} {below : List Frame} {meth : Method} {c : Code} {x : CX} {res : Int32 × ST} (F : MF p m meth c cX9_mayCome 4 s args RX9 (some .boolean)) : ∀ (n : Nat), ∀ (H : Heap) (locs : List Loc) (ls : Array Slot) (S : ST), WD x s S H locs → ∀ (a1 : Int32) (a2 : Int32) (a3 : Int32), lv_has ls 4 [(0, .ref (x.2.2 (80))), (1, .int a1), (2, .int a2), (3, .int a3)] → f_X9_mayCome_4 n S a1 a2 a3 = some res → W p l e ({ frames := 0, cells := 0, slots := 0, locals := 0 } : Room) s m args below meth c H locs 0 0 (MQ below (QI x res.2 res.1 s.heap.size) args s 0 0 (AA x s.heap.size)) (F0 m 4 ls []) := by
  intro n
  induction n with
  | zero =>
    intro H locs ls S w a1 a2 a3 hl hf
    have hf : (none : Option (Int32 × ST)) = some res := hf
    cases hf
  | succ n ih =>
    intro H locs ls S w a1 a2 a3 hl hf
    unfold f_X9_mayCome_4 at hf
    refine lv_iload_n F.1 F.2.1 dX9_mayCome_4 rfl (lv_at hl 3 rfl) ?_
    refine lv_aload_n F.1 F.2.1 dX9_mayCome_5 rfl (lv_at hl 0 rfl) ?_
    refine g_MD_madeMany F w q868 dX9_mayCome_6 ?_
    refine lv_icmp_ge (tgt := 44) F.1 F.2.1 dX9_mayCome_9 (by decide) (fun c1 => ?_) (fun c1 => ?_)
    · replace hf := oi_t hf c1
      refine lv_iload_n F.1 F.2.1 dX9_mayCome_44 rfl (lv_at hl 2 rfl) ?_
      obtain ⟨hz2, hf⟩ := oi_g hf
      exact r_zret F w (isB_nar hz2) (oi_s hf) dX9_mayCome_45
    · replace hf := oi_f hf c1
      refine lv_iload_n F.1 F.2.1 dX9_mayCome_12 rfl (lv_at hl 2 rfl) ?_
      refine lv_if_eq (tgt := 36) F.1 F.2.1 dX9_mayCome_13 (by decide) (fun c3 => ?_) (fun c3 => ?_)
      · replace hf := oi_t hf c3
        exact b_X9_mayCome_36 F (f_X9_mayCome_4 n) ih _ _ _ _ w a1 a3 (lv_sub hl [0, 1, 3] rfl) hf
      · replace hf := oi_f hf c3
        refine lv_aload_n F.1 F.2.1 dX9_mayCome_16 rfl (lv_at hl 0 rfl) ?_
        refine g_MD_often F w q869 dX9_mayCome_17 ?_
        refine lv_iload_n F.1 F.2.1 dX9_mayCome_20 rfl (lv_at hl 1 rfl) ?_
        refine lv_aload_n F.1 F.2.1 dX9_mayCome_21 rfl (lv_at hl 0 rfl) ?_
        refine g_MD_made F w q867 dX9_mayCome_22 ?_
        refine lv_iload_n F.1 F.2.1 dX9_mayCome_25 rfl (lv_at hl 3 rfl) ?_
        obtain ⟨hb4, hf⟩ := oi_g hf
        refine r_iald F w (k := 83) (f := ai S 32) (by decide) rfl hb4 dX9_mayCome_26 ?_
        refine lv_isub F.1 F.2.1 dX9_mayCome_27 ?_
        obtain ⟨hb5, hf⟩ := oi_g hf
        refine r_iald F w (k := 84) (f := ai S 33) (by decide) rfl hb5 dX9_mayCome_28 ?_
        refine lv_if_ne (tgt := 36) F.1 F.2.1 dX9_mayCome_29 (by decide) (fun c6 => ?_) (fun c6 => ?_)
        · replace hf := oi_f hf c6
          exact b_X9_mayCome_36 F (f_X9_mayCome_4 n) ih _ _ _ _ w a1 a3 (lv_sub hl [0, 1, 3] rfl) hf
        · replace hf := oi_t hf c6
          refine lv_iconst (v := 1) F.1 F.2.1 dX9_mayCome_32 (by decide) ?_
          refine lv_goto (tgt := 37) F.1 F.2.1 dX9_mayCome_33 (by decide) ?_
          exact b_X9_mayCome_37 F (f_X9_mayCome_4 n) ih _ _ _ _ w a1 a3 1 (lv_sub hl [0, 1, 3] rfl) hf
def f_X9_mayCome_0 (S : ST) (a1 : Int32) : Option (Int32 × ST) := f_X9_mayCome_4 FU S a1 1 0
set_option maxHeartbeats 4000000 in
set_option maxRecDepth 100000 in
theorem b_X9_mayCome_0 {p : Program} {l : Launch} {e : Env} {s : State} {m : MethodId} {args : Array Value} {below : List Frame} {meth : Method} {c : Code} {x : CX} {res : Int32 × ST} (F : MF p m meth c cX9_mayCome 4 s args RX9 (some .boolean)) : ∀ (H : Heap) (locs : List Loc) (ls : Array Slot) (S : ST), WD x s S H locs → ∀ (a1 : Int32), lv_has ls 4 [(0, .ref (x.2.2 (80))), (1, .int a1)] → f_X9_mayCome_0 S a1 = some res → W p l e ({ frames := 0, cells := 0, slots := 0, locals := 0 } : Room) s m args below meth c H locs 0 0 (MQ below (QI x res.2 res.1 s.heap.size) args s 0 0 (AA x s.heap.size)) (F0 m 0 ls []) := by
  intro H locs ls S w a1 hl hf
  unfold f_X9_mayCome_0 at hf
  refine lv_iconst (v := 1) F.1 F.2.1 dX9_mayCome_0 (by decide) ?_
  refine lv_istore_n (lv' := [(2, .int 1), (0, .ref (x.2.2 (80))), (1, .int a1)]) F.1 F.2.1 dX9_mayCome_1 rfl hl (by decide) rfl (fun ls hl => ?_)
  refine lv_iconst (v := 0) F.1 F.2.1 dX9_mayCome_2 (by decide) ?_
  refine lv_istore_n (lv' := [(3, .int 0), (2, .int 1), (0, .ref (x.2.2 (80))), (1, .int a1)]) F.1 F.2.1 dX9_mayCome_3 rfl hl (by decide) rfl (fun ls hl => ?_)
  exact b_X9_mayCome_4 F FU _ _ _ _ w a1 1 0 (lv_sub hl [2, 3, 1, 0] rfl) hf
def f_X9_mayCome (S : ST) (a1 : Int32) : Option (Int32 × ST) := f_X9_mayCome_0 S a1
set_option maxHeartbeats 4000000 in
set_option maxRecDepth 100000 in
theorem k_X9_mayCome (l : Launch) (x : CX) (S : ST) (a1 : Int32) {res : Int32 × ST} (hf : f_X9_mayCome S a1 = some res) (sz : Nat) : Met l yX9_mayCome (Cond.code yX9_mayCome cX9_mayCome 4 (some .boolean) :: GW) ({ frames := 0, cells := 0, slots := 0, locals := 0 } : Room) (PC x S sz [.ref (x.2.2 (80)), .int a1]) (QI x res.2 res.1 sz) 0 0 (AA x sz) := by
  refine Met.ofW (cc := cX9_mayCome) (maxL := 4) (ret := (some .boolean)) (by decide) rfl ?_
  intro p e s m args below meth c s₁ B hml hv
  obtain ⟨rfl, rfl, hPW⟩ := hv
  have F : MF p m meth c cX9_mayCome 4 s _ RX9 (some .boolean) := MF.of B hml
  have w := WD.of hPW
  have hl := lv_entry ([.ref (x.2.2 (80)), .int a1]) (n := 4) (Nat.le_of_ble_eq_true rfl)
  rw [lg_entry_eq]
  generalize (lg_sl ([.ref (x.2.2 (80)), .int a1]) ++ List.replicate (4 - (lg_sl ([.ref (x.2.2 (80)), .int a1])).length) Slot.unset).toArray = ls at hl ⊢
  have hl : lv_has ls 4 [(0, .ref (x.2.2 (80))), (1, .int a1)] := hl
  unfold f_X9_mayCome at hf
  exact b_X9_mayCome_0 F  _ _ _ _ w a1 (lv_sub hl [0, 1] rfl) hf
theorem cy_X9_extendsTo : CY yX9_extendsTo RX9 cX9_extendsTo 5 (some .boolean) 2 := ⟨q10, q1128, rfl, by decide, by decide, by decide +kernel⟩
def f_X9_extendsTo_100 (k39 : ST → Int32 → Int32 → Option (Int32 × ST)) (S : ST) (a2 : Int32) (a3 : Int32) : Option (Int32 × ST) := oL (a3 + 1) (fun (v1 : Int32) => k39 S a2 v1)
set_option maxHeartbeats 4000000 in
set_option maxRecDepth 100000 in
theorem b_X9_extendsTo_100 {p : Program} {l : Launch} {e : Env} {s : State} {m : MethodId} {args : Array Value} {below : List Frame} {meth : Method} {c : Code} {x : CX} {res : Int32 × ST} (F : MF p m meth c cX9_extendsTo 5 s args RX9 (some .boolean)) (k39 : ST → Int32 → Int32 → Option (Int32 × ST)) (hk39 : ∀ (H : Heap) (locs : List Loc) (ls : Array Slot) (S : ST), WD x s S H locs → ∀ (a2 : Int32) (a3 : Int32), lv_has ls 5 [(0, .ref (x.2.2 (80))), (2, .int a2), (3, .int a3)] → k39 S a2 a3 = some res → W p l e ({ frames := 3, cells := 0, slots := 0, locals := 67 } : Room) s m args below meth c H locs 0 0 (MQ below (QI x res.2 res.1 s.heap.size) args s 0 0 (AA x s.heap.size)) (F0 m 39 ls [])) : ∀ (H : Heap) (locs : List Loc) (ls : Array Slot) (S : ST), WD x s S H locs → ∀ (a2 : Int32) (a3 : Int32), lv_has ls 5 [(0, .ref (x.2.2 (80))), (2, .int a2), (3, .int a3)] → f_X9_extendsTo_100 k39 S a2 a3 = some res → W p l e ({ frames := 3, cells := 0, slots := 0, locals := 67 } : Room) s m args below meth c H locs 0 0 (MQ below (QI x res.2 res.1 s.heap.size) args s 0 0 (AA x s.heap.size)) (F0 m 100 ls []) := by
  intro H locs ls S w a2 a3 hl hf
  unfold f_X9_extendsTo_100 at hf
  obtain ⟨v1, e_v1⟩ : ∃ y : Int32, y = (a3 + 1) := ⟨_, rfl⟩
  replace hf := oi_l hf e_v1
  refine lv_iinc (v := v1) (lv' := [(3, .int v1), (0, .ref (x.2.2 (80))), (2, .int a2)]) F.1 F.2.1 dX9_extendsTo_100 hl (k := 2) rfl (by rw [e_v1]; rfl) (by decide) rfl (fun ls hl => ?_)
  refine lv_goto (tgt := 39) F.1 F.2.1 dX9_extendsTo_103 (by decide) ?_
  exact hk39 _ _ _ _ w a2 v1 (lv_sub hl [1, 2, 0] rfl) hf
def f_X9_extendsTo_65 (k39 : ST → Int32 → Int32 → Option (Int32 × ST)) : Nat → ST → Int32 → Int32 → Int32 → Option (Int32 × ST)
  | 0, _, _, _, _ => none
  | n + 1, S, a2, a3, a4 => (if (fi S 52) ≤ a4 then oV (f_X9_comes S a3) (fun (S2 : ST) => f_X9_extendsTo_100 k39 S2 a2 a3) else oG (inB a4 24) (oG (inB (a3 - (ai S 32 (Int32.toNatClampNeg a4))) 2001) (oL (sA S 33 (upd (ai S 33) (Int32.toNatClampNeg (a3 - (ai S 32 (Int32.toNatClampNeg a4)))) 1)) (fun (S5 : ST) => oL (a4 + 1) (fun (v6 : Int32) => (f_X9_extendsTo_65 k39 n) S5 a2 a3 v6)))))
set_option maxHeartbeats 4000000 in
set_option maxRecDepth 100000 in
theorem b_X9_extendsTo_65 {p : Program} {l : Launch} {e : Env} {s : State} {m : MethodId} {args : Array Value} {below : List Frame} {meth : Method} {c : Code} {x : CX} {res : Int32 × ST} (F : MF p m meth c cX9_extendsTo 5 s args RX9 (some .boolean)) (k39 : ST → Int32 → Int32 → Option (Int32 × ST)) (hk39 : ∀ (H : Heap) (locs : List Loc) (ls : Array Slot) (S : ST), WD x s S H locs → ∀ (a2 : Int32) (a3 : Int32), lv_has ls 5 [(0, .ref (x.2.2 (80))), (2, .int a2), (3, .int a3)] → k39 S a2 a3 = some res → W p l e ({ frames := 3, cells := 0, slots := 0, locals := 67 } : Room) s m args below meth c H locs 0 0 (MQ below (QI x res.2 res.1 s.heap.size) args s 0 0 (AA x s.heap.size)) (F0 m 39 ls [])) : ∀ (n : Nat), ∀ (H : Heap) (locs : List Loc) (ls : Array Slot) (S : ST), WD x s S H locs → ∀ (a2 : Int32) (a3 : Int32) (a4 : Int32), lv_has ls 5 [(0, .ref (x.2.2 (80))), (2, .int a2), (3, .int a3), (4, .int a4)] → f_X9_extendsTo_65 k39 n S a2 a3 a4 = some res → W p l e ({ frames := 3, cells := 0, slots := 0, locals := 67 } : Room) s m args below meth c H locs 0 0 (MQ below (QI x res.2 res.1 s.heap.size) args s 0 0 (AA x s.heap.size)) (F0 m 65 ls []) := by
  intro n
  induction n with
  | zero =>
    intro H locs ls S w a2 a3 a4 hl hf
    have hf : (none : Option (Int32 × ST)) = some res := hf
    cases hf
  | succ n ih =>
    intro H locs ls S w a2 a3 a4 hl hf
    unfold f_X9_extendsTo_65 at hf
    refine lv_iload F.1 F.2.1 dX9_extendsTo_65 (lv_at hl 3 rfl) ?_
    refine lv_aload_n F.1 F.2.1 dX9_extendsTo_67 rfl (lv_at hl 0 rfl) ?_
    refine g_MD_madeMany F w q868 dX9_extendsTo_68 ?_
    refine lv_icmp_ge (tgt := 95) F.1 F.2.1 dX9_extendsTo_71 (by decide) (fun c1 => ?_) (fun c1 => ?_)
    · replace hf := oi_t hf c1
      refine lv_aload_n F.1 F.2.1 dX9_extendsTo_95 rfl (lv_at hl 0 rfl) ?_
      refine lv_iload_n F.1 F.2.1 dX9_extendsTo_96 rfl (lv_at hl 2 rfl) ?_
      obtain ⟨S2, hc, hf⟩ := oi_v hf
      refine k_v0 (S' := S2) w (runV (As := [.int a3]) (rest := []) (kb := 80) F w (k_X9_comes l x S a3 hc H.size) cy_X9_comes q940 q942 qp26 ⟨rfl, rfl⟩ ⟨Nat.le_of_ble_eq_true rfl, Nat.le_of_ble_eq_true rfl⟩ (by decide) rfl rfl rfl rfl hl.1 (Nat.le_of_ble_eq_true rfl) ⟨Nat.le_of_ble_eq_true rfl, Nat.le_of_ble_eq_true rfl⟩ dX9_extendsTo_97) (fun H locs w => ?_)
      exact b_X9_extendsTo_100 F k39 hk39 _ _ _ _ w a2 a3 (lv_sub hl [0, 1, 2] rfl) hf
    · replace hf := oi_f hf c1
      refine lv_aload_n F.1 F.2.1 dX9_extendsTo_74 rfl (lv_at hl 0 rfl) ?_
      refine g_MD_often F w q869 dX9_extendsTo_75 ?_
      refine lv_iload_n F.1 F.2.1 dX9_extendsTo_78 rfl (lv_at hl 2 rfl) ?_
      refine lv_aload_n F.1 F.2.1 dX9_extendsTo_79 rfl (lv_at hl 0 rfl) ?_
      refine g_MD_made F w q867 dX9_extendsTo_80 ?_
      refine lv_iload F.1 F.2.1 dX9_extendsTo_83 (lv_at hl 3 rfl) ?_
      obtain ⟨hb3, hf⟩ := oi_g hf
      refine r_iald F w (k := 83) (f := ai S 32) (by decide) rfl hb3 dX9_extendsTo_85 ?_
      refine lv_isub F.1 F.2.1 dX9_extendsTo_86 ?_
      refine lv_iconst (v := 1) F.1 F.2.1 dX9_extendsTo_87 (by decide) ?_
      obtain ⟨hb4, hf⟩ := oi_g hf
      refine r_iast F w (k := 84) (a := 33) (n := 2001) (by decide) (fun S9 => rfl) rfl hb4 dX9_extendsTo_88 (fun H locs w => ?_)
      obtain ⟨S5, e_S5⟩ : ∃ y : ST, y = sA S 33 (upd (ai S 33) (Int32.toNatClampNeg (a3 - (ai S 32 (Int32.toNatClampNeg a4)))) 1) := ⟨_, rfl⟩
      replace w : WD x s S5 H locs := by rw [e_S5]; exact w
      replace hf := oi_l hf e_S5
      obtain ⟨v6, e_v6⟩ : ∃ y : Int32, y = (a4 + 1) := ⟨_, rfl⟩
      replace hf := oi_l hf e_v6
      refine lv_iinc (v := v6) (lv' := [(4, .int v6), (0, .ref (x.2.2 (80))), (2, .int a2), (3, .int a3)]) F.1 F.2.1 dX9_extendsTo_89 hl (k := 3) rfl (by rw [e_v6]; rfl) (by decide) rfl (fun ls hl => ?_)
      refine lv_goto (tgt := 65) F.1 F.2.1 dX9_extendsTo_92 (by decide) ?_
      exact ih _ _ _ _ w a2 a3 v6 (lv_sub hl [1, 2, 3, 0] rfl) hf
def f_X9_extendsTo_119 (S : ST) (as0 : Int32) : Option (Int32 × ST) := oG (isB as0) (some (as0, S))
set_option maxHeartbeats 4000000 in
set_option maxRecDepth 100000 in
theorem b_X9_extendsTo_119 {p : Program} {l : Launch} {e : Env} {s : State} {m : MethodId} {args : Array Value} {below : List Frame} {meth : Method} {c : Code} {x : CX} {res : Int32 × ST} (F : MF p m meth c cX9_extendsTo 5 s args RX9 (some .boolean)) : ∀ (H : Heap) (locs : List Loc) (ls : Array Slot) (S : ST), WD x s S H locs → ∀ (as0 : Int32), lv_has ls 5 [] → f_X9_extendsTo_119 S as0 = some res → W p l e ({ frames := 3, cells := 0, slots := 0, locals := 67 } : Room) s m args below meth c H locs 0 0 (MQ below (QI x res.2 res.1 s.heap.size) args s 0 0 (AA x s.heap.size)) (F0 m 119 ls [.int as0]) := by
  intro H locs ls S w as0 hl hf
  unfold f_X9_extendsTo_119 at hf
  obtain ⟨hz1, hf⟩ := oi_g hf
  exact r_zret F w (isB_nar hz1) (oi_s hf) dX9_extendsTo_119
def f_X9_extendsTo_106 (S : ST) (a2 : Int32) : Option (Int32 × ST) := (if (fi S 52) = a2 then f_X9_extendsTo_119 S 1 else f_X9_extendsTo_119 S 0)
set_option maxHeartbeats 4000000 in
set_option maxRecDepth 100000 in
theorem b_X9_extendsTo_106 {p : Program} {l : Launch} {e : Env} {s : State} {m : MethodId} {args : Array Value} {below : List Frame} {meth : Method} {c : Code} {x : CX} {res : Int32 × ST} (F : MF p m meth c cX9_extendsTo 5 s args RX9 (some .boolean)) : ∀ (H : Heap) (locs : List Loc) (ls : Array Slot) (S : ST), WD x s S H locs → ∀ (a2 : Int32), lv_has ls 5 [(0, .ref (x.2.2 (80))), (2, .int a2)] → f_X9_extendsTo_106 S a2 = some res → W p l e ({ frames := 3, cells := 0, slots := 0, locals := 67 } : Room) s m args below meth c H locs 0 0 (MQ below (QI x res.2 res.1 s.heap.size) args s 0 0 (AA x s.heap.size)) (F0 m 106 ls []) := by
  intro H locs ls S w a2 hl hf
  unfold f_X9_extendsTo_106 at hf
  refine lv_aload_n F.1 F.2.1 dX9_extendsTo_106 rfl (lv_at hl 0 rfl) ?_
  refine g_MD_madeMany F w q868 dX9_extendsTo_107 ?_
  refine lv_iload_n F.1 F.2.1 dX9_extendsTo_110 rfl (lv_at hl 1 rfl) ?_
  refine lv_icmp_ne (tgt := 118) F.1 F.2.1 dX9_extendsTo_111 (by decide) (fun c1 => ?_) (fun c1 => ?_)
  · replace hf := oi_f hf c1
    refine lv_iconst (v := 0) F.1 F.2.1 dX9_extendsTo_118 (by decide) ?_
    exact b_X9_extendsTo_119 F  _ _ _ _ w 0 (lv_sub hl [] rfl) hf
  · replace hf := oi_t hf c1
    refine lv_iconst (v := 1) F.1 F.2.1 dX9_extendsTo_114 (by decide) ?_
    refine lv_goto (tgt := 119) F.1 F.2.1 dX9_extendsTo_115 (by decide) ?_
    exact b_X9_extendsTo_119 F  _ _ _ _ w 1 (lv_sub hl [] rfl) hf
def f_X9_extendsTo_39 : Nat → ST → Int32 → Int32 → Option (Int32 × ST)
  | 0, _, _, _ => none
  | n + 1, S, a2, a3 => (if a2 ≤ (fi S 52) then f_X9_extendsTo_106 S a2 else (if 2000 < a3 then f_X9_extendsTo_106 S a2 else oB (f_X9_mayCome S a3) (fun (r4 : Int32) (S3 : ST) => (if r4 = 0 then f_X9_extendsTo_100 (f_X9_extendsTo_39 n) S3 a2 a3 else f_X9_extendsTo_65 (f_X9_extendsTo_39 n) FU S3 a2 a3 0))))
set_option maxHeartbeats 4000000 in
set_option maxRecDepth 100000 in
theorem b_X9_extendsTo_39 {p : Program} {l : Launch} {e : Env} {s : State} {m : MethodId} {args : Array Value} {below : List Frame} {meth : Method} {c : Code} {x : CX} {res : Int32 × ST} (F : MF p m meth c cX9_extendsTo 5 s args RX9 (some .boolean)) : ∀ (n : Nat), ∀ (H : Heap) (locs : List Loc) (ls : Array Slot) (S : ST), WD x s S H locs → ∀ (a2 : Int32) (a3 : Int32), lv_has ls 5 [(0, .ref (x.2.2 (80))), (2, .int a2), (3, .int a3)] → f_X9_extendsTo_39 n S a2 a3 = some res → W p l e ({ frames := 3, cells := 0, slots := 0, locals := 67 } : Room) s m args below meth c H locs 0 0 (MQ below (QI x res.2 res.1 s.heap.size) args s 0 0 (AA x s.heap.size)) (F0 m 39 ls []) := by
  intro n
  induction n with
  | zero =>
    intro H locs ls S w a2 a3 hl hf
    have hf : (none : Option (Int32 × ST)) = some res := hf
    cases hf
  | succ n ih =>
    intro H locs ls S w a2 a3 hl hf
    unfold f_X9_extendsTo_39 at hf
    refine lv_aload_n F.1 F.2.1 dX9_extendsTo_39 rfl (lv_at hl 0 rfl) ?_
    refine g_MD_madeMany F w q868 dX9_extendsTo_40 ?_
    refine lv_iload_n F.1 F.2.1 dX9_extendsTo_43 rfl (lv_at hl 1 rfl) ?_
    refine lv_icmp_ge (tgt := 106) F.1 F.2.1 dX9_extendsTo_44 (by decide) (fun c1 => ?_) (fun c1 => ?_)
    · replace hf := oi_t hf c1
      exact b_X9_extendsTo_106 F  _ _ _ _ w a2 (lv_sub hl [0, 1] rfl) hf
    · replace hf := oi_f hf c1
      refine lv_iload_n F.1 F.2.1 dX9_extendsTo_47 rfl (lv_at hl 2 rfl) ?_
      refine lv_sipush (v := 2000) F.1 F.2.1 dX9_extendsTo_48 (by decide) ?_
      refine lv_icmp_gt (tgt := 106) F.1 F.2.1 dX9_extendsTo_51 (by decide) (fun c2 => ?_) (fun c2 => ?_)
      · replace hf := oi_t hf c2
        exact b_X9_extendsTo_106 F  _ _ _ _ w a2 (lv_sub hl [0, 1] rfl) hf
      · replace hf := oi_f hf c2
        refine lv_aload_n F.1 F.2.1 dX9_extendsTo_54 rfl (lv_at hl 0 rfl) ?_
        refine lv_iload_n F.1 F.2.1 dX9_extendsTo_55 rfl (lv_at hl 2 rfl) ?_
        obtain ⟨r4, S3, hc, hf⟩ := oi_b hf
        refine k_i0 (S' := S3) (r := r4) w (runV (As := [.int a3]) (rest := []) (kb := 80) F w (k_X9_mayCome l x S a3 hc H.size) cy_X9_mayCome q1129 q1131 qp47 ⟨rfl, rfl⟩ ⟨Nat.le_of_ble_eq_true rfl, Nat.le_of_ble_eq_true rfl⟩ (by decide) rfl rfl rfl rfl hl.1 (Nat.le_of_ble_eq_true rfl) ⟨Nat.le_of_ble_eq_true rfl, Nat.le_of_ble_eq_true rfl⟩ dX9_extendsTo_56) (fun H locs w => ?_)
        refine lv_if_eq (tgt := 100) F.1 F.2.1 dX9_extendsTo_59 (by decide) (fun c5 => ?_) (fun c5 => ?_)
        · replace hf := oi_t hf c5
          exact b_X9_extendsTo_100 F (f_X9_extendsTo_39 n) ih _ _ _ _ w a2 a3 (lv_sub hl [0, 1, 2] rfl) hf
        · replace hf := oi_f hf c5
          refine lv_iconst (v := 0) F.1 F.2.1 dX9_extendsTo_62 (by decide) ?_
          refine lv_istore (lv' := [(4, .int 0), (0, .ref (x.2.2 (80))), (2, .int a2), (3, .int a3)]) F.1 F.2.1 dX9_extendsTo_63 hl (by decide) rfl (fun ls hl => ?_)
          exact b_X9_extendsTo_65 F (f_X9_extendsTo_39 n) ih FU _ _ _ _ w a2 a3 0 (lv_sub hl [1, 2, 3, 0] rfl) hf
def f_X9_extendsTo_25 (S : ST) (a2 : Int32) : Option (Int32 × ST) := oG (inB ((fi S 52) - (1 : Int32)) 24) (oL ((ai S 32 (Int32.toNatClampNeg ((fi S 52) - (1 : Int32)))) + (1 : Int32)) (fun (v2 : Int32) => f_X9_extendsTo_39 FU S a2 v2))
set_option maxHeartbeats 4000000 in
set_option maxRecDepth 100000 in
theorem b_X9_extendsTo_25 {p : Program} {l : Launch} {e : Env} {s : State} {m : MethodId} {args : Array Value} {below : List Frame} {meth : Method} {c : Code} {x : CX} {res : Int32 × ST} (F : MF p m meth c cX9_extendsTo 5 s args RX9 (some .boolean)) : ∀ (H : Heap) (locs : List Loc) (ls : Array Slot) (S : ST), WD x s S H locs → ∀ (a2 : Int32), lv_has ls 5 [(0, .ref (x.2.2 (80))), (2, .int a2)] → f_X9_extendsTo_25 S a2 = some res → W p l e ({ frames := 3, cells := 0, slots := 0, locals := 67 } : Room) s m args below meth c H locs 0 0 (MQ below (QI x res.2 res.1 s.heap.size) args s 0 0 (AA x s.heap.size)) (F0 m 25 ls []) := by
  intro H locs ls S w a2 hl hf
  unfold f_X9_extendsTo_25 at hf
  refine lv_aload_n F.1 F.2.1 dX9_extendsTo_25 rfl (lv_at hl 0 rfl) ?_
  refine g_MD_made F w q867 dX9_extendsTo_26 ?_
  refine lv_aload_n F.1 F.2.1 dX9_extendsTo_29 rfl (lv_at hl 0 rfl) ?_
  refine g_MD_madeMany F w q868 dX9_extendsTo_30 ?_
  refine lv_iconst (v := 1) F.1 F.2.1 dX9_extendsTo_33 (by decide) ?_
  refine lv_isub F.1 F.2.1 dX9_extendsTo_34 ?_
  obtain ⟨hb1, hf⟩ := oi_g hf
  refine r_iald F w (k := 83) (f := ai S 32) (by decide) rfl hb1 dX9_extendsTo_35 ?_
  refine lv_iconst (v := 1) F.1 F.2.1 dX9_extendsTo_36 (by decide) ?_
  refine lv_iadd F.1 F.2.1 dX9_extendsTo_37 ?_
  refine lv_topi (fun v2 e_v2 => ?_)
  replace hf := oi_l hf e_v2
  refine lv_istore_n (lv' := [(3, .int v2), (0, .ref (x.2.2 (80))), (2, .int a2)]) F.1 F.2.1 dX9_extendsTo_38 rfl hl (by decide) rfl (fun ls hl => ?_)
  exact b_X9_extendsTo_39 F FU _ _ _ _ w a2 v2 (lv_sub hl [1, 2, 0] rfl) hf
def f_X9_extendsTo_0 (S : ST) (a1 : Int32) (a2 : Int32) : Option (Int32 × ST) := oV (f_X9_laysOften S ((1 : Int32) <<< (a1 &&& 31))) (fun (S1 : ST) => oV (f_X9_takes S1 a1 (-1)) (fun (S2 : ST) => (if (fi S2 52) = 0 then oV (f_X9_comes S2 0) (fun (S4 : ST) => f_X9_extendsTo_25 S4 a2) else f_X9_extendsTo_25 S2 a2)))
set_option maxHeartbeats 4000000 in
set_option maxRecDepth 100000 in
theorem b_X9_extendsTo_0 {p : Program} {l : Launch} {e : Env} {s : State} {m : MethodId} {args : Array Value} {below : List Frame} {meth : Method} {c : Code} {x : CX} {res : Int32 × ST} (F : MF p m meth c cX9_extendsTo 5 s args RX9 (some .boolean)) : ∀ (H : Heap) (locs : List Loc) (ls : Array Slot) (S : ST), WD x s S H locs → ∀ (a1 : Int32) (a2 : Int32), lv_has ls 5 [(0, .ref (x.2.2 (80))), (1, .int a1), (2, .int a2)] → f_X9_extendsTo_0 S a1 a2 = some res → W p l e ({ frames := 3, cells := 0, slots := 0, locals := 67 } : Room) s m args below meth c H locs 0 0 (MQ below (QI x res.2 res.1 s.heap.size) args s 0 0 (AA x s.heap.size)) (F0 m 0 ls []) := by
  intro H locs ls S w a1 a2 hl hf
  unfold f_X9_extendsTo_0 at hf
  refine lv_aload_n F.1 F.2.1 dX9_extendsTo_0 rfl (lv_at hl 0 rfl) ?_
  refine lv_iconst (v := 1) F.1 F.2.1 dX9_extendsTo_1 (by decide) ?_
  refine lv_iload_n F.1 F.2.1 dX9_extendsTo_2 rfl (lv_at hl 1 rfl) ?_
  refine lv_ishl F.1 F.2.1 dX9_extendsTo_3 ?_
  obtain ⟨S1, hc, hf⟩ := oi_v hf
  refine k_v0 (S' := S1) w (runV (As := [.int ((1 : Int32) <<< (a1 &&& 31))]) (rest := []) (kb := 80) F w (k_X9_laysOften l x S ((1 : Int32) <<< (a1 &&& 31)) hc H.size) cy_X9_laysOften q992 q994 qp31 ⟨rfl, rfl⟩ ⟨Nat.le_of_ble_eq_true rfl, Nat.le_of_ble_eq_true rfl⟩ (by decide) rfl rfl rfl rfl hl.1 (Nat.le_of_ble_eq_true rfl) ⟨Nat.le_of_ble_eq_true rfl, Nat.le_of_ble_eq_true rfl⟩ dX9_extendsTo_4) (fun H locs w => ?_)
  refine lv_aload_n F.1 F.2.1 dX9_extendsTo_7 rfl (lv_at hl 0 rfl) ?_
  refine lv_iload_n F.1 F.2.1 dX9_extendsTo_8 rfl (lv_at hl 1 rfl) ?_
  refine lv_iconst (v := (-1)) F.1 F.2.1 dX9_extendsTo_9 (by decide) ?_
  obtain ⟨S2, hc, hf⟩ := oi_v hf
  refine k_v0 (S' := S2) w (runV (As := [.int a1, .int (-1)]) (rest := []) (kb := 80) F w (k_X9_takes l x S1 a1 (-1) hc H.size) cy_X9_takes q932 q934 qp24 ⟨rfl, rfl⟩ ⟨Nat.le_of_ble_eq_true rfl, Nat.le_of_ble_eq_true rfl⟩ (by decide) rfl rfl rfl rfl hl.1 (Nat.le_of_ble_eq_true rfl) ⟨Nat.le_of_ble_eq_true rfl, Nat.le_of_ble_eq_true rfl⟩ dX9_extendsTo_10) (fun H locs w => ?_)
  refine lv_aload_n F.1 F.2.1 dX9_extendsTo_13 rfl (lv_at hl 0 rfl) ?_
  refine g_MD_madeMany F w q868 dX9_extendsTo_14 ?_
  refine lv_if_ne (tgt := 25) F.1 F.2.1 dX9_extendsTo_17 (by decide) (fun c3 => ?_) (fun c3 => ?_)
  · replace hf := oi_f hf c3
    exact b_X9_extendsTo_25 F  _ _ _ _ w a2 (lv_sub hl [0, 2] rfl) hf
  · replace hf := oi_t hf c3
    refine lv_aload_n F.1 F.2.1 dX9_extendsTo_20 rfl (lv_at hl 0 rfl) ?_
    refine lv_iconst (v := 0) F.1 F.2.1 dX9_extendsTo_21 (by decide) ?_
    obtain ⟨S4, hc, hf⟩ := oi_v hf
    refine k_v0 (S' := S4) w (runV (As := [.int 0]) (rest := []) (kb := 80) F w (k_X9_comes l x S2 0 hc H.size) cy_X9_comes q940 q942 qp26 ⟨rfl, rfl⟩ ⟨Nat.le_of_ble_eq_true rfl, Nat.le_of_ble_eq_true rfl⟩ (by decide) rfl rfl rfl rfl hl.1 (Nat.le_of_ble_eq_true rfl) ⟨Nat.le_of_ble_eq_true rfl, Nat.le_of_ble_eq_true rfl⟩ dX9_extendsTo_22) (fun H locs w => ?_)
    exact b_X9_extendsTo_25 F  _ _ _ _ w a2 (lv_sub hl [0, 2] rfl) hf
def f_X9_extendsTo (S : ST) (a1 : Int32) (a2 : Int32) : Option (Int32 × ST) := f_X9_extendsTo_0 S a1 a2
set_option maxHeartbeats 4000000 in
set_option maxRecDepth 100000 in
theorem k_X9_extendsTo (l : Launch) (x : CX) (S : ST) (a1 : Int32) (a2 : Int32) {res : Int32 × ST} (hf : f_X9_extendsTo S a1 a2 = some res) (sz : Nat) : Met l yX9_extendsTo (Cond.code yX9_extendsTo cX9_extendsTo 5 (some .boolean) :: GW) ({ frames := 3, cells := 0, slots := 0, locals := 67 } : Room) (PC x S sz [.ref (x.2.2 (80)), .int a1, .int a2]) (QI x res.2 res.1 sz) 0 0 (AA x sz) := by
  refine Met.ofW (cc := cX9_extendsTo) (maxL := 5) (ret := (some .boolean)) (by decide) rfl ?_
  intro p e s m args below meth c s₁ B hml hv
  obtain ⟨rfl, rfl, hPW⟩ := hv
  have F : MF p m meth c cX9_extendsTo 5 s _ RX9 (some .boolean) := MF.of B hml
  have w := WD.of hPW
  have hl := lv_entry ([.ref (x.2.2 (80)), .int a1, .int a2]) (n := 5) (Nat.le_of_ble_eq_true rfl)
  rw [lg_entry_eq]
  generalize (lg_sl ([.ref (x.2.2 (80)), .int a1, .int a2]) ++ List.replicate (5 - (lg_sl ([.ref (x.2.2 (80)), .int a1, .int a2])).length) Slot.unset).toArray = ls at hl ⊢
  have hl : lv_has ls 5 [(0, .ref (x.2.2 (80))), (1, .int a1), (2, .int a2)] := hl
  unfold f_X9_extendsTo at hf
  exact b_X9_extendsTo_0 F  _ _ _ _ w a1 a2 (lv_sub hl [0, 1, 2] rfl) hf
theorem cy_X9_extend : CY yX9_extend RX9 cX9_extend 3 (some .int) 2 := ⟨q10, q1124, rfl, by decide, by decide, by decide +kernel⟩
def f_X9_extend_59 (S : ST) (a1 : Int32) (a2 : Int32) (as0 : Int32) : Option (Int32 × ST) := oB (f_X9_refused S as0) (fun (r2 : Int32) (S1 : ST) => (if r2 = 0 then oV (f_X9_saves S1) (fun (S4 : ST) => oB (f_X9_becomes S4 a1) (fun (r6 : Int32) (S5 : ST) => oB (f_X9_markAt S5 a1 (a2 - (1 : Int32))) (fun (r8 : Int32) (S7 : ST) => some (r8, S7)))) else some (0, S1)))
set_option maxHeartbeats 4000000 in
set_option maxRecDepth 100000 in
theorem b_X9_extend_59 {p : Program} {l : Launch} {e : Env} {s : State} {m : MethodId} {args : Array Value} {below : List Frame} {meth : Method} {c : Code} {x : CX} {res : Int32 × ST} (F : MF p m meth c cX9_extend 3 s args RX9 (some .int)) : ∀ (H : Heap) (locs : List Loc) (ls : Array Slot) (S : ST), WD x s S H locs → ∀ (a1 : Int32) (a2 : Int32) (as0 : Int32), lv_has ls 3 [(0, .ref (x.2.2 (80))), (1, .int a1), (2, .int a2)] → f_X9_extend_59 S a1 a2 as0 = some res → W p l e ({ frames := 4, cells := 0, slots := 0, locals := 91 } : Room) s m args below meth c H locs 0 0 (MQ below (QI x res.2 res.1 s.heap.size) args s 0 0 (AA x s.heap.size)) (F0 m 59 ls [.int as0, .ref (x.2.2 (80))]) := by
  intro H locs ls S w a1 a2 as0 hl hf
  unfold f_X9_extend_59 at hf
  obtain ⟨r2, S1, hc, hf⟩ := oi_b hf
  refine k_i0 (S' := S1) (r := r2) w (runV (As := [.int as0]) (rest := []) (kb := 80) F w (k_X9_refused l x S as0 hc H.size) cy_X9_refused q902 q904 qp19 ⟨rfl, rfl⟩ ⟨Nat.le_of_ble_eq_true rfl, Nat.le_of_ble_eq_true rfl⟩ (by decide) rfl rfl rfl rfl hl.1 (Nat.le_of_ble_eq_true rfl) ⟨Nat.le_of_ble_eq_true rfl, Nat.le_of_ble_eq_true rfl⟩ dX9_extend_59) (fun H locs w => ?_)
  refine lv_if_eq (tgt := 67) F.1 F.2.1 dX9_extend_62 (by decide) (fun c3 => ?_) (fun c3 => ?_)
  · replace hf := oi_t hf c3
    refine lv_aload_n F.1 F.2.1 dX9_extend_67 rfl (lv_at hl 0 rfl) ?_
    obtain ⟨S4, hc, hf⟩ := oi_v hf
    refine k_v0 (S' := S4) w (runV (As := []) (rest := []) (kb := 80) F w (k_X9_saves l x S1 hc H.size) cy_X9_saves q928 q930 qp23 ⟨rfl, rfl⟩ ⟨Nat.le_of_ble_eq_true rfl, Nat.le_of_ble_eq_true rfl⟩ (by decide) rfl rfl rfl rfl hl.1 (Nat.le_of_ble_eq_true rfl) ⟨Nat.le_of_ble_eq_true rfl, Nat.le_of_ble_eq_true rfl⟩ dX9_extend_68) (fun H locs w => ?_)
    refine lv_aload_n F.1 F.2.1 dX9_extend_71 rfl (lv_at hl 0 rfl) ?_
    refine lv_iload_n F.1 F.2.1 dX9_extend_72 rfl (lv_at hl 1 rfl) ?_
    obtain ⟨r6, S5, hc, hf⟩ := oi_b hf
    refine k_i0 (S' := S5) (r := r6) w (runV (As := [.int a1]) (rest := []) (kb := 80) F w (k_X9_becomes l x S4 a1 hc H.size) cy_X9_becomes q944 q946 qp27 ⟨rfl, rfl⟩ ⟨Nat.le_of_ble_eq_true rfl, Nat.le_of_ble_eq_true rfl⟩ (by decide) rfl rfl rfl rfl hl.1 (Nat.le_of_ble_eq_true rfl) ⟨Nat.le_of_ble_eq_true rfl, Nat.le_of_ble_eq_true rfl⟩ dX9_extend_73) (fun H locs w => ?_)
    refine lv_pop F.1 F.2.1 dX9_extend_76 rfl ?_
    refine lv_aload_n F.1 F.2.1 dX9_extend_77 rfl (lv_at hl 0 rfl) ?_
    refine lv_iload_n F.1 F.2.1 dX9_extend_78 rfl (lv_at hl 1 rfl) ?_
    refine lv_iload_n F.1 F.2.1 dX9_extend_79 rfl (lv_at hl 2 rfl) ?_
    refine lv_iconst (v := 1) F.1 F.2.1 dX9_extend_80 (by decide) ?_
    refine lv_isub F.1 F.2.1 dX9_extend_81 ?_
    obtain ⟨r8, S7, hc, hf⟩ := oi_b hf
    refine k_i0 (S' := S7) (r := r8) w (runV (As := [.int a1, .int (a2 - (1 : Int32))]) (rest := []) (kb := 80) F w (k_X9_markAt l x S5 a1 (a2 - (1 : Int32)) hc H.size) cy_X9_markAt q924 q926 qp22 ⟨rfl, rfl⟩ ⟨Nat.le_of_ble_eq_true rfl, Nat.le_of_ble_eq_true rfl⟩ (by decide) rfl rfl rfl rfl hl.1 (Nat.le_of_ble_eq_true rfl) ⟨Nat.le_of_ble_eq_true rfl, Nat.le_of_ble_eq_true rfl⟩ dX9_extend_82) (fun H locs w => ?_)
    exact r_iret F w (oi_s hf) dX9_extend_85
  · replace hf := oi_f hf c3
    refine lv_iconst (v := 0) F.1 F.2.1 dX9_extend_65 (by decide) ?_
    exact r_iret F w (oi_s hf) dX9_extend_66
def f_X9_extend_54 (S : ST) (a1 : Int32) (a2 : Int32) : Option (Int32 × ST) := f_X9_extend_59 S a1 a2 3
set_option maxHeartbeats 4000000 in
set_option maxRecDepth 100000 in
theorem b_X9_extend_54 {p : Program} {l : Launch} {e : Env} {s : State} {m : MethodId} {args : Array Value} {below : List Frame} {meth : Method} {c : Code} {x : CX} {res : Int32 × ST} (F : MF p m meth c cX9_extend 3 s args RX9 (some .int)) : ∀ (H : Heap) (locs : List Loc) (ls : Array Slot) (S : ST), WD x s S H locs → ∀ (a1 : Int32) (a2 : Int32), lv_has ls 3 [(0, .ref (x.2.2 (80))), (1, .int a1), (2, .int a2)] → f_X9_extend_54 S a1 a2 = some res → W p l e ({ frames := 4, cells := 0, slots := 0, locals := 91 } : Room) s m args below meth c H locs 0 0 (MQ below (QI x res.2 res.1 s.heap.size) args s 0 0 (AA x s.heap.size)) (F0 m 54 ls [.ref (x.2.2 (80))]) := by
  intro H locs ls S w a1 a2 hl hf
  unfold f_X9_extend_54 at hf
  refine lv_iconst (v := 3) F.1 F.2.1 dX9_extend_54 (by decide) ?_
  refine lv_goto (tgt := 59) F.1 F.2.1 dX9_extend_55 (by decide) ?_
  exact b_X9_extend_59 F  _ _ _ _ w a1 a2 3 (lv_sub hl [0, 1, 2] rfl) hf
def f_X9_extend_0 (S : ST) (a1 : Int32) (a2 : Int32) : Option (Int32 × ST) := oB (f_X9_isSet S a1) (fun (r2 : Int32) (S1 : ST) => (if r2 = 0 then f_X9_extend_59 S1 a1 a2 1 else oB (f_X9_within S1 a2 1 24) (fun (r5 : Int32) (S4 : ST) => (if r5 = 0 then f_X9_extend_59 S4 a1 a2 2 else oB (f_X9_areOnce S4 ((1 : Int32) <<< (a1 &&& 31))) (fun (r8 : Int32) (S7 : ST) => (if r8 = 0 then f_X9_extend_54 S7 a1 a2 else oB (f_X9_many S7 a1) (fun (r11 : Int32) (S10 : ST) => (if a2 < r11 then f_X9_extend_54 S10 a1 a2 else oB (f_X9_extendsTo S10 a1 a2) (fun (r14 : Int32) (S13 : ST) => (if r14 = 0 then f_X9_extend_54 S13 a1 a2 else f_X9_extend_59 S13 a1 a2 0))))))))))
set_option maxHeartbeats 4000000 in
set_option maxRecDepth 100000 in
theorem b_X9_extend_0 {p : Program} {l : Launch} {e : Env} {s : State} {m : MethodId} {args : Array Value} {below : List Frame} {meth : Method} {c : Code} {x : CX} {res : Int32 × ST} (F : MF p m meth c cX9_extend 3 s args RX9 (some .int)) : ∀ (H : Heap) (locs : List Loc) (ls : Array Slot) (S : ST), WD x s S H locs → ∀ (a1 : Int32) (a2 : Int32), lv_has ls 3 [(0, .ref (x.2.2 (80))), (1, .int a1), (2, .int a2)] → f_X9_extend_0 S a1 a2 = some res → W p l e ({ frames := 4, cells := 0, slots := 0, locals := 91 } : Room) s m args below meth c H locs 0 0 (MQ below (QI x res.2 res.1 s.heap.size) args s 0 0 (AA x s.heap.size)) (F0 m 0 ls []) := by
  intro H locs ls S w a1 a2 hl hf
  unfold f_X9_extend_0 at hf
  refine lv_aload_n F.1 F.2.1 dX9_extend_0 rfl (lv_at hl 0 rfl) ?_
  refine lv_iload_n F.1 F.2.1 dX9_extend_1 rfl (lv_at hl 1 rfl) ?_
  obtain ⟨r2, S1, hc, hf⟩ := oi_b hf
  refine k_i0 (S' := S1) (r := r2) w (runS (As := [.int a1]) (rest := [.ref (x.2.2 (80))]) F w (k_X9_isSet l x S a1 hc H.size) cy_X9_isSet q910 q911 ⟨rfl, rfl⟩ ⟨Nat.le_of_ble_eq_true rfl, Nat.le_of_ble_eq_true rfl⟩ rfl rfl hl.1 (Nat.le_of_ble_eq_true rfl) ⟨Nat.le_of_ble_eq_true rfl, Nat.le_of_ble_eq_true rfl⟩ dX9_extend_2) (fun H locs w => ?_)
  refine lv_if_ne (tgt := 12) F.1 F.2.1 dX9_extend_5 (by decide) (fun c3 => ?_) (fun c3 => ?_)
  · replace hf := oi_f hf c3
    refine lv_iload_n F.1 F.2.1 dX9_extend_12 rfl (lv_at hl 2 rfl) ?_
    refine lv_iconst (v := 1) F.1 F.2.1 dX9_extend_13 (by decide) ?_
    refine lv_bipush (v := 24) F.1 F.2.1 dX9_extend_14 (by decide) ?_
    obtain ⟨r5, S4, hc, hf⟩ := oi_b hf
    refine k_i0 (S' := S4) (r := r5) w (runS (As := [.int a2, .int 1, .int 24]) (rest := [.ref (x.2.2 (80))]) F w (k_X9_within l x S1 a2 1 24 hc H.size) cy_X9_within q913 q914 ⟨rfl, rfl⟩ ⟨Nat.le_of_ble_eq_true rfl, Nat.le_of_ble_eq_true rfl⟩ rfl rfl hl.1 (Nat.le_of_ble_eq_true rfl) ⟨Nat.le_of_ble_eq_true rfl, Nat.le_of_ble_eq_true rfl⟩ dX9_extend_16) (fun H locs w => ?_)
    refine lv_if_ne (tgt := 26) F.1 F.2.1 dX9_extend_19 (by decide) (fun c6 => ?_) (fun c6 => ?_)
    · replace hf := oi_f hf c6
      refine lv_aload_n F.1 F.2.1 dX9_extend_26 rfl (lv_at hl 0 rfl) ?_
      refine lv_iconst (v := 1) F.1 F.2.1 dX9_extend_27 (by decide) ?_
      refine lv_iload_n F.1 F.2.1 dX9_extend_28 rfl (lv_at hl 1 rfl) ?_
      refine lv_ishl F.1 F.2.1 dX9_extend_29 ?_
      obtain ⟨r8, S7, hc, hf⟩ := oi_b hf
      refine k_i0 (S' := S7) (r := r8) w (runV (As := [.int ((1 : Int32) <<< (a1 &&& 31))]) (rest := [.ref (x.2.2 (80))]) (kb := 80) F w (k_X9_areOnce l x S4 ((1 : Int32) <<< (a1 &&& 31)) hc H.size) cy_X9_areOnce q988 q990 qp30 ⟨rfl, rfl⟩ ⟨Nat.le_of_ble_eq_true rfl, Nat.le_of_ble_eq_true rfl⟩ (by decide) rfl rfl rfl rfl hl.1 (Nat.le_of_ble_eq_true rfl) ⟨Nat.le_of_ble_eq_true rfl, Nat.le_of_ble_eq_true rfl⟩ dX9_extend_30) (fun H locs w => ?_)
      refine lv_if_eq (tgt := 54) F.1 F.2.1 dX9_extend_33 (by decide) (fun c9 => ?_) (fun c9 => ?_)
      · replace hf := oi_t hf c9
        exact b_X9_extend_54 F  _ _ _ _ w a1 a2 (lv_sub hl [0, 1, 2] rfl) hf
      · replace hf := oi_f hf c9
        refine lv_aload_n F.1 F.2.1 dX9_extend_36 rfl (lv_at hl 0 rfl) ?_
        refine lv_iload_n F.1 F.2.1 dX9_extend_37 rfl (lv_at hl 1 rfl) ?_
        obtain ⟨r11, S10, hc, hf⟩ := oi_b hf
        refine k_i0 (S' := S10) (r := r11) w (runV (As := [.int a1]) (rest := [.ref (x.2.2 (80))]) (kb := 80) F w (k_X9_many l x S7 a1 hc H.size) cy_X9_many q920 q922 qp21 ⟨rfl, rfl⟩ ⟨Nat.le_of_ble_eq_true rfl, Nat.le_of_ble_eq_true rfl⟩ (by decide) rfl rfl rfl rfl hl.1 (Nat.le_of_ble_eq_true rfl) ⟨Nat.le_of_ble_eq_true rfl, Nat.le_of_ble_eq_true rfl⟩ dX9_extend_38) (fun H locs w => ?_)
        refine lv_iload_n F.1 F.2.1 dX9_extend_41 rfl (lv_at hl 2 rfl) ?_
        refine lv_icmp_gt (tgt := 54) F.1 F.2.1 dX9_extend_42 (by decide) (fun c12 => ?_) (fun c12 => ?_)
        · replace hf := oi_t hf c12
          exact b_X9_extend_54 F  _ _ _ _ w a1 a2 (lv_sub hl [0, 1, 2] rfl) hf
        · replace hf := oi_f hf c12
          refine lv_aload_n F.1 F.2.1 dX9_extend_45 rfl (lv_at hl 0 rfl) ?_
          refine lv_iload_n F.1 F.2.1 dX9_extend_46 rfl (lv_at hl 1 rfl) ?_
          refine lv_iload_n F.1 F.2.1 dX9_extend_47 rfl (lv_at hl 2 rfl) ?_
          obtain ⟨r14, S13, hc, hf⟩ := oi_b hf
          refine k_i0 (S' := S13) (r := r14) w (runV (As := [.int a1, .int a2]) (rest := [.ref (x.2.2 (80))]) (kb := 80) F w (k_X9_extendsTo l x S10 a1 a2 hc H.size) cy_X9_extendsTo q1125 q1127 qp46 ⟨rfl, rfl⟩ ⟨Nat.le_of_ble_eq_true rfl, Nat.le_of_ble_eq_true rfl⟩ (by decide) rfl rfl rfl rfl hl.1 (Nat.le_of_ble_eq_true rfl) ⟨Nat.le_of_ble_eq_true rfl, Nat.le_of_ble_eq_true rfl⟩ dX9_extend_48) (fun H locs w => ?_)
          refine lv_if_ne (tgt := 58) F.1 F.2.1 dX9_extend_51 (by decide) (fun c15 => ?_) (fun c15 => ?_)
          · replace hf := oi_f hf c15
            refine lv_iconst (v := 0) F.1 F.2.1 dX9_extend_58 (by decide) ?_
            exact b_X9_extend_59 F  _ _ _ _ w a1 a2 0 (lv_sub hl [0, 1, 2] rfl) hf
          · replace hf := oi_t hf c15
            exact b_X9_extend_54 F  _ _ _ _ w a1 a2 (lv_sub hl [0, 1, 2] rfl) hf
    · replace hf := oi_t hf c6
      refine lv_iconst (v := 2) F.1 F.2.1 dX9_extend_22 (by decide) ?_
      refine lv_goto (tgt := 59) F.1 F.2.1 dX9_extend_23 (by decide) ?_
      exact b_X9_extend_59 F  _ _ _ _ w a1 a2 2 (lv_sub hl [0, 1, 2] rfl) hf
  · replace hf := oi_t hf c3
    refine lv_iconst (v := 1) F.1 F.2.1 dX9_extend_8 (by decide) ?_
    refine lv_goto (tgt := 59) F.1 F.2.1 dX9_extend_9 (by decide) ?_
    exact b_X9_extend_59 F  _ _ _ _ w a1 a2 1 (lv_sub hl [0, 1, 2] rfl) hf
def f_X9_extend (S : ST) (a1 : Int32) (a2 : Int32) : Option (Int32 × ST) := f_X9_extend_0 S a1 a2
set_option maxHeartbeats 4000000 in
set_option maxRecDepth 100000 in
theorem k_X9_extend (l : Launch) (x : CX) (S : ST) (a1 : Int32) (a2 : Int32) {res : Int32 × ST} (hf : f_X9_extend S a1 a2 = some res) (sz : Nat) : Met l yX9_extend (Cond.code yX9_extend cX9_extend 3 (some .int) :: GW) ({ frames := 4, cells := 0, slots := 0, locals := 91 } : Room) (PC x S sz [.ref (x.2.2 (80)), .int a1, .int a2]) (QI x res.2 res.1 sz) 0 0 (AA x sz) := by
  refine Met.ofW (cc := cX9_extend) (maxL := 3) (ret := (some .int)) (by decide) rfl ?_
  intro p e s m args below meth c s₁ B hml hv
  obtain ⟨rfl, rfl, hPW⟩ := hv
  have F : MF p m meth c cX9_extend 3 s _ RX9 (some .int) := MF.of B hml
  have w := WD.of hPW
  have hl := lv_entry ([.ref (x.2.2 (80)), .int a1, .int a2]) (n := 3) (Nat.le_of_ble_eq_true rfl)
  rw [lg_entry_eq]
  generalize (lg_sl ([.ref (x.2.2 (80)), .int a1, .int a2]) ++ List.replicate (3 - (lg_sl ([.ref (x.2.2 (80)), .int a1, .int a2])).length) Slot.unset).toArray = ls at hl ⊢
  have hl : lv_has ls 3 [(0, .ref (x.2.2 (80))), (1, .int a1), (2, .int a2)] := hl
  unfold f_X9_extend at hf
  exact b_X9_extend_0 F  _ _ _ _ w a1 a2 (lv_sub hl [0, 1, 2] rfl) hf
theorem cy_X9_picksFirst : CY yX9_picksFirst RX9 cX9_picksFirst 4 none 2 := ⟨q10, q1140, rfl, by decide, by decide, by decide +kernel⟩
def f_X9_picksFirst_2 : Nat → ST → Int32 → Int32 → Int32 → Option (ST)
  | 0, _, _, _, _ => none
  | n + 1, S, a1, a2, a3 => (if a1 ≤ a3 then some S else oG (inB a3 24) (oL (sA S 35 (upd (ai S 35) (Int32.toNatClampNeg a3) (a2 + a3))) (fun (S3 : ST) => oL (a3 + 1) (fun (v4 : Int32) => (f_X9_picksFirst_2 n) S3 a1 a2 v4))))
set_option maxHeartbeats 4000000 in
set_option maxRecDepth 100000 in
theorem b_X9_picksFirst_2 {p : Program} {l : Launch} {e : Env} {s : State} {m : MethodId} {args : Array Value} {below : List Frame} {meth : Method} {c : Code} {x : CX} {res : ST} (F : MF p m meth c cX9_picksFirst 4 s args RX9 none) : ∀ (n : Nat), ∀ (H : Heap) (locs : List Loc) (ls : Array Slot) (S : ST), WD x s S H locs → ∀ (a1 : Int32) (a2 : Int32) (a3 : Int32), lv_has ls 4 [(0, .ref (x.2.2 (80))), (1, .int a1), (2, .int a2), (3, .int a3)] → f_X9_picksFirst_2 n S a1 a2 a3 = some res → W p l e ({ frames := 0, cells := 0, slots := 0, locals := 0 } : Room) s m args below meth c H locs 0 0 (MQ below (QV x res s.heap.size) args s 0 0 (AA x s.heap.size)) (F0 m 2 ls []) := by
  intro n
  induction n with
  | zero =>
    intro H locs ls S w a1 a2 a3 hl hf
    have hf : (none : Option (ST)) = some res := hf
    cases hf
  | succ n ih =>
    intro H locs ls S w a1 a2 a3 hl hf
    unfold f_X9_picksFirst_2 at hf
    refine lv_iload_n F.1 F.2.1 dX9_picksFirst_2 rfl (lv_at hl 3 rfl) ?_
    refine lv_iload_n F.1 F.2.1 dX9_picksFirst_3 rfl (lv_at hl 1 rfl) ?_
    refine lv_icmp_ge (tgt := 22) F.1 F.2.1 dX9_picksFirst_4 (by decide) (fun c1 => ?_) (fun c1 => ?_)
    · replace hf := oi_t hf c1
      exact r_vret F w (oi_s hf) dX9_picksFirst_22
    · replace hf := oi_f hf c1
      refine lv_aload_n F.1 F.2.1 dX9_picksFirst_7 rfl (lv_at hl 0 rfl) ?_
      refine g_MD_pick F w q871 dX9_picksFirst_8 ?_
      refine lv_iload_n F.1 F.2.1 dX9_picksFirst_11 rfl (lv_at hl 3 rfl) ?_
      refine lv_iload_n F.1 F.2.1 dX9_picksFirst_12 rfl (lv_at hl 2 rfl) ?_
      refine lv_iload_n F.1 F.2.1 dX9_picksFirst_13 rfl (lv_at hl 3 rfl) ?_
      refine lv_iadd F.1 F.2.1 dX9_picksFirst_14 ?_
      obtain ⟨hb2, hf⟩ := oi_g hf
      refine r_iast F w (k := 86) (a := 35) (n := 24) (by decide) (fun S9 => rfl) rfl hb2 dX9_picksFirst_15 (fun H locs w => ?_)
      obtain ⟨S3, e_S3⟩ : ∃ y : ST, y = sA S 35 (upd (ai S 35) (Int32.toNatClampNeg a3) (a2 + a3)) := ⟨_, rfl⟩
      replace w : WD x s S3 H locs := by rw [e_S3]; exact w
      replace hf := oi_l hf e_S3
      obtain ⟨v4, e_v4⟩ : ∃ y : Int32, y = (a3 + 1) := ⟨_, rfl⟩
      replace hf := oi_l hf e_v4
      refine lv_iinc (v := v4) (lv' := [(3, .int v4), (0, .ref (x.2.2 (80))), (1, .int a1), (2, .int a2)]) F.1 F.2.1 dX9_picksFirst_16 hl (k := 3) rfl (by rw [e_v4]; rfl) (by decide) rfl (fun ls hl => ?_)
      refine lv_goto (tgt := 2) F.1 F.2.1 dX9_picksFirst_19 (by decide) ?_
      exact ih _ _ _ _ w a1 a2 v4 (lv_sub hl [1, 2, 3, 0] rfl) hf
def f_X9_picksFirst_0 (S : ST) (a1 : Int32) (a2 : Int32) : Option (ST) := f_X9_picksFirst_2 FU S a1 a2 0
set_option maxHeartbeats 4000000 in
set_option maxRecDepth 100000 in
theorem b_X9_picksFirst_0 {p : Program} {l : Launch} {e : Env} {s : State} {m : MethodId} {args : Array Value} {below : List Frame} {meth : Method} {c : Code} {x : CX} {res : ST} (F : MF p m meth c cX9_picksFirst 4 s args RX9 none) : ∀ (H : Heap) (locs : List Loc) (ls : Array Slot) (S : ST), WD x s S H locs → ∀ (a1 : Int32) (a2 : Int32), lv_has ls 4 [(0, .ref (x.2.2 (80))), (1, .int a1), (2, .int a2)] → f_X9_picksFirst_0 S a1 a2 = some res → W p l e ({ frames := 0, cells := 0, slots := 0, locals := 0 } : Room) s m args below meth c H locs 0 0 (MQ below (QV x res s.heap.size) args s 0 0 (AA x s.heap.size)) (F0 m 0 ls []) := by
  intro H locs ls S w a1 a2 hl hf
  unfold f_X9_picksFirst_0 at hf
  refine lv_iconst (v := 0) F.1 F.2.1 dX9_picksFirst_0 (by decide) ?_
  refine lv_istore_n (lv' := [(3, .int 0), (0, .ref (x.2.2 (80))), (1, .int a1), (2, .int a2)]) F.1 F.2.1 dX9_picksFirst_1 rfl hl (by decide) rfl (fun ls hl => ?_)
  exact b_X9_picksFirst_2 F FU _ _ _ _ w a1 a2 0 (lv_sub hl [1, 2, 3, 0] rfl) hf
def f_X9_picksFirst (S : ST) (a1 : Int32) (a2 : Int32) : Option (ST) := f_X9_picksFirst_0 S a1 a2
set_option maxHeartbeats 4000000 in
set_option maxRecDepth 100000 in
theorem k_X9_picksFirst (l : Launch) (x : CX) (S : ST) (a1 : Int32) (a2 : Int32) {res : ST} (hf : f_X9_picksFirst S a1 a2 = some res) (sz : Nat) : Met l yX9_picksFirst (Cond.code yX9_picksFirst cX9_picksFirst 4 none :: GW) ({ frames := 0, cells := 0, slots := 0, locals := 0 } : Room) (PC x S sz [.ref (x.2.2 (80)), .int a1, .int a2]) (QV x res sz) 0 0 (AA x sz) := by
  refine Met.ofW (cc := cX9_picksFirst) (maxL := 4) (ret := none) (by decide) rfl ?_
  intro p e s m args below meth c s₁ B hml hv
  obtain ⟨rfl, rfl, hPW⟩ := hv
  have F : MF p m meth c cX9_picksFirst 4 s _ RX9 none := MF.of B hml
  have w := WD.of hPW
  have hl := lv_entry ([.ref (x.2.2 (80)), .int a1, .int a2]) (n := 4) (Nat.le_of_ble_eq_true rfl)
  rw [lg_entry_eq]
  generalize (lg_sl ([.ref (x.2.2 (80)), .int a1, .int a2]) ++ List.replicate (4 - (lg_sl ([.ref (x.2.2 (80)), .int a1, .int a2])).length) Slot.unset).toArray = ls at hl ⊢
  have hl : lv_has ls 4 [(0, .ref (x.2.2 (80))), (1, .int a1), (2, .int a2)] := hl
  unfold f_X9_picksFirst at hf
  exact b_X9_picksFirst_0 F  _ _ _ _ w a1 a2 (lv_sub hl [0, 1, 2] rfl) hf
theorem cy_X9_picksNext : CY yX9_picksNext RX9 cX9_picksNext 5 (some .boolean) 2 := ⟨q10, q1152, rfl, by decide, by decide, by decide +kernel⟩
def f_X9_picksNext_51 : Nat → ST → Int32 → Int32 → Option (Int32 × ST)
  | 0, _, _, _ => none
  | n + 1, S, a1, a4 => (if a1 ≤ a4 then some (1, S) else oG (inB (a4 - (1 : Int32)) 24) (oG (inB a4 24) (oL (sA S 35 (upd (ai S 35) (Int32.toNatClampNeg a4) ((ai S 35 (Int32.toNatClampNeg (a4 - (1 : Int32)))) + (1 : Int32)))) (fun (S4 : ST) => oL (a4 + 1) (fun (v5 : Int32) => (f_X9_picksNext_51 n) S4 a1 v5)))))
set_option maxHeartbeats 4000000 in
set_option maxRecDepth 100000 in
theorem b_X9_picksNext_51 {p : Program} {l : Launch} {e : Env} {s : State} {m : MethodId} {args : Array Value} {below : List Frame} {meth : Method} {c : Code} {x : CX} {res : Int32 × ST} (F : MF p m meth c cX9_picksNext 5 s args RX9 (some .boolean)) : ∀ (n : Nat), ∀ (H : Heap) (locs : List Loc) (ls : Array Slot) (S : ST), WD x s S H locs → ∀ (a1 : Int32) (a4 : Int32), lv_has ls 5 [(0, .ref (x.2.2 (80))), (1, .int a1), (4, .int a4)] → f_X9_picksNext_51 n S a1 a4 = some res → W p l e ({ frames := 0, cells := 0, slots := 0, locals := 0 } : Room) s m args below meth c H locs 0 0 (MQ below (QI x res.2 res.1 s.heap.size) args s 0 0 (AA x s.heap.size)) (F0 m 51 ls []) := by
  intro n
  induction n with
  | zero =>
    intro H locs ls S w a1 a4 hl hf
    have hf : (none : Option (Int32 × ST)) = some res := hf
    cases hf
  | succ n ih =>
    intro H locs ls S w a1 a4 hl hf
    unfold f_X9_picksNext_51 at hf
    refine lv_iload F.1 F.2.1 dX9_picksNext_51 (lv_at hl 2 rfl) ?_
    refine lv_iload_n F.1 F.2.1 dX9_picksNext_53 rfl (lv_at hl 1 rfl) ?_
    refine lv_icmp_ge (tgt := 81) F.1 F.2.1 dX9_picksNext_54 (by decide) (fun c1 => ?_) (fun c1 => ?_)
    · replace hf := oi_t hf c1
      refine lv_iconst (v := 1) F.1 F.2.1 dX9_picksNext_81 (by decide) ?_
      exact r_zret F w rfl (oi_s hf) dX9_picksNext_82
    · replace hf := oi_f hf c1
      refine lv_aload_n F.1 F.2.1 dX9_picksNext_57 rfl (lv_at hl 0 rfl) ?_
      refine g_MD_pick F w q871 dX9_picksNext_58 ?_
      refine lv_iload F.1 F.2.1 dX9_picksNext_61 (lv_at hl 2 rfl) ?_
      refine lv_aload_n F.1 F.2.1 dX9_picksNext_63 rfl (lv_at hl 0 rfl) ?_
      refine g_MD_pick F w q871 dX9_picksNext_64 ?_
      refine lv_iload F.1 F.2.1 dX9_picksNext_67 (lv_at hl 2 rfl) ?_
      refine lv_iconst (v := 1) F.1 F.2.1 dX9_picksNext_69 (by decide) ?_
      refine lv_isub F.1 F.2.1 dX9_picksNext_70 ?_
      obtain ⟨hb2, hf⟩ := oi_g hf
      refine r_iald F w (k := 86) (f := ai S 35) (by decide) rfl hb2 dX9_picksNext_71 ?_
      refine lv_iconst (v := 1) F.1 F.2.1 dX9_picksNext_72 (by decide) ?_
      refine lv_iadd F.1 F.2.1 dX9_picksNext_73 ?_
      obtain ⟨hb3, hf⟩ := oi_g hf
      refine r_iast F w (k := 86) (a := 35) (n := 24) (by decide) (fun S9 => rfl) rfl hb3 dX9_picksNext_74 (fun H locs w => ?_)
      obtain ⟨S4, e_S4⟩ : ∃ y : ST, y = sA S 35 (upd (ai S 35) (Int32.toNatClampNeg a4) ((ai S 35 (Int32.toNatClampNeg (a4 - (1 : Int32)))) + (1 : Int32))) := ⟨_, rfl⟩
      replace w : WD x s S4 H locs := by rw [e_S4]; exact w
      replace hf := oi_l hf e_S4
      obtain ⟨v5, e_v5⟩ : ∃ y : Int32, y = (a4 + 1) := ⟨_, rfl⟩
      replace hf := oi_l hf e_v5
      refine lv_iinc (v := v5) (lv' := [(4, .int v5), (0, .ref (x.2.2 (80))), (1, .int a1)]) F.1 F.2.1 dX9_picksNext_75 hl (k := 2) rfl (by rw [e_v5]; rfl) (by decide) rfl (fun ls hl => ?_)
      refine lv_goto (tgt := 51) F.1 F.2.1 dX9_picksNext_78 (by decide) ?_
      exact ih _ _ _ _ w a1 v5 (lv_sub hl [1, 2, 0] rfl) hf
def f_X9_picksNext_30 (S : ST) (a1 : Int32) (a3 : Int32) : Option (Int32 × ST) := (if 0 ≤ a3 then oG (inB a3 24) (oG (inB a3 24) (oL (sA S 35 (upd (ai S 35) (Int32.toNatClampNeg a3) ((ai S 35 (Int32.toNatClampNeg a3)) + (1 : Int32)))) (fun (S4 : ST) => oL (a3 + (1 : Int32)) (fun (v5 : Int32) => f_X9_picksNext_51 FU S4 a1 v5)))) else some (0, S))
set_option maxHeartbeats 4000000 in
set_option maxRecDepth 100000 in
theorem b_X9_picksNext_30 {p : Program} {l : Launch} {e : Env} {s : State} {m : MethodId} {args : Array Value} {below : List Frame} {meth : Method} {c : Code} {x : CX} {res : Int32 × ST} (F : MF p m meth c cX9_picksNext 5 s args RX9 (some .boolean)) : ∀ (H : Heap) (locs : List Loc) (ls : Array Slot) (S : ST), WD x s S H locs → ∀ (a1 : Int32) (a3 : Int32), lv_has ls 5 [(0, .ref (x.2.2 (80))), (1, .int a1), (3, .int a3)] → f_X9_picksNext_30 S a1 a3 = some res → W p l e ({ frames := 0, cells := 0, slots := 0, locals := 0 } : Room) s m args below meth c H locs 0 0 (MQ below (QI x res.2 res.1 s.heap.size) args s 0 0 (AA x s.heap.size)) (F0 m 30 ls []) := by
  intro H locs ls S w a1 a3 hl hf
  unfold f_X9_picksNext_30 at hf
  refine lv_iload_n F.1 F.2.1 dX9_picksNext_30 rfl (lv_at hl 2 rfl) ?_
  refine lv_if_ge (tgt := 36) F.1 F.2.1 dX9_picksNext_31 (by decide) (fun c1 => ?_) (fun c1 => ?_)
  · replace hf := oi_t hf c1
    refine lv_aload_n F.1 F.2.1 dX9_picksNext_36 rfl (lv_at hl 0 rfl) ?_
    refine g_MD_pick F w q871 dX9_picksNext_37 ?_
    refine lv_iload_n F.1 F.2.1 dX9_picksNext_40 rfl (lv_at hl 2 rfl) ?_
    refine lv_dup2_11 F.1 F.2.1 dX9_picksNext_41 rfl rfl ?_
    obtain ⟨hb2, hf⟩ := oi_g hf
    refine r_iald F w (k := 86) (f := ai S 35) (by decide) rfl hb2 dX9_picksNext_42 ?_
    refine lv_iconst (v := 1) F.1 F.2.1 dX9_picksNext_43 (by decide) ?_
    refine lv_iadd F.1 F.2.1 dX9_picksNext_44 ?_
    obtain ⟨hb3, hf⟩ := oi_g hf
    refine r_iast F w (k := 86) (a := 35) (n := 24) (by decide) (fun S9 => rfl) rfl hb3 dX9_picksNext_45 (fun H locs w => ?_)
    obtain ⟨S4, e_S4⟩ : ∃ y : ST, y = sA S 35 (upd (ai S 35) (Int32.toNatClampNeg a3) ((ai S 35 (Int32.toNatClampNeg a3)) + (1 : Int32))) := ⟨_, rfl⟩
    replace w : WD x s S4 H locs := by rw [e_S4]; exact w
    replace hf := oi_l hf e_S4
    refine lv_iload_n F.1 F.2.1 dX9_picksNext_46 rfl (lv_at hl 2 rfl) ?_
    refine lv_iconst (v := 1) F.1 F.2.1 dX9_picksNext_47 (by decide) ?_
    refine lv_iadd F.1 F.2.1 dX9_picksNext_48 ?_
    refine lv_topi (fun v5 e_v5 => ?_)
    replace hf := oi_l hf e_v5
    refine lv_istore (lv' := [(4, .int v5), (0, .ref (x.2.2 (80))), (1, .int a1), (3, .int a3)]) F.1 F.2.1 dX9_picksNext_49 hl (by decide) rfl (fun ls hl => ?_)
    exact b_X9_picksNext_51 F FU _ _ _ _ w a1 v5 (lv_sub hl [1, 2, 0] rfl) hf
  · replace hf := oi_f hf c1
    refine lv_iconst (v := 0) F.1 F.2.1 dX9_picksNext_34 (by decide) ?_
    exact r_zret F w rfl (oi_s hf) dX9_picksNext_35
def f_X9_picksNext_4 : Nat → ST → Int32 → Int32 → Int32 → Option (Int32 × ST)
  | 0, _, _, _, _ => none
  | n + 1, S, a1, a2, a3 => (if a3 < 0 then f_X9_picksNext_30 S a1 a3 else oG (inB a3 24) ((if (ai S 35 (Int32.toNatClampNeg a3)) = (a2 - ((a1 - (1 : Int32)) - a3)) then oL (a3 + (-1)) (fun (v4 : Int32) => (f_X9_picksNext_4 n) S a1 a2 v4) else f_X9_picksNext_30 S a1 a3)))
set_option maxHeartbeats 4000000 in
set_option maxRecDepth 100000 in
theorem b_X9_picksNext_4 {p : Program} {l : Launch} {e : Env} {s : State} {m : MethodId} {args : Array Value} {below : List Frame} {meth : Method} {c : Code} {x : CX} {res : Int32 × ST} (F : MF p m meth c cX9_picksNext 5 s args RX9 (some .boolean)) : ∀ (n : Nat), ∀ (H : Heap) (locs : List Loc) (ls : Array Slot) (S : ST), WD x s S H locs → ∀ (a1 : Int32) (a2 : Int32) (a3 : Int32), lv_has ls 5 [(0, .ref (x.2.2 (80))), (1, .int a1), (2, .int a2), (3, .int a3)] → f_X9_picksNext_4 n S a1 a2 a3 = some res → W p l e ({ frames := 0, cells := 0, slots := 0, locals := 0 } : Room) s m args below meth c H locs 0 0 (MQ below (QI x res.2 res.1 s.heap.size) args s 0 0 (AA x s.heap.size)) (F0 m 4 ls []) := by
  intro n
  induction n with
  | zero =>
    intro H locs ls S w a1 a2 a3 hl hf
    have hf : (none : Option (Int32 × ST)) = some res := hf
    cases hf
  | succ n ih =>
    intro H locs ls S w a1 a2 a3 hl hf
    unfold f_X9_picksNext_4 at hf
    refine lv_iload_n F.1 F.2.1 dX9_picksNext_4 rfl (lv_at hl 3 rfl) ?_
    refine lv_if_lt (tgt := 30) F.1 F.2.1 dX9_picksNext_5 (by decide) (fun c1 => ?_) (fun c1 => ?_)
    · replace hf := oi_t hf c1
      exact b_X9_picksNext_30 F  _ _ _ _ w a1 a3 (lv_sub hl [0, 1, 3] rfl) hf
    · replace hf := oi_f hf c1
      refine lv_aload_n F.1 F.2.1 dX9_picksNext_8 rfl (lv_at hl 0 rfl) ?_
      refine g_MD_pick F w q871 dX9_picksNext_9 ?_
      refine lv_iload_n F.1 F.2.1 dX9_picksNext_12 rfl (lv_at hl 3 rfl) ?_
      obtain ⟨hb2, hf⟩ := oi_g hf
      refine r_iald F w (k := 86) (f := ai S 35) (by decide) rfl hb2 dX9_picksNext_13 ?_
      refine lv_iload_n F.1 F.2.1 dX9_picksNext_14 rfl (lv_at hl 2 rfl) ?_
      refine lv_iload_n F.1 F.2.1 dX9_picksNext_15 rfl (lv_at hl 1 rfl) ?_
      refine lv_iconst (v := 1) F.1 F.2.1 dX9_picksNext_16 (by decide) ?_
      refine lv_isub F.1 F.2.1 dX9_picksNext_17 ?_
      refine lv_iload_n F.1 F.2.1 dX9_picksNext_18 rfl (lv_at hl 3 rfl) ?_
      refine lv_isub F.1 F.2.1 dX9_picksNext_19 ?_
      refine lv_isub F.1 F.2.1 dX9_picksNext_20 ?_
      refine lv_icmp_ne (tgt := 30) F.1 F.2.1 dX9_picksNext_21 (by decide) (fun c3 => ?_) (fun c3 => ?_)
      · replace hf := oi_f hf c3
        exact b_X9_picksNext_30 F  _ _ _ _ w a1 a3 (lv_sub hl [0, 1, 3] rfl) hf
      · replace hf := oi_t hf c3
        obtain ⟨v4, e_v4⟩ : ∃ y : Int32, y = (a3 + (-1)) := ⟨_, rfl⟩
        replace hf := oi_l hf e_v4
        refine lv_iinc (v := v4) (lv' := [(3, .int v4), (0, .ref (x.2.2 (80))), (1, .int a1), (2, .int a2)]) F.1 F.2.1 dX9_picksNext_24 hl (k := 3) rfl (by rw [e_v4]; rfl) (by decide) rfl (fun ls hl => ?_)
        refine lv_goto (tgt := 4) F.1 F.2.1 dX9_picksNext_27 (by decide) ?_
        exact ih _ _ _ _ w a1 a2 v4 (lv_sub hl [1, 2, 3, 0] rfl) hf
def f_X9_picksNext_0 (S : ST) (a1 : Int32) (a2 : Int32) : Option (Int32 × ST) := oL (a1 - (1 : Int32)) (fun (v1 : Int32) => f_X9_picksNext_4 FU S a1 a2 v1)
set_option maxHeartbeats 4000000 in
set_option maxRecDepth 100000 in
theorem b_X9_picksNext_0 {p : Program} {l : Launch} {e : Env} {s : State} {m : MethodId} {args : Array Value} {below : List Frame} {meth : Method} {c : Code} {x : CX} {res : Int32 × ST} (F : MF p m meth c cX9_picksNext 5 s args RX9 (some .boolean)) : ∀ (H : Heap) (locs : List Loc) (ls : Array Slot) (S : ST), WD x s S H locs → ∀ (a1 : Int32) (a2 : Int32), lv_has ls 5 [(0, .ref (x.2.2 (80))), (1, .int a1), (2, .int a2)] → f_X9_picksNext_0 S a1 a2 = some res → W p l e ({ frames := 0, cells := 0, slots := 0, locals := 0 } : Room) s m args below meth c H locs 0 0 (MQ below (QI x res.2 res.1 s.heap.size) args s 0 0 (AA x s.heap.size)) (F0 m 0 ls []) := by
  intro H locs ls S w a1 a2 hl hf
  unfold f_X9_picksNext_0 at hf
  refine lv_iload_n F.1 F.2.1 dX9_picksNext_0 rfl (lv_at hl 1 rfl) ?_
  refine lv_iconst (v := 1) F.1 F.2.1 dX9_picksNext_1 (by decide) ?_
  refine lv_isub F.1 F.2.1 dX9_picksNext_2 ?_
  refine lv_topi (fun v1 e_v1 => ?_)
  replace hf := oi_l hf e_v1
  refine lv_istore_n (lv' := [(3, .int v1), (0, .ref (x.2.2 (80))), (1, .int a1), (2, .int a2)]) F.1 F.2.1 dX9_picksNext_3 rfl hl (by decide) rfl (fun ls hl => ?_)
  exact b_X9_picksNext_4 F FU _ _ _ _ w a1 a2 v1 (lv_sub hl [1, 2, 3, 0] rfl) hf
def f_X9_picksNext (S : ST) (a1 : Int32) (a2 : Int32) : Option (Int32 × ST) := f_X9_picksNext_0 S a1 a2
set_option maxHeartbeats 4000000 in
set_option maxRecDepth 100000 in
theorem k_X9_picksNext (l : Launch) (x : CX) (S : ST) (a1 : Int32) (a2 : Int32) {res : Int32 × ST} (hf : f_X9_picksNext S a1 a2 = some res) (sz : Nat) : Met l yX9_picksNext (Cond.code yX9_picksNext cX9_picksNext 5 (some .boolean) :: GW) ({ frames := 0, cells := 0, slots := 0, locals := 0 } : Room) (PC x S sz [.ref (x.2.2 (80)), .int a1, .int a2]) (QI x res.2 res.1 sz) 0 0 (AA x sz) := by
  refine Met.ofW (cc := cX9_picksNext) (maxL := 5) (ret := (some .boolean)) (by decide) rfl ?_
  intro p e s m args below meth c s₁ B hml hv
  obtain ⟨rfl, rfl, hPW⟩ := hv
  have F : MF p m meth c cX9_picksNext 5 s _ RX9 (some .boolean) := MF.of B hml
  have w := WD.of hPW
  have hl := lv_entry ([.ref (x.2.2 (80)), .int a1, .int a2]) (n := 5) (Nat.le_of_ble_eq_true rfl)
  rw [lg_entry_eq]
  generalize (lg_sl ([.ref (x.2.2 (80)), .int a1, .int a2]) ++ List.replicate (5 - (lg_sl ([.ref (x.2.2 (80)), .int a1, .int a2])).length) Slot.unset).toArray = ls at hl ⊢
  have hl : lv_has ls 5 [(0, .ref (x.2.2 (80))), (1, .int a1), (2, .int a2)] := hl
  unfold f_X9_picksNext at hf
  exact b_X9_picksNext_0 F  _ _ _ _ w a1 a2 (lv_sub hl [0, 1, 2] rfl) hf
theorem cy_X9_makes : CY yX9_makes RX9 cX9_makes 3 none 1 := ⟨q10, q1156, rfl, by decide, by decide, by decide +kernel⟩
def f_X9_makes_11 : Nat → ST → Int32 → Int32 → Option (ST)
  | 0, _, _, _ => none
  | n + 1, S, a1, a2 => (if a1 ≤ a2 then some S else oG (inB a2 24) (oV (f_X9_comes S (ai S 35 (Int32.toNatClampNeg a2))) (fun (S3 : ST) => oL (a2 + 1) (fun (v4 : Int32) => (f_X9_makes_11 n) S3 a1 v4))))
set_option maxHeartbeats 4000000 in
set_option maxRecDepth 100000 in
theorem b_X9_makes_11 {p : Program} {l : Launch} {e : Env} {s : State} {m : MethodId} {args : Array Value} {below : List Frame} {meth : Method} {c : Code} {x : CX} {res : ST} (F : MF p m meth c cX9_makes 3 s args RX9 none) : ∀ (n : Nat), ∀ (H : Heap) (locs : List Loc) (ls : Array Slot) (S : ST), WD x s S H locs → ∀ (a1 : Int32) (a2 : Int32), lv_has ls 3 [(0, .ref (x.2.2 (80))), (1, .int a1), (2, .int a2)] → f_X9_makes_11 n S a1 a2 = some res → W p l e ({ frames := 1, cells := 0, slots := 0, locals := 23 } : Room) s m args below meth c H locs 0 0 (MQ below (QV x res s.heap.size) args s 0 0 (AA x s.heap.size)) (F0 m 11 ls []) := by
  intro n
  induction n with
  | zero =>
    intro H locs ls S w a1 a2 hl hf
    have hf : (none : Option (ST)) = some res := hf
    cases hf
  | succ n ih =>
    intro H locs ls S w a1 a2 hl hf
    unfold f_X9_makes_11 at hf
    refine lv_iload_n F.1 F.2.1 dX9_makes_11 rfl (lv_at hl 2 rfl) ?_
    refine lv_iload_n F.1 F.2.1 dX9_makes_12 rfl (lv_at hl 1 rfl) ?_
    refine lv_icmp_ge (tgt := 32) F.1 F.2.1 dX9_makes_13 (by decide) (fun c1 => ?_) (fun c1 => ?_)
    · replace hf := oi_t hf c1
      exact r_vret F w (oi_s hf) dX9_makes_32
    · replace hf := oi_f hf c1
      refine lv_aload_n F.1 F.2.1 dX9_makes_16 rfl (lv_at hl 0 rfl) ?_
      refine lv_aload_n F.1 F.2.1 dX9_makes_17 rfl (lv_at hl 0 rfl) ?_
      refine g_MD_pick F w q871 dX9_makes_18 ?_
      refine lv_iload_n F.1 F.2.1 dX9_makes_21 rfl (lv_at hl 2 rfl) ?_
      obtain ⟨hb2, hf⟩ := oi_g hf
      refine r_iald F w (k := 86) (f := ai S 35) (by decide) rfl hb2 dX9_makes_22 ?_
      obtain ⟨S3, hc, hf⟩ := oi_v hf
      refine k_v0 (S' := S3) w (runV (As := [.int (ai S 35 (Int32.toNatClampNeg a2))]) (rest := []) (kb := 80) F w (k_X9_comes l x S (ai S 35 (Int32.toNatClampNeg a2)) hc H.size) cy_X9_comes q940 q942 qp26 ⟨rfl, rfl⟩ ⟨Nat.le_of_ble_eq_true rfl, Nat.le_of_ble_eq_true rfl⟩ (by decide) rfl rfl rfl rfl hl.1 (Nat.le_of_ble_eq_true rfl) ⟨Nat.le_of_ble_eq_true rfl, Nat.le_of_ble_eq_true rfl⟩ dX9_makes_23) (fun H locs w => ?_)
      obtain ⟨v4, e_v4⟩ : ∃ y : Int32, y = (a2 + 1) := ⟨_, rfl⟩
      replace hf := oi_l hf e_v4
      refine lv_iinc (v := v4) (lv' := [(2, .int v4), (0, .ref (x.2.2 (80))), (1, .int a1)]) F.1 F.2.1 dX9_makes_26 hl (k := 2) rfl (by rw [e_v4]; rfl) (by decide) rfl (fun ls hl => ?_)
      refine lv_goto (tgt := 11) F.1 F.2.1 dX9_makes_29 (by decide) ?_
      exact ih _ _ _ _ w a1 v4 (lv_sub hl [1, 2, 0] rfl) hf
def f_X9_makes_0 (S : ST) (a1 : Int32) : Option (ST) := oV (f_X9_begins S) (fun (S1 : ST) => oV (f_X9_comes S1 0) (fun (S2 : ST) => f_X9_makes_11 FU S2 a1 0))
set_option maxHeartbeats 4000000 in
set_option maxRecDepth 100000 in
theorem b_X9_makes_0 {p : Program} {l : Launch} {e : Env} {s : State} {m : MethodId} {args : Array Value} {below : List Frame} {meth : Method} {c : Code} {x : CX} {res : ST} (F : MF p m meth c cX9_makes 3 s args RX9 none) : ∀ (H : Heap) (locs : List Loc) (ls : Array Slot) (S : ST), WD x s S H locs → ∀ (a1 : Int32), lv_has ls 3 [(0, .ref (x.2.2 (80))), (1, .int a1)] → f_X9_makes_0 S a1 = some res → W p l e ({ frames := 1, cells := 0, slots := 0, locals := 23 } : Room) s m args below meth c H locs 0 0 (MQ below (QV x res s.heap.size) args s 0 0 (AA x s.heap.size)) (F0 m 0 ls []) := by
  intro H locs ls S w a1 hl hf
  unfold f_X9_makes_0 at hf
  refine lv_aload_n F.1 F.2.1 dX9_makes_0 rfl (lv_at hl 0 rfl) ?_
  obtain ⟨S1, hc, hf⟩ := oi_v hf
  refine k_v0 (S' := S1) w (runV (As := []) (rest := []) (kb := 80) F w (k_X9_begins l x S hc H.size) cy_X9_begins q936 q938 qp25 ⟨rfl, rfl⟩ ⟨Nat.le_of_ble_eq_true rfl, Nat.le_of_ble_eq_true rfl⟩ (by decide) rfl rfl rfl rfl hl.1 (Nat.le_of_ble_eq_true rfl) ⟨Nat.le_of_ble_eq_true rfl, Nat.le_of_ble_eq_true rfl⟩ dX9_makes_1) (fun H locs w => ?_)
  refine lv_aload_n F.1 F.2.1 dX9_makes_4 rfl (lv_at hl 0 rfl) ?_
  refine lv_iconst (v := 0) F.1 F.2.1 dX9_makes_5 (by decide) ?_
  obtain ⟨S2, hc, hf⟩ := oi_v hf
  refine k_v0 (S' := S2) w (runV (As := [.int 0]) (rest := []) (kb := 80) F w (k_X9_comes l x S1 0 hc H.size) cy_X9_comes q940 q942 qp26 ⟨rfl, rfl⟩ ⟨Nat.le_of_ble_eq_true rfl, Nat.le_of_ble_eq_true rfl⟩ (by decide) rfl rfl rfl rfl hl.1 (Nat.le_of_ble_eq_true rfl) ⟨Nat.le_of_ble_eq_true rfl, Nat.le_of_ble_eq_true rfl⟩ dX9_makes_6) (fun H locs w => ?_)
  refine lv_iconst (v := 0) F.1 F.2.1 dX9_makes_9 (by decide) ?_
  refine lv_istore_n (lv' := [(2, .int 0), (0, .ref (x.2.2 (80))), (1, .int a1)]) F.1 F.2.1 dX9_makes_10 rfl hl (by decide) rfl (fun ls hl => ?_)
  exact b_X9_makes_11 F FU _ _ _ _ w a1 0 (lv_sub hl [1, 2, 0] rfl) hf
def f_X9_makes (S : ST) (a1 : Int32) : Option (ST) := f_X9_makes_0 S a1
set_option maxHeartbeats 4000000 in
set_option maxRecDepth 100000 in
theorem k_X9_makes (l : Launch) (x : CX) (S : ST) (a1 : Int32) {res : ST} (hf : f_X9_makes S a1 = some res) (sz : Nat) : Met l yX9_makes (Cond.code yX9_makes cX9_makes 3 none :: GW) ({ frames := 1, cells := 0, slots := 0, locals := 23 } : Room) (PC x S sz [.ref (x.2.2 (80)), .int a1]) (QV x res sz) 0 0 (AA x sz) := by
  refine Met.ofW (cc := cX9_makes) (maxL := 3) (ret := none) (by decide) rfl ?_
  intro p e s m args below meth c s₁ B hml hv
  obtain ⟨rfl, rfl, hPW⟩ := hv
  have F : MF p m meth c cX9_makes 3 s _ RX9 none := MF.of B hml
  have w := WD.of hPW
  have hl := lv_entry ([.ref (x.2.2 (80)), .int a1]) (n := 3) (Nat.le_of_ble_eq_true rfl)
  rw [lg_entry_eq]
  generalize (lg_sl ([.ref (x.2.2 (80)), .int a1]) ++ List.replicate (3 - (lg_sl ([.ref (x.2.2 (80)), .int a1])).length) Slot.unset).toArray = ls at hl ⊢
  have hl : lv_has ls 3 [(0, .ref (x.2.2 (80))), (1, .int a1)] := hl
  unfold f_X9_makes at hf
  exact b_X9_makes_0 F  _ _ _ _ w a1 (lv_sub hl [0, 1] rfl) hf
theorem cy_X9_clash : CY yX9_clash RX9 cX9_clash 8 (some .int) 1 := ⟨q10, q1144, rfl, by decide, by decide, by decide +kernel⟩
def f_X9_clash_45 (k5 : ST → Int32 → Int64 → Int32 → Option (Int32 × ST)) (k14 : ST → Int32 → Int64 → Int32 → Int32 → Option (Int32 × ST)) (S : ST) (a1 : Int32) (a2 : Int64) (a4 : Int32) (a5 : Int32) (as0 : Int32) (as1 : Int32) (as2 : Int64) : Option (Int32 × ST) := oL (as2 <<< (Int32.toInt64 (as1 - as0) &&& 63)) (fun (v1 : Int64) => (if (lg_cmp (a2 &&& v1) 0) = 0 then oL (a2 ||| v1) (fun (v3 : Int64) => oL (a5 + 1) (fun (v4 : Int32) => k14 S a1 v3 a4 v4)) else some (a4, S)))
set_option maxHeartbeats 4000000 in
set_option maxRecDepth 100000 in
theorem b_X9_clash_45 {p : Program} {l : Launch} {e : Env} {s : State} {m : MethodId} {args : Array Value} {below : List Frame} {meth : Method} {c : Code} {x : CX} {res : Int32 × ST} (F : MF p m meth c cX9_clash 8 s args RX9 (some .int)) (k5 : ST → Int32 → Int64 → Int32 → Option (Int32 × ST)) (hk5 : ∀ (H : Heap) (locs : List Loc) (ls : Array Slot) (S : ST), WD x s S H locs → ∀ (a1 : Int32) (a2 : Int64) (a4 : Int32), lv_has ls 8 [(0, .ref (x.2.2 (80))), (1, .int a1), (2, .long a2), (4, .int a4)] → k5 S a1 a2 a4 = some res → W p l e ({ frames := 0, cells := 0, slots := 0, locals := 0 } : Room) s m args below meth c H locs 0 0 (MQ below (QI x res.2 res.1 s.heap.size) args s 0 0 (AA x s.heap.size)) (F0 m 5 ls [])) (k14 : ST → Int32 → Int64 → Int32 → Int32 → Option (Int32 × ST)) (hk14 : ∀ (H : Heap) (locs : List Loc) (ls : Array Slot) (S : ST), WD x s S H locs → ∀ (a1 : Int32) (a2 : Int64) (a4 : Int32) (a5 : Int32), lv_has ls 8 [(0, .ref (x.2.2 (80))), (1, .int a1), (2, .long a2), (4, .int a4), (5, .int a5)] → k14 S a1 a2 a4 a5 = some res → W p l e ({ frames := 0, cells := 0, slots := 0, locals := 0 } : Room) s m args below meth c H locs 0 0 (MQ below (QI x res.2 res.1 s.heap.size) args s 0 0 (AA x s.heap.size)) (F0 m 14 ls [])) : ∀ (H : Heap) (locs : List Loc) (ls : Array Slot) (S : ST), WD x s S H locs → ∀ (a1 : Int32) (a2 : Int64) (a4 : Int32) (a5 : Int32) (as0 : Int32) (as1 : Int32) (as2 : Int64), lv_has ls 8 [(0, .ref (x.2.2 (80))), (1, .int a1), (2, .long a2), (4, .int a4), (5, .int a5)] → f_X9_clash_45 k5 k14 S a1 a2 a4 a5 as0 as1 as2 = some res → W p l e ({ frames := 0, cells := 0, slots := 0, locals := 0 } : Room) s m args below meth c H locs 0 0 (MQ below (QI x res.2 res.1 s.heap.size) args s 0 0 (AA x s.heap.size)) (F0 m 45 ls [.int as0, .int as1, .long as2]) := by
  intro H locs ls S w a1 a2 a4 a5 as0 as1 as2 hl hf
  unfold f_X9_clash_45 at hf
  refine lv_isub F.1 F.2.1 dX9_clash_45 ?_
  refine lv_lshl (v := (as2 <<< (Int32.toInt64 (as1 - as0) &&& 63))) F.1 F.2.1 dX9_clash_46 rfl ?_
  refine lv_topl (fun v1 e_v1 => ?_)
  replace hf := oi_l hf e_v1
  refine lv_lstore (lv' := [(6, .long v1), (0, .ref (x.2.2 (80))), (1, .int a1), (2, .long a2), (4, .int a4), (5, .int a5)]) F.1 F.2.1 dX9_clash_47 hl (by decide) rfl (fun ls hl => ?_)
  refine lv_lload_n F.1 F.2.1 dX9_clash_49 rfl (lv_at hl 3 rfl) ?_
  refine lv_lload F.1 F.2.1 dX9_clash_50 (lv_at hl 0 rfl) ?_
  refine lv_land F.1 F.2.1 dX9_clash_52 ?_
  refine lv_lconst (v := 0) F.1 F.2.1 dX9_clash_53 (by decide) ?_
  refine W.lcmp F.1 F.2.1 dX9_clash_54 ?_
  refine lv_if_eq (tgt := 61) F.1 F.2.1 dX9_clash_55 (by decide) (fun c2 => ?_) (fun c2 => ?_)
  · replace hf := oi_t hf c2
    refine lv_lload_n F.1 F.2.1 dX9_clash_61 rfl (lv_at hl 3 rfl) ?_
    refine lv_lload F.1 F.2.1 dX9_clash_62 (lv_at hl 0 rfl) ?_
    refine lv_lor F.1 F.2.1 dX9_clash_64 ?_
    refine lv_topl (fun v3 e_v3 => ?_)
    replace hf := oi_l hf e_v3
    refine lv_lstore_n (lv' := [(2, .long v3), (6, .long v1), (0, .ref (x.2.2 (80))), (1, .int a1), (4, .int a4), (5, .int a5)]) F.1 F.2.1 dX9_clash_65 rfl hl (by decide) rfl (fun ls hl => ?_)
    obtain ⟨v4, e_v4⟩ : ∃ y : Int32, y = (a5 + 1) := ⟨_, rfl⟩
    replace hf := oi_l hf e_v4
    refine lv_iinc (v := v4) (lv' := [(5, .int v4), (2, .long v3), (6, .long v1), (0, .ref (x.2.2 (80))), (1, .int a1), (4, .int a4)]) F.1 F.2.1 dX9_clash_66 hl (k := 5) rfl (by rw [e_v4]; rfl) (by decide) rfl (fun ls hl => ?_)
    refine lv_goto (tgt := 14) F.1 F.2.1 dX9_clash_69 (by decide) ?_
    exact hk14 _ _ _ _ w a1 v3 a4 v4 (lv_sub hl [3, 4, 1, 5, 0] rfl) hf
  · replace hf := oi_f hf c2
    refine lv_iload F.1 F.2.1 dX9_clash_58 (lv_at hl 4 rfl) ?_
    exact r_iret F w (oi_s hf) dX9_clash_60
def f_X9_clash_14 (k5 : ST → Int32 → Int64 → Int32 → Option (Int32 × ST)) : Nat → ST → Int32 → Int64 → Int32 → Int32 → Option (Int32 × ST)
  | 0, _, _, _, _, _ => none
  | n + 1, S, a1, a2, a4, a5 => (if a4 ≤ a5 then oL (a4 + 1) (fun (v2 : Int32) => k5 S a1 a2 v2) else oG (inB a4 24) ((if 0 ≤ a5 then oG (inB a5 24) (f_X9_clash_45 k5 (f_X9_clash_14 k5 n) S a1 a2 a4 a5 (ai S 35 (Int32.toNatClampNeg a5)) (ai S 35 (Int32.toNatClampNeg a4)) 1) else f_X9_clash_45 k5 (f_X9_clash_14 k5 n) S a1 a2 a4 a5 0 (ai S 35 (Int32.toNatClampNeg a4)) 1)))
set_option maxHeartbeats 4000000 in
set_option maxRecDepth 100000 in
theorem b_X9_clash_14 {p : Program} {l : Launch} {e : Env} {s : State} {m : MethodId} {args : Array Value} {below : List Frame} {meth : Method} {c : Code} {x : CX} {res : Int32 × ST} (F : MF p m meth c cX9_clash 8 s args RX9 (some .int)) (k5 : ST → Int32 → Int64 → Int32 → Option (Int32 × ST)) (hk5 : ∀ (H : Heap) (locs : List Loc) (ls : Array Slot) (S : ST), WD x s S H locs → ∀ (a1 : Int32) (a2 : Int64) (a4 : Int32), lv_has ls 8 [(0, .ref (x.2.2 (80))), (1, .int a1), (2, .long a2), (4, .int a4)] → k5 S a1 a2 a4 = some res → W p l e ({ frames := 0, cells := 0, slots := 0, locals := 0 } : Room) s m args below meth c H locs 0 0 (MQ below (QI x res.2 res.1 s.heap.size) args s 0 0 (AA x s.heap.size)) (F0 m 5 ls [])) : ∀ (n : Nat), ∀ (H : Heap) (locs : List Loc) (ls : Array Slot) (S : ST), WD x s S H locs → ∀ (a1 : Int32) (a2 : Int64) (a4 : Int32) (a5 : Int32), lv_has ls 8 [(0, .ref (x.2.2 (80))), (1, .int a1), (2, .long a2), (4, .int a4), (5, .int a5)] → f_X9_clash_14 k5 n S a1 a2 a4 a5 = some res → W p l e ({ frames := 0, cells := 0, slots := 0, locals := 0 } : Room) s m args below meth c H locs 0 0 (MQ below (QI x res.2 res.1 s.heap.size) args s 0 0 (AA x s.heap.size)) (F0 m 14 ls []) := by
  intro n
  induction n with
  | zero =>
    intro H locs ls S w a1 a2 a4 a5 hl hf
    have hf : (none : Option (Int32 × ST)) = some res := hf
    cases hf
  | succ n ih =>
    intro H locs ls S w a1 a2 a4 a5 hl hf
    unfold f_X9_clash_14 at hf
    refine lv_iload F.1 F.2.1 dX9_clash_14 (lv_at hl 4 rfl) ?_
    refine lv_iload F.1 F.2.1 dX9_clash_16 (lv_at hl 3 rfl) ?_
    refine lv_icmp_ge (tgt := 72) F.1 F.2.1 dX9_clash_18 (by decide) (fun c1 => ?_) (fun c1 => ?_)
    · replace hf := oi_t hf c1
      obtain ⟨v2, e_v2⟩ : ∃ y : Int32, y = (a4 + 1) := ⟨_, rfl⟩
      replace hf := oi_l hf e_v2
      refine lv_iinc (v := v2) (lv' := [(4, .int v2), (0, .ref (x.2.2 (80))), (1, .int a1), (2, .long a2), (5, .int a5)]) F.1 F.2.1 dX9_clash_72 hl (k := 3) rfl (by rw [e_v2]; rfl) (by decide) rfl (fun ls hl => ?_)
      refine lv_goto (tgt := 5) F.1 F.2.1 dX9_clash_75 (by decide) ?_
      exact hk5 _ _ _ _ w a1 a2 v2 (lv_sub hl [1, 2, 3, 0] rfl) hf
    · replace hf := oi_f hf c1
      refine lv_lconst (v := 1) F.1 F.2.1 dX9_clash_21 (by decide) ?_
      refine lv_aload_n F.1 F.2.1 dX9_clash_22 rfl (lv_at hl 0 rfl) ?_
      refine g_MD_pick F w q871 dX9_clash_23 ?_
      refine lv_iload F.1 F.2.1 dX9_clash_26 (lv_at hl 3 rfl) ?_
      obtain ⟨hb3, hf⟩ := oi_g hf
      refine r_iald F w (k := 86) (f := ai S 35) (by decide) rfl hb3 dX9_clash_28 ?_
      refine lv_iload F.1 F.2.1 dX9_clash_29 (lv_at hl 4 rfl) ?_
      refine lv_if_ge (tgt := 38) F.1 F.2.1 dX9_clash_31 (by decide) (fun c4 => ?_) (fun c4 => ?_)
      · replace hf := oi_t hf c4
        refine lv_aload_n F.1 F.2.1 dX9_clash_38 rfl (lv_at hl 0 rfl) ?_
        refine g_MD_pick F w q871 dX9_clash_39 ?_
        refine lv_iload F.1 F.2.1 dX9_clash_42 (lv_at hl 4 rfl) ?_
        obtain ⟨hb5, hf⟩ := oi_g hf
        refine r_iald F w (k := 86) (f := ai S 35) (by decide) rfl hb5 dX9_clash_44 ?_
        exact b_X9_clash_45 F k5 hk5 (f_X9_clash_14 k5 n) ih _ _ _ _ w a1 a2 a4 a5 (ai S 35 (Int32.toNatClampNeg a5)) (ai S 35 (Int32.toNatClampNeg a4)) 1 (lv_sub hl [0, 1, 2, 3, 4] rfl) hf
      · replace hf := oi_f hf c4
        refine lv_iconst (v := 0) F.1 F.2.1 dX9_clash_34 (by decide) ?_
        refine lv_goto (tgt := 45) F.1 F.2.1 dX9_clash_35 (by decide) ?_
        exact b_X9_clash_45 F k5 hk5 (f_X9_clash_14 k5 n) ih _ _ _ _ w a1 a2 a4 a5 0 (ai S 35 (Int32.toNatClampNeg a4)) 1 (lv_sub hl [0, 1, 2, 3, 4] rfl) hf
def f_X9_clash_5 : Nat → ST → Int32 → Int64 → Int32 → Option (Int32 × ST)
  | 0, _, _, _, _ => none
  | n + 1, S, a1, a2, a4 => (if a1 ≤ a4 then some ((-1), S) else f_X9_clash_14 (f_X9_clash_5 n) FU S a1 a2 a4 (-1))
set_option maxHeartbeats 4000000 in
set_option maxRecDepth 100000 in
theorem b_X9_clash_5 {p : Program} {l : Launch} {e : Env} {s : State} {m : MethodId} {args : Array Value} {below : List Frame} {meth : Method} {c : Code} {x : CX} {res : Int32 × ST} (F : MF p m meth c cX9_clash 8 s args RX9 (some .int)) : ∀ (n : Nat), ∀ (H : Heap) (locs : List Loc) (ls : Array Slot) (S : ST), WD x s S H locs → ∀ (a1 : Int32) (a2 : Int64) (a4 : Int32), lv_has ls 8 [(0, .ref (x.2.2 (80))), (1, .int a1), (2, .long a2), (4, .int a4)] → f_X9_clash_5 n S a1 a2 a4 = some res → W p l e ({ frames := 0, cells := 0, slots := 0, locals := 0 } : Room) s m args below meth c H locs 0 0 (MQ below (QI x res.2 res.1 s.heap.size) args s 0 0 (AA x s.heap.size)) (F0 m 5 ls []) := by
  intro n
  induction n with
  | zero =>
    intro H locs ls S w a1 a2 a4 hl hf
    have hf : (none : Option (Int32 × ST)) = some res := hf
    cases hf
  | succ n ih =>
    intro H locs ls S w a1 a2 a4 hl hf
    unfold f_X9_clash_5 at hf
    refine lv_iload F.1 F.2.1 dX9_clash_5 (lv_at hl 3 rfl) ?_
    refine lv_iload_n F.1 F.2.1 dX9_clash_7 rfl (lv_at hl 1 rfl) ?_
    refine lv_icmp_ge (tgt := 78) F.1 F.2.1 dX9_clash_8 (by decide) (fun c1 => ?_) (fun c1 => ?_)
    · replace hf := oi_t hf c1
      refine lv_iconst (v := (-1)) F.1 F.2.1 dX9_clash_78 (by decide) ?_
      exact r_iret F w (oi_s hf) dX9_clash_79
    · replace hf := oi_f hf c1
      refine lv_iconst (v := (-1)) F.1 F.2.1 dX9_clash_11 (by decide) ?_
      refine lv_istore (lv' := [(5, .int (-1)), (0, .ref (x.2.2 (80))), (1, .int a1), (2, .long a2), (4, .int a4)]) F.1 F.2.1 dX9_clash_12 hl (by decide) rfl (fun ls hl => ?_)
      exact b_X9_clash_14 F (f_X9_clash_5 n) ih FU _ _ _ _ w a1 a2 a4 (-1) (lv_sub hl [1, 2, 3, 4, 0] rfl) hf
def f_X9_clash_0 (S : ST) (a1 : Int32) : Option (Int32 × ST) := f_X9_clash_5 FU S a1 0 0
set_option maxHeartbeats 4000000 in
set_option maxRecDepth 100000 in
theorem b_X9_clash_0 {p : Program} {l : Launch} {e : Env} {s : State} {m : MethodId} {args : Array Value} {below : List Frame} {meth : Method} {c : Code} {x : CX} {res : Int32 × ST} (F : MF p m meth c cX9_clash 8 s args RX9 (some .int)) : ∀ (H : Heap) (locs : List Loc) (ls : Array Slot) (S : ST), WD x s S H locs → ∀ (a1 : Int32), lv_has ls 8 [(0, .ref (x.2.2 (80))), (1, .int a1)] → f_X9_clash_0 S a1 = some res → W p l e ({ frames := 0, cells := 0, slots := 0, locals := 0 } : Room) s m args below meth c H locs 0 0 (MQ below (QI x res.2 res.1 s.heap.size) args s 0 0 (AA x s.heap.size)) (F0 m 0 ls []) := by
  intro H locs ls S w a1 hl hf
  unfold f_X9_clash_0 at hf
  refine lv_lconst (v := 0) F.1 F.2.1 dX9_clash_0 (by decide) ?_
  refine lv_lstore_n (lv' := [(2, .long 0), (0, .ref (x.2.2 (80))), (1, .int a1)]) F.1 F.2.1 dX9_clash_1 rfl hl (by decide) rfl (fun ls hl => ?_)
  refine lv_iconst (v := 0) F.1 F.2.1 dX9_clash_2 (by decide) ?_
  refine lv_istore (lv' := [(4, .int 0), (2, .long 0), (0, .ref (x.2.2 (80))), (1, .int a1)]) F.1 F.2.1 dX9_clash_3 hl (by decide) rfl (fun ls hl => ?_)
  exact b_X9_clash_5 F FU _ _ _ _ w a1 0 0 (lv_sub hl [2, 3, 1, 0] rfl) hf
def f_X9_clash (S : ST) (a1 : Int32) : Option (Int32 × ST) := f_X9_clash_0 S a1
set_option maxHeartbeats 4000000 in
set_option maxRecDepth 100000 in
theorem k_X9_clash (l : Launch) (x : CX) (S : ST) (a1 : Int32) {res : Int32 × ST} (hf : f_X9_clash S a1 = some res) (sz : Nat) : Met l yX9_clash (Cond.code yX9_clash cX9_clash 8 (some .int) :: GW) ({ frames := 0, cells := 0, slots := 0, locals := 0 } : Room) (PC x S sz [.ref (x.2.2 (80)), .int a1]) (QI x res.2 res.1 sz) 0 0 (AA x sz) := by
  refine Met.ofW (cc := cX9_clash) (maxL := 8) (ret := (some .int)) (by decide) rfl ?_
  intro p e s m args below meth c s₁ B hml hv
  obtain ⟨rfl, rfl, hPW⟩ := hv
  have F : MF p m meth c cX9_clash 8 s _ RX9 (some .int) := MF.of B hml
  have w := WD.of hPW
  have hl := lv_entry ([.ref (x.2.2 (80)), .int a1]) (n := 8) (Nat.le_of_ble_eq_true rfl)
  rw [lg_entry_eq]
  generalize (lg_sl ([.ref (x.2.2 (80)), .int a1]) ++ List.replicate (8 - (lg_sl ([.ref (x.2.2 (80)), .int a1])).length) Slot.unset).toArray = ls at hl ⊢
  have hl : lv_has ls 8 [(0, .ref (x.2.2 (80))), (1, .int a1)] := hl
  unfold f_X9_clash at hf
  exact b_X9_clash_0 F  _ _ _ _ w a1 (lv_sub hl [0, 1] rfl) hf
theorem cy_X9_skips : CY yX9_skips RX9 cX9_skips 5 (some .boolean) 2 := ⟨q10, q1148, rfl, by decide, by decide, by decide +kernel⟩
def f_X9_skips_43 (S : ST) (a1 : Int32) (a2 : Int32) : Option (Int32 × ST) := oB (f_X9_picksNext S a1 a2) (fun (r2 : Int32) (S1 : ST) => oG (isB r2) (some (r2, S1)))
set_option maxHeartbeats 4000000 in
set_option maxRecDepth 100000 in
theorem b_X9_skips_43 {p : Program} {l : Launch} {e : Env} {s : State} {m : MethodId} {args : Array Value} {below : List Frame} {meth : Method} {c : Code} {x : CX} {res : Int32 × ST} (F : MF p m meth c cX9_skips 5 s args RX9 (some .boolean)) : ∀ (H : Heap) (locs : List Loc) (ls : Array Slot) (S : ST), WD x s S H locs → ∀ (a1 : Int32) (a2 : Int32), lv_has ls 5 [(0, .ref (x.2.2 (80))), (1, .int a1), (2, .int a2)] → f_X9_skips_43 S a1 a2 = some res → W p l e ({ frames := 1, cells := 0, slots := 0, locals := 27 } : Room) s m args below meth c H locs 0 0 (MQ below (QI x res.2 res.1 s.heap.size) args s 0 0 (AA x s.heap.size)) (F0 m 43 ls []) := by
  intro H locs ls S w a1 a2 hl hf
  unfold f_X9_skips_43 at hf
  refine lv_aload_n F.1 F.2.1 dX9_skips_43 rfl (lv_at hl 0 rfl) ?_
  refine lv_iload_n F.1 F.2.1 dX9_skips_44 rfl (lv_at hl 1 rfl) ?_
  refine lv_iload_n F.1 F.2.1 dX9_skips_45 rfl (lv_at hl 2 rfl) ?_
  obtain ⟨r2, S1, hc, hf⟩ := oi_b hf
  refine k_i0 (S' := S1) (r := r2) w (runV (As := [.int a1, .int a2]) (rest := []) (kb := 80) F w (k_X9_picksNext l x S a1 a2 hc H.size) cy_X9_picksNext q1149 q1151 qp51 ⟨rfl, rfl⟩ ⟨Nat.le_of_ble_eq_true rfl, Nat.le_of_ble_eq_true rfl⟩ (by decide) rfl rfl rfl rfl hl.1 (Nat.le_of_ble_eq_true rfl) ⟨Nat.le_of_ble_eq_true rfl, Nat.le_of_ble_eq_true rfl⟩ dX9_skips_46) (fun H locs w => ?_)
  obtain ⟨hz3, hf⟩ := oi_g hf
  exact r_zret F w (isB_nar hz3) (oi_s hf) dX9_skips_49
def f_X9_skips_11 : Nat → ST → Int32 → Int32 → Int32 → Int32 → Option (Int32 × ST)
  | 0, _, _, _, _, _ => none
  | n + 1, S, a1, a2, a3, a4 => (if a1 ≤ a4 then f_X9_skips_43 S a1 a2 else (if a3 = (-1) then f_X9_skips_43 S a1 a2 else oG (inB a4 24) (oL (sA S 35 (upd (ai S 35) (Int32.toNatClampNeg a4) (a2 - ((a1 - (1 : Int32)) - a4)))) (fun (S4 : ST) => oL (a4 + 1) (fun (v5 : Int32) => (f_X9_skips_11 n) S4 a1 a2 a3 v5)))))
set_option maxHeartbeats 4000000 in
set_option maxRecDepth 100000 in
theorem b_X9_skips_11 {p : Program} {l : Launch} {e : Env} {s : State} {m : MethodId} {args : Array Value} {below : List Frame} {meth : Method} {c : Code} {x : CX} {res : Int32 × ST} (F : MF p m meth c cX9_skips 5 s args RX9 (some .boolean)) : ∀ (n : Nat), ∀ (H : Heap) (locs : List Loc) (ls : Array Slot) (S : ST), WD x s S H locs → ∀ (a1 : Int32) (a2 : Int32) (a3 : Int32) (a4 : Int32), lv_has ls 5 [(0, .ref (x.2.2 (80))), (1, .int a1), (2, .int a2), (3, .int a3), (4, .int a4)] → f_X9_skips_11 n S a1 a2 a3 a4 = some res → W p l e ({ frames := 1, cells := 0, slots := 0, locals := 27 } : Room) s m args below meth c H locs 0 0 (MQ below (QI x res.2 res.1 s.heap.size) args s 0 0 (AA x s.heap.size)) (F0 m 11 ls []) := by
  intro n
  induction n with
  | zero =>
    intro H locs ls S w a1 a2 a3 a4 hl hf
    have hf : (none : Option (Int32 × ST)) = some res := hf
    cases hf
  | succ n ih =>
    intro H locs ls S w a1 a2 a3 a4 hl hf
    unfold f_X9_skips_11 at hf
    refine lv_iload F.1 F.2.1 dX9_skips_11 (lv_at hl 4 rfl) ?_
    refine lv_iload_n F.1 F.2.1 dX9_skips_13 rfl (lv_at hl 1 rfl) ?_
    refine lv_icmp_ge (tgt := 43) F.1 F.2.1 dX9_skips_14 (by decide) (fun c1 => ?_) (fun c1 => ?_)
    · replace hf := oi_t hf c1
      exact b_X9_skips_43 F  _ _ _ _ w a1 a2 (lv_sub hl [0, 1, 2] rfl) hf
    · replace hf := oi_f hf c1
      refine lv_iload_n F.1 F.2.1 dX9_skips_17 rfl (lv_at hl 3 rfl) ?_
      refine lv_iconst (v := (-1)) F.1 F.2.1 dX9_skips_18 (by decide) ?_
      refine lv_icmp_eq (tgt := 43) F.1 F.2.1 dX9_skips_19 (by decide) (fun c2 => ?_) (fun c2 => ?_)
      · replace hf := oi_t hf c2
        exact b_X9_skips_43 F  _ _ _ _ w a1 a2 (lv_sub hl [0, 1, 2] rfl) hf
      · replace hf := oi_f hf c2
        refine lv_aload_n F.1 F.2.1 dX9_skips_22 rfl (lv_at hl 0 rfl) ?_
        refine g_MD_pick F w q871 dX9_skips_23 ?_
        refine lv_iload F.1 F.2.1 dX9_skips_26 (lv_at hl 4 rfl) ?_
        refine lv_iload_n F.1 F.2.1 dX9_skips_28 rfl (lv_at hl 2 rfl) ?_
        refine lv_iload_n F.1 F.2.1 dX9_skips_29 rfl (lv_at hl 1 rfl) ?_
        refine lv_iconst (v := 1) F.1 F.2.1 dX9_skips_30 (by decide) ?_
        refine lv_isub F.1 F.2.1 dX9_skips_31 ?_
        refine lv_iload F.1 F.2.1 dX9_skips_32 (lv_at hl 4 rfl) ?_
        refine lv_isub F.1 F.2.1 dX9_skips_34 ?_
        refine lv_isub F.1 F.2.1 dX9_skips_35 ?_
        obtain ⟨hb3, hf⟩ := oi_g hf
        refine r_iast F w (k := 86) (a := 35) (n := 24) (by decide) (fun S9 => rfl) rfl hb3 dX9_skips_36 (fun H locs w => ?_)
        obtain ⟨S4, e_S4⟩ : ∃ y : ST, y = sA S 35 (upd (ai S 35) (Int32.toNatClampNeg a4) (a2 - ((a1 - (1 : Int32)) - a4))) := ⟨_, rfl⟩
        replace w : WD x s S4 H locs := by rw [e_S4]; exact w
        replace hf := oi_l hf e_S4
        obtain ⟨v5, e_v5⟩ : ∃ y : Int32, y = (a4 + 1) := ⟨_, rfl⟩
        replace hf := oi_l hf e_v5
        refine lv_iinc (v := v5) (lv' := [(4, .int v5), (0, .ref (x.2.2 (80))), (1, .int a1), (2, .int a2), (3, .int a3)]) F.1 F.2.1 dX9_skips_37 hl (k := 4) rfl (by rw [e_v5]; rfl) (by decide) rfl (fun ls hl => ?_)
        refine lv_goto (tgt := 11) F.1 F.2.1 dX9_skips_40 (by decide) ?_
        exact ih _ _ _ _ w a1 a2 a3 v5 (lv_sub hl [1, 2, 3, 4, 0] rfl) hf
def f_X9_skips_0 (S : ST) (a1 : Int32) (a2 : Int32) : Option (Int32 × ST) := oB (f_X9_clash S a1) (fun (r2 : Int32) (S1 : ST) => oL (r2 + (1 : Int32)) (fun (v3 : Int32) => f_X9_skips_11 FU S1 a1 a2 r2 v3))
set_option maxHeartbeats 4000000 in
set_option maxRecDepth 100000 in
theorem b_X9_skips_0 {p : Program} {l : Launch} {e : Env} {s : State} {m : MethodId} {args : Array Value} {below : List Frame} {meth : Method} {c : Code} {x : CX} {res : Int32 × ST} (F : MF p m meth c cX9_skips 5 s args RX9 (some .boolean)) : ∀ (H : Heap) (locs : List Loc) (ls : Array Slot) (S : ST), WD x s S H locs → ∀ (a1 : Int32) (a2 : Int32), lv_has ls 5 [(0, .ref (x.2.2 (80))), (1, .int a1), (2, .int a2)] → f_X9_skips_0 S a1 a2 = some res → W p l e ({ frames := 1, cells := 0, slots := 0, locals := 27 } : Room) s m args below meth c H locs 0 0 (MQ below (QI x res.2 res.1 s.heap.size) args s 0 0 (AA x s.heap.size)) (F0 m 0 ls []) := by
  intro H locs ls S w a1 a2 hl hf
  unfold f_X9_skips_0 at hf
  refine lv_aload_n F.1 F.2.1 dX9_skips_0 rfl (lv_at hl 0 rfl) ?_
  refine lv_iload_n F.1 F.2.1 dX9_skips_1 rfl (lv_at hl 1 rfl) ?_
  obtain ⟨r2, S1, hc, hf⟩ := oi_b hf
  refine k_i0 (S' := S1) (r := r2) w (runV (As := [.int a1]) (rest := []) (kb := 80) F w (k_X9_clash l x S a1 hc H.size) cy_X9_clash q1141 q1143 qp49 ⟨rfl, rfl⟩ ⟨Nat.le_of_ble_eq_true rfl, Nat.le_of_ble_eq_true rfl⟩ (by decide) rfl rfl rfl rfl hl.1 (Nat.le_of_ble_eq_true rfl) ⟨Nat.le_of_ble_eq_true rfl, Nat.le_of_ble_eq_true rfl⟩ dX9_skips_2) (fun H locs w => ?_)
  refine lv_istore_n (lv' := [(3, .int r2), (0, .ref (x.2.2 (80))), (1, .int a1), (2, .int a2)]) F.1 F.2.1 dX9_skips_5 rfl hl (by decide) rfl (fun ls hl => ?_)
  refine lv_iload_n F.1 F.2.1 dX9_skips_6 rfl (lv_at hl 0 rfl) ?_
  refine lv_iconst (v := 1) F.1 F.2.1 dX9_skips_7 (by decide) ?_
  refine lv_iadd F.1 F.2.1 dX9_skips_8 ?_
  refine lv_topi (fun v3 e_v3 => ?_)
  replace hf := oi_l hf e_v3
  refine lv_istore (lv' := [(4, .int v3), (3, .int r2), (0, .ref (x.2.2 (80))), (1, .int a1), (2, .int a2)]) F.1 F.2.1 dX9_skips_9 hl (by decide) rfl (fun ls hl => ?_)
  exact b_X9_skips_11 F FU _ _ _ _ w a1 a2 r2 v3 (lv_sub hl [2, 3, 4, 1, 0] rfl) hf
def f_X9_skips (S : ST) (a1 : Int32) (a2 : Int32) : Option (Int32 × ST) := f_X9_skips_0 S a1 a2
set_option maxHeartbeats 4000000 in
set_option maxRecDepth 100000 in
theorem k_X9_skips (l : Launch) (x : CX) (S : ST) (a1 : Int32) (a2 : Int32) {res : Int32 × ST} (hf : f_X9_skips S a1 a2 = some res) (sz : Nat) : Met l yX9_skips (Cond.code yX9_skips cX9_skips 5 (some .boolean) :: GW) ({ frames := 1, cells := 0, slots := 0, locals := 27 } : Room) (PC x S sz [.ref (x.2.2 (80)), .int a1, .int a2]) (QI x res.2 res.1 sz) 0 0 (AA x sz) := by
  refine Met.ofW (cc := cX9_skips) (maxL := 5) (ret := (some .boolean)) (by decide) rfl ?_
  intro p e s m args below meth c s₁ B hml hv
  obtain ⟨rfl, rfl, hPW⟩ := hv
  have F : MF p m meth c cX9_skips 5 s _ RX9 (some .boolean) := MF.of B hml
  have w := WD.of hPW
  have hl := lv_entry ([.ref (x.2.2 (80)), .int a1, .int a2]) (n := 5) (Nat.le_of_ble_eq_true rfl)
  rw [lg_entry_eq]
  generalize (lg_sl ([.ref (x.2.2 (80)), .int a1, .int a2]) ++ List.replicate (5 - (lg_sl ([.ref (x.2.2 (80)), .int a1, .int a2])).length) Slot.unset).toArray = ls at hl ⊢
  have hl : lv_has ls 5 [(0, .ref (x.2.2 (80))), (1, .int a1), (2, .int a2)] := hl
  unfold f_X9_skips at hf
  exact b_X9_skips_0 F  _ _ _ _ w a1 a2 (lv_sub hl [0, 1, 2] rfl) hf
theorem cy_X9_optimal : CY yX9_optimal RX9 cX9_optimal 5 (some .int) 2 := ⟨q10, q1136, rfl, by decide, by decide, by decide +kernel⟩
def f_X9_optimal_100 (k67 : ST → Int32 → Int32 → Int32 → Int32 → Option (Int32 × ST)) (S : ST) (a1 : Int32) (a2 : Int32) (a3 : Int32) (as0 : Int32) : Option (Int32 × ST) := (if as0 = 0 then oB (f_X9_skips S (a1 - (1 : Int32)) a3) (fun (r3 : Int32) (S2 : ST) => (if r3 = 0 then oL (a3 + 1) (fun (v5 : Int32) => oV (f_X9_picksFirst S2 (a1 - (1 : Int32)) 1) (fun (S6 : ST) => k67 S6 a1 a2 v5 as0)) else k67 S2 a1 a2 a3 as0)) else k67 S a1 a2 a3 as0)
set_option maxHeartbeats 4000000 in
set_option maxRecDepth 100000 in
theorem b_X9_optimal_100 {p : Program} {l : Launch} {e : Env} {s : State} {m : MethodId} {args : Array Value} {below : List Frame} {meth : Method} {c : Code} {x : CX} {res : Int32 × ST} (F : MF p m meth c cX9_optimal 5 s args RX9 (some .int)) (k67 : ST → Int32 → Int32 → Int32 → Int32 → Option (Int32 × ST)) (hk67 : ∀ (H : Heap) (locs : List Loc) (ls : Array Slot) (S : ST), WD x s S H locs → ∀ (a1 : Int32) (a2 : Int32) (a3 : Int32) (a4 : Int32), lv_has ls 5 [(0, .ref (x.2.2 (80))), (1, .int a1), (2, .int a2), (3, .int a3), (4, .int a4)] → k67 S a1 a2 a3 a4 = some res → W p l e ({ frames := 2, cells := 0, slots := 0, locals := 51 } : Room) s m args below meth c H locs 0 0 (MQ below (QI x res.2 res.1 s.heap.size) args s 0 0 (AA x s.heap.size)) (F0 m 67 ls [])) : ∀ (H : Heap) (locs : List Loc) (ls : Array Slot) (S : ST), WD x s S H locs → ∀ (a1 : Int32) (a2 : Int32) (a3 : Int32) (as0 : Int32), lv_has ls 5 [(0, .ref (x.2.2 (80))), (1, .int a1), (2, .int a2), (3, .int a3)] → f_X9_optimal_100 k67 S a1 a2 a3 as0 = some res → W p l e ({ frames := 2, cells := 0, slots := 0, locals := 51 } : Room) s m args below meth c H locs 0 0 (MQ below (QI x res.2 res.1 s.heap.size) args s 0 0 (AA x s.heap.size)) (F0 m 100 ls [.int as0]) := by
  intro H locs ls S w a1 a2 a3 as0 hl hf
  unfold f_X9_optimal_100 at hf
  refine lv_istore (lv' := [(4, .int as0), (0, .ref (x.2.2 (80))), (1, .int a1), (2, .int a2), (3, .int a3)]) F.1 F.2.1 dX9_optimal_100 hl (by decide) rfl (fun ls hl => ?_)
  refine lv_iload F.1 F.2.1 dX9_optimal_102 (lv_at hl 0 rfl) ?_
  refine lv_if_ne (tgt := 67) F.1 F.2.1 dX9_optimal_104 (by decide) (fun c1 => ?_) (fun c1 => ?_)
  · replace hf := oi_f hf c1
    exact hk67 _ _ _ _ w a1 a2 a3 as0 (lv_sub hl [1, 2, 3, 4, 0] rfl) hf
  · replace hf := oi_t hf c1
    refine lv_aload_n F.1 F.2.1 dX9_optimal_107 rfl (lv_at hl 1 rfl) ?_
    refine lv_iload_n F.1 F.2.1 dX9_optimal_108 rfl (lv_at hl 2 rfl) ?_
    refine lv_iconst (v := 1) F.1 F.2.1 dX9_optimal_109 (by decide) ?_
    refine lv_isub F.1 F.2.1 dX9_optimal_110 ?_
    refine lv_iload_n F.1 F.2.1 dX9_optimal_111 rfl (lv_at hl 4 rfl) ?_
    obtain ⟨r3, S2, hc, hf⟩ := oi_b hf
    refine k_i0 (S' := S2) (r := r3) w (runV (As := [.int (a1 - (1 : Int32)), .int a3]) (rest := []) (kb := 80) F w (k_X9_skips l x S (a1 - (1 : Int32)) a3 hc H.size) cy_X9_skips q1145 q1147 qp50 ⟨rfl, rfl⟩ ⟨Nat.le_of_ble_eq_true rfl, Nat.le_of_ble_eq_true rfl⟩ (by decide) rfl rfl rfl rfl hl.1 (Nat.le_of_ble_eq_true rfl) ⟨Nat.le_of_ble_eq_true rfl, Nat.le_of_ble_eq_true rfl⟩ dX9_optimal_112) (fun H locs w => ?_)
    refine lv_if_ne (tgt := 67) F.1 F.2.1 dX9_optimal_115 (by decide) (fun c4 => ?_) (fun c4 => ?_)
    · replace hf := oi_f hf c4
      exact hk67 _ _ _ _ w a1 a2 a3 as0 (lv_sub hl [1, 2, 3, 4, 0] rfl) hf
    · replace hf := oi_t hf c4
      obtain ⟨v5, e_v5⟩ : ∃ y : Int32, y = (a3 + 1) := ⟨_, rfl⟩
      replace hf := oi_l hf e_v5
      refine lv_iinc (v := v5) (lv' := [(3, .int v5), (4, .int as0), (0, .ref (x.2.2 (80))), (1, .int a1), (2, .int a2)]) F.1 F.2.1 dX9_optimal_118 hl (k := 4) rfl (by rw [e_v5]; rfl) (by decide) rfl (fun ls hl => ?_)
      refine lv_aload_n F.1 F.2.1 dX9_optimal_121 rfl (lv_at hl 2 rfl) ?_
      refine lv_iload_n F.1 F.2.1 dX9_optimal_122 rfl (lv_at hl 3 rfl) ?_
      refine lv_iconst (v := 1) F.1 F.2.1 dX9_optimal_123 (by decide) ?_
      refine lv_isub F.1 F.2.1 dX9_optimal_124 ?_
      refine lv_iconst (v := 1) F.1 F.2.1 dX9_optimal_125 (by decide) ?_
      obtain ⟨S6, hc, hf⟩ := oi_v hf
      refine k_v0 (S' := S6) w (runV (As := [.int (a1 - (1 : Int32)), .int 1]) (rest := []) (kb := 80) F w (k_X9_picksFirst l x S2 (a1 - (1 : Int32)) 1 hc H.size) cy_X9_picksFirst q1137 q1139 qp48 ⟨rfl, rfl⟩ ⟨Nat.le_of_ble_eq_true rfl, Nat.le_of_ble_eq_true rfl⟩ (by decide) rfl rfl rfl rfl hl.1 (Nat.le_of_ble_eq_true rfl) ⟨Nat.le_of_ble_eq_true rfl, Nat.le_of_ble_eq_true rfl⟩ dX9_optimal_126) (fun H locs w => ?_)
      refine lv_goto (tgt := 67) F.1 F.2.1 dX9_optimal_129 (by decide) ?_
      exact hk67 _ _ _ _ w a1 a2 v5 as0 (lv_sub hl [2, 3, 4, 0, 1] rfl) hf
def f_X9_optimal_99 (k67 : ST → Int32 → Int32 → Int32 → Int32 → Option (Int32 × ST)) (S : ST) (a1 : Int32) (a2 : Int32) (a3 : Int32) : Option (Int32 × ST) := f_X9_optimal_100 k67 S a1 a2 a3 0
set_option maxHeartbeats 4000000 in
set_option maxRecDepth 100000 in
theorem b_X9_optimal_99 {p : Program} {l : Launch} {e : Env} {s : State} {m : MethodId} {args : Array Value} {below : List Frame} {meth : Method} {c : Code} {x : CX} {res : Int32 × ST} (F : MF p m meth c cX9_optimal 5 s args RX9 (some .int)) (k67 : ST → Int32 → Int32 → Int32 → Int32 → Option (Int32 × ST)) (hk67 : ∀ (H : Heap) (locs : List Loc) (ls : Array Slot) (S : ST), WD x s S H locs → ∀ (a1 : Int32) (a2 : Int32) (a3 : Int32) (a4 : Int32), lv_has ls 5 [(0, .ref (x.2.2 (80))), (1, .int a1), (2, .int a2), (3, .int a3), (4, .int a4)] → k67 S a1 a2 a3 a4 = some res → W p l e ({ frames := 2, cells := 0, slots := 0, locals := 51 } : Room) s m args below meth c H locs 0 0 (MQ below (QI x res.2 res.1 s.heap.size) args s 0 0 (AA x s.heap.size)) (F0 m 67 ls [])) : ∀ (H : Heap) (locs : List Loc) (ls : Array Slot) (S : ST), WD x s S H locs → ∀ (a1 : Int32) (a2 : Int32) (a3 : Int32), lv_has ls 5 [(0, .ref (x.2.2 (80))), (1, .int a1), (2, .int a2), (3, .int a3)] → f_X9_optimal_99 k67 S a1 a2 a3 = some res → W p l e ({ frames := 2, cells := 0, slots := 0, locals := 51 } : Room) s m args below meth c H locs 0 0 (MQ below (QI x res.2 res.1 s.heap.size) args s 0 0 (AA x s.heap.size)) (F0 m 99 ls []) := by
  intro H locs ls S w a1 a2 a3 hl hf
  unfold f_X9_optimal_99 at hf
  refine lv_iconst (v := 0) F.1 F.2.1 dX9_optimal_99 (by decide) ?_
  exact b_X9_optimal_100 F k67 hk67 _ _ _ _ w a1 a2 a3 0 (lv_sub hl [0, 1, 2, 3] rfl) hf
def f_X9_optimal_67 : Nat → ST → Int32 → Int32 → Int32 → Int32 → Option (Int32 × ST)
  | 0, _, _, _, _, _ => none
  | n + 1, S, a1, a2, a3, a4 => (if a4 = 0 then oG (inB (a1 - (2 : Int32)) 24) ((if (ai S 35 (Int32.toNatClampNeg (a1 - (2 : Int32)))) = a3 then oB (f_X9_clash S (a1 - (1 : Int32))) (fun (r10 : Int32) (S9 : ST) => (if r10 = (-1) then f_X9_optimal_100 (f_X9_optimal_67 n) S9 a1 a2 a3 1 else f_X9_optimal_99 (f_X9_optimal_67 n) S9 a1 a2 a3)) else f_X9_optimal_99 (f_X9_optimal_67 n) S a1 a2 a3)) else oV (f_X9_makes S (a1 - (1 : Int32))) (fun (S2 : ST) => oB (f_X9_becomes S2 a2) (fun (r4 : Int32) (S3 : ST) => oB (f_X9_lengthOf S3 a2) (fun (r6 : Int32) (S5 : ST) => some (r6, S5)))))
set_option maxHeartbeats 4000000 in
set_option maxRecDepth 100000 in
theorem b_X9_optimal_67 {p : Program} {l : Launch} {e : Env} {s : State} {m : MethodId} {args : Array Value} {below : List Frame} {meth : Method} {c : Code} {x : CX} {res : Int32 × ST} (F : MF p m meth c cX9_optimal 5 s args RX9 (some .int)) : ∀ (n : Nat), ∀ (H : Heap) (locs : List Loc) (ls : Array Slot) (S : ST), WD x s S H locs → ∀ (a1 : Int32) (a2 : Int32) (a3 : Int32) (a4 : Int32), lv_has ls 5 [(0, .ref (x.2.2 (80))), (1, .int a1), (2, .int a2), (3, .int a3), (4, .int a4)] → f_X9_optimal_67 n S a1 a2 a3 a4 = some res → W p l e ({ frames := 2, cells := 0, slots := 0, locals := 51 } : Room) s m args below meth c H locs 0 0 (MQ below (QI x res.2 res.1 s.heap.size) args s 0 0 (AA x s.heap.size)) (F0 m 67 ls []) := by
  intro n
  induction n with
  | zero =>
    intro H locs ls S w a1 a2 a3 a4 hl hf
    have hf : (none : Option (Int32 × ST)) = some res := hf
    cases hf
  | succ n ih =>
    intro H locs ls S w a1 a2 a3 a4 hl hf
    unfold f_X9_optimal_67 at hf
    refine lv_iload F.1 F.2.1 dX9_optimal_67 (lv_at hl 4 rfl) ?_
    refine lv_if_ne (tgt := 132) F.1 F.2.1 dX9_optimal_69 (by decide) (fun c1 => ?_) (fun c1 => ?_)
    · replace hf := oi_f hf c1
      refine lv_aload_n F.1 F.2.1 dX9_optimal_132 rfl (lv_at hl 0 rfl) ?_
      refine lv_iload_n F.1 F.2.1 dX9_optimal_133 rfl (lv_at hl 1 rfl) ?_
      refine lv_iconst (v := 1) F.1 F.2.1 dX9_optimal_134 (by decide) ?_
      refine lv_isub F.1 F.2.1 dX9_optimal_135 ?_
      obtain ⟨S2, hc, hf⟩ := oi_v hf
      refine k_v0 (S' := S2) w (runV (As := [.int (a1 - (1 : Int32))]) (rest := []) (kb := 80) F w (k_X9_makes l x S (a1 - (1 : Int32)) hc H.size) cy_X9_makes q1153 q1155 qp52 ⟨rfl, rfl⟩ ⟨Nat.le_of_ble_eq_true rfl, Nat.le_of_ble_eq_true rfl⟩ (by decide) rfl rfl rfl rfl hl.1 (Nat.le_of_ble_eq_true rfl) ⟨Nat.le_of_ble_eq_true rfl, Nat.le_of_ble_eq_true rfl⟩ dX9_optimal_136) (fun H locs w => ?_)
      refine lv_aload_n F.1 F.2.1 dX9_optimal_139 rfl (lv_at hl 0 rfl) ?_
      refine lv_iload_n F.1 F.2.1 dX9_optimal_140 rfl (lv_at hl 2 rfl) ?_
      obtain ⟨r4, S3, hc, hf⟩ := oi_b hf
      refine k_i0 (S' := S3) (r := r4) w (runV (As := [.int a2]) (rest := []) (kb := 80) F w (k_X9_becomes l x S2 a2 hc H.size) cy_X9_becomes q944 q946 qp27 ⟨rfl, rfl⟩ ⟨Nat.le_of_ble_eq_true rfl, Nat.le_of_ble_eq_true rfl⟩ (by decide) rfl rfl rfl rfl hl.1 (Nat.le_of_ble_eq_true rfl) ⟨Nat.le_of_ble_eq_true rfl, Nat.le_of_ble_eq_true rfl⟩ dX9_optimal_141) (fun H locs w => ?_)
      refine lv_pop F.1 F.2.1 dX9_optimal_144 rfl ?_
      refine lv_aload_n F.1 F.2.1 dX9_optimal_145 rfl (lv_at hl 0 rfl) ?_
      refine lv_iload_n F.1 F.2.1 dX9_optimal_146 rfl (lv_at hl 2 rfl) ?_
      obtain ⟨r6, S5, hc, hf⟩ := oi_b hf
      refine k_i0 (S' := S5) (r := r6) w (runV (As := [.int a2]) (rest := []) (kb := 80) F w (k_X9_lengthOf l x S3 a2 hc H.size) cy_X9_lengthOf q972 q974 qp28 ⟨rfl, rfl⟩ ⟨Nat.le_of_ble_eq_true rfl, Nat.le_of_ble_eq_true rfl⟩ (by decide) rfl rfl rfl rfl hl.1 (Nat.le_of_ble_eq_true rfl) ⟨Nat.le_of_ble_eq_true rfl, Nat.le_of_ble_eq_true rfl⟩ dX9_optimal_147) (fun H locs w => ?_)
      exact r_iret F w (oi_s hf) dX9_optimal_150
    · replace hf := oi_t hf c1
      refine lv_aload_n F.1 F.2.1 dX9_optimal_72 rfl (lv_at hl 0 rfl) ?_
      refine g_MD_pick F w q871 dX9_optimal_73 ?_
      refine lv_iload_n F.1 F.2.1 dX9_optimal_76 rfl (lv_at hl 1 rfl) ?_
      refine lv_iconst (v := 2) F.1 F.2.1 dX9_optimal_77 (by decide) ?_
      refine lv_isub F.1 F.2.1 dX9_optimal_78 ?_
      obtain ⟨hb7, hf⟩ := oi_g hf
      refine r_iald F w (k := 86) (f := ai S 35) (by decide) rfl hb7 dX9_optimal_79 ?_
      refine lv_iload_n F.1 F.2.1 dX9_optimal_80 rfl (lv_at hl 3 rfl) ?_
      refine lv_icmp_ne (tgt := 99) F.1 F.2.1 dX9_optimal_81 (by decide) (fun c8 => ?_) (fun c8 => ?_)
      · replace hf := oi_f hf c8
        exact b_X9_optimal_99 F (f_X9_optimal_67 n) ih _ _ _ _ w a1 a2 a3 (lv_sub hl [0, 1, 2, 3] rfl) hf
      · replace hf := oi_t hf c8
        refine lv_aload_n F.1 F.2.1 dX9_optimal_84 rfl (lv_at hl 0 rfl) ?_
        refine lv_iload_n F.1 F.2.1 dX9_optimal_85 rfl (lv_at hl 1 rfl) ?_
        refine lv_iconst (v := 1) F.1 F.2.1 dX9_optimal_86 (by decide) ?_
        refine lv_isub F.1 F.2.1 dX9_optimal_87 ?_
        obtain ⟨r10, S9, hc, hf⟩ := oi_b hf
        refine k_i0 (S' := S9) (r := r10) w (runV (As := [.int (a1 - (1 : Int32))]) (rest := []) (kb := 80) F w (k_X9_clash l x S (a1 - (1 : Int32)) hc H.size) cy_X9_clash q1141 q1143 qp49 ⟨rfl, rfl⟩ ⟨Nat.le_of_ble_eq_true rfl, Nat.le_of_ble_eq_true rfl⟩ (by decide) rfl rfl rfl rfl hl.1 (Nat.le_of_ble_eq_true rfl) ⟨Nat.le_of_ble_eq_true rfl, Nat.le_of_ble_eq_true rfl⟩ dX9_optimal_88) (fun H locs w => ?_)
        refine lv_iconst (v := (-1)) F.1 F.2.1 dX9_optimal_91 (by decide) ?_
        refine lv_icmp_ne (tgt := 99) F.1 F.2.1 dX9_optimal_92 (by decide) (fun c11 => ?_) (fun c11 => ?_)
        · replace hf := oi_f hf c11
          exact b_X9_optimal_99 F (f_X9_optimal_67 n) ih _ _ _ _ w a1 a2 a3 (lv_sub hl [0, 1, 2, 3] rfl) hf
        · replace hf := oi_t hf c11
          refine lv_iconst (v := 1) F.1 F.2.1 dX9_optimal_95 (by decide) ?_
          refine lv_goto (tgt := 100) F.1 F.2.1 dX9_optimal_96 (by decide) ?_
          exact b_X9_optimal_100 F (f_X9_optimal_67 n) ih _ _ _ _ w a1 a2 a3 1 (lv_sub hl [0, 1, 2, 3] rfl) hf
def f_X9_optimal_57 (S : ST) (a1 : Int32) (a2 : Int32) (a3 : Int32) (as0 : Int32) : Option (Int32 × ST) := oV (f_X9_picksFirst S (a1 - (1 : Int32)) 1) (fun (S1 : ST) => f_X9_optimal_67 FU S1 a1 a2 a3 as0)
set_option maxHeartbeats 4000000 in
set_option maxRecDepth 100000 in
theorem b_X9_optimal_57 {p : Program} {l : Launch} {e : Env} {s : State} {m : MethodId} {args : Array Value} {below : List Frame} {meth : Method} {c : Code} {x : CX} {res : Int32 × ST} (F : MF p m meth c cX9_optimal 5 s args RX9 (some .int)) : ∀ (H : Heap) (locs : List Loc) (ls : Array Slot) (S : ST), WD x s S H locs → ∀ (a1 : Int32) (a2 : Int32) (a3 : Int32) (as0 : Int32), lv_has ls 5 [(0, .ref (x.2.2 (80))), (1, .int a1), (2, .int a2), (3, .int a3)] → f_X9_optimal_57 S a1 a2 a3 as0 = some res → W p l e ({ frames := 2, cells := 0, slots := 0, locals := 51 } : Room) s m args below meth c H locs 0 0 (MQ below (QI x res.2 res.1 s.heap.size) args s 0 0 (AA x s.heap.size)) (F0 m 57 ls [.int as0]) := by
  intro H locs ls S w a1 a2 a3 as0 hl hf
  unfold f_X9_optimal_57 at hf
  refine lv_istore (lv' := [(4, .int as0), (0, .ref (x.2.2 (80))), (1, .int a1), (2, .int a2), (3, .int a3)]) F.1 F.2.1 dX9_optimal_57 hl (by decide) rfl (fun ls hl => ?_)
  refine lv_aload_n F.1 F.2.1 dX9_optimal_59 rfl (lv_at hl 1 rfl) ?_
  refine lv_iload_n F.1 F.2.1 dX9_optimal_60 rfl (lv_at hl 2 rfl) ?_
  refine lv_iconst (v := 1) F.1 F.2.1 dX9_optimal_61 (by decide) ?_
  refine lv_isub F.1 F.2.1 dX9_optimal_62 ?_
  refine lv_iconst (v := 1) F.1 F.2.1 dX9_optimal_63 (by decide) ?_
  obtain ⟨S1, hc, hf⟩ := oi_v hf
  refine k_v0 (S' := S1) w (runV (As := [.int (a1 - (1 : Int32)), .int 1]) (rest := []) (kb := 80) F w (k_X9_picksFirst l x S (a1 - (1 : Int32)) 1 hc H.size) cy_X9_picksFirst q1137 q1139 qp48 ⟨rfl, rfl⟩ ⟨Nat.le_of_ble_eq_true rfl, Nat.le_of_ble_eq_true rfl⟩ (by decide) rfl rfl rfl rfl hl.1 (Nat.le_of_ble_eq_true rfl) ⟨Nat.le_of_ble_eq_true rfl, Nat.le_of_ble_eq_true rfl⟩ dX9_optimal_64) (fun H locs w => ?_)
  exact b_X9_optimal_67 F FU _ _ _ _ w a1 a2 a3 as0 (lv_sub hl [1, 2, 3, 4, 0] rfl) hf
def f_X9_optimal_27 (S : ST) (a1 : Int32) (a2 : Int32) (as0 : Int32) : Option (Int32 × ST) := oB (f_X9_refused S as0) (fun (r2 : Int32) (S1 : ST) => (if r2 = 0 then oV (f_X9_saves S1) (fun (S4 : ST) => oG (nz 2) (oL ((a1 * (a1 - (1 : Int32))) / 2) (fun (v6 : Int32) => (if a1 = 1 then f_X9_optimal_57 S4 a1 a2 v6 1 else f_X9_optimal_57 S4 a1 a2 v6 0)))) else some (0, S1)))
set_option maxHeartbeats 4000000 in
set_option maxRecDepth 100000 in
theorem b_X9_optimal_27 {p : Program} {l : Launch} {e : Env} {s : State} {m : MethodId} {args : Array Value} {below : List Frame} {meth : Method} {c : Code} {x : CX} {res : Int32 × ST} (F : MF p m meth c cX9_optimal 5 s args RX9 (some .int)) : ∀ (H : Heap) (locs : List Loc) (ls : Array Slot) (S : ST), WD x s S H locs → ∀ (a1 : Int32) (a2 : Int32) (as0 : Int32), lv_has ls 5 [(0, .ref (x.2.2 (80))), (1, .int a1), (2, .int a2)] → f_X9_optimal_27 S a1 a2 as0 = some res → W p l e ({ frames := 2, cells := 0, slots := 0, locals := 51 } : Room) s m args below meth c H locs 0 0 (MQ below (QI x res.2 res.1 s.heap.size) args s 0 0 (AA x s.heap.size)) (F0 m 27 ls [.int as0, .ref (x.2.2 (80))]) := by
  intro H locs ls S w a1 a2 as0 hl hf
  unfold f_X9_optimal_27 at hf
  obtain ⟨r2, S1, hc, hf⟩ := oi_b hf
  refine k_i0 (S' := S1) (r := r2) w (runV (As := [.int as0]) (rest := []) (kb := 80) F w (k_X9_refused l x S as0 hc H.size) cy_X9_refused q902 q904 qp19 ⟨rfl, rfl⟩ ⟨Nat.le_of_ble_eq_true rfl, Nat.le_of_ble_eq_true rfl⟩ (by decide) rfl rfl rfl rfl hl.1 (Nat.le_of_ble_eq_true rfl) ⟨Nat.le_of_ble_eq_true rfl, Nat.le_of_ble_eq_true rfl⟩ dX9_optimal_27) (fun H locs w => ?_)
  refine lv_if_eq (tgt := 35) F.1 F.2.1 dX9_optimal_30 (by decide) (fun c3 => ?_) (fun c3 => ?_)
  · replace hf := oi_t hf c3
    refine lv_aload_n F.1 F.2.1 dX9_optimal_35 rfl (lv_at hl 0 rfl) ?_
    obtain ⟨S4, hc, hf⟩ := oi_v hf
    refine k_v0 (S' := S4) w (runV (As := []) (rest := []) (kb := 80) F w (k_X9_saves l x S1 hc H.size) cy_X9_saves q928 q930 qp23 ⟨rfl, rfl⟩ ⟨Nat.le_of_ble_eq_true rfl, Nat.le_of_ble_eq_true rfl⟩ (by decide) rfl rfl rfl rfl hl.1 (Nat.le_of_ble_eq_true rfl) ⟨Nat.le_of_ble_eq_true rfl, Nat.le_of_ble_eq_true rfl⟩ dX9_optimal_36) (fun H locs w => ?_)
    refine lv_iload_n F.1 F.2.1 dX9_optimal_39 rfl (lv_at hl 1 rfl) ?_
    refine lv_iload_n F.1 F.2.1 dX9_optimal_40 rfl (lv_at hl 1 rfl) ?_
    refine lv_iconst (v := 1) F.1 F.2.1 dX9_optimal_41 (by decide) ?_
    refine lv_isub F.1 F.2.1 dX9_optimal_42 ?_
    refine lv_imul F.1 F.2.1 dX9_optimal_43 ?_
    refine lv_iconst (v := 2) F.1 F.2.1 dX9_optimal_44 (by decide) ?_
    obtain ⟨hz5, hf⟩ := oi_g hf
    refine lv_idiv F.1 F.2.1 dX9_optimal_45 (nz_ne hz5) ?_
    refine lv_topi (fun v6 e_v6 => ?_)
    replace hf := oi_l hf e_v6
    refine lv_istore_n (lv' := [(3, .int v6), (0, .ref (x.2.2 (80))), (1, .int a1), (2, .int a2)]) F.1 F.2.1 dX9_optimal_46 rfl hl (by decide) rfl (fun ls hl => ?_)
    refine lv_iload_n F.1 F.2.1 dX9_optimal_47 rfl (lv_at hl 2 rfl) ?_
    refine lv_iconst (v := 1) F.1 F.2.1 dX9_optimal_48 (by decide) ?_
    refine lv_icmp_ne (tgt := 56) F.1 F.2.1 dX9_optimal_49 (by decide) (fun c7 => ?_) (fun c7 => ?_)
    · replace hf := oi_f hf c7
      refine lv_iconst (v := 0) F.1 F.2.1 dX9_optimal_56 (by decide) ?_
      exact b_X9_optimal_57 F  _ _ _ _ w a1 a2 v6 0 (lv_sub hl [1, 2, 3, 0] rfl) hf
    · replace hf := oi_t hf c7
      refine lv_iconst (v := 1) F.1 F.2.1 dX9_optimal_52 (by decide) ?_
      refine lv_goto (tgt := 57) F.1 F.2.1 dX9_optimal_53 (by decide) ?_
      exact b_X9_optimal_57 F  _ _ _ _ w a1 a2 v6 1 (lv_sub hl [1, 2, 3, 0] rfl) hf
  · replace hf := oi_f hf c3
    refine lv_iconst (v := 0) F.1 F.2.1 dX9_optimal_33 (by decide) ?_
    exact r_iret F w (oi_s hf) dX9_optimal_34
def f_X9_optimal_0 (S : ST) (a1 : Int32) (a2 : Int32) : Option (Int32 × ST) := oB (f_X9_isSet S a2) (fun (r2 : Int32) (S1 : ST) => (if r2 = 0 then f_X9_optimal_27 S1 a1 a2 1 else oB (f_X9_within S1 a1 1 7) (fun (r5 : Int32) (S4 : ST) => (if r5 = 0 then f_X9_optimal_27 S4 a1 a2 2 else f_X9_optimal_27 S4 a1 a2 0))))
set_option maxHeartbeats 4000000 in
set_option maxRecDepth 100000 in
theorem b_X9_optimal_0 {p : Program} {l : Launch} {e : Env} {s : State} {m : MethodId} {args : Array Value} {below : List Frame} {meth : Method} {c : Code} {x : CX} {res : Int32 × ST} (F : MF p m meth c cX9_optimal 5 s args RX9 (some .int)) : ∀ (H : Heap) (locs : List Loc) (ls : Array Slot) (S : ST), WD x s S H locs → ∀ (a1 : Int32) (a2 : Int32), lv_has ls 5 [(0, .ref (x.2.2 (80))), (1, .int a1), (2, .int a2)] → f_X9_optimal_0 S a1 a2 = some res → W p l e ({ frames := 2, cells := 0, slots := 0, locals := 51 } : Room) s m args below meth c H locs 0 0 (MQ below (QI x res.2 res.1 s.heap.size) args s 0 0 (AA x s.heap.size)) (F0 m 0 ls []) := by
  intro H locs ls S w a1 a2 hl hf
  unfold f_X9_optimal_0 at hf
  refine lv_aload_n F.1 F.2.1 dX9_optimal_0 rfl (lv_at hl 0 rfl) ?_
  refine lv_iload_n F.1 F.2.1 dX9_optimal_1 rfl (lv_at hl 2 rfl) ?_
  obtain ⟨r2, S1, hc, hf⟩ := oi_b hf
  refine k_i0 (S' := S1) (r := r2) w (runS (As := [.int a2]) (rest := [.ref (x.2.2 (80))]) F w (k_X9_isSet l x S a2 hc H.size) cy_X9_isSet q910 q911 ⟨rfl, rfl⟩ ⟨Nat.le_of_ble_eq_true rfl, Nat.le_of_ble_eq_true rfl⟩ rfl rfl hl.1 (Nat.le_of_ble_eq_true rfl) ⟨Nat.le_of_ble_eq_true rfl, Nat.le_of_ble_eq_true rfl⟩ dX9_optimal_2) (fun H locs w => ?_)
  refine lv_if_ne (tgt := 12) F.1 F.2.1 dX9_optimal_5 (by decide) (fun c3 => ?_) (fun c3 => ?_)
  · replace hf := oi_f hf c3
    refine lv_iload_n F.1 F.2.1 dX9_optimal_12 rfl (lv_at hl 1 rfl) ?_
    refine lv_iconst (v := 1) F.1 F.2.1 dX9_optimal_13 (by decide) ?_
    refine lv_bipush (v := 7) F.1 F.2.1 dX9_optimal_14 (by decide) ?_
    obtain ⟨r5, S4, hc, hf⟩ := oi_b hf
    refine k_i0 (S' := S4) (r := r5) w (runS (As := [.int a1, .int 1, .int 7]) (rest := [.ref (x.2.2 (80))]) F w (k_X9_within l x S1 a1 1 7 hc H.size) cy_X9_within q913 q914 ⟨rfl, rfl⟩ ⟨Nat.le_of_ble_eq_true rfl, Nat.le_of_ble_eq_true rfl⟩ rfl rfl hl.1 (Nat.le_of_ble_eq_true rfl) ⟨Nat.le_of_ble_eq_true rfl, Nat.le_of_ble_eq_true rfl⟩ dX9_optimal_16) (fun H locs w => ?_)
    refine lv_if_eq (tgt := 26) F.1 F.2.1 dX9_optimal_19 (by decide) (fun c6 => ?_) (fun c6 => ?_)
    · replace hf := oi_t hf c6
      refine lv_iconst (v := 2) F.1 F.2.1 dX9_optimal_26 (by decide) ?_
      exact b_X9_optimal_27 F  _ _ _ _ w a1 a2 2 (lv_sub hl [0, 1, 2] rfl) hf
    · replace hf := oi_f hf c6
      refine lv_iconst (v := 0) F.1 F.2.1 dX9_optimal_22 (by decide) ?_
      refine lv_goto (tgt := 27) F.1 F.2.1 dX9_optimal_23 (by decide) ?_
      exact b_X9_optimal_27 F  _ _ _ _ w a1 a2 0 (lv_sub hl [0, 1, 2] rfl) hf
  · replace hf := oi_t hf c3
    refine lv_iconst (v := 1) F.1 F.2.1 dX9_optimal_8 (by decide) ?_
    refine lv_goto (tgt := 27) F.1 F.2.1 dX9_optimal_9 (by decide) ?_
    exact b_X9_optimal_27 F  _ _ _ _ w a1 a2 1 (lv_sub hl [0, 1, 2] rfl) hf
def f_X9_optimal (S : ST) (a1 : Int32) (a2 : Int32) : Option (Int32 × ST) := f_X9_optimal_0 S a1 a2
set_option maxHeartbeats 4000000 in
set_option maxRecDepth 100000 in
theorem k_X9_optimal (l : Launch) (x : CX) (S : ST) (a1 : Int32) (a2 : Int32) {res : Int32 × ST} (hf : f_X9_optimal S a1 a2 = some res) (sz : Nat) : Met l yX9_optimal (Cond.code yX9_optimal cX9_optimal 5 (some .int) :: GW) ({ frames := 2, cells := 0, slots := 0, locals := 51 } : Room) (PC x S sz [.ref (x.2.2 (80)), .int a1, .int a2]) (QI x res.2 res.1 sz) 0 0 (AA x sz) := by
  refine Met.ofW (cc := cX9_optimal) (maxL := 5) (ret := (some .int)) (by decide) rfl ?_
  intro p e s m args below meth c s₁ B hml hv
  obtain ⟨rfl, rfl, hPW⟩ := hv
  have F : MF p m meth c cX9_optimal 5 s _ RX9 (some .int) := MF.of B hml
  have w := WD.of hPW
  have hl := lv_entry ([.ref (x.2.2 (80)), .int a1, .int a2]) (n := 5) (Nat.le_of_ble_eq_true rfl)
  rw [lg_entry_eq]
  generalize (lg_sl ([.ref (x.2.2 (80)), .int a1, .int a2]) ++ List.replicate (5 - (lg_sl ([.ref (x.2.2 (80)), .int a1, .int a2])).length) Slot.unset).toArray = ls at hl ⊢
  have hl : lv_has ls 5 [(0, .ref (x.2.2 (80))), (1, .int a1), (2, .int a2)] := hl
  unfold f_X9_optimal at hf
  exact b_X9_optimal_0 F  _ _ _ _ w a1 a2 (lv_sub hl [0, 1, 2] rfl) hf
theorem cy_X9_isComplete : CY yX9_isComplete RX9 cX9_isComplete 4 (some .boolean) 2 := ⟨q10, q1163, rfl, by decide, by decide, by decide +kernel⟩
def f_X9_isComplete_26 (k4 : ST → Int32 → Int32 → Int32 → Int32 → Option (Int32 × ST)) (S : ST) (a0 : Int32) (a1 : Int32) (a3 : Int32) (as0 : Int32) : Option (Int32 × ST) := oL (a3 + 1) (fun (v1 : Int32) => k4 S a0 a1 as0 v1)
set_option maxHeartbeats 4000000 in
set_option maxRecDepth 100000 in
theorem b_X9_isComplete_26 {p : Program} {l : Launch} {e : Env} {s : State} {m : MethodId} {args : Array Value} {below : List Frame} {meth : Method} {c : Code} {x : CX} {res : Int32 × ST} (F : MF p m meth c cX9_isComplete 4 s args RX9 (some .boolean)) (k4 : ST → Int32 → Int32 → Int32 → Int32 → Option (Int32 × ST)) (hk4 : ∀ (H : Heap) (locs : List Loc) (ls : Array Slot) (S : ST), WD x s S H locs → ∀ (a0 : Int32) (a1 : Int32) (a2 : Int32) (a3 : Int32), lv_has ls 4 [(0, .int a0), (1, .int a1), (2, .int a2), (3, .int a3)] → k4 S a0 a1 a2 a3 = some res → W p l e ({ frames := 0, cells := 0, slots := 0, locals := 0 } : Room) s m args below meth c H locs 0 0 (MQ below (QI x res.2 res.1 s.heap.size) args s 0 0 (AA x s.heap.size)) (F0 m 4 ls [])) : ∀ (H : Heap) (locs : List Loc) (ls : Array Slot) (S : ST), WD x s S H locs → ∀ (a0 : Int32) (a1 : Int32) (a3 : Int32) (as0 : Int32), lv_has ls 4 [(0, .int a0), (1, .int a1), (3, .int a3)] → f_X9_isComplete_26 k4 S a0 a1 a3 as0 = some res → W p l e ({ frames := 0, cells := 0, slots := 0, locals := 0 } : Room) s m args below meth c H locs 0 0 (MQ below (QI x res.2 res.1 s.heap.size) args s 0 0 (AA x s.heap.size)) (F0 m 26 ls [.int as0]) := by
  intro H locs ls S w a0 a1 a3 as0 hl hf
  unfold f_X9_isComplete_26 at hf
  refine lv_istore_n (lv' := [(2, .int as0), (0, .int a0), (1, .int a1), (3, .int a3)]) F.1 F.2.1 dX9_isComplete_26 rfl hl (by decide) rfl (fun ls hl => ?_)
  obtain ⟨v1, e_v1⟩ : ∃ y : Int32, y = (a3 + 1) := ⟨_, rfl⟩
  replace hf := oi_l hf e_v1
  refine lv_iinc (v := v1) (lv' := [(3, .int v1), (2, .int as0), (0, .int a0), (1, .int a1)]) F.1 F.2.1 dX9_isComplete_27 hl (k := 3) rfl (by rw [e_v1]; rfl) (by decide) rfl (fun ls hl => ?_)
  refine lv_goto (tgt := 4) F.1 F.2.1 dX9_isComplete_30 (by decide) ?_
  exact hk4 _ _ _ _ w a0 a1 as0 v1 (lv_sub hl [2, 3, 1, 0] rfl) hf
def f_X9_isComplete_33 (S : ST) (a2 : Int32) : Option (Int32 × ST) := oG (isB a2) (some (a2, S))
set_option maxHeartbeats 4000000 in
set_option maxRecDepth 100000 in
theorem b_X9_isComplete_33 {p : Program} {l : Launch} {e : Env} {s : State} {m : MethodId} {args : Array Value} {below : List Frame} {meth : Method} {c : Code} {x : CX} {res : Int32 × ST} (F : MF p m meth c cX9_isComplete 4 s args RX9 (some .boolean)) : ∀ (H : Heap) (locs : List Loc) (ls : Array Slot) (S : ST), WD x s S H locs → ∀ (a2 : Int32), lv_has ls 4 [(2, .int a2)] → f_X9_isComplete_33 S a2 = some res → W p l e ({ frames := 0, cells := 0, slots := 0, locals := 0 } : Room) s m args below meth c H locs 0 0 (MQ below (QI x res.2 res.1 s.heap.size) args s 0 0 (AA x s.heap.size)) (F0 m 33 ls []) := by
  intro H locs ls S w a2 hl hf
  unfold f_X9_isComplete_33 at hf
  refine lv_iload_n F.1 F.2.1 dX9_isComplete_33 rfl (lv_at hl 0 rfl) ?_
  obtain ⟨hz1, hf⟩ := oi_g hf
  exact r_zret F w (isB_nar hz1) (oi_s hf) dX9_isComplete_34
def f_X9_isComplete_4 : Nat → ST → Int32 → Int32 → Int32 → Int32 → Option (Int32 × ST)
  | 0, _, _, _, _, _ => none
  | n + 1, S, a0, a1, a2, a3 => (if a1 < a3 then f_X9_isComplete_33 S a2 else (if a2 = 0 then f_X9_isComplete_33 S a2 else (if (a0 &&& (a0 >>> (a3 &&& 31))) = 0 then f_X9_isComplete_26 (f_X9_isComplete_4 n) S a0 a1 a3 0 else f_X9_isComplete_26 (f_X9_isComplete_4 n) S a0 a1 a3 1)))
set_option maxHeartbeats 4000000 in
set_option maxRecDepth 100000 in
theorem b_X9_isComplete_4 {p : Program} {l : Launch} {e : Env} {s : State} {m : MethodId} {args : Array Value} {below : List Frame} {meth : Method} {c : Code} {x : CX} {res : Int32 × ST} (F : MF p m meth c cX9_isComplete 4 s args RX9 (some .boolean)) : ∀ (n : Nat), ∀ (H : Heap) (locs : List Loc) (ls : Array Slot) (S : ST), WD x s S H locs → ∀ (a0 : Int32) (a1 : Int32) (a2 : Int32) (a3 : Int32), lv_has ls 4 [(0, .int a0), (1, .int a1), (2, .int a2), (3, .int a3)] → f_X9_isComplete_4 n S a0 a1 a2 a3 = some res → W p l e ({ frames := 0, cells := 0, slots := 0, locals := 0 } : Room) s m args below meth c H locs 0 0 (MQ below (QI x res.2 res.1 s.heap.size) args s 0 0 (AA x s.heap.size)) (F0 m 4 ls []) := by
  intro n
  induction n with
  | zero =>
    intro H locs ls S w a0 a1 a2 a3 hl hf
    have hf : (none : Option (Int32 × ST)) = some res := hf
    cases hf
  | succ n ih =>
    intro H locs ls S w a0 a1 a2 a3 hl hf
    unfold f_X9_isComplete_4 at hf
    refine lv_iload_n F.1 F.2.1 dX9_isComplete_4 rfl (lv_at hl 3 rfl) ?_
    refine lv_iload_n F.1 F.2.1 dX9_isComplete_5 rfl (lv_at hl 1 rfl) ?_
    refine lv_icmp_gt (tgt := 33) F.1 F.2.1 dX9_isComplete_6 (by decide) (fun c1 => ?_) (fun c1 => ?_)
    · replace hf := oi_t hf c1
      exact b_X9_isComplete_33 F  _ _ _ _ w a2 (lv_sub hl [2] rfl) hf
    · replace hf := oi_f hf c1
      refine lv_iload_n F.1 F.2.1 dX9_isComplete_9 rfl (lv_at hl 2 rfl) ?_
      refine lv_if_eq (tgt := 33) F.1 F.2.1 dX9_isComplete_10 (by decide) (fun c2 => ?_) (fun c2 => ?_)
      · replace hf := oi_t hf c2
        exact b_X9_isComplete_33 F  _ _ _ _ w a2 (lv_sub hl [2] rfl) hf
      · replace hf := oi_f hf c2
        refine lv_iload_n F.1 F.2.1 dX9_isComplete_13 rfl (lv_at hl 0 rfl) ?_
        refine lv_iload_n F.1 F.2.1 dX9_isComplete_14 rfl (lv_at hl 0 rfl) ?_
        refine lv_iload_n F.1 F.2.1 dX9_isComplete_15 rfl (lv_at hl 3 rfl) ?_
        refine lv_ishr F.1 F.2.1 dX9_isComplete_16 ?_
        refine lv_iand F.1 F.2.1 dX9_isComplete_17 ?_
        refine lv_if_eq (tgt := 25) F.1 F.2.1 dX9_isComplete_18 (by decide) (fun c3 => ?_) (fun c3 => ?_)
        · replace hf := oi_t hf c3
          refine lv_iconst (v := 0) F.1 F.2.1 dX9_isComplete_25 (by decide) ?_
          exact b_X9_isComplete_26 F (f_X9_isComplete_4 n) ih _ _ _ _ w a0 a1 a3 0 (lv_sub hl [0, 1, 3] rfl) hf
        · replace hf := oi_f hf c3
          refine lv_iconst (v := 1) F.1 F.2.1 dX9_isComplete_21 (by decide) ?_
          refine lv_goto (tgt := 26) F.1 F.2.1 dX9_isComplete_22 (by decide) ?_
          exact b_X9_isComplete_26 F (f_X9_isComplete_4 n) ih _ _ _ _ w a0 a1 a3 1 (lv_sub hl [0, 1, 3] rfl) hf
def f_X9_isComplete_0 (S : ST) (a0 : Int32) (a1 : Int32) : Option (Int32 × ST) := f_X9_isComplete_4 FU S a0 a1 1 1
set_option maxHeartbeats 4000000 in
set_option maxRecDepth 100000 in
theorem b_X9_isComplete_0 {p : Program} {l : Launch} {e : Env} {s : State} {m : MethodId} {args : Array Value} {below : List Frame} {meth : Method} {c : Code} {x : CX} {res : Int32 × ST} (F : MF p m meth c cX9_isComplete 4 s args RX9 (some .boolean)) : ∀ (H : Heap) (locs : List Loc) (ls : Array Slot) (S : ST), WD x s S H locs → ∀ (a0 : Int32) (a1 : Int32), lv_has ls 4 [(0, .int a0), (1, .int a1)] → f_X9_isComplete_0 S a0 a1 = some res → W p l e ({ frames := 0, cells := 0, slots := 0, locals := 0 } : Room) s m args below meth c H locs 0 0 (MQ below (QI x res.2 res.1 s.heap.size) args s 0 0 (AA x s.heap.size)) (F0 m 0 ls []) := by
  intro H locs ls S w a0 a1 hl hf
  unfold f_X9_isComplete_0 at hf
  refine lv_iconst (v := 1) F.1 F.2.1 dX9_isComplete_0 (by decide) ?_
  refine lv_istore_n (lv' := [(2, .int 1), (0, .int a0), (1, .int a1)]) F.1 F.2.1 dX9_isComplete_1 rfl hl (by decide) rfl (fun ls hl => ?_)
  refine lv_iconst (v := 1) F.1 F.2.1 dX9_isComplete_2 (by decide) ?_
  refine lv_istore_n (lv' := [(3, .int 1), (2, .int 1), (0, .int a0), (1, .int a1)]) F.1 F.2.1 dX9_isComplete_3 rfl hl (by decide) rfl (fun ls hl => ?_)
  exact b_X9_isComplete_4 F FU _ _ _ _ w a0 a1 1 1 (lv_sub hl [2, 3, 1, 0] rfl) hf
def f_X9_isComplete (S : ST) (a0 : Int32) (a1 : Int32) : Option (Int32 × ST) := f_X9_isComplete_0 S a0 a1
set_option maxHeartbeats 4000000 in
set_option maxRecDepth 100000 in
theorem k_X9_isComplete (l : Launch) (x : CX) (S : ST) (a0 : Int32) (a1 : Int32) {res : Int32 × ST} (hf : f_X9_isComplete S a0 a1 = some res) (sz : Nat) : Met l yX9_isComplete (Cond.code yX9_isComplete cX9_isComplete 4 (some .boolean) :: GW) ({ frames := 0, cells := 0, slots := 0, locals := 0 } : Room) (PC x S sz [.int a0, .int a1]) (QI x res.2 res.1 sz) 0 0 (AA x sz) := by
  refine Met.ofW (cc := cX9_isComplete) (maxL := 4) (ret := (some .boolean)) (by decide) rfl ?_
  intro p e s m args below meth c s₁ B hml hv
  obtain ⟨rfl, rfl, hPW⟩ := hv
  have F : MF p m meth c cX9_isComplete 4 s _ RX9 (some .boolean) := MF.of B hml
  have w := WD.of hPW
  have hl := lv_entry ([.int a0, .int a1]) (n := 4) (Nat.le_of_ble_eq_true rfl)
  rw [lg_entry_eq]
  generalize (lg_sl ([.int a0, .int a1]) ++ List.replicate (4 - (lg_sl ([.int a0, .int a1])).length) Slot.unset).toArray = ls at hl ⊢
  have hl : lv_has ls 4 [(0, .int a0), (1, .int a1)] := hl
  unfold f_X9_isComplete at hf
  exact b_X9_isComplete_0 F  _ _ _ _ w a0 a1 (lv_sub hl [0, 1] rfl) hf
theorem cy_X9_sparse : CY yX9_sparse RX9 cX9_sparse 7 (some .int) 2 := ⟨q10, q1160, rfl, by decide, by decide, by decide +kernel⟩
def f_X9_sparse_124 (k50 : ST → Int32 → Int32 → Int32 → Int32 → Option (Int32 × ST)) (S : ST) (a1 : Int32) (a2 : Int32) (a3 : Int32) (a4 : Int32) : Option (Int32 × ST) := k50 S a1 a2 a3 a4
set_option maxHeartbeats 4000000 in
set_option maxRecDepth 100000 in
theorem b_X9_sparse_124 {p : Program} {l : Launch} {e : Env} {s : State} {m : MethodId} {args : Array Value} {below : List Frame} {meth : Method} {c : Code} {x : CX} {res : Int32 × ST} (F : MF p m meth c cX9_sparse 7 s args RX9 (some .int)) (k50 : ST → Int32 → Int32 → Int32 → Int32 → Option (Int32 × ST)) (hk50 : ∀ (H : Heap) (locs : List Loc) (ls : Array Slot) (S : ST), WD x s S H locs → ∀ (a1 : Int32) (a2 : Int32) (a3 : Int32) (a4 : Int32), lv_has ls 7 [(0, .ref (x.2.2 (80))), (1, .int a1), (2, .int a2), (3, .int a3), (4, .int a4)] → k50 S a1 a2 a3 a4 = some res → W p l e ({ frames := 2, cells := 0, slots := 0, locals := 45 } : Room) s m args below meth c H locs 0 0 (MQ below (QI x res.2 res.1 s.heap.size) args s 0 0 (AA x s.heap.size)) (F0 m 50 ls [])) : ∀ (H : Heap) (locs : List Loc) (ls : Array Slot) (S : ST), WD x s S H locs → ∀ (a1 : Int32) (a2 : Int32) (a3 : Int32) (a4 : Int32), lv_has ls 7 [(0, .ref (x.2.2 (80))), (1, .int a1), (2, .int a2), (3, .int a3), (4, .int a4)] → f_X9_sparse_124 k50 S a1 a2 a3 a4 = some res → W p l e ({ frames := 2, cells := 0, slots := 0, locals := 45 } : Room) s m args below meth c H locs 0 0 (MQ below (QI x res.2 res.1 s.heap.size) args s 0 0 (AA x s.heap.size)) (F0 m 124 ls []) := by
  intro H locs ls S w a1 a2 a3 a4 hl hf
  unfold f_X9_sparse_124 at hf
  refine lv_goto (tgt := 50) F.1 F.2.1 dX9_sparse_124 (by decide) ?_
  exact hk50 _ _ _ _ w a1 a2 a3 a4 (lv_sub hl [0, 1, 2, 3, 4] rfl) hf
def f_X9_sparse_65 (k50 : ST → Int32 → Int32 → Int32 → Int32 → Option (Int32 × ST)) : Nat → ST → Int32 → Int32 → Int32 → Int32 → Int32 → Option (Int32 × ST)
  | 0, _, _, _, _, _, _ => none
  | n + 1, S, a1, a2, a3, a5, a6 => (if a3 ≤ a6 then oB (f_X9_isComplete S a5 a1) (fun (r3 : Int32) (S2 : ST) => (if r3 = 0 then oB (f_X9_picksNext S2 a3 (a1 - (1 : Int32))) (fun (r6 : Int32) (S5 : ST) => (if r6 = 0 then oL (a3 + 1) (fun (v8 : Int32) => oV (f_X9_picksFirst S5 v8 1) (fun (S9 : ST) => f_X9_sparse_124 k50 S9 a1 a2 v8 r3)) else f_X9_sparse_124 k50 S5 a1 a2 a3 r3)) else f_X9_sparse_124 k50 S2 a1 a2 a3 r3)) else oG (inB a6 24) (oL (a5 ||| ((1 : Int32) <<< ((ai S 35 (Int32.toNatClampNeg a6)) &&& 31))) (fun (v11 : Int32) => oL (a6 + 1) (fun (v12 : Int32) => (f_X9_sparse_65 k50 n) S a1 a2 a3 v11 v12))))
set_option maxHeartbeats 4000000 in
set_option maxRecDepth 100000 in
theorem b_X9_sparse_65 {p : Program} {l : Launch} {e : Env} {s : State} {m : MethodId} {args : Array Value} {below : List Frame} {meth : Method} {c : Code} {x : CX} {res : Int32 × ST} (F : MF p m meth c cX9_sparse 7 s args RX9 (some .int)) (k50 : ST → Int32 → Int32 → Int32 → Int32 → Option (Int32 × ST)) (hk50 : ∀ (H : Heap) (locs : List Loc) (ls : Array Slot) (S : ST), WD x s S H locs → ∀ (a1 : Int32) (a2 : Int32) (a3 : Int32) (a4 : Int32), lv_has ls 7 [(0, .ref (x.2.2 (80))), (1, .int a1), (2, .int a2), (3, .int a3), (4, .int a4)] → k50 S a1 a2 a3 a4 = some res → W p l e ({ frames := 2, cells := 0, slots := 0, locals := 45 } : Room) s m args below meth c H locs 0 0 (MQ below (QI x res.2 res.1 s.heap.size) args s 0 0 (AA x s.heap.size)) (F0 m 50 ls [])) : ∀ (n : Nat), ∀ (H : Heap) (locs : List Loc) (ls : Array Slot) (S : ST), WD x s S H locs → ∀ (a1 : Int32) (a2 : Int32) (a3 : Int32) (a5 : Int32) (a6 : Int32), lv_has ls 7 [(0, .ref (x.2.2 (80))), (1, .int a1), (2, .int a2), (3, .int a3), (5, .int a5), (6, .int a6)] → f_X9_sparse_65 k50 n S a1 a2 a3 a5 a6 = some res → W p l e ({ frames := 2, cells := 0, slots := 0, locals := 45 } : Room) s m args below meth c H locs 0 0 (MQ below (QI x res.2 res.1 s.heap.size) args s 0 0 (AA x s.heap.size)) (F0 m 65 ls []) := by
  intro n
  induction n with
  | zero =>
    intro H locs ls S w a1 a2 a3 a5 a6 hl hf
    have hf : (none : Option (Int32 × ST)) = some res := hf
    cases hf
  | succ n ih =>
    intro H locs ls S w a1 a2 a3 a5 a6 hl hf
    unfold f_X9_sparse_65 at hf
    refine lv_iload F.1 F.2.1 dX9_sparse_65 (lv_at hl 5 rfl) ?_
    refine lv_iload_n F.1 F.2.1 dX9_sparse_67 rfl (lv_at hl 3 rfl) ?_
    refine lv_icmp_ge (tgt := 91) F.1 F.2.1 dX9_sparse_68 (by decide) (fun c1 => ?_) (fun c1 => ?_)
    · replace hf := oi_t hf c1
      refine lv_iload F.1 F.2.1 dX9_sparse_91 (lv_at hl 4 rfl) ?_
      refine lv_iload_n F.1 F.2.1 dX9_sparse_93 rfl (lv_at hl 1 rfl) ?_
      obtain ⟨r3, S2, hc, hf⟩ := oi_b hf
      refine k_i0 (S' := S2) (r := r3) w (runS (As := [.int a5, .int a1]) (rest := []) F w (k_X9_isComplete l x S a5 a1 hc H.size) cy_X9_isComplete q1161 q1162 ⟨rfl, rfl⟩ ⟨Nat.le_of_ble_eq_true rfl, Nat.le_of_ble_eq_true rfl⟩ rfl rfl hl.1 (Nat.le_of_ble_eq_true rfl) ⟨Nat.le_of_ble_eq_true rfl, Nat.le_of_ble_eq_true rfl⟩ dX9_sparse_94) (fun H locs w => ?_)
      refine lv_istore (lv' := [(4, .int r3), (0, .ref (x.2.2 (80))), (1, .int a1), (2, .int a2), (3, .int a3), (5, .int a5), (6, .int a6)]) F.1 F.2.1 dX9_sparse_97 hl (by decide) rfl (fun ls hl => ?_)
      refine lv_iload F.1 F.2.1 dX9_sparse_99 (lv_at hl 0 rfl) ?_
      refine lv_if_ne (tgt := 124) F.1 F.2.1 dX9_sparse_101 (by decide) (fun c4 => ?_) (fun c4 => ?_)
      · replace hf := oi_f hf c4
        exact b_X9_sparse_124 F k50 hk50 _ _ _ _ w a1 a2 a3 r3 (lv_sub hl [1, 2, 3, 4, 0] rfl) hf
      · replace hf := oi_t hf c4
        refine lv_aload_n F.1 F.2.1 dX9_sparse_104 rfl (lv_at hl 1 rfl) ?_
        refine lv_iload_n F.1 F.2.1 dX9_sparse_105 rfl (lv_at hl 4 rfl) ?_
        refine lv_iload_n F.1 F.2.1 dX9_sparse_106 rfl (lv_at hl 2 rfl) ?_
        refine lv_iconst (v := 1) F.1 F.2.1 dX9_sparse_107 (by decide) ?_
        refine lv_isub F.1 F.2.1 dX9_sparse_108 ?_
        obtain ⟨r6, S5, hc, hf⟩ := oi_b hf
        refine k_i0 (S' := S5) (r := r6) w (runV (As := [.int a3, .int (a1 - (1 : Int32))]) (rest := []) (kb := 80) F w (k_X9_picksNext l x S2 a3 (a1 - (1 : Int32)) hc H.size) cy_X9_picksNext q1149 q1151 qp51 ⟨rfl, rfl⟩ ⟨Nat.le_of_ble_eq_true rfl, Nat.le_of_ble_eq_true rfl⟩ (by decide) rfl rfl rfl rfl hl.1 (Nat.le_of_ble_eq_true rfl) ⟨Nat.le_of_ble_eq_true rfl, Nat.le_of_ble_eq_true rfl⟩ dX9_sparse_109) (fun H locs w => ?_)
        refine lv_if_ne (tgt := 124) F.1 F.2.1 dX9_sparse_112 (by decide) (fun c7 => ?_) (fun c7 => ?_)
        · replace hf := oi_f hf c7
          exact b_X9_sparse_124 F k50 hk50 _ _ _ _ w a1 a2 a3 r3 (lv_sub hl [1, 2, 3, 4, 0] rfl) hf
        · replace hf := oi_t hf c7
          obtain ⟨v8, e_v8⟩ : ∃ y : Int32, y = (a3 + 1) := ⟨_, rfl⟩
          replace hf := oi_l hf e_v8
          refine lv_iinc (v := v8) (lv' := [(3, .int v8), (4, .int r3), (0, .ref (x.2.2 (80))), (1, .int a1), (2, .int a2), (5, .int a5), (6, .int a6)]) F.1 F.2.1 dX9_sparse_115 hl (k := 4) rfl (by rw [e_v8]; rfl) (by decide) rfl (fun ls hl => ?_)
          refine lv_aload_n F.1 F.2.1 dX9_sparse_118 rfl (lv_at hl 2 rfl) ?_
          refine lv_iload_n F.1 F.2.1 dX9_sparse_119 rfl (lv_at hl 0 rfl) ?_
          refine lv_iconst (v := 1) F.1 F.2.1 dX9_sparse_120 (by decide) ?_
          obtain ⟨S9, hc, hf⟩ := oi_v hf
          refine k_v0 (S' := S9) w (runV (As := [.int v8, .int 1]) (rest := []) (kb := 80) F w (k_X9_picksFirst l x S5 v8 1 hc H.size) cy_X9_picksFirst q1137 q1139 qp48 ⟨rfl, rfl⟩ ⟨Nat.le_of_ble_eq_true rfl, Nat.le_of_ble_eq_true rfl⟩ (by decide) rfl rfl rfl rfl hl.1 (Nat.le_of_ble_eq_true rfl) ⟨Nat.le_of_ble_eq_true rfl, Nat.le_of_ble_eq_true rfl⟩ dX9_sparse_121) (fun H locs w => ?_)
          exact b_X9_sparse_124 F k50 hk50 _ _ _ _ w a1 a2 v8 r3 (lv_sub hl [2, 3, 4, 0, 1] rfl) hf
    · replace hf := oi_f hf c1
      refine lv_iload F.1 F.2.1 dX9_sparse_71 (lv_at hl 4 rfl) ?_
      refine lv_iconst (v := 1) F.1 F.2.1 dX9_sparse_73 (by decide) ?_
      refine lv_aload_n F.1 F.2.1 dX9_sparse_74 rfl (lv_at hl 0 rfl) ?_
      refine g_MD_pick F w q871 dX9_sparse_75 ?_
      refine lv_iload F.1 F.2.1 dX9_sparse_78 (lv_at hl 5 rfl) ?_
      obtain ⟨hb10, hf⟩ := oi_g hf
      refine r_iald F w (k := 86) (f := ai S 35) (by decide) rfl hb10 dX9_sparse_80 ?_
      refine lv_ishl F.1 F.2.1 dX9_sparse_81 ?_
      refine lv_ior F.1 F.2.1 dX9_sparse_82 ?_
      refine lv_topi (fun v11 e_v11 => ?_)
      replace hf := oi_l hf e_v11
      refine lv_istore (lv' := [(5, .int v11), (0, .ref (x.2.2 (80))), (1, .int a1), (2, .int a2), (3, .int a3), (6, .int a6)]) F.1 F.2.1 dX9_sparse_83 hl (by decide) rfl (fun ls hl => ?_)
      obtain ⟨v12, e_v12⟩ : ∃ y : Int32, y = (a6 + 1) := ⟨_, rfl⟩
      replace hf := oi_l hf e_v12
      refine lv_iinc (v := v12) (lv' := [(6, .int v12), (5, .int v11), (0, .ref (x.2.2 (80))), (1, .int a1), (2, .int a2), (3, .int a3)]) F.1 F.2.1 dX9_sparse_85 hl (k := 5) rfl (by rw [e_v12]; rfl) (by decide) rfl (fun ls hl => ?_)
      refine lv_goto (tgt := 65) F.1 F.2.1 dX9_sparse_88 (by decide) ?_
      exact ih _ _ _ _ w a1 a2 a3 v11 v12 (lv_sub hl [2, 3, 4, 5, 1, 0] rfl) hf
def f_X9_sparse_50 : Nat → ST → Int32 → Int32 → Int32 → Int32 → Option (Int32 × ST)
  | 0, _, _, _, _, _ => none
  | n + 1, S, a1, a2, a3, a4 => (if a4 = 0 then oL ((1 : Int32) ||| ((1 : Int32) <<< (a1 &&& 31))) (fun (v6 : Int32) => f_X9_sparse_65 (f_X9_sparse_50 n) FU S a1 a2 a3 v6 0) else oV (f_X9_makes S a3) (fun (S2 : ST) => oV (f_X9_comes S2 a1) (fun (S3 : ST) => oB (f_X9_becomes S3 a2) (fun (r5 : Int32) (S4 : ST) => some (r5, S4)))))
set_option maxHeartbeats 4000000 in
set_option maxRecDepth 100000 in
theorem b_X9_sparse_50 {p : Program} {l : Launch} {e : Env} {s : State} {m : MethodId} {args : Array Value} {below : List Frame} {meth : Method} {c : Code} {x : CX} {res : Int32 × ST} (F : MF p m meth c cX9_sparse 7 s args RX9 (some .int)) : ∀ (n : Nat), ∀ (H : Heap) (locs : List Loc) (ls : Array Slot) (S : ST), WD x s S H locs → ∀ (a1 : Int32) (a2 : Int32) (a3 : Int32) (a4 : Int32), lv_has ls 7 [(0, .ref (x.2.2 (80))), (1, .int a1), (2, .int a2), (3, .int a3), (4, .int a4)] → f_X9_sparse_50 n S a1 a2 a3 a4 = some res → W p l e ({ frames := 2, cells := 0, slots := 0, locals := 45 } : Room) s m args below meth c H locs 0 0 (MQ below (QI x res.2 res.1 s.heap.size) args s 0 0 (AA x s.heap.size)) (F0 m 50 ls []) := by
  intro n
  induction n with
  | zero =>
    intro H locs ls S w a1 a2 a3 a4 hl hf
    have hf : (none : Option (Int32 × ST)) = some res := hf
    cases hf
  | succ n ih =>
    intro H locs ls S w a1 a2 a3 a4 hl hf
    unfold f_X9_sparse_50 at hf
    refine lv_iload F.1 F.2.1 dX9_sparse_50 (lv_at hl 4 rfl) ?_
    refine lv_if_ne (tgt := 127) F.1 F.2.1 dX9_sparse_52 (by decide) (fun c1 => ?_) (fun c1 => ?_)
    · replace hf := oi_f hf c1
      refine lv_aload_n F.1 F.2.1 dX9_sparse_127 rfl (lv_at hl 0 rfl) ?_
      refine lv_iload_n F.1 F.2.1 dX9_sparse_128 rfl (lv_at hl 3 rfl) ?_
      obtain ⟨S2, hc, hf⟩ := oi_v hf
      refine k_v0 (S' := S2) w (runV (As := [.int a3]) (rest := []) (kb := 80) F w (k_X9_makes l x S a3 hc H.size) cy_X9_makes q1153 q1155 qp52 ⟨rfl, rfl⟩ ⟨Nat.le_of_ble_eq_true rfl, Nat.le_of_ble_eq_true rfl⟩ (by decide) rfl rfl rfl rfl hl.1 (Nat.le_of_ble_eq_true rfl) ⟨Nat.le_of_ble_eq_true rfl, Nat.le_of_ble_eq_true rfl⟩ dX9_sparse_129) (fun H locs w => ?_)
      refine lv_aload_n F.1 F.2.1 dX9_sparse_132 rfl (lv_at hl 0 rfl) ?_
      refine lv_iload_n F.1 F.2.1 dX9_sparse_133 rfl (lv_at hl 1 rfl) ?_
      obtain ⟨S3, hc, hf⟩ := oi_v hf
      refine k_v0 (S' := S3) w (runV (As := [.int a1]) (rest := []) (kb := 80) F w (k_X9_comes l x S2 a1 hc H.size) cy_X9_comes q940 q942 qp26 ⟨rfl, rfl⟩ ⟨Nat.le_of_ble_eq_true rfl, Nat.le_of_ble_eq_true rfl⟩ (by decide) rfl rfl rfl rfl hl.1 (Nat.le_of_ble_eq_true rfl) ⟨Nat.le_of_ble_eq_true rfl, Nat.le_of_ble_eq_true rfl⟩ dX9_sparse_134) (fun H locs w => ?_)
      refine lv_aload_n F.1 F.2.1 dX9_sparse_137 rfl (lv_at hl 0 rfl) ?_
      refine lv_iload_n F.1 F.2.1 dX9_sparse_138 rfl (lv_at hl 2 rfl) ?_
      obtain ⟨r5, S4, hc, hf⟩ := oi_b hf
      refine k_i0 (S' := S4) (r := r5) w (runV (As := [.int a2]) (rest := []) (kb := 80) F w (k_X9_becomes l x S3 a2 hc H.size) cy_X9_becomes q944 q946 qp27 ⟨rfl, rfl⟩ ⟨Nat.le_of_ble_eq_true rfl, Nat.le_of_ble_eq_true rfl⟩ (by decide) rfl rfl rfl rfl hl.1 (Nat.le_of_ble_eq_true rfl) ⟨Nat.le_of_ble_eq_true rfl, Nat.le_of_ble_eq_true rfl⟩ dX9_sparse_139) (fun H locs w => ?_)
      exact r_iret F w (oi_s hf) dX9_sparse_142
    · replace hf := oi_t hf c1
      refine lv_iconst (v := 1) F.1 F.2.1 dX9_sparse_55 (by decide) ?_
      refine lv_iconst (v := 1) F.1 F.2.1 dX9_sparse_56 (by decide) ?_
      refine lv_iload_n F.1 F.2.1 dX9_sparse_57 rfl (lv_at hl 1 rfl) ?_
      refine lv_ishl F.1 F.2.1 dX9_sparse_58 ?_
      refine lv_ior F.1 F.2.1 dX9_sparse_59 ?_
      refine lv_topi (fun v6 e_v6 => ?_)
      replace hf := oi_l hf e_v6
      refine lv_istore (lv' := [(5, .int v6), (0, .ref (x.2.2 (80))), (1, .int a1), (2, .int a2), (3, .int a3), (4, .int a4)]) F.1 F.2.1 dX9_sparse_60 hl (by decide) rfl (fun ls hl => ?_)
      refine lv_iconst (v := 0) F.1 F.2.1 dX9_sparse_62 (by decide) ?_
      refine lv_istore (lv' := [(6, .int 0), (5, .int v6), (0, .ref (x.2.2 (80))), (1, .int a1), (2, .int a2), (3, .int a3), (4, .int a4)]) F.1 F.2.1 dX9_sparse_63 hl (by decide) rfl (fun ls hl => ?_)
      exact b_X9_sparse_65 F (f_X9_sparse_50 n) ih FU _ _ _ _ w a1 a2 a3 v6 0 (lv_sub hl [2, 3, 4, 5, 1, 0] rfl) hf
def f_X9_sparse_27 (S : ST) (a1 : Int32) (a2 : Int32) (as0 : Int32) : Option (Int32 × ST) := oB (f_X9_refused S as0) (fun (r2 : Int32) (S1 : ST) => (if r2 = 0 then oV (f_X9_saves S1) (fun (S4 : ST) => oV (f_X9_picksFirst S4 0 1) (fun (S5 : ST) => f_X9_sparse_50 FU S5 a1 a2 0 0)) else some (0, S1)))
set_option maxHeartbeats 4000000 in
set_option maxRecDepth 100000 in
theorem b_X9_sparse_27 {p : Program} {l : Launch} {e : Env} {s : State} {m : MethodId} {args : Array Value} {below : List Frame} {meth : Method} {c : Code} {x : CX} {res : Int32 × ST} (F : MF p m meth c cX9_sparse 7 s args RX9 (some .int)) : ∀ (H : Heap) (locs : List Loc) (ls : Array Slot) (S : ST), WD x s S H locs → ∀ (a1 : Int32) (a2 : Int32) (as0 : Int32), lv_has ls 7 [(0, .ref (x.2.2 (80))), (1, .int a1), (2, .int a2)] → f_X9_sparse_27 S a1 a2 as0 = some res → W p l e ({ frames := 2, cells := 0, slots := 0, locals := 45 } : Room) s m args below meth c H locs 0 0 (MQ below (QI x res.2 res.1 s.heap.size) args s 0 0 (AA x s.heap.size)) (F0 m 27 ls [.int as0, .ref (x.2.2 (80))]) := by
  intro H locs ls S w a1 a2 as0 hl hf
  unfold f_X9_sparse_27 at hf
  obtain ⟨r2, S1, hc, hf⟩ := oi_b hf
  refine k_i0 (S' := S1) (r := r2) w (runV (As := [.int as0]) (rest := []) (kb := 80) F w (k_X9_refused l x S as0 hc H.size) cy_X9_refused q902 q904 qp19 ⟨rfl, rfl⟩ ⟨Nat.le_of_ble_eq_true rfl, Nat.le_of_ble_eq_true rfl⟩ (by decide) rfl rfl rfl rfl hl.1 (Nat.le_of_ble_eq_true rfl) ⟨Nat.le_of_ble_eq_true rfl, Nat.le_of_ble_eq_true rfl⟩ dX9_sparse_27) (fun H locs w => ?_)
  refine lv_if_eq (tgt := 35) F.1 F.2.1 dX9_sparse_30 (by decide) (fun c3 => ?_) (fun c3 => ?_)
  · replace hf := oi_t hf c3
    refine lv_aload_n F.1 F.2.1 dX9_sparse_35 rfl (lv_at hl 0 rfl) ?_
    obtain ⟨S4, hc, hf⟩ := oi_v hf
    refine k_v0 (S' := S4) w (runV (As := []) (rest := []) (kb := 80) F w (k_X9_saves l x S1 hc H.size) cy_X9_saves q928 q930 qp23 ⟨rfl, rfl⟩ ⟨Nat.le_of_ble_eq_true rfl, Nat.le_of_ble_eq_true rfl⟩ (by decide) rfl rfl rfl rfl hl.1 (Nat.le_of_ble_eq_true rfl) ⟨Nat.le_of_ble_eq_true rfl, Nat.le_of_ble_eq_true rfl⟩ dX9_sparse_36) (fun H locs w => ?_)
    refine lv_iconst (v := 0) F.1 F.2.1 dX9_sparse_39 (by decide) ?_
    refine lv_istore_n (lv' := [(3, .int 0), (0, .ref (x.2.2 (80))), (1, .int a1), (2, .int a2)]) F.1 F.2.1 dX9_sparse_40 rfl hl (by decide) rfl (fun ls hl => ?_)
    refine lv_iconst (v := 0) F.1 F.2.1 dX9_sparse_41 (by decide) ?_
    refine lv_istore (lv' := [(4, .int 0), (3, .int 0), (0, .ref (x.2.2 (80))), (1, .int a1), (2, .int a2)]) F.1 F.2.1 dX9_sparse_42 hl (by decide) rfl (fun ls hl => ?_)
    refine lv_aload_n F.1 F.2.1 dX9_sparse_44 rfl (lv_at hl 2 rfl) ?_
    refine lv_iconst (v := 0) F.1 F.2.1 dX9_sparse_45 (by decide) ?_
    refine lv_iconst (v := 1) F.1 F.2.1 dX9_sparse_46 (by decide) ?_
    obtain ⟨S5, hc, hf⟩ := oi_v hf
    refine k_v0 (S' := S5) w (runV (As := [.int 0, .int 1]) (rest := []) (kb := 80) F w (k_X9_picksFirst l x S4 0 1 hc H.size) cy_X9_picksFirst q1137 q1139 qp48 ⟨rfl, rfl⟩ ⟨Nat.le_of_ble_eq_true rfl, Nat.le_of_ble_eq_true rfl⟩ (by decide) rfl rfl rfl rfl hl.1 (Nat.le_of_ble_eq_true rfl) ⟨Nat.le_of_ble_eq_true rfl, Nat.le_of_ble_eq_true rfl⟩ dX9_sparse_47) (fun H locs w => ?_)
    exact b_X9_sparse_50 F FU _ _ _ _ w a1 a2 0 0 (lv_sub hl [2, 3, 4, 1, 0] rfl) hf
  · replace hf := oi_f hf c3
    refine lv_iconst (v := 0) F.1 F.2.1 dX9_sparse_33 (by decide) ?_
    exact r_iret F w (oi_s hf) dX9_sparse_34
def f_X9_sparse_0 (S : ST) (a1 : Int32) (a2 : Int32) : Option (Int32 × ST) := oB (f_X9_isSet S a2) (fun (r2 : Int32) (S1 : ST) => (if r2 = 0 then f_X9_sparse_27 S1 a1 a2 1 else oB (f_X9_within S1 a1 1 20) (fun (r5 : Int32) (S4 : ST) => (if r5 = 0 then f_X9_sparse_27 S4 a1 a2 2 else f_X9_sparse_27 S4 a1 a2 0))))
set_option maxHeartbeats 4000000 in
set_option maxRecDepth 100000 in
theorem b_X9_sparse_0 {p : Program} {l : Launch} {e : Env} {s : State} {m : MethodId} {args : Array Value} {below : List Frame} {meth : Method} {c : Code} {x : CX} {res : Int32 × ST} (F : MF p m meth c cX9_sparse 7 s args RX9 (some .int)) : ∀ (H : Heap) (locs : List Loc) (ls : Array Slot) (S : ST), WD x s S H locs → ∀ (a1 : Int32) (a2 : Int32), lv_has ls 7 [(0, .ref (x.2.2 (80))), (1, .int a1), (2, .int a2)] → f_X9_sparse_0 S a1 a2 = some res → W p l e ({ frames := 2, cells := 0, slots := 0, locals := 45 } : Room) s m args below meth c H locs 0 0 (MQ below (QI x res.2 res.1 s.heap.size) args s 0 0 (AA x s.heap.size)) (F0 m 0 ls []) := by
  intro H locs ls S w a1 a2 hl hf
  unfold f_X9_sparse_0 at hf
  refine lv_aload_n F.1 F.2.1 dX9_sparse_0 rfl (lv_at hl 0 rfl) ?_
  refine lv_iload_n F.1 F.2.1 dX9_sparse_1 rfl (lv_at hl 2 rfl) ?_
  obtain ⟨r2, S1, hc, hf⟩ := oi_b hf
  refine k_i0 (S' := S1) (r := r2) w (runS (As := [.int a2]) (rest := [.ref (x.2.2 (80))]) F w (k_X9_isSet l x S a2 hc H.size) cy_X9_isSet q910 q911 ⟨rfl, rfl⟩ ⟨Nat.le_of_ble_eq_true rfl, Nat.le_of_ble_eq_true rfl⟩ rfl rfl hl.1 (Nat.le_of_ble_eq_true rfl) ⟨Nat.le_of_ble_eq_true rfl, Nat.le_of_ble_eq_true rfl⟩ dX9_sparse_2) (fun H locs w => ?_)
  refine lv_if_ne (tgt := 12) F.1 F.2.1 dX9_sparse_5 (by decide) (fun c3 => ?_) (fun c3 => ?_)
  · replace hf := oi_f hf c3
    refine lv_iload_n F.1 F.2.1 dX9_sparse_12 rfl (lv_at hl 1 rfl) ?_
    refine lv_iconst (v := 1) F.1 F.2.1 dX9_sparse_13 (by decide) ?_
    refine lv_bipush (v := 20) F.1 F.2.1 dX9_sparse_14 (by decide) ?_
    obtain ⟨r5, S4, hc, hf⟩ := oi_b hf
    refine k_i0 (S' := S4) (r := r5) w (runS (As := [.int a1, .int 1, .int 20]) (rest := [.ref (x.2.2 (80))]) F w (k_X9_within l x S1 a1 1 20 hc H.size) cy_X9_within q913 q914 ⟨rfl, rfl⟩ ⟨Nat.le_of_ble_eq_true rfl, Nat.le_of_ble_eq_true rfl⟩ rfl rfl hl.1 (Nat.le_of_ble_eq_true rfl) ⟨Nat.le_of_ble_eq_true rfl, Nat.le_of_ble_eq_true rfl⟩ dX9_sparse_16) (fun H locs w => ?_)
    refine lv_if_eq (tgt := 26) F.1 F.2.1 dX9_sparse_19 (by decide) (fun c6 => ?_) (fun c6 => ?_)
    · replace hf := oi_t hf c6
      refine lv_iconst (v := 2) F.1 F.2.1 dX9_sparse_26 (by decide) ?_
      exact b_X9_sparse_27 F  _ _ _ _ w a1 a2 2 (lv_sub hl [0, 1, 2] rfl) hf
    · replace hf := oi_f hf c6
      refine lv_iconst (v := 0) F.1 F.2.1 dX9_sparse_22 (by decide) ?_
      refine lv_goto (tgt := 27) F.1 F.2.1 dX9_sparse_23 (by decide) ?_
      exact b_X9_sparse_27 F  _ _ _ _ w a1 a2 0 (lv_sub hl [0, 1, 2] rfl) hf
  · replace hf := oi_t hf c3
    refine lv_iconst (v := 1) F.1 F.2.1 dX9_sparse_8 (by decide) ?_
    refine lv_goto (tgt := 27) F.1 F.2.1 dX9_sparse_9 (by decide) ?_
    exact b_X9_sparse_27 F  _ _ _ _ w a1 a2 1 (lv_sub hl [0, 1, 2] rfl) hf
def f_X9_sparse (S : ST) (a1 : Int32) (a2 : Int32) : Option (Int32 × ST) := f_X9_sparse_0 S a1 a2
set_option maxHeartbeats 4000000 in
set_option maxRecDepth 100000 in
theorem k_X9_sparse (l : Launch) (x : CX) (S : ST) (a1 : Int32) (a2 : Int32) {res : Int32 × ST} (hf : f_X9_sparse S a1 a2 = some res) (sz : Nat) : Met l yX9_sparse (Cond.code yX9_sparse cX9_sparse 7 (some .int) :: GW) ({ frames := 2, cells := 0, slots := 0, locals := 45 } : Room) (PC x S sz [.ref (x.2.2 (80)), .int a1, .int a2]) (QI x res.2 res.1 sz) 0 0 (AA x sz) := by
  refine Met.ofW (cc := cX9_sparse) (maxL := 7) (ret := (some .int)) (by decide) rfl ?_
  intro p e s m args below meth c s₁ B hml hv
  obtain ⟨rfl, rfl, hPW⟩ := hv
  have F : MF p m meth c cX9_sparse 7 s _ RX9 (some .int) := MF.of B hml
  have w := WD.of hPW
  have hl := lv_entry ([.ref (x.2.2 (80)), .int a1, .int a2]) (n := 7) (Nat.le_of_ble_eq_true rfl)
  rw [lg_entry_eq]
  generalize (lg_sl ([.ref (x.2.2 (80)), .int a1, .int a2]) ++ List.replicate (7 - (lg_sl ([.ref (x.2.2 (80)), .int a1, .int a2])).length) Slot.unset).toArray = ls at hl ⊢
  have hl : lv_has ls 7 [(0, .ref (x.2.2 (80))), (1, .int a1), (2, .int a2)] := hl
  unfold f_X9_sparse at hf
  exact b_X9_sparse_0 F  _ _ _ _ w a1 a2 (lv_sub hl [0, 1, 2] rfl) hf
theorem cy_X9_alike : CY yX9_alike RX9 cX9_alike 6 (some .int) 2 := ⟨q10, q1171, rfl, by decide, by decide, by decide +kernel⟩
def f_X9_alike_87 (k22 : ST → Int32 → Int32 → Int32 → Option (Int32 × ST)) (k30 : ST → Int32 → Int32 → Int32 → Int32 → Option (Int32 × ST)) (S : ST) (a1 : Int32) (a2 : Int32) (a3 : Int32) (a4 : Int32) (as0 : Int32) : Option (Int32 × ST) := oG (inB as0 2001) (oG (inB as0 2001) (oL (sA S 33 (upd (ai S 33) (Int32.toNatClampNeg as0) ((ai S 33 (Int32.toNatClampNeg as0)) + (1 : Int32)))) (fun (S3 : ST) => oL (a4 + 1) (fun (v4 : Int32) => k30 S3 a1 a2 a3 v4))))
set_option maxHeartbeats 4000000 in
set_option maxRecDepth 100000 in
theorem b_X9_alike_87 {p : Program} {l : Launch} {e : Env} {s : State} {m : MethodId} {args : Array Value} {below : List Frame} {meth : Method} {c : Code} {x : CX} {res : Int32 × ST} (F : MF p m meth c cX9_alike 6 s args RX9 (some .int)) (k22 : ST → Int32 → Int32 → Int32 → Option (Int32 × ST)) (hk22 : ∀ (H : Heap) (locs : List Loc) (ls : Array Slot) (S : ST), WD x s S H locs → ∀ (a1 : Int32) (a2 : Int32) (a3 : Int32), lv_has ls 6 [(0, .ref (x.2.2 (80))), (1, .int a1), (2, .int a2), (3, .int a3)] → k22 S a1 a2 a3 = some res → W p l e ({ frames := 0, cells := 0, slots := 0, locals := 0 } : Room) s m args below meth c H locs 0 0 (MQ below (QI x res.2 res.1 s.heap.size) args s 0 0 (AA x s.heap.size)) (F0 m 22 ls [])) (k30 : ST → Int32 → Int32 → Int32 → Int32 → Option (Int32 × ST)) (hk30 : ∀ (H : Heap) (locs : List Loc) (ls : Array Slot) (S : ST), WD x s S H locs → ∀ (a1 : Int32) (a2 : Int32) (a3 : Int32) (a4 : Int32), lv_has ls 6 [(0, .ref (x.2.2 (80))), (1, .int a1), (2, .int a2), (3, .int a3), (4, .int a4)] → k30 S a1 a2 a3 a4 = some res → W p l e ({ frames := 0, cells := 0, slots := 0, locals := 0 } : Room) s m args below meth c H locs 0 0 (MQ below (QI x res.2 res.1 s.heap.size) args s 0 0 (AA x s.heap.size)) (F0 m 30 ls [])) : ∀ (H : Heap) (locs : List Loc) (ls : Array Slot) (S : ST), WD x s S H locs → ∀ (a1 : Int32) (a2 : Int32) (a3 : Int32) (a4 : Int32) (as0 : Int32), lv_has ls 6 [(0, .ref (x.2.2 (80))), (1, .int a1), (2, .int a2), (3, .int a3), (4, .int a4)] → f_X9_alike_87 k22 k30 S a1 a2 a3 a4 as0 = some res → W p l e ({ frames := 0, cells := 0, slots := 0, locals := 0 } : Room) s m args below meth c H locs 0 0 (MQ below (QI x res.2 res.1 s.heap.size) args s 0 0 (AA x s.heap.size)) (F0 m 87 ls [.int as0, .ref (x.2.2 (84))]) := by
  intro H locs ls S w a1 a2 a3 a4 as0 hl hf
  unfold f_X9_alike_87 at hf
  refine lv_dup2_11 F.1 F.2.1 dX9_alike_87 rfl rfl ?_
  obtain ⟨hb1, hf⟩ := oi_g hf
  refine r_iald F w (k := 84) (f := ai S 33) (by decide) rfl hb1 dX9_alike_88 ?_
  refine lv_iconst (v := 1) F.1 F.2.1 dX9_alike_89 (by decide) ?_
  refine lv_iadd F.1 F.2.1 dX9_alike_90 ?_
  obtain ⟨hb2, hf⟩ := oi_g hf
  refine r_iast F w (k := 84) (a := 33) (n := 2001) (by decide) (fun S9 => rfl) rfl hb2 dX9_alike_91 (fun H locs w => ?_)
  obtain ⟨S3, e_S3⟩ : ∃ y : ST, y = sA S 33 (upd (ai S 33) (Int32.toNatClampNeg as0) ((ai S 33 (Int32.toNatClampNeg as0)) + (1 : Int32))) := ⟨_, rfl⟩
  replace w : WD x s S3 H locs := by rw [e_S3]; exact w
  replace hf := oi_l hf e_S3
  obtain ⟨v4, e_v4⟩ : ∃ y : Int32, y = (a4 + 1) := ⟨_, rfl⟩
  replace hf := oi_l hf e_v4
  refine lv_iinc (v := v4) (lv' := [(4, .int v4), (0, .ref (x.2.2 (80))), (1, .int a1), (2, .int a2), (3, .int a3)]) F.1 F.2.1 dX9_alike_92 hl (k := 4) rfl (by rw [e_v4]; rfl) (by decide) rfl (fun ls hl => ?_)
  refine lv_goto (tgt := 30) F.1 F.2.1 dX9_alike_95 (by decide) ?_
  exact hk30 _ _ _ _ w a1 a2 a3 v4 (lv_sub hl [1, 2, 3, 4, 0] rfl) hf
def f_X9_alike_66 (k22 : ST → Int32 → Int32 → Int32 → Option (Int32 × ST)) (k30 : ST → Int32 → Int32 → Int32 → Int32 → Option (Int32 × ST)) (S : ST) (a1 : Int32) (a2 : Int32) (a3 : Int32) (a4 : Int32) (as0 : Int32) (as1 : Int32) : Option (Int32 × ST) := oL (as1 - as0) (fun (v1 : Int32) => (if 0 ≤ v1 then f_X9_alike_87 k22 k30 S a1 a2 a3 a4 v1 else f_X9_alike_87 k22 k30 S a1 a2 a3 a4 (v1 + a2)))
set_option maxHeartbeats 4000000 in
set_option maxRecDepth 100000 in
theorem b_X9_alike_66 {p : Program} {l : Launch} {e : Env} {s : State} {m : MethodId} {args : Array Value} {below : List Frame} {meth : Method} {c : Code} {x : CX} {res : Int32 × ST} (F : MF p m meth c cX9_alike 6 s args RX9 (some .int)) (k22 : ST → Int32 → Int32 → Int32 → Option (Int32 × ST)) (hk22 : ∀ (H : Heap) (locs : List Loc) (ls : Array Slot) (S : ST), WD x s S H locs → ∀ (a1 : Int32) (a2 : Int32) (a3 : Int32), lv_has ls 6 [(0, .ref (x.2.2 (80))), (1, .int a1), (2, .int a2), (3, .int a3)] → k22 S a1 a2 a3 = some res → W p l e ({ frames := 0, cells := 0, slots := 0, locals := 0 } : Room) s m args below meth c H locs 0 0 (MQ below (QI x res.2 res.1 s.heap.size) args s 0 0 (AA x s.heap.size)) (F0 m 22 ls [])) (k30 : ST → Int32 → Int32 → Int32 → Int32 → Option (Int32 × ST)) (hk30 : ∀ (H : Heap) (locs : List Loc) (ls : Array Slot) (S : ST), WD x s S H locs → ∀ (a1 : Int32) (a2 : Int32) (a3 : Int32) (a4 : Int32), lv_has ls 6 [(0, .ref (x.2.2 (80))), (1, .int a1), (2, .int a2), (3, .int a3), (4, .int a4)] → k30 S a1 a2 a3 a4 = some res → W p l e ({ frames := 0, cells := 0, slots := 0, locals := 0 } : Room) s m args below meth c H locs 0 0 (MQ below (QI x res.2 res.1 s.heap.size) args s 0 0 (AA x s.heap.size)) (F0 m 30 ls [])) : ∀ (H : Heap) (locs : List Loc) (ls : Array Slot) (S : ST), WD x s S H locs → ∀ (a1 : Int32) (a2 : Int32) (a3 : Int32) (a4 : Int32) (as0 : Int32) (as1 : Int32), lv_has ls 6 [(0, .ref (x.2.2 (80))), (1, .int a1), (2, .int a2), (3, .int a3), (4, .int a4)] → f_X9_alike_66 k22 k30 S a1 a2 a3 a4 as0 as1 = some res → W p l e ({ frames := 0, cells := 0, slots := 0, locals := 0 } : Room) s m args below meth c H locs 0 0 (MQ below (QI x res.2 res.1 s.heap.size) args s 0 0 (AA x s.heap.size)) (F0 m 66 ls [.int as0, .int as1]) := by
  intro H locs ls S w a1 a2 a3 a4 as0 as1 hl hf
  unfold f_X9_alike_66 at hf
  refine lv_isub F.1 F.2.1 dX9_alike_66 ?_
  refine lv_topi (fun v1 e_v1 => ?_)
  replace hf := oi_l hf e_v1
  refine lv_istore (lv' := [(5, .int v1), (0, .ref (x.2.2 (80))), (1, .int a1), (2, .int a2), (3, .int a3), (4, .int a4)]) F.1 F.2.1 dX9_alike_67 hl (by decide) rfl (fun ls hl => ?_)
  refine lv_aload_n F.1 F.2.1 dX9_alike_69 rfl (lv_at hl 1 rfl) ?_
  refine g_MD_often F w q869 dX9_alike_70 ?_
  refine lv_iload F.1 F.2.1 dX9_alike_73 (lv_at hl 0 rfl) ?_
  refine lv_if_ge (tgt := 85) F.1 F.2.1 dX9_alike_75 (by decide) (fun c2 => ?_) (fun c2 => ?_)
  · replace hf := oi_t hf c2
    refine lv_iload F.1 F.2.1 dX9_alike_85 (lv_at hl 0 rfl) ?_
    exact b_X9_alike_87 F k22 hk22 k30 hk30 _ _ _ _ w a1 a2 a3 a4 v1 (lv_sub hl [1, 2, 3, 4, 5] rfl) hf
  · replace hf := oi_f hf c2
    refine lv_iload F.1 F.2.1 dX9_alike_78 (lv_at hl 0 rfl) ?_
    refine lv_iload_n F.1 F.2.1 dX9_alike_80 rfl (lv_at hl 3 rfl) ?_
    refine lv_iadd F.1 F.2.1 dX9_alike_81 ?_
    refine lv_goto (tgt := 87) F.1 F.2.1 dX9_alike_82 (by decide) ?_
    exact b_X9_alike_87 F k22 hk22 k30 hk30 _ _ _ _ w a1 a2 a3 a4 (v1 + a2) (lv_sub hl [1, 2, 3, 4, 5] rfl) hf
def f_X9_alike_50 (k22 : ST → Int32 → Int32 → Int32 → Option (Int32 × ST)) (k30 : ST → Int32 → Int32 → Int32 → Int32 → Option (Int32 × ST)) (S : ST) (a1 : Int32) (a2 : Int32) (a3 : Int32) (a4 : Int32) (as0 : Int32) : Option (Int32 × ST) := (if 0 ≤ a4 then oG (inB a4 24) (f_X9_alike_66 k22 k30 S a1 a2 a3 a4 (ai S 35 (Int32.toNatClampNeg a4)) as0) else f_X9_alike_66 k22 k30 S a1 a2 a3 a4 0 as0)
set_option maxHeartbeats 4000000 in
set_option maxRecDepth 100000 in
theorem b_X9_alike_50 {p : Program} {l : Launch} {e : Env} {s : State} {m : MethodId} {args : Array Value} {below : List Frame} {meth : Method} {c : Code} {x : CX} {res : Int32 × ST} (F : MF p m meth c cX9_alike 6 s args RX9 (some .int)) (k22 : ST → Int32 → Int32 → Int32 → Option (Int32 × ST)) (hk22 : ∀ (H : Heap) (locs : List Loc) (ls : Array Slot) (S : ST), WD x s S H locs → ∀ (a1 : Int32) (a2 : Int32) (a3 : Int32), lv_has ls 6 [(0, .ref (x.2.2 (80))), (1, .int a1), (2, .int a2), (3, .int a3)] → k22 S a1 a2 a3 = some res → W p l e ({ frames := 0, cells := 0, slots := 0, locals := 0 } : Room) s m args below meth c H locs 0 0 (MQ below (QI x res.2 res.1 s.heap.size) args s 0 0 (AA x s.heap.size)) (F0 m 22 ls [])) (k30 : ST → Int32 → Int32 → Int32 → Int32 → Option (Int32 × ST)) (hk30 : ∀ (H : Heap) (locs : List Loc) (ls : Array Slot) (S : ST), WD x s S H locs → ∀ (a1 : Int32) (a2 : Int32) (a3 : Int32) (a4 : Int32), lv_has ls 6 [(0, .ref (x.2.2 (80))), (1, .int a1), (2, .int a2), (3, .int a3), (4, .int a4)] → k30 S a1 a2 a3 a4 = some res → W p l e ({ frames := 0, cells := 0, slots := 0, locals := 0 } : Room) s m args below meth c H locs 0 0 (MQ below (QI x res.2 res.1 s.heap.size) args s 0 0 (AA x s.heap.size)) (F0 m 30 ls [])) : ∀ (H : Heap) (locs : List Loc) (ls : Array Slot) (S : ST), WD x s S H locs → ∀ (a1 : Int32) (a2 : Int32) (a3 : Int32) (a4 : Int32) (as0 : Int32), lv_has ls 6 [(0, .ref (x.2.2 (80))), (1, .int a1), (2, .int a2), (3, .int a3), (4, .int a4)] → f_X9_alike_50 k22 k30 S a1 a2 a3 a4 as0 = some res → W p l e ({ frames := 0, cells := 0, slots := 0, locals := 0 } : Room) s m args below meth c H locs 0 0 (MQ below (QI x res.2 res.1 s.heap.size) args s 0 0 (AA x s.heap.size)) (F0 m 50 ls [.int as0]) := by
  intro H locs ls S w a1 a2 a3 a4 as0 hl hf
  unfold f_X9_alike_50 at hf
  refine lv_iload F.1 F.2.1 dX9_alike_50 (lv_at hl 4 rfl) ?_
  refine lv_if_ge (tgt := 59) F.1 F.2.1 dX9_alike_52 (by decide) (fun c1 => ?_) (fun c1 => ?_)
  · replace hf := oi_t hf c1
    refine lv_aload_n F.1 F.2.1 dX9_alike_59 rfl (lv_at hl 0 rfl) ?_
    refine g_MD_pick F w q871 dX9_alike_60 ?_
    refine lv_iload F.1 F.2.1 dX9_alike_63 (lv_at hl 4 rfl) ?_
    obtain ⟨hb2, hf⟩ := oi_g hf
    refine r_iald F w (k := 86) (f := ai S 35) (by decide) rfl hb2 dX9_alike_65 ?_
    exact b_X9_alike_66 F k22 hk22 k30 hk30 _ _ _ _ w a1 a2 a3 a4 (ai S 35 (Int32.toNatClampNeg a4)) as0 (lv_sub hl [0, 1, 2, 3, 4] rfl) hf
  · replace hf := oi_f hf c1
    refine lv_iconst (v := 0) F.1 F.2.1 dX9_alike_55 (by decide) ?_
    refine lv_goto (tgt := 66) F.1 F.2.1 dX9_alike_56 (by decide) ?_
    exact b_X9_alike_66 F k22 hk22 k30 hk30 _ _ _ _ w a1 a2 a3 a4 0 as0 (lv_sub hl [0, 1, 2, 3, 4] rfl) hf
def f_X9_alike_30 (k22 : ST → Int32 → Int32 → Int32 → Option (Int32 × ST)) : Nat → ST → Int32 → Int32 → Int32 → Int32 → Option (Int32 × ST)
  | 0, _, _, _, _, _ => none
  | n + 1, S, a1, a2, a3, a4 => (if a1 ≤ a4 then oL (a3 + 1) (fun (v2 : Int32) => k22 S a1 a2 v2) else (if 0 ≤ a3 then oG (inB a3 24) (f_X9_alike_50 k22 (f_X9_alike_30 k22 n) S a1 a2 a3 a4 (ai S 35 (Int32.toNatClampNeg a3))) else f_X9_alike_50 k22 (f_X9_alike_30 k22 n) S a1 a2 a3 a4 0))
set_option maxHeartbeats 4000000 in
set_option maxRecDepth 100000 in
theorem b_X9_alike_30 {p : Program} {l : Launch} {e : Env} {s : State} {m : MethodId} {args : Array Value} {below : List Frame} {meth : Method} {c : Code} {x : CX} {res : Int32 × ST} (F : MF p m meth c cX9_alike 6 s args RX9 (some .int)) (k22 : ST → Int32 → Int32 → Int32 → Option (Int32 × ST)) (hk22 : ∀ (H : Heap) (locs : List Loc) (ls : Array Slot) (S : ST), WD x s S H locs → ∀ (a1 : Int32) (a2 : Int32) (a3 : Int32), lv_has ls 6 [(0, .ref (x.2.2 (80))), (1, .int a1), (2, .int a2), (3, .int a3)] → k22 S a1 a2 a3 = some res → W p l e ({ frames := 0, cells := 0, slots := 0, locals := 0 } : Room) s m args below meth c H locs 0 0 (MQ below (QI x res.2 res.1 s.heap.size) args s 0 0 (AA x s.heap.size)) (F0 m 22 ls [])) : ∀ (n : Nat), ∀ (H : Heap) (locs : List Loc) (ls : Array Slot) (S : ST), WD x s S H locs → ∀ (a1 : Int32) (a2 : Int32) (a3 : Int32) (a4 : Int32), lv_has ls 6 [(0, .ref (x.2.2 (80))), (1, .int a1), (2, .int a2), (3, .int a3), (4, .int a4)] → f_X9_alike_30 k22 n S a1 a2 a3 a4 = some res → W p l e ({ frames := 0, cells := 0, slots := 0, locals := 0 } : Room) s m args below meth c H locs 0 0 (MQ below (QI x res.2 res.1 s.heap.size) args s 0 0 (AA x s.heap.size)) (F0 m 30 ls []) := by
  intro n
  induction n with
  | zero =>
    intro H locs ls S w a1 a2 a3 a4 hl hf
    have hf : (none : Option (Int32 × ST)) = some res := hf
    cases hf
  | succ n ih =>
    intro H locs ls S w a1 a2 a3 a4 hl hf
    unfold f_X9_alike_30 at hf
    refine lv_iload F.1 F.2.1 dX9_alike_30 (lv_at hl 4 rfl) ?_
    refine lv_iload_n F.1 F.2.1 dX9_alike_32 rfl (lv_at hl 1 rfl) ?_
    refine lv_icmp_ge (tgt := 98) F.1 F.2.1 dX9_alike_33 (by decide) (fun c1 => ?_) (fun c1 => ?_)
    · replace hf := oi_t hf c1
      obtain ⟨v2, e_v2⟩ : ∃ y : Int32, y = (a3 + 1) := ⟨_, rfl⟩
      replace hf := oi_l hf e_v2
      refine lv_iinc (v := v2) (lv' := [(3, .int v2), (0, .ref (x.2.2 (80))), (1, .int a1), (2, .int a2), (4, .int a4)]) F.1 F.2.1 dX9_alike_98 hl (k := 3) rfl (by rw [e_v2]; rfl) (by decide) rfl (fun ls hl => ?_)
      refine lv_goto (tgt := 22) F.1 F.2.1 dX9_alike_101 (by decide) ?_
      exact hk22 _ _ _ _ w a1 a2 v2 (lv_sub hl [1, 2, 3, 0] rfl) hf
    · replace hf := oi_f hf c1
      refine lv_iload_n F.1 F.2.1 dX9_alike_36 rfl (lv_at hl 3 rfl) ?_
      refine lv_if_ge (tgt := 44) F.1 F.2.1 dX9_alike_37 (by decide) (fun c3 => ?_) (fun c3 => ?_)
      · replace hf := oi_t hf c3
        refine lv_aload_n F.1 F.2.1 dX9_alike_44 rfl (lv_at hl 0 rfl) ?_
        refine g_MD_pick F w q871 dX9_alike_45 ?_
        refine lv_iload_n F.1 F.2.1 dX9_alike_48 rfl (lv_at hl 3 rfl) ?_
        obtain ⟨hb4, hf⟩ := oi_g hf
        refine r_iald F w (k := 86) (f := ai S 35) (by decide) rfl hb4 dX9_alike_49 ?_
        exact b_X9_alike_50 F k22 hk22 (f_X9_alike_30 k22 n) ih _ _ _ _ w a1 a2 a3 a4 (ai S 35 (Int32.toNatClampNeg a3)) (lv_sub hl [0, 1, 2, 3, 4] rfl) hf
      · replace hf := oi_f hf c3
        refine lv_iconst (v := 0) F.1 F.2.1 dX9_alike_40 (by decide) ?_
        refine lv_goto (tgt := 50) F.1 F.2.1 dX9_alike_41 (by decide) ?_
        exact b_X9_alike_50 F k22 hk22 (f_X9_alike_30 k22 n) ih _ _ _ _ w a1 a2 a3 a4 0 (lv_sub hl [0, 1, 2, 3, 4] rfl) hf
def f_X9_alike_140 (k109 : ST → Int32 → Int32 → Int32 → Option (Int32 × ST)) (S : ST) (a2 : Int32) (a4 : Int32) (as0 : Int32) : Option (Int32 × ST) := oL (a4 + 1) (fun (v1 : Int32) => k109 S a2 as0 v1)
set_option maxHeartbeats 4000000 in
set_option maxRecDepth 100000 in
theorem b_X9_alike_140 {p : Program} {l : Launch} {e : Env} {s : State} {m : MethodId} {args : Array Value} {below : List Frame} {meth : Method} {c : Code} {x : CX} {res : Int32 × ST} (F : MF p m meth c cX9_alike 6 s args RX9 (some .int)) (k109 : ST → Int32 → Int32 → Int32 → Option (Int32 × ST)) (hk109 : ∀ (H : Heap) (locs : List Loc) (ls : Array Slot) (S : ST), WD x s S H locs → ∀ (a2 : Int32) (a3 : Int32) (a4 : Int32), lv_has ls 6 [(0, .ref (x.2.2 (80))), (2, .int a2), (3, .int a3), (4, .int a4)] → k109 S a2 a3 a4 = some res → W p l e ({ frames := 0, cells := 0, slots := 0, locals := 0 } : Room) s m args below meth c H locs 0 0 (MQ below (QI x res.2 res.1 s.heap.size) args s 0 0 (AA x s.heap.size)) (F0 m 109 ls [])) : ∀ (H : Heap) (locs : List Loc) (ls : Array Slot) (S : ST), WD x s S H locs → ∀ (a2 : Int32) (a4 : Int32) (as0 : Int32), lv_has ls 6 [(0, .ref (x.2.2 (80))), (2, .int a2), (4, .int a4)] → f_X9_alike_140 k109 S a2 a4 as0 = some res → W p l e ({ frames := 0, cells := 0, slots := 0, locals := 0 } : Room) s m args below meth c H locs 0 0 (MQ below (QI x res.2 res.1 s.heap.size) args s 0 0 (AA x s.heap.size)) (F0 m 140 ls [.int as0]) := by
  intro H locs ls S w a2 a4 as0 hl hf
  unfold f_X9_alike_140 at hf
  refine lv_istore_n (lv' := [(3, .int as0), (0, .ref (x.2.2 (80))), (2, .int a2), (4, .int a4)]) F.1 F.2.1 dX9_alike_140 rfl hl (by decide) rfl (fun ls hl => ?_)
  obtain ⟨v1, e_v1⟩ : ∃ y : Int32, y = (a4 + 1) := ⟨_, rfl⟩
  replace hf := oi_l hf e_v1
  refine lv_iinc (v := v1) (lv' := [(4, .int v1), (3, .int as0), (0, .ref (x.2.2 (80))), (2, .int a2)]) F.1 F.2.1 dX9_alike_141 hl (k := 3) rfl (by rw [e_v1]; rfl) (by decide) rfl (fun ls hl => ?_)
  refine lv_goto (tgt := 109) F.1 F.2.1 dX9_alike_144 (by decide) ?_
  exact hk109 _ _ _ _ w a2 as0 v1 (lv_sub hl [2, 3, 1, 0] rfl) hf
def f_X9_alike_139 (k109 : ST → Int32 → Int32 → Int32 → Option (Int32 × ST)) (S : ST) (a2 : Int32) (a4 : Int32) : Option (Int32 × ST) := f_X9_alike_140 k109 S a2 a4 0
set_option maxHeartbeats 4000000 in
set_option maxRecDepth 100000 in
theorem b_X9_alike_139 {p : Program} {l : Launch} {e : Env} {s : State} {m : MethodId} {args : Array Value} {below : List Frame} {meth : Method} {c : Code} {x : CX} {res : Int32 × ST} (F : MF p m meth c cX9_alike 6 s args RX9 (some .int)) (k109 : ST → Int32 → Int32 → Int32 → Option (Int32 × ST)) (hk109 : ∀ (H : Heap) (locs : List Loc) (ls : Array Slot) (S : ST), WD x s S H locs → ∀ (a2 : Int32) (a3 : Int32) (a4 : Int32), lv_has ls 6 [(0, .ref (x.2.2 (80))), (2, .int a2), (3, .int a3), (4, .int a4)] → k109 S a2 a3 a4 = some res → W p l e ({ frames := 0, cells := 0, slots := 0, locals := 0 } : Room) s m args below meth c H locs 0 0 (MQ below (QI x res.2 res.1 s.heap.size) args s 0 0 (AA x s.heap.size)) (F0 m 109 ls [])) : ∀ (H : Heap) (locs : List Loc) (ls : Array Slot) (S : ST), WD x s S H locs → ∀ (a2 : Int32) (a4 : Int32), lv_has ls 6 [(0, .ref (x.2.2 (80))), (2, .int a2), (4, .int a4)] → f_X9_alike_139 k109 S a2 a4 = some res → W p l e ({ frames := 0, cells := 0, slots := 0, locals := 0 } : Room) s m args below meth c H locs 0 0 (MQ below (QI x res.2 res.1 s.heap.size) args s 0 0 (AA x s.heap.size)) (F0 m 139 ls []) := by
  intro H locs ls S w a2 a4 hl hf
  unfold f_X9_alike_139 at hf
  refine lv_iconst (v := 0) F.1 F.2.1 dX9_alike_139 (by decide) ?_
  exact b_X9_alike_140 F k109 hk109 _ _ _ _ w a2 a4 0 (lv_sub hl [0, 1, 2] rfl) hf
def f_X9_alike_161 (S : ST) (as0 : Int32) : Option (Int32 × ST) := some (as0, S)
set_option maxHeartbeats 4000000 in
set_option maxRecDepth 100000 in
theorem b_X9_alike_161 {p : Program} {l : Launch} {e : Env} {s : State} {m : MethodId} {args : Array Value} {below : List Frame} {meth : Method} {c : Code} {x : CX} {res : Int32 × ST} (F : MF p m meth c cX9_alike 6 s args RX9 (some .int)) : ∀ (H : Heap) (locs : List Loc) (ls : Array Slot) (S : ST), WD x s S H locs → ∀ (as0 : Int32), lv_has ls 6 [] → f_X9_alike_161 S as0 = some res → W p l e ({ frames := 0, cells := 0, slots := 0, locals := 0 } : Room) s m args below meth c H locs 0 0 (MQ below (QI x res.2 res.1 s.heap.size) args s 0 0 (AA x s.heap.size)) (F0 m 161 ls [.int as0]) := by
  intro H locs ls S w as0 hl hf
  unfold f_X9_alike_161 at hf
  exact r_iret F w (oi_s hf) dX9_alike_161
def f_X9_alike_109 : Nat → ST → Int32 → Int32 → Int32 → Option (Int32 × ST)
  | 0, _, _, _, _ => none
  | n + 1, S, a2, a3, a4 => (if a2 ≤ a4 then (if a3 = 0 then f_X9_alike_161 S (-1) else oG (inB 1 2001) (f_X9_alike_161 S (ai S 33 (Int32.toNatClampNeg 1)))) else (if a3 = 0 then f_X9_alike_139 (f_X9_alike_109 n) S a2 a4 else oG (inB a4 2001) (oG (inB 1 2001) ((if (ai S 33 (Int32.toNatClampNeg a4)) = (ai S 33 (Int32.toNatClampNeg 1)) then f_X9_alike_140 (f_X9_alike_109 n) S a2 a4 1 else f_X9_alike_139 (f_X9_alike_109 n) S a2 a4)))))
set_option maxHeartbeats 4000000 in
set_option maxRecDepth 100000 in
theorem b_X9_alike_109 {p : Program} {l : Launch} {e : Env} {s : State} {m : MethodId} {args : Array Value} {below : List Frame} {meth : Method} {c : Code} {x : CX} {res : Int32 × ST} (F : MF p m meth c cX9_alike 6 s args RX9 (some .int)) : ∀ (n : Nat), ∀ (H : Heap) (locs : List Loc) (ls : Array Slot) (S : ST), WD x s S H locs → ∀ (a2 : Int32) (a3 : Int32) (a4 : Int32), lv_has ls 6 [(0, .ref (x.2.2 (80))), (2, .int a2), (3, .int a3), (4, .int a4)] → f_X9_alike_109 n S a2 a3 a4 = some res → W p l e ({ frames := 0, cells := 0, slots := 0, locals := 0 } : Room) s m args below meth c H locs 0 0 (MQ below (QI x res.2 res.1 s.heap.size) args s 0 0 (AA x s.heap.size)) (F0 m 109 ls []) := by
  intro n
  induction n with
  | zero =>
    intro H locs ls S w a2 a3 a4 hl hf
    have hf : (none : Option (Int32 × ST)) = some res := hf
    cases hf
  | succ n ih =>
    intro H locs ls S w a2 a3 a4 hl hf
    unfold f_X9_alike_109 at hf
    refine lv_iload F.1 F.2.1 dX9_alike_109 (lv_at hl 3 rfl) ?_
    refine lv_iload_n F.1 F.2.1 dX9_alike_111 rfl (lv_at hl 1 rfl) ?_
    refine lv_icmp_ge (tgt := 147) F.1 F.2.1 dX9_alike_112 (by decide) (fun c1 => ?_) (fun c1 => ?_)
    · replace hf := oi_t hf c1
      refine lv_iload_n F.1 F.2.1 dX9_alike_147 rfl (lv_at hl 2 rfl) ?_
      refine lv_if_eq (tgt := 160) F.1 F.2.1 dX9_alike_148 (by decide) (fun c2 => ?_) (fun c2 => ?_)
      · replace hf := oi_t hf c2
        refine lv_iconst (v := (-1)) F.1 F.2.1 dX9_alike_160 (by decide) ?_
        exact b_X9_alike_161 F  _ _ _ _ w (-1) (lv_sub hl [] rfl) hf
      · replace hf := oi_f hf c2
        refine lv_aload_n F.1 F.2.1 dX9_alike_151 rfl (lv_at hl 0 rfl) ?_
        refine g_MD_often F w q869 dX9_alike_152 ?_
        refine lv_iconst (v := 1) F.1 F.2.1 dX9_alike_155 (by decide) ?_
        obtain ⟨hb3, hf⟩ := oi_g hf
        refine r_iald F w (k := 84) (f := ai S 33) (by decide) rfl hb3 dX9_alike_156 ?_
        refine lv_goto (tgt := 161) F.1 F.2.1 dX9_alike_157 (by decide) ?_
        exact b_X9_alike_161 F  _ _ _ _ w (ai S 33 (Int32.toNatClampNeg 1)) (lv_sub hl [] rfl) hf
    · replace hf := oi_f hf c1
      refine lv_iload_n F.1 F.2.1 dX9_alike_115 rfl (lv_at hl 2 rfl) ?_
      refine lv_if_eq (tgt := 139) F.1 F.2.1 dX9_alike_116 (by decide) (fun c4 => ?_) (fun c4 => ?_)
      · replace hf := oi_t hf c4
        exact b_X9_alike_139 F (f_X9_alike_109 n) ih _ _ _ _ w a2 a4 (lv_sub hl [0, 1, 3] rfl) hf
      · replace hf := oi_f hf c4
        refine lv_aload_n F.1 F.2.1 dX9_alike_119 rfl (lv_at hl 0 rfl) ?_
        refine g_MD_often F w q869 dX9_alike_120 ?_
        refine lv_iload F.1 F.2.1 dX9_alike_123 (lv_at hl 3 rfl) ?_
        obtain ⟨hb5, hf⟩ := oi_g hf
        refine r_iald F w (k := 84) (f := ai S 33) (by decide) rfl hb5 dX9_alike_125 ?_
        refine lv_aload_n F.1 F.2.1 dX9_alike_126 rfl (lv_at hl 0 rfl) ?_
        refine g_MD_often F w q869 dX9_alike_127 ?_
        refine lv_iconst (v := 1) F.1 F.2.1 dX9_alike_130 (by decide) ?_
        obtain ⟨hb6, hf⟩ := oi_g hf
        refine r_iald F w (k := 84) (f := ai S 33) (by decide) rfl hb6 dX9_alike_131 ?_
        refine lv_icmp_ne (tgt := 139) F.1 F.2.1 dX9_alike_132 (by decide) (fun c7 => ?_) (fun c7 => ?_)
        · replace hf := oi_f hf c7
          exact b_X9_alike_139 F (f_X9_alike_109 n) ih _ _ _ _ w a2 a4 (lv_sub hl [0, 1, 3] rfl) hf
        · replace hf := oi_t hf c7
          refine lv_iconst (v := 1) F.1 F.2.1 dX9_alike_135 (by decide) ?_
          refine lv_goto (tgt := 140) F.1 F.2.1 dX9_alike_136 (by decide) ?_
          exact b_X9_alike_140 F (f_X9_alike_109 n) ih _ _ _ _ w a2 a4 1 (lv_sub hl [0, 1, 3] rfl) hf
def f_X9_alike_22 : Nat → ST → Int32 → Int32 → Int32 → Option (Int32 × ST)
  | 0, _, _, _, _ => none
  | n + 1, S, a1, a2, a3 => (if a1 ≤ a3 then f_X9_alike_109 FU S a2 1 2 else f_X9_alike_30 (f_X9_alike_22 n) FU S a1 a2 a3 (-1))
set_option maxHeartbeats 4000000 in
set_option maxRecDepth 100000 in
theorem b_X9_alike_22 {p : Program} {l : Launch} {e : Env} {s : State} {m : MethodId} {args : Array Value} {below : List Frame} {meth : Method} {c : Code} {x : CX} {res : Int32 × ST} (F : MF p m meth c cX9_alike 6 s args RX9 (some .int)) : ∀ (n : Nat), ∀ (H : Heap) (locs : List Loc) (ls : Array Slot) (S : ST), WD x s S H locs → ∀ (a1 : Int32) (a2 : Int32) (a3 : Int32), lv_has ls 6 [(0, .ref (x.2.2 (80))), (1, .int a1), (2, .int a2), (3, .int a3)] → f_X9_alike_22 n S a1 a2 a3 = some res → W p l e ({ frames := 0, cells := 0, slots := 0, locals := 0 } : Room) s m args below meth c H locs 0 0 (MQ below (QI x res.2 res.1 s.heap.size) args s 0 0 (AA x s.heap.size)) (F0 m 22 ls []) := by
  intro n
  induction n with
  | zero =>
    intro H locs ls S w a1 a2 a3 hl hf
    have hf : (none : Option (Int32 × ST)) = some res := hf
    cases hf
  | succ n ih =>
    intro H locs ls S w a1 a2 a3 hl hf
    unfold f_X9_alike_22 at hf
    refine lv_iload_n F.1 F.2.1 dX9_alike_22 rfl (lv_at hl 3 rfl) ?_
    refine lv_iload_n F.1 F.2.1 dX9_alike_23 rfl (lv_at hl 1 rfl) ?_
    refine lv_icmp_ge (tgt := 104) F.1 F.2.1 dX9_alike_24 (by decide) (fun c1 => ?_) (fun c1 => ?_)
    · replace hf := oi_t hf c1
      refine lv_iconst (v := 1) F.1 F.2.1 dX9_alike_104 (by decide) ?_
      refine lv_istore_n (lv' := [(3, .int 1), (0, .ref (x.2.2 (80))), (1, .int a1), (2, .int a2)]) F.1 F.2.1 dX9_alike_105 rfl hl (by decide) rfl (fun ls hl => ?_)
      refine lv_iconst (v := 2) F.1 F.2.1 dX9_alike_106 (by decide) ?_
      refine lv_istore (lv' := [(4, .int 2), (3, .int 1), (0, .ref (x.2.2 (80))), (1, .int a1), (2, .int a2)]) F.1 F.2.1 dX9_alike_107 hl (by decide) rfl (fun ls hl => ?_)
      exact b_X9_alike_109 F FU _ _ _ _ w a2 1 2 (lv_sub hl [2, 4, 1, 0] rfl) hf
    · replace hf := oi_f hf c1
      refine lv_iconst (v := (-1)) F.1 F.2.1 dX9_alike_27 (by decide) ?_
      refine lv_istore (lv' := [(4, .int (-1)), (0, .ref (x.2.2 (80))), (1, .int a1), (2, .int a2), (3, .int a3)]) F.1 F.2.1 dX9_alike_28 hl (by decide) rfl (fun ls hl => ?_)
      exact b_X9_alike_30 F (f_X9_alike_22 n) ih FU _ _ _ _ w a1 a2 a3 (-1) (lv_sub hl [1, 2, 3, 4, 0] rfl) hf
def f_X9_alike_2 : Nat → ST → Int32 → Int32 → Int32 → Option (Int32 × ST)
  | 0, _, _, _, _ => none
  | n + 1, S, a1, a2, a3 => (if a2 ≤ a3 then f_X9_alike_22 FU S a1 a2 (-1) else oG (inB a3 2001) (oL (sA S 33 (upd (ai S 33) (Int32.toNatClampNeg a3) 0)) (fun (S3 : ST) => oL (a3 + 1) (fun (v4 : Int32) => (f_X9_alike_2 n) S3 a1 a2 v4))))
set_option maxHeartbeats 4000000 in
set_option maxRecDepth 100000 in
theorem b_X9_alike_2 {p : Program} {l : Launch} {e : Env} {s : State} {m : MethodId} {args : Array Value} {below : List Frame} {meth : Method} {c : Code} {x : CX} {res : Int32 × ST} (F : MF p m meth c cX9_alike 6 s args RX9 (some .int)) : ∀ (n : Nat), ∀ (H : Heap) (locs : List Loc) (ls : Array Slot) (S : ST), WD x s S H locs → ∀ (a1 : Int32) (a2 : Int32) (a3 : Int32), lv_has ls 6 [(0, .ref (x.2.2 (80))), (1, .int a1), (2, .int a2), (3, .int a3)] → f_X9_alike_2 n S a1 a2 a3 = some res → W p l e ({ frames := 0, cells := 0, slots := 0, locals := 0 } : Room) s m args below meth c H locs 0 0 (MQ below (QI x res.2 res.1 s.heap.size) args s 0 0 (AA x s.heap.size)) (F0 m 2 ls []) := by
  intro n
  induction n with
  | zero =>
    intro H locs ls S w a1 a2 a3 hl hf
    have hf : (none : Option (Int32 × ST)) = some res := hf
    cases hf
  | succ n ih =>
    intro H locs ls S w a1 a2 a3 hl hf
    unfold f_X9_alike_2 at hf
    refine lv_iload_n F.1 F.2.1 dX9_alike_2 rfl (lv_at hl 3 rfl) ?_
    refine lv_iload_n F.1 F.2.1 dX9_alike_3 rfl (lv_at hl 2 rfl) ?_
    refine lv_icmp_ge (tgt := 20) F.1 F.2.1 dX9_alike_4 (by decide) (fun c1 => ?_) (fun c1 => ?_)
    · replace hf := oi_t hf c1
      refine lv_iconst (v := (-1)) F.1 F.2.1 dX9_alike_20 (by decide) ?_
      refine lv_istore_n (lv' := [(3, .int (-1)), (0, .ref (x.2.2 (80))), (1, .int a1), (2, .int a2)]) F.1 F.2.1 dX9_alike_21 rfl hl (by decide) rfl (fun ls hl => ?_)
      exact b_X9_alike_22 F FU _ _ _ _ w a1 a2 (-1) (lv_sub hl [1, 2, 3, 0] rfl) hf
    · replace hf := oi_f hf c1
      refine lv_aload_n F.1 F.2.1 dX9_alike_7 rfl (lv_at hl 0 rfl) ?_
      refine g_MD_often F w q869 dX9_alike_8 ?_
      refine lv_iload_n F.1 F.2.1 dX9_alike_11 rfl (lv_at hl 3 rfl) ?_
      refine lv_iconst (v := 0) F.1 F.2.1 dX9_alike_12 (by decide) ?_
      obtain ⟨hb2, hf⟩ := oi_g hf
      refine r_iast F w (k := 84) (a := 33) (n := 2001) (by decide) (fun S9 => rfl) rfl hb2 dX9_alike_13 (fun H locs w => ?_)
      obtain ⟨S3, e_S3⟩ : ∃ y : ST, y = sA S 33 (upd (ai S 33) (Int32.toNatClampNeg a3) 0) := ⟨_, rfl⟩
      replace w : WD x s S3 H locs := by rw [e_S3]; exact w
      replace hf := oi_l hf e_S3
      obtain ⟨v4, e_v4⟩ : ∃ y : Int32, y = (a3 + 1) := ⟨_, rfl⟩
      replace hf := oi_l hf e_v4
      refine lv_iinc (v := v4) (lv' := [(3, .int v4), (0, .ref (x.2.2 (80))), (1, .int a1), (2, .int a2)]) F.1 F.2.1 dX9_alike_14 hl (k := 3) rfl (by rw [e_v4]; rfl) (by decide) rfl (fun ls hl => ?_)
      refine lv_goto (tgt := 2) F.1 F.2.1 dX9_alike_17 (by decide) ?_
      exact ih _ _ _ _ w a1 a2 v4 (lv_sub hl [1, 2, 3, 0] rfl) hf
def f_X9_alike_0 (S : ST) (a1 : Int32) (a2 : Int32) : Option (Int32 × ST) := f_X9_alike_2 FU S a1 a2 0
set_option maxHeartbeats 4000000 in
set_option maxRecDepth 100000 in
theorem b_X9_alike_0 {p : Program} {l : Launch} {e : Env} {s : State} {m : MethodId} {args : Array Value} {below : List Frame} {meth : Method} {c : Code} {x : CX} {res : Int32 × ST} (F : MF p m meth c cX9_alike 6 s args RX9 (some .int)) : ∀ (H : Heap) (locs : List Loc) (ls : Array Slot) (S : ST), WD x s S H locs → ∀ (a1 : Int32) (a2 : Int32), lv_has ls 6 [(0, .ref (x.2.2 (80))), (1, .int a1), (2, .int a2)] → f_X9_alike_0 S a1 a2 = some res → W p l e ({ frames := 0, cells := 0, slots := 0, locals := 0 } : Room) s m args below meth c H locs 0 0 (MQ below (QI x res.2 res.1 s.heap.size) args s 0 0 (AA x s.heap.size)) (F0 m 0 ls []) := by
  intro H locs ls S w a1 a2 hl hf
  unfold f_X9_alike_0 at hf
  refine lv_iconst (v := 0) F.1 F.2.1 dX9_alike_0 (by decide) ?_
  refine lv_istore_n (lv' := [(3, .int 0), (0, .ref (x.2.2 (80))), (1, .int a1), (2, .int a2)]) F.1 F.2.1 dX9_alike_1 rfl hl (by decide) rfl (fun ls hl => ?_)
  exact b_X9_alike_2 F FU _ _ _ _ w a1 a2 0 (lv_sub hl [1, 2, 3, 0] rfl) hf
def f_X9_alike (S : ST) (a1 : Int32) (a2 : Int32) : Option (Int32 × ST) := f_X9_alike_0 S a1 a2
set_option maxHeartbeats 4000000 in
set_option maxRecDepth 100000 in
theorem k_X9_alike (l : Launch) (x : CX) (S : ST) (a1 : Int32) (a2 : Int32) {res : Int32 × ST} (hf : f_X9_alike S a1 a2 = some res) (sz : Nat) : Met l yX9_alike (Cond.code yX9_alike cX9_alike 6 (some .int) :: GW) ({ frames := 0, cells := 0, slots := 0, locals := 0 } : Room) (PC x S sz [.ref (x.2.2 (80)), .int a1, .int a2]) (QI x res.2 res.1 sz) 0 0 (AA x sz) := by
  refine Met.ofW (cc := cX9_alike) (maxL := 6) (ret := (some .int)) (by decide) rfl ?_
  intro p e s m args below meth c s₁ B hml hv
  obtain ⟨rfl, rfl, hPW⟩ := hv
  have F : MF p m meth c cX9_alike 6 s _ RX9 (some .int) := MF.of B hml
  have w := WD.of hPW
  have hl := lv_entry ([.ref (x.2.2 (80)), .int a1, .int a2]) (n := 6) (Nat.le_of_ble_eq_true rfl)
  rw [lg_entry_eq]
  generalize (lg_sl ([.ref (x.2.2 (80)), .int a1, .int a2]) ++ List.replicate (6 - (lg_sl ([.ref (x.2.2 (80)), .int a1, .int a2])).length) Slot.unset).toArray = ls at hl ⊢
  have hl : lv_has ls 6 [(0, .ref (x.2.2 (80))), (1, .int a1), (2, .int a2)] := hl
  unfold f_X9_alike at hf
  exact b_X9_alike_0 F  _ _ _ _ w a1 a2 (lv_sub hl [0, 1, 2] rfl) hf
theorem cy_X9_firstDifferenceSet : CY yX9_firstDifferenceSet RX9 cX9_firstDifferenceSet 6 (some .int) 3 := ⟨q10, q1167, rfl, by decide, by decide, by decide +kernel⟩
def f_X9_firstDifferenceSet_119 (k80 : ST → Int32 → Int32 → Int32 → Int32 → Int32 → Option (Int32 × ST)) (S : ST) (a1 : Int32) (a2 : Int32) (a3 : Int32) (a5 : Int32) (as0 : Int32) : Option (Int32 × ST) := k80 S a1 a2 a3 as0 a5
set_option maxHeartbeats 4000000 in
set_option maxRecDepth 100000 in
theorem b_X9_firstDifferenceSet_119 {p : Program} {l : Launch} {e : Env} {s : State} {m : MethodId} {args : Array Value} {below : List Frame} {meth : Method} {c : Code} {x : CX} {res : Int32 × ST} (F : MF p m meth c cX9_firstDifferenceSet 6 s args RX9 (some .int)) (k80 : ST → Int32 → Int32 → Int32 → Int32 → Int32 → Option (Int32 × ST)) (hk80 : ∀ (H : Heap) (locs : List Loc) (ls : Array Slot) (S : ST), WD x s S H locs → ∀ (a1 : Int32) (a2 : Int32) (a3 : Int32) (a4 : Int32) (a5 : Int32), lv_has ls 6 [(0, .ref (x.2.2 (80))), (1, .int a1), (2, .int a2), (3, .int a3), (4, .int a4), (5, .int a5)] → k80 S a1 a2 a3 a4 a5 = some res → W p l e ({ frames := 2, cells := 0, slots := 0, locals := 45 } : Room) s m args below meth c H locs 0 0 (MQ below (QI x res.2 res.1 s.heap.size) args s 0 0 (AA x s.heap.size)) (F0 m 80 ls [])) : ∀ (H : Heap) (locs : List Loc) (ls : Array Slot) (S : ST), WD x s S H locs → ∀ (a1 : Int32) (a2 : Int32) (a3 : Int32) (a5 : Int32) (as0 : Int32), lv_has ls 6 [(0, .ref (x.2.2 (80))), (1, .int a1), (2, .int a2), (3, .int a3), (5, .int a5)] → f_X9_firstDifferenceSet_119 k80 S a1 a2 a3 a5 as0 = some res → W p l e ({ frames := 2, cells := 0, slots := 0, locals := 45 } : Room) s m args below meth c H locs 0 0 (MQ below (QI x res.2 res.1 s.heap.size) args s 0 0 (AA x s.heap.size)) (F0 m 119 ls [.int as0]) := by
  intro H locs ls S w a1 a2 a3 a5 as0 hl hf
  unfold f_X9_firstDifferenceSet_119 at hf
  refine lv_istore (lv' := [(4, .int as0), (0, .ref (x.2.2 (80))), (1, .int a1), (2, .int a2), (3, .int a3), (5, .int a5)]) F.1 F.2.1 dX9_firstDifferenceSet_119 hl (by decide) rfl (fun ls hl => ?_)
  refine lv_goto (tgt := 80) F.1 F.2.1 dX9_firstDifferenceSet_121 (by decide) ?_
  exact hk80 _ _ _ _ w a1 a2 a3 as0 a5 (lv_sub hl [1, 2, 3, 4, 0, 5] rfl) hf
def f_X9_firstDifferenceSet_118 (k80 : ST → Int32 → Int32 → Int32 → Int32 → Int32 → Option (Int32 × ST)) (S : ST) (a1 : Int32) (a2 : Int32) (a3 : Int32) (a5 : Int32) : Option (Int32 × ST) := f_X9_firstDifferenceSet_119 k80 S a1 a2 a3 a5 0
set_option maxHeartbeats 4000000 in
set_option maxRecDepth 100000 in
theorem b_X9_firstDifferenceSet_118 {p : Program} {l : Launch} {e : Env} {s : State} {m : MethodId} {args : Array Value} {below : List Frame} {meth : Method} {c : Code} {x : CX} {res : Int32 × ST} (F : MF p m meth c cX9_firstDifferenceSet 6 s args RX9 (some .int)) (k80 : ST → Int32 → Int32 → Int32 → Int32 → Int32 → Option (Int32 × ST)) (hk80 : ∀ (H : Heap) (locs : List Loc) (ls : Array Slot) (S : ST), WD x s S H locs → ∀ (a1 : Int32) (a2 : Int32) (a3 : Int32) (a4 : Int32) (a5 : Int32), lv_has ls 6 [(0, .ref (x.2.2 (80))), (1, .int a1), (2, .int a2), (3, .int a3), (4, .int a4), (5, .int a5)] → k80 S a1 a2 a3 a4 a5 = some res → W p l e ({ frames := 2, cells := 0, slots := 0, locals := 45 } : Room) s m args below meth c H locs 0 0 (MQ below (QI x res.2 res.1 s.heap.size) args s 0 0 (AA x s.heap.size)) (F0 m 80 ls [])) : ∀ (H : Heap) (locs : List Loc) (ls : Array Slot) (S : ST), WD x s S H locs → ∀ (a1 : Int32) (a2 : Int32) (a3 : Int32) (a5 : Int32), lv_has ls 6 [(0, .ref (x.2.2 (80))), (1, .int a1), (2, .int a2), (3, .int a3), (5, .int a5)] → f_X9_firstDifferenceSet_118 k80 S a1 a2 a3 a5 = some res → W p l e ({ frames := 2, cells := 0, slots := 0, locals := 45 } : Room) s m args below meth c H locs 0 0 (MQ below (QI x res.2 res.1 s.heap.size) args s 0 0 (AA x s.heap.size)) (F0 m 118 ls []) := by
  intro H locs ls S w a1 a2 a3 a5 hl hf
  unfold f_X9_firstDifferenceSet_118 at hf
  refine lv_iconst (v := 0) F.1 F.2.1 dX9_firstDifferenceSet_118 (by decide) ?_
  exact b_X9_firstDifferenceSet_119 F k80 hk80 _ _ _ _ w a1 a2 a3 a5 0 (lv_sub hl [0, 1, 2, 3, 4] rfl) hf
def f_X9_firstDifferenceSet_80 : Nat → ST → Int32 → Int32 → Int32 → Int32 → Int32 → Option (Int32 × ST)
  | 0, _, _, _, _, _, _ => none
  | n + 1, S, a1, a2, a3, a4, a5 => (if a4 = 0 then (if a5 = (-1) then some ((-1), S) else oV (f_X9_saves S) (fun (S3 : ST) => oV (f_X9_makes S3 (a2 - (1 : Int32))) (fun (S4 : ST) => oB (f_X9_becomes S4 a3) (fun (r6 : Int32) (S5 : ST) => oG (inB 0 101) (oL (sA S5 30 (upd (ai S5 30) (Int32.toNatClampNeg 0) a1)) (fun (S8 : ST) => some (a5, S8))))))) else oB (f_X9_alike S (a2 - (1 : Int32)) a1) (fun (r10 : Int32) (S9 : ST) => (if r10 = (-1) then oB (f_X9_picksNext S9 (a2 - (1 : Int32)) (a1 - (1 : Int32))) (fun (r13 : Int32) (S12 : ST) => (if r13 = 0 then f_X9_firstDifferenceSet_118 (f_X9_firstDifferenceSet_80 n) S12 a1 a2 a3 r10 else f_X9_firstDifferenceSet_119 (f_X9_firstDifferenceSet_80 n) S12 a1 a2 a3 r10 1)) else f_X9_firstDifferenceSet_118 (f_X9_firstDifferenceSet_80 n) S9 a1 a2 a3 r10)))
set_option maxHeartbeats 4000000 in
set_option maxRecDepth 100000 in
theorem b_X9_firstDifferenceSet_80 {p : Program} {l : Launch} {e : Env} {s : State} {m : MethodId} {args : Array Value} {below : List Frame} {meth : Method} {c : Code} {x : CX} {res : Int32 × ST} (F : MF p m meth c cX9_firstDifferenceSet 6 s args RX9 (some .int)) : ∀ (n : Nat), ∀ (H : Heap) (locs : List Loc) (ls : Array Slot) (S : ST), WD x s S H locs → ∀ (a1 : Int32) (a2 : Int32) (a3 : Int32) (a4 : Int32) (a5 : Int32), lv_has ls 6 [(0, .ref (x.2.2 (80))), (1, .int a1), (2, .int a2), (3, .int a3), (4, .int a4), (5, .int a5)] → f_X9_firstDifferenceSet_80 n S a1 a2 a3 a4 a5 = some res → W p l e ({ frames := 2, cells := 0, slots := 0, locals := 45 } : Room) s m args below meth c H locs 0 0 (MQ below (QI x res.2 res.1 s.heap.size) args s 0 0 (AA x s.heap.size)) (F0 m 80 ls []) := by
  intro n
  induction n with
  | zero =>
    intro H locs ls S w a1 a2 a3 a4 a5 hl hf
    have hf : (none : Option (Int32 × ST)) = some res := hf
    cases hf
  | succ n ih =>
    intro H locs ls S w a1 a2 a3 a4 a5 hl hf
    unfold f_X9_firstDifferenceSet_80 at hf
    refine lv_iload F.1 F.2.1 dX9_firstDifferenceSet_80 (lv_at hl 4 rfl) ?_
    refine lv_if_eq (tgt := 124) F.1 F.2.1 dX9_firstDifferenceSet_82 (by decide) (fun c1 => ?_) (fun c1 => ?_)
    · replace hf := oi_t hf c1
      refine lv_iload F.1 F.2.1 dX9_firstDifferenceSet_124 (lv_at hl 5 rfl) ?_
      refine lv_iconst (v := (-1)) F.1 F.2.1 dX9_firstDifferenceSet_126 (by decide) ?_
      refine lv_icmp_ne (tgt := 132) F.1 F.2.1 dX9_firstDifferenceSet_127 (by decide) (fun c2 => ?_) (fun c2 => ?_)
      · replace hf := oi_f hf c2
        refine lv_aload_n F.1 F.2.1 dX9_firstDifferenceSet_132 rfl (lv_at hl 0 rfl) ?_
        obtain ⟨S3, hc, hf⟩ := oi_v hf
        refine k_v0 (S' := S3) w (runV (As := []) (rest := []) (kb := 80) F w (k_X9_saves l x S hc H.size) cy_X9_saves q928 q930 qp23 ⟨rfl, rfl⟩ ⟨Nat.le_of_ble_eq_true rfl, Nat.le_of_ble_eq_true rfl⟩ (by decide) rfl rfl rfl rfl hl.1 (Nat.le_of_ble_eq_true rfl) ⟨Nat.le_of_ble_eq_true rfl, Nat.le_of_ble_eq_true rfl⟩ dX9_firstDifferenceSet_133) (fun H locs w => ?_)
        refine lv_aload_n F.1 F.2.1 dX9_firstDifferenceSet_136 rfl (lv_at hl 0 rfl) ?_
        refine lv_iload_n F.1 F.2.1 dX9_firstDifferenceSet_137 rfl (lv_at hl 2 rfl) ?_
        refine lv_iconst (v := 1) F.1 F.2.1 dX9_firstDifferenceSet_138 (by decide) ?_
        refine lv_isub F.1 F.2.1 dX9_firstDifferenceSet_139 ?_
        obtain ⟨S4, hc, hf⟩ := oi_v hf
        refine k_v0 (S' := S4) w (runV (As := [.int (a2 - (1 : Int32))]) (rest := []) (kb := 80) F w (k_X9_makes l x S3 (a2 - (1 : Int32)) hc H.size) cy_X9_makes q1153 q1155 qp52 ⟨rfl, rfl⟩ ⟨Nat.le_of_ble_eq_true rfl, Nat.le_of_ble_eq_true rfl⟩ (by decide) rfl rfl rfl rfl hl.1 (Nat.le_of_ble_eq_true rfl) ⟨Nat.le_of_ble_eq_true rfl, Nat.le_of_ble_eq_true rfl⟩ dX9_firstDifferenceSet_140) (fun H locs w => ?_)
        refine lv_aload_n F.1 F.2.1 dX9_firstDifferenceSet_143 rfl (lv_at hl 0 rfl) ?_
        refine lv_iload_n F.1 F.2.1 dX9_firstDifferenceSet_144 rfl (lv_at hl 3 rfl) ?_
        obtain ⟨r6, S5, hc, hf⟩ := oi_b hf
        refine k_i0 (S' := S5) (r := r6) w (runV (As := [.int a3]) (rest := []) (kb := 80) F w (k_X9_becomes l x S4 a3 hc H.size) cy_X9_becomes q944 q946 qp27 ⟨rfl, rfl⟩ ⟨Nat.le_of_ble_eq_true rfl, Nat.le_of_ble_eq_true rfl⟩ (by decide) rfl rfl rfl rfl hl.1 (Nat.le_of_ble_eq_true rfl) ⟨Nat.le_of_ble_eq_true rfl, Nat.le_of_ble_eq_true rfl⟩ dX9_firstDifferenceSet_145) (fun H locs w => ?_)
        refine lv_pop F.1 F.2.1 dX9_firstDifferenceSet_148 rfl ?_
        refine lv_aload_n F.1 F.2.1 dX9_firstDifferenceSet_149 rfl (lv_at hl 0 rfl) ?_
        refine g_MD_now F w q863 dX9_firstDifferenceSet_150 ?_
        refine lv_iconst (v := 0) F.1 F.2.1 dX9_firstDifferenceSet_153 (by decide) ?_
        refine lv_iload_n F.1 F.2.1 dX9_firstDifferenceSet_154 rfl (lv_at hl 1 rfl) ?_
        obtain ⟨hb7, hf⟩ := oi_g hf
        refine r_iast F w (k := 81) (a := 30) (n := 101) (by decide) (fun S9 => rfl) rfl hb7 dX9_firstDifferenceSet_155 (fun H locs w => ?_)
        obtain ⟨S8, e_S8⟩ : ∃ y : ST, y = sA S5 30 (upd (ai S5 30) (Int32.toNatClampNeg 0) a1) := ⟨_, rfl⟩
        replace w : WD x s S8 H locs := by rw [e_S8]; exact w
        replace hf := oi_l hf e_S8
        refine lv_iload F.1 F.2.1 dX9_firstDifferenceSet_156 (lv_at hl 5 rfl) ?_
        exact r_iret F w (oi_s hf) dX9_firstDifferenceSet_158
      · replace hf := oi_t hf c2
        refine lv_iconst (v := (-1)) F.1 F.2.1 dX9_firstDifferenceSet_130 (by decide) ?_
        exact r_iret F w (oi_s hf) dX9_firstDifferenceSet_131
    · replace hf := oi_f hf c1
      refine lv_aload_n F.1 F.2.1 dX9_firstDifferenceSet_85 rfl (lv_at hl 0 rfl) ?_
      refine lv_iload_n F.1 F.2.1 dX9_firstDifferenceSet_86 rfl (lv_at hl 2 rfl) ?_
      refine lv_iconst (v := 1) F.1 F.2.1 dX9_firstDifferenceSet_87 (by decide) ?_
      refine lv_isub F.1 F.2.1 dX9_firstDifferenceSet_88 ?_
      refine lv_iload_n F.1 F.2.1 dX9_firstDifferenceSet_89 rfl (lv_at hl 1 rfl) ?_
      obtain ⟨r10, S9, hc, hf⟩ := oi_b hf
      refine k_i0 (S' := S9) (r := r10) w (runV (As := [.int (a2 - (1 : Int32)), .int a1]) (rest := []) (kb := 80) F w (k_X9_alike l x S (a2 - (1 : Int32)) a1 hc H.size) cy_X9_alike q1168 q1170 qp53 ⟨rfl, rfl⟩ ⟨Nat.le_of_ble_eq_true rfl, Nat.le_of_ble_eq_true rfl⟩ (by decide) rfl rfl rfl rfl hl.1 (Nat.le_of_ble_eq_true rfl) ⟨Nat.le_of_ble_eq_true rfl, Nat.le_of_ble_eq_true rfl⟩ dX9_firstDifferenceSet_90) (fun H locs w => ?_)
      refine lv_istore (lv' := [(5, .int r10), (0, .ref (x.2.2 (80))), (1, .int a1), (2, .int a2), (3, .int a3), (4, .int a4)]) F.1 F.2.1 dX9_firstDifferenceSet_93 hl (by decide) rfl (fun ls hl => ?_)
      refine lv_iload F.1 F.2.1 dX9_firstDifferenceSet_95 (lv_at hl 0 rfl) ?_
      refine lv_iconst (v := (-1)) F.1 F.2.1 dX9_firstDifferenceSet_97 (by decide) ?_
      refine lv_icmp_ne (tgt := 118) F.1 F.2.1 dX9_firstDifferenceSet_98 (by decide) (fun c11 => ?_) (fun c11 => ?_)
      · replace hf := oi_f hf c11
        exact b_X9_firstDifferenceSet_118 F (f_X9_firstDifferenceSet_80 n) ih _ _ _ _ w a1 a2 a3 r10 (lv_sub hl [1, 2, 3, 4, 0] rfl) hf
      · replace hf := oi_t hf c11
        refine lv_aload_n F.1 F.2.1 dX9_firstDifferenceSet_101 rfl (lv_at hl 1 rfl) ?_
        refine lv_iload_n F.1 F.2.1 dX9_firstDifferenceSet_102 rfl (lv_at hl 3 rfl) ?_
        refine lv_iconst (v := 1) F.1 F.2.1 dX9_firstDifferenceSet_103 (by decide) ?_
        refine lv_isub F.1 F.2.1 dX9_firstDifferenceSet_104 ?_
        refine lv_iload_n F.1 F.2.1 dX9_firstDifferenceSet_105 rfl (lv_at hl 2 rfl) ?_
        refine lv_iconst (v := 1) F.1 F.2.1 dX9_firstDifferenceSet_106 (by decide) ?_
        refine lv_isub F.1 F.2.1 dX9_firstDifferenceSet_107 ?_
        obtain ⟨r13, S12, hc, hf⟩ := oi_b hf
        refine k_i0 (S' := S12) (r := r13) w (runV (As := [.int (a2 - (1 : Int32)), .int (a1 - (1 : Int32))]) (rest := []) (kb := 80) F w (k_X9_picksNext l x S9 (a2 - (1 : Int32)) (a1 - (1 : Int32)) hc H.size) cy_X9_picksNext q1149 q1151 qp51 ⟨rfl, rfl⟩ ⟨Nat.le_of_ble_eq_true rfl, Nat.le_of_ble_eq_true rfl⟩ (by decide) rfl rfl rfl rfl hl.1 (Nat.le_of_ble_eq_true rfl) ⟨Nat.le_of_ble_eq_true rfl, Nat.le_of_ble_eq_true rfl⟩ dX9_firstDifferenceSet_108) (fun H locs w => ?_)
        refine lv_if_eq (tgt := 118) F.1 F.2.1 dX9_firstDifferenceSet_111 (by decide) (fun c14 => ?_) (fun c14 => ?_)
        · replace hf := oi_t hf c14
          exact b_X9_firstDifferenceSet_118 F (f_X9_firstDifferenceSet_80 n) ih _ _ _ _ w a1 a2 a3 r10 (lv_sub hl [1, 2, 3, 4, 0] rfl) hf
        · replace hf := oi_f hf c14
          refine lv_iconst (v := 1) F.1 F.2.1 dX9_firstDifferenceSet_114 (by decide) ?_
          refine lv_goto (tgt := 119) F.1 F.2.1 dX9_firstDifferenceSet_115 (by decide) ?_
          exact b_X9_firstDifferenceSet_119 F (f_X9_firstDifferenceSet_80 n) ih _ _ _ _ w a1 a2 a3 r10 1 (lv_sub hl [1, 2, 3, 4, 0] rfl) hf
def f_X9_firstDifferenceSet_67 (S : ST) (a1 : Int32) (a2 : Int32) (a3 : Int32) (as0 : Int32) : Option (Int32 × ST) := oV (f_X9_picksFirst S (a2 - (1 : Int32)) 1) (fun (S1 : ST) => f_X9_firstDifferenceSet_80 FU S1 a1 a2 a3 as0 (-1))
set_option maxHeartbeats 4000000 in
set_option maxRecDepth 100000 in
theorem b_X9_firstDifferenceSet_67 {p : Program} {l : Launch} {e : Env} {s : State} {m : MethodId} {args : Array Value} {below : List Frame} {meth : Method} {c : Code} {x : CX} {res : Int32 × ST} (F : MF p m meth c cX9_firstDifferenceSet 6 s args RX9 (some .int)) : ∀ (H : Heap) (locs : List Loc) (ls : Array Slot) (S : ST), WD x s S H locs → ∀ (a1 : Int32) (a2 : Int32) (a3 : Int32) (as0 : Int32), lv_has ls 6 [(0, .ref (x.2.2 (80))), (1, .int a1), (2, .int a2), (3, .int a3)] → f_X9_firstDifferenceSet_67 S a1 a2 a3 as0 = some res → W p l e ({ frames := 2, cells := 0, slots := 0, locals := 45 } : Room) s m args below meth c H locs 0 0 (MQ below (QI x res.2 res.1 s.heap.size) args s 0 0 (AA x s.heap.size)) (F0 m 67 ls [.int as0]) := by
  intro H locs ls S w a1 a2 a3 as0 hl hf
  unfold f_X9_firstDifferenceSet_67 at hf
  refine lv_istore (lv' := [(4, .int as0), (0, .ref (x.2.2 (80))), (1, .int a1), (2, .int a2), (3, .int a3)]) F.1 F.2.1 dX9_firstDifferenceSet_67 hl (by decide) rfl (fun ls hl => ?_)
  refine lv_iconst (v := (-1)) F.1 F.2.1 dX9_firstDifferenceSet_69 (by decide) ?_
  refine lv_istore (lv' := [(5, .int (-1)), (4, .int as0), (0, .ref (x.2.2 (80))), (1, .int a1), (2, .int a2), (3, .int a3)]) F.1 F.2.1 dX9_firstDifferenceSet_70 hl (by decide) rfl (fun ls hl => ?_)
  refine lv_aload_n F.1 F.2.1 dX9_firstDifferenceSet_72 rfl (lv_at hl 2 rfl) ?_
  refine lv_iload_n F.1 F.2.1 dX9_firstDifferenceSet_73 rfl (lv_at hl 4 rfl) ?_
  refine lv_iconst (v := 1) F.1 F.2.1 dX9_firstDifferenceSet_74 (by decide) ?_
  refine lv_isub F.1 F.2.1 dX9_firstDifferenceSet_75 ?_
  refine lv_iconst (v := 1) F.1 F.2.1 dX9_firstDifferenceSet_76 (by decide) ?_
  obtain ⟨S1, hc, hf⟩ := oi_v hf
  refine k_v0 (S' := S1) w (runV (As := [.int (a2 - (1 : Int32)), .int 1]) (rest := []) (kb := 80) F w (k_X9_picksFirst l x S (a2 - (1 : Int32)) 1 hc H.size) cy_X9_picksFirst q1137 q1139 qp48 ⟨rfl, rfl⟩ ⟨Nat.le_of_ble_eq_true rfl, Nat.le_of_ble_eq_true rfl⟩ (by decide) rfl rfl rfl rfl hl.1 (Nat.le_of_ble_eq_true rfl) ⟨Nat.le_of_ble_eq_true rfl, Nat.le_of_ble_eq_true rfl⟩ dX9_firstDifferenceSet_77) (fun H locs w => ?_)
  exact b_X9_firstDifferenceSet_80 F FU _ _ _ _ w a1 a2 a3 as0 (-1) (lv_sub hl [2, 3, 4, 5, 1, 0] rfl) hf
def f_X9_firstDifferenceSet_42 (S : ST) (a1 : Int32) (a2 : Int32) (a3 : Int32) (as0 : Int32) : Option (Int32 × ST) := oB (f_X9_refused S as0) (fun (r2 : Int32) (S1 : ST) => (if r2 = 0 then oG (nz (a1 - (1 : Int32))) ((if ((a2 * (a2 - (1 : Int32))) - (a2 * (a2 - (1 : Int32))) / (a1 - (1 : Int32)) * (a1 - (1 : Int32))) = 0 then f_X9_firstDifferenceSet_67 S1 a1 a2 a3 1 else f_X9_firstDifferenceSet_67 S1 a1 a2 a3 0)) else some (0, S1)))
set_option maxHeartbeats 4000000 in
set_option maxRecDepth 100000 in
theorem b_X9_firstDifferenceSet_42 {p : Program} {l : Launch} {e : Env} {s : State} {m : MethodId} {args : Array Value} {below : List Frame} {meth : Method} {c : Code} {x : CX} {res : Int32 × ST} (F : MF p m meth c cX9_firstDifferenceSet 6 s args RX9 (some .int)) : ∀ (H : Heap) (locs : List Loc) (ls : Array Slot) (S : ST), WD x s S H locs → ∀ (a1 : Int32) (a2 : Int32) (a3 : Int32) (as0 : Int32), lv_has ls 6 [(0, .ref (x.2.2 (80))), (1, .int a1), (2, .int a2), (3, .int a3)] → f_X9_firstDifferenceSet_42 S a1 a2 a3 as0 = some res → W p l e ({ frames := 2, cells := 0, slots := 0, locals := 45 } : Room) s m args below meth c H locs 0 0 (MQ below (QI x res.2 res.1 s.heap.size) args s 0 0 (AA x s.heap.size)) (F0 m 42 ls [.int as0, .ref (x.2.2 (80))]) := by
  intro H locs ls S w a1 a2 a3 as0 hl hf
  unfold f_X9_firstDifferenceSet_42 at hf
  obtain ⟨r2, S1, hc, hf⟩ := oi_b hf
  refine k_i0 (S' := S1) (r := r2) w (runV (As := [.int as0]) (rest := []) (kb := 80) F w (k_X9_refused l x S as0 hc H.size) cy_X9_refused q902 q904 qp19 ⟨rfl, rfl⟩ ⟨Nat.le_of_ble_eq_true rfl, Nat.le_of_ble_eq_true rfl⟩ (by decide) rfl rfl rfl rfl hl.1 (Nat.le_of_ble_eq_true rfl) ⟨Nat.le_of_ble_eq_true rfl, Nat.le_of_ble_eq_true rfl⟩ dX9_firstDifferenceSet_42) (fun H locs w => ?_)
  refine lv_if_eq (tgt := 50) F.1 F.2.1 dX9_firstDifferenceSet_45 (by decide) (fun c3 => ?_) (fun c3 => ?_)
  · replace hf := oi_t hf c3
    refine lv_iload_n F.1 F.2.1 dX9_firstDifferenceSet_50 rfl (lv_at hl 2 rfl) ?_
    refine lv_iload_n F.1 F.2.1 dX9_firstDifferenceSet_51 rfl (lv_at hl 2 rfl) ?_
    refine lv_iconst (v := 1) F.1 F.2.1 dX9_firstDifferenceSet_52 (by decide) ?_
    refine lv_isub F.1 F.2.1 dX9_firstDifferenceSet_53 ?_
    refine lv_imul F.1 F.2.1 dX9_firstDifferenceSet_54 ?_
    refine lv_iload_n F.1 F.2.1 dX9_firstDifferenceSet_55 rfl (lv_at hl 1 rfl) ?_
    refine lv_iconst (v := 1) F.1 F.2.1 dX9_firstDifferenceSet_56 (by decide) ?_
    refine lv_isub F.1 F.2.1 dX9_firstDifferenceSet_57 ?_
    obtain ⟨hz4, hf⟩ := oi_g hf
    refine lv_irem F.1 F.2.1 dX9_firstDifferenceSet_58 (nz_ne hz4) ?_
    refine lv_if_ne (tgt := 66) F.1 F.2.1 dX9_firstDifferenceSet_59 (by decide) (fun c5 => ?_) (fun c5 => ?_)
    · replace hf := oi_f hf c5
      refine lv_iconst (v := 0) F.1 F.2.1 dX9_firstDifferenceSet_66 (by decide) ?_
      exact b_X9_firstDifferenceSet_67 F  _ _ _ _ w a1 a2 a3 0 (lv_sub hl [0, 1, 2, 3] rfl) hf
    · replace hf := oi_t hf c5
      refine lv_iconst (v := 1) F.1 F.2.1 dX9_firstDifferenceSet_62 (by decide) ?_
      refine lv_goto (tgt := 67) F.1 F.2.1 dX9_firstDifferenceSet_63 (by decide) ?_
      exact b_X9_firstDifferenceSet_67 F  _ _ _ _ w a1 a2 a3 1 (lv_sub hl [0, 1, 2, 3] rfl) hf
  · replace hf := oi_f hf c3
    refine lv_iconst (v := 0) F.1 F.2.1 dX9_firstDifferenceSet_48 (by decide) ?_
    exact r_iret F w (oi_s hf) dX9_firstDifferenceSet_49
def f_X9_firstDifferenceSet_41 (S : ST) (a1 : Int32) (a2 : Int32) (a3 : Int32) : Option (Int32 × ST) := f_X9_firstDifferenceSet_42 S a1 a2 a3 2
set_option maxHeartbeats 4000000 in
set_option maxRecDepth 100000 in
theorem b_X9_firstDifferenceSet_41 {p : Program} {l : Launch} {e : Env} {s : State} {m : MethodId} {args : Array Value} {below : List Frame} {meth : Method} {c : Code} {x : CX} {res : Int32 × ST} (F : MF p m meth c cX9_firstDifferenceSet 6 s args RX9 (some .int)) : ∀ (H : Heap) (locs : List Loc) (ls : Array Slot) (S : ST), WD x s S H locs → ∀ (a1 : Int32) (a2 : Int32) (a3 : Int32), lv_has ls 6 [(0, .ref (x.2.2 (80))), (1, .int a1), (2, .int a2), (3, .int a3)] → f_X9_firstDifferenceSet_41 S a1 a2 a3 = some res → W p l e ({ frames := 2, cells := 0, slots := 0, locals := 45 } : Room) s m args below meth c H locs 0 0 (MQ below (QI x res.2 res.1 s.heap.size) args s 0 0 (AA x s.heap.size)) (F0 m 41 ls [.ref (x.2.2 (80))]) := by
  intro H locs ls S w a1 a2 a3 hl hf
  unfold f_X9_firstDifferenceSet_41 at hf
  refine lv_iconst (v := 2) F.1 F.2.1 dX9_firstDifferenceSet_41 (by decide) ?_
  exact b_X9_firstDifferenceSet_42 F  _ _ _ _ w a1 a2 a3 2 (lv_sub hl [0, 1, 2, 3] rfl) hf
def f_X9_firstDifferenceSet_0 (S : ST) (a1 : Int32) (a2 : Int32) (a3 : Int32) : Option (Int32 × ST) := oB (f_X9_isSet S a3) (fun (r2 : Int32) (S1 : ST) => (if r2 = 0 then f_X9_firstDifferenceSet_42 S1 a1 a2 a3 1 else oB (f_X9_within S1 a1 3 31) (fun (r5 : Int32) (S4 : ST) => (if r5 = 0 then f_X9_firstDifferenceSet_41 S4 a1 a2 a3 else oB (f_X9_within S4 a2 2 6) (fun (r8 : Int32) (S7 : ST) => (if r8 = 0 then f_X9_firstDifferenceSet_41 S7 a1 a2 a3 else (if a1 ≤ a2 then f_X9_firstDifferenceSet_41 S7 a1 a2 a3 else f_X9_firstDifferenceSet_42 S7 a1 a2 a3 0)))))))
set_option maxHeartbeats 4000000 in
set_option maxRecDepth 100000 in
theorem b_X9_firstDifferenceSet_0 {p : Program} {l : Launch} {e : Env} {s : State} {m : MethodId} {args : Array Value} {below : List Frame} {meth : Method} {c : Code} {x : CX} {res : Int32 × ST} (F : MF p m meth c cX9_firstDifferenceSet 6 s args RX9 (some .int)) : ∀ (H : Heap) (locs : List Loc) (ls : Array Slot) (S : ST), WD x s S H locs → ∀ (a1 : Int32) (a2 : Int32) (a3 : Int32), lv_has ls 6 [(0, .ref (x.2.2 (80))), (1, .int a1), (2, .int a2), (3, .int a3)] → f_X9_firstDifferenceSet_0 S a1 a2 a3 = some res → W p l e ({ frames := 2, cells := 0, slots := 0, locals := 45 } : Room) s m args below meth c H locs 0 0 (MQ below (QI x res.2 res.1 s.heap.size) args s 0 0 (AA x s.heap.size)) (F0 m 0 ls []) := by
  intro H locs ls S w a1 a2 a3 hl hf
  unfold f_X9_firstDifferenceSet_0 at hf
  refine lv_aload_n F.1 F.2.1 dX9_firstDifferenceSet_0 rfl (lv_at hl 0 rfl) ?_
  refine lv_iload_n F.1 F.2.1 dX9_firstDifferenceSet_1 rfl (lv_at hl 3 rfl) ?_
  obtain ⟨r2, S1, hc, hf⟩ := oi_b hf
  refine k_i0 (S' := S1) (r := r2) w (runS (As := [.int a3]) (rest := [.ref (x.2.2 (80))]) F w (k_X9_isSet l x S a3 hc H.size) cy_X9_isSet q910 q911 ⟨rfl, rfl⟩ ⟨Nat.le_of_ble_eq_true rfl, Nat.le_of_ble_eq_true rfl⟩ rfl rfl hl.1 (Nat.le_of_ble_eq_true rfl) ⟨Nat.le_of_ble_eq_true rfl, Nat.le_of_ble_eq_true rfl⟩ dX9_firstDifferenceSet_2) (fun H locs w => ?_)
  refine lv_if_ne (tgt := 12) F.1 F.2.1 dX9_firstDifferenceSet_5 (by decide) (fun c3 => ?_) (fun c3 => ?_)
  · replace hf := oi_f hf c3
    refine lv_iload_n F.1 F.2.1 dX9_firstDifferenceSet_12 rfl (lv_at hl 1 rfl) ?_
    refine lv_iconst (v := 3) F.1 F.2.1 dX9_firstDifferenceSet_13 (by decide) ?_
    refine lv_bipush (v := 31) F.1 F.2.1 dX9_firstDifferenceSet_14 (by decide) ?_
    obtain ⟨r5, S4, hc, hf⟩ := oi_b hf
    refine k_i0 (S' := S4) (r := r5) w (runS (As := [.int a1, .int 3, .int 31]) (rest := [.ref (x.2.2 (80))]) F w (k_X9_within l x S1 a1 3 31 hc H.size) cy_X9_within q913 q914 ⟨rfl, rfl⟩ ⟨Nat.le_of_ble_eq_true rfl, Nat.le_of_ble_eq_true rfl⟩ rfl rfl hl.1 (Nat.le_of_ble_eq_true rfl) ⟨Nat.le_of_ble_eq_true rfl, Nat.le_of_ble_eq_true rfl⟩ dX9_firstDifferenceSet_16) (fun H locs w => ?_)
    refine lv_if_eq (tgt := 41) F.1 F.2.1 dX9_firstDifferenceSet_19 (by decide) (fun c6 => ?_) (fun c6 => ?_)
    · replace hf := oi_t hf c6
      exact b_X9_firstDifferenceSet_41 F  _ _ _ _ w a1 a2 a3 (lv_sub hl [0, 1, 2, 3] rfl) hf
    · replace hf := oi_f hf c6
      refine lv_iload_n F.1 F.2.1 dX9_firstDifferenceSet_22 rfl (lv_at hl 2 rfl) ?_
      refine lv_iconst (v := 2) F.1 F.2.1 dX9_firstDifferenceSet_23 (by decide) ?_
      refine lv_bipush (v := 6) F.1 F.2.1 dX9_firstDifferenceSet_24 (by decide) ?_
      obtain ⟨r8, S7, hc, hf⟩ := oi_b hf
      refine k_i0 (S' := S7) (r := r8) w (runS (As := [.int a2, .int 2, .int 6]) (rest := [.ref (x.2.2 (80))]) F w (k_X9_within l x S4 a2 2 6 hc H.size) cy_X9_within q913 q914 ⟨rfl, rfl⟩ ⟨Nat.le_of_ble_eq_true rfl, Nat.le_of_ble_eq_true rfl⟩ rfl rfl hl.1 (Nat.le_of_ble_eq_true rfl) ⟨Nat.le_of_ble_eq_true rfl, Nat.le_of_ble_eq_true rfl⟩ dX9_firstDifferenceSet_26) (fun H locs w => ?_)
      refine lv_if_eq (tgt := 41) F.1 F.2.1 dX9_firstDifferenceSet_29 (by decide) (fun c9 => ?_) (fun c9 => ?_)
      · replace hf := oi_t hf c9
        exact b_X9_firstDifferenceSet_41 F  _ _ _ _ w a1 a2 a3 (lv_sub hl [0, 1, 2, 3] rfl) hf
      · replace hf := oi_f hf c9
        refine lv_iload_n F.1 F.2.1 dX9_firstDifferenceSet_32 rfl (lv_at hl 2 rfl) ?_
        refine lv_iload_n F.1 F.2.1 dX9_firstDifferenceSet_33 rfl (lv_at hl 1 rfl) ?_
        refine lv_icmp_ge (tgt := 41) F.1 F.2.1 dX9_firstDifferenceSet_34 (by decide) (fun c10 => ?_) (fun c10 => ?_)
        · replace hf := oi_t hf c10
          exact b_X9_firstDifferenceSet_41 F  _ _ _ _ w a1 a2 a3 (lv_sub hl [0, 1, 2, 3] rfl) hf
        · replace hf := oi_f hf c10
          refine lv_iconst (v := 0) F.1 F.2.1 dX9_firstDifferenceSet_37 (by decide) ?_
          refine lv_goto (tgt := 42) F.1 F.2.1 dX9_firstDifferenceSet_38 (by decide) ?_
          exact b_X9_firstDifferenceSet_42 F  _ _ _ _ w a1 a2 a3 0 (lv_sub hl [0, 1, 2, 3] rfl) hf
  · replace hf := oi_t hf c3
    refine lv_iconst (v := 1) F.1 F.2.1 dX9_firstDifferenceSet_8 (by decide) ?_
    refine lv_goto (tgt := 42) F.1 F.2.1 dX9_firstDifferenceSet_9 (by decide) ?_
    exact b_X9_firstDifferenceSet_42 F  _ _ _ _ w a1 a2 a3 1 (lv_sub hl [0, 1, 2, 3] rfl) hf
def f_X9_firstDifferenceSet (S : ST) (a1 : Int32) (a2 : Int32) (a3 : Int32) : Option (Int32 × ST) := f_X9_firstDifferenceSet_0 S a1 a2 a3
set_option maxHeartbeats 4000000 in
set_option maxRecDepth 100000 in
theorem k_X9_firstDifferenceSet (l : Launch) (x : CX) (S : ST) (a1 : Int32) (a2 : Int32) (a3 : Int32) {res : Int32 × ST} (hf : f_X9_firstDifferenceSet S a1 a2 a3 = some res) (sz : Nat) : Met l yX9_firstDifferenceSet (Cond.code yX9_firstDifferenceSet cX9_firstDifferenceSet 6 (some .int) :: GW) ({ frames := 2, cells := 0, slots := 0, locals := 45 } : Room) (PC x S sz [.ref (x.2.2 (80)), .int a1, .int a2, .int a3]) (QI x res.2 res.1 sz) 0 0 (AA x sz) := by
  refine Met.ofW (cc := cX9_firstDifferenceSet) (maxL := 6) (ret := (some .int)) (by decide) rfl ?_
  intro p e s m args below meth c s₁ B hml hv
  obtain ⟨rfl, rfl, hPW⟩ := hv
  have F : MF p m meth c cX9_firstDifferenceSet 6 s _ RX9 (some .int) := MF.of B hml
  have w := WD.of hPW
  have hl := lv_entry ([.ref (x.2.2 (80)), .int a1, .int a2, .int a3]) (n := 6) (Nat.le_of_ble_eq_true rfl)
  rw [lg_entry_eq]
  generalize (lg_sl ([.ref (x.2.2 (80)), .int a1, .int a2, .int a3]) ++ List.replicate (6 - (lg_sl ([.ref (x.2.2 (80)), .int a1, .int a2, .int a3])).length) Slot.unset).toArray = ls at hl ⊢
  have hl : lv_has ls 6 [(0, .ref (x.2.2 (80))), (1, .int a1), (2, .int a2), (3, .int a3)] := hl
  unfold f_X9_firstDifferenceSet at hf
  exact b_X9_firstDifferenceSet_0 F  _ _ _ _ w a1 a2 a3 (lv_sub hl [0, 1, 2, 3] rfl) hf
theorem cy_X9_mix : CY yX9_mix RX9 cX9_mix 2 none 1 := ⟨q10, q1180, rfl, by decide, by decide, by decide +kernel⟩
def f_X9_mix_0 (S : ST) (a1 : Int32) : Option (ST) := oL (sL S 0 (((31 : Int64) * (fl S 0)) + (Int32.toInt64 a1))) (fun (S1 : ST) => some S1)
set_option maxHeartbeats 4000000 in
set_option maxRecDepth 100000 in
theorem b_X9_mix_0 {p : Program} {l : Launch} {e : Env} {s : State} {m : MethodId} {args : Array Value} {below : List Frame} {meth : Method} {c : Code} {x : CX} {res : ST} (F : MF p m meth c cX9_mix 2 s args RX9 none) : ∀ (H : Heap) (locs : List Loc) (ls : Array Slot) (S : ST), WD x s S H locs → ∀ (a1 : Int32), lv_has ls 2 [(0, .ref (x.2.2 (80))), (1, .int a1)] → f_X9_mix_0 S a1 = some res → W p l e ({ frames := 0, cells := 0, slots := 0, locals := 0 } : Room) s m args below meth c H locs 0 0 (MQ below (QV x res s.heap.size) args s 0 0 (AA x s.heap.size)) (F0 m 0 ls []) := by
  intro H locs ls S w a1 hl hf
  unfold f_X9_mix_0 at hf
  refine lv_aload_n F.1 F.2.1 dX9_mix_0 rfl (lv_at hl 0 rfl) ?_
  refine lv_ldc2 (v := 31) F.1 F.2.1 F.2.2.2.1 (F.2.2.2.2.1 _ q1181) dX9_mix_1 ?_
  refine lv_aload_n F.1 F.2.1 dX9_mix_4 rfl (lv_at hl 0 rfl) ?_
  refine g_MD_hash F w q872 dX9_mix_5 ?_
  refine lv_lmul F.1 F.2.1 dX9_mix_8 ?_
  refine lv_iload_n F.1 F.2.1 dX9_mix_9 rfl (lv_at hl 1 rfl) ?_
  refine lv_i2l (v := Int32.toInt64 a1) F.1 F.2.1 dX9_mix_10 rfl ?_
  refine lv_ladd F.1 F.2.1 dX9_mix_11 ?_
  refine p_MD_hash F w q872 dX9_mix_12 (fun H locs w => ?_)
  obtain ⟨S1, e_S1⟩ : ∃ y : ST, y = sL S 0 (((31 : Int64) * (fl S 0)) + (Int32.toInt64 a1)) := ⟨_, rfl⟩
  replace w : WD x s S1 H locs := by rw [e_S1]; exact w
  replace hf := oi_l hf e_S1
  exact r_vret F w (oi_s hf) dX9_mix_15
def f_X9_mix (S : ST) (a1 : Int32) : Option (ST) := f_X9_mix_0 S a1
set_option maxHeartbeats 4000000 in
set_option maxRecDepth 100000 in
theorem k_X9_mix (l : Launch) (x : CX) (S : ST) (a1 : Int32) {res : ST} (hf : f_X9_mix S a1 = some res) (sz : Nat) : Met l yX9_mix (Cond.code yX9_mix cX9_mix 2 none :: GW) ({ frames := 0, cells := 0, slots := 0, locals := 0 } : Room) (PC x S sz [.ref (x.2.2 (80)), .int a1]) (QV x res sz) 0 0 (AA x sz) := by
  refine Met.ofW (cc := cX9_mix) (maxL := 2) (ret := none) (by decide) rfl ?_
  intro p e s m args below meth c s₁ B hml hv
  obtain ⟨rfl, rfl, hPW⟩ := hv
  have F : MF p m meth c cX9_mix 2 s _ RX9 none := MF.of B hml
  have w := WD.of hPW
  have hl := lv_entry ([.ref (x.2.2 (80)), .int a1]) (n := 2) (Nat.le_of_ble_eq_true rfl)
  rw [lg_entry_eq]
  generalize (lg_sl ([.ref (x.2.2 (80)), .int a1]) ++ List.replicate (2 - (lg_sl ([.ref (x.2.2 (80)), .int a1])).length) Slot.unset).toArray = ls at hl ⊢
  have hl : lv_has ls 2 [(0, .ref (x.2.2 (80))), (1, .int a1)] := hl
  unfold f_X9_mix at hf
  exact b_X9_mix_0 F  _ _ _ _ w a1 (lv_sub hl [0, 1] rfl) hf
theorem cy_X9_digest : CY yX9_digest RX9 cX9_digest 3 (some .long) 0 := ⟨q10, q1175, rfl, by decide, by decide, by decide +kernel⟩
def f_X9_digest_132 (k30 : ST → Int32 → Option (Int64 × ST)) (S : ST) (a1 : Int32) : Option (Int64 × ST) := oL (a1 + 1) (fun (v1 : Int32) => k30 S v1)
set_option maxHeartbeats 4000000 in
set_option maxRecDepth 100000 in
theorem b_X9_digest_132 {p : Program} {l : Launch} {e : Env} {s : State} {m : MethodId} {args : Array Value} {below : List Frame} {meth : Method} {c : Code} {x : CX} {res : Int64 × ST} (F : MF p m meth c cX9_digest 3 s args RX9 (some .long)) (k30 : ST → Int32 → Option (Int64 × ST)) (hk30 : ∀ (H : Heap) (locs : List Loc) (ls : Array Slot) (S : ST), WD x s S H locs → ∀ (a1 : Int32), lv_has ls 3 [(0, .ref (x.2.2 (80))), (1, .int a1)] → k30 S a1 = some res → W p l e ({ frames := 5, cells := 0, slots := 0, locals := 118 } : Room) s m args below meth c H locs 0 0 (MQ below (QL x res.2 res.1 s.heap.size) args s 0 0 (AA x s.heap.size)) (F0 m 30 ls [])) : ∀ (H : Heap) (locs : List Loc) (ls : Array Slot) (S : ST), WD x s S H locs → ∀ (a1 : Int32), lv_has ls 3 [(0, .ref (x.2.2 (80))), (1, .int a1)] → f_X9_digest_132 k30 S a1 = some res → W p l e ({ frames := 5, cells := 0, slots := 0, locals := 118 } : Room) s m args below meth c H locs 0 0 (MQ below (QL x res.2 res.1 s.heap.size) args s 0 0 (AA x s.heap.size)) (F0 m 132 ls []) := by
  intro H locs ls S w a1 hl hf
  unfold f_X9_digest_132 at hf
  obtain ⟨v1, e_v1⟩ : ∃ y : Int32, y = (a1 + 1) := ⟨_, rfl⟩
  replace hf := oi_l hf e_v1
  refine lv_iinc (v := v1) (lv' := [(1, .int v1), (0, .ref (x.2.2 (80)))]) F.1 F.2.1 dX9_digest_132 hl (k := 1) rfl (by rw [e_v1]; rfl) (by decide) rfl (fun ls hl => ?_)
  refine lv_goto (tgt := 30) F.1 F.2.1 dX9_digest_135 (by decide) ?_
  exact hk30 _ _ _ _ w v1 (lv_sub hl [1, 0] rfl) hf
def f_X9_digest_85 (k30 : ST → Int32 → Option (Int64 × ST)) (S : ST) (a1 : Int32) (as0 : Int32) : Option (Int64 × ST) := oV (f_X9_mix S as0) (fun (S1 : ST) => oB (f_X9_complete S1 a1) (fun (r3 : Int32) (S2 : ST) => oV (f_X9_mix S2 r3) (fun (S4 : ST) => oB (f_X9_unlike S4 a1) (fun (r6 : Int32) (S5 : ST) => oV (f_X9_mix S5 r6) (fun (S7 : ST) => oB (f_X9_isLow S7 a1) (fun (r9 : Int32) (S8 : ST) => (if r9 = 0 then f_X9_digest_132 k30 S8 a1 else oB (f_X9_indexOf S8 a1) (fun (r12 : Int32) (S11 : ST) => oV (f_X9_mix S11 r12) (fun (S13 : ST) => oB (f_X9_multipliersOf S13 a1) (fun (r15 : Int32) (S14 : ST) => oV (f_X9_mix S14 r15) (fun (S16 : ST) => f_X9_digest_132 k30 S16 a1)))))))))))
set_option maxHeartbeats 4000000 in
set_option maxRecDepth 100000 in
theorem b_X9_digest_85 {p : Program} {l : Launch} {e : Env} {s : State} {m : MethodId} {args : Array Value} {below : List Frame} {meth : Method} {c : Code} {x : CX} {res : Int64 × ST} (F : MF p m meth c cX9_digest 3 s args RX9 (some .long)) (k30 : ST → Int32 → Option (Int64 × ST)) (hk30 : ∀ (H : Heap) (locs : List Loc) (ls : Array Slot) (S : ST), WD x s S H locs → ∀ (a1 : Int32), lv_has ls 3 [(0, .ref (x.2.2 (80))), (1, .int a1)] → k30 S a1 = some res → W p l e ({ frames := 5, cells := 0, slots := 0, locals := 118 } : Room) s m args below meth c H locs 0 0 (MQ below (QL x res.2 res.1 s.heap.size) args s 0 0 (AA x s.heap.size)) (F0 m 30 ls [])) : ∀ (H : Heap) (locs : List Loc) (ls : Array Slot) (S : ST), WD x s S H locs → ∀ (a1 : Int32) (as0 : Int32), lv_has ls 3 [(0, .ref (x.2.2 (80))), (1, .int a1)] → f_X9_digest_85 k30 S a1 as0 = some res → W p l e ({ frames := 5, cells := 0, slots := 0, locals := 118 } : Room) s m args below meth c H locs 0 0 (MQ below (QL x res.2 res.1 s.heap.size) args s 0 0 (AA x s.heap.size)) (F0 m 85 ls [.int as0, .ref (x.2.2 (80))]) := by
  intro H locs ls S w a1 as0 hl hf
  unfold f_X9_digest_85 at hf
  obtain ⟨S1, hc, hf⟩ := oi_v hf
  refine k_v0 (S' := S1) w (runV (As := [.int as0]) (rest := []) (kb := 80) F w (k_X9_mix l x S as0 hc H.size) cy_X9_mix q1177 q1179 qp54 ⟨rfl, rfl⟩ ⟨Nat.le_of_ble_eq_true rfl, Nat.le_of_ble_eq_true rfl⟩ (by decide) rfl rfl rfl rfl hl.1 (Nat.le_of_ble_eq_true rfl) ⟨Nat.le_of_ble_eq_true rfl, Nat.le_of_ble_eq_true rfl⟩ dX9_digest_85) (fun H locs w => ?_)
  refine lv_aload_n F.1 F.2.1 dX9_digest_88 rfl (lv_at hl 0 rfl) ?_
  refine lv_aload_n F.1 F.2.1 dX9_digest_89 rfl (lv_at hl 0 rfl) ?_
  refine lv_iload_n F.1 F.2.1 dX9_digest_90 rfl (lv_at hl 1 rfl) ?_
  obtain ⟨r3, S2, hc, hf⟩ := oi_b hf
  refine k_i0 (S' := S2) (r := r3) w (runV (As := [.int a1]) (rest := [.ref (x.2.2 (80))]) (kb := 80) F w (k_X9_complete l x S1 a1 hc H.size) cy_X9_complete q1004 q1006 qp33 ⟨rfl, rfl⟩ ⟨Nat.le_of_ble_eq_true rfl, Nat.le_of_ble_eq_true rfl⟩ (by decide) rfl rfl rfl rfl hl.1 (Nat.le_of_ble_eq_true rfl) ⟨Nat.le_of_ble_eq_true rfl, Nat.le_of_ble_eq_true rfl⟩ dX9_digest_91) (fun H locs w => ?_)
  obtain ⟨S4, hc, hf⟩ := oi_v hf
  refine k_v0 (S' := S4) w (runV (As := [.int r3]) (rest := []) (kb := 80) F w (k_X9_mix l x S2 r3 hc H.size) cy_X9_mix q1177 q1179 qp54 ⟨rfl, rfl⟩ ⟨Nat.le_of_ble_eq_true rfl, Nat.le_of_ble_eq_true rfl⟩ (by decide) rfl rfl rfl rfl hl.1 (Nat.le_of_ble_eq_true rfl) ⟨Nat.le_of_ble_eq_true rfl, Nat.le_of_ble_eq_true rfl⟩ dX9_digest_94) (fun H locs w => ?_)
  refine lv_aload_n F.1 F.2.1 dX9_digest_97 rfl (lv_at hl 0 rfl) ?_
  refine lv_aload_n F.1 F.2.1 dX9_digest_98 rfl (lv_at hl 0 rfl) ?_
  refine lv_iload_n F.1 F.2.1 dX9_digest_99 rfl (lv_at hl 1 rfl) ?_
  obtain ⟨r6, S5, hc, hf⟩ := oi_b hf
  refine k_i0 (S' := S5) (r := r6) w (runV (As := [.int a1]) (rest := [.ref (x.2.2 (80))]) (kb := 80) F w (k_X9_unlike l x S4 a1 hc H.size) cy_X9_unlike q1012 q1014 qp34 ⟨rfl, rfl⟩ ⟨Nat.le_of_ble_eq_true rfl, Nat.le_of_ble_eq_true rfl⟩ (by decide) rfl rfl rfl rfl hl.1 (Nat.le_of_ble_eq_true rfl) ⟨Nat.le_of_ble_eq_true rfl, Nat.le_of_ble_eq_true rfl⟩ dX9_digest_100) (fun H locs w => ?_)
  obtain ⟨S7, hc, hf⟩ := oi_v hf
  refine k_v0 (S' := S7) w (runV (As := [.int r6]) (rest := []) (kb := 80) F w (k_X9_mix l x S5 r6 hc H.size) cy_X9_mix q1177 q1179 qp54 ⟨rfl, rfl⟩ ⟨Nat.le_of_ble_eq_true rfl, Nat.le_of_ble_eq_true rfl⟩ (by decide) rfl rfl rfl rfl hl.1 (Nat.le_of_ble_eq_true rfl) ⟨Nat.le_of_ble_eq_true rfl, Nat.le_of_ble_eq_true rfl⟩ dX9_digest_103) (fun H locs w => ?_)
  refine lv_aload_n F.1 F.2.1 dX9_digest_106 rfl (lv_at hl 0 rfl) ?_
  refine lv_iload_n F.1 F.2.1 dX9_digest_107 rfl (lv_at hl 1 rfl) ?_
  obtain ⟨r9, S8, hc, hf⟩ := oi_b hf
  refine k_i0 (S' := S8) (r := r9) w (runV (As := [.int a1]) (rest := []) (kb := 80) F w (k_X9_isLow l x S7 a1 hc H.size) cy_X9_isLow q1032 q1034 qp36 ⟨rfl, rfl⟩ ⟨Nat.le_of_ble_eq_true rfl, Nat.le_of_ble_eq_true rfl⟩ (by decide) rfl rfl rfl rfl hl.1 (Nat.le_of_ble_eq_true rfl) ⟨Nat.le_of_ble_eq_true rfl, Nat.le_of_ble_eq_true rfl⟩ dX9_digest_108) (fun H locs w => ?_)
  refine lv_if_eq (tgt := 132) F.1 F.2.1 dX9_digest_111 (by decide) (fun c10 => ?_) (fun c10 => ?_)
  · replace hf := oi_t hf c10
    exact b_X9_digest_132 F k30 hk30 _ _ _ _ w a1 (lv_sub hl [0, 1] rfl) hf
  · replace hf := oi_f hf c10
    refine lv_aload_n F.1 F.2.1 dX9_digest_114 rfl (lv_at hl 0 rfl) ?_
    refine lv_aload_n F.1 F.2.1 dX9_digest_115 rfl (lv_at hl 0 rfl) ?_
    refine lv_iload_n F.1 F.2.1 dX9_digest_116 rfl (lv_at hl 1 rfl) ?_
    obtain ⟨r12, S11, hc, hf⟩ := oi_b hf
    refine k_i0 (S' := S11) (r := r12) w (runV (As := [.int a1]) (rest := [.ref (x.2.2 (80))]) (kb := 80) F w (k_X9_indexOf l x S8 a1 hc H.size) cy_X9_indexOf q1056 q1058 qp40 ⟨rfl, rfl⟩ ⟨Nat.le_of_ble_eq_true rfl, Nat.le_of_ble_eq_true rfl⟩ (by decide) rfl rfl rfl rfl hl.1 (Nat.le_of_ble_eq_true rfl) ⟨Nat.le_of_ble_eq_true rfl, Nat.le_of_ble_eq_true rfl⟩ dX9_digest_117) (fun H locs w => ?_)
    obtain ⟨S13, hc, hf⟩ := oi_v hf
    refine k_v0 (S' := S13) w (runV (As := [.int r12]) (rest := []) (kb := 80) F w (k_X9_mix l x S11 r12 hc H.size) cy_X9_mix q1177 q1179 qp54 ⟨rfl, rfl⟩ ⟨Nat.le_of_ble_eq_true rfl, Nat.le_of_ble_eq_true rfl⟩ (by decide) rfl rfl rfl rfl hl.1 (Nat.le_of_ble_eq_true rfl) ⟨Nat.le_of_ble_eq_true rfl, Nat.le_of_ble_eq_true rfl⟩ dX9_digest_120) (fun H locs w => ?_)
    refine lv_aload_n F.1 F.2.1 dX9_digest_123 rfl (lv_at hl 0 rfl) ?_
    refine lv_aload_n F.1 F.2.1 dX9_digest_124 rfl (lv_at hl 0 rfl) ?_
    refine lv_iload_n F.1 F.2.1 dX9_digest_125 rfl (lv_at hl 1 rfl) ?_
    obtain ⟨r15, S14, hc, hf⟩ := oi_b hf
    refine k_i0 (S' := S14) (r := r15) w (runV (As := [.int a1]) (rest := [.ref (x.2.2 (80))]) (kb := 80) F w (k_X9_multipliersOf l x S13 a1 hc H.size) cy_X9_multipliersOf q1076 q1078 qp41 ⟨rfl, rfl⟩ ⟨Nat.le_of_ble_eq_true rfl, Nat.le_of_ble_eq_true rfl⟩ (by decide) rfl rfl rfl rfl hl.1 (Nat.le_of_ble_eq_true rfl) ⟨Nat.le_of_ble_eq_true rfl, Nat.le_of_ble_eq_true rfl⟩ dX9_digest_126) (fun H locs w => ?_)
    obtain ⟨S16, hc, hf⟩ := oi_v hf
    refine k_v0 (S' := S16) w (runV (As := [.int r15]) (rest := []) (kb := 80) F w (k_X9_mix l x S14 r15 hc H.size) cy_X9_mix q1177 q1179 qp54 ⟨rfl, rfl⟩ ⟨Nat.le_of_ble_eq_true rfl, Nat.le_of_ble_eq_true rfl⟩ (by decide) rfl rfl rfl rfl hl.1 (Nat.le_of_ble_eq_true rfl) ⟨Nat.le_of_ble_eq_true rfl, Nat.le_of_ble_eq_true rfl⟩ dX9_digest_129) (fun H locs w => ?_)
    exact b_X9_digest_132 F k30 hk30 _ _ _ _ w a1 (lv_sub hl [0, 1] rfl) hf
def f_X9_digest_37 (k30 : ST → Int32 → Option (Int64 × ST)) : Nat → ST → Int32 → Int32 → Option (Int64 × ST)
  | 0, _, _, _ => none
  | n + 1, S, a1, a2 => oB (f_X9_many S a1) (fun (r2 : Int32) (S1 : ST) => (if r2 < a2 then oB (f_X9_areOnce S1 ((1 : Int32) <<< (a1 &&& 31))) (fun (r5 : Int32) (S4 : ST) => (if r5 = 0 then f_X9_digest_85 k30 S4 a1 0 else f_X9_digest_85 k30 S4 a1 1)) else oG (inB (((1 : Int32) + ((25 : Int32) * a1)) + a2) 101) (oV (f_X9_mix S1 (ai S1 30 (Int32.toNatClampNeg (((1 : Int32) + ((25 : Int32) * a1)) + a2)))) (fun (S8 : ST) => oL (a2 + 1) (fun (v9 : Int32) => (f_X9_digest_37 k30 n) S8 a1 v9)))))
set_option maxHeartbeats 4000000 in
set_option maxRecDepth 100000 in
theorem b_X9_digest_37 {p : Program} {l : Launch} {e : Env} {s : State} {m : MethodId} {args : Array Value} {below : List Frame} {meth : Method} {c : Code} {x : CX} {res : Int64 × ST} (F : MF p m meth c cX9_digest 3 s args RX9 (some .long)) (k30 : ST → Int32 → Option (Int64 × ST)) (hk30 : ∀ (H : Heap) (locs : List Loc) (ls : Array Slot) (S : ST), WD x s S H locs → ∀ (a1 : Int32), lv_has ls 3 [(0, .ref (x.2.2 (80))), (1, .int a1)] → k30 S a1 = some res → W p l e ({ frames := 5, cells := 0, slots := 0, locals := 118 } : Room) s m args below meth c H locs 0 0 (MQ below (QL x res.2 res.1 s.heap.size) args s 0 0 (AA x s.heap.size)) (F0 m 30 ls [])) : ∀ (n : Nat), ∀ (H : Heap) (locs : List Loc) (ls : Array Slot) (S : ST), WD x s S H locs → ∀ (a1 : Int32) (a2 : Int32), lv_has ls 3 [(0, .ref (x.2.2 (80))), (1, .int a1), (2, .int a2)] → f_X9_digest_37 k30 n S a1 a2 = some res → W p l e ({ frames := 5, cells := 0, slots := 0, locals := 118 } : Room) s m args below meth c H locs 0 0 (MQ below (QL x res.2 res.1 s.heap.size) args s 0 0 (AA x s.heap.size)) (F0 m 37 ls []) := by
  intro n
  induction n with
  | zero =>
    intro H locs ls S w a1 a2 hl hf
    have hf : (none : Option (Int64 × ST)) = some res := hf
    cases hf
  | succ n ih =>
    intro H locs ls S w a1 a2 hl hf
    unfold f_X9_digest_37 at hf
    refine lv_iload_n F.1 F.2.1 dX9_digest_37 rfl (lv_at hl 2 rfl) ?_
    refine lv_aload_n F.1 F.2.1 dX9_digest_38 rfl (lv_at hl 0 rfl) ?_
    refine lv_iload_n F.1 F.2.1 dX9_digest_39 rfl (lv_at hl 1 rfl) ?_
    obtain ⟨r2, S1, hc, hf⟩ := oi_b hf
    refine k_i0 (S' := S1) (r := r2) w (runV (As := [.int a1]) (rest := [.int a2]) (kb := 80) F w (k_X9_many l x S a1 hc H.size) cy_X9_many q920 q922 qp21 ⟨rfl, rfl⟩ ⟨Nat.le_of_ble_eq_true rfl, Nat.le_of_ble_eq_true rfl⟩ (by decide) rfl rfl rfl rfl hl.1 (Nat.le_of_ble_eq_true rfl) ⟨Nat.le_of_ble_eq_true rfl, Nat.le_of_ble_eq_true rfl⟩ dX9_digest_40) (fun H locs w => ?_)
    refine lv_icmp_gt (tgt := 69) F.1 F.2.1 dX9_digest_43 (by decide) (fun c3 => ?_) (fun c3 => ?_)
    · replace hf := oi_t hf c3
      refine lv_aload_n F.1 F.2.1 dX9_digest_69 rfl (lv_at hl 0 rfl) ?_
      refine lv_aload_n F.1 F.2.1 dX9_digest_70 rfl (lv_at hl 0 rfl) ?_
      refine lv_iconst (v := 1) F.1 F.2.1 dX9_digest_71 (by decide) ?_
      refine lv_iload_n F.1 F.2.1 dX9_digest_72 rfl (lv_at hl 1 rfl) ?_
      refine lv_ishl F.1 F.2.1 dX9_digest_73 ?_
      obtain ⟨r5, S4, hc, hf⟩ := oi_b hf
      refine k_i0 (S' := S4) (r := r5) w (runV (As := [.int ((1 : Int32) <<< (a1 &&& 31))]) (rest := [.ref (x.2.2 (80))]) (kb := 80) F w (k_X9_areOnce l x S1 ((1 : Int32) <<< (a1 &&& 31)) hc H.size) cy_X9_areOnce q988 q990 qp30 ⟨rfl, rfl⟩ ⟨Nat.le_of_ble_eq_true rfl, Nat.le_of_ble_eq_true rfl⟩ (by decide) rfl rfl rfl rfl hl.1 (Nat.le_of_ble_eq_true rfl) ⟨Nat.le_of_ble_eq_true rfl, Nat.le_of_ble_eq_true rfl⟩ dX9_digest_74) (fun H locs w => ?_)
      refine lv_if_eq (tgt := 84) F.1 F.2.1 dX9_digest_77 (by decide) (fun c6 => ?_) (fun c6 => ?_)
      · replace hf := oi_t hf c6
        refine lv_iconst (v := 0) F.1 F.2.1 dX9_digest_84 (by decide) ?_
        exact b_X9_digest_85 F k30 hk30 _ _ _ _ w a1 0 (lv_sub hl [0, 1] rfl) hf
      · replace hf := oi_f hf c6
        refine lv_iconst (v := 1) F.1 F.2.1 dX9_digest_80 (by decide) ?_
        refine lv_goto (tgt := 85) F.1 F.2.1 dX9_digest_81 (by decide) ?_
        exact b_X9_digest_85 F k30 hk30 _ _ _ _ w a1 1 (lv_sub hl [0, 1] rfl) hf
    · replace hf := oi_f hf c3
      refine lv_aload_n F.1 F.2.1 dX9_digest_46 rfl (lv_at hl 0 rfl) ?_
      refine lv_aload_n F.1 F.2.1 dX9_digest_47 rfl (lv_at hl 0 rfl) ?_
      refine g_MD_now F w q863 dX9_digest_48 ?_
      refine lv_iconst (v := 1) F.1 F.2.1 dX9_digest_51 (by decide) ?_
      refine lv_bipush (v := 25) F.1 F.2.1 dX9_digest_52 (by decide) ?_
      refine lv_iload_n F.1 F.2.1 dX9_digest_54 rfl (lv_at hl 1 rfl) ?_
      refine lv_imul F.1 F.2.1 dX9_digest_55 ?_
      refine lv_iadd F.1 F.2.1 dX9_digest_56 ?_
      refine lv_iload_n F.1 F.2.1 dX9_digest_57 rfl (lv_at hl 2 rfl) ?_
      refine lv_iadd F.1 F.2.1 dX9_digest_58 ?_
      obtain ⟨hb7, hf⟩ := oi_g hf
      refine r_iald F w (k := 81) (f := ai S1 30) (by decide) rfl hb7 dX9_digest_59 ?_
      obtain ⟨S8, hc, hf⟩ := oi_v hf
      refine k_v0 (S' := S8) w (runV (As := [.int (ai S1 30 (Int32.toNatClampNeg (((1 : Int32) + ((25 : Int32) * a1)) + a2)))]) (rest := []) (kb := 80) F w (k_X9_mix l x S1 (ai S1 30 (Int32.toNatClampNeg (((1 : Int32) + ((25 : Int32) * a1)) + a2))) hc H.size) cy_X9_mix q1177 q1179 qp54 ⟨rfl, rfl⟩ ⟨Nat.le_of_ble_eq_true rfl, Nat.le_of_ble_eq_true rfl⟩ (by decide) rfl rfl rfl rfl hl.1 (Nat.le_of_ble_eq_true rfl) ⟨Nat.le_of_ble_eq_true rfl, Nat.le_of_ble_eq_true rfl⟩ dX9_digest_60) (fun H locs w => ?_)
      obtain ⟨v9, e_v9⟩ : ∃ y : Int32, y = (a2 + 1) := ⟨_, rfl⟩
      replace hf := oi_l hf e_v9
      refine lv_iinc (v := v9) (lv' := [(2, .int v9), (0, .ref (x.2.2 (80))), (1, .int a1)]) F.1 F.2.1 dX9_digest_63 hl (k := 2) rfl (by rw [e_v9]; rfl) (by decide) rfl (fun ls hl => ?_)
      refine lv_goto (tgt := 37) F.1 F.2.1 dX9_digest_66 (by decide) ?_
      exact ih _ _ _ _ w a1 v9 (lv_sub hl [1, 2, 0] rfl) hf
def f_X9_digest_160 (k140 : ST → Int32 → Option (Int64 × ST)) (S : ST) (a1 : Int32) (as0 : Int32) : Option (Int64 × ST) := oV (f_X9_mix S as0) (fun (S1 : ST) => oL (a1 + 1) (fun (v2 : Int32) => k140 S1 v2))
set_option maxHeartbeats 4000000 in
set_option maxRecDepth 100000 in
theorem b_X9_digest_160 {p : Program} {l : Launch} {e : Env} {s : State} {m : MethodId} {args : Array Value} {below : List Frame} {meth : Method} {c : Code} {x : CX} {res : Int64 × ST} (F : MF p m meth c cX9_digest 3 s args RX9 (some .long)) (k140 : ST → Int32 → Option (Int64 × ST)) (hk140 : ∀ (H : Heap) (locs : List Loc) (ls : Array Slot) (S : ST), WD x s S H locs → ∀ (a1 : Int32), lv_has ls 3 [(0, .ref (x.2.2 (80))), (1, .int a1)] → k140 S a1 = some res → W p l e ({ frames := 5, cells := 0, slots := 0, locals := 118 } : Room) s m args below meth c H locs 0 0 (MQ below (QL x res.2 res.1 s.heap.size) args s 0 0 (AA x s.heap.size)) (F0 m 140 ls [])) : ∀ (H : Heap) (locs : List Loc) (ls : Array Slot) (S : ST), WD x s S H locs → ∀ (a1 : Int32) (as0 : Int32), lv_has ls 3 [(0, .ref (x.2.2 (80))), (1, .int a1)] → f_X9_digest_160 k140 S a1 as0 = some res → W p l e ({ frames := 5, cells := 0, slots := 0, locals := 118 } : Room) s m args below meth c H locs 0 0 (MQ below (QL x res.2 res.1 s.heap.size) args s 0 0 (AA x s.heap.size)) (F0 m 160 ls [.int as0, .ref (x.2.2 (80))]) := by
  intro H locs ls S w a1 as0 hl hf
  unfold f_X9_digest_160 at hf
  obtain ⟨S1, hc, hf⟩ := oi_v hf
  refine k_v0 (S' := S1) w (runV (As := [.int as0]) (rest := []) (kb := 80) F w (k_X9_mix l x S as0 hc H.size) cy_X9_mix q1177 q1179 qp54 ⟨rfl, rfl⟩ ⟨Nat.le_of_ble_eq_true rfl, Nat.le_of_ble_eq_true rfl⟩ (by decide) rfl rfl rfl rfl hl.1 (Nat.le_of_ble_eq_true rfl) ⟨Nat.le_of_ble_eq_true rfl, Nat.le_of_ble_eq_true rfl⟩ dX9_digest_160) (fun H locs w => ?_)
  obtain ⟨v2, e_v2⟩ : ∃ y : Int32, y = (a1 + 1) := ⟨_, rfl⟩
  replace hf := oi_l hf e_v2
  refine lv_iinc (v := v2) (lv' := [(1, .int v2), (0, .ref (x.2.2 (80)))]) F.1 F.2.1 dX9_digest_163 hl (k := 1) rfl (by rw [e_v2]; rfl) (by decide) rfl (fun ls hl => ?_)
  refine lv_goto (tgt := 140) F.1 F.2.1 dX9_digest_166 (by decide) ?_
  exact hk140 _ _ _ _ w v2 (lv_sub hl [1, 0] rfl) hf
def f_X9_digest_140 : Nat → ST → Int32 → Option (Int64 × ST)
  | 0, _, _ => none
  | n + 1, S, a1 => (if 16 ≤ a1 then some ((fl S 0), S) else oB (f_X9_areOnce S a1) (fun (r3 : Int32) (S2 : ST) => (if r3 = 0 then f_X9_digest_160 (f_X9_digest_140 n) S2 a1 0 else f_X9_digest_160 (f_X9_digest_140 n) S2 a1 1)))
set_option maxHeartbeats 4000000 in
set_option maxRecDepth 100000 in
theorem b_X9_digest_140 {p : Program} {l : Launch} {e : Env} {s : State} {m : MethodId} {args : Array Value} {below : List Frame} {meth : Method} {c : Code} {x : CX} {res : Int64 × ST} (F : MF p m meth c cX9_digest 3 s args RX9 (some .long)) : ∀ (n : Nat), ∀ (H : Heap) (locs : List Loc) (ls : Array Slot) (S : ST), WD x s S H locs → ∀ (a1 : Int32), lv_has ls 3 [(0, .ref (x.2.2 (80))), (1, .int a1)] → f_X9_digest_140 n S a1 = some res → W p l e ({ frames := 5, cells := 0, slots := 0, locals := 118 } : Room) s m args below meth c H locs 0 0 (MQ below (QL x res.2 res.1 s.heap.size) args s 0 0 (AA x s.heap.size)) (F0 m 140 ls []) := by
  intro n
  induction n with
  | zero =>
    intro H locs ls S w a1 hl hf
    have hf : (none : Option (Int64 × ST)) = some res := hf
    cases hf
  | succ n ih =>
    intro H locs ls S w a1 hl hf
    unfold f_X9_digest_140 at hf
    refine lv_iload_n F.1 F.2.1 dX9_digest_140 rfl (lv_at hl 1 rfl) ?_
    refine lv_bipush (v := 16) F.1 F.2.1 dX9_digest_141 (by decide) ?_
    refine lv_icmp_ge (tgt := 169) F.1 F.2.1 dX9_digest_143 (by decide) (fun c1 => ?_) (fun c1 => ?_)
    · replace hf := oi_t hf c1
      refine lv_aload_n F.1 F.2.1 dX9_digest_169 rfl (lv_at hl 0 rfl) ?_
      refine g_MD_hash F w q872 dX9_digest_170 ?_
      exact r_lret F w (oi_s hf) dX9_digest_173
    · replace hf := oi_f hf c1
      refine lv_aload_n F.1 F.2.1 dX9_digest_146 rfl (lv_at hl 0 rfl) ?_
      refine lv_aload_n F.1 F.2.1 dX9_digest_147 rfl (lv_at hl 0 rfl) ?_
      refine lv_iload_n F.1 F.2.1 dX9_digest_148 rfl (lv_at hl 1 rfl) ?_
      obtain ⟨r3, S2, hc, hf⟩ := oi_b hf
      refine k_i0 (S' := S2) (r := r3) w (runV (As := [.int a1]) (rest := [.ref (x.2.2 (80))]) (kb := 80) F w (k_X9_areOnce l x S a1 hc H.size) cy_X9_areOnce q988 q990 qp30 ⟨rfl, rfl⟩ ⟨Nat.le_of_ble_eq_true rfl, Nat.le_of_ble_eq_true rfl⟩ (by decide) rfl rfl rfl rfl hl.1 (Nat.le_of_ble_eq_true rfl) ⟨Nat.le_of_ble_eq_true rfl, Nat.le_of_ble_eq_true rfl⟩ dX9_digest_149) (fun H locs w => ?_)
      refine lv_if_eq (tgt := 159) F.1 F.2.1 dX9_digest_152 (by decide) (fun c4 => ?_) (fun c4 => ?_)
      · replace hf := oi_t hf c4
        refine lv_iconst (v := 0) F.1 F.2.1 dX9_digest_159 (by decide) ?_
        exact b_X9_digest_160 F (f_X9_digest_140 n) ih _ _ _ _ w a1 0 (lv_sub hl [0, 1] rfl) hf
      · replace hf := oi_f hf c4
        refine lv_iconst (v := 1) F.1 F.2.1 dX9_digest_155 (by decide) ?_
        refine lv_goto (tgt := 160) F.1 F.2.1 dX9_digest_156 (by decide) ?_
        exact b_X9_digest_160 F (f_X9_digest_140 n) ih _ _ _ _ w a1 1 (lv_sub hl [0, 1] rfl) hf
def f_X9_digest_30 : Nat → ST → Int32 → Option (Int64 × ST)
  | 0, _, _ => none
  | n + 1, S, a1 => (if 4 ≤ a1 then f_X9_digest_140 FU S 0 else f_X9_digest_37 (f_X9_digest_30 n) FU S a1 0)
set_option maxHeartbeats 4000000 in
set_option maxRecDepth 100000 in
theorem b_X9_digest_30 {p : Program} {l : Launch} {e : Env} {s : State} {m : MethodId} {args : Array Value} {below : List Frame} {meth : Method} {c : Code} {x : CX} {res : Int64 × ST} (F : MF p m meth c cX9_digest 3 s args RX9 (some .long)) : ∀ (n : Nat), ∀ (H : Heap) (locs : List Loc) (ls : Array Slot) (S : ST), WD x s S H locs → ∀ (a1 : Int32), lv_has ls 3 [(0, .ref (x.2.2 (80))), (1, .int a1)] → f_X9_digest_30 n S a1 = some res → W p l e ({ frames := 5, cells := 0, slots := 0, locals := 118 } : Room) s m args below meth c H locs 0 0 (MQ below (QL x res.2 res.1 s.heap.size) args s 0 0 (AA x s.heap.size)) (F0 m 30 ls []) := by
  intro n
  induction n with
  | zero =>
    intro H locs ls S w a1 hl hf
    have hf : (none : Option (Int64 × ST)) = some res := hf
    cases hf
  | succ n ih =>
    intro H locs ls S w a1 hl hf
    unfold f_X9_digest_30 at hf
    refine lv_iload_n F.1 F.2.1 dX9_digest_30 rfl (lv_at hl 1 rfl) ?_
    refine lv_iconst (v := 4) F.1 F.2.1 dX9_digest_31 (by decide) ?_
    refine lv_icmp_ge (tgt := 138) F.1 F.2.1 dX9_digest_32 (by decide) (fun c1 => ?_) (fun c1 => ?_)
    · replace hf := oi_t hf c1
      refine lv_iconst (v := 0) F.1 F.2.1 dX9_digest_138 (by decide) ?_
      refine lv_istore_n (lv' := [(1, .int 0), (0, .ref (x.2.2 (80)))]) F.1 F.2.1 dX9_digest_139 rfl hl (by decide) rfl (fun ls hl => ?_)
      exact b_X9_digest_140 F FU _ _ _ _ w 0 (lv_sub hl [1, 0] rfl) hf
    · replace hf := oi_f hf c1
      refine lv_iconst (v := 0) F.1 F.2.1 dX9_digest_35 (by decide) ?_
      refine lv_istore_n (lv' := [(2, .int 0), (0, .ref (x.2.2 (80))), (1, .int a1)]) F.1 F.2.1 dX9_digest_36 rfl hl (by decide) rfl (fun ls hl => ?_)
      exact b_X9_digest_37 F (f_X9_digest_30 n) ih FU _ _ _ _ w a1 0 (lv_sub hl [1, 2, 0] rfl) hf
def f_X9_digest_0 (S : ST)  : Option (Int64 × ST) := oL (sI S 51 0) (fun (S1 : ST) => oL (sL S1 0 12467) (fun (S2 : ST) => oV (f_X9_mix S2 (fi S2 50)) (fun (S3 : ST) => oB (f_X9_modulus S3) (fun (r5 : Int32) (S4 : ST) => oV (f_X9_mix S4 r5) (fun (S6 : ST) => f_X9_digest_30 FU S6 0)))))
set_option maxHeartbeats 4000000 in
set_option maxRecDepth 100000 in
theorem b_X9_digest_0 {p : Program} {l : Launch} {e : Env} {s : State} {m : MethodId} {args : Array Value} {below : List Frame} {meth : Method} {c : Code} {x : CX} {res : Int64 × ST} (F : MF p m meth c cX9_digest 3 s args RX9 (some .long)) : ∀ (H : Heap) (locs : List Loc) (ls : Array Slot) (S : ST), WD x s S H locs → lv_has ls 3 [(0, .ref (x.2.2 (80)))] → f_X9_digest_0 S = some res → W p l e ({ frames := 5, cells := 0, slots := 0, locals := 118 } : Room) s m args below meth c H locs 0 0 (MQ below (QL x res.2 res.1 s.heap.size) args s 0 0 (AA x s.heap.size)) (F0 m 0 ls []) := by
  intro H locs ls S w hl hf
  unfold f_X9_digest_0 at hf
  refine lv_aload_n F.1 F.2.1 dX9_digest_0 rfl (lv_at hl 0 rfl) ?_
  refine lv_iconst (v := 0) F.1 F.2.1 dX9_digest_1 (by decide) ?_
  refine p_MD_refusal F w q866 dX9_digest_2 (fun H locs w => ?_)
  obtain ⟨S1, e_S1⟩ : ∃ y : ST, y = sI S 51 0 := ⟨_, rfl⟩
  replace w : WD x s S1 H locs := by rw [e_S1]; exact w
  replace hf := oi_l hf e_S1
  refine lv_aload_n F.1 F.2.1 dX9_digest_5 rfl (lv_at hl 0 rfl) ?_
  refine lv_ldc2 (v := 12467) F.1 F.2.1 F.2.2.2.1 (F.2.2.2.2.1 _ q1176) dX9_digest_6 ?_
  refine p_MD_hash F w q872 dX9_digest_9 (fun H locs w => ?_)
  obtain ⟨S2, e_S2⟩ : ∃ y : ST, y = sL S1 0 12467 := ⟨_, rfl⟩
  replace w : WD x s S2 H locs := by rw [e_S2]; exact w
  replace hf := oi_l hf e_S2
  refine lv_aload_n F.1 F.2.1 dX9_digest_12 rfl (lv_at hl 0 rfl) ?_
  refine lv_aload_n F.1 F.2.1 dX9_digest_13 rfl (lv_at hl 0 rfl) ?_
  refine g_MD_saved F w q865 dX9_digest_14 ?_
  obtain ⟨S3, hc, hf⟩ := oi_v hf
  refine k_v0 (S' := S3) w (runV (As := [.int (fi S2 50)]) (rest := []) (kb := 80) F w (k_X9_mix l x S2 (fi S2 50) hc H.size) cy_X9_mix q1177 q1179 qp54 ⟨rfl, rfl⟩ ⟨Nat.le_of_ble_eq_true rfl, Nat.le_of_ble_eq_true rfl⟩ (by decide) rfl rfl rfl rfl hl.1 (Nat.le_of_ble_eq_true rfl) ⟨Nat.le_of_ble_eq_true rfl, Nat.le_of_ble_eq_true rfl⟩ dX9_digest_17) (fun H locs w => ?_)
  refine lv_aload_n F.1 F.2.1 dX9_digest_20 rfl (lv_at hl 0 rfl) ?_
  refine lv_aload_n F.1 F.2.1 dX9_digest_21 rfl (lv_at hl 0 rfl) ?_
  obtain ⟨r5, S4, hc, hf⟩ := oi_b hf
  refine k_i0 (S' := S4) (r := r5) w (runV (As := []) (rest := [.ref (x.2.2 (80))]) (kb := 80) F w (k_X9_modulus l x S3 hc H.size) cy_X9_modulus q1024 q1026 qp35 ⟨rfl, rfl⟩ ⟨Nat.le_of_ble_eq_true rfl, Nat.le_of_ble_eq_true rfl⟩ (by decide) rfl rfl rfl rfl hl.1 (Nat.le_of_ble_eq_true rfl) ⟨Nat.le_of_ble_eq_true rfl, Nat.le_of_ble_eq_true rfl⟩ dX9_digest_22) (fun H locs w => ?_)
  obtain ⟨S6, hc, hf⟩ := oi_v hf
  refine k_v0 (S' := S6) w (runV (As := [.int r5]) (rest := []) (kb := 80) F w (k_X9_mix l x S4 r5 hc H.size) cy_X9_mix q1177 q1179 qp54 ⟨rfl, rfl⟩ ⟨Nat.le_of_ble_eq_true rfl, Nat.le_of_ble_eq_true rfl⟩ (by decide) rfl rfl rfl rfl hl.1 (Nat.le_of_ble_eq_true rfl) ⟨Nat.le_of_ble_eq_true rfl, Nat.le_of_ble_eq_true rfl⟩ dX9_digest_25) (fun H locs w => ?_)
  refine lv_iconst (v := 0) F.1 F.2.1 dX9_digest_28 (by decide) ?_
  refine lv_istore_n (lv' := [(1, .int 0), (0, .ref (x.2.2 (80)))]) F.1 F.2.1 dX9_digest_29 rfl hl (by decide) rfl (fun ls hl => ?_)
  exact b_X9_digest_30 F FU _ _ _ _ w 0 (lv_sub hl [1, 0] rfl) hf
def f_X9_digest (S : ST)  : Option (Int64 × ST) := f_X9_digest_0 S
set_option maxHeartbeats 4000000 in
set_option maxRecDepth 100000 in
theorem k_X9_digest (l : Launch) (x : CX) (S : ST)  {res : Int64 × ST} (hf : f_X9_digest S  = some res) (sz : Nat) : Met l yX9_digest (Cond.code yX9_digest cX9_digest 3 (some .long) :: GW) ({ frames := 5, cells := 0, slots := 0, locals := 118 } : Room) (PC x S sz [.ref (x.2.2 (80))]) (QL x res.2 res.1 sz) 0 0 (AA x sz) := by
  refine Met.ofW (cc := cX9_digest) (maxL := 3) (ret := (some .long)) (by decide) rfl ?_
  intro p e s m args below meth c s₁ B hml hv
  obtain ⟨rfl, rfl, hPW⟩ := hv
  have F : MF p m meth c cX9_digest 3 s _ RX9 (some .long) := MF.of B hml
  have w := WD.of hPW
  have hl := lv_entry ([.ref (x.2.2 (80))]) (n := 3) (Nat.le_of_ble_eq_true rfl)
  rw [lg_entry_eq]
  generalize (lg_sl ([.ref (x.2.2 (80))]) ++ List.replicate (3 - (lg_sl ([.ref (x.2.2 (80))])).length) Slot.unset).toArray = ls at hl ⊢
  have hl : lv_has ls 3 [(0, .ref (x.2.2 (80)))] := hl
  unfold f_X9_digest at hf
  exact b_X9_digest_0 F  _ _ _ _ w  (lv_sub hl [0] rfl) hf
