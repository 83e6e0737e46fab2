theorem cyw_add : CYW yL_add RL cL_add 5 (some .int) [(0, 10, 13, 13), (0, 10, 17, 15), (0, 10, 21, 17)] 4 := ⟨q0, q334, rfl, by decide, by decide, by decide +kernel⟩
theorem cyw_remove : CYW yL_remove RL cL_remove 5 (some .int) [(0, 10, 13, 13), (0, 10, 17, 17)] 4 := ⟨q0, q487, rfl, by decide, by decide, by decide +kernel⟩
theorem cyw_clear : CYW yL_clear RL cL_clear 4 (some .int) [(0, 9, 12, 13)] 3 := ⟨q0, q499, rfl, by decide, by decide, by decide +kernel⟩
theorem cyw_copy : CYW yL_copy RL cL_copy 5 (some .int) [(0, 10, 13, 13)] 4 := ⟨q0, q507, rfl, by decide, by decide, by decide +kernel⟩
theorem cyw_size : CYW yL_size RL cL_size 4 (some .int) [(0, 9, 12, 13)] 3 := ⟨q0, q514, rfl, by decide, by decide, by decide +kernel⟩
theorem cyw_mark : CYW yL_mark RL cL_mark 5 (some .int) [(0, 10, 13, 13)] 4 := ⟨q0, q521, rfl, by decide, by decide, by decide +kernel⟩
theorem cyw_length : CYW yL_length RL cL_length 4 (some .int) [(0, 9, 12, 13)] 3 := ⟨q0, q529, rfl, by decide, by decide, by decide +kernel⟩
theorem cyw_multiplicity : CYW yL_multiplicity RL cL_multiplicity 5 (some .int) [(0, 10, 13, 13), (0, 10, 17, 15)] 4 := ⟨q0, q541, rfl, by decide, by decide, by decide +kernel⟩
theorem cyw_isRuler : CYW yL_isRuler RL cL_isRuler 4 (some .int) [(0, 16, 19, 13)] 3 := ⟨q0, q553, rfl, by decide, by decide, by decide +kernel⟩
theorem cyw_completeUpTo : CYW yL_completeUpTo RL cL_completeUpTo 4 (some .int) [(0, 9, 12, 13)] 3 := ⟨q0, q560, rfl, by decide, by decide, by decide +kernel⟩
theorem cyw_differences : CYW yL_differences RL cL_differences 4 (some .int) [(0, 9, 12, 13)] 3 := ⟨q0, q567, rfl, by decide, by decide, by decide +kernel⟩
theorem cyw_isFamily : CYW yL_isFamily RL cL_isFamily 4 (some .int) [(0, 16, 19, 15)] 3 := ⟨q0, q574, rfl, by decide, by decide, by decide +kernel⟩
theorem cyw_setModulus : CYW yL_setModulus RL cL_setModulus 4 (some .int) [(0, 9, 12, 15)] 3 := ⟨q0, q582, rfl, by decide, by decide, by decide +kernel⟩
theorem cyw_cyclicMultiplicity : CYW yL_cyclicMultiplicity RL cL_cyclicMultiplicity 5 (some .int) [(0, 10, 13, 13), (0, 10, 17, 15), (0, 10, 21, 17)] 4 := ⟨q0, q590, rfl, by decide, by decide, by decide +kernel⟩
theorem cyw_isCyclicRuler : CYW yL_isCyclicRuler RL cL_isCyclicRuler 4 (some .int) [(0, 16, 19, 13), (0, 16, 22, 17)] 3 := ⟨q0, q602, rfl, by decide, by decide, by decide +kernel⟩
theorem cyw_index : CYW yL_index RL cL_index 4 (some .int) [(0, 9, 12, 13), (0, 9, 15, 17)] 3 := ⟨q0, q613, rfl, by decide, by decide, by decide +kernel⟩
theorem cyw_map : CYW yL_map RL cL_map 7 (some .int) [(0, 14, 17, 13), (0, 14, 21, 15), (0, 14, 25, 17)] 6 := ⟨q0, q620, rfl, by decide, by decide, by decide +kernel⟩
theorem cyw_complement : CYW yL_complement RL cL_complement 5 (some .int) [(0, 10, 13, 13), (0, 10, 17, 17)] 4 := ⟨q0, q647, rfl, by decide, by decide, by decide +kernel⟩
theorem cyw_reflect : CYW yL_reflect RL cL_reflect 5 (some .int) [(0, 10, 13, 13)] 4 := ⟨q0, q656, rfl, by decide, by decide, by decide +kernel⟩
theorem cyw_multipliers : CYW yL_multipliers RL cL_multipliers 4 (some .int) [(0, 9, 12, 13), (0, 9, 15, 17)] 3 := ⟨q0, q663, rfl, by decide, by decide, by decide +kernel⟩
theorem cyw_canonical : CYW yL_canonical RL cL_canonical 5 (some .int) [(0, 10, 13, 13), (0, 10, 17, 17)] 4 := ⟨q0, q670, rfl, by decide, by decide, by decide +kernel⟩
theorem cyw_erdosTuran : CYW yL_erdosTuran RL cL_erdosTuran 5 (some .int) [(0, 10, 13, 13), (0, 10, 17, 15)] 4 := ⟨q0, q731, rfl, by decide, by decide, by decide +kernel⟩
theorem cyw_ruzsa : CYW yL_ruzsa RL cL_ruzsa 6 (some .int) [(0, 12, 15, 13), (0, 12, 19, 15)] 5 := ⟨q0, q745, rfl, by decide, by decide, by decide +kernel⟩
theorem cyw_residues : CYW yL_residues RL cL_residues 5 (some .int) [(0, 10, 13, 13), (0, 10, 17, 15)] 4 := ⟨q0, q756, rfl, by decide, by decide, by decide +kernel⟩
theorem cyw_extend : CYW yL_extend RL cL_extend 5 (some .int) [(0, 10, 13, 13), (0, 10, 17, 15), (0, 10, 21, 17)] 4 := ⟨q0, q763, rfl, by decide, by decide, by decide +kernel⟩
theorem cyw_optimal : CYW yL_optimal RL cL_optimal 5 (some .int) [(0, 10, 13, 13), (0, 10, 17, 15)] 4 := ⟨q0, q786, rfl, by decide, by decide, by decide +kernel⟩
theorem cyw_sparse : CYW yL_sparse RL cL_sparse 5 (some .int) [(0, 10, 13, 13), (0, 10, 17, 15)] 4 := ⟨q0, q804, rfl, by decide, by decide, by decide +kernel⟩
theorem cyw_firstDifferenceSet : CYW yL_firstDifferenceSet RL cL_firstDifferenceSet 6 (some .int) [(0, 12, 15, 13), (0, 12, 19, 15)] 5 := ⟨q0, q821, rfl, by decide, by decide, by decide +kernel⟩
theorem cyw_undo : CYW yL_undo RL cL_undo 3 (some .int) [(0, 8, 11, 17)] 2 := ⟨q0, q847, rfl, by decide, by decide, by decide +kernel⟩
def g_add (S : ST) (v1 : Int32) (v2 : Int32) : Option ST := oB (f_L_add S v1 v2) (fun (r2 : Int32) (S1 : ST) => oB (f_X9_add S1 v1 v2) (fun (r4 : Int32) (S3 : ST) => oB (f_X9_thrown S3) (fun (r6 : Int32) (S5 : ST) => (if r6 = r2 then (if r2 = 0 then (if (lg_cmp (al S5 5 (Int32.toNatClampNeg 0)) (Int32.toInt64 r4)) = 0 then some S5 else none) else some S5) else none))))
set_option maxHeartbeats 4000000 in
set_option maxRecDepth 100000 in
theorem lc_add {p : Program} {l : Launch} {e : Env} {s : State} {m : MethodId} {below : List Frame} {meth : Method} {c : Code} {x : CX} {b L : Nat} {xs : Nat → Int32} {ret : Option FieldType} {Q : State → Prop} (F : MF p m meth c cL_law 7 s #[Value.ref b] RL ret) (hX : va_X b L xs s s.heap) (hbl : b < s.heap.size) (hbA : ¬ AA x s.heap.size b) (hls : l.stackTraces = false) {kc ks : Nat} (hcap : kc + 8 ≤ 601024 ∧ ks + 48 ≤ 7293034) {S S' : ST} {H : Heap} {locs : List Loc} {ls : Array Slot} (w : WD x s S H locs) {x4 : Int32} {v1 : Int32} (g1 : vp_in (x4 + 1) L) (e1 : xs (x4 + 1).toNatClampNeg = v1) {v2 : Int32} (g2 : vp_in (x4 + 2) L) (e2 : xs (x4 + 2).toNatClampNeg = v2) (hl : lv_has ls 7 [(0, .ref b), (1, .ref (x.2.2 79)), (2, .ref (x.2.2 80)), (3, .ref (x.2.2 87)), (4, .int x4)]) (hf : g_add S v1 v2 = some S') (hnext : ∀ (H : Heap) (locs : List Loc) (ls : Array Slot), WD x s S' H locs → lv_has ls 7 [(0, .ref b), (1, .ref (x.2.2 79)), (2, .ref (x.2.2 80)), (3, .ref (x.2.2 87)), (4, .int x4)] → W p l e room_1 s m #[Value.ref b] below meth c H locs (kc + 8) (ks + 48) Q (F0 m 2071 ls [])) : W p l e room_1 s m #[Value.ref b] below meth c H locs kc ks Q (F0 m 172 ls []) := by
  unfold g_add at hf
  refine lv_aload_n F.1 F.2.1 dL_law_172 rfl (lv_at hl 1 rfl) ?_
  refine lv_aload_n F.1 F.2.1 dL_law_173 rfl (lv_at hl 0 rfl) ?_
  refine lv_iload F.1 F.2.1 dL_law_174 (lv_at hl 4 rfl) ?_
  refine lv_iconst (v := 1) F.1 F.2.1 dL_law_176 (by decide) ?_
  refine lv_iadd F.1 F.2.1 dL_law_177 ?_
  refine va_sld F.1 F.2.1 hX hbl hbA w.S g1 dL_law_178 ?_
  rw [e1]
  refine lv_aload_n F.1 F.2.1 dL_law_179 rfl (lv_at hl 0 rfl) ?_
  refine lv_iload F.1 F.2.1 dL_law_180 (lv_at hl 4 rfl) ?_
  refine lv_iconst (v := 2) F.1 F.2.1 dL_law_182 (by decide) ?_
  refine lv_iadd F.1 F.2.1 dL_law_183 ?_
  refine va_sld F.1 F.2.1 hX hbl hbA w.S g2 dL_law_184 ?_
  rw [e2]
  refine lv_aload_n F.1 F.2.1 dL_law_185 rfl (lv_at hl 3 rfl) ?_
  obtain ⟨r2, S1, hc, hf⟩ := oi_b hf
  refine k_i (S' := S1) (r := r2) w (runSW (As := [.ref (x.2.2 (79)), .int v1, .int v2, .ref (x.2.2 (87))]) (rest := []) F w (k_L_add l x S v1 v2 hc hls H.size) cyw_add q332 q333 ⟨rfl, rfl⟩ ⟨Nat.le_of_ble_eq_true rfl, Nat.le_of_ble_eq_true rfl⟩ rfl rfl hl.1 (Nat.le_of_ble_eq_true rfl) (cap_le hcap (by decide) (by decide)) dL_law_186) (fun H locs w => ?_)
  refine lv_istore (lv' := [(5, .int r2), (0, .ref b), (1, .ref (x.2.2 (79))), (2, .ref (x.2.2 (80))), (3, .ref (x.2.2 (87))), (4, .int x4)]) F.1 F.2.1 dL_law_189 hl (by decide) rfl (fun ls hl => ?_)
  refine lv_aload_n F.1 F.2.1 dL_law_191 rfl (lv_at hl 3 rfl) ?_
  refine lv_aload_n F.1 F.2.1 dL_law_192 rfl (lv_at hl 1 rfl) ?_
  refine lv_iload F.1 F.2.1 dL_law_193 (lv_at hl 5 rfl) ?_
  refine lv_iconst (v := 1) F.1 F.2.1 dL_law_195 (by decide) ?_
  refine lv_iadd F.1 F.2.1 dL_law_196 ?_
  refine va_sld F.1 F.2.1 hX hbl hbA w.S g1 dL_law_197 ?_
  rw [e1]
  refine lv_aload_n F.1 F.2.1 dL_law_198 rfl (lv_at hl 1 rfl) ?_
  refine lv_iload F.1 F.2.1 dL_law_199 (lv_at hl 5 rfl) ?_
  refine lv_iconst (v := 2) F.1 F.2.1 dL_law_201 (by decide) ?_
  refine lv_iadd F.1 F.2.1 dL_law_202 ?_
  refine va_sld F.1 F.2.1 hX hbl hbA w.S g2 dL_law_203 ?_
  rw [e2]
  obtain ⟨r4, S3, hc, hf⟩ := oi_b hf
  refine k_i0 (S' := S3) (r := r4) w (runV (As := [.int v1, .int v2]) (rest := []) (kb := 80) F w (k_X9_add l x S1 v1 v2 hc H.size) cy_X9_add q906 q907 q908 ⟨rfl, rfl⟩ ⟨Nat.le_of_ble_eq_true rfl, Nat.le_of_ble_eq_true rfl⟩ (by decide) rfl rfl rfl rfl hl.1 (Nat.le_of_ble_eq_true rfl) (cap_le2 hcap (by decide) (by decide)) dL_law_204) (fun H locs w => ?_)
  refine lv_istore (lv' := [(6, .int r4), (5, .int r2), (0, .ref b), (1, .ref (x.2.2 (79))), (2, .ref (x.2.2 (80))), (3, .ref (x.2.2 (87))), (4, .int x4)]) F.1 F.2.1 dL_law_207 hl (by decide) rfl (fun ls hl => ?_)
  refine lv_aload_n F.1 F.2.1 dL_law_209 rfl (lv_at hl 4 rfl) ?_
  obtain ⟨r6, S5, hc, hf⟩ := oi_b hf
  refine k_i0 (S' := S5) (r := r6) w (runV (As := []) (rest := []) (kb := 80) F w (k_X9_thrown l x S3 hc H.size) cy_X9_thrown q894 q895 q896 ⟨rfl, rfl⟩ ⟨Nat.le_of_ble_eq_true rfl, Nat.le_of_ble_eq_true rfl⟩ (by decide) rfl rfl rfl rfl hl.1 (Nat.le_of_ble_eq_true rfl) (cap_le2 hcap (by decide) (by decide)) dL_law_210) (fun H locs w => ?_)
  refine lv_iload F.1 F.2.1 dL_law_213 (lv_at hl 1 rfl) ?_
  refine lv_icmp_eq (tgt := 220) F.1 F.2.1 dL_law_215 (by decide) (fun c7 => ?_) (fun c7 => ?_)
  · replace hf := oi_t hf c7
    refine lv_iload F.1 F.2.1 dL_law_220 (lv_at hl 1 rfl) ?_
    refine lv_if_ne (tgt := 237) F.1 F.2.1 dL_law_222 (by decide) (fun c8 => ?_) (fun c8 => ?_)
    · replace hf := oi_f hf c8
      refine lv_goto (tgt := 2071) F.1 F.2.1 dL_law_237 (by decide) ?_
      have hS := oi_s hf
      subst hS
      refine W.widen (k := kc + 8) (n := ks + 48) (by omega) (by omega) ?_
      exact hnext _ _ _ w (lv_sub hl [2, 3, 4, 5, 6] rfl)
    · replace hf := oi_t hf c8
      refine lv_aload_n F.1 F.2.1 dL_law_225 rfl (lv_at hl 5 rfl) ?_
      refine lv_iconst (v := 0) F.1 F.2.1 dL_law_226 (by decide) ?_
      refine r_lald F w (k := 87) (n := 1) (f := al S5 5) (by decide) rfl (by decide) dL_law_227 ?_
      refine lv_iload F.1 F.2.1 dL_law_228 (lv_at hl 0 rfl) ?_
      refine lv_i2l (v := Int32.toInt64 r4) F.1 F.2.1 dL_law_230 rfl ?_
      refine W.lcmp F.1 F.2.1 dL_law_231 ?_
      refine lv_if_eq (tgt := 237) F.1 F.2.1 dL_law_232 (by decide) (fun c9 => ?_) (fun c9 => ?_)
      · replace hf := oi_t hf c9
        refine lv_goto (tgt := 2071) F.1 F.2.1 dL_law_237 (by decide) ?_
        have hS := oi_s hf
        subst hS
        refine W.widen (k := kc + 8) (n := ks + 48) (by omega) (by omega) ?_
        exact hnext _ _ _ w (lv_sub hl [2, 3, 4, 5, 6] rfl)
      · replace hf := oi_f hf c9
        cases hf
  · replace hf := oi_f hf c7
    cases hf
def g_remove (S : ST) (v1 : Int32) (v2 : Int32) : Option ST := oB (f_L_remove S v1 v2) (fun (r2 : Int32) (S1 : ST) => oB (f_X9_remove S1 v1 v2) (fun (r4 : Int32) (S3 : ST) => oB (f_X9_thrown S3) (fun (r6 : Int32) (S5 : ST) => (if r6 = r2 then (if r2 = 0 then (if (lg_cmp (al S5 5 (Int32.toNatClampNeg 0)) (Int32.toInt64 r4)) = 0 then some S5 else none) else some S5) else none))))
set_option maxHeartbeats 4000000 in
set_option maxRecDepth 100000 in
theorem lc_remove {p : Program} {l : Launch} {e : Env} {s : State} {m : MethodId} {below : List Frame} {meth : Method} {c : Code} {x : CX} {b L : Nat} {xs : Nat → Int32} {ret : Option FieldType} {Q : State → Prop} (F : MF p m meth c cL_law 7 s #[Value.ref b] RL ret) (hX : va_X b L xs s s.heap) (hbl : b < s.heap.size) (hbA : ¬ AA x s.heap.size b) (hls : l.stackTraces = false) {kc ks : Nat} (hcap : kc + 8 ≤ 601024 ∧ ks + 48 ≤ 7293034) {S S' : ST} {H : Heap} {locs : List Loc} {ls : Array Slot} (w : WD x s S H locs) {x4 : Int32} {v1 : Int32} (g1 : vp_in (x4 + 1) L) (e1 : xs (x4 + 1).toNatClampNeg = v1) {v2 : Int32} (g2 : vp_in (x4 + 2) L) (e2 : xs (x4 + 2).toNatClampNeg = v2) (hl : lv_has ls 7 [(0, .ref b), (1, .ref (x.2.2 79)), (2, .ref (x.2.2 80)), (3, .ref (x.2.2 87)), (4, .int x4)]) (hf : g_remove S v1 v2 = some S') (hnext : ∀ (H : Heap) (locs : List Loc) (ls : Array Slot), WD x s S' H locs → lv_has ls 7 [(0, .ref b), (1, .ref (x.2.2 79)), (2, .ref (x.2.2 80)), (3, .ref (x.2.2 87)), (4, .int x4)] → W p l e room_1 s m #[Value.ref b] below meth c H locs (kc + 8) (ks + 48) Q (F0 m 2071 ls [])) : W p l e room_1 s m #[Value.ref b] below meth c H locs kc ks Q (F0 m 240 ls []) := by
  unfold g_remove at hf
  refine lv_aload_n F.1 F.2.1 dL_law_240 rfl (lv_at hl 1 rfl) ?_
  refine lv_aload_n F.1 F.2.1 dL_law_241 rfl (lv_at hl 0 rfl) ?_
  refine lv_iload F.1 F.2.1 dL_law_242 (lv_at hl 4 rfl) ?_
  refine lv_iconst (v := 1) F.1 F.2.1 dL_law_244 (by decide) ?_
  refine lv_iadd F.1 F.2.1 dL_law_245 ?_
  refine va_sld F.1 F.2.1 hX hbl hbA w.S g1 dL_law_246 ?_
  rw [e1]
  refine lv_aload_n F.1 F.2.1 dL_law_247 rfl (lv_at hl 0 rfl) ?_
  refine lv_iload F.1 F.2.1 dL_law_248 (lv_at hl 4 rfl) ?_
  refine lv_iconst (v := 2) F.1 F.2.1 dL_law_250 (by decide) ?_
  refine lv_iadd F.1 F.2.1 dL_law_251 ?_
  refine va_sld F.1 F.2.1 hX hbl hbA w.S g2 dL_law_252 ?_
  rw [e2]
  refine lv_aload_n F.1 F.2.1 dL_law_253 rfl (lv_at hl 3 rfl) ?_
  obtain ⟨r2, S1, hc, hf⟩ := oi_b hf
  refine k_i (S' := S1) (r := r2) w (runSW (As := [.ref (x.2.2 (79)), .int v1, .int v2, .ref (x.2.2 (87))]) (rest := []) F w (k_L_remove l x S v1 v2 hc hls H.size) cyw_remove q485 q486 ⟨rfl, rfl⟩ ⟨Nat.le_of_ble_eq_true rfl, Nat.le_of_ble_eq_true rfl⟩ rfl rfl hl.1 (Nat.le_of_ble_eq_true rfl) (cap_le hcap (by decide) (by decide)) dL_law_254) (fun H locs w => ?_)
  refine lv_istore (lv' := [(5, .int r2), (0, .ref b), (1, .ref (x.2.2 (79))), (2, .ref (x.2.2 (80))), (3, .ref (x.2.2 (87))), (4, .int x4)]) F.1 F.2.1 dL_law_257 hl (by decide) rfl (fun ls hl => ?_)
  refine lv_aload_n F.1 F.2.1 dL_law_259 rfl (lv_at hl 3 rfl) ?_
  refine lv_aload_n F.1 F.2.1 dL_law_260 rfl (lv_at hl 1 rfl) ?_
  refine lv_iload F.1 F.2.1 dL_law_261 (lv_at hl 5 rfl) ?_
  refine lv_iconst (v := 1) F.1 F.2.1 dL_law_263 (by decide) ?_
  refine lv_iadd F.1 F.2.1 dL_law_264 ?_
  refine va_sld F.1 F.2.1 hX hbl hbA w.S g1 dL_law_265 ?_
  rw [e1]
  refine lv_aload_n F.1 F.2.1 dL_law_266 rfl (lv_at hl 1 rfl) ?_
  refine lv_iload F.1 F.2.1 dL_law_267 (lv_at hl 5 rfl) ?_
  refine lv_iconst (v := 2) F.1 F.2.1 dL_law_269 (by decide) ?_
  refine lv_iadd F.1 F.2.1 dL_law_270 ?_
  refine va_sld F.1 F.2.1 hX hbl hbA w.S g2 dL_law_271 ?_
  rw [e2]
  obtain ⟨r4, S3, hc, hf⟩ := oi_b hf
  refine k_i0 (S' := S3) (r := r4) w (runV (As := [.int v1, .int v2]) (rest := []) (kb := 80) F w (k_X9_remove l x S1 v1 v2 hc H.size) cy_X9_remove q948 q949 q950 ⟨rfl, rfl⟩ ⟨Nat.le_of_ble_eq_true rfl, Nat.le_of_ble_eq_true rfl⟩ (by decide) rfl rfl rfl rfl hl.1 (Nat.le_of_ble_eq_true rfl) (cap_le2 hcap (by decide) (by decide)) dL_law_272) (fun H locs w => ?_)
  refine lv_istore (lv' := [(6, .int r4), (5, .int r2), (0, .ref b), (1, .ref (x.2.2 (79))), (2, .ref (x.2.2 (80))), (3, .ref (x.2.2 (87))), (4, .int x4)]) F.1 F.2.1 dL_law_275 hl (by decide) rfl (fun ls hl => ?_)
  refine lv_aload_n F.1 F.2.1 dL_law_277 rfl (lv_at hl 4 rfl) ?_
  obtain ⟨r6, S5, hc, hf⟩ := oi_b hf
  refine k_i0 (S' := S5) (r := r6) w (runV (As := []) (rest := []) (kb := 80) F w (k_X9_thrown l x S3 hc H.size) cy_X9_thrown q894 q895 q896 ⟨rfl, rfl⟩ ⟨Nat.le_of_ble_eq_true rfl, Nat.le_of_ble_eq_true rfl⟩ (by decide) rfl rfl rfl rfl hl.1 (Nat.le_of_ble_eq_true rfl) (cap_le2 hcap (by decide) (by decide)) dL_law_278) (fun H locs w => ?_)
  refine lv_iload F.1 F.2.1 dL_law_281 (lv_at hl 1 rfl) ?_
  refine lv_icmp_eq (tgt := 288) F.1 F.2.1 dL_law_283 (by decide) (fun c7 => ?_) (fun c7 => ?_)
  · replace hf := oi_t hf c7
    refine lv_iload F.1 F.2.1 dL_law_288 (lv_at hl 1 rfl) ?_
    refine lv_if_ne (tgt := 305) F.1 F.2.1 dL_law_290 (by decide) (fun c8 => ?_) (fun c8 => ?_)
    · replace hf := oi_f hf c8
      refine lv_goto (tgt := 2071) F.1 F.2.1 dL_law_305 (by decide) ?_
      have hS := oi_s hf
      subst hS
      refine W.widen (k := kc + 8) (n := ks + 48) (by omega) (by omega) ?_
      exact hnext _ _ _ w (lv_sub hl [2, 3, 4, 5, 6] rfl)
    · replace hf := oi_t hf c8
      refine lv_aload_n F.1 F.2.1 dL_law_293 rfl (lv_at hl 5 rfl) ?_
      refine lv_iconst (v := 0) F.1 F.2.1 dL_law_294 (by decide) ?_
      refine r_lald F w (k := 87) (n := 1) (f := al S5 5) (by decide) rfl (by decide) dL_law_295 ?_
      refine lv_iload F.1 F.2.1 dL_law_296 (lv_at hl 0 rfl) ?_
      refine lv_i2l (v := Int32.toInt64 r4) F.1 F.2.1 dL_law_298 rfl ?_
      refine W.lcmp F.1 F.2.1 dL_law_299 ?_
      refine lv_if_eq (tgt := 305) F.1 F.2.1 dL_law_300 (by decide) (fun c9 => ?_) (fun c9 => ?_)
      · replace hf := oi_t hf c9
        refine lv_goto (tgt := 2071) F.1 F.2.1 dL_law_305 (by decide) ?_
        have hS := oi_s hf
        subst hS
        refine W.widen (k := kc + 8) (n := ks + 48) (by omega) (by omega) ?_
        exact hnext _ _ _ w (lv_sub hl [2, 3, 4, 5, 6] rfl)
      · replace hf := oi_f hf c9
        cases hf
  · replace hf := oi_f hf c7
    cases hf
def g_clear (S : ST) (v1 : Int32) : Option ST := oB (f_L_clear S v1) (fun (r2 : Int32) (S1 : ST) => oB (f_X9_clear S1 v1) (fun (r4 : Int32) (S3 : ST) => oB (f_X9_thrown S3) (fun (r6 : Int32) (S5 : ST) => (if r6 = r2 then (if r2 = 0 then (if (lg_cmp (al S5 5 (Int32.toNatClampNeg 0)) (Int32.toInt64 r4)) = 0 then some S5 else none) else some S5) else none))))
set_option maxHeartbeats 4000000 in
set_option maxRecDepth 100000 in
theorem lc_clear {p : Program} {l : Launch} {e : Env} {s : State} {m : MethodId} {below : List Frame} {meth : Method} {c : Code} {x : CX} {b L : Nat} {xs : Nat → Int32} {ret : Option FieldType} {Q : State → Prop} (F : MF p m meth c cL_law 7 s #[Value.ref b] RL ret) (hX : va_X b L xs s s.heap) (hbl : b < s.heap.size) (hbA : ¬ AA x s.heap.size b) (hls : l.stackTraces = false) {kc ks : Nat} (hcap : kc + 8 ≤ 601024 ∧ ks + 48 ≤ 7293034) {S S' : ST} {H : Heap} {locs : List Loc} {ls : Array Slot} (w : WD x s S H locs) {x4 : Int32} {v1 : Int32} (g1 : vp_in (x4 + 1) L) (e1 : xs (x4 + 1).toNatClampNeg = v1) (hl : lv_has ls 7 [(0, .ref b), (1, .ref (x.2.2 79)), (2, .ref (x.2.2 80)), (3, .ref (x.2.2 87)), (4, .int x4)]) (hf : g_clear S v1 = some S') (hnext : ∀ (H : Heap) (locs : List Loc) (ls : Array Slot), WD x s S' H locs → lv_has ls 7 [(0, .ref b), (1, .ref (x.2.2 79)), (2, .ref (x.2.2 80)), (3, .ref (x.2.2 87)), (4, .int x4)] → W p l e room_1 s m #[Value.ref b] below meth c H locs (kc + 8) (ks + 48) Q (F0 m 2071 ls [])) : W p l e room_1 s m #[Value.ref b] below meth c H locs kc ks Q (F0 m 308 ls []) := by
  unfold g_clear at hf
  refine lv_aload_n F.1 F.2.1 dL_law_308 rfl (lv_at hl 1 rfl) ?_
  refine lv_aload_n F.1 F.2.1 dL_law_309 rfl (lv_at hl 0 rfl) ?_
  refine lv_iload F.1 F.2.1 dL_law_310 (lv_at hl 4 rfl) ?_
  refine lv_iconst (v := 1) F.1 F.2.1 dL_law_312 (by decide) ?_
  refine lv_iadd F.1 F.2.1 dL_law_313 ?_
  refine va_sld F.1 F.2.1 hX hbl hbA w.S g1 dL_law_314 ?_
  rw [e1]
  refine lv_aload_n F.1 F.2.1 dL_law_315 rfl (lv_at hl 3 rfl) ?_
  obtain ⟨r2, S1, hc, hf⟩ := oi_b hf
  refine k_i (S' := S1) (r := r2) w (runSW (As := [.ref (x.2.2 (79)), .int v1, .ref (x.2.2 (87))]) (rest := []) F w (k_L_clear l x S v1 hc hls H.size) cyw_clear q497 q498 ⟨rfl, rfl⟩ ⟨Nat.le_of_ble_eq_true rfl, Nat.le_of_ble_eq_true rfl⟩ rfl rfl hl.1 (Nat.le_of_ble_eq_true rfl) (cap_le hcap (by decide) (by decide)) dL_law_316) (fun H locs w => ?_)
  refine lv_istore (lv' := [(5, .int r2), (0, .ref b), (1, .ref (x.2.2 (79))), (2, .ref (x.2.2 (80))), (3, .ref (x.2.2 (87))), (4, .int x4)]) F.1 F.2.1 dL_law_319 hl (by decide) rfl (fun ls hl => ?_)
  refine lv_aload_n F.1 F.2.1 dL_law_321 rfl (lv_at hl 3 rfl) ?_
  refine lv_aload_n F.1 F.2.1 dL_law_322 rfl (lv_at hl 1 rfl) ?_
  refine lv_iload F.1 F.2.1 dL_law_323 (lv_at hl 5 rfl) ?_
  refine lv_iconst (v := 1) F.1 F.2.1 dL_law_325 (by decide) ?_
  refine lv_iadd F.1 F.2.1 dL_law_326 ?_
  refine va_sld F.1 F.2.1 hX hbl hbA w.S g1 dL_law_327 ?_
  rw [e1]
  obtain ⟨r4, S3, hc, hf⟩ := oi_b hf
  refine k_i0 (S' := S3) (r := r4) w (runV (As := [.int v1]) (rest := []) (kb := 80) F w (k_X9_clear l x S1 v1 hc H.size) cy_X9_clear q952 q953 q954 ⟨rfl, rfl⟩ ⟨Nat.le_of_ble_eq_true rfl, Nat.le_of_ble_eq_true rfl⟩ (by decide) rfl rfl rfl rfl hl.1 (Nat.le_of_ble_eq_true rfl) (cap_le2 hcap (by decide) (by decide)) dL_law_328) (fun H locs w => ?_)
  refine lv_istore (lv' := [(6, .int r4), (5, .int r2), (0, .ref b), (1, .ref (x.2.2 (79))), (2, .ref (x.2.2 (80))), (3, .ref (x.2.2 (87))), (4, .int x4)]) F.1 F.2.1 dL_law_331 hl (by decide) rfl (fun ls hl => ?_)
  refine lv_aload_n F.1 F.2.1 dL_law_333 rfl (lv_at hl 4 rfl) ?_
  obtain ⟨r6, S5, hc, hf⟩ := oi_b hf
  refine k_i0 (S' := S5) (r := r6) w (runV (As := []) (rest := []) (kb := 80) F w (k_X9_thrown l x S3 hc H.size) cy_X9_thrown q894 q895 q896 ⟨rfl, rfl⟩ ⟨Nat.le_of_ble_eq_true rfl, Nat.le_of_ble_eq_true rfl⟩ (by decide) rfl rfl rfl rfl hl.1 (Nat.le_of_ble_eq_true rfl) (cap_le2 hcap (by decide) (by decide)) dL_law_334) (fun H locs w => ?_)
  refine lv_iload F.1 F.2.1 dL_law_337 (lv_at hl 1 rfl) ?_
  refine lv_icmp_eq (tgt := 344) F.1 F.2.1 dL_law_339 (by decide) (fun c7 => ?_) (fun c7 => ?_)
  · replace hf := oi_t hf c7
    refine lv_iload F.1 F.2.1 dL_law_344 (lv_at hl 1 rfl) ?_
    refine lv_if_ne (tgt := 361) F.1 F.2.1 dL_law_346 (by decide) (fun c8 => ?_) (fun c8 => ?_)
    · replace hf := oi_f hf c8
      refine lv_goto (tgt := 2071) F.1 F.2.1 dL_law_361 (by decide) ?_
      have hS := oi_s hf
      subst hS
      refine W.widen (k := kc + 8) (n := ks + 48) (by omega) (by omega) ?_
      exact hnext _ _ _ w (lv_sub hl [2, 3, 4, 5, 6] rfl)
    · replace hf := oi_t hf c8
      refine lv_aload_n F.1 F.2.1 dL_law_349 rfl (lv_at hl 5 rfl) ?_
      refine lv_iconst (v := 0) F.1 F.2.1 dL_law_350 (by decide) ?_
      refine r_lald F w (k := 87) (n := 1) (f := al S5 5) (by decide) rfl (by decide) dL_law_351 ?_
      refine lv_iload F.1 F.2.1 dL_law_352 (lv_at hl 0 rfl) ?_
      refine lv_i2l (v := Int32.toInt64 r4) F.1 F.2.1 dL_law_354 rfl ?_
      refine W.lcmp F.1 F.2.1 dL_law_355 ?_
      refine lv_if_eq (tgt := 361) F.1 F.2.1 dL_law_356 (by decide) (fun c9 => ?_) (fun c9 => ?_)
      · replace hf := oi_t hf c9
        refine lv_goto (tgt := 2071) F.1 F.2.1 dL_law_361 (by decide) ?_
        have hS := oi_s hf
        subst hS
        refine W.widen (k := kc + 8) (n := ks + 48) (by omega) (by omega) ?_
        exact hnext _ _ _ w (lv_sub hl [2, 3, 4, 5, 6] rfl)
      · replace hf := oi_f hf c9
        cases hf
  · replace hf := oi_f hf c7
    cases hf
def g_copy (S : ST) (v1 : Int32) (v2 : Int32) : Option ST := oB (f_L_copy S v1 v2) (fun (r2 : Int32) (S1 : ST) => oB (f_X9_copy S1 v1 v2) (fun (r4 : Int32) (S3 : ST) => oB (f_X9_thrown S3) (fun (r6 : Int32) (S5 : ST) => (if r6 = r2 then (if r2 = 0 then (if (lg_cmp (al S5 5 (Int32.toNatClampNeg 0)) (Int32.toInt64 r4)) = 0 then some S5 else none) else some S5) else none))))
set_option maxHeartbeats 4000000 in
set_option maxRecDepth 100000 in
theorem lc_copy {p : Program} {l : Launch} {e : Env} {s : State} {m : MethodId} {below : List Frame} {meth : Method} {c : Code} {x : CX} {b L : Nat} {xs : Nat → Int32} {ret : Option FieldType} {Q : State → Prop} (F : MF p m meth c cL_law 7 s #[Value.ref b] RL ret) (hX : va_X b L xs s s.heap) (hbl : b < s.heap.size) (hbA : ¬ AA x s.heap.size b) (hls : l.stackTraces = false) {kc ks : Nat} (hcap : kc + 8 ≤ 601024 ∧ ks + 48 ≤ 7293034) {S S' : ST} {H : Heap} {locs : List Loc} {ls : Array Slot} (w : WD x s S H locs) {x4 : Int32} {v1 : Int32} (g1 : vp_in (x4 + 1) L) (e1 : xs (x4 + 1).toNatClampNeg = v1) {v2 : Int32} (g2 : vp_in (x4 + 2) L) (e2 : xs (x4 + 2).toNatClampNeg = v2) (hl : lv_has ls 7 [(0, .ref b), (1, .ref (x.2.2 79)), (2, .ref (x.2.2 80)), (3, .ref (x.2.2 87)), (4, .int x4)]) (hf : g_copy S v1 v2 = some S') (hnext : ∀ (H : Heap) (locs : List Loc) (ls : Array Slot), WD x s S' H locs → lv_has ls 7 [(0, .ref b), (1, .ref (x.2.2 79)), (2, .ref (x.2.2 80)), (3, .ref (x.2.2 87)), (4, .int x4)] → W p l e room_1 s m #[Value.ref b] below meth c H locs (kc + 8) (ks + 48) Q (F0 m 2071 ls [])) : W p l e room_1 s m #[Value.ref b] below meth c H locs kc ks Q (F0 m 364 ls []) := by
  unfold g_copy at hf
  refine lv_aload_n F.1 F.2.1 dL_law_364 rfl (lv_at hl 1 rfl) ?_
  refine lv_aload_n F.1 F.2.1 dL_law_365 rfl (lv_at hl 0 rfl) ?_
  refine lv_iload F.1 F.2.1 dL_law_366 (lv_at hl 4 rfl) ?_
  refine lv_iconst (v := 1) F.1 F.2.1 dL_law_368 (by decide) ?_
  refine lv_iadd F.1 F.2.1 dL_law_369 ?_
  refine va_sld F.1 F.2.1 hX hbl hbA w.S g1 dL_law_370 ?_
  rw [e1]
  refine lv_aload_n F.1 F.2.1 dL_law_371 rfl (lv_at hl 0 rfl) ?_
  refine lv_iload F.1 F.2.1 dL_law_372 (lv_at hl 4 rfl) ?_
  refine lv_iconst (v := 2) F.1 F.2.1 dL_law_374 (by decide) ?_
  refine lv_iadd F.1 F.2.1 dL_law_375 ?_
  refine va_sld F.1 F.2.1 hX hbl hbA w.S g2 dL_law_376 ?_
  rw [e2]
  refine lv_aload_n F.1 F.2.1 dL_law_377 rfl (lv_at hl 3 rfl) ?_
  obtain ⟨r2, S1, hc, hf⟩ := oi_b hf
  refine k_i (S' := S1) (r := r2) w (runSW (As := [.ref (x.2.2 (79)), .int v1, .int v2, .ref (x.2.2 (87))]) (rest := []) F w (k_L_copy l x S v1 v2 hc hls H.size) cyw_copy q505 q506 ⟨rfl, rfl⟩ ⟨Nat.le_of_ble_eq_true rfl, Nat.le_of_ble_eq_true rfl⟩ rfl rfl hl.1 (Nat.le_of_ble_eq_true rfl) (cap_le hcap (by decide) (by decide)) dL_law_378) (fun H locs w => ?_)
  refine lv_istore (lv' := [(5, .int r2), (0, .ref b), (1, .ref (x.2.2 (79))), (2, .ref (x.2.2 (80))), (3, .ref (x.2.2 (87))), (4, .int x4)]) F.1 F.2.1 dL_law_381 hl (by decide) rfl (fun ls hl => ?_)
  refine lv_aload_n F.1 F.2.1 dL_law_383 rfl (lv_at hl 3 rfl) ?_
  refine lv_aload_n F.1 F.2.1 dL_law_384 rfl (lv_at hl 1 rfl) ?_
  refine lv_iload F.1 F.2.1 dL_law_385 (lv_at hl 5 rfl) ?_
  refine lv_iconst (v := 1) F.1 F.2.1 dL_law_387 (by decide) ?_
  refine lv_iadd F.1 F.2.1 dL_law_388 ?_
  refine va_sld F.1 F.2.1 hX hbl hbA w.S g1 dL_law_389 ?_
  rw [e1]
  refine lv_aload_n F.1 F.2.1 dL_law_390 rfl (lv_at hl 1 rfl) ?_
  refine lv_iload F.1 F.2.1 dL_law_391 (lv_at hl 5 rfl) ?_
  refine lv_iconst (v := 2) F.1 F.2.1 dL_law_393 (by decide) ?_
  refine lv_iadd F.1 F.2.1 dL_law_394 ?_
  refine va_sld F.1 F.2.1 hX hbl hbA w.S g2 dL_law_395 ?_
  rw [e2]
  obtain ⟨r4, S3, hc, hf⟩ := oi_b hf
  refine k_i0 (S' := S3) (r := r4) w (runV (As := [.int v1, .int v2]) (rest := []) (kb := 80) F w (k_X9_copy l x S1 v1 v2 hc H.size) cy_X9_copy q956 q957 q958 ⟨rfl, rfl⟩ ⟨Nat.le_of_ble_eq_true rfl, Nat.le_of_ble_eq_true rfl⟩ (by decide) rfl rfl rfl rfl hl.1 (Nat.le_of_ble_eq_true rfl) (cap_le2 hcap (by decide) (by decide)) dL_law_396) (fun H locs w => ?_)
  refine lv_istore (lv' := [(6, .int r4), (5, .int r2), (0, .ref b), (1, .ref (x.2.2 (79))), (2, .ref (x.2.2 (80))), (3, .ref (x.2.2 (87))), (4, .int x4)]) F.1 F.2.1 dL_law_399 hl (by decide) rfl (fun ls hl => ?_)
  refine lv_aload_n F.1 F.2.1 dL_law_401 rfl (lv_at hl 4 rfl) ?_
  obtain ⟨r6, S5, hc, hf⟩ := oi_b hf
  refine k_i0 (S' := S5) (r := r6) w (runV (As := []) (rest := []) (kb := 80) F w (k_X9_thrown l x S3 hc H.size) cy_X9_thrown q894 q895 q896 ⟨rfl, rfl⟩ ⟨Nat.le_of_ble_eq_true rfl, Nat.le_of_ble_eq_true rfl⟩ (by decide) rfl rfl rfl rfl hl.1 (Nat.le_of_ble_eq_true rfl) (cap_le2 hcap (by decide) (by decide)) dL_law_402) (fun H locs w => ?_)
  refine lv_iload F.1 F.2.1 dL_law_405 (lv_at hl 1 rfl) ?_
  refine lv_icmp_eq (tgt := 412) F.1 F.2.1 dL_law_407 (by decide) (fun c7 => ?_) (fun c7 => ?_)
  · replace hf := oi_t hf c7
    refine lv_iload F.1 F.2.1 dL_law_412 (lv_at hl 1 rfl) ?_
    refine lv_if_ne (tgt := 429) F.1 F.2.1 dL_law_414 (by decide) (fun c8 => ?_) (fun c8 => ?_)
    · replace hf := oi_f hf c8
      refine lv_goto (tgt := 2071) F.1 F.2.1 dL_law_429 (by decide) ?_
      have hS := oi_s hf
      subst hS
      refine W.widen (k := kc + 8) (n := ks + 48) (by omega) (by omega) ?_
      exact hnext _ _ _ w (lv_sub hl [2, 3, 4, 5, 6] rfl)
    · replace hf := oi_t hf c8
      refine lv_aload_n F.1 F.2.1 dL_law_417 rfl (lv_at hl 5 rfl) ?_
      refine lv_iconst (v := 0) F.1 F.2.1 dL_law_418 (by decide) ?_
      refine r_lald F w (k := 87) (n := 1) (f := al S5 5) (by decide) rfl (by decide) dL_law_419 ?_
      refine lv_iload F.1 F.2.1 dL_law_420 (lv_at hl 0 rfl) ?_
      refine lv_i2l (v := Int32.toInt64 r4) F.1 F.2.1 dL_law_422 rfl ?_
      refine W.lcmp F.1 F.2.1 dL_law_423 ?_
      refine lv_if_eq (tgt := 429) F.1 F.2.1 dL_law_424 (by decide) (fun c9 => ?_) (fun c9 => ?_)
      · replace hf := oi_t hf c9
        refine lv_goto (tgt := 2071) F.1 F.2.1 dL_law_429 (by decide) ?_
        have hS := oi_s hf
        subst hS
        refine W.widen (k := kc + 8) (n := ks + 48) (by omega) (by omega) ?_
        exact hnext _ _ _ w (lv_sub hl [2, 3, 4, 5, 6] rfl)
      · replace hf := oi_f hf c9
        cases hf
  · replace hf := oi_f hf c7
    cases hf
def g_size (S : ST) (v1 : Int32) : Option ST := oB (f_L_size S v1) (fun (r2 : Int32) (S1 : ST) => oB (f_X9_size S1 v1) (fun (r4 : Int32) (S3 : ST) => oB (f_X9_thrown S3) (fun (r6 : Int32) (S5 : ST) => (if r6 = r2 then (if r2 = 0 then (if (lg_cmp (al S5 5 (Int32.toNatClampNeg 0)) (Int32.toInt64 r4)) = 0 then some S5 else none) else some S5) else none))))
set_option maxHeartbeats 4000000 in
set_option maxRecDepth 100000 in
theorem lc_size {p : Program} {l : Launch} {e : Env} {s : State} {m : MethodId} {below : List Frame} {meth : Method} {c : Code} {x : CX} {b L : Nat} {xs : Nat → Int32} {ret : Option FieldType} {Q : State → Prop} (F : MF p m meth c cL_law 7 s #[Value.ref b] RL ret) (hX : va_X b L xs s s.heap) (hbl : b < s.heap.size) (hbA : ¬ AA x s.heap.size b) (hls : l.stackTraces = false) {kc ks : Nat} (hcap : kc + 8 ≤ 601024 ∧ ks + 48 ≤ 7293034) {S S' : ST} {H : Heap} {locs : List Loc} {ls : Array Slot} (w : WD x s S H locs) {x4 : Int32} {v1 : Int32} (g1 : vp_in (x4 + 1) L) (e1 : xs (x4 + 1).toNatClampNeg = v1) (hl : lv_has ls 7 [(0, .ref b), (1, .ref (x.2.2 79)), (2, .ref (x.2.2 80)), (3, .ref (x.2.2 87)), (4, .int x4)]) (hf : g_size S v1 = some S') (hnext : ∀ (H : Heap) (locs : List Loc) (ls : Array Slot), WD x s S' H locs → lv_has ls 7 [(0, .ref b), (1, .ref (x.2.2 79)), (2, .ref (x.2.2 80)), (3, .ref (x.2.2 87)), (4, .int x4)] → W p l e room_1 s m #[Value.ref b] below meth c H locs (kc + 8) (ks + 48) Q (F0 m 2071 ls [])) : W p l e room_1 s m #[Value.ref b] below meth c H locs kc ks Q (F0 m 432 ls []) := by
  unfold g_size at hf
  refine lv_aload_n F.1 F.2.1 dL_law_432 rfl (lv_at hl 1 rfl) ?_
  refine lv_aload_n F.1 F.2.1 dL_law_433 rfl (lv_at hl 0 rfl) ?_
  refine lv_iload F.1 F.2.1 dL_law_434 (lv_at hl 4 rfl) ?_
  refine lv_iconst (v := 1) F.1 F.2.1 dL_law_436 (by decide) ?_
  refine lv_iadd F.1 F.2.1 dL_law_437 ?_
  refine va_sld F.1 F.2.1 hX hbl hbA w.S g1 dL_law_438 ?_
  rw [e1]
  refine lv_aload_n F.1 F.2.1 dL_law_439 rfl (lv_at hl 3 rfl) ?_
  obtain ⟨r2, S1, hc, hf⟩ := oi_b hf
  refine k_i (S' := S1) (r := r2) w (runSW (As := [.ref (x.2.2 (79)), .int v1, .ref (x.2.2 (87))]) (rest := []) F w (k_L_size l x S v1 hc hls H.size) cyw_size q512 q513 ⟨rfl, rfl⟩ ⟨Nat.le_of_ble_eq_true rfl, Nat.le_of_ble_eq_true rfl⟩ rfl rfl hl.1 (Nat.le_of_ble_eq_true rfl) (cap_le hcap (by decide) (by decide)) dL_law_440) (fun H locs w => ?_)
  refine lv_istore (lv' := [(5, .int r2), (0, .ref b), (1, .ref (x.2.2 (79))), (2, .ref (x.2.2 (80))), (3, .ref (x.2.2 (87))), (4, .int x4)]) F.1 F.2.1 dL_law_443 hl (by decide) rfl (fun ls hl => ?_)
  refine lv_aload_n F.1 F.2.1 dL_law_445 rfl (lv_at hl 3 rfl) ?_
  refine lv_aload_n F.1 F.2.1 dL_law_446 rfl (lv_at hl 1 rfl) ?_
  refine lv_iload F.1 F.2.1 dL_law_447 (lv_at hl 5 rfl) ?_
  refine lv_iconst (v := 1) F.1 F.2.1 dL_law_449 (by decide) ?_
  refine lv_iadd F.1 F.2.1 dL_law_450 ?_
  refine va_sld F.1 F.2.1 hX hbl hbA w.S g1 dL_law_451 ?_
  rw [e1]
  obtain ⟨r4, S3, hc, hf⟩ := oi_b hf
  refine k_i0 (S' := S3) (r := r4) w (runV (As := [.int v1]) (rest := []) (kb := 80) F w (k_X9_size l x S1 v1 hc H.size) cy_X9_size q960 q961 q962 ⟨rfl, rfl⟩ ⟨Nat.le_of_ble_eq_true rfl, Nat.le_of_ble_eq_true rfl⟩ (by decide) rfl rfl rfl rfl hl.1 (Nat.le_of_ble_eq_true rfl) (cap_le2 hcap (by decide) (by decide)) dL_law_452) (fun H locs w => ?_)
  refine lv_istore (lv' := [(6, .int r4), (5, .int r2), (0, .ref b), (1, .ref (x.2.2 (79))), (2, .ref (x.2.2 (80))), (3, .ref (x.2.2 (87))), (4, .int x4)]) F.1 F.2.1 dL_law_455 hl (by decide) rfl (fun ls hl => ?_)
  refine lv_aload_n F.1 F.2.1 dL_law_457 rfl (lv_at hl 4 rfl) ?_
  obtain ⟨r6, S5, hc, hf⟩ := oi_b hf
  refine k_i0 (S' := S5) (r := r6) w (runV (As := []) (rest := []) (kb := 80) F w (k_X9_thrown l x S3 hc H.size) cy_X9_thrown q894 q895 q896 ⟨rfl, rfl⟩ ⟨Nat.le_of_ble_eq_true rfl, Nat.le_of_ble_eq_true rfl⟩ (by decide) rfl rfl rfl rfl hl.1 (Nat.le_of_ble_eq_true rfl) (cap_le2 hcap (by decide) (by decide)) dL_law_458) (fun H locs w => ?_)
  refine lv_iload F.1 F.2.1 dL_law_461 (lv_at hl 1 rfl) ?_
  refine lv_icmp_eq (tgt := 468) F.1 F.2.1 dL_law_463 (by decide) (fun c7 => ?_) (fun c7 => ?_)
  · replace hf := oi_t hf c7
    refine lv_iload F.1 F.2.1 dL_law_468 (lv_at hl 1 rfl) ?_
    refine lv_if_ne (tgt := 485) F.1 F.2.1 dL_law_470 (by decide) (fun c8 => ?_) (fun c8 => ?_)
    · replace hf := oi_f hf c8
      refine lv_goto (tgt := 2071) F.1 F.2.1 dL_law_485 (by decide) ?_
      have hS := oi_s hf
      subst hS
      refine W.widen (k := kc + 8) (n := ks + 48) (by omega) (by omega) ?_
      exact hnext _ _ _ w (lv_sub hl [2, 3, 4, 5, 6] rfl)
    · replace hf := oi_t hf c8
      refine lv_aload_n F.1 F.2.1 dL_law_473 rfl (lv_at hl 5 rfl) ?_
      refine lv_iconst (v := 0) F.1 F.2.1 dL_law_474 (by decide) ?_
      refine r_lald F w (k := 87) (n := 1) (f := al S5 5) (by decide) rfl (by decide) dL_law_475 ?_
      refine lv_iload F.1 F.2.1 dL_law_476 (lv_at hl 0 rfl) ?_
      refine lv_i2l (v := Int32.toInt64 r4) F.1 F.2.1 dL_law_478 rfl ?_
      refine W.lcmp F.1 F.2.1 dL_law_479 ?_
      refine lv_if_eq (tgt := 485) F.1 F.2.1 dL_law_480 (by decide) (fun c9 => ?_) (fun c9 => ?_)
      · replace hf := oi_t hf c9
        refine lv_goto (tgt := 2071) F.1 F.2.1 dL_law_485 (by decide) ?_
        have hS := oi_s hf
        subst hS
        refine W.widen (k := kc + 8) (n := ks + 48) (by omega) (by omega) ?_
        exact hnext _ _ _ w (lv_sub hl [2, 3, 4, 5, 6] rfl)
      · replace hf := oi_f hf c9
        cases hf
  · replace hf := oi_f hf c7
    cases hf
def g_mark (S : ST) (v1 : Int32) (v2 : Int32) : Option ST := oB (f_L_mark S v1 v2) (fun (r2 : Int32) (S1 : ST) => oB (f_X9_mark S1 v1 v2) (fun (r4 : Int32) (S3 : ST) => oB (f_X9_thrown S3) (fun (r6 : Int32) (S5 : ST) => (if r6 = r2 then (if r2 = 0 then (if (lg_cmp (al S5 5 (Int32.toNatClampNeg 0)) (Int32.toInt64 r4)) = 0 then some S5 else none) else some S5) else none))))
set_option maxHeartbeats 4000000 in
set_option maxRecDepth 100000 in
theorem lc_mark {p : Program} {l : Launch} {e : Env} {s : State} {m : MethodId} {below : List Frame} {meth : Method} {c : Code} {x : CX} {b L : Nat} {xs : Nat → Int32} {ret : Option FieldType} {Q : State → Prop} (F : MF p m meth c cL_law 7 s #[Value.ref b] RL ret) (hX : va_X b L xs s s.heap) (hbl : b < s.heap.size) (hbA : ¬ AA x s.heap.size b) (hls : l.stackTraces = false) {kc ks : Nat} (hcap : kc + 8 ≤ 601024 ∧ ks + 48 ≤ 7293034) {S S' : ST} {H : Heap} {locs : List Loc} {ls : Array Slot} (w : WD x s S H locs) {x4 : Int32} {v1 : Int32} (g1 : vp_in (x4 + 1) L) (e1 : xs (x4 + 1).toNatClampNeg = v1) {v2 : Int32} (g2 : vp_in (x4 + 2) L) (e2 : xs (x4 + 2).toNatClampNeg = v2) (hl : lv_has ls 7 [(0, .ref b), (1, .ref (x.2.2 79)), (2, .ref (x.2.2 80)), (3, .ref (x.2.2 87)), (4, .int x4)]) (hf : g_mark S v1 v2 = some S') (hnext : ∀ (H : Heap) (locs : List Loc) (ls : Array Slot), WD x s S' H locs → lv_has ls 7 [(0, .ref b), (1, .ref (x.2.2 79)), (2, .ref (x.2.2 80)), (3, .ref (x.2.2 87)), (4, .int x4)] → W p l e room_1 s m #[Value.ref b] below meth c H locs (kc + 8) (ks + 48) Q (F0 m 2071 ls [])) : W p l e room_1 s m #[Value.ref b] below meth c H locs kc ks Q (F0 m 488 ls []) := by
  unfold g_mark at hf
  refine lv_aload_n F.1 F.2.1 dL_law_488 rfl (lv_at hl 1 rfl) ?_
  refine lv_aload_n F.1 F.2.1 dL_law_489 rfl (lv_at hl 0 rfl) ?_
  refine lv_iload F.1 F.2.1 dL_law_490 (lv_at hl 4 rfl) ?_
  refine lv_iconst (v := 1) F.1 F.2.1 dL_law_492 (by decide) ?_
  refine lv_iadd F.1 F.2.1 dL_law_493 ?_
  refine va_sld F.1 F.2.1 hX hbl hbA w.S g1 dL_law_494 ?_
  rw [e1]
  refine lv_aload_n F.1 F.2.1 dL_law_495 rfl (lv_at hl 0 rfl) ?_
  refine lv_iload F.1 F.2.1 dL_law_496 (lv_at hl 4 rfl) ?_
  refine lv_iconst (v := 2) F.1 F.2.1 dL_law_498 (by decide) ?_
  refine lv_iadd F.1 F.2.1 dL_law_499 ?_
  refine va_sld F.1 F.2.1 hX hbl hbA w.S g2 dL_law_500 ?_
  rw [e2]
  refine lv_aload_n F.1 F.2.1 dL_law_501 rfl (lv_at hl 3 rfl) ?_
  obtain ⟨r2, S1, hc, hf⟩ := oi_b hf
  refine k_i (S' := S1) (r := r2) w (runSW (As := [.ref (x.2.2 (79)), .int v1, .int v2, .ref (x.2.2 (87))]) (rest := []) F w (k_L_mark l x S v1 v2 hc hls H.size) cyw_mark q519 q520 ⟨rfl, rfl⟩ ⟨Nat.le_of_ble_eq_true rfl, Nat.le_of_ble_eq_true rfl⟩ rfl rfl hl.1 (Nat.le_of_ble_eq_true rfl) (cap_le hcap (by decide) (by decide)) dL_law_502) (fun H locs w => ?_)
  refine lv_istore (lv' := [(5, .int r2), (0, .ref b), (1, .ref (x.2.2 (79))), (2, .ref (x.2.2 (80))), (3, .ref (x.2.2 (87))), (4, .int x4)]) F.1 F.2.1 dL_law_505 hl (by decide) rfl (fun ls hl => ?_)
  refine lv_aload_n F.1 F.2.1 dL_law_507 rfl (lv_at hl 3 rfl) ?_
  refine lv_aload_n F.1 F.2.1 dL_law_508 rfl (lv_at hl 1 rfl) ?_
  refine lv_iload F.1 F.2.1 dL_law_509 (lv_at hl 5 rfl) ?_
  refine lv_iconst (v := 1) F.1 F.2.1 dL_law_511 (by decide) ?_
  refine lv_iadd F.1 F.2.1 dL_law_512 ?_
  refine va_sld F.1 F.2.1 hX hbl hbA w.S g1 dL_law_513 ?_
  rw [e1]
  refine lv_aload_n F.1 F.2.1 dL_law_514 rfl (lv_at hl 1 rfl) ?_
  refine lv_iload F.1 F.2.1 dL_law_515 (lv_at hl 5 rfl) ?_
  refine lv_iconst (v := 2) F.1 F.2.1 dL_law_517 (by decide) ?_
  refine lv_iadd F.1 F.2.1 dL_law_518 ?_
  refine va_sld F.1 F.2.1 hX hbl hbA w.S g2 dL_law_519 ?_
  rw [e2]
  obtain ⟨r4, S3, hc, hf⟩ := oi_b hf
  refine k_i0 (S' := S3) (r := r4) w (runV (As := [.int v1, .int v2]) (rest := []) (kb := 80) F w (k_X9_mark l x S1 v1 v2 hc H.size) cy_X9_mark q964 q965 q966 ⟨rfl, rfl⟩ ⟨Nat.le_of_ble_eq_true rfl, Nat.le_of_ble_eq_true rfl⟩ (by decide) rfl rfl rfl rfl hl.1 (Nat.le_of_ble_eq_true rfl) (cap_le2 hcap (by decide) (by decide)) dL_law_520) (fun H locs w => ?_)
  refine lv_istore (lv' := [(6, .int r4), (5, .int r2), (0, .ref b), (1, .ref (x.2.2 (79))), (2, .ref (x.2.2 (80))), (3, .ref (x.2.2 (87))), (4, .int x4)]) F.1 F.2.1 dL_law_523 hl (by decide) rfl (fun ls hl => ?_)
  refine lv_aload_n F.1 F.2.1 dL_law_525 rfl (lv_at hl 4 rfl) ?_
  obtain ⟨r6, S5, hc, hf⟩ := oi_b hf
  refine k_i0 (S' := S5) (r := r6) w (runV (As := []) (rest := []) (kb := 80) F w (k_X9_thrown l x S3 hc H.size) cy_X9_thrown q894 q895 q896 ⟨rfl, rfl⟩ ⟨Nat.le_of_ble_eq_true rfl, Nat.le_of_ble_eq_true rfl⟩ (by decide) rfl rfl rfl rfl hl.1 (Nat.le_of_ble_eq_true rfl) (cap_le2 hcap (by decide) (by decide)) dL_law_526) (fun H locs w => ?_)
  refine lv_iload F.1 F.2.1 dL_law_529 (lv_at hl 1 rfl) ?_
  refine lv_icmp_eq (tgt := 536) F.1 F.2.1 dL_law_531 (by decide) (fun c7 => ?_) (fun c7 => ?_)
  · replace hf := oi_t hf c7
    refine lv_iload F.1 F.2.1 dL_law_536 (lv_at hl 1 rfl) ?_
    refine lv_if_ne (tgt := 553) F.1 F.2.1 dL_law_538 (by decide) (fun c8 => ?_) (fun c8 => ?_)
    · replace hf := oi_f hf c8
      refine lv_goto (tgt := 2071) F.1 F.2.1 dL_law_553 (by decide) ?_
      have hS := oi_s hf
      subst hS
      refine W.widen (k := kc + 8) (n := ks + 48) (by omega) (by omega) ?_
      exact hnext _ _ _ w (lv_sub hl [2, 3, 4, 5, 6] rfl)
    · replace hf := oi_t hf c8
      refine lv_aload_n F.1 F.2.1 dL_law_541 rfl (lv_at hl 5 rfl) ?_
      refine lv_iconst (v := 0) F.1 F.2.1 dL_law_542 (by decide) ?_
      refine r_lald F w (k := 87) (n := 1) (f := al S5 5) (by decide) rfl (by decide) dL_law_543 ?_
      refine lv_iload F.1 F.2.1 dL_law_544 (lv_at hl 0 rfl) ?_
      refine lv_i2l (v := Int32.toInt64 r4) F.1 F.2.1 dL_law_546 rfl ?_
      refine W.lcmp F.1 F.2.1 dL_law_547 ?_
      refine lv_if_eq (tgt := 553) F.1 F.2.1 dL_law_548 (by decide) (fun c9 => ?_) (fun c9 => ?_)
      · replace hf := oi_t hf c9
        refine lv_goto (tgt := 2071) F.1 F.2.1 dL_law_553 (by decide) ?_
        have hS := oi_s hf
        subst hS
        refine W.widen (k := kc + 8) (n := ks + 48) (by omega) (by omega) ?_
        exact hnext _ _ _ w (lv_sub hl [2, 3, 4, 5, 6] rfl)
      · replace hf := oi_f hf c9
        cases hf
  · replace hf := oi_f hf c7
    cases hf
def g_length (S : ST) (v1 : Int32) : Option ST := oB (f_L_length S v1) (fun (r2 : Int32) (S1 : ST) => oB (f_X9_length S1 v1) (fun (r4 : Int32) (S3 : ST) => oB (f_X9_thrown S3) (fun (r6 : Int32) (S5 : ST) => (if r6 = r2 then (if r2 = 0 then (if (lg_cmp (al S5 5 (Int32.toNatClampNeg 0)) (Int32.toInt64 r4)) = 0 then some S5 else none) else some S5) else none))))
set_option maxHeartbeats 4000000 in
set_option maxRecDepth 100000 in
theorem lc_length {p : Program} {l : Launch} {e : Env} {s : State} {m : MethodId} {below : List Frame} {meth : Method} {c : Code} {x : CX} {b L : Nat} {xs : Nat → Int32} {ret : Option FieldType} {Q : State → Prop} (F : MF p m meth c cL_law 7 s #[Value.ref b] RL ret) (hX : va_X b L xs s s.heap) (hbl : b < s.heap.size) (hbA : ¬ AA x s.heap.size b) (hls : l.stackTraces = false) {kc ks : Nat} (hcap : kc + 8 ≤ 601024 ∧ ks + 48 ≤ 7293034) {S S' : ST} {H : Heap} {locs : List Loc} {ls : Array Slot} (w : WD x s S H locs) {x4 : Int32} {v1 : Int32} (g1 : vp_in (x4 + 1) L) (e1 : xs (x4 + 1).toNatClampNeg = v1) (hl : lv_has ls 7 [(0, .ref b), (1, .ref (x.2.2 79)), (2, .ref (x.2.2 80)), (3, .ref (x.2.2 87)), (4, .int x4)]) (hf : g_length S v1 = some S') (hnext : ∀ (H : Heap) (locs : List Loc) (ls : Array Slot), WD x s S' H locs → lv_has ls 7 [(0, .ref b), (1, .ref (x.2.2 79)), (2, .ref (x.2.2 80)), (3, .ref (x.2.2 87)), (4, .int x4)] → W p l e room_1 s m #[Value.ref b] below meth c H locs (kc + 8) (ks + 48) Q (F0 m 2071 ls [])) : W p l e room_1 s m #[Value.ref b] below meth c H locs kc ks Q (F0 m 556 ls []) := by
  unfold g_length at hf
  refine lv_aload_n F.1 F.2.1 dL_law_556 rfl (lv_at hl 1 rfl) ?_
  refine lv_aload_n F.1 F.2.1 dL_law_557 rfl (lv_at hl 0 rfl) ?_
  refine lv_iload F.1 F.2.1 dL_law_558 (lv_at hl 4 rfl) ?_
  refine lv_iconst (v := 1) F.1 F.2.1 dL_law_560 (by decide) ?_
  refine lv_iadd F.1 F.2.1 dL_law_561 ?_
  refine va_sld F.1 F.2.1 hX hbl hbA w.S g1 dL_law_562 ?_
  rw [e1]
  refine lv_aload_n F.1 F.2.1 dL_law_563 rfl (lv_at hl 3 rfl) ?_
  obtain ⟨r2, S1, hc, hf⟩ := oi_b hf
  refine k_i (S' := S1) (r := r2) w (runSW (As := [.ref (x.2.2 (79)), .int v1, .ref (x.2.2 (87))]) (rest := []) F w (k_L_length l x S v1 hc hls H.size) cyw_length q527 q528 ⟨rfl, rfl⟩ ⟨Nat.le_of_ble_eq_true rfl, Nat.le_of_ble_eq_true rfl⟩ rfl rfl hl.1 (Nat.le_of_ble_eq_true rfl) (cap_le hcap (by decide) (by decide)) dL_law_564) (fun H locs w => ?_)
  refine lv_istore (lv' := [(5, .int r2), (0, .ref b), (1, .ref (x.2.2 (79))), (2, .ref (x.2.2 (80))), (3, .ref (x.2.2 (87))), (4, .int x4)]) F.1 F.2.1 dL_law_567 hl (by decide) rfl (fun ls hl => ?_)
  refine lv_aload_n F.1 F.2.1 dL_law_569 rfl (lv_at hl 3 rfl) ?_
  refine lv_aload_n F.1 F.2.1 dL_law_570 rfl (lv_at hl 1 rfl) ?_
  refine lv_iload F.1 F.2.1 dL_law_571 (lv_at hl 5 rfl) ?_
  refine lv_iconst (v := 1) F.1 F.2.1 dL_law_573 (by decide) ?_
  refine lv_iadd F.1 F.2.1 dL_law_574 ?_
  refine va_sld F.1 F.2.1 hX hbl hbA w.S g1 dL_law_575 ?_
  rw [e1]
  obtain ⟨r4, S3, hc, hf⟩ := oi_b hf
  refine k_i0 (S' := S3) (r := r4) w (runV (As := [.int v1]) (rest := []) (kb := 80) F w (k_X9_length l x S1 v1 hc H.size) cy_X9_length q968 q969 q970 ⟨rfl, rfl⟩ ⟨Nat.le_of_ble_eq_true rfl, Nat.le_of_ble_eq_true rfl⟩ (by decide) rfl rfl rfl rfl hl.1 (Nat.le_of_ble_eq_true rfl) (cap_le2 hcap (by decide) (by decide)) dL_law_576) (fun H locs w => ?_)
  refine lv_istore (lv' := [(6, .int r4), (5, .int r2), (0, .ref b), (1, .ref (x.2.2 (79))), (2, .ref (x.2.2 (80))), (3, .ref (x.2.2 (87))), (4, .int x4)]) F.1 F.2.1 dL_law_579 hl (by decide) rfl (fun ls hl => ?_)
  refine lv_aload_n F.1 F.2.1 dL_law_581 rfl (lv_at hl 4 rfl) ?_
  obtain ⟨r6, S5, hc, hf⟩ := oi_b hf
  refine k_i0 (S' := S5) (r := r6) w (runV (As := []) (rest := []) (kb := 80) F w (k_X9_thrown l x S3 hc H.size) cy_X9_thrown q894 q895 q896 ⟨rfl, rfl⟩ ⟨Nat.le_of_ble_eq_true rfl, Nat.le_of_ble_eq_true rfl⟩ (by decide) rfl rfl rfl rfl hl.1 (Nat.le_of_ble_eq_true rfl) (cap_le2 hcap (by decide) (by decide)) dL_law_582) (fun H locs w => ?_)
  refine lv_iload F.1 F.2.1 dL_law_585 (lv_at hl 1 rfl) ?_
  refine lv_icmp_eq (tgt := 592) F.1 F.2.1 dL_law_587 (by decide) (fun c7 => ?_) (fun c7 => ?_)
  · replace hf := oi_t hf c7
    refine lv_iload F.1 F.2.1 dL_law_592 (lv_at hl 1 rfl) ?_
    refine lv_if_ne (tgt := 609) F.1 F.2.1 dL_law_594 (by decide) (fun c8 => ?_) (fun c8 => ?_)
    · replace hf := oi_f hf c8
      refine lv_goto (tgt := 2071) F.1 F.2.1 dL_law_609 (by decide) ?_
      have hS := oi_s hf
      subst hS
      refine W.widen (k := kc + 8) (n := ks + 48) (by omega) (by omega) ?_
      exact hnext _ _ _ w (lv_sub hl [2, 3, 4, 5, 6] rfl)
    · replace hf := oi_t hf c8
      refine lv_aload_n F.1 F.2.1 dL_law_597 rfl (lv_at hl 5 rfl) ?_
      refine lv_iconst (v := 0) F.1 F.2.1 dL_law_598 (by decide) ?_
      refine r_lald F w (k := 87) (n := 1) (f := al S5 5) (by decide) rfl (by decide) dL_law_599 ?_
      refine lv_iload F.1 F.2.1 dL_law_600 (lv_at hl 0 rfl) ?_
      refine lv_i2l (v := Int32.toInt64 r4) F.1 F.2.1 dL_law_602 rfl ?_
      refine W.lcmp F.1 F.2.1 dL_law_603 ?_
      refine lv_if_eq (tgt := 609) F.1 F.2.1 dL_law_604 (by decide) (fun c9 => ?_) (fun c9 => ?_)
      · replace hf := oi_t hf c9
        refine lv_goto (tgt := 2071) F.1 F.2.1 dL_law_609 (by decide) ?_
        have hS := oi_s hf
        subst hS
        refine W.widen (k := kc + 8) (n := ks + 48) (by omega) (by omega) ?_
        exact hnext _ _ _ w (lv_sub hl [2, 3, 4, 5, 6] rfl)
      · replace hf := oi_f hf c9
        cases hf
  · replace hf := oi_f hf c7
    cases hf
def g_multiplicity (S : ST) (v1 : Int32) (v2 : Int32) : Option ST := oB (f_L_multiplicity S v1 v2) (fun (r2 : Int32) (S1 : ST) => oB (f_X9_multiplicity S1 v1 v2) (fun (r4 : Int32) (S3 : ST) => oB (f_X9_thrown S3) (fun (r6 : Int32) (S5 : ST) => (if r6 = r2 then (if r2 = 0 then (if (lg_cmp (al S5 5 (Int32.toNatClampNeg 0)) (Int32.toInt64 r4)) = 0 then some S5 else none) else some S5) else none))))
set_option maxHeartbeats 4000000 in
set_option maxRecDepth 100000 in
theorem lc_multiplicity {p : Program} {l : Launch} {e : Env} {s : State} {m : MethodId} {below : List Frame} {meth : Method} {c : Code} {x : CX} {b L : Nat} {xs : Nat → Int32} {ret : Option FieldType} {Q : State → Prop} (F : MF p m meth c cL_law 7 s #[Value.ref b] RL ret) (hX : va_X b L xs s s.heap) (hbl : b < s.heap.size) (hbA : ¬ AA x s.heap.size b) (hls : l.stackTraces = false) {kc ks : Nat} (hcap : kc + 8 ≤ 601024 ∧ ks + 48 ≤ 7293034) {S S' : ST} {H : Heap} {locs : List Loc} {ls : Array Slot} (w : WD x s S H locs) {x4 : Int32} {v1 : Int32} (g1 : vp_in (x4 + 1) L) (e1 : xs (x4 + 1).toNatClampNeg = v1) {v2 : Int32} (g2 : vp_in (x4 + 2) L) (e2 : xs (x4 + 2).toNatClampNeg = v2) (hl : lv_has ls 7 [(0, .ref b), (1, .ref (x.2.2 79)), (2, .ref (x.2.2 80)), (3, .ref (x.2.2 87)), (4, .int x4)]) (hf : g_multiplicity S v1 v2 = some S') (hnext : ∀ (H : Heap) (locs : List Loc) (ls : Array Slot), WD x s S' H locs → lv_has ls 7 [(0, .ref b), (1, .ref (x.2.2 79)), (2, .ref (x.2.2 80)), (3, .ref (x.2.2 87)), (4, .int x4)] → W p l e room_1 s m #[Value.ref b] below meth c H locs (kc + 8) (ks + 48) Q (F0 m 2071 ls [])) : W p l e room_1 s m #[Value.ref b] below meth c H locs kc ks Q (F0 m 612 ls []) := by
  unfold g_multiplicity at hf
  refine lv_aload_n F.1 F.2.1 dL_law_612 rfl (lv_at hl 1 rfl) ?_
  refine lv_aload_n F.1 F.2.1 dL_law_613 rfl (lv_at hl 0 rfl) ?_
  refine lv_iload F.1 F.2.1 dL_law_614 (lv_at hl 4 rfl) ?_
  refine lv_iconst (v := 1) F.1 F.2.1 dL_law_616 (by decide) ?_
  refine lv_iadd F.1 F.2.1 dL_law_617 ?_
  refine va_sld F.1 F.2.1 hX hbl hbA w.S g1 dL_law_618 ?_
  rw [e1]
  refine lv_aload_n F.1 F.2.1 dL_law_619 rfl (lv_at hl 0 rfl) ?_
  refine lv_iload F.1 F.2.1 dL_law_620 (lv_at hl 4 rfl) ?_
  refine lv_iconst (v := 2) F.1 F.2.1 dL_law_622 (by decide) ?_
  refine lv_iadd F.1 F.2.1 dL_law_623 ?_
  refine va_sld F.1 F.2.1 hX hbl hbA w.S g2 dL_law_624 ?_
  rw [e2]
  refine lv_aload_n F.1 F.2.1 dL_law_625 rfl (lv_at hl 3 rfl) ?_
  obtain ⟨r2, S1, hc, hf⟩ := oi_b hf
  refine k_i (S' := S1) (r := r2) w (runSW (As := [.ref (x.2.2 (79)), .int v1, .int v2, .ref (x.2.2 (87))]) (rest := []) F w (k_L_multiplicity l x S v1 v2 hc hls H.size) cyw_multiplicity q539 q540 ⟨rfl, rfl⟩ ⟨Nat.le_of_ble_eq_true rfl, Nat.le_of_ble_eq_true rfl⟩ rfl rfl hl.1 (Nat.le_of_ble_eq_true rfl) (cap_le hcap (by decide) (by decide)) dL_law_626) (fun H locs w => ?_)
  refine lv_istore (lv' := [(5, .int r2), (0, .ref b), (1, .ref (x.2.2 (79))), (2, .ref (x.2.2 (80))), (3, .ref (x.2.2 (87))), (4, .int x4)]) F.1 F.2.1 dL_law_629 hl (by decide) rfl (fun ls hl => ?_)
  refine lv_aload_n F.1 F.2.1 dL_law_631 rfl (lv_at hl 3 rfl) ?_
  refine lv_aload_n F.1 F.2.1 dL_law_632 rfl (lv_at hl 1 rfl) ?_
  refine lv_iload F.1 F.2.1 dL_law_633 (lv_at hl 5 rfl) ?_
  refine lv_iconst (v := 1) F.1 F.2.1 dL_law_635 (by decide) ?_
  refine lv_iadd F.1 F.2.1 dL_law_636 ?_
  refine va_sld F.1 F.2.1 hX hbl hbA w.S g1 dL_law_637 ?_
  rw [e1]
  refine lv_aload_n F.1 F.2.1 dL_law_638 rfl (lv_at hl 1 rfl) ?_
  refine lv_iload F.1 F.2.1 dL_law_639 (lv_at hl 5 rfl) ?_
  refine lv_iconst (v := 2) F.1 F.2.1 dL_law_641 (by decide) ?_
  refine lv_iadd F.1 F.2.1 dL_law_642 ?_
  refine va_sld F.1 F.2.1 hX hbl hbA w.S g2 dL_law_643 ?_
  rw [e2]
  obtain ⟨r4, S3, hc, hf⟩ := oi_b hf
  refine k_i0 (S' := S3) (r := r4) w (runV (As := [.int v1, .int v2]) (rest := []) (kb := 80) F w (k_X9_multiplicity l x S1 v1 v2 hc H.size) cy_X9_multiplicity q976 q977 q978 ⟨rfl, rfl⟩ ⟨Nat.le_of_ble_eq_true rfl, Nat.le_of_ble_eq_true rfl⟩ (by decide) rfl rfl rfl rfl hl.1 (Nat.le_of_ble_eq_true rfl) (cap_le2 hcap (by decide) (by decide)) dL_law_644) (fun H locs w => ?_)
  refine lv_istore (lv' := [(6, .int r4), (5, .int r2), (0, .ref b), (1, .ref (x.2.2 (79))), (2, .ref (x.2.2 (80))), (3, .ref (x.2.2 (87))), (4, .int x4)]) F.1 F.2.1 dL_law_647 hl (by decide) rfl (fun ls hl => ?_)
  refine lv_aload_n F.1 F.2.1 dL_law_649 rfl (lv_at hl 4 rfl) ?_
  obtain ⟨r6, S5, hc, hf⟩ := oi_b hf
  refine k_i0 (S' := S5) (r := r6) w (runV (As := []) (rest := []) (kb := 80) F w (k_X9_thrown l x S3 hc H.size) cy_X9_thrown q894 q895 q896 ⟨rfl, rfl⟩ ⟨Nat.le_of_ble_eq_true rfl, Nat.le_of_ble_eq_true rfl⟩ (by decide) rfl rfl rfl rfl hl.1 (Nat.le_of_ble_eq_true rfl) (cap_le2 hcap (by decide) (by decide)) dL_law_650) (fun H locs w => ?_)
  refine lv_iload F.1 F.2.1 dL_law_653 (lv_at hl 1 rfl) ?_
  refine lv_icmp_eq (tgt := 660) F.1 F.2.1 dL_law_655 (by decide) (fun c7 => ?_) (fun c7 => ?_)
  · replace hf := oi_t hf c7
    refine lv_iload F.1 F.2.1 dL_law_660 (lv_at hl 1 rfl) ?_
    refine lv_if_ne (tgt := 677) F.1 F.2.1 dL_law_662 (by decide) (fun c8 => ?_) (fun c8 => ?_)
    · replace hf := oi_f hf c8
      refine lv_goto (tgt := 2071) F.1 F.2.1 dL_law_677 (by decide) ?_
      have hS := oi_s hf
      subst hS
      refine W.widen (k := kc + 8) (n := ks + 48) (by omega) (by omega) ?_
      exact hnext _ _ _ w (lv_sub hl [2, 3, 4, 5, 6] rfl)
    · replace hf := oi_t hf c8
      refine lv_aload_n F.1 F.2.1 dL_law_665 rfl (lv_at hl 5 rfl) ?_
      refine lv_iconst (v := 0) F.1 F.2.1 dL_law_666 (by decide) ?_
      refine r_lald F w (k := 87) (n := 1) (f := al S5 5) (by decide) rfl (by decide) dL_law_667 ?_
      refine lv_iload F.1 F.2.1 dL_law_668 (lv_at hl 0 rfl) ?_
      refine lv_i2l (v := Int32.toInt64 r4) F.1 F.2.1 dL_law_670 rfl ?_
      refine W.lcmp F.1 F.2.1 dL_law_671 ?_
      refine lv_if_eq (tgt := 677) F.1 F.2.1 dL_law_672 (by decide) (fun c9 => ?_) (fun c9 => ?_)
      · replace hf := oi_t hf c9
        refine lv_goto (tgt := 2071) F.1 F.2.1 dL_law_677 (by decide) ?_
        have hS := oi_s hf
        subst hS
        refine W.widen (k := kc + 8) (n := ks + 48) (by omega) (by omega) ?_
        exact hnext _ _ _ w (lv_sub hl [2, 3, 4, 5, 6] rfl)
      · replace hf := oi_f hf c9
        cases hf
  · replace hf := oi_f hf c7
    cases hf
def g_isRuler (S : ST) (v1 : Int32) : Option ST := oB (f_L_isRuler S v1) (fun (r2 : Int32) (S1 : ST) => oB (f_X9_isRuler S1 v1) (fun (r4 : Int32) (S3 : ST) => oB (f_X9_thrown S3) (fun (r6 : Int32) (S5 : ST) => (if r6 = r2 then (if r2 = 0 then (if r4 = 0 then (if (lg_cmp (al S5 5 (Int32.toNatClampNeg 0)) 0) = 0 then some S5 else none) else (if (lg_cmp (al S5 5 (Int32.toNatClampNeg 0)) 1) = 0 then some S5 else none)) else some S5) else none))))
set_option maxHeartbeats 4000000 in
set_option maxRecDepth 100000 in
theorem lc_isRuler {p : Program} {l : Launch} {e : Env} {s : State} {m : MethodId} {below : List Frame} {meth : Method} {c : Code} {x : CX} {b L : Nat} {xs : Nat → Int32} {ret : Option FieldType} {Q : State → Prop} (F : MF p m meth c cL_law 7 s #[Value.ref b] RL ret) (hX : va_X b L xs s s.heap) (hbl : b < s.heap.size) (hbA : ¬ AA x s.heap.size b) (hls : l.stackTraces = false) {kc ks : Nat} (hcap : kc + 8 ≤ 601024 ∧ ks + 48 ≤ 7293034) {S S' : ST} {H : Heap} {locs : List Loc} {ls : Array Slot} (w : WD x s S H locs) {x4 : Int32} {v1 : Int32} (g1 : vp_in (x4 + 1) L) (e1 : xs (x4 + 1).toNatClampNeg = v1) (hl : lv_has ls 7 [(0, .ref b), (1, .ref (x.2.2 79)), (2, .ref (x.2.2 80)), (3, .ref (x.2.2 87)), (4, .int x4)]) (hf : g_isRuler S v1 = some S') (hnext : ∀ (H : Heap) (locs : List Loc) (ls : Array Slot), WD x s S' H locs → lv_has ls 7 [(0, .ref b), (1, .ref (x.2.2 79)), (2, .ref (x.2.2 80)), (3, .ref (x.2.2 87)), (4, .int x4)] → W p l e room_1 s m #[Value.ref b] below meth c H locs (kc + 8) (ks + 48) Q (F0 m 2071 ls [])) : W p l e room_1 s m #[Value.ref b] below meth c H locs kc ks Q (F0 m 680 ls []) := by
  unfold g_isRuler at hf
  refine lv_aload_n F.1 F.2.1 dL_law_680 rfl (lv_at hl 1 rfl) ?_
  refine lv_aload_n F.1 F.2.1 dL_law_681 rfl (lv_at hl 0 rfl) ?_
  refine lv_iload F.1 F.2.1 dL_law_682 (lv_at hl 4 rfl) ?_
  refine lv_iconst (v := 1) F.1 F.2.1 dL_law_684 (by decide) ?_
  refine lv_iadd F.1 F.2.1 dL_law_685 ?_
  refine va_sld F.1 F.2.1 hX hbl hbA w.S g1 dL_law_686 ?_
  rw [e1]
  refine lv_aload_n F.1 F.2.1 dL_law_687 rfl (lv_at hl 3 rfl) ?_
  obtain ⟨r2, S1, hc, hf⟩ := oi_b hf
  refine k_i (S' := S1) (r := r2) w (runSW (As := [.ref (x.2.2 (79)), .int v1, .ref (x.2.2 (87))]) (rest := []) F w (k_L_isRuler l x S v1 hc hls H.size) cyw_isRuler q551 q552 ⟨rfl, rfl⟩ ⟨Nat.le_of_ble_eq_true rfl, Nat.le_of_ble_eq_true rfl⟩ rfl rfl hl.1 (Nat.le_of_ble_eq_true rfl) (cap_le hcap (by decide) (by decide)) dL_law_688) (fun H locs w => ?_)
  refine lv_istore (lv' := [(5, .int r2), (0, .ref b), (1, .ref (x.2.2 (79))), (2, .ref (x.2.2 (80))), (3, .ref (x.2.2 (87))), (4, .int x4)]) F.1 F.2.1 dL_law_691 hl (by decide) rfl (fun ls hl => ?_)
  refine lv_aload_n F.1 F.2.1 dL_law_693 rfl (lv_at hl 3 rfl) ?_
  refine lv_aload_n F.1 F.2.1 dL_law_694 rfl (lv_at hl 1 rfl) ?_
  refine lv_iload F.1 F.2.1 dL_law_695 (lv_at hl 5 rfl) ?_
  refine lv_iconst (v := 1) F.1 F.2.1 dL_law_697 (by decide) ?_
  refine lv_iadd F.1 F.2.1 dL_law_698 ?_
  refine va_sld F.1 F.2.1 hX hbl hbA w.S g1 dL_law_699 ?_
  rw [e1]
  obtain ⟨r4, S3, hc, hf⟩ := oi_b hf
  refine k_i0 (S' := S3) (r := r4) w (runV (As := [.int v1]) (rest := []) (kb := 80) F w (k_X9_isRuler l x S1 v1 hc H.size) cy_X9_isRuler q984 q985 q986 ⟨rfl, rfl⟩ ⟨Nat.le_of_ble_eq_true rfl, Nat.le_of_ble_eq_true rfl⟩ (by decide) rfl rfl rfl rfl hl.1 (Nat.le_of_ble_eq_true rfl) (cap_le2 hcap (by decide) (by decide)) dL_law_700) (fun H locs w => ?_)
  refine lv_istore (lv' := [(6, .int r4), (5, .int r2), (0, .ref b), (1, .ref (x.2.2 (79))), (2, .ref (x.2.2 (80))), (3, .ref (x.2.2 (87))), (4, .int x4)]) F.1 F.2.1 dL_law_703 hl (by decide) rfl (fun ls hl => ?_)
  refine lv_aload_n F.1 F.2.1 dL_law_705 rfl (lv_at hl 4 rfl) ?_
  obtain ⟨r6, S5, hc, hf⟩ := oi_b hf
  refine k_i0 (S' := S5) (r := r6) w (runV (As := []) (rest := []) (kb := 80) F w (k_X9_thrown l x S3 hc H.size) cy_X9_thrown q894 q895 q896 ⟨rfl, rfl⟩ ⟨Nat.le_of_ble_eq_true rfl, Nat.le_of_ble_eq_true rfl⟩ (by decide) rfl rfl rfl rfl hl.1 (Nat.le_of_ble_eq_true rfl) (cap_le2 hcap (by decide) (by decide)) dL_law_706) (fun H locs w => ?_)
  refine lv_iload F.1 F.2.1 dL_law_709 (lv_at hl 1 rfl) ?_
  refine lv_icmp_eq (tgt := 716) F.1 F.2.1 dL_law_711 (by decide) (fun c7 => ?_) (fun c7 => ?_)
  · replace hf := oi_t hf c7
    refine lv_iload F.1 F.2.1 dL_law_716 (lv_at hl 1 rfl) ?_
    refine lv_if_ne (tgt := 740) F.1 F.2.1 dL_law_718 (by decide) (fun c8 => ?_) (fun c8 => ?_)
    · replace hf := oi_f hf c8
      refine lv_goto (tgt := 2071) F.1 F.2.1 dL_law_740 (by decide) ?_
      have hS := oi_s hf
      subst hS
      refine W.widen (k := kc + 8) (n := ks + 48) (by omega) (by omega) ?_
      exact hnext _ _ _ w (lv_sub hl [2, 3, 4, 5, 6] rfl)
    · replace hf := oi_t hf c8
      refine lv_aload_n F.1 F.2.1 dL_law_721 rfl (lv_at hl 5 rfl) ?_
      refine lv_iconst (v := 0) F.1 F.2.1 dL_law_722 (by decide) ?_
      refine r_lald F w (k := 87) (n := 1) (f := al S5 5) (by decide) rfl (by decide) dL_law_723 ?_
      refine lv_iload F.1 F.2.1 dL_law_724 (lv_at hl 0 rfl) ?_
      refine lv_if_eq (tgt := 733) F.1 F.2.1 dL_law_726 (by decide) (fun c9 => ?_) (fun c9 => ?_)
      · replace hf := oi_t hf c9
        refine lv_lconst (v := 0) F.1 F.2.1 dL_law_733 (by decide) ?_
        refine W.lcmp F.1 F.2.1 dL_law_734 ?_
        refine lv_if_eq (tgt := 740) F.1 F.2.1 dL_law_735 (by decide) (fun c10 => ?_) (fun c10 => ?_)
        · replace hf := oi_t hf c10
          refine lv_goto (tgt := 2071) F.1 F.2.1 dL_law_740 (by decide) ?_
          have hS := oi_s hf
          subst hS
          refine W.widen (k := kc + 8) (n := ks + 48) (by omega) (by omega) ?_
          exact hnext _ _ _ w (lv_sub hl [2, 3, 4, 5, 6] rfl)
        · replace hf := oi_f hf c10
          cases hf
      · replace hf := oi_f hf c9
        refine lv_lconst (v := 1) F.1 F.2.1 dL_law_729 (by decide) ?_
        refine lv_goto (tgt := 734) F.1 F.2.1 dL_law_730 (by decide) ?_
        refine W.lcmp F.1 F.2.1 dL_law_734 ?_
        refine lv_if_eq (tgt := 740) F.1 F.2.1 dL_law_735 (by decide) (fun c11 => ?_) (fun c11 => ?_)
        · replace hf := oi_t hf c11
          refine lv_goto (tgt := 2071) F.1 F.2.1 dL_law_740 (by decide) ?_
          have hS := oi_s hf
          subst hS
          refine W.widen (k := kc + 8) (n := ks + 48) (by omega) (by omega) ?_
          exact hnext _ _ _ w (lv_sub hl [2, 3, 4, 5, 6] rfl)
        · replace hf := oi_f hf c11
          cases hf
  · replace hf := oi_f hf c7
    cases hf
def g_completeUpTo (S : ST) (v1 : Int32) : Option ST := oB (f_L_completeUpTo S v1) (fun (r2 : Int32) (S1 : ST) => oB (f_X9_completeUpTo S1 v1) (fun (r4 : Int32) (S3 : ST) => oB (f_X9_thrown S3) (fun (r6 : Int32) (S5 : ST) => (if r6 = r2 then (if r2 = 0 then (if (lg_cmp (al S5 5 (Int32.toNatClampNeg 0)) (Int32.toInt64 r4)) = 0 then some S5 else none) else some S5) else none))))
set_option maxHeartbeats 4000000 in
set_option maxRecDepth 100000 in
theorem lc_completeUpTo {p : Program} {l : Launch} {e : Env} {s : State} {m : MethodId} {below : List Frame} {meth : Method} {c : Code} {x : CX} {b L : Nat} {xs : Nat → Int32} {ret : Option FieldType} {Q : State → Prop} (F : MF p m meth c cL_law 7 s #[Value.ref b] RL ret) (hX : va_X b L xs s s.heap) (hbl : b < s.heap.size) (hbA : ¬ AA x s.heap.size b) (hls : l.stackTraces = false) {kc ks : Nat} (hcap : kc + 8 ≤ 601024 ∧ ks + 48 ≤ 7293034) {S S' : ST} {H : Heap} {locs : List Loc} {ls : Array Slot} (w : WD x s S H locs) {x4 : Int32} {v1 : Int32} (g1 : vp_in (x4 + 1) L) (e1 : xs (x4 + 1).toNatClampNeg = v1) (hl : lv_has ls 7 [(0, .ref b), (1, .ref (x.2.2 79)), (2, .ref (x.2.2 80)), (3, .ref (x.2.2 87)), (4, .int x4)]) (hf : g_completeUpTo S v1 = some S') (hnext : ∀ (H : Heap) (locs : List Loc) (ls : Array Slot), WD x s S' H locs → lv_has ls 7 [(0, .ref b), (1, .ref (x.2.2 79)), (2, .ref (x.2.2 80)), (3, .ref (x.2.2 87)), (4, .int x4)] → W p l e room_1 s m #[Value.ref b] below meth c H locs (kc + 8) (ks + 48) Q (F0 m 2071 ls [])) : W p l e room_1 s m #[Value.ref b] below meth c H locs kc ks Q (F0 m 743 ls []) := by
  unfold g_completeUpTo at hf
  refine lv_aload_n F.1 F.2.1 dL_law_743 rfl (lv_at hl 1 rfl) ?_
  refine lv_aload_n F.1 F.2.1 dL_law_744 rfl (lv_at hl 0 rfl) ?_
  refine lv_iload F.1 F.2.1 dL_law_745 (lv_at hl 4 rfl) ?_
  refine lv_iconst (v := 1) F.1 F.2.1 dL_law_747 (by decide) ?_
  refine lv_iadd F.1 F.2.1 dL_law_748 ?_
  refine va_sld F.1 F.2.1 hX hbl hbA w.S g1 dL_law_749 ?_
  rw [e1]
  refine lv_aload_n F.1 F.2.1 dL_law_750 rfl (lv_at hl 3 rfl) ?_
  obtain ⟨r2, S1, hc, hf⟩ := oi_b hf
  refine k_i (S' := S1) (r := r2) w (runSW (As := [.ref (x.2.2 (79)), .int v1, .ref (x.2.2 (87))]) (rest := []) F w (k_L_completeUpTo l x S v1 hc hls H.size) cyw_completeUpTo q558 q559 ⟨rfl, rfl⟩ ⟨Nat.le_of_ble_eq_true rfl, Nat.le_of_ble_eq_true rfl⟩ rfl rfl hl.1 (Nat.le_of_ble_eq_true rfl) (cap_le hcap (by decide) (by decide)) dL_law_751) (fun H locs w => ?_)
  refine lv_istore (lv' := [(5, .int r2), (0, .ref b), (1, .ref (x.2.2 (79))), (2, .ref (x.2.2 (80))), (3, .ref (x.2.2 (87))), (4, .int x4)]) F.1 F.2.1 dL_law_754 hl (by decide) rfl (fun ls hl => ?_)
  refine lv_aload_n F.1 F.2.1 dL_law_756 rfl (lv_at hl 3 rfl) ?_
  refine lv_aload_n F.1 F.2.1 dL_law_757 rfl (lv_at hl 1 rfl) ?_
  refine lv_iload F.1 F.2.1 dL_law_758 (lv_at hl 5 rfl) ?_
  refine lv_iconst (v := 1) F.1 F.2.1 dL_law_760 (by decide) ?_
  refine lv_iadd F.1 F.2.1 dL_law_761 ?_
  refine va_sld F.1 F.2.1 hX hbl hbA w.S g1 dL_law_762 ?_
  rw [e1]
  obtain ⟨r4, S3, hc, hf⟩ := oi_b hf
  refine k_i0 (S' := S3) (r := r4) w (runV (As := [.int v1]) (rest := []) (kb := 80) F w (k_X9_completeUpTo l x S1 v1 hc H.size) cy_X9_completeUpTo q1000 q1001 q1002 ⟨rfl, rfl⟩ ⟨Nat.le_of_ble_eq_true rfl, Nat.le_of_ble_eq_true rfl⟩ (by decide) rfl rfl rfl rfl hl.1 (Nat.le_of_ble_eq_true rfl) (cap_le2 hcap (by decide) (by decide)) dL_law_763) (fun H locs w => ?_)
  refine lv_istore (lv' := [(6, .int r4), (5, .int r2), (0, .ref b), (1, .ref (x.2.2 (79))), (2, .ref (x.2.2 (80))), (3, .ref (x.2.2 (87))), (4, .int x4)]) F.1 F.2.1 dL_law_766 hl (by decide) rfl (fun ls hl => ?_)
  refine lv_aload_n F.1 F.2.1 dL_law_768 rfl (lv_at hl 4 rfl) ?_
  obtain ⟨r6, S5, hc, hf⟩ := oi_b hf
  refine k_i0 (S' := S5) (r := r6) w (runV (As := []) (rest := []) (kb := 80) F w (k_X9_thrown l x S3 hc H.size) cy_X9_thrown q894 q895 q896 ⟨rfl, rfl⟩ ⟨Nat.le_of_ble_eq_true rfl, Nat.le_of_ble_eq_true rfl⟩ (by decide) rfl rfl rfl rfl hl.1 (Nat.le_of_ble_eq_true rfl) (cap_le2 hcap (by decide) (by decide)) dL_law_769) (fun H locs w => ?_)
  refine lv_iload F.1 F.2.1 dL_law_772 (lv_at hl 1 rfl) ?_
  refine lv_icmp_eq (tgt := 779) F.1 F.2.1 dL_law_774 (by decide) (fun c7 => ?_) (fun c7 => ?_)
  · replace hf := oi_t hf c7
    refine lv_iload F.1 F.2.1 dL_law_779 (lv_at hl 1 rfl) ?_
    refine lv_if_ne (tgt := 796) F.1 F.2.1 dL_law_781 (by decide) (fun c8 => ?_) (fun c8 => ?_)
    · replace hf := oi_f hf c8
      refine lv_goto (tgt := 2071) F.1 F.2.1 dL_law_796 (by decide) ?_
      have hS := oi_s hf
      subst hS
      refine W.widen (k := kc + 8) (n := ks + 48) (by omega) (by omega) ?_
      exact hnext _ _ _ w (lv_sub hl [2, 3, 4, 5, 6] rfl)
    · replace hf := oi_t hf c8
      refine lv_aload_n F.1 F.2.1 dL_law_784 rfl (lv_at hl 5 rfl) ?_
      refine lv_iconst (v := 0) F.1 F.2.1 dL_law_785 (by decide) ?_
      refine r_lald F w (k := 87) (n := 1) (f := al S5 5) (by decide) rfl (by decide) dL_law_786 ?_
      refine lv_iload F.1 F.2.1 dL_law_787 (lv_at hl 0 rfl) ?_
      refine lv_i2l (v := Int32.toInt64 r4) F.1 F.2.1 dL_law_789 rfl ?_
      refine W.lcmp F.1 F.2.1 dL_law_790 ?_
      refine lv_if_eq (tgt := 796) F.1 F.2.1 dL_law_791 (by decide) (fun c9 => ?_) (fun c9 => ?_)
      · replace hf := oi_t hf c9
        refine lv_goto (tgt := 2071) F.1 F.2.1 dL_law_796 (by decide) ?_
        have hS := oi_s hf
        subst hS
        refine W.widen (k := kc + 8) (n := ks + 48) (by omega) (by omega) ?_
        exact hnext _ _ _ w (lv_sub hl [2, 3, 4, 5, 6] rfl)
      · replace hf := oi_f hf c9
        cases hf
  · replace hf := oi_f hf c7
    cases hf
def g_differences (S : ST) (v1 : Int32) : Option ST := oB (f_L_differences S v1) (fun (r2 : Int32) (S1 : ST) => oB (f_X9_differences S1 v1) (fun (r4 : Int32) (S3 : ST) => oB (f_X9_thrown S3) (fun (r6 : Int32) (S5 : ST) => (if r6 = r2 then (if r2 = 0 then (if (lg_cmp (al S5 5 (Int32.toNatClampNeg 0)) (Int32.toInt64 r4)) = 0 then some S5 else none) else some S5) else none))))
set_option maxHeartbeats 4000000 in
set_option maxRecDepth 100000 in
theorem lc_differences {p : Program} {l : Launch} {e : Env} {s : State} {m : MethodId} {below : List Frame} {meth : Method} {c : Code} {x : CX} {b L : Nat} {xs : Nat → Int32} {ret : Option FieldType} {Q : State → Prop} (F : MF p m meth c cL_law 7 s #[Value.ref b] RL ret) (hX : va_X b L xs s s.heap) (hbl : b < s.heap.size) (hbA : ¬ AA x s.heap.size b) (hls : l.stackTraces = false) {kc ks : Nat} (hcap : kc + 8 ≤ 601024 ∧ ks + 48 ≤ 7293034) {S S' : ST} {H : Heap} {locs : List Loc} {ls : Array Slot} (w : WD x s S H locs) {x4 : Int32} {v1 : Int32} (g1 : vp_in (x4 + 1) L) (e1 : xs (x4 + 1).toNatClampNeg = v1) (hl : lv_has ls 7 [(0, .ref b), (1, .ref (x.2.2 79)), (2, .ref (x.2.2 80)), (3, .ref (x.2.2 87)), (4, .int x4)]) (hf : g_differences S v1 = some S') (hnext : ∀ (H : Heap) (locs : List Loc) (ls : Array Slot), WD x s S' H locs → lv_has ls 7 [(0, .ref b), (1, .ref (x.2.2 79)), (2, .ref (x.2.2 80)), (3, .ref (x.2.2 87)), (4, .int x4)] → W p l e room_1 s m #[Value.ref b] below meth c H locs (kc + 8) (ks + 48) Q (F0 m 2071 ls [])) : W p l e room_1 s m #[Value.ref b] below meth c H locs kc ks Q (F0 m 799 ls []) := by
  unfold g_differences at hf
  refine lv_aload_n F.1 F.2.1 dL_law_799 rfl (lv_at hl 1 rfl) ?_
  refine lv_aload_n F.1 F.2.1 dL_law_800 rfl (lv_at hl 0 rfl) ?_
  refine lv_iload F.1 F.2.1 dL_law_801 (lv_at hl 4 rfl) ?_
  refine lv_iconst (v := 1) F.1 F.2.1 dL_law_803 (by decide) ?_
  refine lv_iadd F.1 F.2.1 dL_law_804 ?_
  refine va_sld F.1 F.2.1 hX hbl hbA w.S g1 dL_law_805 ?_
  rw [e1]
  refine lv_aload_n F.1 F.2.1 dL_law_806 rfl (lv_at hl 3 rfl) ?_
  obtain ⟨r2, S1, hc, hf⟩ := oi_b hf
  refine k_i (S' := S1) (r := r2) w (runSW (As := [.ref (x.2.2 (79)), .int v1, .ref (x.2.2 (87))]) (rest := []) F w (k_L_differences l x S v1 hc hls H.size) cyw_differences q565 q566 ⟨rfl, rfl⟩ ⟨Nat.le_of_ble_eq_true rfl, Nat.le_of_ble_eq_true rfl⟩ rfl rfl hl.1 (Nat.le_of_ble_eq_true rfl) (cap_le hcap (by decide) (by decide)) dL_law_807) (fun H locs w => ?_)
  refine lv_istore (lv' := [(5, .int r2), (0, .ref b), (1, .ref (x.2.2 (79))), (2, .ref (x.2.2 (80))), (3, .ref (x.2.2 (87))), (4, .int x4)]) F.1 F.2.1 dL_law_810 hl (by decide) rfl (fun ls hl => ?_)
  refine lv_aload_n F.1 F.2.1 dL_law_812 rfl (lv_at hl 3 rfl) ?_
  refine lv_aload_n F.1 F.2.1 dL_law_813 rfl (lv_at hl 1 rfl) ?_
  refine lv_iload F.1 F.2.1 dL_law_814 (lv_at hl 5 rfl) ?_
  refine lv_iconst (v := 1) F.1 F.2.1 dL_law_816 (by decide) ?_
  refine lv_iadd F.1 F.2.1 dL_law_817 ?_
  refine va_sld F.1 F.2.1 hX hbl hbA w.S g1 dL_law_818 ?_
  rw [e1]
  obtain ⟨r4, S3, hc, hf⟩ := oi_b hf
  refine k_i0 (S' := S3) (r := r4) w (runV (As := [.int v1]) (rest := []) (kb := 80) F w (k_X9_differences l x S1 v1 hc H.size) cy_X9_differences q1008 q1009 q1010 ⟨rfl, rfl⟩ ⟨Nat.le_of_ble_eq_true rfl, Nat.le_of_ble_eq_true rfl⟩ (by decide) rfl rfl rfl rfl hl.1 (Nat.le_of_ble_eq_true rfl) (cap_le2 hcap (by decide) (by decide)) dL_law_819) (fun H locs w => ?_)
  refine lv_istore (lv' := [(6, .int r4), (5, .int r2), (0, .ref b), (1, .ref (x.2.2 (79))), (2, .ref (x.2.2 (80))), (3, .ref (x.2.2 (87))), (4, .int x4)]) F.1 F.2.1 dL_law_822 hl (by decide) rfl (fun ls hl => ?_)
  refine lv_aload_n F.1 F.2.1 dL_law_824 rfl (lv_at hl 4 rfl) ?_
  obtain ⟨r6, S5, hc, hf⟩ := oi_b hf
  refine k_i0 (S' := S5) (r := r6) w (runV (As := []) (rest := []) (kb := 80) F w (k_X9_thrown l x S3 hc H.size) cy_X9_thrown q894 q895 q896 ⟨rfl, rfl⟩ ⟨Nat.le_of_ble_eq_true rfl, Nat.le_of_ble_eq_true rfl⟩ (by decide) rfl rfl rfl rfl hl.1 (Nat.le_of_ble_eq_true rfl) (cap_le2 hcap (by decide) (by decide)) dL_law_825) (fun H locs w => ?_)
  refine lv_iload F.1 F.2.1 dL_law_828 (lv_at hl 1 rfl) ?_
  refine lv_icmp_eq (tgt := 835) F.1 F.2.1 dL_law_830 (by decide) (fun c7 => ?_) (fun c7 => ?_)
  · replace hf := oi_t hf c7
    refine lv_iload F.1 F.2.1 dL_law_835 (lv_at hl 1 rfl) ?_
    refine lv_if_ne (tgt := 852) F.1 F.2.1 dL_law_837 (by decide) (fun c8 => ?_) (fun c8 => ?_)
    · replace hf := oi_f hf c8
      refine lv_goto (tgt := 2071) F.1 F.2.1 dL_law_852 (by decide) ?_
      have hS := oi_s hf
      subst hS
      refine W.widen (k := kc + 8) (n := ks + 48) (by omega) (by omega) ?_
      exact hnext _ _ _ w (lv_sub hl [2, 3, 4, 5, 6] rfl)
    · replace hf := oi_t hf c8
      refine lv_aload_n F.1 F.2.1 dL_law_840 rfl (lv_at hl 5 rfl) ?_
      refine lv_iconst (v := 0) F.1 F.2.1 dL_law_841 (by decide) ?_
      refine r_lald F w (k := 87) (n := 1) (f := al S5 5) (by decide) rfl (by decide) dL_law_842 ?_
      refine lv_iload F.1 F.2.1 dL_law_843 (lv_at hl 0 rfl) ?_
      refine lv_i2l (v := Int32.toInt64 r4) F.1 F.2.1 dL_law_845 rfl ?_
      refine W.lcmp F.1 F.2.1 dL_law_846 ?_
      refine lv_if_eq (tgt := 852) F.1 F.2.1 dL_law_847 (by decide) (fun c9 => ?_) (fun c9 => ?_)
      · replace hf := oi_t hf c9
        refine lv_goto (tgt := 2071) F.1 F.2.1 dL_law_852 (by decide) ?_
        have hS := oi_s hf
        subst hS
        refine W.widen (k := kc + 8) (n := ks + 48) (by omega) (by omega) ?_
        exact hnext _ _ _ w (lv_sub hl [2, 3, 4, 5, 6] rfl)
      · replace hf := oi_f hf c9
        cases hf
  · replace hf := oi_f hf c7
    cases hf
def g_isFamily (S : ST) (v1 : Int32) : Option ST := oB (f_L_isFamily S v1) (fun (r2 : Int32) (S1 : ST) => oB (f_X9_isFamily S1 v1) (fun (r4 : Int32) (S3 : ST) => oB (f_X9_thrown S3) (fun (r6 : Int32) (S5 : ST) => (if r6 = r2 then (if r2 = 0 then (if r4 = 0 then (if (lg_cmp (al S5 5 (Int32.toNatClampNeg 0)) 0) = 0 then some S5 else none) else (if (lg_cmp (al S5 5 (Int32.toNatClampNeg 0)) 1) = 0 then some S5 else none)) else some S5) else none))))
set_option maxHeartbeats 4000000 in
set_option maxRecDepth 100000 in
theorem lc_isFamily {p : Program} {l : Launch} {e : Env} {s : State} {m : MethodId} {below : List Frame} {meth : Method} {c : Code} {x : CX} {b L : Nat} {xs : Nat → Int32} {ret : Option FieldType} {Q : State → Prop} (F : MF p m meth c cL_law 7 s #[Value.ref b] RL ret) (hX : va_X b L xs s s.heap) (hbl : b < s.heap.size) (hbA : ¬ AA x s.heap.size b) (hls : l.stackTraces = false) {kc ks : Nat} (hcap : kc + 8 ≤ 601024 ∧ ks + 48 ≤ 7293034) {S S' : ST} {H : Heap} {locs : List Loc} {ls : Array Slot} (w : WD x s S H locs) {x4 : Int32} {v1 : Int32} (g1 : vp_in (x4 + 1) L) (e1 : xs (x4 + 1).toNatClampNeg = v1) (hl : lv_has ls 7 [(0, .ref b), (1, .ref (x.2.2 79)), (2, .ref (x.2.2 80)), (3, .ref (x.2.2 87)), (4, .int x4)]) (hf : g_isFamily S v1 = some S') (hnext : ∀ (H : Heap) (locs : List Loc) (ls : Array Slot), WD x s S' H locs → lv_has ls 7 [(0, .ref b), (1, .ref (x.2.2 79)), (2, .ref (x.2.2 80)), (3, .ref (x.2.2 87)), (4, .int x4)] → W p l e room_1 s m #[Value.ref b] below meth c H locs (kc + 8) (ks + 48) Q (F0 m 2071 ls [])) : W p l e room_1 s m #[Value.ref b] below meth c H locs kc ks Q (F0 m 855 ls []) := by
  unfold g_isFamily at hf
  refine lv_aload_n F.1 F.2.1 dL_law_855 rfl (lv_at hl 1 rfl) ?_
  refine lv_aload_n F.1 F.2.1 dL_law_856 rfl (lv_at hl 0 rfl) ?_
  refine lv_iload F.1 F.2.1 dL_law_857 (lv_at hl 4 rfl) ?_
  refine lv_iconst (v := 1) F.1 F.2.1 dL_law_859 (by decide) ?_
  refine lv_iadd F.1 F.2.1 dL_law_860 ?_
  refine va_sld F.1 F.2.1 hX hbl hbA w.S g1 dL_law_861 ?_
  rw [e1]
  refine lv_aload_n F.1 F.2.1 dL_law_862 rfl (lv_at hl 3 rfl) ?_
  obtain ⟨r2, S1, hc, hf⟩ := oi_b hf
  refine k_i (S' := S1) (r := r2) w (runSW (As := [.ref (x.2.2 (79)), .int v1, .ref (x.2.2 (87))]) (rest := []) F w (k_L_isFamily l x S v1 hc hls H.size) cyw_isFamily q572 q573 ⟨rfl, rfl⟩ ⟨Nat.le_of_ble_eq_true rfl, Nat.le_of_ble_eq_true rfl⟩ rfl rfl hl.1 (Nat.le_of_ble_eq_true rfl) (cap_le hcap (by decide) (by decide)) dL_law_863) (fun H locs w => ?_)
  refine lv_istore (lv' := [(5, .int r2), (0, .ref b), (1, .ref (x.2.2 (79))), (2, .ref (x.2.2 (80))), (3, .ref (x.2.2 (87))), (4, .int x4)]) F.1 F.2.1 dL_law_866 hl (by decide) rfl (fun ls hl => ?_)
  refine lv_aload_n F.1 F.2.1 dL_law_868 rfl (lv_at hl 3 rfl) ?_
  refine lv_aload_n F.1 F.2.1 dL_law_869 rfl (lv_at hl 1 rfl) ?_
  refine lv_iload F.1 F.2.1 dL_law_870 (lv_at hl 5 rfl) ?_
  refine lv_iconst (v := 1) F.1 F.2.1 dL_law_872 (by decide) ?_
  refine lv_iadd F.1 F.2.1 dL_law_873 ?_
  refine va_sld F.1 F.2.1 hX hbl hbA w.S g1 dL_law_874 ?_
  rw [e1]
  obtain ⟨r4, S3, hc, hf⟩ := oi_b hf
  refine k_i0 (S' := S3) (r := r4) w (runV (As := [.int v1]) (rest := []) (kb := 80) F w (k_X9_isFamily l x S1 v1 hc H.size) cy_X9_isFamily q1016 q1017 q1018 ⟨rfl, rfl⟩ ⟨Nat.le_of_ble_eq_true rfl, Nat.le_of_ble_eq_true rfl⟩ (by decide) rfl rfl rfl rfl hl.1 (Nat.le_of_ble_eq_true rfl) (cap_le2 hcap (by decide) (by decide)) dL_law_875) (fun H locs w => ?_)
  refine lv_istore (lv' := [(6, .int r4), (5, .int r2), (0, .ref b), (1, .ref (x.2.2 (79))), (2, .ref (x.2.2 (80))), (3, .ref (x.2.2 (87))), (4, .int x4)]) F.1 F.2.1 dL_law_878 hl (by decide) rfl (fun ls hl => ?_)
  refine lv_aload_n F.1 F.2.1 dL_law_880 rfl (lv_at hl 4 rfl) ?_
  obtain ⟨r6, S5, hc, hf⟩ := oi_b hf
  refine k_i0 (S' := S5) (r := r6) w (runV (As := []) (rest := []) (kb := 80) F w (k_X9_thrown l x S3 hc H.size) cy_X9_thrown q894 q895 q896 ⟨rfl, rfl⟩ ⟨Nat.le_of_ble_eq_true rfl, Nat.le_of_ble_eq_true rfl⟩ (by decide) rfl rfl rfl rfl hl.1 (Nat.le_of_ble_eq_true rfl) (cap_le2 hcap (by decide) (by decide)) dL_law_881) (fun H locs w => ?_)
  refine lv_iload F.1 F.2.1 dL_law_884 (lv_at hl 1 rfl) ?_
  refine lv_icmp_eq (tgt := 891) F.1 F.2.1 dL_law_886 (by decide) (fun c7 => ?_) (fun c7 => ?_)
  · replace hf := oi_t hf c7
    refine lv_iload F.1 F.2.1 dL_law_891 (lv_at hl 1 rfl) ?_
    refine lv_if_ne (tgt := 915) F.1 F.2.1 dL_law_893 (by decide) (fun c8 => ?_) (fun c8 => ?_)
    · replace hf := oi_f hf c8
      refine lv_goto (tgt := 2071) F.1 F.2.1 dL_law_915 (by decide) ?_
      have hS := oi_s hf
      subst hS
      refine W.widen (k := kc + 8) (n := ks + 48) (by omega) (by omega) ?_
      exact hnext _ _ _ w (lv_sub hl [2, 3, 4, 5, 6] rfl)
    · replace hf := oi_t hf c8
      refine lv_aload_n F.1 F.2.1 dL_law_896 rfl (lv_at hl 5 rfl) ?_
      refine lv_iconst (v := 0) F.1 F.2.1 dL_law_897 (by decide) ?_
      refine r_lald F w (k := 87) (n := 1) (f := al S5 5) (by decide) rfl (by decide) dL_law_898 ?_
      refine lv_iload F.1 F.2.1 dL_law_899 (lv_at hl 0 rfl) ?_
      refine lv_if_eq (tgt := 908) F.1 F.2.1 dL_law_901 (by decide) (fun c9 => ?_) (fun c9 => ?_)
      · replace hf := oi_t hf c9
        refine lv_lconst (v := 0) F.1 F.2.1 dL_law_908 (by decide) ?_
        refine W.lcmp F.1 F.2.1 dL_law_909 ?_
        refine lv_if_eq (tgt := 915) F.1 F.2.1 dL_law_910 (by decide) (fun c10 => ?_) (fun c10 => ?_)
        · replace hf := oi_t hf c10
          refine lv_goto (tgt := 2071) F.1 F.2.1 dL_law_915 (by decide) ?_
          have hS := oi_s hf
          subst hS
          refine W.widen (k := kc + 8) (n := ks + 48) (by omega) (by omega) ?_
          exact hnext _ _ _ w (lv_sub hl [2, 3, 4, 5, 6] rfl)
        · replace hf := oi_f hf c10
          cases hf
      · replace hf := oi_f hf c9
        refine lv_lconst (v := 1) F.1 F.2.1 dL_law_904 (by decide) ?_
        refine lv_goto (tgt := 909) F.1 F.2.1 dL_law_905 (by decide) ?_
        refine W.lcmp F.1 F.2.1 dL_law_909 ?_
        refine lv_if_eq (tgt := 915) F.1 F.2.1 dL_law_910 (by decide) (fun c11 => ?_) (fun c11 => ?_)
        · replace hf := oi_t hf c11
          refine lv_goto (tgt := 2071) F.1 F.2.1 dL_law_915 (by decide) ?_
          have hS := oi_s hf
          subst hS
          refine W.widen (k := kc + 8) (n := ks + 48) (by omega) (by omega) ?_
          exact hnext _ _ _ w (lv_sub hl [2, 3, 4, 5, 6] rfl)
        · replace hf := oi_f hf c11
          cases hf
  · replace hf := oi_f hf c7
    cases hf
def g_setModulus (S : ST) (v1 : Int32) : Option ST := oB (f_L_setModulus S v1) (fun (r2 : Int32) (S1 : ST) => oB (f_X9_setModulus S1 v1) (fun (r4 : Int32) (S3 : ST) => oB (f_X9_thrown S3) (fun (r6 : Int32) (S5 : ST) => (if r6 = r2 then (if r2 = 0 then (if (lg_cmp (al S5 5 (Int32.toNatClampNeg 0)) (Int32.toInt64 r4)) = 0 then some S5 else none) else some S5) else none))))
set_option maxHeartbeats 4000000 in
set_option maxRecDepth 100000 in
theorem lc_setModulus {p : Program} {l : Launch} {e : Env} {s : State} {m : MethodId} {below : List Frame} {meth : Method} {c : Code} {x : CX} {b L : Nat} {xs : Nat → Int32} {ret : Option FieldType} {Q : State → Prop} (F : MF p m meth c cL_law 7 s #[Value.ref b] RL ret) (hX : va_X b L xs s s.heap) (hbl : b < s.heap.size) (hbA : ¬ AA x s.heap.size b) (hls : l.stackTraces = false) {kc ks : Nat} (hcap : kc + 8 ≤ 601024 ∧ ks + 48 ≤ 7293034) {S S' : ST} {H : Heap} {locs : List Loc} {ls : Array Slot} (w : WD x s S H locs) {x4 : Int32} {v1 : Int32} (g1 : vp_in (x4 + 1) L) (e1 : xs (x4 + 1).toNatClampNeg = v1) (hl : lv_has ls 7 [(0, .ref b), (1, .ref (x.2.2 79)), (2, .ref (x.2.2 80)), (3, .ref (x.2.2 87)), (4, .int x4)]) (hf : g_setModulus S v1 = some S') (hnext : ∀ (H : Heap) (locs : List Loc) (ls : Array Slot), WD x s S' H locs → lv_has ls 7 [(0, .ref b), (1, .ref (x.2.2 79)), (2, .ref (x.2.2 80)), (3, .ref (x.2.2 87)), (4, .int x4)] → W p l e room_1 s m #[Value.ref b] below meth c H locs (kc + 8) (ks + 48) Q (F0 m 2071 ls [])) : W p l e room_1 s m #[Value.ref b] below meth c H locs kc ks Q (F0 m 918 ls []) := by
  unfold g_setModulus at hf
  refine lv_aload_n F.1 F.2.1 dL_law_918 rfl (lv_at hl 1 rfl) ?_
  refine lv_aload_n F.1 F.2.1 dL_law_919 rfl (lv_at hl 0 rfl) ?_
  refine lv_iload F.1 F.2.1 dL_law_920 (lv_at hl 4 rfl) ?_
  refine lv_iconst (v := 1) F.1 F.2.1 dL_law_922 (by decide) ?_
  refine lv_iadd F.1 F.2.1 dL_law_923 ?_
  refine va_sld F.1 F.2.1 hX hbl hbA w.S g1 dL_law_924 ?_
  rw [e1]
  refine lv_aload_n F.1 F.2.1 dL_law_925 rfl (lv_at hl 3 rfl) ?_
  obtain ⟨r2, S1, hc, hf⟩ := oi_b hf
  refine k_i (S' := S1) (r := r2) w (runSW (As := [.ref (x.2.2 (79)), .int v1, .ref (x.2.2 (87))]) (rest := []) F w (k_L_setModulus l x S v1 hc hls H.size) cyw_setModulus q580 q581 ⟨rfl, rfl⟩ ⟨Nat.le_of_ble_eq_true rfl, Nat.le_of_ble_eq_true rfl⟩ rfl rfl hl.1 (Nat.le_of_ble_eq_true rfl) (cap_le hcap (by decide) (by decide)) dL_law_926) (fun H locs w => ?_)
  refine lv_istore (lv' := [(5, .int r2), (0, .ref b), (1, .ref (x.2.2 (79))), (2, .ref (x.2.2 (80))), (3, .ref (x.2.2 (87))), (4, .int x4)]) F.1 F.2.1 dL_law_929 hl (by decide) rfl (fun ls hl => ?_)
  refine lv_aload_n F.1 F.2.1 dL_law_931 rfl (lv_at hl 3 rfl) ?_
  refine lv_aload_n F.1 F.2.1 dL_law_932 rfl (lv_at hl 1 rfl) ?_
  refine lv_iload F.1 F.2.1 dL_law_933 (lv_at hl 5 rfl) ?_
  refine lv_iconst (v := 1) F.1 F.2.1 dL_law_935 (by decide) ?_
  refine lv_iadd F.1 F.2.1 dL_law_936 ?_
  refine va_sld F.1 F.2.1 hX hbl hbA w.S g1 dL_law_937 ?_
  rw [e1]
  obtain ⟨r4, S3, hc, hf⟩ := oi_b hf
  refine k_i0 (S' := S3) (r := r4) w (runV (As := [.int v1]) (rest := []) (kb := 80) F w (k_X9_setModulus l x S1 v1 hc H.size) cy_X9_setModulus q1020 q1021 q1022 ⟨rfl, rfl⟩ ⟨Nat.le_of_ble_eq_true rfl, Nat.le_of_ble_eq_true rfl⟩ (by decide) rfl rfl rfl rfl hl.1 (Nat.le_of_ble_eq_true rfl) (cap_le2 hcap (by decide) (by decide)) dL_law_938) (fun H locs w => ?_)
  refine lv_istore (lv' := [(6, .int r4), (5, .int r2), (0, .ref b), (1, .ref (x.2.2 (79))), (2, .ref (x.2.2 (80))), (3, .ref (x.2.2 (87))), (4, .int x4)]) F.1 F.2.1 dL_law_941 hl (by decide) rfl (fun ls hl => ?_)
  refine lv_aload_n F.1 F.2.1 dL_law_943 rfl (lv_at hl 4 rfl) ?_
  obtain ⟨r6, S5, hc, hf⟩ := oi_b hf
  refine k_i0 (S' := S5) (r := r6) w (runV (As := []) (rest := []) (kb := 80) F w (k_X9_thrown l x S3 hc H.size) cy_X9_thrown q894 q895 q896 ⟨rfl, rfl⟩ ⟨Nat.le_of_ble_eq_true rfl, Nat.le_of_ble_eq_true rfl⟩ (by decide) rfl rfl rfl rfl hl.1 (Nat.le_of_ble_eq_true rfl) (cap_le2 hcap (by decide) (by decide)) dL_law_944) (fun H locs w => ?_)
  refine lv_iload F.1 F.2.1 dL_law_947 (lv_at hl 1 rfl) ?_
  refine lv_icmp_eq (tgt := 954) F.1 F.2.1 dL_law_949 (by decide) (fun c7 => ?_) (fun c7 => ?_)
  · replace hf := oi_t hf c7
    refine lv_iload F.1 F.2.1 dL_law_954 (lv_at hl 1 rfl) ?_
    refine lv_if_ne (tgt := 971) F.1 F.2.1 dL_law_956 (by decide) (fun c8 => ?_) (fun c8 => ?_)
    · replace hf := oi_f hf c8
      refine lv_goto (tgt := 2071) F.1 F.2.1 dL_law_971 (by decide) ?_
      have hS := oi_s hf
      subst hS
      refine W.widen (k := kc + 8) (n := ks + 48) (by omega) (by omega) ?_
      exact hnext _ _ _ w (lv_sub hl [2, 3, 4, 5, 6] rfl)
    · replace hf := oi_t hf c8
      refine lv_aload_n F.1 F.2.1 dL_law_959 rfl (lv_at hl 5 rfl) ?_
      refine lv_iconst (v := 0) F.1 F.2.1 dL_law_960 (by decide) ?_
      refine r_lald F w (k := 87) (n := 1) (f := al S5 5) (by decide) rfl (by decide) dL_law_961 ?_
      refine lv_iload F.1 F.2.1 dL_law_962 (lv_at hl 0 rfl) ?_
      refine lv_i2l (v := Int32.toInt64 r4) F.1 F.2.1 dL_law_964 rfl ?_
      refine W.lcmp F.1 F.2.1 dL_law_965 ?_
      refine lv_if_eq (tgt := 971) F.1 F.2.1 dL_law_966 (by decide) (fun c9 => ?_) (fun c9 => ?_)
      · replace hf := oi_t hf c9
        refine lv_goto (tgt := 2071) F.1 F.2.1 dL_law_971 (by decide) ?_
        have hS := oi_s hf
        subst hS
        refine W.widen (k := kc + 8) (n := ks + 48) (by omega) (by omega) ?_
        exact hnext _ _ _ w (lv_sub hl [2, 3, 4, 5, 6] rfl)
      · replace hf := oi_f hf c9
        cases hf
  · replace hf := oi_f hf c7
    cases hf
def g_cyclicMultiplicity (S : ST) (v1 : Int32) (v2 : Int32) : Option ST := oB (f_L_cyclicMultiplicity S v1 v2) (fun (r2 : Int32) (S1 : ST) => oB (f_X9_cyclicMultiplicity S1 v1 v2) (fun (r4 : Int32) (S3 : ST) => oB (f_X9_thrown S3) (fun (r6 : Int32) (S5 : ST) => (if r6 = r2 then (if r2 = 0 then (if (lg_cmp (al S5 5 (Int32.toNatClampNeg 0)) (Int32.toInt64 r4)) = 0 then some S5 else none) else some S5) else none))))
set_option maxHeartbeats 4000000 in
set_option maxRecDepth 100000 in
theorem lc_cyclicMultiplicity {p : Program} {l : Launch} {e : Env} {s : State} {m : MethodId} {below : List Frame} {meth : Method} {c : Code} {x : CX} {b L : Nat} {xs : Nat → Int32} {ret : Option FieldType} {Q : State → Prop} (F : MF p m meth c cL_law 7 s #[Value.ref b] RL ret) (hX : va_X b L xs s s.heap) (hbl : b < s.heap.size) (hbA : ¬ AA x s.heap.size b) (hls : l.stackTraces = false) {kc ks : Nat} (hcap : kc + 8 ≤ 601024 ∧ ks + 48 ≤ 7293034) {S S' : ST} {H : Heap} {locs : List Loc} {ls : Array Slot} (w : WD x s S H locs) {x4 : Int32} {v1 : Int32} (g1 : vp_in (x4 + 1) L) (e1 : xs (x4 + 1).toNatClampNeg = v1) {v2 : Int32} (g2 : vp_in (x4 + 2) L) (e2 : xs (x4 + 2).toNatClampNeg = v2) (hl : lv_has ls 7 [(0, .ref b), (1, .ref (x.2.2 79)), (2, .ref (x.2.2 80)), (3, .ref (x.2.2 87)), (4, .int x4)]) (hf : g_cyclicMultiplicity S v1 v2 = some S') (hnext : ∀ (H : Heap) (locs : List Loc) (ls : Array Slot), WD x s S' H locs → lv_has ls 7 [(0, .ref b), (1, .ref (x.2.2 79)), (2, .ref (x.2.2 80)), (3, .ref (x.2.2 87)), (4, .int x4)] → W p l e room_1 s m #[Value.ref b] below meth c H locs (kc + 8) (ks + 48) Q (F0 m 2071 ls [])) : W p l e room_1 s m #[Value.ref b] below meth c H locs kc ks Q (F0 m 974 ls []) := by
  unfold g_cyclicMultiplicity at hf
  refine lv_aload_n F.1 F.2.1 dL_law_974 rfl (lv_at hl 1 rfl) ?_
  refine lv_aload_n F.1 F.2.1 dL_law_975 rfl (lv_at hl 0 rfl) ?_
  refine lv_iload F.1 F.2.1 dL_law_976 (lv_at hl 4 rfl) ?_
  refine lv_iconst (v := 1) F.1 F.2.1 dL_law_978 (by decide) ?_
  refine lv_iadd F.1 F.2.1 dL_law_979 ?_
  refine va_sld F.1 F.2.1 hX hbl hbA w.S g1 dL_law_980 ?_
  rw [e1]
  refine lv_aload_n F.1 F.2.1 dL_law_981 rfl (lv_at hl 0 rfl) ?_
  refine lv_iload F.1 F.2.1 dL_law_982 (lv_at hl 4 rfl) ?_
  refine lv_iconst (v := 2) F.1 F.2.1 dL_law_984 (by decide) ?_
  refine lv_iadd F.1 F.2.1 dL_law_985 ?_
  refine va_sld F.1 F.2.1 hX hbl hbA w.S g2 dL_law_986 ?_
  rw [e2]
  refine lv_aload_n F.1 F.2.1 dL_law_987 rfl (lv_at hl 3 rfl) ?_
  obtain ⟨r2, S1, hc, hf⟩ := oi_b hf
  refine k_i (S' := S1) (r := r2) w (runSW (As := [.ref (x.2.2 (79)), .int v1, .int v2, .ref (x.2.2 (87))]) (rest := []) F w (k_L_cyclicMultiplicity l x S v1 v2 hc hls H.size) cyw_cyclicMultiplicity q588 q589 ⟨rfl, rfl⟩ ⟨Nat.le_of_ble_eq_true rfl, Nat.le_of_ble_eq_true rfl⟩ rfl rfl hl.1 (Nat.le_of_ble_eq_true rfl) (cap_le hcap (by decide) (by decide)) dL_law_988) (fun H locs w => ?_)
  refine lv_istore (lv' := [(5, .int r2), (0, .ref b), (1, .ref (x.2.2 (79))), (2, .ref (x.2.2 (80))), (3, .ref (x.2.2 (87))), (4, .int x4)]) F.1 F.2.1 dL_law_991 hl (by decide) rfl (fun ls hl => ?_)
  refine lv_aload_n F.1 F.2.1 dL_law_993 rfl (lv_at hl 3 rfl) ?_
  refine lv_aload_n F.1 F.2.1 dL_law_994 rfl (lv_at hl 1 rfl) ?_
  refine lv_iload F.1 F.2.1 dL_law_995 (lv_at hl 5 rfl) ?_
  refine lv_iconst (v := 1) F.1 F.2.1 dL_law_997 (by decide) ?_
  refine lv_iadd F.1 F.2.1 dL_law_998 ?_
  refine va_sld F.1 F.2.1 hX hbl hbA w.S g1 dL_law_999 ?_
  rw [e1]
  refine lv_aload_n F.1 F.2.1 dL_law_1000 rfl (lv_at hl 1 rfl) ?_
  refine lv_iload F.1 F.2.1 dL_law_1001 (lv_at hl 5 rfl) ?_
  refine lv_iconst (v := 2) F.1 F.2.1 dL_law_1003 (by decide) ?_
  refine lv_iadd F.1 F.2.1 dL_law_1004 ?_
  refine va_sld F.1 F.2.1 hX hbl hbA w.S g2 dL_law_1005 ?_
  rw [e2]
  obtain ⟨r4, S3, hc, hf⟩ := oi_b hf
  refine k_i0 (S' := S3) (r := r4) w (runV (As := [.int v1, .int v2]) (rest := []) (kb := 80) F w (k_X9_cyclicMultiplicity l x S1 v1 v2 hc H.size) cy_X9_cyclicMultiplicity q1028 q1029 q1030 ⟨rfl, rfl⟩ ⟨Nat.le_of_ble_eq_true rfl, Nat.le_of_ble_eq_true rfl⟩ (by decide) rfl rfl rfl rfl hl.1 (Nat.le_of_ble_eq_true rfl) (cap_le2 hcap (by decide) (by decide)) dL_law_1006) (fun H locs w => ?_)
  refine lv_istore (lv' := [(6, .int r4), (5, .int r2), (0, .ref b), (1, .ref (x.2.2 (79))), (2, .ref (x.2.2 (80))), (3, .ref (x.2.2 (87))), (4, .int x4)]) F.1 F.2.1 dL_law_1009 hl (by decide) rfl (fun ls hl => ?_)
  refine lv_aload_n F.1 F.2.1 dL_law_1011 rfl (lv_at hl 4 rfl) ?_
  obtain ⟨r6, S5, hc, hf⟩ := oi_b hf
  refine k_i0 (S' := S5) (r := r6) w (runV (As := []) (rest := []) (kb := 80) F w (k_X9_thrown l x S3 hc H.size) cy_X9_thrown q894 q895 q896 ⟨rfl, rfl⟩ ⟨Nat.le_of_ble_eq_true rfl, Nat.le_of_ble_eq_true rfl⟩ (by decide) rfl rfl rfl rfl hl.1 (Nat.le_of_ble_eq_true rfl) (cap_le2 hcap (by decide) (by decide)) dL_law_1012) (fun H locs w => ?_)
  refine lv_iload F.1 F.2.1 dL_law_1015 (lv_at hl 1 rfl) ?_
  refine lv_icmp_eq (tgt := 1022) F.1 F.2.1 dL_law_1017 (by decide) (fun c7 => ?_) (fun c7 => ?_)
  · replace hf := oi_t hf c7
    refine lv_iload F.1 F.2.1 dL_law_1022 (lv_at hl 1 rfl) ?_
    refine lv_if_ne (tgt := 1039) F.1 F.2.1 dL_law_1024 (by decide) (fun c8 => ?_) (fun c8 => ?_)
    · replace hf := oi_f hf c8
      refine lv_goto (tgt := 2071) F.1 F.2.1 dL_law_1039 (by decide) ?_
      have hS := oi_s hf
      subst hS
      refine W.widen (k := kc + 8) (n := ks + 48) (by omega) (by omega) ?_
      exact hnext _ _ _ w (lv_sub hl [2, 3, 4, 5, 6] rfl)
    · replace hf := oi_t hf c8
      refine lv_aload_n F.1 F.2.1 dL_law_1027 rfl (lv_at hl 5 rfl) ?_
      refine lv_iconst (v := 0) F.1 F.2.1 dL_law_1028 (by decide) ?_
      refine r_lald F w (k := 87) (n := 1) (f := al S5 5) (by decide) rfl (by decide) dL_law_1029 ?_
      refine lv_iload F.1 F.2.1 dL_law_1030 (lv_at hl 0 rfl) ?_
      refine lv_i2l (v := Int32.toInt64 r4) F.1 F.2.1 dL_law_1032 rfl ?_
      refine W.lcmp F.1 F.2.1 dL_law_1033 ?_
      refine lv_if_eq (tgt := 1039) F.1 F.2.1 dL_law_1034 (by decide) (fun c9 => ?_) (fun c9 => ?_)
      · replace hf := oi_t hf c9
        refine lv_goto (tgt := 2071) F.1 F.2.1 dL_law_1039 (by decide) ?_
        have hS := oi_s hf
        subst hS
        refine W.widen (k := kc + 8) (n := ks + 48) (by omega) (by omega) ?_
        exact hnext _ _ _ w (lv_sub hl [2, 3, 4, 5, 6] rfl)
      · replace hf := oi_f hf c9
        cases hf
  · replace hf := oi_f hf c7
    cases hf
def g_isCyclicRuler (S : ST) (v1 : Int32) : Option ST := oB (f_L_isCyclicRuler S v1) (fun (r2 : Int32) (S1 : ST) => oB (f_X9_isCyclicRuler S1 v1) (fun (r4 : Int32) (S3 : ST) => oB (f_X9_thrown S3) (fun (r6 : Int32) (S5 : ST) => (if r6 = r2 then (if r2 = 0 then (if r4 = 0 then (if (lg_cmp (al S5 5 (Int32.toNatClampNeg 0)) 0) = 0 then some S5 else none) else (if (lg_cmp (al S5 5 (Int32.toNatClampNeg 0)) 1) = 0 then some S5 else none)) else some S5) else none))))
set_option maxHeartbeats 4000000 in
set_option maxRecDepth 100000 in
theorem lc_isCyclicRuler {p : Program} {l : Launch} {e : Env} {s : State} {m : MethodId} {below : List Frame} {meth : Method} {c : Code} {x : CX} {b L : Nat} {xs : Nat → Int32} {ret : Option FieldType} {Q : State → Prop} (F : MF p m meth c cL_law 7 s #[Value.ref b] RL ret) (hX : va_X b L xs s s.heap) (hbl : b < s.heap.size) (hbA : ¬ AA x s.heap.size b) (hls : l.stackTraces = false) {kc ks : Nat} (hcap : kc + 8 ≤ 601024 ∧ ks + 48 ≤ 7293034) {S S' : ST} {H : Heap} {locs : List Loc} {ls : Array Slot} (w : WD x s S H locs) {x4 : Int32} {v1 : Int32} (g1 : vp_in (x4 + 1) L) (e1 : xs (x4 + 1).toNatClampNeg = v1) (hl : lv_has ls 7 [(0, .ref b), (1, .ref (x.2.2 79)), (2, .ref (x.2.2 80)), (3, .ref (x.2.2 87)), (4, .int x4)]) (hf : g_isCyclicRuler S v1 = some S') (hnext : ∀ (H : Heap) (locs : List Loc) (ls : Array Slot), WD x s S' H locs → lv_has ls 7 [(0, .ref b), (1, .ref (x.2.2 79)), (2, .ref (x.2.2 80)), (3, .ref (x.2.2 87)), (4, .int x4)] → W p l e room_1 s m #[Value.ref b] below meth c H locs (kc + 8) (ks + 48) Q (F0 m 2071 ls [])) : W p l e room_1 s m #[Value.ref b] below meth c H locs kc ks Q (F0 m 1042 ls []) := by
  unfold g_isCyclicRuler at hf
  refine lv_aload_n F.1 F.2.1 dL_law_1042 rfl (lv_at hl 1 rfl) ?_
  refine lv_aload_n F.1 F.2.1 dL_law_1043 rfl (lv_at hl 0 rfl) ?_
  refine lv_iload F.1 F.2.1 dL_law_1044 (lv_at hl 4 rfl) ?_
  refine lv_iconst (v := 1) F.1 F.2.1 dL_law_1046 (by decide) ?_
  refine lv_iadd F.1 F.2.1 dL_law_1047 ?_
  refine va_sld F.1 F.2.1 hX hbl hbA w.S g1 dL_law_1048 ?_
  rw [e1]
  refine lv_aload_n F.1 F.2.1 dL_law_1049 rfl (lv_at hl 3 rfl) ?_
  obtain ⟨r2, S1, hc, hf⟩ := oi_b hf
  refine k_i (S' := S1) (r := r2) w (runSW (As := [.ref (x.2.2 (79)), .int v1, .ref (x.2.2 (87))]) (rest := []) F w (k_L_isCyclicRuler l x S v1 hc hls H.size) cyw_isCyclicRuler q600 q601 ⟨rfl, rfl⟩ ⟨Nat.le_of_ble_eq_true rfl, Nat.le_of_ble_eq_true rfl⟩ rfl rfl hl.1 (Nat.le_of_ble_eq_true rfl) (cap_le hcap (by decide) (by decide)) dL_law_1050) (fun H locs w => ?_)
  refine lv_istore (lv' := [(5, .int r2), (0, .ref b), (1, .ref (x.2.2 (79))), (2, .ref (x.2.2 (80))), (3, .ref (x.2.2 (87))), (4, .int x4)]) F.1 F.2.1 dL_law_1053 hl (by decide) rfl (fun ls hl => ?_)
  refine lv_aload_n F.1 F.2.1 dL_law_1055 rfl (lv_at hl 3 rfl) ?_
  refine lv_aload_n F.1 F.2.1 dL_law_1056 rfl (lv_at hl 1 rfl) ?_
  refine lv_iload F.1 F.2.1 dL_law_1057 (lv_at hl 5 rfl) ?_
  refine lv_iconst (v := 1) F.1 F.2.1 dL_law_1059 (by decide) ?_
  refine lv_iadd F.1 F.2.1 dL_law_1060 ?_
  refine va_sld F.1 F.2.1 hX hbl hbA w.S g1 dL_law_1061 ?_
  rw [e1]
  obtain ⟨r4, S3, hc, hf⟩ := oi_b hf
  refine k_i0 (S' := S3) (r := r4) w (runV (As := [.int v1]) (rest := []) (kb := 80) F w (k_X9_isCyclicRuler l x S1 v1 hc H.size) cy_X9_isCyclicRuler q1044 q1045 q1046 ⟨rfl, rfl⟩ ⟨Nat.le_of_ble_eq_true rfl, Nat.le_of_ble_eq_true rfl⟩ (by decide) rfl rfl rfl rfl hl.1 (Nat.le_of_ble_eq_true rfl) (cap_le2 hcap (by decide) (by decide)) dL_law_1062) (fun H locs w => ?_)
  refine lv_istore (lv' := [(6, .int r4), (5, .int r2), (0, .ref b), (1, .ref (x.2.2 (79))), (2, .ref (x.2.2 (80))), (3, .ref (x.2.2 (87))), (4, .int x4)]) F.1 F.2.1 dL_law_1065 hl (by decide) rfl (fun ls hl => ?_)
  refine lv_aload_n F.1 F.2.1 dL_law_1067 rfl (lv_at hl 4 rfl) ?_
  obtain ⟨r6, S5, hc, hf⟩ := oi_b hf
  refine k_i0 (S' := S5) (r := r6) w (runV (As := []) (rest := []) (kb := 80) F w (k_X9_thrown l x S3 hc H.size) cy_X9_thrown q894 q895 q896 ⟨rfl, rfl⟩ ⟨Nat.le_of_ble_eq_true rfl, Nat.le_of_ble_eq_true rfl⟩ (by decide) rfl rfl rfl rfl hl.1 (Nat.le_of_ble_eq_true rfl) (cap_le2 hcap (by decide) (by decide)) dL_law_1068) (fun H locs w => ?_)
  refine lv_iload F.1 F.2.1 dL_law_1071 (lv_at hl 1 rfl) ?_
  refine lv_icmp_eq (tgt := 1078) F.1 F.2.1 dL_law_1073 (by decide) (fun c7 => ?_) (fun c7 => ?_)
  · replace hf := oi_t hf c7
    refine lv_iload F.1 F.2.1 dL_law_1078 (lv_at hl 1 rfl) ?_
    refine lv_if_ne (tgt := 1102) F.1 F.2.1 dL_law_1080 (by decide) (fun c8 => ?_) (fun c8 => ?_)
    · replace hf := oi_f hf c8
      refine lv_goto (tgt := 2071) F.1 F.2.1 dL_law_1102 (by decide) ?_
      have hS := oi_s hf
      subst hS
      refine W.widen (k := kc + 8) (n := ks + 48) (by omega) (by omega) ?_
      exact hnext _ _ _ w (lv_sub hl [2, 3, 4, 5, 6] rfl)
    · replace hf := oi_t hf c8
      refine lv_aload_n F.1 F.2.1 dL_law_1083 rfl (lv_at hl 5 rfl) ?_
      refine lv_iconst (v := 0) F.1 F.2.1 dL_law_1084 (by decide) ?_
      refine r_lald F w (k := 87) (n := 1) (f := al S5 5) (by decide) rfl (by decide) dL_law_1085 ?_
      refine lv_iload F.1 F.2.1 dL_law_1086 (lv_at hl 0 rfl) ?_
      refine lv_if_eq (tgt := 1095) F.1 F.2.1 dL_law_1088 (by decide) (fun c9 => ?_) (fun c9 => ?_)
      · replace hf := oi_t hf c9
        refine lv_lconst (v := 0) F.1 F.2.1 dL_law_1095 (by decide) ?_
        refine W.lcmp F.1 F.2.1 dL_law_1096 ?_
        refine lv_if_eq (tgt := 1102) F.1 F.2.1 dL_law_1097 (by decide) (fun c10 => ?_) (fun c10 => ?_)
        · replace hf := oi_t hf c10
          refine lv_goto (tgt := 2071) F.1 F.2.1 dL_law_1102 (by decide) ?_
          have hS := oi_s hf
          subst hS
          refine W.widen (k := kc + 8) (n := ks + 48) (by omega) (by omega) ?_
          exact hnext _ _ _ w (lv_sub hl [2, 3, 4, 5, 6] rfl)
        · replace hf := oi_f hf c10
          cases hf
      · replace hf := oi_f hf c9
        refine lv_lconst (v := 1) F.1 F.2.1 dL_law_1091 (by decide) ?_
        refine lv_goto (tgt := 1096) F.1 F.2.1 dL_law_1092 (by decide) ?_
        refine W.lcmp F.1 F.2.1 dL_law_1096 ?_
        refine lv_if_eq (tgt := 1102) F.1 F.2.1 dL_law_1097 (by decide) (fun c11 => ?_) (fun c11 => ?_)
        · replace hf := oi_t hf c11
          refine lv_goto (tgt := 2071) F.1 F.2.1 dL_law_1102 (by decide) ?_
          have hS := oi_s hf
          subst hS
          refine W.widen (k := kc + 8) (n := ks + 48) (by omega) (by omega) ?_
          exact hnext _ _ _ w (lv_sub hl [2, 3, 4, 5, 6] rfl)
        · replace hf := oi_f hf c11
          cases hf
  · replace hf := oi_f hf c7
    cases hf
def g_index (S : ST) (v1 : Int32) : Option ST := oB (f_L_index S v1) (fun (r2 : Int32) (S1 : ST) => oB (f_X9_index S1 v1) (fun (r4 : Int32) (S3 : ST) => oB (f_X9_thrown S3) (fun (r6 : Int32) (S5 : ST) => (if r6 = r2 then (if r2 = 0 then (if (lg_cmp (al S5 5 (Int32.toNatClampNeg 0)) (Int32.toInt64 r4)) = 0 then some S5 else none) else some S5) else none))))
set_option maxHeartbeats 4000000 in
set_option maxRecDepth 100000 in
theorem lc_index {p : Program} {l : Launch} {e : Env} {s : State} {m : MethodId} {below : List Frame} {meth : Method} {c : Code} {x : CX} {b L : Nat} {xs : Nat → Int32} {ret : Option FieldType} {Q : State → Prop} (F : MF p m meth c cL_law 7 s #[Value.ref b] RL ret) (hX : va_X b L xs s s.heap) (hbl : b < s.heap.size) (hbA : ¬ AA x s.heap.size b) (hls : l.stackTraces = false) {kc ks : Nat} (hcap : kc + 8 ≤ 601024 ∧ ks + 48 ≤ 7293034) {S S' : ST} {H : Heap} {locs : List Loc} {ls : Array Slot} (w : WD x s S H locs) {x4 : Int32} {v1 : Int32} (g1 : vp_in (x4 + 1) L) (e1 : xs (x4 + 1).toNatClampNeg = v1) (hl : lv_has ls 7 [(0, .ref b), (1, .ref (x.2.2 79)), (2, .ref (x.2.2 80)), (3, .ref (x.2.2 87)), (4, .int x4)]) (hf : g_index S v1 = some S') (hnext : ∀ (H : Heap) (locs : List Loc) (ls : Array Slot), WD x s S' H locs → lv_has ls 7 [(0, .ref b), (1, .ref (x.2.2 79)), (2, .ref (x.2.2 80)), (3, .ref (x.2.2 87)), (4, .int x4)] → W p l e room_1 s m #[Value.ref b] below meth c H locs (kc + 8) (ks + 48) Q (F0 m 2071 ls [])) : W p l e room_1 s m #[Value.ref b] below meth c H locs kc ks Q (F0 m 1105 ls []) := by
  unfold g_index at hf
  refine lv_aload_n F.1 F.2.1 dL_law_1105 rfl (lv_at hl 1 rfl) ?_
  refine lv_aload_n F.1 F.2.1 dL_law_1106 rfl (lv_at hl 0 rfl) ?_
  refine lv_iload F.1 F.2.1 dL_law_1107 (lv_at hl 4 rfl) ?_
  refine lv_iconst (v := 1) F.1 F.2.1 dL_law_1109 (by decide) ?_
  refine lv_iadd F.1 F.2.1 dL_law_1110 ?_
  refine va_sld F.1 F.2.1 hX hbl hbA w.S g1 dL_law_1111 ?_
  rw [e1]
  refine lv_aload_n F.1 F.2.1 dL_law_1112 rfl (lv_at hl 3 rfl) ?_
  obtain ⟨r2, S1, hc, hf⟩ := oi_b hf
  refine k_i (S' := S1) (r := r2) w (runSW (As := [.ref (x.2.2 (79)), .int v1, .ref (x.2.2 (87))]) (rest := []) F w (k_L_index l x S v1 hc hls H.size) cyw_index q611 q612 ⟨rfl, rfl⟩ ⟨Nat.le_of_ble_eq_true rfl, Nat.le_of_ble_eq_true rfl⟩ rfl rfl hl.1 (Nat.le_of_ble_eq_true rfl) (cap_le hcap (by decide) (by decide)) dL_law_1113) (fun H locs w => ?_)
  refine lv_istore (lv' := [(5, .int r2), (0, .ref b), (1, .ref (x.2.2 (79))), (2, .ref (x.2.2 (80))), (3, .ref (x.2.2 (87))), (4, .int x4)]) F.1 F.2.1 dL_law_1116 hl (by decide) rfl (fun ls hl => ?_)
  refine lv_aload_n F.1 F.2.1 dL_law_1118 rfl (lv_at hl 3 rfl) ?_
  refine lv_aload_n F.1 F.2.1 dL_law_1119 rfl (lv_at hl 1 rfl) ?_
  refine lv_iload F.1 F.2.1 dL_law_1120 (lv_at hl 5 rfl) ?_
  refine lv_iconst (v := 1) F.1 F.2.1 dL_law_1122 (by decide) ?_
  refine lv_iadd F.1 F.2.1 dL_law_1123 ?_
  refine va_sld F.1 F.2.1 hX hbl hbA w.S g1 dL_law_1124 ?_
  rw [e1]
  obtain ⟨r4, S3, hc, hf⟩ := oi_b hf
  refine k_i0 (S' := S3) (r := r4) w (runV (As := [.int v1]) (rest := []) (kb := 80) F w (k_X9_index l x S1 v1 hc H.size) cy_X9_index q1052 q1053 q1054 ⟨rfl, rfl⟩ ⟨Nat.le_of_ble_eq_true rfl, Nat.le_of_ble_eq_true rfl⟩ (by decide) rfl rfl rfl rfl hl.1 (Nat.le_of_ble_eq_true rfl) (cap_le2 hcap (by decide) (by decide)) dL_law_1125) (fun H locs w => ?_)
  refine lv_istore (lv' := [(6, .int r4), (5, .int r2), (0, .ref b), (1, .ref (x.2.2 (79))), (2, .ref (x.2.2 (80))), (3, .ref (x.2.2 (87))), (4, .int x4)]) F.1 F.2.1 dL_law_1128 hl (by decide) rfl (fun ls hl => ?_)
  refine lv_aload_n F.1 F.2.1 dL_law_1130 rfl (lv_at hl 4 rfl) ?_
  obtain ⟨r6, S5, hc, hf⟩ := oi_b hf
  refine k_i0 (S' := S5) (r := r6) w (runV (As := []) (rest := []) (kb := 80) F w (k_X9_thrown l x S3 hc H.size) cy_X9_thrown q894 q895 q896 ⟨rfl, rfl⟩ ⟨Nat.le_of_ble_eq_true rfl, Nat.le_of_ble_eq_true rfl⟩ (by decide) rfl rfl rfl rfl hl.1 (Nat.le_of_ble_eq_true rfl) (cap_le2 hcap (by decide) (by decide)) dL_law_1131) (fun H locs w => ?_)
  refine lv_iload F.1 F.2.1 dL_law_1134 (lv_at hl 1 rfl) ?_
  refine lv_icmp_eq (tgt := 1141) F.1 F.2.1 dL_law_1136 (by decide) (fun c7 => ?_) (fun c7 => ?_)
  · replace hf := oi_t hf c7
    refine lv_iload F.1 F.2.1 dL_law_1141 (lv_at hl 1 rfl) ?_
    refine lv_if_ne (tgt := 1158) F.1 F.2.1 dL_law_1143 (by decide) (fun c8 => ?_) (fun c8 => ?_)
    · replace hf := oi_f hf c8
      refine lv_goto (tgt := 2071) F.1 F.2.1 dL_law_1158 (by decide) ?_
      have hS := oi_s hf
      subst hS
      refine W.widen (k := kc + 8) (n := ks + 48) (by omega) (by omega) ?_
      exact hnext _ _ _ w (lv_sub hl [2, 3, 4, 5, 6] rfl)
    · replace hf := oi_t hf c8
      refine lv_aload_n F.1 F.2.1 dL_law_1146 rfl (lv_at hl 5 rfl) ?_
      refine lv_iconst (v := 0) F.1 F.2.1 dL_law_1147 (by decide) ?_
      refine r_lald F w (k := 87) (n := 1) (f := al S5 5) (by decide) rfl (by decide) dL_law_1148 ?_
      refine lv_iload F.1 F.2.1 dL_law_1149 (lv_at hl 0 rfl) ?_
      refine lv_i2l (v := Int32.toInt64 r4) F.1 F.2.1 dL_law_1151 rfl ?_
      refine W.lcmp F.1 F.2.1 dL_law_1152 ?_
      refine lv_if_eq (tgt := 1158) F.1 F.2.1 dL_law_1153 (by decide) (fun c9 => ?_) (fun c9 => ?_)
      · replace hf := oi_t hf c9
        refine lv_goto (tgt := 2071) F.1 F.2.1 dL_law_1158 (by decide) ?_
        have hS := oi_s hf
        subst hS
        refine W.widen (k := kc + 8) (n := ks + 48) (by omega) (by omega) ?_
        exact hnext _ _ _ w (lv_sub hl [2, 3, 4, 5, 6] rfl)
      · replace hf := oi_f hf c9
        cases hf
  · replace hf := oi_f hf c7
    cases hf
def g_map (S : ST) (v1 : Int32) (v2 : Int32) (v3 : Int32) (v4 : Int32) : Option ST := oB (f_L_map S v1 v2 v3 v4) (fun (r2 : Int32) (S1 : ST) => oB (f_X9_map S1 v1 v2 v3 v4) (fun (r4 : Int32) (S3 : ST) => oB (f_X9_thrown S3) (fun (r6 : Int32) (S5 : ST) => (if r6 = r2 then (if r2 = 0 then (if (lg_cmp (al S5 5 (Int32.toNatClampNeg 0)) (Int32.toInt64 r4)) = 0 then some S5 else none) else some S5) else none))))
set_option maxHeartbeats 4000000 in
set_option maxRecDepth 100000 in
theorem lc_map {p : Program} {l : Launch} {e : Env} {s : State} {m : MethodId} {below : List Frame} {meth : Method} {c : Code} {x : CX} {b L : Nat} {xs : Nat → Int32} {ret : Option FieldType} {Q : State → Prop} (F : MF p m meth c cL_law 7 s #[Value.ref b] RL ret) (hX : va_X b L xs s s.heap) (hbl : b < s.heap.size) (hbA : ¬ AA x s.heap.size b) (hls : l.stackTraces = false) {kc ks : Nat} (hcap : kc + 8 ≤ 601024 ∧ ks + 48 ≤ 7293034) {S S' : ST} {H : Heap} {locs : List Loc} {ls : Array Slot} (w : WD x s S H locs) {x4 : Int32} {v1 : Int32} (g1 : vp_in (x4 + 1) L) (e1 : xs (x4 + 1).toNatClampNeg = v1) {v2 : Int32} (g2 : vp_in (x4 + 2) L) (e2 : xs (x4 + 2).toNatClampNeg = v2) {v3 : Int32} (g3 : vp_in (x4 + 3) L) (e3 : xs (x4 + 3).toNatClampNeg = v3) {v4 : Int32} (g4 : vp_in (x4 + 4) L) (e4 : xs (x4 + 4).toNatClampNeg = v4) (hl : lv_has ls 7 [(0, .ref b), (1, .ref (x.2.2 79)), (2, .ref (x.2.2 80)), (3, .ref (x.2.2 87)), (4, .int x4)]) (hf : g_map S v1 v2 v3 v4 = some S') (hnext : ∀ (H : Heap) (locs : List Loc) (ls : Array Slot), WD x s S' H locs → lv_has ls 7 [(0, .ref b), (1, .ref (x.2.2 79)), (2, .ref (x.2.2 80)), (3, .ref (x.2.2 87)), (4, .int x4)] → W p l e room_1 s m #[Value.ref b] below meth c H locs (kc + 8) (ks + 48) Q (F0 m 2071 ls [])) : W p l e room_1 s m #[Value.ref b] below meth c H locs kc ks Q (F0 m 1161 ls []) := by
  unfold g_map at hf
  refine lv_aload_n F.1 F.2.1 dL_law_1161 rfl (lv_at hl 1 rfl) ?_
  refine lv_aload_n F.1 F.2.1 dL_law_1162 rfl (lv_at hl 0 rfl) ?_
  refine lv_iload F.1 F.2.1 dL_law_1163 (lv_at hl 4 rfl) ?_
  refine lv_iconst (v := 1) F.1 F.2.1 dL_law_1165 (by decide) ?_
  refine lv_iadd F.1 F.2.1 dL_law_1166 ?_
  refine va_sld F.1 F.2.1 hX hbl hbA w.S g1 dL_law_1167 ?_
  rw [e1]
  refine lv_aload_n F.1 F.2.1 dL_law_1168 rfl (lv_at hl 0 rfl) ?_
  refine lv_iload F.1 F.2.1 dL_law_1169 (lv_at hl 4 rfl) ?_
  refine lv_iconst (v := 2) F.1 F.2.1 dL_law_1171 (by decide) ?_
  refine lv_iadd F.1 F.2.1 dL_law_1172 ?_
  refine va_sld F.1 F.2.1 hX hbl hbA w.S g2 dL_law_1173 ?_
  rw [e2]
  refine lv_aload_n F.1 F.2.1 dL_law_1174 rfl (lv_at hl 0 rfl) ?_
  refine lv_iload F.1 F.2.1 dL_law_1175 (lv_at hl 4 rfl) ?_
  refine lv_iconst (v := 3) F.1 F.2.1 dL_law_1177 (by decide) ?_
  refine lv_iadd F.1 F.2.1 dL_law_1178 ?_
  refine va_sld F.1 F.2.1 hX hbl hbA w.S g3 dL_law_1179 ?_
  rw [e3]
  refine lv_aload_n F.1 F.2.1 dL_law_1180 rfl (lv_at hl 0 rfl) ?_
  refine lv_iload F.1 F.2.1 dL_law_1181 (lv_at hl 4 rfl) ?_
  refine lv_iconst (v := 4) F.1 F.2.1 dL_law_1183 (by decide) ?_
  refine lv_iadd F.1 F.2.1 dL_law_1184 ?_
  refine va_sld F.1 F.2.1 hX hbl hbA w.S g4 dL_law_1185 ?_
  rw [e4]
  refine lv_aload_n F.1 F.2.1 dL_law_1186 rfl (lv_at hl 3 rfl) ?_
  obtain ⟨r2, S1, hc, hf⟩ := oi_b hf
  refine k_i (S' := S1) (r := r2) w (runSW (As := [.ref (x.2.2 (79)), .int v1, .int v2, .int v3, .int v4, .ref (x.2.2 (87))]) (rest := []) F w (k_L_map l x S v1 v2 v3 v4 hc hls H.size) cyw_map q618 q619 ⟨rfl, rfl⟩ ⟨Nat.le_of_ble_eq_true rfl, Nat.le_of_ble_eq_true rfl⟩ rfl rfl hl.1 (Nat.le_of_ble_eq_true rfl) (cap_le hcap (by decide) (by decide)) dL_law_1187) (fun H locs w => ?_)
  refine lv_istore (lv' := [(5, .int r2), (0, .ref b), (1, .ref (x.2.2 (79))), (2, .ref (x.2.2 (80))), (3, .ref (x.2.2 (87))), (4, .int x4)]) F.1 F.2.1 dL_law_1190 hl (by decide) rfl (fun ls hl => ?_)
  refine lv_aload_n F.1 F.2.1 dL_law_1192 rfl (lv_at hl 3 rfl) ?_
  refine lv_aload_n F.1 F.2.1 dL_law_1193 rfl (lv_at hl 1 rfl) ?_
  refine lv_iload F.1 F.2.1 dL_law_1194 (lv_at hl 5 rfl) ?_
  refine lv_iconst (v := 1) F.1 F.2.1 dL_law_1196 (by decide) ?_
  refine lv_iadd F.1 F.2.1 dL_law_1197 ?_
  refine va_sld F.1 F.2.1 hX hbl hbA w.S g1 dL_law_1198 ?_
  rw [e1]
  refine lv_aload_n F.1 F.2.1 dL_law_1199 rfl (lv_at hl 1 rfl) ?_
  refine lv_iload F.1 F.2.1 dL_law_1200 (lv_at hl 5 rfl) ?_
  refine lv_iconst (v := 2) F.1 F.2.1 dL_law_1202 (by decide) ?_
  refine lv_iadd F.1 F.2.1 dL_law_1203 ?_
  refine va_sld F.1 F.2.1 hX hbl hbA w.S g2 dL_law_1204 ?_
  rw [e2]
  refine lv_aload_n F.1 F.2.1 dL_law_1205 rfl (lv_at hl 1 rfl) ?_
  refine lv_iload F.1 F.2.1 dL_law_1206 (lv_at hl 5 rfl) ?_
  refine lv_iconst (v := 3) F.1 F.2.1 dL_law_1208 (by decide) ?_
  refine lv_iadd F.1 F.2.1 dL_law_1209 ?_
  refine va_sld F.1 F.2.1 hX hbl hbA w.S g3 dL_law_1210 ?_
  rw [e3]
  refine lv_aload_n F.1 F.2.1 dL_law_1211 rfl (lv_at hl 1 rfl) ?_
  refine lv_iload F.1 F.2.1 dL_law_1212 (lv_at hl 5 rfl) ?_
  refine lv_iconst (v := 4) F.1 F.2.1 dL_law_1214 (by decide) ?_
  refine lv_iadd F.1 F.2.1 dL_law_1215 ?_
  refine va_sld F.1 F.2.1 hX hbl hbA w.S g4 dL_law_1216 ?_
  rw [e4]
  obtain ⟨r4, S3, hc, hf⟩ := oi_b hf
  refine k_i0 (S' := S3) (r := r4) w (runV (As := [.int v1, .int v2, .int v3, .int v4]) (rest := []) (kb := 80) F w (k_X9_map l x S1 v1 v2 v3 v4 hc H.size) cy_X9_map q1060 q1061 q1062 ⟨rfl, rfl⟩ ⟨Nat.le_of_ble_eq_true rfl, Nat.le_of_ble_eq_true rfl⟩ (by decide) rfl rfl rfl rfl hl.1 (Nat.le_of_ble_eq_true rfl) (cap_le2 hcap (by decide) (by decide)) dL_law_1217) (fun H locs w => ?_)
  refine lv_istore (lv' := [(6, .int r4), (5, .int r2), (0, .ref b), (1, .ref (x.2.2 (79))), (2, .ref (x.2.2 (80))), (3, .ref (x.2.2 (87))), (4, .int x4)]) F.1 F.2.1 dL_law_1220 hl (by decide) rfl (fun ls hl => ?_)
  refine lv_aload_n F.1 F.2.1 dL_law_1222 rfl (lv_at hl 4 rfl) ?_
  obtain ⟨r6, S5, hc, hf⟩ := oi_b hf
  refine k_i0 (S' := S5) (r := r6) w (runV (As := []) (rest := []) (kb := 80) F w (k_X9_thrown l x S3 hc H.size) cy_X9_thrown q894 q895 q896 ⟨rfl, rfl⟩ ⟨Nat.le_of_ble_eq_true rfl, Nat.le_of_ble_eq_true rfl⟩ (by decide) rfl rfl rfl rfl hl.1 (Nat.le_of_ble_eq_true rfl) (cap_le2 hcap (by decide) (by decide)) dL_law_1223) (fun H locs w => ?_)
  refine lv_iload F.1 F.2.1 dL_law_1226 (lv_at hl 1 rfl) ?_
  refine lv_icmp_eq (tgt := 1233) F.1 F.2.1 dL_law_1228 (by decide) (fun c7 => ?_) (fun c7 => ?_)
  · replace hf := oi_t hf c7
    refine lv_iload F.1 F.2.1 dL_law_1233 (lv_at hl 1 rfl) ?_
    refine lv_if_ne (tgt := 1250) F.1 F.2.1 dL_law_1235 (by decide) (fun c8 => ?_) (fun c8 => ?_)
    · replace hf := oi_f hf c8
      refine lv_goto (tgt := 2071) F.1 F.2.1 dL_law_1250 (by decide) ?_
      have hS := oi_s hf
      subst hS
      refine W.widen (k := kc + 8) (n := ks + 48) (by omega) (by omega) ?_
      exact hnext _ _ _ w (lv_sub hl [2, 3, 4, 5, 6] rfl)
    · replace hf := oi_t hf c8
      refine lv_aload_n F.1 F.2.1 dL_law_1238 rfl (lv_at hl 5 rfl) ?_
      refine lv_iconst (v := 0) F.1 F.2.1 dL_law_1239 (by decide) ?_
      refine r_lald F w (k := 87) (n := 1) (f := al S5 5) (by decide) rfl (by decide) dL_law_1240 ?_
      refine lv_iload F.1 F.2.1 dL_law_1241 (lv_at hl 0 rfl) ?_
      refine lv_i2l (v := Int32.toInt64 r4) F.1 F.2.1 dL_law_1243 rfl ?_
      refine W.lcmp F.1 F.2.1 dL_law_1244 ?_
      refine lv_if_eq (tgt := 1250) F.1 F.2.1 dL_law_1245 (by decide) (fun c9 => ?_) (fun c9 => ?_)
      · replace hf := oi_t hf c9
        refine lv_goto (tgt := 2071) F.1 F.2.1 dL_law_1250 (by decide) ?_
        have hS := oi_s hf
        subst hS
        refine W.widen (k := kc + 8) (n := ks + 48) (by omega) (by omega) ?_
        exact hnext _ _ _ w (lv_sub hl [2, 3, 4, 5, 6] rfl)
      · replace hf := oi_f hf c9
        cases hf
  · replace hf := oi_f hf c7
    cases hf
def g_complement (S : ST) (v1 : Int32) (v2 : Int32) : Option ST := oB (f_L_complement S v1 v2) (fun (r2 : Int32) (S1 : ST) => oB (f_X9_complement S1 v1 v2) (fun (r4 : Int32) (S3 : ST) => oB (f_X9_thrown S3) (fun (r6 : Int32) (S5 : ST) => (if r6 = r2 then (if r2 = 0 then (if (lg_cmp (al S5 5 (Int32.toNatClampNeg 0)) (Int32.toInt64 r4)) = 0 then some S5 else none) else some S5) else none))))
set_option maxHeartbeats 4000000 in
set_option maxRecDepth 100000 in
theorem lc_complement {p : Program} {l : Launch} {e : Env} {s : State} {m : MethodId} {below : List Frame} {meth : Method} {c : Code} {x : CX} {b L : Nat} {xs : Nat → Int32} {ret : Option FieldType} {Q : State → Prop} (F : MF p m meth c cL_law 7 s #[Value.ref b] RL ret) (hX : va_X b L xs s s.heap) (hbl : b < s.heap.size) (hbA : ¬ AA x s.heap.size b) (hls : l.stackTraces = false) {kc ks : Nat} (hcap : kc + 8 ≤ 601024 ∧ ks + 48 ≤ 7293034) {S S' : ST} {H : Heap} {locs : List Loc} {ls : Array Slot} (w : WD x s S H locs) {x4 : Int32} {v1 : Int32} (g1 : vp_in (x4 + 1) L) (e1 : xs (x4 + 1).toNatClampNeg = v1) {v2 : Int32} (g2 : vp_in (x4 + 2) L) (e2 : xs (x4 + 2).toNatClampNeg = v2) (hl : lv_has ls 7 [(0, .ref b), (1, .ref (x.2.2 79)), (2, .ref (x.2.2 80)), (3, .ref (x.2.2 87)), (4, .int x4)]) (hf : g_complement S v1 v2 = some S') (hnext : ∀ (H : Heap) (locs : List Loc) (ls : Array Slot), WD x s S' H locs → lv_has ls 7 [(0, .ref b), (1, .ref (x.2.2 79)), (2, .ref (x.2.2 80)), (3, .ref (x.2.2 87)), (4, .int x4)] → W p l e room_1 s m #[Value.ref b] below meth c H locs (kc + 8) (ks + 48) Q (F0 m 2071 ls [])) : W p l e room_1 s m #[Value.ref b] below meth c H locs kc ks Q (F0 m 1253 ls []) := by
  unfold g_complement at hf
  refine lv_aload_n F.1 F.2.1 dL_law_1253 rfl (lv_at hl 1 rfl) ?_
  refine lv_aload_n F.1 F.2.1 dL_law_1254 rfl (lv_at hl 0 rfl) ?_
  refine lv_iload F.1 F.2.1 dL_law_1255 (lv_at hl 4 rfl) ?_
  refine lv_iconst (v := 1) F.1 F.2.1 dL_law_1257 (by decide) ?_
  refine lv_iadd F.1 F.2.1 dL_law_1258 ?_
  refine va_sld F.1 F.2.1 hX hbl hbA w.S g1 dL_law_1259 ?_
  rw [e1]
  refine lv_aload_n F.1 F.2.1 dL_law_1260 rfl (lv_at hl 0 rfl) ?_
  refine lv_iload F.1 F.2.1 dL_law_1261 (lv_at hl 4 rfl) ?_
  refine lv_iconst (v := 2) F.1 F.2.1 dL_law_1263 (by decide) ?_
  refine lv_iadd F.1 F.2.1 dL_law_1264 ?_
  refine va_sld F.1 F.2.1 hX hbl hbA w.S g2 dL_law_1265 ?_
  rw [e2]
  refine lv_aload_n F.1 F.2.1 dL_law_1266 rfl (lv_at hl 3 rfl) ?_
  obtain ⟨r2, S1, hc, hf⟩ := oi_b hf
  refine k_i (S' := S1) (r := r2) w (runSW (As := [.ref (x.2.2 (79)), .int v1, .int v2, .ref (x.2.2 (87))]) (rest := []) F w (k_L_complement l x S v1 v2 hc hls H.size) cyw_complement q645 q646 ⟨rfl, rfl⟩ ⟨Nat.le_of_ble_eq_true rfl, Nat.le_of_ble_eq_true rfl⟩ rfl rfl hl.1 (Nat.le_of_ble_eq_true rfl) (cap_le hcap (by decide) (by decide)) dL_law_1267) (fun H locs w => ?_)
  refine lv_istore (lv' := [(5, .int r2), (0, .ref b), (1, .ref (x.2.2 (79))), (2, .ref (x.2.2 (80))), (3, .ref (x.2.2 (87))), (4, .int x4)]) F.1 F.2.1 dL_law_1270 hl (by decide) rfl (fun ls hl => ?_)
  refine lv_aload_n F.1 F.2.1 dL_law_1272 rfl (lv_at hl 3 rfl) ?_
  refine lv_aload_n F.1 F.2.1 dL_law_1273 rfl (lv_at hl 1 rfl) ?_
  refine lv_iload F.1 F.2.1 dL_law_1274 (lv_at hl 5 rfl) ?_
  refine lv_iconst (v := 1) F.1 F.2.1 dL_law_1276 (by decide) ?_
  refine lv_iadd F.1 F.2.1 dL_law_1277 ?_
  refine va_sld F.1 F.2.1 hX hbl hbA w.S g1 dL_law_1278 ?_
  rw [e1]
  refine lv_aload_n F.1 F.2.1 dL_law_1279 rfl (lv_at hl 1 rfl) ?_
  refine lv_iload F.1 F.2.1 dL_law_1280 (lv_at hl 5 rfl) ?_
  refine lv_iconst (v := 2) F.1 F.2.1 dL_law_1282 (by decide) ?_
  refine lv_iadd F.1 F.2.1 dL_law_1283 ?_
  refine va_sld F.1 F.2.1 hX hbl hbA w.S g2 dL_law_1284 ?_
  rw [e2]
  obtain ⟨r4, S3, hc, hf⟩ := oi_b hf
  refine k_i0 (S' := S3) (r := r4) w (runV (As := [.int v1, .int v2]) (rest := []) (kb := 80) F w (k_X9_complement l x S1 v1 v2 hc H.size) cy_X9_complement q1064 q1065 q1066 ⟨rfl, rfl⟩ ⟨Nat.le_of_ble_eq_true rfl, Nat.le_of_ble_eq_true rfl⟩ (by decide) rfl rfl rfl rfl hl.1 (Nat.le_of_ble_eq_true rfl) (cap_le2 hcap (by decide) (by decide)) dL_law_1285) (fun H locs w => ?_)
  refine lv_istore (lv' := [(6, .int r4), (5, .int r2), (0, .ref b), (1, .ref (x.2.2 (79))), (2, .ref (x.2.2 (80))), (3, .ref (x.2.2 (87))), (4, .int x4)]) F.1 F.2.1 dL_law_1288 hl (by decide) rfl (fun ls hl => ?_)
  refine lv_aload_n F.1 F.2.1 dL_law_1290 rfl (lv_at hl 4 rfl) ?_
  obtain ⟨r6, S5, hc, hf⟩ := oi_b hf
  refine k_i0 (S' := S5) (r := r6) w (runV (As := []) (rest := []) (kb := 80) F w (k_X9_thrown l x S3 hc H.size) cy_X9_thrown q894 q895 q896 ⟨rfl, rfl⟩ ⟨Nat.le_of_ble_eq_true rfl, Nat.le_of_ble_eq_true rfl⟩ (by decide) rfl rfl rfl rfl hl.1 (Nat.le_of_ble_eq_true rfl) (cap_le2 hcap (by decide) (by decide)) dL_law_1291) (fun H locs w => ?_)
  refine lv_iload F.1 F.2.1 dL_law_1294 (lv_at hl 1 rfl) ?_
  refine lv_icmp_eq (tgt := 1301) F.1 F.2.1 dL_law_1296 (by decide) (fun c7 => ?_) (fun c7 => ?_)
  · replace hf := oi_t hf c7
    refine lv_iload F.1 F.2.1 dL_law_1301 (lv_at hl 1 rfl) ?_
    refine lv_if_ne (tgt := 1318) F.1 F.2.1 dL_law_1303 (by decide) (fun c8 => ?_) (fun c8 => ?_)
    · replace hf := oi_f hf c8
      refine lv_goto (tgt := 2071) F.1 F.2.1 dL_law_1318 (by decide) ?_
      have hS := oi_s hf
      subst hS
      refine W.widen (k := kc + 8) (n := ks + 48) (by omega) (by omega) ?_
      exact hnext _ _ _ w (lv_sub hl [2, 3, 4, 5, 6] rfl)
    · replace hf := oi_t hf c8
      refine lv_aload_n F.1 F.2.1 dL_law_1306 rfl (lv_at hl 5 rfl) ?_
      refine lv_iconst (v := 0) F.1 F.2.1 dL_law_1307 (by decide) ?_
      refine r_lald F w (k := 87) (n := 1) (f := al S5 5) (by decide) rfl (by decide) dL_law_1308 ?_
      refine lv_iload F.1 F.2.1 dL_law_1309 (lv_at hl 0 rfl) ?_
      refine lv_i2l (v := Int32.toInt64 r4) F.1 F.2.1 dL_law_1311 rfl ?_
      refine W.lcmp F.1 F.2.1 dL_law_1312 ?_
      refine lv_if_eq (tgt := 1318) F.1 F.2.1 dL_law_1313 (by decide) (fun c9 => ?_) (fun c9 => ?_)
      · replace hf := oi_t hf c9
        refine lv_goto (tgt := 2071) F.1 F.2.1 dL_law_1318 (by decide) ?_
        have hS := oi_s hf
        subst hS
        refine W.widen (k := kc + 8) (n := ks + 48) (by omega) (by omega) ?_
        exact hnext _ _ _ w (lv_sub hl [2, 3, 4, 5, 6] rfl)
      · replace hf := oi_f hf c9
        cases hf
  · replace hf := oi_f hf c7
    cases hf
def g_reflect (S : ST) (v1 : Int32) (v2 : Int32) : Option ST := oB (f_L_reflect S v1 v2) (fun (r2 : Int32) (S1 : ST) => oB (f_X9_reflect S1 v1 v2) (fun (r4 : Int32) (S3 : ST) => oB (f_X9_thrown S3) (fun (r6 : Int32) (S5 : ST) => (if r6 = r2 then (if r2 = 0 then (if (lg_cmp (al S5 5 (Int32.toNatClampNeg 0)) (Int32.toInt64 r4)) = 0 then some S5 else none) else some S5) else none))))
set_option maxHeartbeats 4000000 in
set_option maxRecDepth 100000 in
theorem lc_reflect {p : Program} {l : Launch} {e : Env} {s : State} {m : MethodId} {below : List Frame} {meth : Method} {c : Code} {x : CX} {b L : Nat} {xs : Nat → Int32} {ret : Option FieldType} {Q : State → Prop} (F : MF p m meth c cL_law 7 s #[Value.ref b] RL ret) (hX : va_X b L xs s s.heap) (hbl : b < s.heap.size) (hbA : ¬ AA x s.heap.size b) (hls : l.stackTraces = false) {kc ks : Nat} (hcap : kc + 8 ≤ 601024 ∧ ks + 48 ≤ 7293034) {S S' : ST} {H : Heap} {locs : List Loc} {ls : Array Slot} (w : WD x s S H locs) {x4 : Int32} {v1 : Int32} (g1 : vp_in (x4 + 1) L) (e1 : xs (x4 + 1).toNatClampNeg = v1) {v2 : Int32} (g2 : vp_in (x4 + 2) L) (e2 : xs (x4 + 2).toNatClampNeg = v2) (hl : lv_has ls 7 [(0, .ref b), (1, .ref (x.2.2 79)), (2, .ref (x.2.2 80)), (3, .ref (x.2.2 87)), (4, .int x4)]) (hf : g_reflect S v1 v2 = some S') (hnext : ∀ (H : Heap) (locs : List Loc) (ls : Array Slot), WD x s S' H locs → lv_has ls 7 [(0, .ref b), (1, .ref (x.2.2 79)), (2, .ref (x.2.2 80)), (3, .ref (x.2.2 87)), (4, .int x4)] → W p l e room_1 s m #[Value.ref b] below meth c H locs (kc + 8) (ks + 48) Q (F0 m 2071 ls [])) : W p l e room_1 s m #[Value.ref b] below meth c H locs kc ks Q (F0 m 1321 ls []) := by
  unfold g_reflect at hf
  refine lv_aload_n F.1 F.2.1 dL_law_1321 rfl (lv_at hl 1 rfl) ?_
  refine lv_aload_n F.1 F.2.1 dL_law_1322 rfl (lv_at hl 0 rfl) ?_
  refine lv_iload F.1 F.2.1 dL_law_1323 (lv_at hl 4 rfl) ?_
  refine lv_iconst (v := 1) F.1 F.2.1 dL_law_1325 (by decide) ?_
  refine lv_iadd F.1 F.2.1 dL_law_1326 ?_
  refine va_sld F.1 F.2.1 hX hbl hbA w.S g1 dL_law_1327 ?_
  rw [e1]
  refine lv_aload_n F.1 F.2.1 dL_law_1328 rfl (lv_at hl 0 rfl) ?_
  refine lv_iload F.1 F.2.1 dL_law_1329 (lv_at hl 4 rfl) ?_
  refine lv_iconst (v := 2) F.1 F.2.1 dL_law_1331 (by decide) ?_
  refine lv_iadd F.1 F.2.1 dL_law_1332 ?_
  refine va_sld F.1 F.2.1 hX hbl hbA w.S g2 dL_law_1333 ?_
  rw [e2]
  refine lv_aload_n F.1 F.2.1 dL_law_1334 rfl (lv_at hl 3 rfl) ?_
  obtain ⟨r2, S1, hc, hf⟩ := oi_b hf
  refine k_i (S' := S1) (r := r2) w (runSW (As := [.ref (x.2.2 (79)), .int v1, .int v2, .ref (x.2.2 (87))]) (rest := []) F w (k_L_reflect l x S v1 v2 hc hls H.size) cyw_reflect q654 q655 ⟨rfl, rfl⟩ ⟨Nat.le_of_ble_eq_true rfl, Nat.le_of_ble_eq_true rfl⟩ rfl rfl hl.1 (Nat.le_of_ble_eq_true rfl) (cap_le hcap (by decide) (by decide)) dL_law_1335) (fun H locs w => ?_)
  refine lv_istore (lv' := [(5, .int r2), (0, .ref b), (1, .ref (x.2.2 (79))), (2, .ref (x.2.2 (80))), (3, .ref (x.2.2 (87))), (4, .int x4)]) F.1 F.2.1 dL_law_1338 hl (by decide) rfl (fun ls hl => ?_)
  refine lv_aload_n F.1 F.2.1 dL_law_1340 rfl (lv_at hl 3 rfl) ?_
  refine lv_aload_n F.1 F.2.1 dL_law_1341 rfl (lv_at hl 1 rfl) ?_
  refine lv_iload F.1 F.2.1 dL_law_1342 (lv_at hl 5 rfl) ?_
  refine lv_iconst (v := 1) F.1 F.2.1 dL_law_1344 (by decide) ?_
  refine lv_iadd F.1 F.2.1 dL_law_1345 ?_
  refine va_sld F.1 F.2.1 hX hbl hbA w.S g1 dL_law_1346 ?_
  rw [e1]
  refine lv_aload_n F.1 F.2.1 dL_law_1347 rfl (lv_at hl 1 rfl) ?_
  refine lv_iload F.1 F.2.1 dL_law_1348 (lv_at hl 5 rfl) ?_
  refine lv_iconst (v := 2) F.1 F.2.1 dL_law_1350 (by decide) ?_
  refine lv_iadd F.1 F.2.1 dL_law_1351 ?_
  refine va_sld F.1 F.2.1 hX hbl hbA w.S g2 dL_law_1352 ?_
  rw [e2]
  obtain ⟨r4, S3, hc, hf⟩ := oi_b hf
  refine k_i0 (S' := S3) (r := r4) w (runV (As := [.int v1, .int v2]) (rest := []) (kb := 80) F w (k_X9_reflect l x S1 v1 v2 hc H.size) cy_X9_reflect q1068 q1069 q1070 ⟨rfl, rfl⟩ ⟨Nat.le_of_ble_eq_true rfl, Nat.le_of_ble_eq_true rfl⟩ (by decide) rfl rfl rfl rfl hl.1 (Nat.le_of_ble_eq_true rfl) (cap_le2 hcap (by decide) (by decide)) dL_law_1353) (fun H locs w => ?_)
  refine lv_istore (lv' := [(6, .int r4), (5, .int r2), (0, .ref b), (1, .ref (x.2.2 (79))), (2, .ref (x.2.2 (80))), (3, .ref (x.2.2 (87))), (4, .int x4)]) F.1 F.2.1 dL_law_1356 hl (by decide) rfl (fun ls hl => ?_)
  refine lv_aload_n F.1 F.2.1 dL_law_1358 rfl (lv_at hl 4 rfl) ?_
  obtain ⟨r6, S5, hc, hf⟩ := oi_b hf
  refine k_i0 (S' := S5) (r := r6) w (runV (As := []) (rest := []) (kb := 80) F w (k_X9_thrown l x S3 hc H.size) cy_X9_thrown q894 q895 q896 ⟨rfl, rfl⟩ ⟨Nat.le_of_ble_eq_true rfl, Nat.le_of_ble_eq_true rfl⟩ (by decide) rfl rfl rfl rfl hl.1 (Nat.le_of_ble_eq_true rfl) (cap_le2 hcap (by decide) (by decide)) dL_law_1359) (fun H locs w => ?_)
  refine lv_iload F.1 F.2.1 dL_law_1362 (lv_at hl 1 rfl) ?_
  refine lv_icmp_eq (tgt := 1369) F.1 F.2.1 dL_law_1364 (by decide) (fun c7 => ?_) (fun c7 => ?_)
  · replace hf := oi_t hf c7
    refine lv_iload F.1 F.2.1 dL_law_1369 (lv_at hl 1 rfl) ?_
    refine lv_if_ne (tgt := 1386) F.1 F.2.1 dL_law_1371 (by decide) (fun c8 => ?_) (fun c8 => ?_)
    · replace hf := oi_f hf c8
      refine lv_goto (tgt := 2071) F.1 F.2.1 dL_law_1386 (by decide) ?_
      have hS := oi_s hf
      subst hS
      refine W.widen (k := kc + 8) (n := ks + 48) (by omega) (by omega) ?_
      exact hnext _ _ _ w (lv_sub hl [2, 3, 4, 5, 6] rfl)
    · replace hf := oi_t hf c8
      refine lv_aload_n F.1 F.2.1 dL_law_1374 rfl (lv_at hl 5 rfl) ?_
      refine lv_iconst (v := 0) F.1 F.2.1 dL_law_1375 (by decide) ?_
      refine r_lald F w (k := 87) (n := 1) (f := al S5 5) (by decide) rfl (by decide) dL_law_1376 ?_
      refine lv_iload F.1 F.2.1 dL_law_1377 (lv_at hl 0 rfl) ?_
      refine lv_i2l (v := Int32.toInt64 r4) F.1 F.2.1 dL_law_1379 rfl ?_
      refine W.lcmp F.1 F.2.1 dL_law_1380 ?_
      refine lv_if_eq (tgt := 1386) F.1 F.2.1 dL_law_1381 (by decide) (fun c9 => ?_) (fun c9 => ?_)
      · replace hf := oi_t hf c9
        refine lv_goto (tgt := 2071) F.1 F.2.1 dL_law_1386 (by decide) ?_
        have hS := oi_s hf
        subst hS
        refine W.widen (k := kc + 8) (n := ks + 48) (by omega) (by omega) ?_
        exact hnext _ _ _ w (lv_sub hl [2, 3, 4, 5, 6] rfl)
      · replace hf := oi_f hf c9
        cases hf
  · replace hf := oi_f hf c7
    cases hf
def g_multipliers (S : ST) (v1 : Int32) : Option ST := oB (f_L_multipliers S v1) (fun (r2 : Int32) (S1 : ST) => oB (f_X9_multipliers S1 v1) (fun (r4 : Int32) (S3 : ST) => oB (f_X9_thrown S3) (fun (r6 : Int32) (S5 : ST) => (if r6 = r2 then (if r2 = 0 then (if (lg_cmp (al S5 5 (Int32.toNatClampNeg 0)) (Int32.toInt64 r4)) = 0 then some S5 else none) else some S5) else none))))
set_option maxHeartbeats 4000000 in
set_option maxRecDepth 100000 in
theorem lc_multipliers {p : Program} {l : Launch} {e : Env} {s : State} {m : MethodId} {below : List Frame} {meth : Method} {c : Code} {x : CX} {b L : Nat} {xs : Nat → Int32} {ret : Option FieldType} {Q : State → Prop} (F : MF p m meth c cL_law 7 s #[Value.ref b] RL ret) (hX : va_X b L xs s s.heap) (hbl : b < s.heap.size) (hbA : ¬ AA x s.heap.size b) (hls : l.stackTraces = false) {kc ks : Nat} (hcap : kc + 8 ≤ 601024 ∧ ks + 48 ≤ 7293034) {S S' : ST} {H : Heap} {locs : List Loc} {ls : Array Slot} (w : WD x s S H locs) {x4 : Int32} {v1 : Int32} (g1 : vp_in (x4 + 1) L) (e1 : xs (x4 + 1).toNatClampNeg = v1) (hl : lv_has ls 7 [(0, .ref b), (1, .ref (x.2.2 79)), (2, .ref (x.2.2 80)), (3, .ref (x.2.2 87)), (4, .int x4)]) (hf : g_multipliers S v1 = some S') (hnext : ∀ (H : Heap) (locs : List Loc) (ls : Array Slot), WD x s S' H locs → lv_has ls 7 [(0, .ref b), (1, .ref (x.2.2 79)), (2, .ref (x.2.2 80)), (3, .ref (x.2.2 87)), (4, .int x4)] → W p l e room_1 s m #[Value.ref b] below meth c H locs (kc + 8) (ks + 48) Q (F0 m 2071 ls [])) : W p l e room_1 s m #[Value.ref b] below meth c H locs kc ks Q (F0 m 1389 ls []) := by
  unfold g_multipliers at hf
  refine lv_aload_n F.1 F.2.1 dL_law_1389 rfl (lv_at hl 1 rfl) ?_
  refine lv_aload_n F.1 F.2.1 dL_law_1390 rfl (lv_at hl 0 rfl) ?_
  refine lv_iload F.1 F.2.1 dL_law_1391 (lv_at hl 4 rfl) ?_
  refine lv_iconst (v := 1) F.1 F.2.1 dL_law_1393 (by decide) ?_
  refine lv_iadd F.1 F.2.1 dL_law_1394 ?_
  refine va_sld F.1 F.2.1 hX hbl hbA w.S g1 dL_law_1395 ?_
  rw [e1]
  refine lv_aload_n F.1 F.2.1 dL_law_1396 rfl (lv_at hl 3 rfl) ?_
  obtain ⟨r2, S1, hc, hf⟩ := oi_b hf
  refine k_i (S' := S1) (r := r2) w (runSW (As := [.ref (x.2.2 (79)), .int v1, .ref (x.2.2 (87))]) (rest := []) F w (k_L_multipliers l x S v1 hc hls H.size) cyw_multipliers q661 q662 ⟨rfl, rfl⟩ ⟨Nat.le_of_ble_eq_true rfl, Nat.le_of_ble_eq_true rfl⟩ rfl rfl hl.1 (Nat.le_of_ble_eq_true rfl) (cap_le hcap (by decide) (by decide)) dL_law_1397) (fun H locs w => ?_)
  refine lv_istore (lv' := [(5, .int r2), (0, .ref b), (1, .ref (x.2.2 (79))), (2, .ref (x.2.2 (80))), (3, .ref (x.2.2 (87))), (4, .int x4)]) F.1 F.2.1 dL_law_1400 hl (by decide) rfl (fun ls hl => ?_)
  refine lv_aload_n F.1 F.2.1 dL_law_1402 rfl (lv_at hl 3 rfl) ?_
  refine lv_aload_n F.1 F.2.1 dL_law_1403 rfl (lv_at hl 1 rfl) ?_
  refine lv_iload F.1 F.2.1 dL_law_1404 (lv_at hl 5 rfl) ?_
  refine lv_iconst (v := 1) F.1 F.2.1 dL_law_1406 (by decide) ?_
  refine lv_iadd F.1 F.2.1 dL_law_1407 ?_
  refine va_sld F.1 F.2.1 hX hbl hbA w.S g1 dL_law_1408 ?_
  rw [e1]
  obtain ⟨r4, S3, hc, hf⟩ := oi_b hf
  refine k_i0 (S' := S3) (r := r4) w (runV (As := [.int v1]) (rest := []) (kb := 80) F w (k_X9_multipliers l x S1 v1 hc H.size) cy_X9_multipliers q1072 q1073 q1074 ⟨rfl, rfl⟩ ⟨Nat.le_of_ble_eq_true rfl, Nat.le_of_ble_eq_true rfl⟩ (by decide) rfl rfl rfl rfl hl.1 (Nat.le_of_ble_eq_true rfl) (cap_le2 hcap (by decide) (by decide)) dL_law_1409) (fun H locs w => ?_)
  refine lv_istore (lv' := [(6, .int r4), (5, .int r2), (0, .ref b), (1, .ref (x.2.2 (79))), (2, .ref (x.2.2 (80))), (3, .ref (x.2.2 (87))), (4, .int x4)]) F.1 F.2.1 dL_law_1412 hl (by decide) rfl (fun ls hl => ?_)
  refine lv_aload_n F.1 F.2.1 dL_law_1414 rfl (lv_at hl 4 rfl) ?_
  obtain ⟨r6, S5, hc, hf⟩ := oi_b hf
  refine k_i0 (S' := S5) (r := r6) w (runV (As := []) (rest := []) (kb := 80) F w (k_X9_thrown l x S3 hc H.size) cy_X9_thrown q894 q895 q896 ⟨rfl, rfl⟩ ⟨Nat.le_of_ble_eq_true rfl, Nat.le_of_ble_eq_true rfl⟩ (by decide) rfl rfl rfl rfl hl.1 (Nat.le_of_ble_eq_true rfl) (cap_le2 hcap (by decide) (by decide)) dL_law_1415) (fun H locs w => ?_)
  refine lv_iload F.1 F.2.1 dL_law_1418 (lv_at hl 1 rfl) ?_
  refine lv_icmp_eq (tgt := 1425) F.1 F.2.1 dL_law_1420 (by decide) (fun c7 => ?_) (fun c7 => ?_)
  · replace hf := oi_t hf c7
    refine lv_iload F.1 F.2.1 dL_law_1425 (lv_at hl 1 rfl) ?_
    refine lv_if_ne (tgt := 1442) F.1 F.2.1 dL_law_1427 (by decide) (fun c8 => ?_) (fun c8 => ?_)
    · replace hf := oi_f hf c8
      refine lv_goto (tgt := 2071) F.1 F.2.1 dL_law_1442 (by decide) ?_
      have hS := oi_s hf
      subst hS
      refine W.widen (k := kc + 8) (n := ks + 48) (by omega) (by omega) ?_
      exact hnext _ _ _ w (lv_sub hl [2, 3, 4, 5, 6] rfl)
    · replace hf := oi_t hf c8
      refine lv_aload_n F.1 F.2.1 dL_law_1430 rfl (lv_at hl 5 rfl) ?_
      refine lv_iconst (v := 0) F.1 F.2.1 dL_law_1431 (by decide) ?_
      refine r_lald F w (k := 87) (n := 1) (f := al S5 5) (by decide) rfl (by decide) dL_law_1432 ?_
      refine lv_iload F.1 F.2.1 dL_law_1433 (lv_at hl 0 rfl) ?_
      refine lv_i2l (v := Int32.toInt64 r4) F.1 F.2.1 dL_law_1435 rfl ?_
      refine W.lcmp F.1 F.2.1 dL_law_1436 ?_
      refine lv_if_eq (tgt := 1442) F.1 F.2.1 dL_law_1437 (by decide) (fun c9 => ?_) (fun c9 => ?_)
      · replace hf := oi_t hf c9
        refine lv_goto (tgt := 2071) F.1 F.2.1 dL_law_1442 (by decide) ?_
        have hS := oi_s hf
        subst hS
        refine W.widen (k := kc + 8) (n := ks + 48) (by omega) (by omega) ?_
        exact hnext _ _ _ w (lv_sub hl [2, 3, 4, 5, 6] rfl)
      · replace hf := oi_f hf c9
        cases hf
  · replace hf := oi_f hf c7
    cases hf
def g_canonical (S : ST) (v1 : Int32) (v2 : Int32) : Option ST := oB (f_L_canonical S v1 v2) (fun (r2 : Int32) (S1 : ST) => oB (f_X9_canonical S1 v1 v2) (fun (r4 : Int32) (S3 : ST) => oB (f_X9_thrown S3) (fun (r6 : Int32) (S5 : ST) => (if r6 = r2 then (if r2 = 0 then (if (lg_cmp (al S5 5 (Int32.toNatClampNeg 0)) (Int32.toInt64 r4)) = 0 then some S5 else none) else some S5) else none))))
set_option maxHeartbeats 4000000 in
set_option maxRecDepth 100000 in
theorem lc_canonical {p : Program} {l : Launch} {e : Env} {s : State} {m : MethodId} {below : List Frame} {meth : Method} {c : Code} {x : CX} {b L : Nat} {xs : Nat → Int32} {ret : Option FieldType} {Q : State → Prop} (F : MF p m meth c cL_law 7 s #[Value.ref b] RL ret) (hX : va_X b L xs s s.heap) (hbl : b < s.heap.size) (hbA : ¬ AA x s.heap.size b) (hls : l.stackTraces = false) {kc ks : Nat} (hcap : kc + 8 ≤ 601024 ∧ ks + 48 ≤ 7293034) {S S' : ST} {H : Heap} {locs : List Loc} {ls : Array Slot} (w : WD x s S H locs) {x4 : Int32} {v1 : Int32} (g1 : vp_in (x4 + 1) L) (e1 : xs (x4 + 1).toNatClampNeg = v1) {v2 : Int32} (g2 : vp_in (x4 + 2) L) (e2 : xs (x4 + 2).toNatClampNeg = v2) (hl : lv_has ls 7 [(0, .ref b), (1, .ref (x.2.2 79)), (2, .ref (x.2.2 80)), (3, .ref (x.2.2 87)), (4, .int x4)]) (hf : g_canonical S v1 v2 = some S') (hnext : ∀ (H : Heap) (locs : List Loc) (ls : Array Slot), WD x s S' H locs → lv_has ls 7 [(0, .ref b), (1, .ref (x.2.2 79)), (2, .ref (x.2.2 80)), (3, .ref (x.2.2 87)), (4, .int x4)] → W p l e room_1 s m #[Value.ref b] below meth c H locs (kc + 8) (ks + 48) Q (F0 m 2071 ls [])) : W p l e room_1 s m #[Value.ref b] below meth c H locs kc ks Q (F0 m 1445 ls []) := by
  unfold g_canonical at hf
  refine lv_aload_n F.1 F.2.1 dL_law_1445 rfl (lv_at hl 1 rfl) ?_
  refine lv_aload_n F.1 F.2.1 dL_law_1446 rfl (lv_at hl 0 rfl) ?_
  refine lv_iload F.1 F.2.1 dL_law_1447 (lv_at hl 4 rfl) ?_
  refine lv_iconst (v := 1) F.1 F.2.1 dL_law_1449 (by decide) ?_
  refine lv_iadd F.1 F.2.1 dL_law_1450 ?_
  refine va_sld F.1 F.2.1 hX hbl hbA w.S g1 dL_law_1451 ?_
  rw [e1]
  refine lv_aload_n F.1 F.2.1 dL_law_1452 rfl (lv_at hl 0 rfl) ?_
  refine lv_iload F.1 F.2.1 dL_law_1453 (lv_at hl 4 rfl) ?_
  refine lv_iconst (v := 2) F.1 F.2.1 dL_law_1455 (by decide) ?_
  refine lv_iadd F.1 F.2.1 dL_law_1456 ?_
  refine va_sld F.1 F.2.1 hX hbl hbA w.S g2 dL_law_1457 ?_
  rw [e2]
  refine lv_aload_n F.1 F.2.1 dL_law_1458 rfl (lv_at hl 3 rfl) ?_
  obtain ⟨r2, S1, hc, hf⟩ := oi_b hf
  refine k_i (S' := S1) (r := r2) w (runSW (As := [.ref (x.2.2 (79)), .int v1, .int v2, .ref (x.2.2 (87))]) (rest := []) F w (k_L_canonical l x S v1 v2 hc hls H.size) cyw_canonical q668 q669 ⟨rfl, rfl⟩ ⟨Nat.le_of_ble_eq_true rfl, Nat.le_of_ble_eq_true rfl⟩ rfl rfl hl.1 (Nat.le_of_ble_eq_true rfl) (cap_le hcap (by decide) (by decide)) dL_law_1459) (fun H locs w => ?_)
  refine lv_istore (lv' := [(5, .int r2), (0, .ref b), (1, .ref (x.2.2 (79))), (2, .ref (x.2.2 (80))), (3, .ref (x.2.2 (87))), (4, .int x4)]) F.1 F.2.1 dL_law_1462 hl (by decide) rfl (fun ls hl => ?_)
  refine lv_aload_n F.1 F.2.1 dL_law_1464 rfl (lv_at hl 3 rfl) ?_
  refine lv_aload_n F.1 F.2.1 dL_law_1465 rfl (lv_at hl 1 rfl) ?_
  refine lv_iload F.1 F.2.1 dL_law_1466 (lv_at hl 5 rfl) ?_
  refine lv_iconst (v := 1) F.1 F.2.1 dL_law_1468 (by decide) ?_
  refine lv_iadd F.1 F.2.1 dL_law_1469 ?_
  refine va_sld F.1 F.2.1 hX hbl hbA w.S g1 dL_law_1470 ?_
  rw [e1]
  refine lv_aload_n F.1 F.2.1 dL_law_1471 rfl (lv_at hl 1 rfl) ?_
  refine lv_iload F.1 F.2.1 dL_law_1472 (lv_at hl 5 rfl) ?_
  refine lv_iconst (v := 2) F.1 F.2.1 dL_law_1474 (by decide) ?_
  refine lv_iadd F.1 F.2.1 dL_law_1475 ?_
  refine va_sld F.1 F.2.1 hX hbl hbA w.S g2 dL_law_1476 ?_
  rw [e2]
  obtain ⟨r4, S3, hc, hf⟩ := oi_b hf
  refine k_i0 (S' := S3) (r := r4) w (runV (As := [.int v1, .int v2]) (rest := []) (kb := 80) F w (k_X9_canonical l x S1 v1 v2 hc H.size) cy_X9_canonical q1091 q1092 q1093 ⟨rfl, rfl⟩ ⟨Nat.le_of_ble_eq_true rfl, Nat.le_of_ble_eq_true rfl⟩ (by decide) rfl rfl rfl rfl hl.1 (Nat.le_of_ble_eq_true rfl) (cap_le2 hcap (by decide) (by decide)) dL_law_1477) (fun H locs w => ?_)
  refine lv_istore (lv' := [(6, .int r4), (5, .int r2), (0, .ref b), (1, .ref (x.2.2 (79))), (2, .ref (x.2.2 (80))), (3, .ref (x.2.2 (87))), (4, .int x4)]) F.1 F.2.1 dL_law_1480 hl (by decide) rfl (fun ls hl => ?_)
  refine lv_aload_n F.1 F.2.1 dL_law_1482 rfl (lv_at hl 4 rfl) ?_
  obtain ⟨r6, S5, hc, hf⟩ := oi_b hf
  refine k_i0 (S' := S5) (r := r6) w (runV (As := []) (rest := []) (kb := 80) F w (k_X9_thrown l x S3 hc H.size) cy_X9_thrown q894 q895 q896 ⟨rfl, rfl⟩ ⟨Nat.le_of_ble_eq_true rfl, Nat.le_of_ble_eq_true rfl⟩ (by decide) rfl rfl rfl rfl hl.1 (Nat.le_of_ble_eq_true rfl) (cap_le2 hcap (by decide) (by decide)) dL_law_1483) (fun H locs w => ?_)
  refine lv_iload F.1 F.2.1 dL_law_1486 (lv_at hl 1 rfl) ?_
  refine lv_icmp_eq (tgt := 1493) F.1 F.2.1 dL_law_1488 (by decide) (fun c7 => ?_) (fun c7 => ?_)
  · replace hf := oi_t hf c7
    refine lv_iload F.1 F.2.1 dL_law_1493 (lv_at hl 1 rfl) ?_
    refine lv_if_ne (tgt := 1510) F.1 F.2.1 dL_law_1495 (by decide) (fun c8 => ?_) (fun c8 => ?_)
    · replace hf := oi_f hf c8
      refine lv_goto (tgt := 2071) F.1 F.2.1 dL_law_1510 (by decide) ?_
      have hS := oi_s hf
      subst hS
      refine W.widen (k := kc + 8) (n := ks + 48) (by omega) (by omega) ?_
      exact hnext _ _ _ w (lv_sub hl [2, 3, 4, 5, 6] rfl)
    · replace hf := oi_t hf c8
      refine lv_aload_n F.1 F.2.1 dL_law_1498 rfl (lv_at hl 5 rfl) ?_
      refine lv_iconst (v := 0) F.1 F.2.1 dL_law_1499 (by decide) ?_
      refine r_lald F w (k := 87) (n := 1) (f := al S5 5) (by decide) rfl (by decide) dL_law_1500 ?_
      refine lv_iload F.1 F.2.1 dL_law_1501 (lv_at hl 0 rfl) ?_
      refine lv_i2l (v := Int32.toInt64 r4) F.1 F.2.1 dL_law_1503 rfl ?_
      refine W.lcmp F.1 F.2.1 dL_law_1504 ?_
      refine lv_if_eq (tgt := 1510) F.1 F.2.1 dL_law_1505 (by decide) (fun c9 => ?_) (fun c9 => ?_)
      · replace hf := oi_t hf c9
        refine lv_goto (tgt := 2071) F.1 F.2.1 dL_law_1510 (by decide) ?_
        have hS := oi_s hf
        subst hS
        refine W.widen (k := kc + 8) (n := ks + 48) (by omega) (by omega) ?_
        exact hnext _ _ _ w (lv_sub hl [2, 3, 4, 5, 6] rfl)
      · replace hf := oi_f hf c9
        cases hf
  · replace hf := oi_f hf c7
    cases hf
def g_erdosTuran (S : ST) (v1 : Int32) (v2 : Int32) : Option ST := oB (f_L_erdosTuran S v1 v2) (fun (r2 : Int32) (S1 : ST) => oB (f_X9_erdosTuran S1 v1 v2) (fun (r4 : Int32) (S3 : ST) => oB (f_X9_thrown S3) (fun (r6 : Int32) (S5 : ST) => (if r6 = r2 then (if r2 = 0 then (if (lg_cmp (al S5 5 (Int32.toNatClampNeg 0)) (Int32.toInt64 r4)) = 0 then some S5 else none) else some S5) else none))))
set_option maxHeartbeats 4000000 in
set_option maxRecDepth 100000 in
theorem lc_erdosTuran {p : Program} {l : Launch} {e : Env} {s : State} {m : MethodId} {below : List Frame} {meth : Method} {c : Code} {x : CX} {b L : Nat} {xs : Nat → Int32} {ret : Option FieldType} {Q : State → Prop} (F : MF p m meth c cL_law 7 s #[Value.ref b] RL ret) (hX : va_X b L xs s s.heap) (hbl : b < s.heap.size) (hbA : ¬ AA x s.heap.size b) (hls : l.stackTraces = false) {kc ks : Nat} (hcap : kc + 8 ≤ 601024 ∧ ks + 48 ≤ 7293034) {S S' : ST} {H : Heap} {locs : List Loc} {ls : Array Slot} (w : WD x s S H locs) {x4 : Int32} {v1 : Int32} (g1 : vp_in (x4 + 1) L) (e1 : xs (x4 + 1).toNatClampNeg = v1) {v2 : Int32} (g2 : vp_in (x4 + 2) L) (e2 : xs (x4 + 2).toNatClampNeg = v2) (hl : lv_has ls 7 [(0, .ref b), (1, .ref (x.2.2 79)), (2, .ref (x.2.2 80)), (3, .ref (x.2.2 87)), (4, .int x4)]) (hf : g_erdosTuran S v1 v2 = some S') (hnext : ∀ (H : Heap) (locs : List Loc) (ls : Array Slot), WD x s S' H locs → lv_has ls 7 [(0, .ref b), (1, .ref (x.2.2 79)), (2, .ref (x.2.2 80)), (3, .ref (x.2.2 87)), (4, .int x4)] → W p l e room_1 s m #[Value.ref b] below meth c H locs (kc + 8) (ks + 48) Q (F0 m 2071 ls [])) : W p l e room_1 s m #[Value.ref b] below meth c H locs kc ks Q (F0 m 1513 ls []) := by
  unfold g_erdosTuran at hf
  refine lv_aload_n F.1 F.2.1 dL_law_1513 rfl (lv_at hl 1 rfl) ?_
  refine lv_aload_n F.1 F.2.1 dL_law_1514 rfl (lv_at hl 0 rfl) ?_
  refine lv_iload F.1 F.2.1 dL_law_1515 (lv_at hl 4 rfl) ?_
  refine lv_iconst (v := 1) F.1 F.2.1 dL_law_1517 (by decide) ?_
  refine lv_iadd F.1 F.2.1 dL_law_1518 ?_
  refine va_sld F.1 F.2.1 hX hbl hbA w.S g1 dL_law_1519 ?_
  rw [e1]
  refine lv_aload_n F.1 F.2.1 dL_law_1520 rfl (lv_at hl 0 rfl) ?_
  refine lv_iload F.1 F.2.1 dL_law_1521 (lv_at hl 4 rfl) ?_
  refine lv_iconst (v := 2) F.1 F.2.1 dL_law_1523 (by decide) ?_
  refine lv_iadd F.1 F.2.1 dL_law_1524 ?_
  refine va_sld F.1 F.2.1 hX hbl hbA w.S g2 dL_law_1525 ?_
  rw [e2]
  refine lv_aload_n F.1 F.2.1 dL_law_1526 rfl (lv_at hl 3 rfl) ?_
  obtain ⟨r2, S1, hc, hf⟩ := oi_b hf
  refine k_i (S' := S1) (r := r2) w (runSW (As := [.ref (x.2.2 (79)), .int v1, .int v2, .ref (x.2.2 (87))]) (rest := []) F w (k_L_erdosTuran l x S v1 v2 hc hls H.size) cyw_erdosTuran q729 q730 ⟨rfl, rfl⟩ ⟨Nat.le_of_ble_eq_true rfl, Nat.le_of_ble_eq_true rfl⟩ rfl rfl hl.1 (Nat.le_of_ble_eq_true rfl) (cap_le hcap (by decide) (by decide)) dL_law_1527) (fun H locs w => ?_)
  refine lv_istore (lv' := [(5, .int r2), (0, .ref b), (1, .ref (x.2.2 (79))), (2, .ref (x.2.2 (80))), (3, .ref (x.2.2 (87))), (4, .int x4)]) F.1 F.2.1 dL_law_1530 hl (by decide) rfl (fun ls hl => ?_)
  refine lv_aload_n F.1 F.2.1 dL_law_1532 rfl (lv_at hl 3 rfl) ?_
  refine lv_aload_n F.1 F.2.1 dL_law_1533 rfl (lv_at hl 1 rfl) ?_
  refine lv_iload F.1 F.2.1 dL_law_1534 (lv_at hl 5 rfl) ?_
  refine lv_iconst (v := 1) F.1 F.2.1 dL_law_1536 (by decide) ?_
  refine lv_iadd F.1 F.2.1 dL_law_1537 ?_
  refine va_sld F.1 F.2.1 hX hbl hbA w.S g1 dL_law_1538 ?_
  rw [e1]
  refine lv_aload_n F.1 F.2.1 dL_law_1539 rfl (lv_at hl 1 rfl) ?_
  refine lv_iload F.1 F.2.1 dL_law_1540 (lv_at hl 5 rfl) ?_
  refine lv_iconst (v := 2) F.1 F.2.1 dL_law_1542 (by decide) ?_
  refine lv_iadd F.1 F.2.1 dL_law_1543 ?_
  refine va_sld F.1 F.2.1 hX hbl hbA w.S g2 dL_law_1544 ?_
  rw [e2]
  obtain ⟨r4, S3, hc, hf⟩ := oi_b hf
  refine k_i0 (S' := S3) (r := r4) w (runV (As := [.int v1, .int v2]) (rest := []) (kb := 80) F w (k_X9_erdosTuran l x S1 v1 v2 hc H.size) cy_X9_erdosTuran q1103 q1104 q1105 ⟨rfl, rfl⟩ ⟨Nat.le_of_ble_eq_true rfl, Nat.le_of_ble_eq_true rfl⟩ (by decide) rfl rfl rfl rfl hl.1 (Nat.le_of_ble_eq_true rfl) (cap_le2 hcap (by decide) (by decide)) dL_law_1545) (fun H locs w => ?_)
  refine lv_istore (lv' := [(6, .int r4), (5, .int r2), (0, .ref b), (1, .ref (x.2.2 (79))), (2, .ref (x.2.2 (80))), (3, .ref (x.2.2 (87))), (4, .int x4)]) F.1 F.2.1 dL_law_1548 hl (by decide) rfl (fun ls hl => ?_)
  refine lv_aload_n F.1 F.2.1 dL_law_1550 rfl (lv_at hl 4 rfl) ?_
  obtain ⟨r6, S5, hc, hf⟩ := oi_b hf
  refine k_i0 (S' := S5) (r := r6) w (runV (As := []) (rest := []) (kb := 80) F w (k_X9_thrown l x S3 hc H.size) cy_X9_thrown q894 q895 q896 ⟨rfl, rfl⟩ ⟨Nat.le_of_ble_eq_true rfl, Nat.le_of_ble_eq_true rfl⟩ (by decide) rfl rfl rfl rfl hl.1 (Nat.le_of_ble_eq_true rfl) (cap_le2 hcap (by decide) (by decide)) dL_law_1551) (fun H locs w => ?_)
  refine lv_iload F.1 F.2.1 dL_law_1554 (lv_at hl 1 rfl) ?_
  refine lv_icmp_eq (tgt := 1561) F.1 F.2.1 dL_law_1556 (by decide) (fun c7 => ?_) (fun c7 => ?_)
  · replace hf := oi_t hf c7
    refine lv_iload F.1 F.2.1 dL_law_1561 (lv_at hl 1 rfl) ?_
    refine lv_if_ne (tgt := 1578) F.1 F.2.1 dL_law_1563 (by decide) (fun c8 => ?_) (fun c8 => ?_)
    · replace hf := oi_f hf c8
      refine lv_goto (tgt := 2071) F.1 F.2.1 dL_law_1578 (by decide) ?_
      have hS := oi_s hf
      subst hS
      refine W.widen (k := kc + 8) (n := ks + 48) (by omega) (by omega) ?_
      exact hnext _ _ _ w (lv_sub hl [2, 3, 4, 5, 6] rfl)
    · replace hf := oi_t hf c8
      refine lv_aload_n F.1 F.2.1 dL_law_1566 rfl (lv_at hl 5 rfl) ?_
      refine lv_iconst (v := 0) F.1 F.2.1 dL_law_1567 (by decide) ?_
      refine r_lald F w (k := 87) (n := 1) (f := al S5 5) (by decide) rfl (by decide) dL_law_1568 ?_
      refine lv_iload F.1 F.2.1 dL_law_1569 (lv_at hl 0 rfl) ?_
      refine lv_i2l (v := Int32.toInt64 r4) F.1 F.2.1 dL_law_1571 rfl ?_
      refine W.lcmp F.1 F.2.1 dL_law_1572 ?_
      refine lv_if_eq (tgt := 1578) F.1 F.2.1 dL_law_1573 (by decide) (fun c9 => ?_) (fun c9 => ?_)
      · replace hf := oi_t hf c9
        refine lv_goto (tgt := 2071) F.1 F.2.1 dL_law_1578 (by decide) ?_
        have hS := oi_s hf
        subst hS
        refine W.widen (k := kc + 8) (n := ks + 48) (by omega) (by omega) ?_
        exact hnext _ _ _ w (lv_sub hl [2, 3, 4, 5, 6] rfl)
      · replace hf := oi_f hf c9
        cases hf
  · replace hf := oi_f hf c7
    cases hf
def g_ruzsa (S : ST) (v1 : Int32) (v2 : Int32) (v3 : Int32) : Option ST := oB (f_L_ruzsa S v1 v2 v3) (fun (r2 : Int32) (S1 : ST) => oB (f_X9_ruzsa S1 v1 v2 v3) (fun (r4 : Int32) (S3 : ST) => oB (f_X9_thrown S3) (fun (r6 : Int32) (S5 : ST) => (if r6 = r2 then (if r2 = 0 then (if (lg_cmp (al S5 5 (Int32.toNatClampNeg 0)) (Int32.toInt64 r4)) = 0 then some S5 else none) else some S5) else none))))
set_option maxHeartbeats 4000000 in
set_option maxRecDepth 100000 in
theorem lc_ruzsa {p : Program} {l : Launch} {e : Env} {s : State} {m : MethodId} {below : List Frame} {meth : Method} {c : Code} {x : CX} {b L : Nat} {xs : Nat → Int32} {ret : Option FieldType} {Q : State → Prop} (F : MF p m meth c cL_law 7 s #[Value.ref b] RL ret) (hX : va_X b L xs s s.heap) (hbl : b < s.heap.size) (hbA : ¬ AA x s.heap.size b) (hls : l.stackTraces = false) {kc ks : Nat} (hcap : kc + 8 ≤ 601024 ∧ ks + 48 ≤ 7293034) {S S' : ST} {H : Heap} {locs : List Loc} {ls : Array Slot} (w : WD x s S H locs) {x4 : Int32} {v1 : Int32} (g1 : vp_in (x4 + 1) L) (e1 : xs (x4 + 1).toNatClampNeg = v1) {v2 : Int32} (g2 : vp_in (x4 + 2) L) (e2 : xs (x4 + 2).toNatClampNeg = v2) {v3 : Int32} (g3 : vp_in (x4 + 3) L) (e3 : xs (x4 + 3).toNatClampNeg = v3) (hl : lv_has ls 7 [(0, .ref b), (1, .ref (x.2.2 79)), (2, .ref (x.2.2 80)), (3, .ref (x.2.2 87)), (4, .int x4)]) (hf : g_ruzsa S v1 v2 v3 = some S') (hnext : ∀ (H : Heap) (locs : List Loc) (ls : Array Slot), WD x s S' H locs → lv_has ls 7 [(0, .ref b), (1, .ref (x.2.2 79)), (2, .ref (x.2.2 80)), (3, .ref (x.2.2 87)), (4, .int x4)] → W p l e room_1 s m #[Value.ref b] below meth c H locs (kc + 8) (ks + 48) Q (F0 m 2071 ls [])) : W p l e room_1 s m #[Value.ref b] below meth c H locs kc ks Q (F0 m 1581 ls []) := by
  unfold g_ruzsa at hf
  refine lv_aload_n F.1 F.2.1 dL_law_1581 rfl (lv_at hl 1 rfl) ?_
  refine lv_aload_n F.1 F.2.1 dL_law_1582 rfl (lv_at hl 0 rfl) ?_
  refine lv_iload F.1 F.2.1 dL_law_1583 (lv_at hl 4 rfl) ?_
  refine lv_iconst (v := 1) F.1 F.2.1 dL_law_1585 (by decide) ?_
  refine lv_iadd F.1 F.2.1 dL_law_1586 ?_
  refine va_sld F.1 F.2.1 hX hbl hbA w.S g1 dL_law_1587 ?_
  rw [e1]
  refine lv_aload_n F.1 F.2.1 dL_law_1588 rfl (lv_at hl 0 rfl) ?_
  refine lv_iload F.1 F.2.1 dL_law_1589 (lv_at hl 4 rfl) ?_
  refine lv_iconst (v := 2) F.1 F.2.1 dL_law_1591 (by decide) ?_
  refine lv_iadd F.1 F.2.1 dL_law_1592 ?_
  refine va_sld F.1 F.2.1 hX hbl hbA w.S g2 dL_law_1593 ?_
  rw [e2]
  refine lv_aload_n F.1 F.2.1 dL_law_1594 rfl (lv_at hl 0 rfl) ?_
  refine lv_iload F.1 F.2.1 dL_law_1595 (lv_at hl 4 rfl) ?_
  refine lv_iconst (v := 3) F.1 F.2.1 dL_law_1597 (by decide) ?_
  refine lv_iadd F.1 F.2.1 dL_law_1598 ?_
  refine va_sld F.1 F.2.1 hX hbl hbA w.S g3 dL_law_1599 ?_
  rw [e3]
  refine lv_aload_n F.1 F.2.1 dL_law_1600 rfl (lv_at hl 3 rfl) ?_
  obtain ⟨r2, S1, hc, hf⟩ := oi_b hf
  refine k_i (S' := S1) (r := r2) w (runSW (As := [.ref (x.2.2 (79)), .int v1, .int v2, .int v3, .ref (x.2.2 (87))]) (rest := []) F w (k_L_ruzsa l x S v1 v2 v3 hc hls H.size) cyw_ruzsa q743 q744 ⟨rfl, rfl⟩ ⟨Nat.le_of_ble_eq_true rfl, Nat.le_of_ble_eq_true rfl⟩ rfl rfl hl.1 (Nat.le_of_ble_eq_true rfl) (cap_le hcap (by decide) (by decide)) dL_law_1601) (fun H locs w => ?_)
  refine lv_istore (lv' := [(5, .int r2), (0, .ref b), (1, .ref (x.2.2 (79))), (2, .ref (x.2.2 (80))), (3, .ref (x.2.2 (87))), (4, .int x4)]) F.1 F.2.1 dL_law_1604 hl (by decide) rfl (fun ls hl => ?_)
  refine lv_aload_n F.1 F.2.1 dL_law_1606 rfl (lv_at hl 3 rfl) ?_
  refine lv_aload_n F.1 F.2.1 dL_law_1607 rfl (lv_at hl 1 rfl) ?_
  refine lv_iload F.1 F.2.1 dL_law_1608 (lv_at hl 5 rfl) ?_
  refine lv_iconst (v := 1) F.1 F.2.1 dL_law_1610 (by decide) ?_
  refine lv_iadd F.1 F.2.1 dL_law_1611 ?_
  refine va_sld F.1 F.2.1 hX hbl hbA w.S g1 dL_law_1612 ?_
  rw [e1]
  refine lv_aload_n F.1 F.2.1 dL_law_1613 rfl (lv_at hl 1 rfl) ?_
  refine lv_iload F.1 F.2.1 dL_law_1614 (lv_at hl 5 rfl) ?_
  refine lv_iconst (v := 2) F.1 F.2.1 dL_law_1616 (by decide) ?_
  refine lv_iadd F.1 F.2.1 dL_law_1617 ?_
  refine va_sld F.1 F.2.1 hX hbl hbA w.S g2 dL_law_1618 ?_
  rw [e2]
  refine lv_aload_n F.1 F.2.1 dL_law_1619 rfl (lv_at hl 1 rfl) ?_
  refine lv_iload F.1 F.2.1 dL_law_1620 (lv_at hl 5 rfl) ?_
  refine lv_iconst (v := 3) F.1 F.2.1 dL_law_1622 (by decide) ?_
  refine lv_iadd F.1 F.2.1 dL_law_1623 ?_
  refine va_sld F.1 F.2.1 hX hbl hbA w.S g3 dL_law_1624 ?_
  rw [e3]
  obtain ⟨r4, S3, hc, hf⟩ := oi_b hf
  refine k_i0 (S' := S3) (r := r4) w (runV (As := [.int v1, .int v2, .int v3]) (rest := []) (kb := 80) F w (k_X9_ruzsa l x S1 v1 v2 v3 hc H.size) cy_X9_ruzsa q1110 q1111 q1112 ⟨rfl, rfl⟩ ⟨Nat.le_of_ble_eq_true rfl, Nat.le_of_ble_eq_true rfl⟩ (by decide) rfl rfl rfl rfl hl.1 (Nat.le_of_ble_eq_true rfl) (cap_le2 hcap (by decide) (by decide)) dL_law_1625) (fun H locs w => ?_)
  refine lv_istore (lv' := [(6, .int r4), (5, .int r2), (0, .ref b), (1, .ref (x.2.2 (79))), (2, .ref (x.2.2 (80))), (3, .ref (x.2.2 (87))), (4, .int x4)]) F.1 F.2.1 dL_law_1628 hl (by decide) rfl (fun ls hl => ?_)
  refine lv_aload_n F.1 F.2.1 dL_law_1630 rfl (lv_at hl 4 rfl) ?_
  obtain ⟨r6, S5, hc, hf⟩ := oi_b hf
  refine k_i0 (S' := S5) (r := r6) w (runV (As := []) (rest := []) (kb := 80) F w (k_X9_thrown l x S3 hc H.size) cy_X9_thrown q894 q895 q896 ⟨rfl, rfl⟩ ⟨Nat.le_of_ble_eq_true rfl, Nat.le_of_ble_eq_true rfl⟩ (by decide) rfl rfl rfl rfl hl.1 (Nat.le_of_ble_eq_true rfl) (cap_le2 hcap (by decide) (by decide)) dL_law_1631) (fun H locs w => ?_)
  refine lv_iload F.1 F.2.1 dL_law_1634 (lv_at hl 1 rfl) ?_
  refine lv_icmp_eq (tgt := 1641) F.1 F.2.1 dL_law_1636 (by decide) (fun c7 => ?_) (fun c7 => ?_)
  · replace hf := oi_t hf c7
    refine lv_iload F.1 F.2.1 dL_law_1641 (lv_at hl 1 rfl) ?_
    refine lv_if_ne (tgt := 1658) F.1 F.2.1 dL_law_1643 (by decide) (fun c8 => ?_) (fun c8 => ?_)
    · replace hf := oi_f hf c8
      refine lv_goto (tgt := 2071) F.1 F.2.1 dL_law_1658 (by decide) ?_
      have hS := oi_s hf
      subst hS
      refine W.widen (k := kc + 8) (n := ks + 48) (by omega) (by omega) ?_
      exact hnext _ _ _ w (lv_sub hl [2, 3, 4, 5, 6] rfl)
    · replace hf := oi_t hf c8
      refine lv_aload_n F.1 F.2.1 dL_law_1646 rfl (lv_at hl 5 rfl) ?_
      refine lv_iconst (v := 0) F.1 F.2.1 dL_law_1647 (by decide) ?_
      refine r_lald F w (k := 87) (n := 1) (f := al S5 5) (by decide) rfl (by decide) dL_law_1648 ?_
      refine lv_iload F.1 F.2.1 dL_law_1649 (lv_at hl 0 rfl) ?_
      refine lv_i2l (v := Int32.toInt64 r4) F.1 F.2.1 dL_law_1651 rfl ?_
      refine W.lcmp F.1 F.2.1 dL_law_1652 ?_
      refine lv_if_eq (tgt := 1658) F.1 F.2.1 dL_law_1653 (by decide) (fun c9 => ?_) (fun c9 => ?_)
      · replace hf := oi_t hf c9
        refine lv_goto (tgt := 2071) F.1 F.2.1 dL_law_1658 (by decide) ?_
        have hS := oi_s hf
        subst hS
        refine W.widen (k := kc + 8) (n := ks + 48) (by omega) (by omega) ?_
        exact hnext _ _ _ w (lv_sub hl [2, 3, 4, 5, 6] rfl)
      · replace hf := oi_f hf c9
        cases hf
  · replace hf := oi_f hf c7
    cases hf
def g_residues (S : ST) (v1 : Int32) (v2 : Int32) : Option ST := oB (f_L_residues S v1 v2) (fun (r2 : Int32) (S1 : ST) => oB (f_X9_residues S1 v1 v2) (fun (r4 : Int32) (S3 : ST) => oB (f_X9_thrown S3) (fun (r6 : Int32) (S5 : ST) => (if r6 = r2 then (if r2 = 0 then (if (lg_cmp (al S5 5 (Int32.toNatClampNeg 0)) (Int32.toInt64 r4)) = 0 then some S5 else none) else some S5) else none))))
set_option maxHeartbeats 4000000 in
set_option maxRecDepth 100000 in
theorem lc_residues {p : Program} {l : Launch} {e : Env} {s : State} {m : MethodId} {below : List Frame} {meth : Method} {c : Code} {x : CX} {b L : Nat} {xs : Nat → Int32} {ret : Option FieldType} {Q : State → Prop} (F : MF p m meth c cL_law 7 s #[Value.ref b] RL ret) (hX : va_X b L xs s s.heap) (hbl : b < s.heap.size) (hbA : ¬ AA x s.heap.size b) (hls : l.stackTraces = false) {kc ks : Nat} (hcap : kc + 8 ≤ 601024 ∧ ks + 48 ≤ 7293034) {S S' : ST} {H : Heap} {locs : List Loc} {ls : Array Slot} (w : WD x s S H locs) {x4 : Int32} {v1 : Int32} (g1 : vp_in (x4 + 1) L) (e1 : xs (x4 + 1).toNatClampNeg = v1) {v2 : Int32} (g2 : vp_in (x4 + 2) L) (e2 : xs (x4 + 2).toNatClampNeg = v2) (hl : lv_has ls 7 [(0, .ref b), (1, .ref (x.2.2 79)), (2, .ref (x.2.2 80)), (3, .ref (x.2.2 87)), (4, .int x4)]) (hf : g_residues S v1 v2 = some S') (hnext : ∀ (H : Heap) (locs : List Loc) (ls : Array Slot), WD x s S' H locs → lv_has ls 7 [(0, .ref b), (1, .ref (x.2.2 79)), (2, .ref (x.2.2 80)), (3, .ref (x.2.2 87)), (4, .int x4)] → W p l e room_1 s m #[Value.ref b] below meth c H locs (kc + 8) (ks + 48) Q (F0 m 2071 ls [])) : W p l e room_1 s m #[Value.ref b] below meth c H locs kc ks Q (F0 m 1661 ls []) := by
  unfold g_residues at hf
  refine lv_aload_n F.1 F.2.1 dL_law_1661 rfl (lv_at hl 1 rfl) ?_
  refine lv_aload_n F.1 F.2.1 dL_law_1662 rfl (lv_at hl 0 rfl) ?_
  refine lv_iload F.1 F.2.1 dL_law_1663 (lv_at hl 4 rfl) ?_
  refine lv_iconst (v := 1) F.1 F.2.1 dL_law_1665 (by decide) ?_
  refine lv_iadd F.1 F.2.1 dL_law_1666 ?_
  refine va_sld F.1 F.2.1 hX hbl hbA w.S g1 dL_law_1667 ?_
  rw [e1]
  refine lv_aload_n F.1 F.2.1 dL_law_1668 rfl (lv_at hl 0 rfl) ?_
  refine lv_iload F.1 F.2.1 dL_law_1669 (lv_at hl 4 rfl) ?_
  refine lv_iconst (v := 2) F.1 F.2.1 dL_law_1671 (by decide) ?_
  refine lv_iadd F.1 F.2.1 dL_law_1672 ?_
  refine va_sld F.1 F.2.1 hX hbl hbA w.S g2 dL_law_1673 ?_
  rw [e2]
  refine lv_aload_n F.1 F.2.1 dL_law_1674 rfl (lv_at hl 3 rfl) ?_
  obtain ⟨r2, S1, hc, hf⟩ := oi_b hf
  refine k_i (S' := S1) (r := r2) w (runSW (As := [.ref (x.2.2 (79)), .int v1, .int v2, .ref (x.2.2 (87))]) (rest := []) F w (k_L_residues l x S v1 v2 hc hls H.size) cyw_residues q754 q755 ⟨rfl, rfl⟩ ⟨Nat.le_of_ble_eq_true rfl, Nat.le_of_ble_eq_true rfl⟩ rfl rfl hl.1 (Nat.le_of_ble_eq_true rfl) (cap_le hcap (by decide) (by decide)) dL_law_1675) (fun H locs w => ?_)
  refine lv_istore (lv' := [(5, .int r2), (0, .ref b), (1, .ref (x.2.2 (79))), (2, .ref (x.2.2 (80))), (3, .ref (x.2.2 (87))), (4, .int x4)]) F.1 F.2.1 dL_law_1678 hl (by decide) rfl (fun ls hl => ?_)
  refine lv_aload_n F.1 F.2.1 dL_law_1680 rfl (lv_at hl 3 rfl) ?_
  refine lv_aload_n F.1 F.2.1 dL_law_1681 rfl (lv_at hl 1 rfl) ?_
  refine lv_iload F.1 F.2.1 dL_law_1682 (lv_at hl 5 rfl) ?_
  refine lv_iconst (v := 1) F.1 F.2.1 dL_law_1684 (by decide) ?_
  refine lv_iadd F.1 F.2.1 dL_law_1685 ?_
  refine va_sld F.1 F.2.1 hX hbl hbA w.S g1 dL_law_1686 ?_
  rw [e1]
  refine lv_aload_n F.1 F.2.1 dL_law_1687 rfl (lv_at hl 1 rfl) ?_
  refine lv_iload F.1 F.2.1 dL_law_1688 (lv_at hl 5 rfl) ?_
  refine lv_iconst (v := 2) F.1 F.2.1 dL_law_1690 (by decide) ?_
  refine lv_iadd F.1 F.2.1 dL_law_1691 ?_
  refine va_sld F.1 F.2.1 hX hbl hbA w.S g2 dL_law_1692 ?_
  rw [e2]
  obtain ⟨r4, S3, hc, hf⟩ := oi_b hf
  refine k_i0 (S' := S3) (r := r4) w (runV (As := [.int v1, .int v2]) (rest := []) (kb := 80) F w (k_X9_residues l x S1 v1 v2 hc H.size) cy_X9_residues q1117 q1118 q1119 ⟨rfl, rfl⟩ ⟨Nat.le_of_ble_eq_true rfl, Nat.le_of_ble_eq_true rfl⟩ (by decide) rfl rfl rfl rfl hl.1 (Nat.le_of_ble_eq_true rfl) (cap_le2 hcap (by decide) (by decide)) dL_law_1693) (fun H locs w => ?_)
  refine lv_istore (lv' := [(6, .int r4), (5, .int r2), (0, .ref b), (1, .ref (x.2.2 (79))), (2, .ref (x.2.2 (80))), (3, .ref (x.2.2 (87))), (4, .int x4)]) F.1 F.2.1 dL_law_1696 hl (by decide) rfl (fun ls hl => ?_)
  refine lv_aload_n F.1 F.2.1 dL_law_1698 rfl (lv_at hl 4 rfl) ?_
  obtain ⟨r6, S5, hc, hf⟩ := oi_b hf
  refine k_i0 (S' := S5) (r := r6) w (runV (As := []) (rest := []) (kb := 80) F w (k_X9_thrown l x S3 hc H.size) cy_X9_thrown q894 q895 q896 ⟨rfl, rfl⟩ ⟨Nat.le_of_ble_eq_true rfl, Nat.le_of_ble_eq_true rfl⟩ (by decide) rfl rfl rfl rfl hl.1 (Nat.le_of_ble_eq_true rfl) (cap_le2 hcap (by decide) (by decide)) dL_law_1699) (fun H locs w => ?_)
  refine lv_iload F.1 F.2.1 dL_law_1702 (lv_at hl 1 rfl) ?_
  refine lv_icmp_eq (tgt := 1709) F.1 F.2.1 dL_law_1704 (by decide) (fun c7 => ?_) (fun c7 => ?_)
  · replace hf := oi_t hf c7
    refine lv_iload F.1 F.2.1 dL_law_1709 (lv_at hl 1 rfl) ?_
    refine lv_if_ne (tgt := 1726) F.1 F.2.1 dL_law_1711 (by decide) (fun c8 => ?_) (fun c8 => ?_)
    · replace hf := oi_f hf c8
      refine lv_goto (tgt := 2071) F.1 F.2.1 dL_law_1726 (by decide) ?_
      have hS := oi_s hf
      subst hS
      refine W.widen (k := kc + 8) (n := ks + 48) (by omega) (by omega) ?_
      exact hnext _ _ _ w (lv_sub hl [2, 3, 4, 5, 6] rfl)
    · replace hf := oi_t hf c8
      refine lv_aload_n F.1 F.2.1 dL_law_1714 rfl (lv_at hl 5 rfl) ?_
      refine lv_iconst (v := 0) F.1 F.2.1 dL_law_1715 (by decide) ?_
      refine r_lald F w (k := 87) (n := 1) (f := al S5 5) (by decide) rfl (by decide) dL_law_1716 ?_
      refine lv_iload F.1 F.2.1 dL_law_1717 (lv_at hl 0 rfl) ?_
      refine lv_i2l (v := Int32.toInt64 r4) F.1 F.2.1 dL_law_1719 rfl ?_
      refine W.lcmp F.1 F.2.1 dL_law_1720 ?_
      refine lv_if_eq (tgt := 1726) F.1 F.2.1 dL_law_1721 (by decide) (fun c9 => ?_) (fun c9 => ?_)
      · replace hf := oi_t hf c9
        refine lv_goto (tgt := 2071) F.1 F.2.1 dL_law_1726 (by decide) ?_
        have hS := oi_s hf
        subst hS
        refine W.widen (k := kc + 8) (n := ks + 48) (by omega) (by omega) ?_
        exact hnext _ _ _ w (lv_sub hl [2, 3, 4, 5, 6] rfl)
      · replace hf := oi_f hf c9
        cases hf
  · replace hf := oi_f hf c7
    cases hf
def g_extend (S : ST) (v1 : Int32) (v2 : Int32) : Option ST := oB (f_L_extend S v1 v2) (fun (r2 : Int32) (S1 : ST) => oB (f_X9_extend S1 v1 v2) (fun (r4 : Int32) (S3 : ST) => oB (f_X9_thrown S3) (fun (r6 : Int32) (S5 : ST) => (if r6 = r2 then (if r2 = 0 then (if (lg_cmp (al S5 5 (Int32.toNatClampNeg 0)) (Int32.toInt64 r4)) = 0 then some S5 else none) else some S5) else none))))
set_option maxHeartbeats 4000000 in
set_option maxRecDepth 100000 in
theorem lc_extend {p : Program} {l : Launch} {e : Env} {s : State} {m : MethodId} {below : List Frame} {meth : Method} {c : Code} {x : CX} {b L : Nat} {xs : Nat → Int32} {ret : Option FieldType} {Q : State → Prop} (F : MF p m meth c cL_law 7 s #[Value.ref b] RL ret) (hX : va_X b L xs s s.heap) (hbl : b < s.heap.size) (hbA : ¬ AA x s.heap.size b) (hls : l.stackTraces = false) {kc ks : Nat} (hcap : kc + 8 ≤ 601024 ∧ ks + 48 ≤ 7293034) {S S' : ST} {H : Heap} {locs : List Loc} {ls : Array Slot} (w : WD x s S H locs) {x4 : Int32} {v1 : Int32} (g1 : vp_in (x4 + 1) L) (e1 : xs (x4 + 1).toNatClampNeg = v1) {v2 : Int32} (g2 : vp_in (x4 + 2) L) (e2 : xs (x4 + 2).toNatClampNeg = v2) (hl : lv_has ls 7 [(0, .ref b), (1, .ref (x.2.2 79)), (2, .ref (x.2.2 80)), (3, .ref (x.2.2 87)), (4, .int x4)]) (hf : g_extend S v1 v2 = some S') (hnext : ∀ (H : Heap) (locs : List Loc) (ls : Array Slot), WD x s S' H locs → lv_has ls 7 [(0, .ref b), (1, .ref (x.2.2 79)), (2, .ref (x.2.2 80)), (3, .ref (x.2.2 87)), (4, .int x4)] → W p l e room_1 s m #[Value.ref b] below meth c H locs (kc + 8) (ks + 48) Q (F0 m 2071 ls [])) : W p l e room_1 s m #[Value.ref b] below meth c H locs kc ks Q (F0 m 1729 ls []) := by
  unfold g_extend at hf
  refine lv_aload_n F.1 F.2.1 dL_law_1729 rfl (lv_at hl 1 rfl) ?_
  refine lv_aload_n F.1 F.2.1 dL_law_1730 rfl (lv_at hl 0 rfl) ?_
  refine lv_iload F.1 F.2.1 dL_law_1731 (lv_at hl 4 rfl) ?_
  refine lv_iconst (v := 1) F.1 F.2.1 dL_law_1733 (by decide) ?_
  refine lv_iadd F.1 F.2.1 dL_law_1734 ?_
  refine va_sld F.1 F.2.1 hX hbl hbA w.S g1 dL_law_1735 ?_
  rw [e1]
  refine lv_aload_n F.1 F.2.1 dL_law_1736 rfl (lv_at hl 0 rfl) ?_
  refine lv_iload F.1 F.2.1 dL_law_1737 (lv_at hl 4 rfl) ?_
  refine lv_iconst (v := 2) F.1 F.2.1 dL_law_1739 (by decide) ?_
  refine lv_iadd F.1 F.2.1 dL_law_1740 ?_
  refine va_sld F.1 F.2.1 hX hbl hbA w.S g2 dL_law_1741 ?_
  rw [e2]
  refine lv_aload_n F.1 F.2.1 dL_law_1742 rfl (lv_at hl 3 rfl) ?_
  obtain ⟨r2, S1, hc, hf⟩ := oi_b hf
  refine k_i (S' := S1) (r := r2) w (runSW (As := [.ref (x.2.2 (79)), .int v1, .int v2, .ref (x.2.2 (87))]) (rest := []) F w (k_L_extend l x S v1 v2 hc hls H.size) cyw_extend q761 q762 ⟨rfl, rfl⟩ ⟨Nat.le_of_ble_eq_true rfl, Nat.le_of_ble_eq_true rfl⟩ rfl rfl hl.1 (Nat.le_of_ble_eq_true rfl) (cap_le hcap (by decide) (by decide)) dL_law_1743) (fun H locs w => ?_)
  refine lv_istore (lv' := [(5, .int r2), (0, .ref b), (1, .ref (x.2.2 (79))), (2, .ref (x.2.2 (80))), (3, .ref (x.2.2 (87))), (4, .int x4)]) F.1 F.2.1 dL_law_1746 hl (by decide) rfl (fun ls hl => ?_)
  refine lv_aload_n F.1 F.2.1 dL_law_1748 rfl (lv_at hl 3 rfl) ?_
  refine lv_aload_n F.1 F.2.1 dL_law_1749 rfl (lv_at hl 1 rfl) ?_
  refine lv_iload F.1 F.2.1 dL_law_1750 (lv_at hl 5 rfl) ?_
  refine lv_iconst (v := 1) F.1 F.2.1 dL_law_1752 (by decide) ?_
  refine lv_iadd F.1 F.2.1 dL_law_1753 ?_
  refine va_sld F.1 F.2.1 hX hbl hbA w.S g1 dL_law_1754 ?_
  rw [e1]
  refine lv_aload_n F.1 F.2.1 dL_law_1755 rfl (lv_at hl 1 rfl) ?_
  refine lv_iload F.1 F.2.1 dL_law_1756 (lv_at hl 5 rfl) ?_
  refine lv_iconst (v := 2) F.1 F.2.1 dL_law_1758 (by decide) ?_
  refine lv_iadd F.1 F.2.1 dL_law_1759 ?_
  refine va_sld F.1 F.2.1 hX hbl hbA w.S g2 dL_law_1760 ?_
  rw [e2]
  obtain ⟨r4, S3, hc, hf⟩ := oi_b hf
  refine k_i0 (S' := S3) (r := r4) w (runV (As := [.int v1, .int v2]) (rest := []) (kb := 80) F w (k_X9_extend l x S1 v1 v2 hc H.size) cy_X9_extend q1121 q1122 q1123 ⟨rfl, rfl⟩ ⟨Nat.le_of_ble_eq_true rfl, Nat.le_of_ble_eq_true rfl⟩ (by decide) rfl rfl rfl rfl hl.1 (Nat.le_of_ble_eq_true rfl) (cap_le2 hcap (by decide) (by decide)) dL_law_1761) (fun H locs w => ?_)
  refine lv_istore (lv' := [(6, .int r4), (5, .int r2), (0, .ref b), (1, .ref (x.2.2 (79))), (2, .ref (x.2.2 (80))), (3, .ref (x.2.2 (87))), (4, .int x4)]) F.1 F.2.1 dL_law_1764 hl (by decide) rfl (fun ls hl => ?_)
  refine lv_aload_n F.1 F.2.1 dL_law_1766 rfl (lv_at hl 4 rfl) ?_
  obtain ⟨r6, S5, hc, hf⟩ := oi_b hf
  refine k_i0 (S' := S5) (r := r6) w (runV (As := []) (rest := []) (kb := 80) F w (k_X9_thrown l x S3 hc H.size) cy_X9_thrown q894 q895 q896 ⟨rfl, rfl⟩ ⟨Nat.le_of_ble_eq_true rfl, Nat.le_of_ble_eq_true rfl⟩ (by decide) rfl rfl rfl rfl hl.1 (Nat.le_of_ble_eq_true rfl) (cap_le2 hcap (by decide) (by decide)) dL_law_1767) (fun H locs w => ?_)
  refine lv_iload F.1 F.2.1 dL_law_1770 (lv_at hl 1 rfl) ?_
  refine lv_icmp_eq (tgt := 1777) F.1 F.2.1 dL_law_1772 (by decide) (fun c7 => ?_) (fun c7 => ?_)
  · replace hf := oi_t hf c7
    refine lv_iload F.1 F.2.1 dL_law_1777 (lv_at hl 1 rfl) ?_
    refine lv_if_ne (tgt := 1794) F.1 F.2.1 dL_law_1779 (by decide) (fun c8 => ?_) (fun c8 => ?_)
    · replace hf := oi_f hf c8
      refine lv_goto (tgt := 2071) F.1 F.2.1 dL_law_1794 (by decide) ?_
      have hS := oi_s hf
      subst hS
      refine W.widen (k := kc + 8) (n := ks + 48) (by omega) (by omega) ?_
      exact hnext _ _ _ w (lv_sub hl [2, 3, 4, 5, 6] rfl)
    · replace hf := oi_t hf c8
      refine lv_aload_n F.1 F.2.1 dL_law_1782 rfl (lv_at hl 5 rfl) ?_
      refine lv_iconst (v := 0) F.1 F.2.1 dL_law_1783 (by decide) ?_
      refine r_lald F w (k := 87) (n := 1) (f := al S5 5) (by decide) rfl (by decide) dL_law_1784 ?_
      refine lv_iload F.1 F.2.1 dL_law_1785 (lv_at hl 0 rfl) ?_
      refine lv_i2l (v := Int32.toInt64 r4) F.1 F.2.1 dL_law_1787 rfl ?_
      refine W.lcmp F.1 F.2.1 dL_law_1788 ?_
      refine lv_if_eq (tgt := 1794) F.1 F.2.1 dL_law_1789 (by decide) (fun c9 => ?_) (fun c9 => ?_)
      · replace hf := oi_t hf c9
        refine lv_goto (tgt := 2071) F.1 F.2.1 dL_law_1794 (by decide) ?_
        have hS := oi_s hf
        subst hS
        refine W.widen (k := kc + 8) (n := ks + 48) (by omega) (by omega) ?_
        exact hnext _ _ _ w (lv_sub hl [2, 3, 4, 5, 6] rfl)
      · replace hf := oi_f hf c9
        cases hf
  · replace hf := oi_f hf c7
    cases hf
def g_optimal (S : ST) (v1 : Int32) (v2 : Int32) : Option ST := oB (f_L_optimal S v1 v2) (fun (r2 : Int32) (S1 : ST) => oB (f_X9_optimal S1 v1 v2) (fun (r4 : Int32) (S3 : ST) => oB (f_X9_thrown S3) (fun (r6 : Int32) (S5 : ST) => (if r6 = r2 then (if r2 = 0 then (if (lg_cmp (al S5 5 (Int32.toNatClampNeg 0)) (Int32.toInt64 r4)) = 0 then some S5 else none) else some S5) else none))))
set_option maxHeartbeats 4000000 in
set_option maxRecDepth 100000 in
theorem lc_optimal {p : Program} {l : Launch} {e : Env} {s : State} {m : MethodId} {below : List Frame} {meth : Method} {c : Code} {x : CX} {b L : Nat} {xs : Nat → Int32} {ret : Option FieldType} {Q : State → Prop} (F : MF p m meth c cL_law 7 s #[Value.ref b] RL ret) (hX : va_X b L xs s s.heap) (hbl : b < s.heap.size) (hbA : ¬ AA x s.heap.size b) (hls : l.stackTraces = false) {kc ks : Nat} (hcap : kc + 8 ≤ 601024 ∧ ks + 48 ≤ 7293034) {S S' : ST} {H : Heap} {locs : List Loc} {ls : Array Slot} (w : WD x s S H locs) {x4 : Int32} {v1 : Int32} (g1 : vp_in (x4 + 1) L) (e1 : xs (x4 + 1).toNatClampNeg = v1) {v2 : Int32} (g2 : vp_in (x4 + 2) L) (e2 : xs (x4 + 2).toNatClampNeg = v2) (hl : lv_has ls 7 [(0, .ref b), (1, .ref (x.2.2 79)), (2, .ref (x.2.2 80)), (3, .ref (x.2.2 87)), (4, .int x4)]) (hf : g_optimal S v1 v2 = some S') (hnext : ∀ (H : Heap) (locs : List Loc) (ls : Array Slot), WD x s S' H locs → lv_has ls 7 [(0, .ref b), (1, .ref (x.2.2 79)), (2, .ref (x.2.2 80)), (3, .ref (x.2.2 87)), (4, .int x4)] → W p l e room_1 s m #[Value.ref b] below meth c H locs (kc + 8) (ks + 48) Q (F0 m 2071 ls [])) : W p l e room_1 s m #[Value.ref b] below meth c H locs kc ks Q (F0 m 1797 ls []) := by
  unfold g_optimal at hf
  refine lv_aload_n F.1 F.2.1 dL_law_1797 rfl (lv_at hl 1 rfl) ?_
  refine lv_aload_n F.1 F.2.1 dL_law_1798 rfl (lv_at hl 0 rfl) ?_
  refine lv_iload F.1 F.2.1 dL_law_1799 (lv_at hl 4 rfl) ?_
  refine lv_iconst (v := 1) F.1 F.2.1 dL_law_1801 (by decide) ?_
  refine lv_iadd F.1 F.2.1 dL_law_1802 ?_
  refine va_sld F.1 F.2.1 hX hbl hbA w.S g1 dL_law_1803 ?_
  rw [e1]
  refine lv_aload_n F.1 F.2.1 dL_law_1804 rfl (lv_at hl 0 rfl) ?_
  refine lv_iload F.1 F.2.1 dL_law_1805 (lv_at hl 4 rfl) ?_
  refine lv_iconst (v := 2) F.1 F.2.1 dL_law_1807 (by decide) ?_
  refine lv_iadd F.1 F.2.1 dL_law_1808 ?_
  refine va_sld F.1 F.2.1 hX hbl hbA w.S g2 dL_law_1809 ?_
  rw [e2]
  refine lv_aload_n F.1 F.2.1 dL_law_1810 rfl (lv_at hl 3 rfl) ?_
  obtain ⟨r2, S1, hc, hf⟩ := oi_b hf
  refine k_i (S' := S1) (r := r2) w (runSW (As := [.ref (x.2.2 (79)), .int v1, .int v2, .ref (x.2.2 (87))]) (rest := []) F w (k_L_optimal l x S v1 v2 hc hls H.size) cyw_optimal q784 q785 ⟨rfl, rfl⟩ ⟨Nat.le_of_ble_eq_true rfl, Nat.le_of_ble_eq_true rfl⟩ rfl rfl hl.1 (Nat.le_of_ble_eq_true rfl) (cap_le hcap (by decide) (by decide)) dL_law_1811) (fun H locs w => ?_)
  refine lv_istore (lv' := [(5, .int r2), (0, .ref b), (1, .ref (x.2.2 (79))), (2, .ref (x.2.2 (80))), (3, .ref (x.2.2 (87))), (4, .int x4)]) F.1 F.2.1 dL_law_1814 hl (by decide) rfl (fun ls hl => ?_)
  refine lv_aload_n F.1 F.2.1 dL_law_1816 rfl (lv_at hl 3 rfl) ?_
  refine lv_aload_n F.1 F.2.1 dL_law_1817 rfl (lv_at hl 1 rfl) ?_
  refine lv_iload F.1 F.2.1 dL_law_1818 (lv_at hl 5 rfl) ?_
  refine lv_iconst (v := 1) F.1 F.2.1 dL_law_1820 (by decide) ?_
  refine lv_iadd F.1 F.2.1 dL_law_1821 ?_
  refine va_sld F.1 F.2.1 hX hbl hbA w.S g1 dL_law_1822 ?_
  rw [e1]
  refine lv_aload_n F.1 F.2.1 dL_law_1823 rfl (lv_at hl 1 rfl) ?_
  refine lv_iload F.1 F.2.1 dL_law_1824 (lv_at hl 5 rfl) ?_
  refine lv_iconst (v := 2) F.1 F.2.1 dL_law_1826 (by decide) ?_
  refine lv_iadd F.1 F.2.1 dL_law_1827 ?_
  refine va_sld F.1 F.2.1 hX hbl hbA w.S g2 dL_law_1828 ?_
  rw [e2]
  obtain ⟨r4, S3, hc, hf⟩ := oi_b hf
  refine k_i0 (S' := S3) (r := r4) w (runV (As := [.int v1, .int v2]) (rest := []) (kb := 80) F w (k_X9_optimal l x S1 v1 v2 hc H.size) cy_X9_optimal q1133 q1134 q1135 ⟨rfl, rfl⟩ ⟨Nat.le_of_ble_eq_true rfl, Nat.le_of_ble_eq_true rfl⟩ (by decide) rfl rfl rfl rfl hl.1 (Nat.le_of_ble_eq_true rfl) (cap_le2 hcap (by decide) (by decide)) dL_law_1829) (fun H locs w => ?_)
  refine lv_istore (lv' := [(6, .int r4), (5, .int r2), (0, .ref b), (1, .ref (x.2.2 (79))), (2, .ref (x.2.2 (80))), (3, .ref (x.2.2 (87))), (4, .int x4)]) F.1 F.2.1 dL_law_1832 hl (by decide) rfl (fun ls hl => ?_)
  refine lv_aload_n F.1 F.2.1 dL_law_1834 rfl (lv_at hl 4 rfl) ?_
  obtain ⟨r6, S5, hc, hf⟩ := oi_b hf
  refine k_i0 (S' := S5) (r := r6) w (runV (As := []) (rest := []) (kb := 80) F w (k_X9_thrown l x S3 hc H.size) cy_X9_thrown q894 q895 q896 ⟨rfl, rfl⟩ ⟨Nat.le_of_ble_eq_true rfl, Nat.le_of_ble_eq_true rfl⟩ (by decide) rfl rfl rfl rfl hl.1 (Nat.le_of_ble_eq_true rfl) (cap_le2 hcap (by decide) (by decide)) dL_law_1835) (fun H locs w => ?_)
  refine lv_iload F.1 F.2.1 dL_law_1838 (lv_at hl 1 rfl) ?_
  refine lv_icmp_eq (tgt := 1845) F.1 F.2.1 dL_law_1840 (by decide) (fun c7 => ?_) (fun c7 => ?_)
  · replace hf := oi_t hf c7
    refine lv_iload F.1 F.2.1 dL_law_1845 (lv_at hl 1 rfl) ?_
    refine lv_if_ne (tgt := 1862) F.1 F.2.1 dL_law_1847 (by decide) (fun c8 => ?_) (fun c8 => ?_)
    · replace hf := oi_f hf c8
      refine lv_goto (tgt := 2071) F.1 F.2.1 dL_law_1862 (by decide) ?_
      have hS := oi_s hf
      subst hS
      refine W.widen (k := kc + 8) (n := ks + 48) (by omega) (by omega) ?_
      exact hnext _ _ _ w (lv_sub hl [2, 3, 4, 5, 6] rfl)
    · replace hf := oi_t hf c8
      refine lv_aload_n F.1 F.2.1 dL_law_1850 rfl (lv_at hl 5 rfl) ?_
      refine lv_iconst (v := 0) F.1 F.2.1 dL_law_1851 (by decide) ?_
      refine r_lald F w (k := 87) (n := 1) (f := al S5 5) (by decide) rfl (by decide) dL_law_1852 ?_
      refine lv_iload F.1 F.2.1 dL_law_1853 (lv_at hl 0 rfl) ?_
      refine lv_i2l (v := Int32.toInt64 r4) F.1 F.2.1 dL_law_1855 rfl ?_
      refine W.lcmp F.1 F.2.1 dL_law_1856 ?_
      refine lv_if_eq (tgt := 1862) F.1 F.2.1 dL_law_1857 (by decide) (fun c9 => ?_) (fun c9 => ?_)
      · replace hf := oi_t hf c9
        refine lv_goto (tgt := 2071) F.1 F.2.1 dL_law_1862 (by decide) ?_
        have hS := oi_s hf
        subst hS
        refine W.widen (k := kc + 8) (n := ks + 48) (by omega) (by omega) ?_
        exact hnext _ _ _ w (lv_sub hl [2, 3, 4, 5, 6] rfl)
      · replace hf := oi_f hf c9
        cases hf
  · replace hf := oi_f hf c7
    cases hf
def g_sparse (S : ST) (v1 : Int32) (v2 : Int32) : Option ST := oB (f_L_sparse S v1 v2) (fun (r2 : Int32) (S1 : ST) => oB (f_X9_sparse S1 v1 v2) (fun (r4 : Int32) (S3 : ST) => oB (f_X9_thrown S3) (fun (r6 : Int32) (S5 : ST) => (if r6 = r2 then (if r2 = 0 then (if (lg_cmp (al S5 5 (Int32.toNatClampNeg 0)) (Int32.toInt64 r4)) = 0 then some S5 else none) else some S5) else none))))
set_option maxHeartbeats 4000000 in
set_option maxRecDepth 100000 in
theorem lc_sparse {p : Program} {l : Launch} {e : Env} {s : State} {m : MethodId} {below : List Frame} {meth : Method} {c : Code} {x : CX} {b L : Nat} {xs : Nat → Int32} {ret : Option FieldType} {Q : State → Prop} (F : MF p m meth c cL_law 7 s #[Value.ref b] RL ret) (hX : va_X b L xs s s.heap) (hbl : b < s.heap.size) (hbA : ¬ AA x s.heap.size b) (hls : l.stackTraces = false) {kc ks : Nat} (hcap : kc + 8 ≤ 601024 ∧ ks + 48 ≤ 7293034) {S S' : ST} {H : Heap} {locs : List Loc} {ls : Array Slot} (w : WD x s S H locs) {x4 : Int32} {v1 : Int32} (g1 : vp_in (x4 + 1) L) (e1 : xs (x4 + 1).toNatClampNeg = v1) {v2 : Int32} (g2 : vp_in (x4 + 2) L) (e2 : xs (x4 + 2).toNatClampNeg = v2) (hl : lv_has ls 7 [(0, .ref b), (1, .ref (x.2.2 79)), (2, .ref (x.2.2 80)), (3, .ref (x.2.2 87)), (4, .int x4)]) (hf : g_sparse S v1 v2 = some S') (hnext : ∀ (H : Heap) (locs : List Loc) (ls : Array Slot), WD x s S' H locs → lv_has ls 7 [(0, .ref b), (1, .ref (x.2.2 79)), (2, .ref (x.2.2 80)), (3, .ref (x.2.2 87)), (4, .int x4)] → W p l e room_1 s m #[Value.ref b] below meth c H locs (kc + 8) (ks + 48) Q (F0 m 2071 ls [])) : W p l e room_1 s m #[Value.ref b] below meth c H locs kc ks Q (F0 m 1865 ls []) := by
  unfold g_sparse at hf
  refine lv_aload_n F.1 F.2.1 dL_law_1865 rfl (lv_at hl 1 rfl) ?_
  refine lv_aload_n F.1 F.2.1 dL_law_1866 rfl (lv_at hl 0 rfl) ?_
  refine lv_iload F.1 F.2.1 dL_law_1867 (lv_at hl 4 rfl) ?_
  refine lv_iconst (v := 1) F.1 F.2.1 dL_law_1869 (by decide) ?_
  refine lv_iadd F.1 F.2.1 dL_law_1870 ?_
  refine va_sld F.1 F.2.1 hX hbl hbA w.S g1 dL_law_1871 ?_
  rw [e1]
  refine lv_aload_n F.1 F.2.1 dL_law_1872 rfl (lv_at hl 0 rfl) ?_
  refine lv_iload F.1 F.2.1 dL_law_1873 (lv_at hl 4 rfl) ?_
  refine lv_iconst (v := 2) F.1 F.2.1 dL_law_1875 (by decide) ?_
  refine lv_iadd F.1 F.2.1 dL_law_1876 ?_
  refine va_sld F.1 F.2.1 hX hbl hbA w.S g2 dL_law_1877 ?_
  rw [e2]
  refine lv_aload_n F.1 F.2.1 dL_law_1878 rfl (lv_at hl 3 rfl) ?_
  obtain ⟨r2, S1, hc, hf⟩ := oi_b hf
  refine k_i (S' := S1) (r := r2) w (runSW (As := [.ref (x.2.2 (79)), .int v1, .int v2, .ref (x.2.2 (87))]) (rest := []) F w (k_L_sparse l x S v1 v2 hc hls H.size) cyw_sparse q802 q803 ⟨rfl, rfl⟩ ⟨Nat.le_of_ble_eq_true rfl, Nat.le_of_ble_eq_true rfl⟩ rfl rfl hl.1 (Nat.le_of_ble_eq_true rfl) (cap_le hcap (by decide) (by decide)) dL_law_1879) (fun H locs w => ?_)
  refine lv_istore (lv' := [(5, .int r2), (0, .ref b), (1, .ref (x.2.2 (79))), (2, .ref (x.2.2 (80))), (3, .ref (x.2.2 (87))), (4, .int x4)]) F.1 F.2.1 dL_law_1882 hl (by decide) rfl (fun ls hl => ?_)
  refine lv_aload_n F.1 F.2.1 dL_law_1884 rfl (lv_at hl 3 rfl) ?_
  refine lv_aload_n F.1 F.2.1 dL_law_1885 rfl (lv_at hl 1 rfl) ?_
  refine lv_iload F.1 F.2.1 dL_law_1886 (lv_at hl 5 rfl) ?_
  refine lv_iconst (v := 1) F.1 F.2.1 dL_law_1888 (by decide) ?_
  refine lv_iadd F.1 F.2.1 dL_law_1889 ?_
  refine va_sld F.1 F.2.1 hX hbl hbA w.S g1 dL_law_1890 ?_
  rw [e1]
  refine lv_aload_n F.1 F.2.1 dL_law_1891 rfl (lv_at hl 1 rfl) ?_
  refine lv_iload F.1 F.2.1 dL_law_1892 (lv_at hl 5 rfl) ?_
  refine lv_iconst (v := 2) F.1 F.2.1 dL_law_1894 (by decide) ?_
  refine lv_iadd F.1 F.2.1 dL_law_1895 ?_
  refine va_sld F.1 F.2.1 hX hbl hbA w.S g2 dL_law_1896 ?_
  rw [e2]
  obtain ⟨r4, S3, hc, hf⟩ := oi_b hf
  refine k_i0 (S' := S3) (r := r4) w (runV (As := [.int v1, .int v2]) (rest := []) (kb := 80) F w (k_X9_sparse l x S1 v1 v2 hc H.size) cy_X9_sparse q1157 q1158 q1159 ⟨rfl, rfl⟩ ⟨Nat.le_of_ble_eq_true rfl, Nat.le_of_ble_eq_true rfl⟩ (by decide) rfl rfl rfl rfl hl.1 (Nat.le_of_ble_eq_true rfl) (cap_le2 hcap (by decide) (by decide)) dL_law_1897) (fun H locs w => ?_)
  refine lv_istore (lv' := [(6, .int r4), (5, .int r2), (0, .ref b), (1, .ref (x.2.2 (79))), (2, .ref (x.2.2 (80))), (3, .ref (x.2.2 (87))), (4, .int x4)]) F.1 F.2.1 dL_law_1900 hl (by decide) rfl (fun ls hl => ?_)
  refine lv_aload_n F.1 F.2.1 dL_law_1902 rfl (lv_at hl 4 rfl) ?_
  obtain ⟨r6, S5, hc, hf⟩ := oi_b hf
  refine k_i0 (S' := S5) (r := r6) w (runV (As := []) (rest := []) (kb := 80) F w (k_X9_thrown l x S3 hc H.size) cy_X9_thrown q894 q895 q896 ⟨rfl, rfl⟩ ⟨Nat.le_of_ble_eq_true rfl, Nat.le_of_ble_eq_true rfl⟩ (by decide) rfl rfl rfl rfl hl.1 (Nat.le_of_ble_eq_true rfl) (cap_le2 hcap (by decide) (by decide)) dL_law_1903) (fun H locs w => ?_)
  refine lv_iload F.1 F.2.1 dL_law_1906 (lv_at hl 1 rfl) ?_
  refine lv_icmp_eq (tgt := 1913) F.1 F.2.1 dL_law_1908 (by decide) (fun c7 => ?_) (fun c7 => ?_)
  · replace hf := oi_t hf c7
    refine lv_iload F.1 F.2.1 dL_law_1913 (lv_at hl 1 rfl) ?_
    refine lv_if_ne (tgt := 1930) F.1 F.2.1 dL_law_1915 (by decide) (fun c8 => ?_) (fun c8 => ?_)
    · replace hf := oi_f hf c8
      refine lv_goto (tgt := 2071) F.1 F.2.1 dL_law_1930 (by decide) ?_
      have hS := oi_s hf
      subst hS
      refine W.widen (k := kc + 8) (n := ks + 48) (by omega) (by omega) ?_
      exact hnext _ _ _ w (lv_sub hl [2, 3, 4, 5, 6] rfl)
    · replace hf := oi_t hf c8
      refine lv_aload_n F.1 F.2.1 dL_law_1918 rfl (lv_at hl 5 rfl) ?_
      refine lv_iconst (v := 0) F.1 F.2.1 dL_law_1919 (by decide) ?_
      refine r_lald F w (k := 87) (n := 1) (f := al S5 5) (by decide) rfl (by decide) dL_law_1920 ?_
      refine lv_iload F.1 F.2.1 dL_law_1921 (lv_at hl 0 rfl) ?_
      refine lv_i2l (v := Int32.toInt64 r4) F.1 F.2.1 dL_law_1923 rfl ?_
      refine W.lcmp F.1 F.2.1 dL_law_1924 ?_
      refine lv_if_eq (tgt := 1930) F.1 F.2.1 dL_law_1925 (by decide) (fun c9 => ?_) (fun c9 => ?_)
      · replace hf := oi_t hf c9
        refine lv_goto (tgt := 2071) F.1 F.2.1 dL_law_1930 (by decide) ?_
        have hS := oi_s hf
        subst hS
        refine W.widen (k := kc + 8) (n := ks + 48) (by omega) (by omega) ?_
        exact hnext _ _ _ w (lv_sub hl [2, 3, 4, 5, 6] rfl)
      · replace hf := oi_f hf c9
        cases hf
  · replace hf := oi_f hf c7
    cases hf
def g_firstDifferenceSet (S : ST) (v1 : Int32) (v2 : Int32) (v3 : Int32) : Option ST := oB (f_L_firstDifferenceSet S v1 v2 v3) (fun (r2 : Int32) (S1 : ST) => oB (f_X9_firstDifferenceSet S1 v1 v2 v3) (fun (r4 : Int32) (S3 : ST) => oB (f_X9_thrown S3) (fun (r6 : Int32) (S5 : ST) => (if r6 = r2 then (if r2 = 0 then (if (lg_cmp (al S5 5 (Int32.toNatClampNeg 0)) (Int32.toInt64 r4)) = 0 then some S5 else none) else some S5) else none))))
set_option maxHeartbeats 4000000 in
set_option maxRecDepth 100000 in
theorem lc_firstDifferenceSet {p : Program} {l : Launch} {e : Env} {s : State} {m : MethodId} {below : List Frame} {meth : Method} {c : Code} {x : CX} {b L : Nat} {xs : Nat → Int32} {ret : Option FieldType} {Q : State → Prop} (F : MF p m meth c cL_law 7 s #[Value.ref b] RL ret) (hX : va_X b L xs s s.heap) (hbl : b < s.heap.size) (hbA : ¬ AA x s.heap.size b) (hls : l.stackTraces = false) {kc ks : Nat} (hcap : kc + 8 ≤ 601024 ∧ ks + 48 ≤ 7293034) {S S' : ST} {H : Heap} {locs : List Loc} {ls : Array Slot} (w : WD x s S H locs) {x4 : Int32} {v1 : Int32} (g1 : vp_in (x4 + 1) L) (e1 : xs (x4 + 1).toNatClampNeg = v1) {v2 : Int32} (g2 : vp_in (x4 + 2) L) (e2 : xs (x4 + 2).toNatClampNeg = v2) {v3 : Int32} (g3 : vp_in (x4 + 3) L) (e3 : xs (x4 + 3).toNatClampNeg = v3) (hl : lv_has ls 7 [(0, .ref b), (1, .ref (x.2.2 79)), (2, .ref (x.2.2 80)), (3, .ref (x.2.2 87)), (4, .int x4)]) (hf : g_firstDifferenceSet S v1 v2 v3 = some S') (hnext : ∀ (H : Heap) (locs : List Loc) (ls : Array Slot), WD x s S' H locs → lv_has ls 7 [(0, .ref b), (1, .ref (x.2.2 79)), (2, .ref (x.2.2 80)), (3, .ref (x.2.2 87)), (4, .int x4)] → W p l e room_1 s m #[Value.ref b] below meth c H locs (kc + 8) (ks + 48) Q (F0 m 2071 ls [])) : W p l e room_1 s m #[Value.ref b] below meth c H locs kc ks Q (F0 m 1933 ls []) := by
  unfold g_firstDifferenceSet at hf
  refine lv_aload_n F.1 F.2.1 dL_law_1933 rfl (lv_at hl 1 rfl) ?_
  refine lv_aload_n F.1 F.2.1 dL_law_1934 rfl (lv_at hl 0 rfl) ?_
  refine lv_iload F.1 F.2.1 dL_law_1935 (lv_at hl 4 rfl) ?_
  refine lv_iconst (v := 1) F.1 F.2.1 dL_law_1937 (by decide) ?_
  refine lv_iadd F.1 F.2.1 dL_law_1938 ?_
  refine va_sld F.1 F.2.1 hX hbl hbA w.S g1 dL_law_1939 ?_
  rw [e1]
  refine lv_aload_n F.1 F.2.1 dL_law_1940 rfl (lv_at hl 0 rfl) ?_
  refine lv_iload F.1 F.2.1 dL_law_1941 (lv_at hl 4 rfl) ?_
  refine lv_iconst (v := 2) F.1 F.2.1 dL_law_1943 (by decide) ?_
  refine lv_iadd F.1 F.2.1 dL_law_1944 ?_
  refine va_sld F.1 F.2.1 hX hbl hbA w.S g2 dL_law_1945 ?_
  rw [e2]
  refine lv_aload_n F.1 F.2.1 dL_law_1946 rfl (lv_at hl 0 rfl) ?_
  refine lv_iload F.1 F.2.1 dL_law_1947 (lv_at hl 4 rfl) ?_
  refine lv_iconst (v := 3) F.1 F.2.1 dL_law_1949 (by decide) ?_
  refine lv_iadd F.1 F.2.1 dL_law_1950 ?_
  refine va_sld F.1 F.2.1 hX hbl hbA w.S g3 dL_law_1951 ?_
  rw [e3]
  refine lv_aload_n F.1 F.2.1 dL_law_1952 rfl (lv_at hl 3 rfl) ?_
  obtain ⟨r2, S1, hc, hf⟩ := oi_b hf
  refine k_i (S' := S1) (r := r2) w (runSW (As := [.ref (x.2.2 (79)), .int v1, .int v2, .int v3, .ref (x.2.2 (87))]) (rest := []) F w (k_L_firstDifferenceSet l x S v1 v2 v3 hc hls H.size) cyw_firstDifferenceSet q819 q820 ⟨rfl, rfl⟩ ⟨Nat.le_of_ble_eq_true rfl, Nat.le_of_ble_eq_true rfl⟩ rfl rfl hl.1 (Nat.le_of_ble_eq_true rfl) (cap_le hcap (by decide) (by decide)) dL_law_1953) (fun H locs w => ?_)
  refine lv_istore (lv' := [(5, .int r2), (0, .ref b), (1, .ref (x.2.2 (79))), (2, .ref (x.2.2 (80))), (3, .ref (x.2.2 (87))), (4, .int x4)]) F.1 F.2.1 dL_law_1956 hl (by decide) rfl (fun ls hl => ?_)
  refine lv_aload_n F.1 F.2.1 dL_law_1958 rfl (lv_at hl 3 rfl) ?_
  refine lv_aload_n F.1 F.2.1 dL_law_1959 rfl (lv_at hl 1 rfl) ?_
  refine lv_iload F.1 F.2.1 dL_law_1960 (lv_at hl 5 rfl) ?_
  refine lv_iconst (v := 1) F.1 F.2.1 dL_law_1962 (by decide) ?_
  refine lv_iadd F.1 F.2.1 dL_law_1963 ?_
  refine va_sld F.1 F.2.1 hX hbl hbA w.S g1 dL_law_1964 ?_
  rw [e1]
  refine lv_aload_n F.1 F.2.1 dL_law_1965 rfl (lv_at hl 1 rfl) ?_
  refine lv_iload F.1 F.2.1 dL_law_1966 (lv_at hl 5 rfl) ?_
  refine lv_iconst (v := 2) F.1 F.2.1 dL_law_1968 (by decide) ?_
  refine lv_iadd F.1 F.2.1 dL_law_1969 ?_
  refine va_sld F.1 F.2.1 hX hbl hbA w.S g2 dL_law_1970 ?_
  rw [e2]
  refine lv_aload_n F.1 F.2.1 dL_law_1971 rfl (lv_at hl 1 rfl) ?_
  refine lv_iload F.1 F.2.1 dL_law_1972 (lv_at hl 5 rfl) ?_
  refine lv_iconst (v := 3) F.1 F.2.1 dL_law_1974 (by decide) ?_
  refine lv_iadd F.1 F.2.1 dL_law_1975 ?_
  refine va_sld F.1 F.2.1 hX hbl hbA w.S g3 dL_law_1976 ?_
  rw [e3]
  obtain ⟨r4, S3, hc, hf⟩ := oi_b hf
  refine k_i0 (S' := S3) (r := r4) w (runV (As := [.int v1, .int v2, .int v3]) (rest := []) (kb := 80) F w (k_X9_firstDifferenceSet l x S1 v1 v2 v3 hc H.size) cy_X9_firstDifferenceSet q1164 q1165 q1166 ⟨rfl, rfl⟩ ⟨Nat.le_of_ble_eq_true rfl, Nat.le_of_ble_eq_true rfl⟩ (by decide) rfl rfl rfl rfl hl.1 (Nat.le_of_ble_eq_true rfl) (cap_le2 hcap (by decide) (by decide)) dL_law_1977) (fun H locs w => ?_)
  refine lv_istore (lv' := [(6, .int r4), (5, .int r2), (0, .ref b), (1, .ref (x.2.2 (79))), (2, .ref (x.2.2 (80))), (3, .ref (x.2.2 (87))), (4, .int x4)]) F.1 F.2.1 dL_law_1980 hl (by decide) rfl (fun ls hl => ?_)
  refine lv_aload_n F.1 F.2.1 dL_law_1982 rfl (lv_at hl 4 rfl) ?_
  obtain ⟨r6, S5, hc, hf⟩ := oi_b hf
  refine k_i0 (S' := S5) (r := r6) w (runV (As := []) (rest := []) (kb := 80) F w (k_X9_thrown l x S3 hc H.size) cy_X9_thrown q894 q895 q896 ⟨rfl, rfl⟩ ⟨Nat.le_of_ble_eq_true rfl, Nat.le_of_ble_eq_true rfl⟩ (by decide) rfl rfl rfl rfl hl.1 (Nat.le_of_ble_eq_true rfl) (cap_le2 hcap (by decide) (by decide)) dL_law_1983) (fun H locs w => ?_)
  refine lv_iload F.1 F.2.1 dL_law_1986 (lv_at hl 1 rfl) ?_
  refine lv_icmp_eq (tgt := 1993) F.1 F.2.1 dL_law_1988 (by decide) (fun c7 => ?_) (fun c7 => ?_)
  · replace hf := oi_t hf c7
    refine lv_iload F.1 F.2.1 dL_law_1993 (lv_at hl 1 rfl) ?_
    refine lv_if_ne (tgt := 2010) F.1 F.2.1 dL_law_1995 (by decide) (fun c8 => ?_) (fun c8 => ?_)
    · replace hf := oi_f hf c8
      refine lv_goto (tgt := 2071) F.1 F.2.1 dL_law_2010 (by decide) ?_
      have hS := oi_s hf
      subst hS
      refine W.widen (k := kc + 8) (n := ks + 48) (by omega) (by omega) ?_
      exact hnext _ _ _ w (lv_sub hl [2, 3, 4, 5, 6] rfl)
    · replace hf := oi_t hf c8
      refine lv_aload_n F.1 F.2.1 dL_law_1998 rfl (lv_at hl 5 rfl) ?_
      refine lv_iconst (v := 0) F.1 F.2.1 dL_law_1999 (by decide) ?_
      refine r_lald F w (k := 87) (n := 1) (f := al S5 5) (by decide) rfl (by decide) dL_law_2000 ?_
      refine lv_iload F.1 F.2.1 dL_law_2001 (lv_at hl 0 rfl) ?_
      refine lv_i2l (v := Int32.toInt64 r4) F.1 F.2.1 dL_law_2003 rfl ?_
      refine W.lcmp F.1 F.2.1 dL_law_2004 ?_
      refine lv_if_eq (tgt := 2010) F.1 F.2.1 dL_law_2005 (by decide) (fun c9 => ?_) (fun c9 => ?_)
      · replace hf := oi_t hf c9
        refine lv_goto (tgt := 2071) F.1 F.2.1 dL_law_2010 (by decide) ?_
        have hS := oi_s hf
        subst hS
        refine W.widen (k := kc + 8) (n := ks + 48) (by omega) (by omega) ?_
        exact hnext _ _ _ w (lv_sub hl [2, 3, 4, 5, 6] rfl)
      · replace hf := oi_f hf c9
        cases hf
  · replace hf := oi_f hf c7
    cases hf
def g_undo (S : ST)  : Option ST := oB (f_L_undo S) (fun (r2 : Int32) (S1 : ST) => oB (f_X9_undo S1) (fun (r4 : Int32) (S3 : ST) => oB (f_X9_thrown S3) (fun (r6 : Int32) (S5 : ST) => (if r6 = r2 then (if r2 = 0 then (if (lg_cmp (al S5 5 (Int32.toNatClampNeg 0)) (Int32.toInt64 r4)) = 0 then some S5 else none) else some S5) else none))))
set_option maxHeartbeats 4000000 in
set_option maxRecDepth 100000 in
theorem lc_undo {p : Program} {l : Launch} {e : Env} {s : State} {m : MethodId} {below : List Frame} {meth : Method} {c : Code} {x : CX} {b L : Nat} {xs : Nat → Int32} {ret : Option FieldType} {Q : State → Prop} (F : MF p m meth c cL_law 7 s #[Value.ref b] RL ret) (hX : va_X b L xs s s.heap) (hbl : b < s.heap.size) (hbA : ¬ AA x s.heap.size b) (hls : l.stackTraces = false) {kc ks : Nat} (hcap : kc + 8 ≤ 601024 ∧ ks + 48 ≤ 7293034) {S S' : ST} {H : Heap} {locs : List Loc} {ls : Array Slot} (w : WD x s S H locs) {x4 : Int32} (hl : lv_has ls 7 [(0, .ref b), (1, .ref (x.2.2 79)), (2, .ref (x.2.2 80)), (3, .ref (x.2.2 87)), (4, .int x4)]) (hf : g_undo S  = some S') (hnext : ∀ (H : Heap) (locs : List Loc) (ls : Array Slot), WD x s S' H locs → lv_has ls 7 [(0, .ref b), (1, .ref (x.2.2 79)), (2, .ref (x.2.2 80)), (3, .ref (x.2.2 87)), (4, .int x4)] → W p l e room_1 s m #[Value.ref b] below meth c H locs (kc + 8) (ks + 48) Q (F0 m 2071 ls [])) : W p l e room_1 s m #[Value.ref b] below meth c H locs kc ks Q (F0 m 2013 ls []) := by
  unfold g_undo at hf
  refine lv_aload_n F.1 F.2.1 dL_law_2013 rfl (lv_at hl 1 rfl) ?_
  refine lv_aload_n F.1 F.2.1 dL_law_2014 rfl (lv_at hl 3 rfl) ?_
  obtain ⟨r2, S1, hc, hf⟩ := oi_b hf
  refine k_i (S' := S1) (r := r2) w (runSW (As := [.ref (x.2.2 (79)), .ref (x.2.2 (87))]) (rest := []) F w (k_L_undo l x S hc hls H.size) cyw_undo q845 q846 ⟨rfl, rfl⟩ ⟨Nat.le_of_ble_eq_true rfl, Nat.le_of_ble_eq_true rfl⟩ rfl rfl hl.1 (Nat.le_of_ble_eq_true rfl) (cap_le hcap (by decide) (by decide)) dL_law_2015) (fun H locs w => ?_)
  refine lv_istore (lv' := [(5, .int r2), (0, .ref b), (1, .ref (x.2.2 (79))), (2, .ref (x.2.2 (80))), (3, .ref (x.2.2 (87))), (4, .int x4)]) F.1 F.2.1 dL_law_2018 hl (by decide) rfl (fun ls hl => ?_)
  refine lv_aload_n F.1 F.2.1 dL_law_2020 rfl (lv_at hl 3 rfl) ?_
  obtain ⟨r4, S3, hc, hf⟩ := oi_b hf
  refine k_i0 (S' := S3) (r := r4) w (runV (As := []) (rest := []) (kb := 80) F w (k_X9_undo l x S1 hc H.size) cy_X9_undo q898 q899 q900 ⟨rfl, rfl⟩ ⟨Nat.le_of_ble_eq_true rfl, Nat.le_of_ble_eq_true rfl⟩ (by decide) rfl rfl rfl rfl hl.1 (Nat.le_of_ble_eq_true rfl) (cap_le2 hcap (by decide) (by decide)) dL_law_2021) (fun H locs w => ?_)
  refine lv_istore (lv' := [(6, .int r4), (5, .int r2), (0, .ref b), (1, .ref (x.2.2 (79))), (2, .ref (x.2.2 (80))), (3, .ref (x.2.2 (87))), (4, .int x4)]) F.1 F.2.1 dL_law_2024 hl (by decide) rfl (fun ls hl => ?_)
  refine lv_aload_n F.1 F.2.1 dL_law_2026 rfl (lv_at hl 4 rfl) ?_
  obtain ⟨r6, S5, hc, hf⟩ := oi_b hf
  refine k_i0 (S' := S5) (r := r6) w (runV (As := []) (rest := []) (kb := 80) F w (k_X9_thrown l x S3 hc H.size) cy_X9_thrown q894 q895 q896 ⟨rfl, rfl⟩ ⟨Nat.le_of_ble_eq_true rfl, Nat.le_of_ble_eq_true rfl⟩ (by decide) rfl rfl rfl rfl hl.1 (Nat.le_of_ble_eq_true rfl) (cap_le2 hcap (by decide) (by decide)) dL_law_2027) (fun H locs w => ?_)
  refine lv_iload F.1 F.2.1 dL_law_2030 (lv_at hl 1 rfl) ?_
  refine lv_icmp_eq (tgt := 2037) F.1 F.2.1 dL_law_2032 (by decide) (fun c7 => ?_) (fun c7 => ?_)
  · replace hf := oi_t hf c7
    refine lv_iload F.1 F.2.1 dL_law_2037 (lv_at hl 1 rfl) ?_
    refine lv_if_ne (tgt := 2054) F.1 F.2.1 dL_law_2039 (by decide) (fun c8 => ?_) (fun c8 => ?_)
    · replace hf := oi_f hf c8
      refine lv_goto (tgt := 2071) F.1 F.2.1 dL_law_2054 (by decide) ?_
      have hS := oi_s hf
      subst hS
      refine W.widen (k := kc + 8) (n := ks + 48) (by omega) (by omega) ?_
      exact hnext _ _ _ w (lv_sub hl [2, 3, 4, 5, 6] rfl)
    · replace hf := oi_t hf c8
      refine lv_aload_n F.1 F.2.1 dL_law_2042 rfl (lv_at hl 5 rfl) ?_
      refine lv_iconst (v := 0) F.1 F.2.1 dL_law_2043 (by decide) ?_
      refine r_lald F w (k := 87) (n := 1) (f := al S5 5) (by decide) rfl (by decide) dL_law_2044 ?_
      refine lv_iload F.1 F.2.1 dL_law_2045 (lv_at hl 0 rfl) ?_
      refine lv_i2l (v := Int32.toInt64 r4) F.1 F.2.1 dL_law_2047 rfl ?_
      refine W.lcmp F.1 F.2.1 dL_law_2048 ?_
      refine lv_if_eq (tgt := 2054) F.1 F.2.1 dL_law_2049 (by decide) (fun c9 => ?_) (fun c9 => ?_)
      · replace hf := oi_t hf c9
        refine lv_goto (tgt := 2071) F.1 F.2.1 dL_law_2054 (by decide) ?_
        have hS := oi_s hf
        subst hS
        refine W.widen (k := kc + 8) (n := ks + 48) (by omega) (by omega) ?_
        exact hnext _ _ _ w (lv_sub hl [2, 3, 4, 5, 6] rfl)
      · replace hf := oi_f hf c9
        cases hf
  · replace hf := oi_f hf c7
    cases hf
def g_digest (S : ST)  : Option ST := oB (f_X8_digest S) (fun (r2 : Int64) (S1 : ST) => oB (f_X9_digest S1) (fun (r4 : Int64) (S3 : ST) => (if (lg_cmp r2 r4) = 0 then some S3 else none)))
set_option maxHeartbeats 4000000 in
set_option maxRecDepth 100000 in
theorem lc_digest {p : Program} {l : Launch} {e : Env} {s : State} {m : MethodId} {below : List Frame} {meth : Method} {c : Code} {x : CX} {b L : Nat} {xs : Nat → Int32} {ret : Option FieldType} {Q : State → Prop} (F : MF p m meth c cL_law 7 s #[Value.ref b] RL ret) (hX : va_X b L xs s s.heap) (hbl : b < s.heap.size) (hbA : ¬ AA x s.heap.size b) (hls : l.stackTraces = false) {kc ks : Nat} (hcap : kc + 8 ≤ 601024 ∧ ks + 48 ≤ 7293034) {S S' : ST} {H : Heap} {locs : List Loc} {ls : Array Slot} (w : WD x s S H locs) {x4 : Int32} (hl : lv_has ls 7 [(0, .ref b), (1, .ref (x.2.2 79)), (2, .ref (x.2.2 80)), (3, .ref (x.2.2 87)), (4, .int x4)]) (hf : g_digest S  = some S') (hnext : ∀ (H : Heap) (locs : List Loc) (ls : Array Slot), WD x s S' H locs → lv_has ls 7 [(0, .ref b), (1, .ref (x.2.2 79)), (2, .ref (x.2.2 80)), (3, .ref (x.2.2 87)), (4, .int x4)] → W p l e room_1 s m #[Value.ref b] below meth c H locs (kc + 8) (ks + 48) Q (F0 m 2071 ls [])) : W p l e room_1 s m #[Value.ref b] below meth c H locs kc ks Q (F0 m 2057 ls []) := by
  unfold g_digest at hf
  refine lv_aload_n F.1 F.2.1 dL_law_2057 rfl (lv_at hl 1 rfl) ?_
  obtain ⟨r2, S1, hc, hf⟩ := oi_b hf
  refine k_l0 (S' := S1) (r := r2) w (runV (As := []) (rest := []) (kb := 79) F w (k_X8_digest l x S hc H.size) cy_X8_digest q193 q194 q195 ⟨rfl, rfl⟩ ⟨Nat.le_of_ble_eq_true rfl, Nat.le_of_ble_eq_true rfl⟩ (by decide) rfl rfl rfl rfl hl.1 (Nat.le_of_ble_eq_true rfl) (cap_le hcap (by decide) (by decide)) dL_law_2058) (fun H locs w => ?_)
  refine lv_aload_n F.1 F.2.1 dL_law_2061 rfl (lv_at hl 2 rfl) ?_
  obtain ⟨r4, S3, hc, hf⟩ := oi_b hf
  refine k_l0 (S' := S3) (r := r4) w (runV (As := []) (rest := [.long r2]) (kb := 80) F w (k_X9_digest l x S1 hc H.size) cy_X9_digest q1172 q1173 q1174 ⟨rfl, rfl⟩ ⟨Nat.le_of_ble_eq_true rfl, Nat.le_of_ble_eq_true rfl⟩ (by decide) rfl rfl rfl rfl hl.1 (Nat.le_of_ble_eq_true rfl) (cap_le hcap (by decide) (by decide)) dL_law_2062) (fun H locs w => ?_)
  refine W.lcmp F.1 F.2.1 dL_law_2065 ?_
  refine lv_if_eq (tgt := 2071) F.1 F.2.1 dL_law_2066 (by decide) (fun c5 => ?_) (fun c5 => ?_)
  · replace hf := oi_t hf c5
    have hS := oi_s hf
    subst hS
    refine W.widen (k := kc + 8) (n := ks + 48) (by omega) (by omega) ?_
    exact hnext _ _ _ w (lv_sub hl [0, 1, 2, 3, 4] rfl)
  · replace hf := oi_f hf c5
    cases hf
