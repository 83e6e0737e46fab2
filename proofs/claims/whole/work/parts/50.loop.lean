/-- one call of the script, on the pure state -/
def stp (j : Nat) (S : ST) (v1 v2 v3 v4 : Int32) : Option ST := match j with
  | 0 => g_add S v1 v2
  | 1 => g_remove S v1 v2
  | 2 => g_clear S v1
  | 3 => g_copy S v1 v2
  | 4 => g_size S v1
  | 5 => g_mark S v1 v2
  | 6 => g_length S v1
  | 7 => g_multiplicity S v1 v2
  | 8 => g_isRuler S v1
  | 9 => g_completeUpTo S v1
  | 10 => g_differences S v1
  | 11 => g_isFamily S v1
  | 12 => g_setModulus S v1
  | 13 => g_cyclicMultiplicity S v1 v2
  | 14 => g_isCyclicRuler S v1
  | 15 => g_index S v1
  | 16 => g_map S v1 v2 v3 v4
  | 17 => g_complement S v1 v2
  | 18 => g_reflect S v1 v2
  | 19 => g_multipliers S v1
  | 20 => g_canonical S v1 v2
  | 21 => g_erdosTuran S v1 v2
  | 22 => g_ruzsa S v1 v2 v3
  | 23 => g_residues S v1 v2
  | 24 => g_extend S v1 v2
  | 25 => g_optimal S v1 v2
  | 26 => g_sparse S v1 v2
  | 27 => g_firstDifferenceSet S v1 v2 v3
  | 28 => g_undo S 
  | 29 => g_digest S 
  | _ => some S
theorem lw_cmp {L i : Nat} (hL : L ≤ 2560) (hi : i ≤ 2570) : nI L - 5 < nI i ↔ ¬ i + 5 ≤ L := by
  have h5 : (5 : Int32) = nI 5 := rfl
  rw [h5, Int32.lt_iff_toInt_lt, pk_sub_toInt (by omega) (by omega), nI_toInt (by omega)]
  omega
theorem lw_ix {L i k : Nat} (hL : L ≤ 2560) (h : i + 5 ≤ L) (hk : k ≤ 4) : vp_in (nI i + nI k) L := by
  rw [nI_add]
  exact vp_in_nI (by omega) (by omega)
set_option maxHeartbeats 4000000 in
set_option maxRecDepth 100000 in
theorem law_loop {p : Program} {l : Launch} {e : Env} {s : State} {m : MethodId} {below : List Frame} {meth : Method} {c : Code} {x : CX} {b L : Nat} {xs : Nat → Int32} (F : MF p m meth c cL_law 7 s #[Value.ref b] RL ret) (hX : va_X b L xs s s.heap) (hbl : b < s.heap.size) (hls : l.stackTraces = false) (hAd : ∀ k : Nat, k < 88 → s.heap.size ≤ x.2.2 k) (hL : L ≤ 2560) (Inv : ST → Prop) (hstep : ∀ (j : Nat) (S : ST) (v1 v2 v3 v4 : Int32), Inv S → ∃ S' : ST, stp j S v1 v2 v3 v4 = some S' ∧ Inv S') :
    ∀ (n i : Nat) (S : ST) (kc ks : Nat) (H : Heap) (locs : List Loc) (ls : Array Slot) (x4 : Int32), i ≤ 2570 → L + 1 ≤ i + 5 * n → x4 = nI i → kc + 8 * n + 8 ≤ 601024 → ks + 48 * n + 48 ≤ 7293034 → Inv S → WD x s S H locs → lv_has ls 7 [(0, .ref b), (1, .ref (x.2.2 79)), (2, .ref (x.2.2 80)), (3, .ref (x.2.2 87)), (4, .int x4)] → W p l e room_1 s m #[Value.ref b] below meth c H locs kc ks (lw_Z below #[Value.ref b] s) (F0 m 23 ls []) := by
  have hbA : ¬ AA x s.heap.size b := by
    rintro (⟨k, hk, h⟩ | h)
    · have := hAd k hk
      omega
    · omega
  intro n
  induction n with
  | zero =>
    intro i S kc ks H locs ls x4 hi hn ex4 hkc hks hI w hl
    refine lv_iload F.1 F.2.1 dL_law_23 (lv_at hl 4 rfl) ?_
    refine lv_aload_n F.1 F.2.1 dL_law_25 rfl (lv_at hl 0 rfl) ?_
    refine va_slen F.1 F.2.1 hX hbl hbA w.S dL_law_26 ?_
    refine lv_iconst (v := 5) F.1 F.2.1 dL_law_27 (by decide) ?_
    refine lv_isub F.1 F.2.1 dL_law_28 ?_
    refine lv_icmp_gt (tgt := 2077) F.1 F.2.1 dL_law_29 (by decide) (fun c1 => ?_) (fun c1 => ?_)
    · refine lv_iconst (v := 1) F.1 F.2.1 dL_law_2077 (by decide) ?_
      refine va_forget (fun q hq => ?_) ?_
      · rcases w.S.2.2 q hq with ⟨k, hk, h⟩ | h
        · rw [h]; exact hAd k hk
        · exact h
      refine W.widen (k := 601024) (n := 7293034) (by omega) (by omega) ?_
      exact lw_ret F.1 F.2.1 F.2.2.2.2.2.1 F.2.2.2.2.2.2 dL_law_2078
    · exact absurd ((lw_cmp hL hi).mpr (by omega)) (by rw [← ex4]; exact c1)
  | succ n ih =>
    intro i S kc ks H locs ls x4 hi hn ex4 hkc hks hI w hl
    refine lv_iload F.1 F.2.1 dL_law_23 (lv_at hl 4 rfl) ?_
    refine lv_aload_n F.1 F.2.1 dL_law_25 rfl (lv_at hl 0 rfl) ?_
    refine va_slen F.1 F.2.1 hX hbl hbA w.S dL_law_26 ?_
    refine lv_iconst (v := 5) F.1 F.2.1 dL_law_27 (by decide) ?_
    refine lv_isub F.1 F.2.1 dL_law_28 ?_
    refine lv_icmp_gt (tgt := 2077) F.1 F.2.1 dL_law_29 (by decide) (fun c1 => ?_) (fun c1 => ?_)
    · refine lv_iconst (v := 1) F.1 F.2.1 dL_law_2077 (by decide) ?_
      refine va_forget (fun q hq => ?_) ?_
      · rcases w.S.2.2 q hq with ⟨k, hk, h⟩ | h
        · rw [h]; exact hAd k hk
        · exact h
      refine W.widen (k := 601024) (n := 7293034) (by omega) (by omega) ?_
      exact lw_ret F.1 F.2.1 F.2.2.2.2.2.1 F.2.2.2.2.2.2 dL_law_2078
    · have h5 : i + 5 ≤ L := by
        rcases Nat.lt_or_ge L (i + 5) with h | h
        · exact absurd ((lw_cmp hL hi).mpr (by omega)) (by rw [← ex4]; exact c1)
        · exact h
      have hcap : kc + 8 ≤ 601024 ∧ ks + 48 ≤ 7293034 := ⟨by omega, by omega⟩
      have g0 : vp_in x4 L := by rw [ex4]; exact vp_in_nI (by omega) (by omega)
      have g1 : vp_in (x4 + 1) L := by rw [ex4]; exact lw_ix (k := 1) hL h5 (by omega)
      have g2 : vp_in (x4 + 2) L := by rw [ex4]; exact lw_ix (k := 2) hL h5 (by omega)
      have g3 : vp_in (x4 + 3) L := by rw [ex4]; exact lw_ix (k := 3) hL h5 (by omega)
      have g4 : vp_in (x4 + 4) L := by rw [ex4]; exact lw_ix (k := 4) hL h5 (by omega)
      have tail : ∀ (S' : ST) (H : Heap) (locs : List Loc) (ls : Array Slot), Inv S' → WD x s S' H locs → lv_has ls 7 [(0, .ref b), (1, .ref (x.2.2 79)), (2, .ref (x.2.2 80)), (3, .ref (x.2.2 87)), (4, .int x4)] → W p l e room_1 s m #[Value.ref b] below meth c H locs (kc + 8) (ks + 48) (lw_Z below #[Value.ref b] s) (F0 m 2071 ls []) := by
        intro S' H locs ls hI' w hl
        obtain ⟨y4, ey⟩ : ∃ y : Int32, y = x4 + 5 := ⟨_, rfl⟩
        refine lv_iinc (v := y4) (lv' := [(4, .int y4), (0, .ref b), (1, .ref (x.2.2 79)), (2, .ref (x.2.2 80)), (3, .ref (x.2.2 87))]) F.1 F.2.1 dL_law_2071 hl (k := 4) rfl (by rw [ey]; rfl) (by decide) rfl (fun ls hl => ?_)
        refine lv_goto (tgt := 23) F.1 F.2.1 dL_law_2074 (by decide) ?_
        exact ih (i + 5) S' (kc + 8) (ks + 48) H locs ls y4 (by omega) (by omega) (by rw [ey, ex4]; exact nI_add i 5) (by omega) (by omega) hI' w (lv_sub hl [1, 2, 3, 4, 0] rfl)
      refine lv_aload_n F.1 F.2.1 dL_law_32 rfl (lv_at hl 0 rfl) ?_
      refine lv_iload F.1 F.2.1 dL_law_33 (lv_at hl 4 rfl) ?_
      refine va_sld F.1 F.2.1 hX hbl hbA w.S g0 dL_law_35 ?_
      refine lv_bipush (v := 31) F.1 F.2.1 dL_law_36 (by decide) ?_
      refine lv_iand F.1 F.2.1 dL_law_38 ?_
      obtain ⟨j, hj, ej⟩ := pk_andE (xs x4.toNatClampNeg) (m := 31) 5 (by decide)
      rw [ej]
      obtain ⟨v1, e1⟩ : ∃ y, xs (x4 + 1).toNatClampNeg = y := ⟨_, rfl⟩
      obtain ⟨v2, e2⟩ : ∃ y, xs (x4 + 2).toNatClampNeg = y := ⟨_, rfl⟩
      obtain ⟨v3, e3⟩ : ∃ y, xs (x4 + 3).toNatClampNeg = y := ⟨_, rfl⟩
      obtain ⟨v4, e4⟩ : ∃ y, xs (x4 + 4).toNatClampNeg = y := ⟨_, rfl⟩
      obtain ⟨S', hg, hI'⟩ := hstep j S v1 v2 v3 v4 hI
      match j, hj, hg with
      | 0, _, hg =>
        have hg : g_add S v1 v2 = some S' := hg
        refine lv_tableIn (off := 133) (tgt := 172) F.1 F.2.1 dL_law_39 (by decide) (by decide) rfl (by decide) ?_
        exact lc_add F hX hbl hbA hls hcap w g1 e1 g2 e2 hl hg (fun H locs ls w hl => tail S' H locs ls hI' w hl)
      | 1, _, hg =>
        have hg : g_remove S v1 v2 = some S' := hg
        refine lv_tableIn (off := 201) (tgt := 240) F.1 F.2.1 dL_law_39 (by decide) (by decide) rfl (by decide) ?_
        exact lc_remove F hX hbl hbA hls hcap w g1 e1 g2 e2 hl hg (fun H locs ls w hl => tail S' H locs ls hI' w hl)
      | 2, _, hg =>
        have hg : g_clear S v1 = some S' := hg
        refine lv_tableIn (off := 269) (tgt := 308) F.1 F.2.1 dL_law_39 (by decide) (by decide) rfl (by decide) ?_
        exact lc_clear F hX hbl hbA hls hcap w g1 e1 hl hg (fun H locs ls w hl => tail S' H locs ls hI' w hl)
      | 3, _, hg =>
        have hg : g_copy S v1 v2 = some S' := hg
        refine lv_tableIn (off := 325) (tgt := 364) F.1 F.2.1 dL_law_39 (by decide) (by decide) rfl (by decide) ?_
        exact lc_copy F hX hbl hbA hls hcap w g1 e1 g2 e2 hl hg (fun H locs ls w hl => tail S' H locs ls hI' w hl)
      | 4, _, hg =>
        have hg : g_size S v1 = some S' := hg
        refine lv_tableIn (off := 393) (tgt := 432) F.1 F.2.1 dL_law_39 (by decide) (by decide) rfl (by decide) ?_
        exact lc_size F hX hbl hbA hls hcap w g1 e1 hl hg (fun H locs ls w hl => tail S' H locs ls hI' w hl)
      | 5, _, hg =>
        have hg : g_mark S v1 v2 = some S' := hg
        refine lv_tableIn (off := 449) (tgt := 488) F.1 F.2.1 dL_law_39 (by decide) (by decide) rfl (by decide) ?_
        exact lc_mark F hX hbl hbA hls hcap w g1 e1 g2 e2 hl hg (fun H locs ls w hl => tail S' H locs ls hI' w hl)
      | 6, _, hg =>
        have hg : g_length S v1 = some S' := hg
        refine lv_tableIn (off := 517) (tgt := 556) F.1 F.2.1 dL_law_39 (by decide) (by decide) rfl (by decide) ?_
        exact lc_length F hX hbl hbA hls hcap w g1 e1 hl hg (fun H locs ls w hl => tail S' H locs ls hI' w hl)
      | 7, _, hg =>
        have hg : g_multiplicity S v1 v2 = some S' := hg
        refine lv_tableIn (off := 573) (tgt := 612) F.1 F.2.1 dL_law_39 (by decide) (by decide) rfl (by decide) ?_
        exact lc_multiplicity F hX hbl hbA hls hcap w g1 e1 g2 e2 hl hg (fun H locs ls w hl => tail S' H locs ls hI' w hl)
      | 8, _, hg =>
        have hg : g_isRuler S v1 = some S' := hg
        refine lv_tableIn (off := 641) (tgt := 680) F.1 F.2.1 dL_law_39 (by decide) (by decide) rfl (by decide) ?_
        exact lc_isRuler F hX hbl hbA hls hcap w g1 e1 hl hg (fun H locs ls w hl => tail S' H locs ls hI' w hl)
      | 9, _, hg =>
        have hg : g_completeUpTo S v1 = some S' := hg
        refine lv_tableIn (off := 704) (tgt := 743) F.1 F.2.1 dL_law_39 (by decide) (by decide) rfl (by decide) ?_
        exact lc_completeUpTo F hX hbl hbA hls hcap w g1 e1 hl hg (fun H locs ls w hl => tail S' H locs ls hI' w hl)
      | 10, _, hg =>
        have hg : g_differences S v1 = some S' := hg
        refine lv_tableIn (off := 760) (tgt := 799) F.1 F.2.1 dL_law_39 (by decide) (by decide) rfl (by decide) ?_
        exact lc_differences F hX hbl hbA hls hcap w g1 e1 hl hg (fun H locs ls w hl => tail S' H locs ls hI' w hl)
      | 11, _, hg =>
        have hg : g_isFamily S v1 = some S' := hg
        refine lv_tableIn (off := 816) (tgt := 855) F.1 F.2.1 dL_law_39 (by decide) (by decide) rfl (by decide) ?_
        exact lc_isFamily F hX hbl hbA hls hcap w g1 e1 hl hg (fun H locs ls w hl => tail S' H locs ls hI' w hl)
      | 12, _, hg =>
        have hg : g_setModulus S v1 = some S' := hg
        refine lv_tableIn (off := 879) (tgt := 918) F.1 F.2.1 dL_law_39 (by decide) (by decide) rfl (by decide) ?_
        exact lc_setModulus F hX hbl hbA hls hcap w g1 e1 hl hg (fun H locs ls w hl => tail S' H locs ls hI' w hl)
      | 13, _, hg =>
        have hg : g_cyclicMultiplicity S v1 v2 = some S' := hg
        refine lv_tableIn (off := 935) (tgt := 974) F.1 F.2.1 dL_law_39 (by decide) (by decide) rfl (by decide) ?_
        exact lc_cyclicMultiplicity F hX hbl hbA hls hcap w g1 e1 g2 e2 hl hg (fun H locs ls w hl => tail S' H locs ls hI' w hl)
      | 14, _, hg =>
        have hg : g_isCyclicRuler S v1 = some S' := hg
        refine lv_tableIn (off := 1003) (tgt := 1042) F.1 F.2.1 dL_law_39 (by decide) (by decide) rfl (by decide) ?_
        exact lc_isCyclicRuler F hX hbl hbA hls hcap w g1 e1 hl hg (fun H locs ls w hl => tail S' H locs ls hI' w hl)
      | 15, _, hg =>
        have hg : g_index S v1 = some S' := hg
        refine lv_tableIn (off := 1066) (tgt := 1105) F.1 F.2.1 dL_law_39 (by decide) (by decide) rfl (by decide) ?_
        exact lc_index F hX hbl hbA hls hcap w g1 e1 hl hg (fun H locs ls w hl => tail S' H locs ls hI' w hl)
      | 16, _, hg =>
        have hg : g_map S v1 v2 v3 v4 = some S' := hg
        refine lv_tableIn (off := 1122) (tgt := 1161) F.1 F.2.1 dL_law_39 (by decide) (by decide) rfl (by decide) ?_
        exact lc_map F hX hbl hbA hls hcap w g1 e1 g2 e2 g3 e3 g4 e4 hl hg (fun H locs ls w hl => tail S' H locs ls hI' w hl)
      | 17, _, hg =>
        have hg : g_complement S v1 v2 = some S' := hg
        refine lv_tableIn (off := 1214) (tgt := 1253) F.1 F.2.1 dL_law_39 (by decide) (by decide) rfl (by decide) ?_
        exact lc_complement F hX hbl hbA hls hcap w g1 e1 g2 e2 hl hg (fun H locs ls w hl => tail S' H locs ls hI' w hl)
      | 18, _, hg =>
        have hg : g_reflect S v1 v2 = some S' := hg
        refine lv_tableIn (off := 1282) (tgt := 1321) F.1 F.2.1 dL_law_39 (by decide) (by decide) rfl (by decide) ?_
        exact lc_reflect F hX hbl hbA hls hcap w g1 e1 g2 e2 hl hg (fun H locs ls w hl => tail S' H locs ls hI' w hl)
      | 19, _, hg =>
        have hg : g_multipliers S v1 = some S' := hg
        refine lv_tableIn (off := 1350) (tgt := 1389) F.1 F.2.1 dL_law_39 (by decide) (by decide) rfl (by decide) ?_
        exact lc_multipliers F hX hbl hbA hls hcap w g1 e1 hl hg (fun H locs ls w hl => tail S' H locs ls hI' w hl)
      | 20, _, hg =>
        have hg : g_canonical S v1 v2 = some S' := hg
        refine lv_tableIn (off := 1406) (tgt := 1445) F.1 F.2.1 dL_law_39 (by decide) (by decide) rfl (by decide) ?_
        exact lc_canonical F hX hbl hbA hls hcap w g1 e1 g2 e2 hl hg (fun H locs ls w hl => tail S' H locs ls hI' w hl)
      | 21, _, hg =>
        have hg : g_erdosTuran S v1 v2 = some S' := hg
        refine lv_tableIn (off := 1474) (tgt := 1513) F.1 F.2.1 dL_law_39 (by decide) (by decide) rfl (by decide) ?_
        exact lc_erdosTuran F hX hbl hbA hls hcap w g1 e1 g2 e2 hl hg (fun H locs ls w hl => tail S' H locs ls hI' w hl)
      | 22, _, hg =>
        have hg : g_ruzsa S v1 v2 v3 = some S' := hg
        refine lv_tableIn (off := 1542) (tgt := 1581) F.1 F.2.1 dL_law_39 (by decide) (by decide) rfl (by decide) ?_
        exact lc_ruzsa F hX hbl hbA hls hcap w g1 e1 g2 e2 g3 e3 hl hg (fun H locs ls w hl => tail S' H locs ls hI' w hl)
      | 23, _, hg =>
        have hg : g_residues S v1 v2 = some S' := hg
        refine lv_tableIn (off := 1622) (tgt := 1661) F.1 F.2.1 dL_law_39 (by decide) (by decide) rfl (by decide) ?_
        exact lc_residues F hX hbl hbA hls hcap w g1 e1 g2 e2 hl hg (fun H locs ls w hl => tail S' H locs ls hI' w hl)
      | 24, _, hg =>
        have hg : g_extend S v1 v2 = some S' := hg
        refine lv_tableIn (off := 1690) (tgt := 1729) F.1 F.2.1 dL_law_39 (by decide) (by decide) rfl (by decide) ?_
        exact lc_extend F hX hbl hbA hls hcap w g1 e1 g2 e2 hl hg (fun H locs ls w hl => tail S' H locs ls hI' w hl)
      | 25, _, hg =>
        have hg : g_optimal S v1 v2 = some S' := hg
        refine lv_tableIn (off := 1758) (tgt := 1797) F.1 F.2.1 dL_law_39 (by decide) (by decide) rfl (by decide) ?_
        exact lc_optimal F hX hbl hbA hls hcap w g1 e1 g2 e2 hl hg (fun H locs ls w hl => tail S' H locs ls hI' w hl)
      | 26, _, hg =>
        have hg : g_sparse S v1 v2 = some S' := hg
        refine lv_tableIn (off := 1826) (tgt := 1865) F.1 F.2.1 dL_law_39 (by decide) (by decide) rfl (by decide) ?_
        exact lc_sparse F hX hbl hbA hls hcap w g1 e1 g2 e2 hl hg (fun H locs ls w hl => tail S' H locs ls hI' w hl)
      | 27, _, hg =>
        have hg : g_firstDifferenceSet S v1 v2 v3 = some S' := hg
        refine lv_tableIn (off := 1894) (tgt := 1933) F.1 F.2.1 dL_law_39 (by decide) (by decide) rfl (by decide) ?_
        exact lc_firstDifferenceSet F hX hbl hbA hls hcap w g1 e1 g2 e2 g3 e3 hl hg (fun H locs ls w hl => tail S' H locs ls hI' w hl)
      | 28, _, hg =>
        have hg : g_undo S  = some S' := hg
        refine lv_tableIn (off := 1974) (tgt := 2013) F.1 F.2.1 dL_law_39 (by decide) (by decide) rfl (by decide) ?_
        exact lc_undo F hX hbl hbA hls hcap w  hl hg (fun H locs ls w hl => tail S' H locs ls hI' w hl)
      | 29, _, hg =>
        have hg : g_digest S  = some S' := hg
        refine lv_tableIn (off := 2018) (tgt := 2057) F.1 F.2.1 dL_law_39 (by decide) (by decide) rfl (by decide) ?_
        exact lc_digest F hX hbl hbA hls hcap w  hl hg (fun H locs ls w hl => tail S' H locs ls hI' w hl)
      | 30, _, hg =>
        have hg : some S = some S' := hg
        cases hg
        refine lv_tableOut (tgt := 2071) F.1 F.2.1 dL_law_39 (Or.inr (by decide)) (by decide) ?_
        exact W.widen (by omega) (by omega) (tail S H locs ls hI w hl)
      | 31, _, hg =>
        have hg : some S = some S' := hg
        cases hg
        refine lv_tableOut (tgt := 2071) F.1 F.2.1 dL_law_39 (Or.inr (by decide)) (by decide) ?_
        exact W.widen (by omega) (by omega) (tail S H locs ls hI w hl)
      | j + 32, hj, _ => exact absurd hj (by omega)
