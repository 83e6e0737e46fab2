theorem d_2 {a b T : Nat} (h : a + 256 * b < 65536) : (a + 256 * (b + 256 * T)) / 65536 = T := by omega
theorem d_4 {a b c d T : Nat} (h : a + 256 * (b + 256 * (c + 256 * d)) < 4294967296) : (a + 256 * (b + 256 * (c + 256 * (d + 256 * T)))) / 4294967296 = T := by omega
theorem bitCount_e (S : ST) (x : Int64) : f_J13_bitCount_95d88 S x = some (nI (popN 64 (uu x)), S) := by
  unfold f_J13_bitCount_95d88 f_J13_bitCount_95d88_0
  rw [oL_s, oL_s, oL_s, oL_s, oL_s, oL_s]
  have hx : uu x < 256 ^ 8 := uu_lt x
  have s1 : ((Int32.toInt64 1).toUInt64 &&& Int64.toUInt64 63).toNat % 64 = 1 := by decide
  have s2 : ((Int32.toInt64 2).toUInt64 &&& Int64.toUInt64 63).toNat % 64 = 2 := by decide
  have s4 : ((Int32.toInt64 4).toUInt64 &&& Int64.toUInt64 63).toNat % 64 = 4 := by decide
  have s8 : ((Int32.toInt64 8).toUInt64 &&& Int64.toUInt64 63).toNat % 64 = 8 := by decide
  have s16 : ((Int32.toInt64 16).toUInt64 &&& Int64.toUInt64 63).toNat % 64 = 16 := by decide
  have s32 : ((Int32.toInt64 32).toUInt64 &&& Int64.toUInt64 63).toNat % 64 = 32 := by decide
  obtain ⟨a1, a2⟩ := st1 8 (uu x) hx
  have h1 : uu (x - (((Int64.toUInt64 x >>> ((Int32.toInt64 1).toUInt64 &&& Int64.toUInt64 63)).toInt64) &&& (6148914691236517205 : Int64))) = dg by1 8 (uu x) := by
    have e : uu (((Int64.toUInt64 x >>> ((Int32.toInt64 1).toUInt64 &&& Int64.toUInt64 63)).toInt64) &&& (6148914691236517205 : Int64)) = (uu x / 2) &&& mk8 85 8 := by
      rw [uu_and, uu_shr x s1, Nat.pow_one, show uu (6148914691236517205 : Int64) = mk8 85 8 by decide +kernel]
    rw [uu_sub (by rw [e]; exact a2), e, a1]
  generalize x - (((Int64.toUInt64 x >>> ((Int32.toInt64 1).toUInt64 &&& Int64.toUInt64 63)).toInt64) &&& (6148914691236517205 : Int64)) = v1 at *
  have h2 : uu ((v1 &&& (3689348814741910323 : Int64)) + (((Int64.toUInt64 v1 >>> ((Int32.toInt64 2).toUInt64 &&& Int64.toUInt64 63)).toInt64) &&& (3689348814741910323 : Int64))) = dg (fun b => by2 (by1 b)) 8 (uu x) := by
    rw [uu_add, uu_and, uu_and, uu_shr v1 s2, show uu (3689348814741910323 : Int64) = mk8 51 8 by decide +kernel, show (2 : Nat) ^ 2 = 4 from rfl, st2, h1, dg_dg by_l1]
    exact Nat.mod_eq_of_lt (dg_bd (fun b hb => by_l2 _ (by_l1 b hb)) 8 _)
  generalize (v1 &&& (3689348814741910323 : Int64)) + (((Int64.toUInt64 v1 >>> ((Int32.toInt64 2).toUInt64 &&& Int64.toUInt64 63)).toInt64) &&& (3689348814741910323 : Int64)) = v2 at *
  have h3 : uu ((v2 + ((Int64.toUInt64 v2 >>> ((Int32.toInt64 4).toUInt64 &&& Int64.toUInt64 63)).toInt64)) &&& (1085102592571150095 : Int64)) = dg (popN 8) 8 (uu x) := by
    have hb := dg_bd (f := fun b => by2 (by1 b)) (fun b hb => by_l2 _ (by_l1 b hb)) 8 (uu x)
    have hn := nib_dg 8 (uu x)
    have hq := st3 8 _ hb hn
    rw [dg_dg (fun b hb => by_l2 _ (by_l1 b hb)), dg_pop] at hq
    rw [uu_and, uu_add, uu_shr v2 s4, show uu (1085102592571150095 : Int64) = mk8 15 8 by decide +kernel, show (2 : Nat) ^ 4 = 16 from rfl, h2, ← hq]
    have ht : dg (fun b => by2 (by1 b)) 8 (uu x) / 256 ^ 7 ≤ 68 := by
      have h7 : nib 1 (dg (fun b => by2 (by1 b)) 8 (uu x) / 256 / 256 / 256 / 256 / 256 / 256 / 256) := hn.2.2.2.2.2.2.2.2.2.2.2.2.2.2
      have e7 : dg (fun b => by2 (by1 b)) 8 (uu x) / 256 / 256 / 256 / 256 / 256 / 256 / 256 = dg (fun b => by2 (by1 b)) 8 (uu x) / 256 ^ 7 := by
        simp only [Nat.div_div_eq_div_mul]
      rw [e7] at h7
      have h8 := h7.1
      have h9 := h7.2.1
      have h10 : dg (fun b => by2 (by1 b)) 8 (uu x) / 256 ^ 7 < 256 := by
        rw [Nat.div_lt_iff_lt_mul (by decide)]
        exact hb
      omega
    generalize dg (fun b => by2 (by1 b)) 8 (uu x) = z at *
    congr 1
    apply Nat.mod_eq_of_lt
    have e7 : (256 : Nat) ^ 7 = 72057594037927936 := by decide
    have e8 : (2 : Nat) ^ 64 = 18446744073709551616 := by decide
    rw [e7] at ht
    rw [e8]
    omega
  generalize (v2 + ((Int64.toUInt64 v2 >>> ((Int32.toInt64 4).toUInt64 &&& Int64.toUInt64 63)).toInt64)) &&& (1085102592571150095 : Int64) = v3 at *
  obtain ⟨g0, g1, g2, g3, g4, g5, g6, g7, b0, b1, b2, b3, b4, b5, b6, b7, e, ep⟩ := pop_fold (uu x)
  rw [e] at h3
  have e64 : (2 : Nat) ^ 64 = 18446744073709551616 := by decide
  have h4 : uu (v3 + ((Int64.toUInt64 v3 >>> ((Int32.toInt64 8).toUInt64 &&& Int64.toUInt64 63)).toInt64)) = (g0 + g1) + 256 * ((g1 + g2) + 256 * ((g2 + g3) + 256 * ((g3 + g4) + 256 * ((g4 + g5) + 256 * ((g5 + g6) + 256 * ((g6 + g7) + 256 * g7)))))) := by
    rw [uu_add, uu_shr v3 s8, h3, e64, show (2 : Nat) ^ 8 = 256 from rfl]
    omega
  generalize v3 + ((Int64.toUInt64 v3 >>> ((Int32.toInt64 8).toUInt64 &&& Int64.toUInt64 63)).toInt64) = v4 at *
  have h5 : uu (v4 + ((Int64.toUInt64 v4 >>> ((Int32.toInt64 16).toUInt64 &&& Int64.toUInt64 63)).toInt64)) = (g0 + g1 + g2 + g3) + 256 * ((g1 + g2 + g3 + g4) + 256 * ((g2 + g3 + g4 + g5) + 256 * ((g3 + g4 + g5 + g6) + 256 * ((g4 + g5 + g6 + g7) + 256 * ((g5 + g6 + g7) + 256 * ((g6 + g7) + 256 * g7)))))) := by
    rw [uu_add, uu_shr v4 s16, h4, e64, show (2 : Nat) ^ 16 = 65536 from rfl, d_2 (by omega)]
    clear h1 h2 h3 h4 s1 s2 s4 s8 s16 s32 e ep
    rw [Nat.mod_eq_of_lt (by omega)]
    omega
  generalize v4 + ((Int64.toUInt64 v4 >>> ((Int32.toInt64 16).toUInt64 &&& Int64.toUInt64 63)).toInt64) = v5 at *
  have h6 : uu (v5 + ((Int64.toUInt64 v5 >>> ((Int32.toInt64 32).toUInt64 &&& Int64.toUInt64 63)).toInt64)) % 4294967296 % 128 = g0 + g1 + g2 + g3 + g4 + g5 + g6 + g7 := by
    rw [uu_add, uu_shr v5 s32, h5, e64, show (2 : Nat) ^ 32 = 4294967296 from rfl, d_4 (by omega)]
    clear h1 h2 h3 h4 h5 s1 s2 s4 s8 s16 s32 e ep
    rw [Nat.mod_eq_of_lt (b := 18446744073709551616) (by omega)]
    omega
  generalize v5 + ((Int64.toUInt64 v5 >>> ((Int32.toInt64 32).toUInt64 &&& Int64.toUInt64 63)).toInt64) = v6 at *
  rw [pk_and (Int64.toInt32 v6) (m := (127 : Int32)) 7 (by decide), i64_lo, show (2 : Nat) ^ 32 = 4294967296 from rfl, show (2 : Nat) ^ 7 = 128 from rfl, h6, ep]
theorem pop_srt {s : List Nat} {w N : Nat} (hb : ∀ j, j < 64 → (N.testBit j = true ↔ 64 * w + j ∈ s)) : ∀ k j, j + k = 64 → (srtTo s (64 * w + 64)).length = (srtTo s (64 * w + j)).length + popN k (N / 2 ^ j)
  | 0, j, h => by rw [show j = 64 by omega]; rfl
  | k + 1, j, h => by
    have ih := pop_srt hb k (j + 1) (by omega)
    have hj := hb j (by omega)
    show _ = _ + (N / 2 ^ j % 2 + popN k (N / 2 ^ j / 2))
    rw [Nat.div_div_eq_div_mul, ← Nat.pow_succ, ih]
    have ht : N.testBit j = decide (N / 2 ^ j % 2 = 1) := by
      rw [Nat.testBit_eq_decide_div_mod_eq]
    rw [← Nat.add_assoc (64 * w)]
    have hm : N / 2 ^ j % 2 < 2 := Nat.mod_lt _ (by decide)
    generalize popN k (N / 2 ^ (j + 1)) = z at *
    by_cases hs : 64 * w + j ∈ s
    · rw [srtTo_in hs, List.length_append]
      have h1 := hj.mpr hs
      rw [ht] at h1
      have h2 : N / 2 ^ j % 2 = 1 := by simpa using h1
      rw [h2]
      show _ + 1 + z = _
      omega
    · rw [srtTo_out hs]
      have h1 : ¬ N / 2 ^ j % 2 = 1 := fun e => hs (hj.mp (by rw [ht]; simpa using e))
      have h2 : N / 2 ^ j % 2 = 0 := by omega
      rw [h2]
      omega
theorem BR.ones_l {S : ST} {b : Nat} {s : List Nat} (h : BR S b s) : ∀ (n w : Nat), w ≤ 32 → 32 < n + w → f_X0_ones_4 n S b (nI (srtTo s (64 * w)).length) (nI w) = some (nI (srt s).length, S)
  | 0, w, h1, h2 => absurd h2 (by omega)
  | n + 1, w, h1, h2 => by
    unfold f_X0_ones_4
    by_cases hw : w = 32
    · rw [if_pos (show (32 : Int32) ≤ nI w by rw [hw]; decide), hw]
      rfl
    · have hw : w < 32 := by omega
      rw [if_neg (show ¬ (32 : Int32) ≤ nI w from nI_ge (b := 32) hw (by decide)), oG_t (inB_n hw (by omega)), nI_clamp (by omega), bitCount_e, oB_s, oL_s, oL_s, nI_1, nI_add]
      have hbit : ∀ j, j < 64 → ((uu (al S b w)).testBit j = true ↔ 64 * w + j ∈ s) := fun j hj => by
        have := h.2 (64 * w + j) (by omega)
        unfold bO at this
        rw [show (64 * w + j) / 64 = w by omega, show (64 * w + j) % 64 = j by omega] at this
        exact this
      have := pop_srt hbit 64 0 (by omega)
      rw [Nat.pow_zero, Nat.div_one] at this
      rw [show (srtTo s (64 * w)).length + popN 64 (uu (al S b w)) = (srtTo s (64 * w + 64)).length from this.symm, show 64 * w + 64 = 64 * (w + 1) by omega]
      exact BR.ones_l h n (w + 1) (by omega) (by omega)
theorem BR.ones {S : ST} {b : Nat} {s : List Nat} (h : BR S b s) : f_X0_ones S b = some (nI (srt s).length, S) := by
  unfold f_X0_ones f_X0_ones_0
  exact BR.ones_l h FU 0 (by omega) (by unfold FU; omega)
