/-! words as natural numbers -/
def uu (x : Int64) : Nat := x.toBitVec.toNat
theorem uu_lt (x : Int64) : uu x < 2 ^ 64 := x.toBitVec.isLt
theorem uu_inj {x y : Int64} (h : uu x = uu y) : x = y := Int64.toBitVec_inj.mp (BitVec.eq_of_toNat_eq h)
theorem uu_0 {x : Int64} : x = 0 ↔ uu x = 0 := ⟨fun e => by rw [e]; rfl, fun e => uu_inj (e.trans rfl)⟩
theorem uu_and (x y : Int64) : uu (x &&& y) = uu x &&& uu y := by unfold uu; rw [Int64.toBitVec_and, BitVec.toNat_and]
theorem uu_add (x y : Int64) : uu (x + y) = (uu x + uu y) % 2 ^ 64 := by unfold uu; rw [Int64.toBitVec_add, BitVec.toNat_add]
theorem uu_sub {x y : Int64} (h : uu y ≤ uu x) : uu (x - y) = uu x - uu y := by
  have h1 := uu_lt x
  unfold uu at *
  rw [Int64.toBitVec_sub, BitVec.toNat_sub]
  omega
theorem uu_shr (x : Int64) {s : UInt64} {k : Nat} (h : s.toNat % 64 = k) : uu (x.toUInt64 >>> s).toInt64 = uu x / 2 ^ k := by
  show (x.toUInt64 >>> s).toNat = _
  rw [UInt64.toNat_shiftRight, Nat.shiftRight_eq_div_pow, h]
  rfl
theorem i64_lo (x : Int64) : (Int64.toInt32 x).toBitVec.toNat = uu x % 2 ^ 32 := by
  rw [Int64.toBitVec_toInt32, BitVec.signExtend_eq_setWidth_of_le _ (by decide), BitVec.toNat_setWidth]
  rfl
theorem i32_0 {x : Int32} : x = 0 ↔ x.toBitVec.toNat = 0 := ⟨fun e => by rw [e]; rfl, fun e => Int32.toBitVec_inj.mp (BitVec.eq_of_toNat_eq (e.trans rfl))⟩
theorem nat_lo {n t q : Nat} (h : n = 2 ^ (t + 1) * q + 2 ^ t) (ht : t < 32) : n % 2 ^ 32 = 2 ^ (t + 1) * (q % 2 ^ (31 - t)) + 2 ^ t := by
  have hP : 2 ^ 32 = 2 ^ (t + 1) * 2 ^ (31 - t) := by rw [← Nat.pow_add]; congr 1; omega
  have hQ := Nat.two_pow_pos (31 - t)
  have hT : 2 ^ (t + 1) = 2 ^ t * 2 := Nat.pow_succ 2 t
  have hT0 := Nat.two_pow_pos t
  generalize 2 ^ (t + 1) = P at *
  generalize 2 ^ (31 - t) = Q at *
  have hq := Nat.div_add_mod q Q
  have hr := Nat.mod_lt q hQ
  generalize q / Q = k at *
  generalize q % Q = r at *
  have e : n = (P * r + 2 ^ t) + (P * Q) * k := by
    rw [h, ← hq, Nat.mul_add, Nat.mul_assoc]
    omega
  rw [hP, e, Nat.add_mul_mod_self_left, Nat.mod_eq_of_lt]
  have := Nat.mul_le_mul_left P hr
  rw [Nat.mul_succ] at this
  omega
theorem ntz64 (S : ST) {x : Int64} {t q : Nat} (h : uu x = 2 ^ (t + 1) * q + 2 ^ t) (ht : t < 64) : f_J13_numberOfTrailingZeros_95d88 S x = some (nI t, S) := by
  unfold f_J13_numberOfTrailingZeros_95d88 f_J13_numberOfTrailingZeros_95d88_0 f_J13_numberOfTrailingZeros_95d88_25
  rw [oL_s]
  by_cases h32 : t < 32
  · have e := nat_lo h h32
    have hz : ¬ Int64.toInt32 x = 0 := by
      rw [i32_0, i64_lo, e]
      have := Nat.two_pow_pos t
      omega
    rw [if_neg hz, ntz32 S (t := t) (q := q % 2 ^ (31 - t)) (by rw [i64_lo]; exact e) h32, oB_s]
  · have e1 : 2 ^ (t + 1) = 2 ^ 32 * 2 ^ (t - 32 + 1) := by rw [← Nat.pow_add]; congr 1; omega
    have e2 : 2 ^ t = 2 ^ 32 * 2 ^ (t - 32) := by rw [← Nat.pow_add]; congr 1; omega
    have e3 : uu x = 2 ^ 32 * (2 ^ (t - 32 + 1) * q + 2 ^ (t - 32)) := by rw [h, e1, e2, Nat.mul_add, Nat.mul_assoc]
    have hz : Int64.toInt32 x = 0 := by
      rw [i32_0, i64_lo, e3, Nat.mul_mod_right]
    have hs : ((Int32.toInt64 32).toUInt64 &&& Int64.toUInt64 63).toNat % 64 = 32 := by decide
    have hh : (Int64.toInt32 ((Int64.toUInt64 x >>> ((Int32.toInt64 32).toUInt64 &&& Int64.toUInt64 63)).toInt64)).toBitVec.toNat = 2 ^ (t - 32 + 1) * q + 2 ^ (t - 32) := by
      have hl := uu_lt x
      rw [i64_lo, uu_shr x hs, e3, Nat.mul_div_cancel_left _ (by decide)]
      rw [e3] at hl
      rw [Nat.mod_eq_of_lt]
      have h64 : (2 : Nat) ^ 64 = 2 ^ 32 * 2 ^ 32 := by decide
      rw [h64] at hl
      exact Nat.lt_of_mul_lt_mul_left hl
    rw [if_pos hz, ntz32 S hh (by omega), oB_s]
    rw [show (32 : Int32) = nI 32 from rfl, nI_add]
    congr 3
    omega
/-- the numbers of a list, in order, each once -/
def srt (s : List Nat) : List Nat := (List.range 2048).filter (fun k => decide (k ∈ s))
def srtTo (s : List Nat) (p : Nat) : List Nat := (List.range p).filter (fun k => decide (k ∈ s))
theorem srtTo_mem {s : List Nat} {p v : Nat} : v ∈ srtTo s p ↔ v < p ∧ v ∈ s := by
  unfold srtTo
  rw [List.mem_filter, List.mem_range]
  simp
theorem srtTo_in {s : List Nat} {p : Nat} (h : p ∈ s) : srtTo s (p + 1) = srtTo s p ++ [p] := by
  unfold srtTo
  rw [List.range_succ, List.filter_append]
  simp [h]
theorem srtTo_out {s : List Nat} {p : Nat} (h : p ∉ s) : srtTo s (p + 1) = srtTo s p := by
  unfold srtTo
  rw [List.range_succ, List.filter_append]
  simp [h]
theorem srtTo_skip {s : List Nat} {p : Nat} : ∀ d, (∀ v, p ≤ v → v < p + d → v ∉ s) → srtTo s (p + d) = srtTo s p
  | 0, _ => rfl
  | d + 1, h => by
    rw [← Nat.add_assoc, srtTo_out (h (p + d) (by omega) (by omega))]
    exact srtTo_skip d (fun v h1 h2 => h v h1 (by omega))
/-- what a word has from the place p on -/
theorem nat_step {n p : Nat} (h : ∃ i, p ≤ i ∧ n.testBit i = true) : ∃ t q, p ≤ t ∧ 2 ^ p * (n / 2 ^ p) = 2 ^ (t + 1) * q + 2 ^ t ∧ n.testBit t = true ∧ (∀ i, p ≤ i → i < t → n.testBit i = false) ∧ 2 ^ (t + 1) * q = 2 ^ (t + 1) * (n / 2 ^ (t + 1)) := by
  obtain ⟨t, ⟨h1, h2⟩, h3⟩ := pk_least (fun i => p ≤ i ∧ n.testBit i = true) h
  have h4 : ∀ i, p ≤ i → i < t → n.testBit i = false := fun i hi hit => by
    cases e : n.testBit i with
    | false => rfl
    | true => exact absurd ⟨hi, e⟩ (h3 i hit)
  refine ⟨t, n / 2 ^ (t + 1), h1, ?_, h2, h4, rfl⟩
  apply Nat.eq_of_testBit_eq
  intro i
  rw [Nat.testBit_two_pow_mul, Nat.testBit_div_two_pow, nat_low rfl i, Nat.testBit_div_two_pow]
  by_cases hi : p ≤ i
  · have hpi : p + (i - p) = i := by omega
    by_cases hit : i < t
    · have e1 : ¬ i = t := by omega
      have e2 : ¬ t < i := by omega
      have := h4 i hi hit
      simp [hi, e1, e2, Nat.add_comm, hpi, this]
    · by_cases e1 : i = t
      · rw [e1] at hpi hi ⊢
        simp [hi, Nat.add_comm, hpi, h2]
      · have e2 : t < i := by omega
        have e3 : t + 1 + (i - (t + 1)) = i := by omega
        simp [hi, e1, e2, Nat.add_comm, hpi, e3]
  · have e1 : ¬ i = t := by omega
    have e2 : ¬ t < i := by omega
    simp [hi, e1, e2]
