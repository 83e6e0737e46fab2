/-! rows of bits: a number k is in the row b -/
def bO (f : Nat → Int64) (k : Nat) : Bool := (f (k / 64)).toBitVec.toNat.testBit (k % 64)
/-- the row b holds just the numbers of the list s -/
def BR (S : ST) (b : Nat) (s : List Nat) : Prop := (∀ v, v ∈ s → v ≤ 2000) ∧ ∀ k, k < 2048 → (bO (al S b) k = true ↔ k ∈ s)
theorem BR.fr {I A B : List Nat} {S S' : ST} {b : Nat} {s : List Nat} (h : BR S b s) (hf : FR I A B S S') (hB : b ∉ B) : BR S' b s := ⟨h.1, fun k hk => by rw [hf.2.2.1 b hB]; exact h.2 k hk⟩
theorem BR.cg {S : ST} {b : Nat} {s s' : List Nat} (h : BR S b s) (hm : ∀ v, v ∈ s' ↔ v ∈ s) : BR S b s' := ⟨fun v hv => h.1 v ((hm v).mp hv), fun k hk => by rw [hm k]; exact h.2 k hk⟩
theorem sh_m : ∀ k, k < 64 → ((nI k).toInt64 &&& 63).toBitVec.smod 64 = BitVec.ofNat 64 k := by decide +kernel
theorem sh_1 : ∀ l, l < 64 → ((1 : Int64) <<< ((nI l).toInt64 &&& 63)).toBitVec = BitVec.twoPow 64 l := by decide +kernel
theorem b_has (x : Int64) {k : Nat} (hk : k < 64) : ((x >>> ((nI k).toInt64 &&& 63)) &&& (1 : Int64)) = 0 ↔ x.toBitVec.toNat.testBit k = false := by
  rw [← Int64.toBitVec_inj, Int64.toBitVec_and, Int64.toBitVec_shiftRight, sh_m k hk]
  have hb : ∀ i : Nat, ((x.toBitVec.sshiftRight' (BitVec.ofNat 64 k)) &&& (1 : Int64).toBitVec).getLsbD i = (decide (i = 0) && x.toBitVec.getLsbD k) := by
    intro i
    rw [BitVec.getLsbD_and, BitVec.sshiftRight'_ofNat_eq_sshiftRight, Nat.mod_eq_of_lt (by omega), BitVec.getLsbD_sshiftRight]
    rw [show (1 : Int64).toBitVec = 1#64 from rfl, BitVec.getLsbD_one]
    by_cases hi : i = 0
    · rw [hi]
      simp [hk]
    · simp [hi]
  show _ ↔ x.toBitVec.getLsbD k = false
  constructor
  · intro e
    have := hb 0
    rw [e] at this
    have h0 : (0 : Int64).toBitVec.getLsbD 0 = false := by decide
    rw [h0] at this
    simpa using this.symm
  · intro e
    apply BitVec.eq_of_getLsbD_eq
    intro i hi
    rw [hb i, e, show (0 : Int64).toBitVec = 0#64 from rfl, BitVec.getLsbD_zero, Bool.and_false]
theorem b_put (x : Int64) {k i : Nat} (hk : k < 64) : (x ||| ((1 : Int64) <<< ((nI k).toInt64 &&& 63))).toBitVec.toNat.testBit i = (x.toBitVec.toNat.testBit i || decide (i = k)) := by
  show (x ||| ((1 : Int64) <<< ((nI k).toInt64 &&& 63))).toBitVec.getLsbD i = (x.toBitVec.getLsbD i || decide (i = k))
  rw [Int64.toBitVec_or, sh_1 k hk, BitVec.getLsbD_or, BitVec.getLsbD_twoPow]
  congr 1
  by_cases e : i = k
  · simp [e, hk]
  · have : ¬ k = i := fun q => e q.symm
    simp [e, this]
theorem fill_l (b : Nat) : ∀ (n k : Nat) (S : ST), k ≤ 32 → 32 < n + k → (∀ j, j < k → al S b j = 0) → ∃ S', f_J7_fill_d0a16_6 n S b 0 (nI k) 32 = some S' ∧ (∀ j, j < 32 → al S' b j = 0) ∧ FR [] [] [b] S S'
  | 0, k, S, h1, h2, _ => absurd h2 (by omega)
  | n + 1, k, S, h1, h2, hz => by
    unfold f_J7_fill_d0a16_6
    by_cases hk : k = 32
    · rw [hk, if_pos (by decide)]
      exact ⟨S, rfl, by rw [hk] at hz; exact hz, FR.rf _ _ _ S⟩
    · have hk : k < 32 := by omega
      rw [if_neg (show ¬ (32 : Int32) ≤ nI k from nI_ge (b := 32) hk (by decide)), oG_t (inB_n hk (by omega)), oL_s, oL_s, nI_1, nI_clamp (by omega)]
      obtain ⟨S', e, h0, hf⟩ := fill_l b n (k + 1) (sB S b (vp_updL (al S b) k 0)) (by omega) (by omega) (fun j hj => by
        rw [al_sB_s]
        by_cases hjk : j = k
        · rw [hjk, pk_uLs]
        · rw [pk_uLn hjk]; exact hz j (by omega))
      exact ⟨S', e, h0, (FR.sB S b _).tr hf⟩
theorem BR.wipe (S : ST) (b : Nat) : ∃ S', f_X0_wipe S b = some S' ∧ BR S' b [] ∧ FR [] [] [b] S S' := by
  obtain ⟨S', e, h0, hf⟩ := fill_l b FU 0 S (by omega) (by unfold FU; omega) (fun j hj => absurd hj (by omega))
  refine ⟨S', ?_, ⟨fun v hv => absurd hv (by simp), fun k hk => ?_⟩, hf⟩
  · unfold f_X0_wipe f_X0_wipe_0 f_J7_fill_d0a16 f_J7_fill_d0a16_0
    rw [show f_J7_fill_d0a16_6 FU S b 0 0 32 = some S' from e, oV_s]
  · unfold bO
    rw [h0 (k / 64) (by omega)]
    simp
theorem BR.has {S : ST} {b : Nat} {s : List Nat} (h : BR S b s) {k : Nat} (hk : k ≤ 2000) : f_X0_has S b (nI k) = some (if k ∈ s then 1 else 0, S) := by
  unfold f_X0_has f_X0_has_0 f_X0_has_36 f_X0_has_37
  rw [if_neg (nI_pos (by omega)), if_neg (show ¬ (2000 : Int32) < nI k from nI_nlt (b := k) hk (by decide)), oG_t (by decide)]
  rw [show (64 : Int32) = nI 64 from rfl, pk_rem (by omega) (by decide) (by decide), pk_div (by omega) (by decide) (by decide), oG_t (inB_n (by omega) (by omega)), oG_t (by decide), nI_clamp (by omega)]
  have hb := b_has (al S b (k / 64)) (k := k % 64) (by omega)
  have h2 := h.2 k (by omega)
  unfold bO at h2
  by_cases hs : k ∈ s
  · rw [if_pos hs, if_neg (fun e => by rw [lg_cmp_eq, hb, h2.mpr hs] at e; exact absurd e (by decide)), oG_t (by decide)]
  · rw [if_neg hs, if_pos (by rw [lg_cmp_eq, hb]; cases hq : (al S b (k / 64)).toBitVec.toNat.testBit (k % 64) with
      | true => exact absurd (h2.mp hq) hs
      | false => rfl), oG_t (by decide)]
theorem BR.has_neg {S : ST} {b : Nat} {a : Int32} (h : a < 0) : f_X0_has S b a = some (0, S) := by
  unfold f_X0_has f_X0_has_0 f_X0_has_36 f_X0_has_37
  rw [if_pos h, oG_t (by decide)]
theorem BR.put {S : ST} {b : Nat} {s : List Nat} (h : BR S b s) {k : Nat} (hk : k ≤ 2000) : ∃ S', f_X0_put S b (nI k) = some S' ∧ BR S' b (k :: s) ∧ FR [] [] [b] S S' := by
  refine ⟨sB S b (vp_updL (al S b) (k / 64) (al S b (k / 64) ||| ((1 : Int64) <<< ((nI (k % 64)).toInt64 &&& 63)))), ?_, ⟨fun v hv => ?_, fun j hj => ?_⟩, FR.sB S b _⟩
  · unfold f_X0_put f_X0_put_0 f_X0_put_29
    rw [if_neg (nI_pos (by omega)), if_neg (show ¬ (2000 : Int32) < nI k from nI_nlt (b := k) hk (by decide)), oG_t (by decide)]
    rw [show (64 : Int32) = nI 64 from rfl, pk_rem (by omega) (by decide) (by decide), pk_div (by omega) (by decide) (by decide), oG_t (inB_n (by omega) (by omega)), oG_t (by decide), oG_t (inB_n (by omega) (by omega)), nI_clamp (by omega), oL_s]
  · rcases List.mem_cons.mp hv with e | e
    · rw [e]; exact hk
    · exact h.1 v e
  · rw [al_sB_s, List.mem_cons, ← h.2 j hj]
    unfold bO
    by_cases hw : j / 64 = k / 64
    · rw [hw, pk_uLs, b_put _ (by omega)]
      have : j % 64 = k % 64 ↔ j = k := by omega
      simp [this, or_comm]
    · rw [pk_uLn hw]
      have : ¬ j = k := fun e => hw (by rw [e])
      simp [this]
theorem BR.hold_l {b i : Nat} {l : List Nat} (hm : ∀ v, v ∈ l → v ≤ 2000) : ∀ (n k : Nat) (S : ST) (s : List Nat), MS S i l → BR S b s → k ≤ l.length → l.length < n + k → ∃ S', f_X0_hold_6 n S b i (nI k) = some S' ∧ BR S' b ((l.drop k).reverse ++ s) ∧ FR [] [] [b] S S'
  | 0, k, S, s, h, hb, h1, h2 => absurd h2 (by omega)
  | n + 1, k, S, s, h, hb, h1, h2 => by
    have h24 := h.1
    unfold f_X0_hold_6
    rw [h.2.1]
    by_cases hk : k = l.length
    · rw [hk, if_pos (nI_le (Nat.le_refl _) (by omega))]
      exact ⟨S, rfl, by rw [List.drop_length]; exact hb, FR.rf _ _ _ S⟩
    · have hk : k < l.length := by omega
      have hv : l.getD k 0 ∈ l := by
        rw [List.getD_eq_getElem?_getD, List.getElem?_eq_getElem hk]
        exact List.getElem_mem hk
      rw [if_neg (nI_ge hk (by omega)), h.at hk, oB_s]
      obtain ⟨S1, e1, b1, f1⟩ := hb.put (hm _ hv)
      rw [e1, oV_s, oL_s, nI_1]
      obtain ⟨S2, e2, b2, f2⟩ := BR.hold_l hm n (k + 1) S1 _ (h.fr f1 (by simp) (by simp)) b1 (by omega) (by omega)
      refine ⟨S2, e2, ?_, f1.tr f2⟩
      have hd : l.drop k = l.getD k 0 :: l.drop (k + 1) := by
        rw [List.drop_eq_getElem_cons hk, List.getD_eq_getElem?_getD, List.getElem?_eq_getElem hk]
        rfl
      rw [hd, List.reverse_cons, List.append_assoc]
      exact b2
theorem BR.hold {S : ST} {b i : Nat} {l : List Nat} (h : MS S i l) (hm : ∀ v, v ∈ l → v ≤ 2000) : ∃ S', f_X0_hold S b i = some S' ∧ BR S' b l ∧ FR [] [] [b] S S' := by
  obtain ⟨S1, e1, b1, f1⟩ := BR.wipe S b
  have h24 := h.1
  obtain ⟨S2, e2, b2, f2⟩ := BR.hold_l hm FU 0 S1 [] (h.fr f1 (by simp) (by simp)) b1 (by omega) (by unfold FU; omega)
  refine ⟨S2, ?_, b2.cg (fun v => by simp), f1.tr f2⟩
  unfold f_X0_hold f_X0_hold_0
  rw [e1, oV_s]
  exact e2
theorem bO_and {x y : Int64} : x &&& y = 0 ↔ ∀ i, i < 64 → ¬ (x.toBitVec.toNat.testBit i = true ∧ y.toBitVec.toNat.testBit i = true) := by
  rw [← Int64.toBitVec_inj, Int64.toBitVec_and]
  constructor
  · intro e i hi hh
    have : (x.toBitVec &&& y.toBitVec).getLsbD i = false := by rw [e]; exact BitVec.getLsbD_zero
    rw [BitVec.getLsbD_and] at this
    have h1 : x.toBitVec.getLsbD i = true := hh.1
    have h2 : y.toBitVec.getLsbD i = true := hh.2
    rw [h1, h2] at this
    exact absurd this (by decide)
  · intro h
    apply BitVec.eq_of_getLsbD_eq
    intro i hi
    rw [BitVec.getLsbD_and, show (0 : Int64).toBitVec = 0#64 from rfl, BitVec.getLsbD_zero]
    have := h i hi
    have e1 : x.toBitVec.toNat.testBit i = x.toBitVec.getLsbD i := rfl
    have e2 : y.toBitVec.toNat.testBit i = y.toBitVec.getLsbD i := rfl
    rw [e1, e2] at this
    cases hx : x.toBitVec.getLsbD i
    · simp
    · cases hy : y.toBitVec.getLsbD i
      · simp
      · exact absurd ⟨hx, hy⟩ this
theorem BR.meets_l {S : ST} {b c : Nat} {s t : List Nat} (h : BR S b s) (h' : BR S c t) : ∀ (n k : Nat), k ≤ 32 → 32 < n + k → (∀ v, v < 64 * k → ¬ (v ∈ s ∧ v ∈ t)) → f_X0_meets_2 n S b c (nI k) = some (if ∃ v, v ∈ s ∧ v ∈ t then 1 else 0, S)
  | 0, k, h1, h2, _ => absurd h2 (by omega)
  | n + 1, k, h1, h2, hz => by
    unfold f_X0_meets_2
    by_cases hk : k = 32
    · rw [hk, if_pos (by decide), if_neg]
      rintro ⟨v, hv, hw⟩
      have := h.1 v hv
      exact hz v (by omega) ⟨hv, hw⟩
    · have hk : k < 32 := by omega
      rw [if_neg (show ¬ (32 : Int32) ≤ nI k from nI_ge (b := 32) hk (by decide)), oG_t (inB_n hk (by omega)), oG_t (inB_n hk (by omega)), nI_clamp (by omega)]
      by_cases hc : al S b k &&& al S c k = 0
      · rw [if_pos (by rw [lg_cmp_eq]; exact hc), oL_s, nI_1]
        refine BR.meets_l h h' n (k + 1) (by omega) (by omega) (fun v hv hh => ?_)
        by_cases hv2 : v < 64 * k
        · exact hz v hv2 hh
        · have h3 := bO_and.mp hc (v % 64) (by omega)
          have hd : v / 64 = k := by omega
          have q1 := (h.2 v (by omega)).mpr hh.1
          have q2 := (h'.2 v (by omega)).mpr hh.2
          unfold bO at q1 q2
          rw [hd] at q1 q2
          exact h3 ⟨q1, q2⟩
      · rw [if_neg (by rw [lg_cmp_eq]; exact hc), if_pos]
        have : ¬ ∀ i, i < 64 → ¬ ((al S b k).toBitVec.toNat.testBit i = true ∧ (al S c k).toBitVec.toNat.testBit i = true) := fun q => hc (bO_and.mpr q)
        have : ∃ i, i < 64 ∧ (al S b k).toBitVec.toNat.testBit i = true ∧ (al S c k).toBitVec.toNat.testBit i = true := by
          refine Classical.byContradiction (fun q => this (fun i hi hh => q ⟨i, hi, hh⟩))
        obtain ⟨i, hi, q1, q2⟩ := this
        have e1 : (64 * k + i) / 64 = k := by omega
        have e2 : (64 * k + i) % 64 = i := by omega
        refine ⟨64 * k + i, (h.2 _ (by omega)).mp ?_, (h'.2 _ (by omega)).mp ?_⟩
        · unfold bO; rw [e1, e2]; exact q1
        · unfold bO; rw [e1, e2]; exact q2
theorem BR.meets {S : ST} {b c : Nat} {s t : List Nat} (h : BR S b s) (h' : BR S c t) : f_X0_meets S b c = some (if ∃ v, v ∈ s ∧ v ∈ t then 1 else 0, S) := by
  unfold f_X0_meets f_X0_meets_0
  exact BR.meets_l h h' FU 0 (by omega) (by unfold FU; omega) (fun v hv => absurd hv (by omega))
/-! the lowest bit of a word -/
def nt74 (a0 a1 : Int32) : Int32 := a1 + ((Int32.toUInt32 a0 >>> (Int32.toUInt32 1 &&& Int32.toUInt32 31)).toInt32)
def nt62 (a0 a1 : Int32) : Int32 := if a0 ≤ 4 then nt74 a0 a1 else nt74 ((Int32.toUInt32 a0 >>> (Int32.toUInt32 2 &&& Int32.toUInt32 31)).toInt32) (a1 + 2)
def nt49 (a0 a1 : Int32) : Int32 := if a0 ≤ 16 then nt62 a0 a1 else nt62 ((Int32.toUInt32 a0 >>> (Int32.toUInt32 4 &&& Int32.toUInt32 31)).toInt32) (a1 + 4)
def nt34 (a0 a1 : Int32) : Int32 := if a0 ≤ 256 then nt49 a0 a1 else nt49 ((Int32.toUInt32 a0 >>> (Int32.toUInt32 8 &&& Int32.toUInt32 31)).toInt32) (a1 + 8)
def nt0 (v : Int32) : Int32 := if 0 < v then (if v ≤ 65536 then nt34 v 1 else nt34 ((Int32.toUInt32 v >>> (Int32.toUInt32 16 &&& Int32.toUInt32 31)).toInt32) (1 + 16)) else v &&& (32 : Int32)
theorem nt62_e (S : ST) (a0 a1 : Int32) : f_J6_numberOfTrailingZeros_0f7a4_62 S a0 a1 = some (nt62 a0 a1, S) := by
  unfold f_J6_numberOfTrailingZeros_0f7a4_62 nt62
  split <;> rfl
theorem nt49_e (S : ST) (a0 a1 : Int32) : f_J6_numberOfTrailingZeros_0f7a4_49 S a0 a1 = some (nt49 a0 a1, S) := by
  unfold f_J6_numberOfTrailingZeros_0f7a4_49 nt49
  split
  · exact nt62_e S _ _
  · exact nt62_e S _ _
theorem nt34_e (S : ST) (a0 a1 : Int32) : f_J6_numberOfTrailingZeros_0f7a4_34 S a0 a1 = some (nt34 a0 a1, S) := by
  unfold f_J6_numberOfTrailingZeros_0f7a4_34 nt34
  split
  · exact nt49_e S _ _
  · exact nt49_e S _ _
theorem nt0_e (S : ST) (x : Int32) : f_J6_numberOfTrailingZeros_0f7a4 S x = some (nt0 ((x ^^^ (-1)) &&& (x - 1)), S) := by
  unfold f_J6_numberOfTrailingZeros_0f7a4 f_J6_numberOfTrailingZeros_0f7a4_0
  rw [oL_s]
  unfold nt0
  split
  · split
    · exact nt34_e S _ _
    · exact nt34_e S _ _
  · rfl
theorem nt_tab : ∀ t, t < 32 → nt0 (nI (2 ^ t - 1)) = nI t := by decide +kernel
theorem nat_low {n t q : Nat} (h : n = 2 ^ (t + 1) * q + 2 ^ t) : ∀ i, n.testBit i = (decide (i = t) || (decide (t < i) && q.testBit (i - (t + 1)))) := by
  intro i
  rw [h, Nat.testBit_two_pow_mul_add _ (by rw [Nat.pow_succ]; have := Nat.two_pow_pos t; omega)]
  by_cases hi : i < t + 1
  · rw [if_pos hi, Nat.testBit_two_pow]
    by_cases e : i = t
    · simp [e]
    · have : ¬ t = i := fun q => e q.symm
      have h2 : ¬ t < i := by omega
      simp [e, this, h2]
  · rw [if_neg hi]
    have h1 : t < i := by omega
    have h2 : ¬ i = t := by omega
    simp [h1, h2]
theorem nat_lowp {n t q : Nat} (h : n = 2 ^ (t + 1) * q + 2 ^ t) : ∀ i, (n - 1).testBit i = (decide (i < t) || (decide (t < i) && q.testBit (i - (t + 1)))) := by
  intro i
  have hp := Nat.two_pow_pos t
  have e : n - 1 = 2 ^ (t + 1) * q + (2 ^ t - 1) := by omega
  rw [e, Nat.testBit_two_pow_mul_add _ (by rw [Nat.pow_succ]; omega)]
  by_cases hi : i < t + 1
  · rw [if_pos hi, Nat.testBit_two_pow_sub_one]
    have h2 : ¬ t < i := by omega
    simp [h2]
  · rw [if_neg hi]
    have h1 : t < i := by omega
    have h2 : ¬ i < t := by omega
    simp [h1, h2]
theorem ntz32 (S : ST) {x : Int32} {t q : Nat} (h : x.toBitVec.toNat = 2 ^ (t + 1) * q + 2 ^ t) (ht : t < 32) : f_J6_numberOfTrailingZeros_0f7a4 S x = some (nI t, S) := by
  have hx : (x ^^^ (-1)) &&& (x - 1) = nI (2 ^ t - 1) := by
    rw [← Int32.toBitVec_inj, Int32.toBitVec_and, Int32.toBitVec_xor]
    apply BitVec.eq_of_getLsbD_eq
    intro i hi
    rw [BitVec.getLsbD_and, BitVec.getLsbD_xor]
    have hn := x.toBitVec.isLt
    have hp := Nat.two_pow_pos t
    have h1 : (x - 1).toBitVec.toNat = x.toBitVec.toNat - 1 := by
      rw [Int32.toBitVec_sub, BitVec.toNat_sub, show (1 : Int32).toBitVec.toNat = 1 from rfl]
      omega
    have h2 : (x - 1).toBitVec.getLsbD i = (x.toBitVec.toNat - 1).testBit i := by
      show (x - 1).toBitVec.toNat.testBit i = _
      rw [h1]
    have h3 : x.toBitVec.getLsbD i = x.toBitVec.toNat.testBit i := rfl
    have h4 : (-1 : Int32).toBitVec.getLsbD i = true := by
      rw [show (-1 : Int32).toBitVec = BitVec.allOnes 32 from rfl, BitVec.getLsbD_allOnes]
      simpa using hi
    have h5 : (nI (2 ^ t - 1)).toBitVec.getLsbD i = decide (i < t) := by
      show (nI (2 ^ t - 1)).toBitVec.toNat.testBit i = _
      have : 2 ^ t ≤ 2 ^ 31 := Nat.pow_le_pow_right (by decide) (by omega)
      rw [pk_tn (by omega), Nat.testBit_two_pow_sub_one]
    rw [h2, h3, h4, h5, nat_low h, nat_lowp h]
    by_cases e1 : i < t
    · have : ¬ i = t := by omega
      have h6 : ¬ t < i := by omega
      simp [e1, this, h6]
    · by_cases e2 : i = t
      · simp [e2]
      · have h6 : t < i := by omega
        simp [e1, e2, h6]
  rw [nt0_e, hx, nt_tab t ht]
