/-! sorted lists; the marks that a row of bits spills -/
def Srt (l : List Nat) : Prop := l.Pairwise (· < ·)
theorem Srt.nd {l : List Nat} (h : Srt l) : l.Nodup := h.imp (fun hab => Nat.ne_of_lt hab)
theorem srt_ext {a b : List Nat} (ha : Srt a) (hb : Srt b) (h : ∀ v, v ∈ a ↔ v ∈ b) : a = b :=
  List.Perm.eq_of_pairwise (le := (· < ·)) (fun x y _ _ h1 h2 => absurd h1 (Nat.lt_asymm h2)) ha hb ((List.perm_ext_iff_of_nodup ha.nd hb.nd).mpr h)
theorem srtTo_srt (s : List Nat) (p : Nat) : Srt (srtTo s p) := List.Pairwise.filter _ List.pairwise_lt_range
theorem srt_e (s : List Nat) : srt s = srtTo s 2048 := rfl
theorem srt_srt (s : List Nat) : Srt (srt s) := srtTo_srt s 2048
theorem srt_mem {s : List Nat} (h : ∀ v, v ∈ s → v ≤ 2000) {v : Nat} : v ∈ srt s ↔ v ∈ s := by
  rw [srt_e, srtTo_mem]
  exact ⟨fun q => q.2, fun q => ⟨by have := h v q; omega, q⟩⟩
theorem srt_len (s : List Nat) : (srt s).length ≤ s.length :=
  List.Nodup.length_le_of_subset (srt_srt s).nd (fun v hv => by rw [srt_e, srtTo_mem] at hv; exact hv.2)
theorem srtTo_len {s : List Nat} {p : Nat} : ∀ d, (srtTo s p).length ≤ (srtTo s (p + d)).length
  | 0 => Nat.le_refl _
  | d + 1 => by
    refine Nat.le_trans (srtTo_len d) ?_
    rw [← Nat.add_assoc]
    by_cases h : p + d ∈ s
    · rw [srtTo_in h, List.length_append]; omega
    · rw [srtTo_out h]; exact Nat.le_refl _
theorem low_clear {x : Int64} {t q : Nat} (h : uu x = 2 ^ (t + 1) * q + 2 ^ t) : uu (x &&& (x - 1)) = 2 ^ (t + 1) * q := by
  have hp := Nat.two_pow_pos t
  rw [uu_and, uu_sub (by rw [h]; show 1 ≤ _; omega), show uu 1 = 1 from rfl]
  apply Nat.eq_of_testBit_eq
  intro i
  rw [Nat.testBit_and, nat_low h, nat_lowp h, Nat.testBit_two_pow_mul]
  by_cases e1 : i < t
  · have e2 : ¬ i = t := by omega
    have e3 : ¬ t < i := by omega
    have e4 : ¬ t + 1 ≤ i := by omega
    simp [e1, e2, e3, e4]
  · by_cases e2 : i = t
    · have e4 : ¬ t + 1 ≤ t := by omega
      simp [e2, e4]
    · have e3 : t < i := by omega
      have e4 : t + 1 ≤ i := by omega
      simp [e1, e2, e3, e4]
theorem BR.spill22 {b i w : Nat} {s : List Nat} (hw : w < 32) (hs : (srt s).length ≤ 24) (k6 : ST → Nat → Nat → Int32 → Option ST) : ∀ (n c p : Nat) (S : ST) (x : Int64), BR S b s → MS S i (srtTo s (64 * w + p)) → uu x = 2 ^ p * (uu (al S b w) / 2 ^ p) → c ≤ p → p ≤ 64 → 64 < n + c → ∃ S', f_X0_spillInto_22 k6 n S b i (nI w) x (nI c) = k6 S' b i (nI (w + 1)) ∧ MS S' i (srtTo s (64 * (w + 1))) ∧ FR [i] [i] [] S S'
  | 0, c, p, S, x, hb, hm, hx, h1, h2, h3 => absurd h3 (by omega)
  | n + 1, c, p, S, x, hb, hm, hx, h1, h2, h3 => by
    have hbit : ∀ j, j < 64 → ((uu (al S b w)).testBit j = true ↔ 64 * w + j ∈ s) := fun j hj => by
      have := hb.2 (64 * w + j) (by omega)
      unfold bO at this
      rw [show (64 * w + j) / 64 = w by omega, show (64 * w + j) % 64 = j by omega] at this
      exact this
    unfold f_X0_spillInto_22 f_X0_spillInto_60
    by_cases hc : c = 64
    · rw [if_pos (show (64 : Int32) ≤ nI c by rw [hc]; decide), oL_s, nI_1]
      rw [show p = 64 by omega] at hm
      exact ⟨S, rfl, hm, FR.rf _ _ _ S⟩
    · rw [if_neg (show ¬ (64 : Int32) ≤ nI c from nI_ge (b := 64) (by omega) (by decide))]
      by_cases h0 : x = 0
      · rw [if_pos (by rw [lg_cmp_eq]; exact h0), oL_s, nI_1]
        refine ⟨S, rfl, ?_, FR.rf _ _ _ S⟩
        have : 64 * (w + 1) = 64 * w + p + (64 - p) := by omega
        rw [this, srtTo_skip]
        · exact hm
        · intro v hv1 hv2 hin
          have hb2 := (hbit (v - 64 * w) (by omega)).mpr (by rw [show 64 * w + (v - 64 * w) = v by omega]; exact hin)
          have h4 : uu (al S b w) / 2 ^ p = 0 := by
            rw [uu_0] at h0
            rw [h0] at hx
            rcases Nat.mul_eq_zero.mp hx.symm with e | e
            · exact absurd e (by have := Nat.two_pow_pos p; omega)
            · exact e
          have h5 : (uu (al S b w) / 2 ^ p).testBit (v - 64 * w - p) = (uu (al S b w)).testBit (v - 64 * w - p + p) := Nat.testBit_div_two_pow _ _
          rw [h4, Nat.zero_testBit, show v - 64 * w - p + p = v - 64 * w by omega, hb2] at h5
          exact absurd h5 (by decide)
      · rw [if_neg (by rw [lg_cmp_eq]; exact h0)]
        have hex : ∃ j, p ≤ j ∧ (uu (al S b w)).testBit j = true := by
          refine Classical.byContradiction (fun q => h0 ?_)
          rw [uu_0, hx]
          have : uu (al S b w) / 2 ^ p = 0 := by
            apply Nat.eq_of_testBit_eq
            intro j
            rw [Nat.zero_testBit, Nat.testBit_div_two_pow]
            cases e : (uu (al S b w)).testBit (j + p) with
            | false => rfl
            | true => exact absurd ⟨j + p, by omega, e⟩ q
          rw [this, Nat.mul_zero]
        obtain ⟨t, q, t1, t2, t3, t4, t5⟩ := nat_step hex
        have ht : t < 64 := by
          refine Classical.byContradiction (fun q => ?_)
          have : (uu (al S b w)).testBit t = false := Nat.testBit_lt_two_pow (Nat.lt_of_lt_of_le (uu_lt _) (Nat.pow_le_pow_right (by decide) (by omega)))
          rw [this] at t3
          exact absurd t3 (by decide)
        rw [t2] at hx
        have hin := (hbit t ht).mp t3
        have hsk : srtTo s (64 * w + t) = srtTo s (64 * w + p) := by
          rw [show 64 * w + t = 64 * w + p + (t - p) by omega]
          apply srtTo_skip
          intro v hv1 hv2 hv
          have := (hbit (v - 64 * w) (by omega)).mpr (by rw [show 64 * w + (v - 64 * w) = v by omega]; exact hv)
          rw [t4 (v - 64 * w) (by omega) (by omega)] at this
          exact absurd this (by decide)
        have hl : (srtTo s (64 * w + p)).length < 24 := by
          have h1 := srtTo_in hin
          have h2 := srtTo_len (s := s) (p := 64 * w + t + 1) (2048 - (64 * w + t + 1))
          rw [show 64 * w + t + 1 + (2048 - (64 * w + t + 1)) = 2048 by omega, h1, List.length_append, ← srt_e, hsk] at h2
          have : [64 * w + t].length = 1 := rfl
          omega
        rw [ntz64 S hx ht, oB_s, show (64 : Int32) = nI 64 from rfl, pk_mul, nI_add, show w * 64 + t = 64 * w + t by omega]
        obtain ⟨S1, e1, m1, f1⟩ := hm.push hl (64 * w + t)
        rw [e1, oV_s, oL_s, oL_s, nI_1]
        have f1' := f1
        obtain ⟨S2, e2, m2, f2⟩ := BR.spill22 hw hs k6 n (c + 1) (t + 1) S1 (x &&& (x - 1)) (hb.fr f1 (by simp)) (by rw [← Nat.add_assoc, srtTo_in hin, hsk]; exact m1) (by rw [low_clear hx, f1.2.2.1 b (by simp), t5]) (by omega) (by omega) (by omega)
        exact ⟨S2, e2, m2, f1.tr f2⟩
theorem BR.spill6 {b i : Nat} {s : List Nat} (hs : (srt s).length ≤ 24) : ∀ (n w : Nat) (S : ST), BR S b s → MS S i (srtTo s (64 * w)) → w ≤ 32 → 32 < n + w → ∃ S', f_X0_spillInto_6 n S b i (nI w) = some S' ∧ MS S' i (srt s) ∧ FR [i] [i] [] S S'
  | 0, w, S, hb, hm, h1, h2 => absurd h2 (by omega)
  | n + 1, w, S, hb, hm, h1, h2 => by
    unfold f_X0_spillInto_6
    by_cases hw : w = 32
    · rw [if_pos (show (32 : Int32) ≤ nI w by rw [hw]; decide)]
      rw [hw] at hm
      exact ⟨S, rfl, hm, FR.rf _ _ _ S⟩
    · have hw : w < 32 := by omega
      rw [if_neg (show ¬ (32 : Int32) ≤ nI w from nI_ge (b := 32) hw (by decide)), oG_t (inB_n hw (by omega)), oL_s, nI_clamp (by omega)]
      obtain ⟨S1, e1, m1, f1⟩ := BR.spill22 hw hs (f_X0_spillInto_6 n) FU 0 0 S (al S b w) hb hm (by rw [Nat.pow_zero, Nat.one_mul, Nat.div_one]) (by omega) (by omega) (by unfold FU; omega)
      obtain ⟨S2, e2, m2, f2⟩ := BR.spill6 hs n (w + 1) S1 (hb.fr f1 (by simp)) m1 (by omega) (by omega)
      exact ⟨S2, Eq.trans e1 e2, m2, f1.tr f2⟩
theorem BR.spill {S : ST} {b i : Nat} {s : List Nat} (h : BR S b s) (hs : (srt s).length ≤ 24) : ∃ S', f_X0_spillInto S b i = some S' ∧ MS S' i (srt s) ∧ FR [i] [i] [] S S' := by
  obtain ⟨S1, e1, m1, f1⟩ := MS.empty S i
  obtain ⟨S2, e2, m2, f2⟩ := BR.spill6 hs FU 0 S1 (h.fr f1 (by simp)) m1 (by omega) (by unfold FU; omega)
  refine ⟨S2, ?_, m2, (f1.wk (by simp) (by simp) (by simp)).tr f2⟩
  unfold f_X0_spillInto f_X0_spillInto_0
  rw [e1, oV_s]
  exact e2
