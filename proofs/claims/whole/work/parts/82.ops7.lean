/-! primes, roots, constructions -/
def Pr (p : Nat) : Prop := ∀ d, 2 ≤ d → d < p → ¬ p % d = 0
theorem ip_l (S : ST) {p : Nat} (hp : 2 ≤ p) (hp2 : p < 2 ^ 31) : ∀ (n d : Nat), 2 ≤ d → d ≤ p → p < n + d → ∃ r, f_X8_isPrime_2 n S (nI p) (nI d) = some (r, S) ∧ BI r (∀ k, d ≤ k → k < p → ¬ p % k = 0)
  | 0, d, _, _, h2 => absurd h2 (by omega)
  | n + 1, d, h0, h1, h2 => by
    unfold f_X8_isPrime_2 f_X8_isPrime_33
    by_cases hd : d = p
    · rw [hd, if_pos (nI_le (Nat.le_refl _) hp2), if_neg (show ¬ nI p ≤ (1 : Int32) from nI_ge (a := 1) (by omega) hp2), oG_t (by decide)]
      exact ⟨1, rfl, BI.t (fun k k1 k2 => absurd k1 (by omega))⟩
    · have hm := Nat.mod_lt p (show 0 < d by omega)
      rw [if_neg (nI_ge (show d < p by omega) hp2), residue_n S hp2 (by omega) (by omega), oB_s]
      by_cases hz : p % d = 0
      · rw [hz, if_pos (by decide)]
        exact ⟨0, rfl, BI.f (fun q => q d (Nat.le_refl _) (by omega) hz)⟩
      · rw [if_neg (nI_ne0 (by omega) (by omega)), oL_s, nI_1]
        obtain ⟨r, e, hr⟩ := ip_l S hp hp2 n (d + 1) (by omega) (by omega) (by omega)
        refine ⟨r, e, hr.cg ⟨fun q k k1 k2 => ?_, fun q k k1 k2 => q k (by omega) k2⟩⟩
        by_cases e : k = d
        · rw [e]; exact hz
        · exact q k (by omega) k2
theorem X8_needPrime_n (S : ST) {a : Int32} (h : a < nI 3 ∨ nI 23 < a) : f_X8_needPrime S a = some (2, (), S) := by
  unfold f_X8_needPrime f_X8_needPrime_0 f_X8_needPrime_18
  rcases h with h | h
  · rw [if_pos (show a < (3 : Int32) from h)]
  · rw [if_pos (show (23 : Int32) < a from h)]
    split <;> rfl
theorem X8_needPrime (S : ST) {p : Nat} (h1 : 3 ≤ p) (h2 : p ≤ 23) : (Pr p → f_X8_needPrime S (nI p) = some (0, (), S)) ∧ (¬ Pr p → f_X8_needPrime S (nI p) = some (2, (), S)) := by
  obtain ⟨r, e, hr⟩ := ip_l S (p := p) (by omega) (by omega) FU 2 (by omega) (by omega) (by unfold FU; omega)
  unfold f_X8_needPrime f_X8_needPrime_0 f_X8_needPrime_18
  rw [if_neg (show ¬ nI p < (3 : Int32) from nI_nlt (b := 3) h1 (by omega)), if_neg (show ¬ (23 : Int32) < nI p from nI_nlt (a := 23) h2 (by decide)), show f_X8_isPrime S (nI p) = some (r, S) from e, oB_s]
  exact ⟨fun q => by rw [if_neg (fun z => (hr.z.mp z) q)], fun q => by rw [if_pos (hr.z.mpr q)]⟩
theorem mp_l (S : ST) {p : Nat} (hp2 : p < 2 ^ 31) : ∀ (n d : Nat) (r : Int32) (P : Prop), 2 ≤ d → d ≤ p → p < n + d → BI r P → ∃ r', f_X9_isPrime_10 n S (nI p) r (nI d) = some (r', S) ∧ BI r' (P ∧ ∀ k, d ≤ k → k < p → ¬ p % k = 0)
  | 0, d, r, P, _, _, h2, _ => absurd h2 (by omega)
  | n + 1, d, r, P, h0, h1, h2, hr => by
    unfold f_X9_isPrime_10 f_X9_isPrime_37 f_X9_isPrime_30
    by_cases hd : d = p
    · rw [hd, if_pos (nI_le (Nat.le_refl _) hp2), oG_t hr.isB]
      exact ⟨r, rfl, hr.cg ⟨fun q => ⟨q, fun k k1 k2 => absurd k1 (by omega)⟩, fun q => q.1⟩⟩
    · rw [if_neg (nI_ge (show d < p by omega) hp2)]
      by_cases hz : r = 0
      · have := hr.z.mp hz
        rw [if_pos hz, oG_t hr.isB]
        exact ⟨r, rfl, hr.cg ⟨fun q => absurd q this, fun q => q.1⟩⟩
      · have hP : P := Classical.byContradiction (fun q => hz (hr.z.mpr q))
        have hm := Nat.mod_lt p (show 0 < d by omega)
        rw [if_neg hz, oG_t (by unfold nz; exact decide_eq_true (nI_ne0 (by omega) (by omega))), pk_rem hp2 (by omega) (by omega)]
        have step : ∀ (r1 : Int32) (P1 : Prop), BI r1 P1 → (P1 ↔ P ∧ ¬ p % d = 0) → ∃ r', oL (nI d + 1) (fun v1 => f_X9_isPrime_10 n S (nI p) r1 v1) = some (r', S) ∧ BI r' (P ∧ ∀ k, d ≤ k → k < p → ¬ p % k = 0) := fun r1 P1 hr1 e1 => by
          rw [oL_s, nI_1]
          obtain ⟨r', e, q⟩ := mp_l S hp2 n (d + 1) r1 P1 (by omega) (by omega) (by omega) hr1
          refine ⟨r', e, q.cg ⟨fun ⟨q1, q2⟩ => ⟨(e1.mp q1).1, fun k k1 k2 => ?_⟩, fun ⟨q1, q2⟩ => ⟨e1.mpr ⟨q1, q2 d (Nat.le_refl _) (by omega)⟩, fun k k1 k2 => q2 k (by omega) k2⟩⟩⟩
          by_cases ek : k = d
          · rw [ek]; exact (e1.mp q1).2
          · exact q2 k (by omega) k2
        by_cases h3 : p % d = 0
        · rw [h3, if_pos (by decide)]
          exact step 0 False (BI.f (fun q => q)) ⟨fun q => absurd q (fun q => q), fun q => absurd h3 q.2⟩
        · rw [if_neg (nI_ne0 (by omega) (by omega))]
          exact step 1 True (BI.t trivial) ⟨fun _ => ⟨hP, h3⟩, fun _ => trivial⟩
theorem X9_isPrime (S : ST) {p : Nat} (h1 : 3 ≤ p) (h2 : p ≤ 23) : ∃ r, f_X9_isPrime S (nI p) = some (r, S) ∧ BI r (Pr p) := by
  obtain ⟨r, e, hr⟩ := mp_l S (p := p) (by omega) FU 2 1 True (by omega) (by omega) (by unfold FU; omega) (BI.t trivial)
  refine ⟨r, ?_, hr.cg ⟨fun q => q.2, fun q => ⟨trivial, q⟩⟩⟩
  unfold f_X9_isPrime f_X9_isPrime_0
  rw [show f_X9_within S (nI p) 3 23 = some (1, S) from wi_y S h1 h2 (by decide), oB_s]
  exact e
theorem X9_isPrime_n (S : ST) {a : Int32} (h : a < nI 3 ∨ nI 23 < a) : f_X9_isPrime S a = some (0, S) := by
  unfold f_X9_isPrime f_X9_isPrime_0 FU
  rw [show f_X9_within S a 3 23 = some (0, S) from wi_n S h, oB_s]
  unfold f_X9_isPrime_10 f_X9_isPrime_37
  rw [oG_t (by decide), if_pos rfl]
  split <;> rfl
/-- powers modulo p -/
def pwr (g p : Nat) : Nat → Nat
  | 0 => 1
  | k + 1 => pwr g p k * g % p
theorem pwr_lt {g p : Nat} (hp : 2 ≤ p) : ∀ k, pwr g p k < p
  | 0 => by show 1 < p; omega
  | k + 1 => Nat.mod_lt _ (by omega)
def Root (g p : Nat) : Prop := 2 ≤ g ∧ g < p ∧ ∀ k, 1 ≤ k → k < p - 1 → ¬ pwr g p k = 1
theorem rt_l (S : ST) {g p : Nat} (hg : g < p) (h1 : 3 ≤ p) (h2 : p ≤ 23) : ∀ (n k : Nat), 1 ≤ k → k ≤ p - 1 → p < n + k → ∃ r, f_X8_isPrimitiveRoot_16 n S (nI g) (nI p) (nI (pwr g p (k - 1))) (nI k) = some (r, S) ∧ BI r (∀ j, k ≤ j → j < p - 1 → ¬ pwr g p j = 1)
  | 0, k, _, _, h => absurd h (by omega)
  | n + 1, k, k1, k2, h => by
    unfold f_X8_isPrimitiveRoot_16
    rw [show nI p - (1 : Int32) = nI (p - 1) from z_sub (b := 1) (by omega)]
    by_cases hk : k = p - 1
    · rw [hk, if_pos (nI_le (Nat.le_refl _) (by omega))]
      exact ⟨1, rfl, BI.t (fun j j1 j2 => absurd j1 (by omega))⟩
    · have hp := pwr_lt (g := g) (p := p) (by omega) (k - 1)
      have hmul : pwr g p (k - 1) * g ≤ 23 * 23 := Nat.mul_le_mul (by omega) (by omega)
      have e : pwr g p (k - 1) * g % p = pwr g p k := by
        rw [show k = k - 1 + 1 by omega]; rfl
      have hpk := pwr_lt (g := g) (p := p) (by omega) k
      rw [if_neg (nI_ge (show k < p - 1 by omega) (by omega)), pk_mul, residue_n S (by omega) (by omega) (by omega), oB_s, e]
      by_cases hz : pwr g p k = 1
      · rw [hz, if_pos (by decide)]
        exact ⟨0, rfl, BI.f (fun q => q k (Nat.le_refl _) (by omega) hz)⟩
      · rw [if_neg (show ¬ nI (pwr g p k) = (1 : Int32) from z_ne (b := 1) (by omega) (by decide) hz), oL_s, nI_1]
        obtain ⟨r, er, hr⟩ := rt_l S hg h1 h2 n (k + 1) (by omega) (by omega) (by omega)
        rw [Nat.add_sub_cancel] at er
        refine ⟨r, er, hr.cg ⟨fun q j j1 j2 => ?_, fun q j j1 j2 => q j (by omega) j2⟩⟩
        by_cases ej : j = k
        · rw [ej]; exact hz
        · exact q j (by omega) j2
theorem X8_root (S : ST) (b : Int32) {p : Nat} (h1 : 3 ≤ p) (h2 : p ≤ 23) : ∃ r, f_X8_isPrimitiveRoot S b (nI p) = some (r, S) ∧ BI r (∃ g, b = nI g ∧ Root g p) := by
  unfold f_X8_isPrimitiveRoot f_X8_isPrimitiveRoot_0 f_X8_isPrimitiveRoot_10
  rcases rng_or b 2 (p - 1) (by omega) (by omega) with hb | ⟨g, g1, g2, rfl⟩
  · have hno : ¬ ∃ g, b = nI g ∧ Root g p := by
      rintro ⟨g, rfl, r1, r2, _⟩
      rcases hb with hb | hb
      · exact absurd hb (nI_nlt r1 (by omega))
      · exact absurd hb (nI_nlt (by omega) (by omega))
    rcases hb with hb | hb
    · rw [if_pos (show b < (2 : Int32) from hb)]
      exact ⟨0, rfl, BI.f hno⟩
    · have : ¬ b < nI p := by
        rw [z_lt, nI_toInt (by omega)] at hb ⊢
        omega
      rw [if_neg this]
      refine ⟨0, ?_, BI.f hno⟩
      split <;> rfl
  · rw [if_neg (show ¬ nI g < (2 : Int32) from nI_nlt (b := 2) g1 (by omega)), if_pos (nI_lt (show g < p by omega) (by omega))]
    obtain ⟨r, e, hr⟩ := rt_l S (show g < p by omega) h1 h2 FU 1 (by omega) (by omega) (by unfold FU; omega)
    refine ⟨r, e, hr.cg ⟨fun q => ⟨g, rfl, g1, by omega, q⟩, ?_⟩⟩
    rintro ⟨g', e', r1, r2, r3⟩
    have : g = g' := by
      by_cases h : g' < 2 ^ 31
      · exact (nI_eq (by omega) h).mp e'
      · omega
    rw [this]; exact r3
/-- in each of these fields some power is 1 -/
theorem fermat_t : ((List.range 24).all fun p => (List.range p).all fun g => decide (g < 2) || ((List.range p).any fun d => decide (2 ≤ d) && p % d == 0) || pwr g p (p - 1) == 1) = true := by decide +kernel
theorem fermat_tab : ∀ p, p < 24 → ∀ g, g < p → 2 ≤ g → (∀ d, d < p → 2 ≤ d → ¬ p % d = 0) → pwr g p (p - 1) = 1 := fun p hp g hg h2 hd => by
  have h := List.all_eq_true.mp fermat_t p (List.mem_range.mpr hp)
  have h := List.all_eq_true.mp h g (List.mem_range.mpr hg)
  rw [Bool.or_eq_true, Bool.or_eq_true] at h
  rcases h with (h | h) | h
  · exact absurd (of_decide_eq_true h) (by omega)
  · obtain ⟨d, d1, d2⟩ := List.any_eq_true.mp h
    rw [Bool.and_eq_true, beq_iff_eq] at d2
    exact absurd d2.2 (hd d (List.mem_range.mp d1) (of_decide_eq_true d2.1))
  · exact beq_iff_eq.mp h
theorem mrt_l (S : ST) {g p : Nat} (hg : g < p) (h1 : 3 ≤ p) (h2 : p ≤ 23) (hf : pwr g p (p - 1) = 1) : ∀ (n k : Nat), 1 ≤ k → k ≤ p - 1 → p < n + k → (∀ j, 1 ≤ j → j < k → ¬ pwr g p j = 1) → ∃ r, f_X9_isRoot_17 n S (nI p) (nI g) (nI (pwr g p k)) (nI k) = some (r, S) ∧ BI r (∀ j, 1 ≤ j → j < p - 1 → ¬ pwr g p j = 1)
  | 0, k, _, _, h, _ => absurd h (by omega)
  | n + 1, k, k1, k2, h, hlo => by
    have hpk := pwr_lt (g := g) (p := p) (by omega) k
    unfold f_X9_isRoot_17 f_X9_isRoot_46
    by_cases hz : pwr g p k = 1
    · rw [hz, if_pos (by decide), show nI p - (1 : Int32) = nI (p - 1) from z_sub (b := 1) (by omega)]
      by_cases hk : k = p - 1
      · rw [if_pos (by rw [hk]), oG_t (by decide)]
        exact ⟨1, rfl, BI.t (fun j j1 j2 => hlo j j1 (by omega))⟩
      · rw [if_neg (z_ne (by omega) (by omega) hk), oG_t (by decide)]
        exact ⟨0, rfl, BI.f (fun q => q k k1 (by omega) hz)⟩
    · have hk : k < p - 1 := by
        by_cases e : k = p - 1
        · rw [e] at hz; exact absurd hf hz
        · omega
      have hmul : pwr g p k * g ≤ 23 * 23 := Nat.mul_le_mul (by omega) (by omega)
      rw [if_neg (show ¬ nI (pwr g p k) = (1 : Int32) from z_ne (b := 1) (by omega) (by decide) hz), oG_t (by unfold nz; exact decide_eq_true (nI_ne0 (by omega) (by omega))), pk_mul, pk_rem (by omega) (by omega) (by omega), oL_s, oL_s, nI_1]
      refine mrt_l S hg h1 h2 hf n (k + 1) (by omega) (by omega) (by omega) (fun j j1 j2 => ?_)
      by_cases e : j = k
      · rw [e]; exact hz
      · exact hlo j j1 (by omega)
theorem X9_root (S : ST) (b : Int32) {p : Nat} (h1 : 3 ≤ p) (h2 : p ≤ 23) (hp : Pr p) : ∃ r, f_X9_isRoot S (nI p) b = some (r, S) ∧ BI r (∃ g, b = nI g ∧ Root g p) := by
  unfold f_X9_isRoot f_X9_isRoot_0
  rw [show nI p - (1 : Int32) = nI (p - 1) from z_sub (b := 1) (by omega)]
  rcases rng_or b 2 (p - 1) (by omega) (by omega) with hb | ⟨g, g1, g2, rfl⟩
  · have hno : ¬ ∃ g, b = nI g ∧ Root g p := by
      rintro ⟨g, rfl, r1, r2, _⟩
      rcases hb with hb | hb
      · exact absurd hb (nI_nlt r1 (by omega))
      · exact absurd hb (nI_nlt (by omega) (by omega))
    rw [show f_X9_within S b 2 (nI (p - 1)) = some (0, S) from wi_n S hb, oB_s, if_pos rfl]
    exact ⟨0, rfl, BI.f hno⟩
  · rw [show f_X9_within S (nI g) 2 (nI (p - 1)) = some (1, S) from wi_y S g1 g2 (by omega), oB_s, if_neg (by decide)]
    have e1 : pwr g p 1 = g := by show 1 * g % p = g; rw [Nat.one_mul, Nat.mod_eq_of_lt (by omega)]
    obtain ⟨r, e, hr⟩ := mrt_l S (show g < p by omega) h1 h2 (fermat_tab p (by omega) g (by omega) g1 (fun d d1 d2 => hp d d2 d1)) FU 1 (by omega) (by omega) (by unfold FU; omega) (fun j j1 j2 => absurd j1 (by omega))
    rw [e1] at e
    refine ⟨r, e, hr.cg ⟨fun q => ⟨g, rfl, g1, by omega, q⟩, ?_⟩⟩
    rintro ⟨g', e', r1, r2, r3⟩
    have : g = g' := by
      by_cases h : g' < 2 ^ 31
      · exact (nI_eq (by omega) h).mp e'
      · omega
    rw [this]; exact r3
