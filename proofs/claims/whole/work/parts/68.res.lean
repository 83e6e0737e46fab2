/-! taking marks, residues, numbers coprime to a modulus -/
theorem MS.tw_7 {i j : Nat} (hij : i ≠ j) {l : List Nat} {num v : Nat} (hn : num ≤ l.length) (hl : l.length < 24) : ∀ (n k : Nat) (S : ST), MS S j l → MS S i (l.take k) → k ≤ num → num < n + k → ∃ S', f_X2_takeWith_7 n S i j (nI num) (nI v) (nI k) = some S' ∧ MS S' i (l.take num ++ v :: l.drop num) ∧ FR [i] [i] [] S S'
  | 0, k, S, h, hw, h1, h2 => absurd h2 (by omega)
  | n + 1, k, S, h, hw, h1, h2 => by
    unfold f_X2_takeWith_7
    by_cases hk : k = num
    · rw [hk, if_pos (nI_le (Nat.le_refl _) (by omega))]
      rw [hk] at hw
      have hlt : (l.take num).length = num := by rw [List.length_take]; omega
      obtain ⟨S1, e1, m1, f1⟩ := hw.push (by omega) v
      rw [e1, oV_s]
      obtain ⟨S2, e2, m2, f2⟩ := MS.tw_37 hij FU num S1 _ (h.fr f1 (by simp; omega) (by simp; omega)) m1 hn (by unfold FU; omega) (by rw [List.length_append, hlt]; show num + 1 + _ ≤ 24; omega)
      refine ⟨S2, e2, ?_, f1.tr f2⟩
      rw [List.append_assoc] at m2
      exact m2
    · have hk2 : k < l.length := by omega
      have hlt : (l.take k).length = k := by rw [List.length_take]; omega
      rw [if_neg (nI_ge (show k < num by omega) (by omega)), h.at hk2, oB_s]
      obtain ⟨S1, e1, m1, f1⟩ := hw.push (by omega) (l.getD k 0)
      rw [e1, oV_s, oL_s, nI_1]
      rw [← tk_succ hk2] at m1
      obtain ⟨S2, e2, m2, f2⟩ := MS.tw_7 hij hn hl n (k + 1) S1 (h.fr f1 (by simp; omega) (by simp; omega)) m1 (by omega) (by omega)
      exact ⟨S2, e2, m2, f1.tr f2⟩
theorem MS.takeWith {S : ST} {i j : Nat} (hij : i ≠ j) {l : List Nat} {num v : Nat} (h : MS S j l) (hn : num ≤ l.length) (hl : l.length < 24) : ∃ S', f_X2_takeWith S i j (nI num) (nI v) = some S' ∧ MS S' i (l.take num ++ v :: l.drop num) ∧ FR [i] [i] [] S S' := by
  obtain ⟨S1, e1, m1, f1⟩ := MS.empty S i
  obtain ⟨S2, e2, m2, f2⟩ := MS.tw_7 (v := v) hij hn hl FU 0 S1 (h.fr f1 (by simp; omega) (by simp)) m1 (by omega) (by unfold FU; omega)
  refine ⟨S2, ?_, m2, (f1.wk (by simp) (by simp) (by simp)).tr f2⟩
  unfold f_X2_takeWith f_X2_takeWith_0
  rw [e1, oV_s]
  exact e2
theorem MS.two_6 {i j : Nat} (hij : i ≠ j) {l : List Nat} {v : Nat} (hv : v < 2 ^ 31) (hl : ∀ y, y ∈ l → y < 2 ^ 31) : ∀ (n k : Nat) (S : ST), MS S j l → MS S i ((l.take k).filter (fun y => y != v)) → k ≤ l.length → l.length < n + k → ∃ S', f_X2_takeWithout_6 n S i j (nI v) (nI k) = some S' ∧ MS S' i (l.filter (fun y => y != v)) ∧ FR [i] [i] [] S S'
  | 0, k, S, h, hw, h1, h2 => absurd h2 (by omega)
  | n + 1, k, S, h, hw, h1, h2 => by
    have h24 := h.1
    unfold f_X2_takeWithout_6 f_X2_takeWithout_32
    rw [h.2.1]
    by_cases hk : k = l.length
    · rw [hk, if_pos (nI_le (Nat.le_refl _) (by omega))]
      rw [hk, List.take_length] at hw
      exact ⟨S, rfl, hw, FR.rf _ _ _ S⟩
    · have hk : k < l.length := by omega
      have hy := hl _ (gd_mem hk)
      rw [if_neg (nI_ge hk (by omega)), h.at hk, oB_s]
      have hsucc : (l.take (k + 1)).filter (fun y => y != v) = (l.take k).filter (fun y => y != v) ++ if l.getD k 0 = v then [] else [l.getD k 0] := by
        rw [tk_succ hk, List.filter_append]
        congr 1
        generalize l.getD k 0 = z
        by_cases hz : z = v
        · simp [hz]
        · simp [hz]
      by_cases hc : l.getD k 0 = v
      · rw [if_pos (by rw [hc]), oL_s, nI_1]
        rw [if_pos hc, List.append_nil] at hsucc
        exact MS.two_6 hij hv hl n (k + 1) S h (by rw [hsucc]; exact hw) (by omega) (by omega)
      · rw [if_neg (z_ne hy hv hc), h.at hk, oB_s]
        have hlen : ((l.take k).filter (fun y => y != v)).length < 24 := by
          have h1 := List.length_filter_le (fun y => y != v) (l.take k)
          rw [List.length_take] at h1
          omega
        obtain ⟨S1, e1, m1, f1⟩ := hw.push hlen (l.getD k 0)
        rw [e1, oV_s, oL_s, nI_1]
        rw [if_neg hc] at hsucc
        obtain ⟨S2, e2, m2, f2⟩ := MS.two_6 hij hv hl n (k + 1) S1 (h.fr f1 (by simp; omega) (by simp; omega)) (by rw [hsucc]; exact m1) (by omega) (by omega)
        exact ⟨S2, e2, m2, f1.tr f2⟩
theorem MS.takeWithout {S : ST} {i j : Nat} (hij : i ≠ j) {l : List Nat} {v : Nat} (hv : v < 2 ^ 31) (hl : ∀ y, y ∈ l → y < 2 ^ 31) (h : MS S j l) : ∃ S', f_X2_takeWithout S i j (nI v) = some S' ∧ MS S' i (l.filter (fun y => y != v)) ∧ FR [i] [i] [] S S' := by
  have h24 := h.1
  obtain ⟨S1, e1, m1, f1⟩ := MS.empty S i
  obtain ⟨S2, e2, m2, f2⟩ := MS.two_6 hij hv hl FU 0 S1 (h.fr f1 (by simp; omega) (by simp)) m1 (by omega) (by unfold FU; omega)
  refine ⟨S2, ?_, m2, (f1.wk (by simp) (by simp) (by simp)).tr f2⟩
  unfold f_X2_takeWithout f_X2_takeWithout_0
  rw [e1, oV_s]
  exact e2
theorem nI_ofInt (n : Nat) : nI n = Int32.ofInt n := Int32.ofInt_eq_ofNat.symm
theorem tmod_e {z : Int} {m : Nat} (hm : 1 ≤ m) : (0 ≤ z.tmod m → z % m = z.tmod m) ∧ (z.tmod m < 0 → z % m = z.tmod m + m) ∧ -(m : Int) < z.tmod m ∧ z.tmod m < m := by
  have h1 := Int.tmod_lt_of_pos z (show (0 : Int) < m by omega)
  have h2 := Int.lt_tmod_of_pos z (show (0 : Int) < m by omega)
  have h3 : z % m = z.tmod m % m := by
    have := Int.tmod_add_mul_tdiv z m
    rw [← this, Int.add_mul_emod_self_left, this]
  refine ⟨fun h => ?_, fun h => ?_, h2, h1⟩
  · rw [h3, Int.emod_eq_of_lt h h1]
  · rw [h3, ← Int.add_emod_right, Int.emod_eq_of_lt (by omega) (by omega)]
/-- the rest of any int -/
theorem rem_z (a : Int32) {m : Nat} (h1 : 1 ≤ m) (h2 : m < 2 ^ 31) : (a - a / nI m * nI m).toInt = a.toInt.tmod m := by
  have hne : nI m ≠ -1 := fun e => by
    have := congrArg Int32.toInt e
    rw [nI_toInt h2] at this
    rw [show (-1 : Int32).toInt = -1 from rfl] at this
    omega
  have hq : a / nI m = Int32.ofInt (a.toInt.tdiv m) := by
    rw [← Int32.ofInt_toInt (a / nI m), Int32.toInt_div_of_ne_right _ _ hne, nI_toInt h2]
  obtain ⟨-, -, h3, h4⟩ := tmod_e (z := a.toInt) h1
  have e : a - a / nI m * nI m = Int32.ofInt (a.toInt.tmod m) := by
    rw [hq, nI_ofInt, ← Int32.ofInt_mul]
    have : a = Int32.ofInt a.toInt := (Int32.ofInt_toInt a).symm
    rw [show a - Int32.ofInt (a.toInt.tdiv m * m) = Int32.ofInt a.toInt - Int32.ofInt (a.toInt.tdiv m * m) by rw [← this], ← Int32.ofInt_sub]
    congr 1
    have := Int.tmod_add_mul_tdiv a.toInt m
    rw [Int.mul_comm] at this
    omega
  rw [e, Int32.toInt_ofInt_of_le (by omega) (by omega)]
theorem z_nat {x : Int32} {k : Nat} (h : x.toInt = k) (hk : k < 2 ^ 31) : x = nI k := by rw [z_eq, nI_toInt hk]; exact h
theorem residue_z (S : ST) (a : Int32) {m : Nat} (h1 : 1 ≤ m) (h2 : m < 2 ^ 31) : f_X8_residue S a (nI m) = some (nI (a.toInt % m).toNat, S) := by
  unfold f_X8_residue f_X8_residue_0 f_X8_residue_22
  have hr := rem_z a h1 h2
  obtain ⟨h3, h4, h5, h6⟩ := tmod_e (z := a.toInt) h1
  rw [if_pos (show (1 : Int32) ≤ nI m from nI_le (a := 1) h1 h2), oG_t (by unfold nz; exact decide_eq_true (nI_ne0 (by omega) h2)), oL_s]
  generalize a - a / nI m * nI m = v at *
  have hmod := Int.emod_lt_of_pos a.toInt (show (0 : Int) < m by omega)
  by_cases h : 0 ≤ a.toInt.tmod m
  · rw [if_pos (show 0 ≤ v by rw [z_le, hr]; exact h)]
    congr 2
    exact z_nat (by rw [hr, ← h3 h]; omega) (by omega)
  · have h := Int.not_le.mp h
    rw [if_neg (show ¬ 0 ≤ v by rw [z_le, hr]; exact Int.not_le.mpr h)]
    congr 2
    have hs := h4 h
    apply z_nat _ (by omega)
    rw [Int32.toInt_add, nI_toInt h2, hr, Int.bmod_eq_of_le (by omega) (by omega)]
    omega
theorem residue_n (S : ST) {k m : Nat} (hk : k < 2 ^ 31) (h1 : 1 ≤ m) (h2 : m < 2 ^ 31) : f_X8_residue S (nI k) (nI m) = some (nI (k % m), S) := by
  rw [residue_z S _ h1 h2, nI_toInt hk]
  congr 3
/-- Euclid -/
def is1 (x : Nat) : Int32 := if x = 1 then 1 else 0
theorem cop36 (S : ST) {a : Nat} (ha : a < 2 ^ 31) : f_X8_isCoprime_36 S (nI a) = some (is1 a, S) := by
  unfold f_X8_isCoprime_36 f_X8_isCoprime_46 is1
  by_cases h : a = 1
  · rw [if_pos (by rw [h]; rfl), if_pos h, oG_t (by decide)]
  · rw [if_neg (show ¬ nI a = (1 : Int32) from z_ne (b := 1) ha (by decide) h), if_neg h, oG_t (by decide)]
theorem eu_end {S : ST} {a i n : Nat} (ha : a < 2 ^ 31) : f_X8_isCoprime_7 (n + 1) S (nI a) (nI 0) (nI i) = some (is1 a, S) := by
  unfold f_X8_isCoprime_7
  by_cases h : (64 : Int32) ≤ nI i
  · rw [if_pos h, cop36 S ha]
  · rw [if_neg h, if_pos (show nI 0 = 0 from rfl), cop36 S ha]
theorem eu_l (S : ST) : ∀ (k n i a b : Nat), a < 2 ^ 31 → b < 2 ^ k → k ≤ 30 → i + 2 * k ≤ 64 → 2 * k < n → f_X8_isCoprime_7 n S (nI a) (nI b) (nI i) = some (is1 (Nat.gcd a b), S)
  | 0, 0, i, a, b, _, _, _, _, h => absurd h (by omega)
  | 0, n + 1, i, a, b, ha, hb, _, _, _ => by
    rw [show b = 0 by rw [Nat.pow_zero] at hb; omega, eu_end ha, Nat.gcd_zero_right]
  | k + 1, 0, i, a, b, _, _, _, _, h => absurd h (by omega)
  | k + 1, 1, i, a, b, _, _, _, _, h => absurd h (by omega)
  | k + 1, n + 2, i, a, b, ha, hb, hk, hi, hn => by
    have hb31 : b < 2 ^ 31 := Nat.lt_of_lt_of_le hb (Nat.pow_le_pow_right (by decide) (by omega))
    by_cases h0 : b = 0
    · rw [h0, eu_end ha, Nat.gcd_zero_right]
    · have hm := Nat.mod_lt a (show 0 < b by omega)
      have e1 : f_X8_isCoprime_7 (n + 2) S (nI a) (nI b) (nI i) = f_X8_isCoprime_7 (n + 1) S (nI b) (nI (a % b)) (nI (i + 1)) := by
        rw [f_X8_isCoprime_7, if_neg (show ¬ (64 : Int32) ≤ nI i from nI_ge (b := 64) (by omega) (by decide)), if_neg (nI_ne0 (by omega) hb31), residue_n S ha (by omega) hb31, oB_s, oL_s, nI_1]
      rw [e1, show Nat.gcd a b = Nat.gcd b (a % b) by rw [Nat.gcd_comm a b, Nat.gcd_rec b a, Nat.gcd_comm (a % b)]]
      by_cases h1 : a % b = 0
      · rw [h1, eu_end hb31, Nat.gcd_zero_right]
      · have hm2 := Nat.mod_lt b (show 0 < a % b by omega)
        have e2 : f_X8_isCoprime_7 (n + 1) S (nI b) (nI (a % b)) (nI (i + 1)) = f_X8_isCoprime_7 n S (nI (a % b)) (nI (b % (a % b))) (nI (i + 2)) := by
          rw [f_X8_isCoprime_7, if_neg (show ¬ (64 : Int32) ≤ nI (i + 1) from nI_ge (b := 64) (by omega) (by decide)), if_neg (nI_ne0 (by omega) (by omega)), residue_n S hb31 (by omega) (by omega), oB_s, oL_s, nI_1]
        have hhalf : 2 * (b % (a % b)) < b := by
          have := Nat.div_add_mod b (a % b)
          have hd : 1 ≤ b / (a % b) := by rw [Nat.le_div_iff_mul_le (by omega)]; omega
          have := Nat.mul_le_mul_left (a % b) hd
          omega
        rw [e2, show Nat.gcd b (a % b) = Nat.gcd (a % b) (b % (a % b)) by rw [Nat.gcd_comm b, Nat.gcd_rec (a % b) b, Nat.gcd_comm (b % (a % b))]]
        rw [Nat.pow_succ] at hb
        exact eu_l S k n (i + 2) _ _ (by omega) (by omega) (by omega) (by omega) (by omega)
theorem X8_isCoprime (S : ST) {a b : Nat} (ha : a < 2 ^ 31) (hb : b ≤ 1000) : f_X8_isCoprime S (nI a) (nI b) = some (is1 (Nat.gcd a b), S) := by
  unfold f_X8_isCoprime f_X8_isCoprime_0
  exact eu_l S 10 FU 0 a b ha (by omega) (by omega) (by omega) (by unfold FU; omega)
def uTo (m p : Nat) : List Nat := (List.range p).filter (fun t => Nat.gcd m t == 1)
def unitsOf (m : Nat) : List Nat := uTo m m
def UL (S : ST) (l : List Nat) : Prop := l.length ≤ 1000 ∧ fi S 25 = nI l.length ∧ ∀ k, k < l.length → ai S 25 k = nI (l.getD k 0)
theorem uTo_in {m p : Nat} (h : Nat.gcd m p = 1) : uTo m (p + 1) = uTo m p ++ [p] := by
  unfold uTo
  rw [List.range_succ, List.filter_append]
  simp [h]
theorem uTo_out {m p : Nat} (h : ¬ Nat.gcd m p = 1) : uTo m (p + 1) = uTo m p := by
  unfold uTo
  rw [List.range_succ, List.filter_append]
  simp [h]
theorem uTo_len (m p : Nat) : (uTo m p).length ≤ p := by
  have := List.length_filter_le (fun t => Nat.gcd m t == 1) (List.range p)
  rw [List.length_range] at this
  exact this
theorem uTo_1 {m : Nat} (hm : 2 ≤ m) : uTo m 1 = [] := by
  rw [uTo_out (by rw [Nat.gcd_zero_right]; omega)]
  rfl
theorem UL.push {S : ST} {l : List Nat} (h : UL S l) (hl : l.length < 1000) (v : Nat) : UL (sI (sA S 25 (upd (ai S 25) l.length (nI v))) 25 (nI (l.length + 1))) (l ++ [v]) := by
  refine ⟨by rw [List.length_append]; exact hl, by rw [fi_sI_s, List.length_append]; rfl, fun k hk => ?_⟩
  rw [ai_sI, ai_sA_s]
  rw [List.length_append] at hk
  have hk : k < l.length + 1 := hk
  by_cases hkl : k = l.length
  · rw [hkl, pk_us, gl_s]
  · rw [pk_un hkl, h.2.2 k (by omega), gd_app (by omega)]
theorem UL.prep_l {m : Nat} (hm : 2 ≤ m) (hm2 : m ≤ 1000) : ∀ (n t : Nat) (S : ST), UL S (uTo m t) → 1 ≤ t → t ≤ m → m < n + t → ∃ S', f_X7_prepare_21 n S (nI m) (nI t) = some S' ∧ UL S' (unitsOf m) ∧ FR [25] [25] [] S S'
  | 0, t, S, _, _, _, h2 => absurd h2 (by omega)
  | n + 1, t, S, h, h0, h1, h2 => by
    unfold f_X7_prepare_21 f_X7_prepare_70 f_X7_prepare_64
    by_cases ht : t = m
    · rw [ht, if_pos (nI_le (Nat.le_refl _) (by omega))]
      rw [ht] at h
      exact ⟨S, rfl, h, FR.rf _ _ _ S⟩
    · have hlen := uTo_len m t
      rw [if_neg (nI_ge (show t < m by omega) (by omega)), h.2.1, if_neg (show ¬ (1000 : Int32) ≤ nI (uTo m t).length from nI_ge (b := 1000) (by omega) (by decide)), X8_isCoprime S (by omega) (by omega), oB_s]
      unfold is1
      by_cases hg : Nat.gcd m t = 1
      · rw [if_pos hg, if_neg (by decide), h.2.1, oG_t (inB_n (show (uTo m t).length < 1000 by omega) (by omega)), oL_s, oL_s, oL_s, nI_1, nI_clamp (by omega)]
        rw [show fi (sA S 25 (upd (ai S 25) (uTo m t).length (nI t))) 25 = nI (uTo m t).length from h.2.1, nI_1]
        have hp := h.push (by omega) t
        rw [← uTo_in hg] at hp
        obtain ⟨S2, e2, u2, f2⟩ := UL.prep_l hm hm2 n (t + 1) _ hp (by omega) (by omega) (by omega)
        exact ⟨S2, e2, u2, (FR.tr ((FR.sA S 25 _).wk (by simp) (by simp) (by simp)) ((FR.sI _ 25 _).wk (by simp) (by simp) (by simp))).tr f2⟩
      · rw [if_neg hg, if_pos rfl, oL_s, nI_1]
        rw [← uTo_out hg] at h
        exact UL.prep_l hm hm2 n (t + 1) S h (by omega) (by omega) (by omega)
/-- what is kept of the units: nothing, or those of one modulus -/
def UN (S : ST) : Prop := ∃ m, m ≤ 1000 ∧ fi S 26 = nI m ∧ (2 ≤ m → UL S (unitsOf m))
theorem UN.prepare {S : ST} (h : UN S) {m : Nat} (hm : 2 ≤ m) (hm2 : m ≤ 1000) : ∃ S', f_X7_prepare S (nI m) = some S' ∧ UL S' (unitsOf m) ∧ UN S' ∧ FR [25, 26] [25] [] S S' := by
  obtain ⟨x, hx, h26, hu⟩ := h
  unfold f_X7_prepare f_X7_prepare_0
  rw [h26]
  by_cases e : m = x
  · rw [if_pos (by rw [e])]
    exact ⟨S, rfl, by rw [e]; exact hu (by omega), ⟨x, hx, h26, hu⟩, FR.rf _ _ _ S⟩
  · rw [if_neg (z_ne (by omega) (by omega) e), oL_s, oL_s]
    have f0 : FR [25, 26] [25] [] S (sI (sI S 26 (nI m)) 25 0) := ((FR.sI S 26 (nI m)).wk (by simp) (by simp) (by simp)).tr ((FR.sI _ 25 0).wk (by simp) (by simp) (by simp))
    obtain ⟨S2, e2, u2, f2⟩ := UL.prep_l hm hm2 FU 1 (sI (sI S 26 (nI m)) 25 0) (by
      rw [uTo_1 hm]
      exact ⟨by decide, fi_sI_s _ _ _, fun k hk => absurd hk (by simp)⟩) (by omega) (by omega) (by unfold FU; omega)
    refine ⟨S2, e2, u2, ⟨m, hm2, ?_, fun _ => u2⟩, f0.tr (f2.wk (by simp) (by simp) (by simp))⟩
    rw [f2.1 26 (by decide), fi_sI_n _ _ (by decide), fi_sI_s]
theorem UN.fr {I A B : List Nat} {S S' : ST} (h : UN S) (hf : FR I A B S S') (h1 : 25 ∉ I) (h2 : 26 ∉ I) (h3 : 25 ∉ A) : UN S' := by
  obtain ⟨m, hm, h26, hu⟩ := h
  refine ⟨m, hm, by rw [hf.1 26 h2]; exact h26, fun q => ?_⟩
  obtain ⟨u1, u2, u3⟩ := hu q
  exact ⟨u1, by rw [hf.1 25 h1]; exact u2, fun k hk => by rw [hf.2.1 25 h3]; exact u3 k hk⟩
theorem UL.at {S : ST} {l : List Nat} (h : UL S l) {k : Nat} (hk : k < l.length) : f_X7_at S (nI k) = some (nI (l.getD k 0), S) := by
  have h24 := h.1
  unfold f_X7_at f_X7_at_0 f_X7_at_22
  rw [if_neg (nI_pos (by omega)), h.2.1, if_neg (nI_ge hk (by omega)), oG_t (inB_n (by omega) (by omega)), nI_clamp (by omega), h.2.2 k hk]
theorem UL.fr {I A B : List Nat} {S S' : ST} {l : List Nat} (h : UL S l) (hf : FR I A B S S') (h1 : 25 ∉ I) (h3 : 25 ∉ A) : UL S' l :=
  ⟨h.1, by rw [hf.1 25 h1]; exact h.2.1, fun k hk => by rw [hf.2.1 25 h3]; exact h.2.2 k hk⟩
theorem unitsOf_mem {m t : Nat} (hm : 2 ≤ m) : t ∈ unitsOf m ↔ 1 ≤ t ∧ t < m ∧ Nat.gcd m t = 1 := by
  unfold unitsOf uTo
  rw [List.mem_filter, List.mem_range]
  constructor
  · rintro ⟨h1, h2⟩
    have h2 : Nat.gcd m t = 1 := by simpa using h2
    refine ⟨?_, h1, h2⟩
    cases t with
    | zero => rw [Nat.gcd_zero_right] at h2; omega
    | succ t => omega
  · rintro ⟨h1, h2, h3⟩
    exact ⟨h2, by simpa using h3⟩
