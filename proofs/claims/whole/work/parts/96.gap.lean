/-! gaps: the rows 22 (gaps) and 23 (best) -/
theorem X1_at {S : ST} {i : Nat} {g : List Nat} (h : MS S i g) {k : Nat} (hk : k < g.length) : f_X1_at S i (nI k) = some (nI (g.getD k 0), S) := by
  have h24 := h.1
  unfold f_X1_at f_X1_at_0 f_X1_at_22
  rw [h.2.1, if_neg (nI_pos (by omega)), if_neg (nI_ge hk (by omega)), oG_t (inB_n (show k < 24 by omega) (by omega)), nI_clamp (by omega), h.2.2 k hk]
theorem X1_around {S : ST} {i : Nat} {g : List Nat} (h : MS S i g) {k : Nat} (hk : k < 2 * g.length) : f_X1_around S i (nI k) = some (nI (cq g k), S) := by
  have h24 := h.1
  unfold f_X1_around f_X1_around_0 f_X1_around_26
  rw [h.2.1]
  by_cases c : k < g.length
  · rw [if_neg (nI_ge c (by omega)), X1_at h c, oB_s, cq_lt c]
  · rw [if_pos (nI_le (show g.length ≤ k by omega) (by omega)), z_sub (show g.length ≤ k by omega), X1_at h (show k - g.length < g.length by omega), oB_s, ← cq_lt (show k - g.length < g.length by omega), ← cq_n, show k - g.length + g.length = k by omega]
theorem X1_push {S : ST} {i : Nat} {l : List Nat} (h : MS S i l) (hl : l.length < 24) (v : Nat) : ∃ S', f_X1_push S i (nI v) = some S' ∧ MS S' i (l ++ [v]) ∧ FR [i] [i] [] S S' := by
  obtain ⟨S1, e1, m1, f1⟩ := h.push hl v
  refine ⟨S1, ?_, m1, f1⟩
  rw [← e1]
  rfl
theorem X1_zero (S : ST) (i : Nat) : MS (sI S i 0) i [] ∧ FR [i] [] [] S (sI S i 0) := ⟨⟨by decide, fi_sI_s _ _ _, fun k hk => absurd hk (by simp)⟩, FR.sI S i 0⟩
theorem fr9_l {S : ST} {g : List Nat} (hm : MS S 22 g) (hn : 1 ≤ g.length) (hb : ∀ x, x ∈ g → x < 2 ^ 29) : ∀ (f i j k st : Nat), RInv g i j → (∀ p, p < k → cq g (i + p) = cq g (j + p)) → k ≤ g.length → i + j + k ≤ 100 → st + 1 ≤ i + j + k → 100 < f + (i + j + k) → ∃ s, f_X1_firstRotation_9 f S 22 (nI i) (nI j) (nI k) (nI st) = some (nI s, S) ∧ s < g.length ∧ ¬ BT g s
  | 0, i, j, k, st, _, _, _, h1, _, h2 => absurd h2 (by omega)
  | f + 1, i, j, k, st, hR, hA, hk, hs, hst, hf => by
    have h24 := hm.1
    have hcb : ∀ x, cq g x < 2 ^ 29 := fun x => hb _ (gd_mem (Nat.mod_lt _ (by omega)))
    unfold f_X1_firstRotation_9
    rw [hm.2.1]
    by_cases hend : g.length ≤ i ∨ g.length ≤ j ∨ g.length ≤ k
    · have hX : f_X1_firstRotation_119 S (nI i) (nI j) = some (nI (if j < i then j else i), S) := by
        unfold f_X1_firstRotation_119
        by_cases c : j < i
        · rw [if_pos (nI_lt c (by omega)), if_pos c]
        · rw [if_neg (nI_nlt (show i ≤ j by omega) (by omega)), if_neg c]
      refine ⟨if j < i then j else i, ?_, ?_⟩
      · rw [hX]
        rcases hend with h | h | h
        · rw [if_pos (nI_le h (by omega)), ite_self]
        · rw [if_pos (nI_le h (show j < 2 ^ 31 by omega)), ite_self, ite_self]
        · rw [if_pos (nI_le h (show k < 2 ^ 31 by omega)), ite_self, ite_self, ite_self]
      · by_cases c : g.length ≤ i ∨ g.length ≤ j
        · exact fr_end1 hn hR c
        · have hk' : k = g.length := by omega
          rw [hk'] at hA
          refine ⟨?_, fr_end2 hn hR hA⟩
          split <;> omega
    · have hi : i < g.length := by omega
      have hj : j < g.length := by omega
      have hkk : k < g.length := by omega
      rw [if_neg (show ¬ (72 : Int32) ≤ nI st from nI_ge (b := 72) (by omega) (by decide)), if_neg (nI_ge hi (by omega)), if_neg (nI_ge hj (by omega)), if_neg (nI_ge hkk (by omega)), nI_add, nI_add, X1_around hm (show i + k < 2 * g.length by omega), oB_s, X1_around hm (show j + k < 2 * g.length by omega), oB_s, oL_s]
      have ha := hcb (i + k)
      have hb' := hcb (j + k)
      have hdt := pk_sub_toInt (show cq g (i + k) < 2 ^ 30 by omega) (show cq g (j + k) < 2 ^ 30 by omega)
      unfold f_X1_firstRotation_81 f_X1_firstRotation_96 f_X1_firstRotation_109 f_X1_firstRotation_113
      rcases Nat.lt_trichotomy (cq g (i + k)) (cq g (j + k)) with c | c | c
      · rw [if_neg (show ¬ nI (cq g (i + k)) - nI (cq g (j + k)) = 0 from fun q => by rw [z_eq, hdt] at q; have q : ((cq g (i + k) : Nat) : Int) - (cq g (j + k) : Nat) = 0 := q; omega), if_pos (show nI (cq g (i + k)) - nI (cq g (j + k)) ≤ 0 by rw [z_le, hdt]; show ((cq g (i + k) : Nat) : Int) - (cq g (j + k) : Nat) ≤ 0; omega), oL_s, if_neg (show ¬ (0 : Int32) ≤ nI (cq g (i + k)) - nI (cq g (j + k)) by rw [z_le, hdt]; show ¬ (0 : Int) ≤ ((cq g (i + k) : Nat) : Int) - (cq g (j + k) : Nat); omega), oL_s, nI_1, show nI i + (0 : Int32) = nI i from nI_add i 0, nI_add]
        have hR' := hR.lt hkk hA c
        by_cases e : i = j + (k + 1)
        · rw [if_pos (show nI i = nI (j + (k + 1)) by rw [← e]), oL_s, oL_s, nI_1, nI_1]
          rw [if_pos e] at hR'
          exact fr9_l hm hn hb f i (j + (k + 1) + 1) 0 (st + 1) hR' (fun p hp => absurd hp (by omega)) (by omega) (by omega) (by omega) (by omega)
        · rw [if_neg (z_ne (by omega) (by omega) e), oL_s, oL_s, show nI (j + (k + 1)) + (0 : Int32) = nI (j + (k + 1)) from nI_add _ 0, nI_1]
          rw [if_neg e] at hR'
          exact fr9_l hm hn hb f i (j + (k + 1)) 0 (st + 1) hR' (fun p hp => absurd hp (by omega)) (by omega) (by omega) (by omega) (by omega)
      · rw [c, Int32.sub_self, if_pos rfl, oL_s, oL_s, nI_1, nI_1]
        exact fr9_l hm hn hb f i j (k + 1) (st + 1) hR (fun p hp => by
          by_cases e : p = k
          · rw [e]; exact c
          · exact hA p (by omega)) (by omega) (by omega) (by omega) (by omega)
      · rw [if_neg (show ¬ nI (cq g (i + k)) - nI (cq g (j + k)) = 0 from fun q => by rw [z_eq, hdt] at q; have q : ((cq g (i + k) : Nat) : Int) - (cq g (j + k) : Nat) = 0 := q; omega), if_neg (show ¬ nI (cq g (i + k)) - nI (cq g (j + k)) ≤ 0 by rw [z_le, hdt]; show ¬ ((cq g (i + k) : Nat) : Int) - (cq g (j + k) : Nat) ≤ 0; omega), oL_s, if_pos (show (0 : Int32) ≤ nI (cq g (i + k)) - nI (cq g (j + k)) by rw [z_le, hdt]; show (0 : Int) ≤ ((cq g (i + k) : Nat) : Int) - (cq g (j + k) : Nat); omega), oL_s, nI_1, nI_add, show nI j + (0 : Int32) = nI j from nI_add j 0]
        have hR' := hR.gt hkk hA c
        by_cases e : i + (k + 1) = j
        · rw [if_pos (show nI (i + (k + 1)) = nI j by rw [← e]), oL_s, oL_s, nI_1, nI_1]
          rw [if_pos e] at hR'
          exact fr9_l hm hn hb f (i + (k + 1)) (j + 1) 0 (st + 1) hR' (fun p hp => absurd hp (by omega)) (by omega) (by omega) (by omega) (by omega)
        · rw [if_neg (z_ne (by omega) (by omega) e), oL_s, oL_s, show nI j + (0 : Int32) = nI j from nI_add j 0, nI_1]
          rw [if_neg e] at hR'
          exact fr9_l hm hn hb f (i + (k + 1)) j 0 (st + 1) hR' (fun p hp => absurd hp (by omega)) (by omega) (by omega) (by omega) (by omega)
theorem X1_firstRotation {S : ST} {g : List Nat} (hm : MS S 22 g) (hn : 1 ≤ g.length) (hb : ∀ x, x ∈ g → x < 2 ^ 29) : ∃ s, f_X1_firstRotation S 22 = some (nI s, S) ∧ s < g.length ∧ ¬ BT g s :=
  fr9_l hm hn hb FU 0 1 0 0 ⟨by decide, fun s hs a b => absurd hs (by omega)⟩ (fun p hp => absurd hp (by omega)) (by omega) (by omega) (by omega) (by unfold FU; omega)
theorem cb_l {S : ST} {g b : List Nat} {s : Nat} (hm : MS S 22 g) (hm2 : MS S 23 b) (hl : b.length = g.length) (hs : s < g.length) (hb : ∀ x, x ∈ g → x < 2 ^ 29) (hb2 : ∀ x, x ∈ b → x < 2 ^ 29) : ∀ (f k : Nat), (∀ p, p < k → rt g s p = b.getD p 0) → k ≤ g.length → g.length < f + k → ∃ r, f_X1_comeBefore_2 f S 22 (nI s) 23 (nI k) = some (r, S) ∧ BI r (LX (rt g s) (fun p => b.getD p 0) g.length)
  | 0, k, _, _, h => absurd h (by omega)
  | f + 1, k, hA, h1, h2 => by
    have h24 := hm.1
    unfold f_X1_comeBefore_2 f_X1_comeBefore_40
    rw [hm.2.1]
    by_cases hk : k = g.length
    · rw [if_pos (nI_le (show g.length ≤ k by omega) (by omega))]
      refine ⟨0, rfl, BI.f ?_⟩
      rintro ⟨q, q1, _, q3⟩
      rw [hk] at hA
      rw [hA q q1] at q3
      exact Nat.lt_irrefl _ q3
    · have hk : k < g.length := by omega
      have ha : cq g (s + k) < 2 ^ 29 := hb _ (gd_mem (Nat.mod_lt _ (by omega)))
      have hb' : b.getD k 0 < 2 ^ 29 := hb2 _ (gd_mem (by omega))
      rw [if_neg (nI_ge hk (by omega)), nI_add, X1_around hm (show s + k < 2 * g.length by omega), oB_s, X1_at hm2 (show k < b.length by omega), oB_s, oL_s]
      have hdt := pk_sub_toInt (show cq g (s + k) < 2 ^ 30 by omega) (show b.getD k 0 < 2 ^ 30 by omega)
      rcases Nat.lt_trichotomy (cq g (s + k)) (b.getD k 0) with c | c | c
      · rw [if_neg (show ¬ nI (cq g (s + k)) - nI (b.getD k 0) = 0 from fun q => by rw [z_eq, hdt] at q; have q : ((cq g (s + k) : Nat) : Int) - (b.getD k 0 : Nat) = 0 := q; omega), if_neg (show ¬ (0 : Int32) ≤ nI (cq g (s + k)) - nI (b.getD k 0) by rw [z_le, hdt]; show ¬ (0 : Int) ≤ ((cq g (s + k) : Nat) : Int) - (b.getD k 0 : Nat); omega), oG_t (by decide)]
        exact ⟨1, rfl, BI.t ⟨k, hk, hA, c⟩⟩
      · rw [c, Int32.sub_self, if_pos rfl, oL_s, nI_1]
        exact cb_l hm hm2 hl hs hb hb2 f (k + 1) (fun p hp => by
          by_cases e : p = k
          · rw [e]; exact c
          · exact hA p (by omega)) (by omega) (by omega)
      · rw [if_neg (show ¬ nI (cq g (s + k)) - nI (b.getD k 0) = 0 from fun q => by rw [z_eq, hdt] at q; have q : ((cq g (s + k) : Nat) : Int) - (b.getD k 0 : Nat) = 0 := q; omega), if_pos (show (0 : Int32) ≤ nI (cq g (s + k)) - nI (b.getD k 0) by rw [z_le, hdt]; show (0 : Int) ≤ ((cq g (s + k) : Nat) : Int) - (b.getD k 0 : Nat); omega), oG_t (by decide)]
        refine ⟨0, rfl, BI.f ?_⟩
        rintro ⟨q, q1, q2, q3⟩
        have q3 : cq g (s + q) < b.getD q 0 := q3
        rcases Nat.lt_trichotomy q k with d | d | d
        · have := hA q d
          have this : cq g (s + q) = b.getD q 0 := this
          omega
        · rw [d] at q3; omega
        · have this : cq g (s + k) = b.getD k 0 := q2 k d
          omega
theorem mc_l2 {S : ST} {g : List Nat} {x y : Nat} (hm : MS S 22 g) (hn : 1 ≤ g.length) (hb : ∀ x, x ∈ g → x < 2 ^ 29) (hx : x < 2 ^ 29) (hy : y < 2 ^ 29) : ∀ (f k : Nat), k ≤ g.length → g.length < f + k → ∃ r, f_X1_mayComeBefore_15 f S 22 (nI x) (nI y) (nI k) = some (r, S) ∧ (r = 0 → ∀ i, k ≤ i → i < g.length → x < cq g i ∨ (x = cq g i ∧ y < cq g (i + 1)))
  | 0, k, _, h => absurd h (by omega)
  | f + 1, k, h1, h2 => by
    have h24 := hm.1
    unfold f_X1_mayComeBefore_15 f_X1_mayComeBefore_58 f_X1_mayComeBefore_60
    rw [hm.2.1]
    by_cases hk : k = g.length
    · rw [if_pos (nI_le (show g.length ≤ k by omega) (by omega))]
      exact ⟨0, rfl, fun _ i i1 i2 => absurd i2 (by omega)⟩
    · have hk : k < g.length := by omega
      have ha : g.getD k 0 < 2 ^ 29 := hb _ (gd_mem hk)
      have hc : cq g (k + 1) < 2 ^ 29 := hb _ (gd_mem (Nat.mod_lt _ (by omega)))
      rw [if_neg (nI_ge hk (by omega)), oG_t (inB_n (show k < 24 by omega) (by omega)), nI_clamp (by omega), hm.2.2 k hk, oG_t (inB_n (show k < 24 by omega) (by omega)), nI_1, X1_around hm (show k + 1 < 2 * g.length by omega), oB_s, oL_s]
      obtain ⟨r, e, hr⟩ := mc_l2 hm hn hb hx hy f (k + 1) (by omega) (by omega)
      have hrec : (x < cq g k ∨ (x = cq g k ∧ y < cq g (k + 1))) → (r = 0 → ∀ i, k ≤ i → i < g.length → x < cq g i ∨ (x = cq g i ∧ y < cq g (i + 1))) := fun h0 hz i i1 i2 => by
        by_cases e2 : i = k
        · rw [e2]; exact h0
        · exact hr hz i (by omega) i2
      rw [cq_lt hk] at hrec
      by_cases c1 : g.getD k 0 < x
      · rw [if_pos (nI_lt c1 (by omega))]
        exact ⟨1, rfl, fun q => absurd q (by decide)⟩
      · rw [if_neg (nI_nlt (show x ≤ g.getD k 0 by omega) (by omega))]
        by_cases c2 : g.getD k 0 = x
        · rw [if_pos (by rw [c2])]
          by_cases c3 : y < cq g (k + 1)
          · rw [if_pos (nI_lt c3 (by omega))]
            exact ⟨r, e, hrec (Or.inr ⟨c2.symm, c3⟩)⟩
          · rw [if_neg (nI_nlt (show cq g (k + 1) ≤ y by omega) (by omega))]
            exact ⟨1, rfl, fun q => absurd q (by decide)⟩
        · rw [if_neg (z_ne (by omega) (by omega) c2)]
          exact ⟨r, e, hrec (Or.inl (by omega))⟩
def rtl (g : List Nat) (s k : Nat) : List Nat := (List.range k).map (rt g s)
theorem rtl_len (g : List Nat) (s k : Nat) : (rtl g s k).length = k := by unfold rtl; rw [List.length_map, List.length_range]
theorem mr_s (f : Nat → Nat) (k : Nat) : (List.range (k + 1)).map f = (List.range k).map f ++ [f k] := by rw [List.range_succ, List.map_append]; rfl
theorem mr_gd (f : Nat → Nat) {n k : Nat} (h : k < n) : ((List.range n).map f).getD k 0 = f k := by
  rw [List.getD_eq_getElem?_getD, List.getElem?_map, List.getElem?_range h]
  rfl
theorem tf_l {g : List Nat} {s : Nat} (hs : s < g.length) : ∀ (f k : Nat) (S : ST), MS S 22 g → MS S 23 (rtl g s k) → k ≤ g.length → g.length < f + k → ∃ S', f_X1_takeFrom_7 f S 23 22 (nI s) (nI k) = some S' ∧ MS S' 23 (rtl g s g.length) ∧ FR [23] [23] [] S S'
  | 0, k, S, _, _, _, h => absurd h (by omega)
  | f + 1, k, S, hm, hw, h1, h2 => by
    have h24 := hm.1
    unfold f_X1_takeFrom_7
    rw [hm.2.1]
    by_cases hk : k = g.length
    · rw [if_pos (nI_le (show g.length ≤ k by omega) (by omega))]
      exact ⟨S, rfl, by rw [← hk]; exact hw, FR.rf _ _ _ S⟩
    · have hk : k < g.length := by omega
      rw [if_neg (nI_ge hk (by omega)), nI_add, X1_around hm (show s + k < 2 * g.length by omega), oB_s]
      obtain ⟨S1, e1, m1, f1⟩ := X1_push hw (by rw [rtl_len]; omega) (cq g (s + k))
      rw [e1, oV_s, oL_s, nI_1]
      have m1 : MS S1 23 (rtl g s (k + 1)) := by unfold rtl; rw [mr_s]; exact m1
      obtain ⟨S2, e2, m2, f2⟩ := tf_l hs f (k + 1) S1 (hm.fr f1 (by simp) (by simp)) m1 (by omega) (by omega)
      exact ⟨S2, e2, m2, f1.tr f2⟩
theorem X1_takeFrom {S : ST} {g : List Nat} {s : Nat} (hs : s < g.length) (hm : MS S 22 g) : ∃ S', f_X1_takeFrom S 23 22 (nI s) = some S' ∧ MS S' 23 (rtl g s g.length) ∧ FR [23] [23] [] S S' := by
  have h24 := hm.1
  obtain ⟨z1, z2⟩ := X1_zero S 23
  obtain ⟨S1, e1, m1, f1⟩ := tf_l hs FU 0 (sI S 23 0) (hm.fr z2 (by simp) (by simp)) z1 (by omega) (by unfold FU; omega)
  exact ⟨S1, e1, m1, (z2.wk (by simp) (by simp) (by simp)).tr f1⟩
/-- best, with all rotations of the gaps -/
theorem X8_takeBest {S : ST} {g b : List Nat} (hm : MS S 22 g) (hn : 1 ≤ g.length) (hb : ∀ x, x ∈ g → x < 2 ^ 29) (hm2 : MS S 23 b) (hl : b = [] ∨ b.length = g.length) (hb2 : ∀ x, x ∈ b → x < 2 ^ 29) : ∃ S' b', f_X8_takeBest S = some S' ∧ MS S' 23 b' ∧ b'.length = g.length ∧ ((∃ s, s < g.length ∧ b' = rtl g s g.length) ∨ (b ≠ [] ∧ b' = b)) ∧ (∀ s, ¬ LX (rt g s) (fun k => b'.getD k 0) g.length) ∧ (b ≠ [] → ¬ LX (fun k => b.getD k 0) (fun k => b'.getD k 0) g.length) ∧ FR [23] [23] [] S S' := by
  have h24 := hm.1
  obtain ⟨s, e1, s1, s2⟩ := X1_firstRotation hm hn hb
  have hrot : ∀ q, ¬ LX (rt g q) (fun k => (rtl g s g.length).getD k 0) g.length := fun q h => s2 ⟨q, h.cg (fun _ _ => rfl) (fun k hk => mr_gd (rt g s) hk)⟩
  unfold f_X8_takeBest f_X8_takeBest_0 f_X8_takeBest_80
  rw [hm2.2.1]
  by_cases h0 : b = []
  · rw [h0, if_pos (show nI ([] : List Nat).length = 0 from rfl), e1, oB_s]
    obtain ⟨S1, e2, m2, f2⟩ := X1_takeFrom s1 hm
    rw [e2, oV_s]
    exact ⟨S1, _, rfl, m2, rtl_len _ _ _, Or.inl ⟨s, s1, rfl⟩, hrot, fun q => absurd rfl q, f2⟩
  · have hbl : b.length = g.length := by
      rcases hl with q | q
      · exact absurd q h0
      · exact q
    have hcb : ∀ x, cq b x < 2 ^ 29 := fun x => hb2 _ (gd_mem (Nat.mod_lt _ (by omega)))
    rw [if_neg (nI_ne0 (by omega) (by omega))]
    obtain ⟨r, er, hr⟩ := mc_l2 hm hn hb (hcb 0) (hcb 1) FU 0 (by omega) (by unfold FU; omega)
    have hmay : f_X1_mayComeBefore S 22 23 = some (r, S) := by
      unfold f_X1_mayComeBefore f_X1_mayComeBefore_0
      rw [show f_X1_at S 23 0 = some (nI (b.getD 0 0), S) from X1_at hm2 (k := 0) (by omega), oB_s, show f_X1_around S 23 1 = some (nI (cq b 1), S) from X1_around hm2 (k := 1) (by omega), oB_s, ← cq_lt (show 0 < b.length by omega)]
      exact er
    rw [hmay, oB_s]
    have keep : (∀ q, ¬ LX (rt g q) (fun k => b.getD k 0) g.length) → ∃ S' b', some S = some S' ∧ MS S' 23 b' ∧ b'.length = g.length ∧ ((∃ s, s < g.length ∧ b' = rtl g s g.length) ∨ (b ≠ [] ∧ b' = b)) ∧ (∀ s, ¬ LX (rt g s) (fun k => b'.getD k 0) g.length) ∧ (b ≠ [] → ¬ LX (fun k => b.getD k 0) (fun k => b'.getD k 0) g.length) ∧ FR [23] [23] [] S S' := fun hq => ⟨S, b, rfl, hm2, hbl, Or.inr ⟨h0, rfl⟩, hq, fun _ => LX.irr, FR.rf _ _ _ S⟩
    by_cases hz : r = 0
    · rw [if_pos hz]
      refine keep (fun q hq => ?_)
      rw [← rt_mod] at hq
      have hqn := Nat.mod_lt q (show 0 < g.length by omega)
      generalize q % g.length = i at *
      have hi := hr hz i (by omega) hqn
      rw [cq_lt (show 0 < b.length by omega)] at hi
      obtain ⟨k, k1, k2, k3⟩ := hq
      have k3 : cq g (i + k) < b.getD k 0 := k3
      match k, k1, k2, k3 with
      | 0, _, _, k3 => rw [Nat.add_zero] at k3; omega
      | 1, k1, k2, k3 =>
        have a : cq g (i + 0) = b.getD 0 0 := k2 0 (by omega)
        rw [Nat.add_zero] at a
        rw [cq_lt (show 1 < b.length by omega)] at hi
        omega
      | k + 2, k1, k2, k3 =>
        have a : cq g (i + 0) = b.getD 0 0 := k2 0 (by omega)
        have c : cq g (i + 1) = b.getD 1 0 := k2 1 (by omega)
        rw [Nat.add_zero] at a
        rw [cq_lt (show 1 < b.length by omega)] at hi
        omega
    · rw [if_neg hz, e1, oB_s]
      obtain ⟨r2, er2, hr2⟩ := cb_l hm hm2 hbl s1 hb hb2 FU 0 (fun p hp => absurd hp (by omega)) (by omega) (by unfold FU; omega)
      rw [show f_X1_comeBefore S 22 (nI s) 23 = some (r2, S) from er2, oB_s]
      by_cases hc : LX (rt g s) (fun p => b.getD p 0) g.length
      · rw [if_neg (fun z => (hr2.z.mp z) hc)]
        obtain ⟨S1, e2, m2, f2⟩ := X1_takeFrom s1 hm
        rw [e2, oV_s]
        exact ⟨S1, _, rfl, m2, rtl_len _ _ _, Or.inl ⟨s, s1, rfl⟩, hrot, fun _ q => LX.irr (hc.tr (q.cg (fun _ _ => rfl) (fun k hk => mr_gd (rt g s) hk))), f2⟩
      · rw [if_pos (hr2.z.mpr hc)]
        exact keep (fun q hq => by
          rcases LX.tri (rt g s) (fun k => b.getD k 0) g.length with d | d | d
          · exact hc d
          · exact s2 ⟨q, hq.tr d⟩
          · exact s2 ⟨q, hq.cg (fun _ _ => rfl) (fun k hk => (d k hk).symm)⟩)
