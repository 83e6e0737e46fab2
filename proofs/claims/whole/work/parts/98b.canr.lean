/-! the reference's canonical form -/
def FI (S : ST) (F : List Nat) : Prop := F.length ≤ 24 ∧ ∀ k, k < F.length → ai S 34 k = nI (F.getD k 0)
theorem FI.fr {I A B : List Nat} {S S' : ST} {F : List Nat} (h : FI S F) (hf : FR I A B S S') (h1 : 34 ∉ A) : FI S' F := ⟨h.1, fun k hk => by rw [hf.2.1 34 h1]; exact h.2 k hk⟩
theorem LX.keep {C b b1 : Nat → Nat} {n : Nat} (h : ¬ LX C b n) (h2 : ¬ LX b b1 n) : ¬ LX C b1 n := fun q => by
  rcases LX.tri b b1 n with d | d | d
  · exact h2 d
  · exact h (q.tr d)
  · exact h (q.cg (fun _ _ => rfl) (fun k hk => (d k hk).symm))
theorem ia_l {S : ST} {W F : List Nat} (hm : MM S W) (hf : FI S F) (hl : F.length = W.length) (hW : ∀ x, x ∈ W → x ≤ 2000) (hF : ∀ x, x ∈ F → x ≤ 2000) : ∀ (f k : Nat), (∀ p, p < k → W.getD p 0 = F.getD p 0) → k ≤ W.length → W.length < f + k → ∃ r, f_X9_isAhead_2 f S (nI k) = some (r, S) ∧ BI r (LX (bF W) (bF F) W.length)
  | 0, k, _, _, h => absurd h (by omega)
  | f + 1, k, hA, h1, h2 => by
    have h24 := hm.1
    unfold f_X9_isAhead_2 f_X9_isAhead_31 f_X9_isAhead_58 f_X9_isAhead_59
    rw [hm.2.1]
    by_cases hk : k = W.length
    · rw [if_pos (nI_le (show W.length ≤ k by omega) (by omega)), if_pos (nI_le (show W.length ≤ k by omega) (by omega)), oG_t (by decide)]
      refine ⟨0, rfl, BI.f ?_⟩
      rintro ⟨q, q1, _, q3⟩
      have q3 : W.getD q 0 < F.getD q 0 := q3
      rw [hA q (by omega)] at q3
      exact Nat.lt_irrefl _ q3
    · have hk : k < W.length := by omega
      have ha := hW _ (gd_mem hk)
      have hb := hF _ (gd_mem (show k < F.length by omega))
      rw [if_neg (nI_ge hk (by omega)), oG_t (inB_n (show k < 24 by omega) (by omega)), oG_t (inB_n (show k < 24 by omega) (by omega)), nI_clamp (by omega), hm.2.2 k hk, hf.2 k (by omega)]
      by_cases c : W.getD k 0 = F.getD k 0
      · rw [if_pos (by rw [c]), oL_s, nI_1]
        exact ia_l hm hf hl hW hF f (k + 1) (fun p hp => by
          by_cases e : p = k
          · rw [e]; exact c
          · exact hA p (by omega)) (by omega) (by omega)
      · rw [if_neg (z_ne (by omega) (by omega) c), if_neg (nI_ge hk (by omega)), oG_t (inB_n (show k < 24 by omega) (by omega)), oG_t (inB_n (show k < 24 by omega) (by omega))]
        by_cases d : F.getD k 0 ≤ W.getD k 0
        · rw [if_pos (nI_le d (by omega)), oG_t (by decide)]
          refine ⟨0, rfl, BI.f ?_⟩
          rintro ⟨q, q1, q2, q3⟩
          have q3 : W.getD q 0 < F.getD q 0 := q3
          rcases Nat.lt_trichotomy q k with g | g | g
          · have := hA q g; omega
          · rw [g] at q3; omega
          · have this : W.getD k 0 = F.getD k 0 := q2 k g
            exact c this
        · rw [if_neg (nI_ge (show W.getD k 0 < F.getD k 0 by omega) (by omega)), oG_t (by decide)]
          exact ⟨1, rfl, BI.t ⟨k, hk, hA, show W.getD k 0 < F.getD k 0 by omega⟩⟩
theorem kf_l {W : List Nat} : ∀ (f k : Nat) (S : ST), MM S W → (∀ j, j < k → ai S 34 j = nI (W.getD j 0)) → k ≤ W.length → W.length < f + k → ∃ S', f_X9_keepsFirst_2 f S (nI k) = some S' ∧ FI S' W ∧ FR [] [34] [] S S'
  | 0, k, S, _, _, _, h => absurd h (by omega)
  | f + 1, k, S, hm, hv, h1, h2 => by
    have h24 := hm.1
    unfold f_X9_keepsFirst_2
    rw [hm.2.1]
    by_cases hk : k = W.length
    · rw [if_pos (nI_le (show W.length ≤ k by omega) (by omega))]
      exact ⟨S, rfl, ⟨h24, by rw [← hk]; exact hv⟩, FR.rf _ _ _ S⟩
    · have hk : k < W.length := by omega
      rw [if_neg (nI_ge hk (by omega)), oG_t (inB_n (show k < 24 by omega) (by omega)), oG_t (inB_n (show k < 24 by omega) (by omega)), oL_s, oL_s, nI_clamp (by omega), nI_1, hm.2.2 k hk]
      have f0 := FR.sA S 34 (upd (ai S 34) k (nI (W.getD k 0)))
      obtain ⟨S1, e1, q1, f1⟩ := kf_l f (k + 1) _ (hm.fr f0 (by simp) (by simp)) (fun j hj => by
        rw [ai_sA_s]
        by_cases e : j = k
        · rw [e, pk_us]
        · rw [pk_un e]; exact hv j (by omega)) (by omega) (by omega)
      exact ⟨S1, e1, q1, f0.tr f1⟩
def xv (l : List Nat) (m a j k : Nat) : Nat := (((a : Int) * (l.getD k 0 : Nat) - (a : Int) * (l.getD j 0 : Nat)) % (m : Int)).toNat
theorem xv_c {l : List Nat} {m : Nat} (hm : 1 ≤ m) (a j k : Nat) : (xv l m a j k : Int) = ((a : Int) * (l.getD k 0 : Nat) - (a : Int) * (l.getD j 0 : Nat)) % (m : Int) := Int.toNat_of_nonneg (Int.emod_nonneg _ (by omega))
theorem xv_lt {l : List Nat} {m : Nat} (hm : 1 ≤ m) (a j k : Nat) : xv l m a j k < m := by
  have h1 := xv_c (l := l) hm a j k
  have h2 := Int.emod_lt_of_pos ((a : Int) * (l.getD k 0 : Nat) - (a : Int) * (l.getD j 0 : Nat)) (show (0 : Int) < m by omega)
  omega
theorem xv_FO {l : List Nat} {m : Nat} (hm : 1 ≤ m) (hm2 : m ≤ 1000) (a j : Nat) : FO l m a j (srt (rv (xv l m a j) l.length)) := by
  refine ⟨srt_srt _, fun x => ?_⟩
  rw [srt_mem (fun v hv => by
    obtain ⟨i, _, e⟩ := rv_mem.mp hv
    have := xv_lt (l := l) hm a j i
    omega), rv_mem]
  constructor
  · rintro ⟨i, hi, e⟩; exact ⟨i, hi, by rw [e]; exact xv_c hm a j i⟩
  · rintro ⟨i, hi, e⟩; exact ⟨i, hi, by rw [← xv_c hm a j i] at e; exact Int.ofNat.inj e⟩
theorem FO_len {l F : List Nat} {m a j : Nat} (hl : MOK l) (hm : 1 ≤ m) (hm2 : m ≤ 1000) (hg : Nat.gcd m a = 1) (hlow : Low l m) (hj : j < l.length) (h : FO l m a j F) : F.length = l.length ∧ F.getD 0 0 = 0 := by
  obtain ⟨s, _, s2⟩ := (CG_P (t := a) hl hm hm2 hg hlow (by omega)).2.2.2.2 j hj
  rw [h.uq s2]
  exact ⟨psl_len _ _, mr_gd _ (by omega)⟩
theorem FO_b {l F : List Nat} {m a j : Nat} (hm : 1 ≤ m) (h : FO l m a j F) : ∀ x, x ∈ F → x < m := fun x hx => by
  obtain ⟨k, _, e⟩ := (h.2 x).mp hx
  have := Int.emod_lt_of_pos ((a : Int) * (l.getD k 0 : Nat) - (a : Int) * (l.getD j 0 : Nat)) (show (0 : Int) < m by omega)
  omega
theorem c124_l {t : (Nat → List Nat) × Nat} {p : List ((Nat → List Nat) × Nat)} (ht : OKt t) {v a j : Nat} (to : Int32) (hv : v < 4) (ha1 : 1 ≤ a) (ha : a < t.2) (hg : Nat.gcd t.2 a = 1) (hlow : Low (t.1 v) t.2) (hj : j < (t.1 v).length) {F : List Nat} (hFl : F.length = (t.1 v).length) (hFb : ∀ x, x ∈ F → x ≤ 2000) (k86 : ST → Int32 → Int32 → Int32 → Int32 → Option (Int32 × ST)) (k98 : ST → Int32 → Int32 → Int32 → Int32 → Int32 → Option (Int32 × ST)) : ∀ (f k : Nat) (S : ST), RepM S t p → MW S (rv (xv (t.1 v) t.2 a j) k) → FI S F → k ≤ (t.1 v).length → (t.1 v).length < f + k → ∃ S' F' W, f_X9_canonical_124 k86 k98 f S (nI v) to (nI (t.1 v).length) (nI a) (nI j) (nI k) = k98 S' (nI v) to (nI (t.1 v).length) (nI a) (nI (j + 1)) ∧ FI S' F' ∧ FO (t.1 v) t.2 a j W ∧ (F' = W ∨ F' = F) ∧ ¬ LX (bF W) (bF F') (t.1 v).length ∧ ¬ LX (bF F) (bF F') (t.1 v).length ∧ FR [52] [32, 34] [] S S'
  | 0, k, S, _, _, _, _, h => absurd h (by omega)
  | f + 1, k, S, h, hw, hF, h1, h2 => by
    have hok := ht.1 v hv
    have h24 := hok.2.1
    have hm1 := ht.2.1
    have hm2 := ht.2.2
    unfold f_X9_canonical_124 f_X9_canonical_176
    by_cases hk : k = (t.1 v).length
    · rw [if_pos (nI_le (show (t.1 v).length ≤ k by omega) (by omega))]
      rw [hk] at hw
      have hb : ∀ x, x ∈ rv (xv (t.1 v) t.2 a j) (t.1 v).length → x ≤ 2000 := fun x hx => by
        obtain ⟨i, _, e⟩ := rv_mem.mp hx
        have := xv_lt (l := t.1 v) (show 1 ≤ t.2 by omega) a j i
        omega
      have hmm := hw.fin hb
      have hfo := xv_FO (l := t.1 v) (show 1 ≤ t.2 by omega) hm2 a j
      obtain ⟨wl, _⟩ := FO_len hok (show 1 ≤ t.2 by omega) hm2 hg hlow hj hfo
      generalize srt (rv (xv (t.1 v) t.2 a j) (t.1 v).length) = W at *
      obtain ⟨r, e, hr⟩ := ia_l hmm hF (by omega) (fun x hx => by have := FO_b (show 1 ≤ t.2 by omega) hfo x hx; omega) hFb FU 0 (fun p hp => absurd hp (by omega)) (by omega) (by unfold FU; omega)
      rw [wl] at hr
      rw [show f_X9_isAhead S = some (r, S) from e, oB_s]
      by_cases c : LX (bF W) (bF F) (t.1 v).length
      · rw [if_neg (fun z => (hr.z.mp z) c)]
        obtain ⟨S1, e1, q1, f1⟩ := kf_l FU 0 S hmm (fun j hj => absurd hj (by omega)) (by omega) (by unfold FU; omega)
        rw [show f_X9_keepsFirst S = some S1 from e1, oV_s, oL_s, nI_1]
        exact ⟨S1, W, W, rfl, q1, hfo, Or.inl rfl, LX.irr, fun q => LX.irr (c.tr q), f1.wk (by simp) (by simp) (by simp)⟩
      · rw [if_pos (hr.z.mpr c), oL_s, nI_1]
        exact ⟨S, F, W, rfl, hF, hfo, Or.inr rfl, c, LX.irr, FR.rf _ _ _ S⟩
    · have hk : k < (t.1 v).length := by omega
      have hx1 := hlow _ (gd_mem hk)
      have hx2 := hlow _ (gd_mem hj)
      have hmul1 : a * (t.1 v).getD k 0 ≤ 1000 * 1000 := Nat.mul_le_mul (by omega) (by omega)
      have hmul2 : a * (t.1 v).getD j 0 ≤ 1000 * 1000 := Nat.mul_le_mul (by omega) (by omega)
      have hxv := xv_lt (l := t.1 v) (show 1 ≤ t.2 by omega) a j k
      rw [if_neg (nI_ge hk (by omega)), X9_markAt h.1 hv hk, oB_s, X9_markAt h.1 hv hj, oB_s, pk_mul, pk_mul, X9_around ht h.1, oB_s, pk_sub_toInt (by omega) (by omega), Int.natCast_mul, Int.natCast_mul]
      rw [show (((a : Int) * ((t.1 v).getD k 0 : Nat) - (a : Int) * ((t.1 v).getD j 0 : Nat)) % (t.2 : Int)).toNat = xv (t.1 v) t.2 a j k from rfl]
      obtain ⟨S1, e1, w1, f1⟩ := hw.comes (fun x hx => by
        obtain ⟨i, _, e⟩ := rv_mem.mp hx
        have := xv_lt (l := t.1 v) (show 1 ≤ t.2 by omega) a j i
        omega) (by rw [rv_len]; omega) (v := xv (t.1 v) t.2 a j k) (by omega)
      rw [e1, oV_s, oL_s, nI_1]
      obtain ⟨S2, F2, W, e2, q2, r2, r3, r4, r5, f2⟩ := c124_l ht to hv ha1 ha hg hlow hj hFl hFb k86 k98 f (k + 1) S1 (h.fr f1 (by simp) (by simp) (by simp)) w1 (hF.fr f1 (by simp)) (by omega) (by omega)
      exact ⟨S2, F2, W, e2, q2, r2, r3, r4, r5, (f1.wk (by simp) (by simp) (by simp)).tr f2⟩
