theorem dv_l (S : ST) : ∀ (n a b : Nat), a < 2 ^ 31 → b < 2 ^ 31 → b < n → f_X9_divisor_4 n S (nI a) (nI b) = some (nI (Nat.gcd a b), S)
  | 0, a, b, _, _, h => absurd h (by omega)
  | n + 1, a, b, ha, hb, h => by
    unfold f_X9_divisor_4
    by_cases h0 : b = 0
    · rw [h0, if_pos (show nI 0 = 0 from rfl), Nat.gcd_zero_right]
    · have hm := Nat.mod_lt a (show 0 < b by omega)
      rw [if_neg (nI_ne0 (by omega) hb), oG_t (by unfold nz; exact decide_eq_true (nI_ne0 (by omega) hb)), pk_rem ha (by omega) hb, oL_s, dv_l S n b (a % b) hb (by omega) (by omega), Nat.gcd_comm a b, Nat.gcd_rec b a, Nat.gcd_comm (a % b)]
theorem X9_divisor (S : ST) {a b : Nat} (ha : a < 2 ^ 31) (hb : b ≤ 1000) : f_X9_divisor S (nI a) (nI b) = some (nI (Nat.gcd a b), S) := by
  unfold f_X9_divisor f_X9_divisor_0
  exact dv_l S FU a b ha (by omega) (by unfold FU; omega)
theorem lo_l {S : ST} {t : (Nat → List Nat) × Nat} (ht : OKt t) (h : blk (ai S 30) 0 t) {v a : Nat} (hv : v < 4) (hlow : Low (t.1 v) t.2) (ha : a ≤ 1000) {s : Nat} (hs : s ≤ 1000) : ∀ (n k : Nat) (r : Int32) (P : Prop), k ≤ (t.1 v).length → (t.1 v).length < n + k → BI r P → ∃ r', f_X9_liesOn_6 n S (nI v) (nI a) (nI s) r (nI k) = some (r', S) ∧ BI r' (P ∧ ∀ i, k ≤ i → i < (t.1 v).length → phi t.2 a s ((t.1 v).getD i 0) ∈ t.1 v)
  | 0, k, r, P, _, h, _ => absurd h (by omega)
  | n + 1, k, r, P, h1, h2, hr => by
    have hok := ht.1 v hv
    have h24 := hok.2.1
    have hm1 := ht.2.1
    have hm2 := ht.2.2
    unfold f_X9_liesOn_6 f_X9_liesOn_58 f_X9_liesOn_50
    rw [X9_many h hv, oB_s]
    by_cases hk : k = (t.1 v).length
    · rw [hk, if_pos (nI_le (Nat.le_refl _) (by omega)), oG_t hr.isB]
      exact ⟨r, rfl, hr.cg ⟨fun q => ⟨q, fun i i1 i2 => absurd i1 (by omega)⟩, fun q => q.1⟩⟩
    · have hk : k < (t.1 v).length := by omega
      rw [if_neg (nI_ge hk (by omega))]
      by_cases hz : r = 0
      · have := hr.z.mp hz
        rw [if_pos hz, oG_t hr.isB]
        exact ⟨r, rfl, hr.cg ⟨fun q => absurd q this, fun q => q.1⟩⟩
      · have hP : P := Classical.byContradiction (fun q => hz (hr.z.mpr q))
        have hy := hlow _ (gd_mem hk)
        have hmul := mul_b ha (show (t.1 v).getD k 0 ≤ 1000 by omega)
        have e : (nI (a * (t.1 v).getD k 0) - nI s).toInt = (a : Int) * (t.1 v).getD k 0 - (s : Nat) := by
          rw [pk_sub_toInt (by omega) (by omega), Int.natCast_mul]
        have hlt := phi_lt (m := t.2) (t := a) (by omega) s ((t.1 v).getD k 0)
        obtain ⟨q, eq, hq⟩ := X9_numberN h hv hok.2.2 (x := phi t.2 a s ((t.1 v).getD k 0)) (by omega)
        rw [if_neg hz, X9_markAt h hv hk, oB_s, pk_mul, X9_around ht h, oB_s, e, show (((a : Int) * (t.1 v).getD k 0 - (s : Nat)) % t.2).toNat = phi t.2 a s ((t.1 v).getD k 0) from rfl, eq, oB_s]
        have step : ∀ (r1 : Int32) (P1 : Prop), BI r1 P1 → (P1 ↔ P ∧ phi t.2 a s ((t.1 v).getD k 0) ∈ t.1 v) → ∃ r', oL (nI k + 1) (fun v1 => f_X9_liesOn_6 n S (nI v) (nI a) (nI s) r1 v1) = some (r', S) ∧ BI r' (P ∧ ∀ i, k ≤ i → i < (t.1 v).length → phi t.2 a s ((t.1 v).getD i 0) ∈ t.1 v) := fun r1 P1 hr1 e1 => by
          rw [oL_s, nI_1]
          obtain ⟨r', e, q⟩ := lo_l ht h hv hlow ha hs n (k + 1) r1 P1 (by omega) (by omega) hr1
          refine ⟨r', e, q.cg ⟨fun ⟨q1, q2⟩ => ⟨(e1.mp q1).1, fun i i1 i2 => ?_⟩, fun ⟨q1, q2⟩ => ⟨e1.mpr ⟨q1, q2 k (Nat.le_refl _) hk⟩, fun i i1 i2 => q2 i (by omega) i2⟩⟩⟩
          by_cases ei : i = k
          · rw [ei]; exact (e1.mp q1).2
          · exact q2 i (by omega) i2
        by_cases hin : phi t.2 a s ((t.1 v).getD k 0) ∈ t.1 v
        · rw [if_neg (fun z => (hq.mp z) hin)]
          exact step 1 True (BI.t trivial) ⟨fun _ => ⟨hP, hin⟩, fun _ => trivial⟩
        · rw [if_pos (hq.mpr hin)]
          exact step 0 False (BI.f (fun q => q)) ⟨fun q => absurd q (fun q => q), fun q => absurd q.2 hin⟩
theorem mu_l {S : ST} {t : (Nat → List Nat) × Nat} (ht : OKt t) (h : blk (ai S 30) 0 t) {v a : Nat} (hv : v < 4) (hlow : Low (t.1 v) t.2) (ha : a ≤ 1000) : ∀ (n k : Nat) (r : Int32) (P : Prop), k ≤ (t.1 v).length → (t.1 v).length < n + k → BI r P → ∃ r', f_X9_multiplies_17 n S (nI v) (nI a) r (nI k) = some (r', S) ∧ BI r' (P ∨ ∃ j, k ≤ j ∧ j < (t.1 v).length ∧ MPj (t.1 v) t.2 a j)
  | 0, k, r, P, _, h, _ => absurd h (by omega)
  | n + 1, k, r, P, h1, h2, hr => by
    have hok := ht.1 v hv
    have h24 := hok.2.1
    have hm1 := ht.2.1
    have hm2 := ht.2.2
    unfold f_X9_multiplies_17 f_X9_multiplies_64
    rw [X9_many h hv, oB_s]
    by_cases hk : k = (t.1 v).length
    · rw [hk, if_pos (nI_le (Nat.le_refl _) (by omega)), oG_t hr.isB]
      exact ⟨r, rfl, hr.cg ⟨fun q => Or.inl q, fun q => q.elim (fun q => q) (fun ⟨j, j1, j2, _⟩ => by omega)⟩⟩
    · have hk : k < (t.1 v).length := by omega
      rw [if_neg (nI_ge hk (by omega))]
      by_cases hz : r = 0
      · have hnP := hr.z.mp hz
        have hy0 := hlow _ (gd_mem (show 0 < (t.1 v).length by omega))
        have hyk := hlow _ (gd_mem hk)
        have hmul := mul_b ha (show (t.1 v).getD 0 0 ≤ 1000 by omega)
        have e : (nI (a * (t.1 v).getD 0 0) - nI ((t.1 v).getD k 0)).toInt = shS (t.1 v) a k := by
          rw [pk_sub_toInt (by omega) (by omega), Int.natCast_mul]
          rfl
        have hn := Int.emod_nonneg (shS (t.1 v) a k) (show (t.2 : Int) ≠ 0 by omega)
        have hlt := Int.emod_lt_of_pos (shS (t.1 v) a k) (show (0 : Int) < t.2 by omega)
        have hsn : (((shS (t.1 v) a k % t.2).toNat : Nat) : Int) = shS (t.1 v) a k % t.2 := Int.toNat_of_nonneg hn
        obtain ⟨r1, e1, hr1⟩ := lo_l ht h hv hlow ha (s := (shS (t.1 v) a k % t.2).toNat) (by omega) FU 0 1 True (by omega) (by unfold FU; omega) (BI.t trivial)
        rw [if_pos hz, show f_X9_markAt S (nI v) 0 = some (nI ((t.1 v).getD 0 0), S) from X9_markAt h hv (k := 0) (by omega), oB_s, X9_markAt h hv hk, oB_s, pk_mul, X9_around ht h, oB_s, e, show f_X9_liesOn S (nI v) (nI a) (nI (shS (t.1 v) a k % t.2).toNat) = some (r1, S) from e1, oB_s, oL_s, nI_1]
        have hr1' : BI r1 (MPj (t.1 v) t.2 a k) := hr1.cg ⟨fun q i hi => by
          have := q.2 i (by omega) hi
          rw [phi_m (by omega) hsn] at this
          exact this, fun q => ⟨trivial, fun i _ hi => by rw [phi_m (by omega) hsn]; exact q i hi⟩⟩
        obtain ⟨r2, e2, hr2⟩ := mu_l ht h hv hlow ha n (k + 1) r1 _ (by omega) (by omega) hr1'
        refine ⟨r2, e2, hr2.cg ⟨fun q => ?_, fun q => ?_⟩⟩
        · rcases q with q | ⟨j, j1, j2, j3⟩
          · exact Or.inr ⟨k, Nat.le_refl _, hk, q⟩
          · exact Or.inr ⟨j, by omega, j2, j3⟩
        · rcases q with q | ⟨j, j1, j2, j3⟩
          · exact absurd q hnP
          · by_cases ej : j = k
            · rw [ej] at j3; exact Or.inl j3
            · exact Or.inr ⟨j, by omega, j2, j3⟩
      · have hP : P := Classical.byContradiction (fun q => hz (hr.z.mpr q))
        rw [if_neg hz, oG_t hr.isB]
        exact ⟨r, rfl, hr.cg ⟨fun q => Or.inl q, fun _ => hP⟩⟩
theorem X9_multiplies {S : ST} {t : (Nat → List Nat) × Nat} (ht : OKt t) (h : blk (ai S 30) 0 t) {v a : Nat} (hv : v < 4) (hlow : Low (t.1 v) t.2) (ha : a ≤ 1000) : ∃ r, f_X9_multiplies S (nI v) (nI a) = some (r, S) ∧ BI r (MP (t.1 v) t.2 a) := by
  have h24 := (ht.1 v hv).2.1
  unfold f_X9_multiplies f_X9_multiplies_0 f_X9_multiplies_13
  rw [X9_many h hv, oB_s]
  have cg : ∀ r, BI r ((t.1 v).length = 0 ∨ ∃ j, 0 ≤ j ∧ j < (t.1 v).length ∧ MPj (t.1 v) t.2 a j) → BI r (MP (t.1 v) t.2 a) := fun r q => q.cg ⟨fun q => q.elim Or.inl (fun ⟨j, _, j1, j2⟩ => Or.inr ⟨j, j1, j2⟩), fun q => q.elim Or.inl (fun ⟨j, j1, j2⟩ => Or.inr ⟨j, by omega, j1, j2⟩)⟩
  by_cases h0 : (t.1 v).length = 0
  · rw [if_pos (by rw [h0]; rfl)]
    obtain ⟨r, e, hr⟩ := mu_l ht h hv hlow ha FU 0 1 ((t.1 v).length = 0) (by omega) (by unfold FU; omega) (BI.t h0)
    exact ⟨r, e, cg r hr⟩
  · rw [if_neg (nI_ne0 (by omega) (by omega))]
    obtain ⟨r, e, hr⟩ := mu_l ht h hv hlow ha FU 0 0 ((t.1 v).length = 0) (by omega) (by unfold FU; omega) (BI.f h0)
    exact ⟨r, e, cg r hr⟩
theorem mo_l {S : ST} {t : (Nat → List Nat) × Nat} (ht : OKt t) (h : blk (ai S 30) 0 t) {v : Nat} (hv : v < 4) (hlow : Low (t.1 v) t.2) : ∀ (n a : Nat), 1 ≤ a → a ≤ t.2 → t.2 < n + a → f_X9_multipliersOf_4 n S (nI v) (nI ((uTo t.2 a).filter (mpB (t.1 v) t.2)).length) (nI a) = some (nI (mulN (t.1 v) t.2), S)
  | 0, a, _, _, h => absurd h (by omega)
  | n + 1, a, a1, h1, h2 => by
    have hm2 := ht.2.2
    unfold f_X9_multipliersOf_4 f_X9_multipliersOf_38 f_X9_multipliersOf_39
    rw [X9_modulus h, oB_s]
    by_cases ha : a = t.2
    · rw [ha, if_pos (nI_le (Nat.le_refl _) (by omega))]
      rfl
    · have ih := mo_l ht h hv hlow n (a + 1) (by omega) (by omega) (by omega)
      rw [if_neg (nI_ge (show a < t.2 by omega) (by omega)), X9_modulus h, oB_s, X9_divisor S (by omega) hm2, oB_s]
      have hadd0 : ∀ x : Nat, nI x + 0 = nI x := fun x => nI_add x 0
      by_cases hg : Nat.gcd t.2 a = 1
      · obtain ⟨r, e, hr⟩ := X9_multiplies ht h hv hlow (show a ≤ 1000 by omega)
        rw [if_pos (by rw [Nat.gcd_comm, hg]; rfl), e, oB_s]
        rw [uTo_in hg, List.filter_append, List.length_append] at ih
        by_cases hmp : MP (t.1 v) t.2 a
        · have : [a].filter (mpB (t.1 v) t.2) = [a] := by simp [mpB_iff.mpr hmp]
          rw [this] at ih
          rw [if_neg (fun z => (hr.z.mp z) hmp), oL_s, oL_s, nI_1, nI_1]
          exact ih
        · have : [a].filter (mpB (t.1 v) t.2) = [] := by
            rw [List.filter_cons, if_neg (fun q => hmp (mpB_iff.mp q))]; rfl
          rw [this] at ih
          rw [if_pos (hr.z.mpr hmp), oL_s, oL_s, nI_1, hadd0]
          exact ih
      · have hgp : Nat.gcd a t.2 < 2 ^ 31 := by
          have := Nat.gcd_le_right a (show 0 < t.2 by omega)
          omega
        rw [if_neg (show ¬ nI (Nat.gcd a t.2) = (1 : Int32) from z_ne (b := 1) hgp (by decide) (fun q => hg (by rw [Nat.gcd_comm]; exact q))), oL_s, oL_s, nI_1, hadd0]
        rw [uTo_out hg] at ih
        exact ih
theorem X9_multipliersOf {S : ST} {t : (Nat → List Nat) × Nat} (ht : OKt t) (h : blk (ai S 30) 0 t) {v : Nat} (hv : v < 4) (hlow : Low (t.1 v) t.2) : f_X9_multipliersOf S (nI v) = some (nI (mulN (t.1 v) t.2), S) := by
  have := mo_l ht h hv hlow FU 1 (by omega) (by have := ht.2.1; omega) (by unfold FU; have := ht.2.2; omega)
  rw [uTo_1 ht.2.1] at this
  exact this
theorem J_multipliers {S : ST} (h : INV S) (a : Int32) : ∃ S', g_multipliers S a = some S' ∧ INV S' := by
  obtain ⟨t, p, hc, hm, hu, ht, hp⟩ := h
  show ∃ S', gI (oY (f_X8_multipliers S a) [(1, 1), (3, 2)] kI) (fun S1 => f_X9_multipliers S1 a) = some S' ∧ INV S'
  rcases set_or a with hb | ⟨v, hv, rfl⟩
  · refine gI_thr (n := 1) (c := 1) (r := 0) (by decide) (by decide) rfl hm ht hp ⟨S, ?_, hc, hu, FC.rf S⟩ (fun S1 h1 => ⟨0, MO_thr h1 0 ?_⟩)
    · unfold f_X8_multipliers f_X8_multipliers_0
      rw [X8_needSet_n S hb, oX_n S _ _ (by decide)]
    · unfold f_X9_multipliers f_X9_multipliers_0 f_X9_multipliers_21
      rw [X9_bar_n hb, oB_s, X9_ref1, oB_s, if_neg (by decide)]
  · by_cases hl : Low (t.1 v) t.2
    · obtain ⟨S1, e1, u1, f1⟩ := X8_countMultipliers hc hu ht hv hl
      refine gI_ok [(1, 1), (3, 2)] (r := nI (mulN (t.1 v) t.2)) (t' := t) (p' := p) hm ht hp ⟨S1, ?_, hc.fr f1 (by simp) (by simp), u1, FC.of f1 (by simp) (by simp)⟩ (fun S2 h2 => ?_)
      · unfold f_X8_multipliers f_X8_multipliers_0
        rw [X8_needSet_y S hv, oX_0, (X8_below hc ht hv).1 hl, oX_0, oG_t (inB_n hv (by omega)), nI_clamp (show v < 2 ^ 31 by omega), e1, oB_s]
      · refine MO_ok (FR.rf _ _ _ _) h2.r0 ?_
        unfold f_X9_multipliers f_X9_multipliers_0 f_X9_multipliers_21
        rw [(X9_bar ht h2.1 hv).1 hl, oB_s, X9_refused0, oB_s, if_pos rfl, X9_multipliersOf ht h2.r0.1 hv hl, oB_s]
    · refine gI_thr (n := 3) (c := 2) (r := 0) (by decide) (by decide) rfl hm ht hp ⟨S, ?_, hc, hu, FC.rf S⟩ (fun S1 h1 => ⟨0, MO_thr h1 0 ?_⟩)
      · unfold f_X8_multipliers f_X8_multipliers_0
        rw [X8_needSet_y S hv, oX_0, (X8_below hc ht hv).2 hl, oX_n S _ _ (by decide)]
      · unfold f_X9_multipliers f_X9_multipliers_0 f_X9_multipliers_21
        rw [(X9_bar ht h1.1 hv).2 hl, oB_s, X9_ref2, oB_s, if_neg (by decide)]
