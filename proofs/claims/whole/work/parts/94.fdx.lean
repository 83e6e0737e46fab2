theorem X8_quot (S : ST) {a b : Nat} (ha : a < 2 ^ 31) (h0 : 1 ≤ b) (hb : b < 2 ^ 31) : f_X8_quotient S (nI a) (nI b) = some (nI (a / b), S) := by
  unfold f_X8_quotient f_X8_quotient_0 f_X8_quotient_12
  rw [if_pos (show (1 : Int32) ≤ nI b from nI_le (a := 1) h0 hb), oG_t (by unfold nz; exact decide_eq_true (nI_ne0 (by omega) (by omega))), pk_div ha (by omega) hb]
theorem FDE_ok {S S0 : ST} {t : (Nat → List Nat) × Nat} {p : List ((Nat → List Nat) × Nat)} {v k to : Nat} {q : List Nat} {c : Int32} (hv1 : 3 ≤ v) (hv : v ≤ 31) (hk1 : 2 ≤ k) (hk : k ≤ 6) (hto : to < 4) (h : RepM S t p) (hp : PK S q) (hl : q.length = k - 1) (hg : GR (v - 1) 1 q) (hf : FR [50, 52] AMo [] (sI S0 51 0) S) : MO (FDE S v k to c) S0 0 c (put4 t to (0 :: q) v) (t :: p.take 3) := by
  obtain ⟨S1, e1, m1, f1⟩ := h.saves
  obtain ⟨S2, e2, m2, s2, f2⟩ := X9_makes (show v - 1 < 2 ^ 30 by omega) (hp.fr f1 (by simp)) hg (by omega)
  rw [hl] at e2
  have h2 : RepM S2 t (t :: p.take 3) := m1.fr f2 (by simp) (by simp) (by simp)
  obtain ⟨S3, e3, m3, _, f3⟩ := h2.becomes m2 hto
  unfold FDE
  rw [e1, oV_s, show nI k - (1 : Int32) = nI (k - 1) from z_sub (b := 1) (by omega), e2, oV_s, e3, oB_s, oG_t (by decide), oL_s]
  have h4 := m3.mod v
  refine MO_ok ((hf.tr ((f1.wk (by simp) (by simp [AMo]) (by simp)).tr ((f2.wk (by simp) (by simp [AMo]) (by simp)).tr (f3.wk (by simp) (by simp [AMo]) (by simp))))).tr ((FR.sA S3 30 (upd (ai S3 30) 0 (nI v))).wk (by simp) (by simp [AMo]) (by simp))) h4 rfl
theorem J_firstDifferenceSet {S : ST} (h : INV S) (a b c : Int32) : ∃ S', g_firstDifferenceSet S a b c = some S' ∧ INV S' := by
  obtain ⟨t, p, hc, hm, hu, ht, hp⟩ := h
  show ∃ S', gI (oY (f_X8_firstDifferenceSet S a b c) [(1, 1), (2, 2)] kI) (fun S1 => f_X9_firstDifferenceSet S1 a b c) = some S' ∧ INV S'
  rcases set_or c with hb | ⟨to, hto, rfl⟩
  · refine gI_thr (n := 1) (c := 1) (r := 0) (by decide) (by decide) rfl hm ht hp ⟨S, ?_, hc, hu, FC.rf S⟩ (fun S1 h1 => ⟨0, MO_thr h1 0 ?_⟩)
    · unfold f_X8_firstDifferenceSet f_X8_firstDifferenceSet_0
      rw [X8_needSet_n S hb, oX_n S _ _ (by decide)]
    · unfold f_X9_firstDifferenceSet f_X9_firstDifferenceSet_0 f_X9_firstDifferenceSet_42
      rw [X9_isSet_n S1 hb, oB_s, if_pos rfl, X9_ref1, oB_s, if_neg (by decide)]
  · rcases rng_or a 3 31 (by decide) (by decide) with hb | ⟨v, v1, v2, rfl⟩
    · refine gI_thr (n := 2) (c := 2) (r := 0) (by decide) (by decide) rfl hm ht hp ⟨S, ?_, hc, hu, FC.rf S⟩ (fun S1 h1 => ⟨0, MO_thr h1 0 ?_⟩)
      · unfold f_X8_firstDifferenceSet f_X8_firstDifferenceSet_0 f_X8_firstDifferenceSet_31
        rw [X8_needSet_y S hto, oX_0]
        rcases hb with hb | hb
        · rw [if_pos (show a < (3 : Int32) from hb)]
        · rw [if_pos (show (31 : Int32) < a from hb)]
          split <;> rfl
      · unfold f_X9_firstDifferenceSet f_X9_firstDifferenceSet_0 f_X9_firstDifferenceSet_41 f_X9_firstDifferenceSet_42
        rw [X9_isSet_y S1 hto, oB_s, if_neg (by decide), show f_X9_within S1 a 3 31 = some (0, S1) from wi_n S1 hb, oB_s, if_pos rfl, X9_ref2, oB_s, if_neg (by decide)]
    · have ev : ∀ (u w : Option (Nat × Int32 × ST)), (if nI v < 3 then u else if (31 : Int32) < nI v then u else w) = w := fun u w => by
        rw [if_neg (show ¬ nI v < (3 : Int32) from nI_nlt (b := 3) v1 (by omega)), if_neg (show ¬ (31 : Int32) < nI v from nI_nlt (a := 31) v2 (by decide))]
      rcases rng_or b 2 6 (by decide) (by decide) with hb | ⟨k, k1, k2, rfl⟩
      · refine gI_thr (n := 2) (c := 2) (r := 0) (by decide) (by decide) rfl hm ht hp ⟨S, ?_, hc, hu, FC.rf S⟩ (fun S1 h1 => ⟨0, MO_thr h1 0 ?_⟩)
        · unfold f_X8_firstDifferenceSet f_X8_firstDifferenceSet_0 f_X8_firstDifferenceSet_31
          rw [X8_needSet_y S hto, oX_0, ev]
          rcases hb with hb | hb
          · rw [if_pos (show b < (2 : Int32) from hb)]
          · rw [if_pos (show (6 : Int32) < b from hb)]
            split <;> rfl
        · unfold f_X9_firstDifferenceSet f_X9_firstDifferenceSet_0 f_X9_firstDifferenceSet_41 f_X9_firstDifferenceSet_42
          rw [X9_isSet_y S1 hto, oB_s, if_neg (by decide), show f_X9_within S1 (nI v) 3 31 = some (1, S1) from wi_y S1 v1 v2 (by decide), oB_s, if_neg (by decide), show f_X9_within S1 b 2 6 = some (0, S1) from wi_n S1 hb, oB_s, if_pos rfl, X9_ref2, oB_s, if_neg (by decide)]
      · have ek : ∀ (u w : Option (Nat × Int32 × ST)), (if nI k < 2 then u else if (6 : Int32) < nI k then u else w) = w := fun u w => by
          rw [if_neg (show ¬ nI k < (2 : Int32) from nI_nlt (b := 2) k1 (by omega)), if_neg (show ¬ (6 : Int32) < nI k from nI_nlt (a := 6) k2 (by decide))]
        have ew1 : ∀ S1, f_X9_within S1 (nI v) 3 31 = some (1, S1) := fun S1 => wi_y S1 v1 v2 (by decide)
        have ew2 : ∀ S1, f_X9_within S1 (nI k) 2 6 = some (1, S1) := fun S1 => wi_y S1 k1 k2 (by decide)
        by_cases hkv : k < v
        · have hmul : k * (k - 1) ≤ 6 * 6 := Nat.mul_le_mul k2 (by omega)
          have ev1 : nI v - (1 : Int32) = nI (v - 1) := z_sub (b := 1) (by omega)
          have ek1 : nI k - (1 : Int32) = nI (k - 1) := z_sub (b := 1) (by omega)
          have hnz : nz (nI (v - 1)) = true := by unfold nz; exact decide_eq_true (nI_ne0 (by omega) (by omega))
          have hmodlt := Nat.mod_lt (k * (k - 1)) (show 0 < v - 1 by omega)
          by_cases hdiv : k * (k - 1) % (v - 1) = 0
          · obtain ⟨fu, hfu, hR, hok⟩ := tabd (show v < 32 by omega) (show k < 7 by omega) v1 k1 hkv hdiv
            obtain ⟨b1, S1, e1, q1, f1⟩ := X8_makeDS (S := S) v1 v2 k1 k2 hkv
            have hc1 : RepC S1 t p := hc.fr f1 (by simp) (by simp)
            have hu1 : UN S1 := hu.fr f1 (by simp) (by simp) (by simp)
            have hf1 : FC S S1 := FC.of f1 (by simp) (by simp)
            have href : ∀ (S3 : ST), RepM S3 t p → ∃ S4 S5, FR [] [33, 35] [] (sI S3 51 0) S5 ∧ FR [] [33, 35] [] (sI S3 51 0) S4 ∧ f_X9_firstDifferenceSet S3 (nI v) (nI k) (nI to) = f_X9_firstDifferenceSet_80 FU S4 (nI v) (nI k) (nI to) 1 (-1) ∧ ((∃ q, dcl v k = some q ∧ f_X9_firstDifferenceSet_80 FU S4 (nI v) (nI k) (nI to) 1 (-1) = FDE S5 v k to (nI ((ofA v (0 :: q) (0 :: q) []).count 1)) ∧ PK S5 q ∧ q.length = k - 1 ∧ GR (v - 1) 1 q) ∨ (dcl v k = none ∧ f_X9_firstDifferenceSet_80 FU S4 (nI v) (nI k) (nI to) 1 (-1) = some (-1, S5))) := fun S3 h3 => by
              obtain ⟨S4, e4, p4, f4⟩ := X9_picksFirst (sI S3 51 0) (a := 1) (m := k - 1) (by omega)
              obtain ⟨S5, f5, q5⟩ := fd80_l (to := to) v1 v2 k1 k2 fu FU S4 (rg 1 (k - 1)) (dcl v k) (-1) hR (rg_len _ _) p4 (GR_rg _ 1 1 (Nat.le_refl _) (by omega)) (by unfold FU; omega)
              refine ⟨S4, S5, (f4.wk (by simp) (by simp) (by simp)).tr f5, f4.wk (by simp) (by simp) (by simp), ?_, q5⟩
              unfold f_X9_firstDifferenceSet f_X9_firstDifferenceSet_0 f_X9_firstDifferenceSet_42 f_X9_firstDifferenceSet_67
              rw [X9_isSet_y S3 hto, oB_s, if_neg (by decide), ew1, oB_s, if_neg (by decide), ew2, oB_s, if_neg (by decide), if_neg (nI_ge hkv (by omega)), X9_refused0, oB_s, if_pos rfl, ev1, oG_t hnz, ek1, pk_mul, pk_rem (by omega) (by omega) (by omega), hdiv, if_pos (show nI 0 = 0 from rfl), show f_X9_picksFirst (sI S3 51 0) (nI (k - 1)) 1 = some S4 from e4, oV_s]
            have hcls : f_X8_firstDifferenceSet S (nI v) (nI k) (nI to) = (if b1 = 0 then some (0, (-1), S1) else oV (f_X8_replace S1 (nI to) (nI v)) (fun (S17 : ST) => some (0, nI (k * (k - 1) / (v - 1)), S17))) := by
              unfold f_X8_firstDifferenceSet f_X8_firstDifferenceSet_0
              rw [X8_needSet_y S hto, oX_0, ev, ek, if_pos (nI_lt hkv (by omega)), oL_s, ek1, pk_mul, ev1, residue_n S (by omega) (by omega) (by omega), oB_s, hdiv, if_pos (show nI 0 = 0 from rfl), X8_quot S (by omega) (by omega) (by omega), oB_s, e1, oB_s]
            rcases q1 with ⟨q, d1, d2, d3⟩ | ⟨d1, d2⟩
            · obtain ⟨hq1, hq2⟩ := okD_s hok d1
              refine gI_ok [(1, 1), (2, 2)] (r := nI (k * (k - 1) / (v - 1))) (t' := put4 t to (0 :: q) v) (p' := t :: p.take 3) hm (ht.put hq1 (by omega) (by omega)) (OKp.push ht hp) ?_ (fun S3 h3 => ?_)
              · rw [hcls, d2, if_neg (by decide)]
                exact CO_rep hc1 hu1 hf1 d3 hto _ (fun S2 _ => rfl)
              · obtain ⟨S4, S5, f5, f4, e4, q4⟩ := href S3 h3
                rcases q4 with ⟨q', g1, g2, g3, g4, g5⟩ | ⟨g1, _⟩
                · have : q' = q := by rw [d1] at g1; exact (Option.some.inj g1).symm
                  rw [this] at g2 g3 g4 g5
                  rw [e4, g2, hq2]
                  exact FDE_ok v1 v2 k1 k2 hto (h3.r0.fr f5 (by simp) (by simp) (by simp)) g3 g4 g5 (f5.wk (by simp) (by simp [AMo]) (by simp))
                · rw [d1] at g1; exact absurd g1 (by simp)
            · refine gI_ok [(1, 1), (2, 2)] (r := -1) (t' := t) (p' := p) hm ht hp ⟨S1, by rw [hcls, d2, if_pos rfl], hc1, hu1, hf1⟩ (fun S3 h3 => ?_)
              obtain ⟨S4, S5, f5, f4, e4, q4⟩ := href S3 h3
              rcases q4 with ⟨q', g1, _⟩ | ⟨_, g2⟩
              · rw [d1] at g1; exact absurd g1 (by simp)
              · exact MO_ok (f5.wk (by simp) (by simp [AMo]) (by simp)) (h3.r0.fr f5 (by simp) (by simp) (by simp)) (by rw [e4, g2])
          · refine gI_ok [(1, 1), (2, 2)] (r := -1) (t' := t) (p' := p) hm ht hp ⟨S, ?_, hc, hu, FC.rf S⟩ (fun S3 h3 => ?_)
            · unfold f_X8_firstDifferenceSet f_X8_firstDifferenceSet_0
              rw [X8_needSet_y S hto, oX_0, ev, ek, if_pos (nI_lt hkv (by omega)), oL_s, ek1, pk_mul, ev1, residue_n S (by omega) (by omega) (by omega), oB_s, if_neg (nI_ne0 (by omega) (by omega))]
            · obtain ⟨S4, e4, p4, f4⟩ := X9_picksFirst (sI S3 51 0) (a := 1) (m := k - 1) (by omega)
              refine MO_ok (S' := S4) (f4.wk (by simp) (by simp [AMo]) (by simp)) (h3.r0.fr f4 (by simp) (by simp) (by simp)) ?_
              unfold f_X9_firstDifferenceSet f_X9_firstDifferenceSet_0 f_X9_firstDifferenceSet_42 f_X9_firstDifferenceSet_67
              rw [X9_isSet_y S3 hto, oB_s, if_neg (by decide), ew1, oB_s, if_neg (by decide), ew2, oB_s, if_neg (by decide), if_neg (nI_ge hkv (by omega)), X9_refused0, oB_s, if_pos rfl, ev1, oG_t hnz, ek1, pk_mul, pk_rem (by omega) (by omega) (by omega), if_neg (nI_ne0 (by omega) (by omega)), show f_X9_picksFirst (sI S3 51 0) (nI (k - 1)) 1 = some S4 from e4, oV_s]
              exact fd80_n S4 _ _ _ 999999
        · refine gI_thr (n := 2) (c := 2) (r := 0) (by decide) (by decide) rfl hm ht hp ⟨S, ?_, hc, hu, FC.rf S⟩ (fun S1 h1 => ⟨0, MO_thr h1 0 ?_⟩)
          · unfold f_X8_firstDifferenceSet f_X8_firstDifferenceSet_0 f_X8_firstDifferenceSet_31
            rw [X8_needSet_y S hto, oX_0, ev, ek, if_neg (nI_nlt (show v ≤ k by omega) (by omega))]
          · unfold f_X9_firstDifferenceSet f_X9_firstDifferenceSet_0 f_X9_firstDifferenceSet_41 f_X9_firstDifferenceSet_42
            rw [X9_isSet_y S1 hto, oB_s, if_neg (by decide), ew1, oB_s, if_neg (by decide), ew2, oB_s, if_neg (by decide), if_pos (nI_le (show v ≤ k by omega) (by omega)), X9_ref2, oB_s, if_neg (by decide)]
