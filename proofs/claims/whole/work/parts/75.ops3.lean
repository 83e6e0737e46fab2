theorem J_remove {S : ST} (h : INV S) (a b : Int32) : ∃ S', g_remove S a b = some S' ∧ INV S' := by
  obtain ⟨t, p, hc, hm, hu, ht, hp⟩ := h
  show ∃ S', gI (oY (f_X8_remove S a b) [(1, 1), (3, 2)] kI) (fun S1 => f_X9_remove S1 a b) = some S' ∧ INV S'
  rcases set_or a with hb | ⟨v, hv, rfl⟩
  · refine gI_thr (n := 1) (c := 1) (r := 0) (by decide) (by decide) rfl hm ht hp ⟨S, ?_, hc, hu, FC.rf S⟩ (fun S1 h1 => ⟨0, MO_thr h1 0 ?_⟩)
    · unfold f_X8_remove f_X8_remove_0
      rw [X8_needSet_n S hb, oX_n S _ _ (by decide)]
    · unfold f_X9_remove f_X9_remove_0 f_X9_remove_27
      rw [X9_isSet_n S1 hb, oB_s, if_pos rfl, X9_ref1, oB_s, if_neg (by decide)]
  · have hok := ht.1 v hv
    have h24 := hok.2.1
    by_cases hneg : b < 0
    · refine gI_thr (n := 3) (c := 2) (r := 0) (by decide) (by decide) rfl hm ht hp ⟨S, ?_, hc, hu, FC.rf S⟩ (fun S1 h1 => ⟨0, MO_thr h1 0 ?_⟩)
      · unfold f_X8_remove f_X8_remove_0 f_X8_remove_31
        rw [X8_needSet_y S hv, oX_0, oG_t (inB_n hv (by omega)), if_pos hneg]
      · obtain ⟨q, eq, hq⟩ := X9_number h1.1 hv b
        have hq1 : q = -1 := by
          rcases hq with ⟨j, q1, q2, q3⟩ | ⟨q1, q2⟩
          · have := hok.le q1
            rw [← q2] at hneg
            exact absurd hneg (nI_pos (by omega))
          · exact q2
        unfold f_X9_remove f_X9_remove_0 f_X9_remove_27
        rw [X9_isSet_y S1 hv, oB_s, if_neg (by decide), eq, oB_s, if_pos hq1, X9_ref2, oB_s, if_neg (by decide)]
    · obtain ⟨x, hx, rfl⟩ := z_of hneg
      obtain ⟨r, er, hr⟩ := at_below (hc.ms hv) hok hx
      by_cases hin : x ∈ t.1 v
      · have hmem : ∀ y, y ∈ (t.1 v).filter (fun y => y != x) ↔ y ∈ t.1 v ∧ ¬ y = x := fun y => by
          rw [List.mem_filter]; simp
        have hnew : MOK ((t.1 v).filter (fun y => y != x)) := ⟨List.Pairwise.filter _ hok.1, Nat.le_trans (List.length_filter_le _ _) h24, fun y hy => hok.2.2 y ((hmem y).mp hy).1⟩
        refine gI_ok [(1, 1), (3, 2)] (r := nI ((t.1 v).filter (fun y => y != x)).length) (t' := put4 t v ((t.1 v).filter (fun y => y != x)) t.2) (p' := t :: p.take 3) hm (ht.put hnew ht.2.1 ht.2.2) (OKp.push ht hp) ?_ (fun S1 h1 => ?_)
        · unfold f_X8_remove f_X8_remove_0
          obtain ⟨S1, e1, m1, f1⟩ := MS.takeWithout (i := 20) (j := v) (v := x) (by omega) hx (fun y hy => by have := hok.2.2 y hy; omega) (hc.ms hv)
          have hc1 : RepC S1 t p := hc.fr f1 (by simp) (by simp)
          rw [X8_needSet_y S hv, oX_0, oG_t (inB_n hv (by omega)), if_neg hneg, nI_clamp (show v < 2 ^ 31 by omega), (hc.ms hv).countBelow, oB_s, er, oB_s, if_pos (hr.mpr hin), e1, oV_s, hc1.md]
          exact CO_rep hc1 (hu.fr f1 (by simp) (by simp) (by simp)) (FC.of f1 (by simp) (by simp)) m1 hv _ (fun S2 q => by rw [q.2.1])
        · obtain ⟨q, eq, hq⟩ := X9_numberN h1.1 hv hok.2.2 hx
          obtain ⟨S2, e2, m2, f2⟩ := h1.sv
          obtain ⟨S3, w, e3, m3, s3, q3, f3⟩ := X9_takes hv hok m2.1 (nI x)
          have hw : w = (t.1 v).filter (fun y => y != x) := srt_ext s3 hnew.1 (fun y => by
            rw [q3 y, hmem y]
            constructor
            · rintro ⟨z1, z2⟩; exact ⟨z1, fun e => z2 (by rw [e])⟩
            · rintro ⟨z1, z2⟩
              have := hok.2.2 y z1
              exact ⟨z1, z_ne (by omega) hx z2⟩)
          rw [hw] at m3
          unfold f_X9_remove f_X9_remove_0 f_X9_remove_27
          rw [X9_isSet_y S1 hv, oB_s, if_neg (by decide), eq, oB_s, if_neg (fun e => (hq.mp e) hin), X9_refused0, oB_s, if_pos rfl, e2, oV_s, e3, oV_s]
          exact MO_put (m2.fr f3 (by simp) (by simp) (by simp)) m3 hv (f2.tr (f3.wk (by simp) (by simp [AMo]) (by simp))) _ (fun S4 _ => rfl)
      · refine gI_thr (n := 3) (c := 2) (r := 0) (by decide) (by decide) rfl hm ht hp ⟨S, ?_, hc, hu, FC.rf S⟩ (fun S1 h1 => ⟨0, MO_thr h1 0 ?_⟩)
        · unfold f_X8_remove f_X8_remove_0 f_X8_remove_31
          rw [X8_needSet_y S hv, oX_0, oG_t (inB_n hv (by omega)), if_neg hneg, nI_clamp (show v < 2 ^ 31 by omega), (hc.ms hv).countBelow, oB_s, er, oB_s, if_neg (fun e => hin (hr.mp e))]
        · obtain ⟨q, eq, hq⟩ := X9_numberN h1.1 hv hok.2.2 hx
          unfold f_X9_remove f_X9_remove_0 f_X9_remove_27
          rw [X9_isSet_y S1 hv, oB_s, if_neg (by decide), eq, oB_s, if_pos (hq.mpr hin), X9_ref2, oB_s, if_neg (by decide)]
theorem RepC.mod {S : ST} {t : (Nat → List Nat) × Nat} {p : List ((Nat → List Nat) × Nat)} (h : RepC S t p) (m : Nat) : RepC (sI S (30 + 0) (nI m)) (t.1, m) p := by
  obtain ⟨h0, h1, h2, x, h3, h4, h5⟩ := h
  have f3 := FR.sI S (30 + 0) (nI m)
  refine ⟨⟨fun v hv => (h0.1 v hv).fr f3 (by simp <;> omega) (by simp), fi_sI_s _ _ _⟩, h1, by rw [f3.1 37 (by simp)]; exact h2, x, h3, by rw [f3.1 36 (by simp)]; exact h4, fun d hd => (h5 d hd).fr f3 (fun j hj => by rw [four_m] at hj; simp <;> omega) (by simp) (by simp <;> omega)⟩
theorem RepM.mod {S : ST} {t : (Nat → List Nat) × Nat} {p : List ((Nat → List Nat) × Nat)} (h : RepM S t p) (m : Nat) : RepM (sA S 30 (upd (ai S 30) 0 (nI m))) (t.1, m) p := by
  refine ⟨⟨by rw [ai_sA_s, pk_us], fun v hv => ?_⟩, h.2.1, h.2.2.1, fun d hd => by rw [ai_sA_n _ _ (by decide)]; exact h.2.2.2 d hd⟩
  obtain ⟨h1, h2, h3⟩ := h.1.2 v hv
  exact ⟨h1, by rw [ai_sA_s, pk_un (by omega)]; exact h2, fun k hk => by rw [ai_sA_s, pk_un (by omega)]; exact h3 k hk⟩
theorem J_setModulus {S : ST} (h : INV S) (a : Int32) : ∃ S', g_setModulus S a = some S' ∧ INV S' := by
  obtain ⟨t, p, hc, hm, hu, ht, hp⟩ := h
  show ∃ S', gI (oY (f_X8_setModulus S a) [(2, 1)] kI) (fun S1 => f_X9_setModulus S1 a) = some S' ∧ INV S'
  rcases rng_or a 2 1000 (by decide) (by decide) with hb | ⟨m, hm1, hm2, rfl⟩
  · refine gI_thr (n := 2) (c := 1) (r := 0) (by decide) (by decide) rfl hm ht hp ⟨S, ?_, hc, hu, FC.rf S⟩ (fun S1 h1 => ⟨0, MO_thr h1 0 ?_⟩)
    · exact cl_n (a := 2) (b := 1000) hb _ _
    · unfold f_X9_setModulus f_X9_setModulus_0 f_X9_setModulus_17
      rw [show f_X9_within S1 a 2 1000 = some (0, S1) from wi_n S1 hb, oB_s, if_pos rfl, X9_ref1, oB_s, if_neg (by decide)]
  · refine gI_ok [(2, 1)] (r := nI t.2) (t' := (t.1, m)) (p' := t :: p.take 3) hm ⟨ht.1, hm1, hm2⟩ (OKp.push ht hp) ?_ (fun S1 h1 => ?_)
    · unfold f_X8_setModulus f_X8_setModulus_0
      obtain ⟨S1, e1, c1, f1⟩ := hc.save
      rw [show (if nI m < 2 then f_X8_setModulus_12 S else if nI m ≤ 1000 then oL (fi S (30 + 0)) (fun v3 => oV (f_X6_save S 0) (fun S4 => oL (sI S4 (30 + 0) (nI m)) (fun S5 => some (0, v3, S5)))) else f_X8_setModulus_12 S) = _ from cl_y (a := 2) (b := 1000) hm1 hm2 (by decide) _ _, oL_s, e1, oV_s, oL_s, hc.md]
      refine ⟨_, rfl, c1.mod m, (hu.fr f1 (by simp [IU]) (by simp [IU]) (by simp [AU])).fr (FR.sI S1 (30 + 0) (nI m)) (by simp) (by simp) (by simp), (FC.of f1 (fun j hj => ?_) (fun j hj => ?_)).tr (FC.of (FR.sI S1 (30 + 0) (nI m)) (by simp) (by simp))⟩
      · rw [IU_i] at hj; omega
      · rw [AU_i] at hj; omega
    · unfold f_X9_setModulus f_X9_setModulus_0 f_X9_setModulus_17
      obtain ⟨S2, e2, m2, f2⟩ := h1.sv
      rw [show f_X9_within S1 (nI m) 2 1000 = some (1, S1) from wi_y S1 hm1 hm2 (by decide), oB_s, if_neg (by decide), X9_refused0, oB_s, if_pos rfl, e2, oV_s, X9_modulus m2.1, oB_s, oG_t (by decide), oL_s]
      exact MO_ok (f2.tr ((FR.sA S2 30 _).wk (by simp) (by simp [AMo]) (by simp))) (m2.mod m) rfl
theorem un33_l {s : Nat} (hs : s < 4) : ∀ (n k : Nat) (S : ST), fi S 50 = nI s → k ≤ 101 → 101 < n + k → ∃ S', f_X9_undo_33 n S (nI k) = some (nI s, S') ∧ (∀ j, k ≤ j → j < 101 → ai S' 30 j = ai S 31 (101 * s + j)) ∧ (∀ j, j < k → ai S' 30 j = ai S 30 j) ∧ FR [] [30] [] S S'
  | 0, k, S, _, _, h2 => absurd h2 (by omega)
  | n + 1, k, S, h, h1, h2 => by
    unfold f_X9_undo_33
    by_cases hk : k = 101
    · rw [hk, if_pos (by decide), h]
      exact ⟨S, rfl, fun j h3 h4 => absurd h3 (by omega), fun j _ => rfl, FR.rf _ _ _ S⟩
    · rw [if_neg (show ¬ (101 : Int32) ≤ nI k from nI_ge (b := 101) (by omega) (by decide)), h, show (101 : Int32) * nI s + nI k = nI (101 * s + k) by rw [show (101 : Int32) = nI 101 from rfl, pk_mul, nI_add], oG_t (inB_n (show 101 * s + k < 404 by omega) (by omega)), oG_t (inB_n (show k < 101 by omega) (by omega)), oL_s, oL_s, nI_1, nI_clamp (by omega), nI_clamp (by omega)]
      obtain ⟨S', e, g2, g3, g4⟩ := un33_l hs n (k + 1) (sA S 30 (upd (ai S 30) k (ai S 31 (101 * s + k)))) h (by omega) (by omega)
      refine ⟨S', e, fun j h3 h4 => ?_, fun j hj => ?_, (FR.sA S 30 _).tr g4⟩
      · by_cases e : j = k
        · rw [e, g3 _ (by omega), ai_sA_s, pk_us]
        · rw [g2 j (by omega) h4, ai_sA_n _ _ (by decide)]
      · rw [g3 j (by omega), ai_sA_s, pk_un (by omega)]
theorem J_undo {S : ST} (h : INV S) : ∃ S', g_undo S = some S' ∧ INV S' := by
  obtain ⟨t, p, hc, hm, hu, ht, hp⟩ := h
  show ∃ S', gI (oY (f_X8_undo S) [(3, 1)] kI) (fun S1 => f_X9_undo S1) = some S' ∧ INV S'
  have h37 := hc.2.2.1
  cases p with
  | nil =>
    refine gI_thr (n := 3) (c := 1) (r := 0) (by decide) (by decide) rfl hm ht hp ⟨S, ?_, hc, hu, FC.rf S⟩ (fun S1 h1 => ⟨0, MO_thr h1 0 ?_⟩)
    · unfold f_X8_undo f_X8_undo_0
      rw [h37, if_pos (by decide)]
    · unfold f_X9_undo f_X9_undo_0 f_X9_undo_13
      rw [h1.2.1, if_pos (by decide), X9_ref1, oB_s, if_neg (by decide)]
  | cons t' p =>
    have hlen : p.length < 4 := by have := hc.2.1; rw [List.length_cons] at this; omega
    refine gI_ok [(3, 1)] (r := nI p.length) (t' := t') (p' := p) hm (hp t' List.mem_cons_self) (fun q hq => hp q (List.mem_cons_of_mem _ hq)) ?_ (fun S1 h1 => ?_)
    · unfold f_X8_undo f_X8_undo_0
      obtain ⟨S1, e1, c1, f1⟩ := hc.restore
      rw [h37, List.length_cons, if_neg (nI_ne0 (by omega) (by omega)), e1, oV_s, c1.2.2.1]
      exact ⟨S1, rfl, c1, hu.fr f1 (by simp) (by simp) (by simp), FC.of f1 (by simp) (by simp)⟩
    · unfold f_X9_undo f_X9_undo_0 f_X9_undo_13
      have h50 := h1.2.1
      rw [List.length_cons] at h50
      have e50 : fi (sI S1 51 0) 50 = nI (p.length + 1) := by rw [fi_sI_n _ _ (by decide), h50]
      rw [h50, if_neg (nI_ne0 (by omega) (by omega)), X9_refused0, oB_s, if_pos rfl, oL_s, e50, show nI (p.length + 1) - (1 : Int32) = nI p.length from nI_pred _]
      obtain ⟨S2, e2, g2, g3, f2⟩ := un33_l hlen FU 0 (sI (sI S1 51 0) 50 (nI p.length)) (fi_sI_s _ _ _) (by omega) (by unfold FU; omega)
      refine MO_ok (((FR.sI (sI S1 51 0) 50 (nI p.length)).wk (by simp) (by simp) (by simp)).tr (f2.wk (by simp) (by simp [AMo]) (by simp))) ⟨?_, ?_, by omega, fun d hd => ?_⟩ e2
      · have q := h1.2.2.2 0 (by rw [List.length_cons]; omega)
        rw [List.getD_cons_zero, List.length_cons] at q
        refine q.cg (fun j hj => ?_)
        rw [Nat.zero_add, g2 j (by omega) hj, show p.length + 1 - 1 - 0 = p.length by omega]
        rfl
      · rw [f2.1 50 (by decide), fi_sI_s]
      · have q := h1.2.2.2 (d + 1) (by rw [List.length_cons]; omega)
        rw [List.getD_cons_succ, List.length_cons] at q
        refine q.cg (fun j hj => ?_)
        rw [f2.2.1 31 (by decide), show p.length + 1 - 1 - (d + 1) = p.length - 1 - d by omega]
        rfl
