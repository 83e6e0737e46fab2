theorem J_multiplicity {S : ST} (h : INV S) (a b : Int32) : ∃ S', g_multiplicity S a b = some S' ∧ INV S' := by
  obtain ⟨t, p, hc, hm, hu, ht, hp⟩ := h
  show ∃ S', gI (oY (f_X8_multiplicity S a b) [(1, 1), (2, 2)] kI) (fun S1 => f_X9_multiplicity S1 a b) = some S' ∧ INV S'
  rcases set_or a with hb | ⟨v, hv, rfl⟩
  · refine gI_thr (n := 1) (c := 1) (r := 0) (by decide) (by decide) rfl hm ht hp ⟨S, ?_, hc, hu, FC.rf S⟩ (fun S1 h1 => ⟨0, MO_thr h1 0 ?_⟩)
    · unfold f_X8_multiplicity f_X8_multiplicity_0
      rw [X8_needSet_n S hb, oX_n S _ _ (by decide)]
    · unfold f_X9_multiplicity f_X9_multiplicity_0 f_X9_multiplicity_28 f_X9_multiplicity_44
      rw [X9_isSet_n S1 hb, oB_s, if_pos rfl, X9_ref1, oB_s, if_neg (by decide)]
  · rcases rng_or b 1 2000 (by decide) (by decide) with hb | ⟨d, hd1, hd2, rfl⟩
    · refine gI_thr (n := 2) (c := 2) (r := 0) (by decide) (by decide) rfl hm ht hp ⟨S, ?_, hc, hu, FC.rf S⟩ (fun S1 h1 => ⟨0, MO_thr h1 0 ?_⟩)
      · unfold f_X8_multiplicity f_X8_multiplicity_0 f_X8_multiplicity_16
        rw [X8_needSet_y S hv, oX_0]
        exact cl_n (a := 1) (b := 2000) hb _ _
      · unfold f_X9_multiplicity f_X9_multiplicity_0 f_X9_multiplicity_28 f_X9_multiplicity_44
        rw [X9_isSet_y S1 hv, oB_s, if_neg (by decide), show f_X9_within S1 b 1 2000 = some (0, S1) from wi_n S1 hb, oB_s, if_pos rfl, X9_ref2, oB_s, if_neg (by decide)]
    · refine gI_ok [(1, 1), (2, 2)] (r := nI (prs (t.1 v) d (t.1 v).length)) hm ht hp ⟨S, ?_, hc, hu, FC.rf S⟩ (fun S1 h1 => MO_ok (FR.rf _ _ _ _) h1.r0 ?_)
      · unfold f_X8_multiplicity f_X8_multiplicity_0
        rw [X8_needSet_y S hv, oX_0]
        refine Eq.trans (cl_y (a := 1) (b := 2000) hd1 hd2 (by decide) _ _) ?_
        rw [oG_t (inB_n hv (by omega)), nI_clamp (by omega), (hc.ms hv).pairsApart (fun k hk => (ht.1 v hv).le hk) hd1 hd2, oB_s]
      · unfold f_X9_multiplicity f_X9_multiplicity_0 f_X9_multiplicity_28 f_X9_multiplicity_44
        rw [X9_isSet_y S1 hv, oB_s, if_neg (by decide), show f_X9_within S1 (nI d) 1 2000 = some (1, S1) from wi_y S1 hd1 hd2 (by decide), oB_s, if_neg (by decide), X9_refused0, oB_s, if_pos rfl, X9_pairs h1.r0.1 hv (ht.1 v hv) hd1 hd2, oB_s]
/-- the reference saves, then puts what is made in its place -/
theorem RepM.sv {S : ST} {t : (Nat → List Nat) × Nat} {p : List ((Nat → List Nat) × Nat)} (h : RepM S t p) : ∃ S1, f_X9_saves (sI S 51 0) = some S1 ∧ RepM S1 t (t :: p.take 3) ∧ FR [50, 52] AMo [] (sI S 51 0) S1 := by
  obtain ⟨S1, e1, m1, f1⟩ := h.r0.saves
  exact ⟨S1, e1, m1, f1.wk (by simp) (by simp [AMo]) (by simp)⟩
theorem MO_put {S S1 : ST} {t : (Nat → List Nat) × Nat} {p : List ((Nat → List Nat) × Nat)} {l : List Nat} {to : Nat} {b : Int32} (hr : RepM S1 t p) (hl : MM S1 l) (hto : to < 4) (hf : FR [50, 52] AMo [] (sI S 51 0) S1) (k : Int32 → ST → Option (Int32 × ST)) (hk : ∀ S2, RepM S2 (put4 t to l t.2) p → k (nI l.length) S2 = some (b, S2)) : MO (oB (f_X9_becomes S1 (nI to)) k) S 0 b (put4 t to l t.2) p := by
  obtain ⟨S2, e2, m2, q2, f2⟩ := hr.becomes hl hto
  rw [e2, oB_s]
  exact MO_ok (hf.tr (f2.wk (by simp) (by simp [AMo]) (by simp))) m2 (hk S2 m2)
theorem J_clear {S : ST} (h : INV S) (a : Int32) : ∃ S', g_clear S a = some S' ∧ INV S' := by
  obtain ⟨t, p, hc, hm, hu, ht, hp⟩ := h
  show ∃ S', gI (oY (f_X8_clear S a) [(1, 1)] kI) (fun S1 => f_X9_clear S1 a) = some S' ∧ INV S'
  rcases set_or a with hb | ⟨v, hv, rfl⟩
  · refine gI_thr (n := 1) (c := 1) (r := 0) (by decide) (by decide) rfl hm ht hp ⟨S, ?_, hc, hu, FC.rf S⟩ (fun S1 h1 => ⟨0, MO_thr h1 0 ?_⟩)
    · unfold f_X8_clear f_X8_clear_0
      rw [X8_needSet_n S hb, oX_n S _ _ (by decide)]
    · unfold f_X9_clear f_X9_clear_0 f_X9_clear_13
      rw [X9_isSet_n S1 hb, oB_s, if_pos rfl, X9_ref1, oB_s, if_neg (by decide)]
  · refine gI_ok [(1, 1)] (r := nI (t.1 v).length) (t' := put4 t v [] t.2) (p' := t :: p.take 3) hm (ht.put ⟨List.Pairwise.nil, by decide, fun x hx => absurd hx (by simp)⟩ ht.2.1 ht.2.2) (OKp.push ht hp) ?_ (fun S1 h1 => ?_)
    · unfold f_X8_clear f_X8_clear_0
      obtain ⟨S1, e1, m1, f1⟩ := MS.empty S 20
      have hc1 : RepC S1 t p := hc.fr f1 (by simp) (by simp)
      rw [X8_needSet_y S hv, oX_0, oG_t (inB_n hv (by omega)), nI_clamp (by omega), oL_s, e1, oV_s, (hc.ms hv).2.1, hc1.md]
      exact CO_rep hc1 (hu.fr f1 (by simp) (by simp) (by simp)) (FC.of f1 (by simp) (by simp)) m1 hv _ (fun S2 _ => rfl)
    · unfold f_X9_clear f_X9_clear_0 f_X9_clear_13
      obtain ⟨S2, e2, m2, f2⟩ := h1.sv
      obtain ⟨S3, e3, m3, f3⟩ := MM.begins S2
      rw [X9_isSet_y S1 hv, oB_s, if_neg (by decide), X9_refused0, oB_s, if_pos rfl, e2, oV_s, X9_many m2.1 hv, oB_s, e3, oV_s]
      exact MO_put (m2.fr f3 (by simp) (by simp) (by simp)) m3 hv (f2.tr (f3.wk (by simp) (by simp) (by simp))) _ (fun S4 _ => rfl)
theorem J_copy {S : ST} (h : INV S) (a b : Int32) : ∃ S', g_copy S a b = some S' ∧ INV S' := by
  obtain ⟨t, p, hc, hm, hu, ht, hp⟩ := h
  show ∃ S', gI (oY (f_X8_copy S a b) [(1, 1)] kI) (fun S1 => f_X9_copy S1 a b) = some S' ∧ INV S'
  rcases set_or a with hb | ⟨v, hv, rfl⟩
  · refine gI_thr (n := 1) (c := 1) (r := 0) (by decide) (by decide) rfl hm ht hp ⟨S, ?_, hc, hu, FC.rf S⟩ (fun S1 h1 => ⟨0, MO_thr h1 0 ?_⟩)
    · unfold f_X8_copy f_X8_copy_0
      rw [X8_needSet_n S hb, oX_n S _ _ (by decide)]
    · unfold f_X9_copy f_X9_copy_0 f_X9_copy_19 f_X9_copy_20
      rw [X9_isSet_n S1 hb, oB_s, if_pos rfl, X9_ref1, oB_s, if_neg (by decide)]
  · rcases set_or b with hb | ⟨w, hw, rfl⟩
    · refine gI_thr (n := 1) (c := 1) (r := 0) (by decide) (by decide) rfl hm ht hp ⟨S, ?_, hc, hu, FC.rf S⟩ (fun S1 h1 => ⟨0, MO_thr h1 0 ?_⟩)
      · unfold f_X8_copy f_X8_copy_0
        rw [X8_needSet_y S hv, oX_0, X8_needSet_n S hb, oX_n S _ _ (by decide)]
      · unfold f_X9_copy f_X9_copy_0 f_X9_copy_19 f_X9_copy_20
        rw [X9_isSet_y S1 hv, oB_s, if_neg (by decide), X9_isSet_n S1 hb, oB_s, if_pos rfl, X9_ref1, oB_s, if_neg (by decide)]
    · refine gI_ok [(1, 1)] (r := nI (t.1 v).length) (t' := put4 t w (t.1 v) t.2) (p' := t :: p.take 3) hm (ht.put (ht.1 v hv) ht.2.1 ht.2.2) (OKp.push ht hp) ?_ (fun S1 h1 => ?_)
      · unfold f_X8_copy f_X8_copy_0
        obtain ⟨S1, e1, m1, f1⟩ := X2_take S 20 v
        have hc1 : RepC S1 t p := hc.fr f1 (by simp) (by simp)
        rw [X8_needSet_y S hv, oX_0, X8_needSet_y S hw, oX_0, oG_t (inB_n hv (by omega)), nI_clamp (by omega), e1, oV_s, hc1.md]
        exact CO_rep hc1 (hu.fr f1 (by simp) (by simp) (by simp)) (FC.of f1 (by simp) (by simp)) (m1 _ (hc.ms hv)) hw _ (fun S2 q => by rw [q.2.1])
      · unfold f_X9_copy f_X9_copy_0 f_X9_copy_20
        obtain ⟨S2, e2, m2, f2⟩ := h1.sv
        obtain ⟨S3, e3, m3, f3⟩ := X9_takesAll hv (ht.1 v hv) m2.1
        rw [X9_isSet_y S1 hv, oB_s, if_neg (by decide), X9_isSet_y S1 hw, oB_s, if_neg (by decide), X9_refused0, oB_s, if_pos rfl, e2, oV_s, e3, oV_s]
        exact MO_put (m2.fr f3 (by simp) (by simp) (by simp)) m3 hw (f2.tr (f3.wk (by simp) (by simp [AMo]) (by simp))) _ (fun S4 _ => rfl)
theorem below_srt {x : Nat} (hx : x < 2 ^ 31) : ∀ (l : List Nat), Srt l → (∀ y, y ∈ l → y < 2 ^ 31) → below l (nI x) ≤ l.length ∧ (∀ j, j < below l (nI x) → l.getD j 0 < x) ∧ (∀ j, below l (nI x) ≤ j → j < l.length → x ≤ l.getD j 0)
  | [], _, _ => ⟨Nat.le_refl _, fun j hj => absurd hj (by simp [below]), fun j _ hj => absurd hj (by simp)⟩
  | y :: l, h, hb => by
    obtain ⟨h1, h2⟩ := List.pairwise_cons.mp h
    have hy := hb y List.mem_cons_self
    by_cases hc : y < x
    · have e : below (y :: l) (nI x) = below l (nI x) + 1 := by
        unfold below
        rw [List.filter_cons, if_pos (by simpa using nI_lt hc hx)]
        rfl
      obtain ⟨i1, i2, i3⟩ := below_srt hx l h2 (fun z hz => hb z (List.mem_cons_of_mem _ hz))
      rw [e]
      refine ⟨by rw [List.length_cons]; omega, fun j hj => ?_, fun j hj1 hj2 => ?_⟩
      · cases j with
        | zero => exact hc
        | succ j => rw [List.getD_cons_succ]; exact i2 j (by omega)
      · cases j with
        | zero => exact absurd hj1 (by omega)
        | succ j => rw [List.getD_cons_succ]; exact i3 j (by omega) (by rw [List.length_cons] at hj2; omega)
    · have e : below (y :: l) (nI x) = 0 := by
        unfold below
        rw [List.length_eq_zero_iff, List.filter_eq_nil_iff]
        intro z hz
        have hz2 : x ≤ z := by
          rcases List.mem_cons.mp hz with q | q
          · rw [q]; omega
          · have := h1 z q; omega
        simpa using nI_nlt hz2 (hb z hz)
      rw [e]
      refine ⟨by omega, fun j hj => absurd hj (by omega), fun j _ hj => ?_⟩
      cases j with
      | zero => show x ≤ y; omega
      | succ j =>
        rw [List.getD_cons_succ]
        have := h1 _ (gd_mem (l := l) (k := j) (by rw [List.length_cons] at hj; omega))
        omega
/-- the place of a number among the marks -/
theorem at_below {S : ST} {i : Nat} {l : List Nat} (hm : MS S i l) (hl : MOK l) {x : Nat} (hx : x < 2 ^ 31) : ∃ r, f_X2_at S i (nI (below l (nI x))) = some (r, S) ∧ (r = nI x ↔ x ∈ l) := by
  have h24 := hl.2.1
  obtain ⟨b1, b2, b3⟩ := below_srt hx l hl.1 (fun y hy => by have := hl.2.2 y hy; omega)
  have hin : x ∈ l ↔ ∃ j, j = below l (nI x) ∧ j < l.length ∧ l.getD j 0 = x := by
    constructor
    · intro h
      obtain ⟨k, hk, e⟩ := mem_gd h
      refine ⟨k, ?_, hk, e⟩
      by_cases h1 : k < below l (nI x)
      · have := b2 k h1; omega
      · by_cases h2 : k = below l (nI x)
        · exact h2
        · have h3 := b3 (below l (nI x)) (Nat.le_refl _) (by omega)
          have h4 := hl.1.lt (show below l (nI x) < k by omega) hk
          omega
    · rintro ⟨j, -, hj, e⟩
      rw [← e]; exact gd_mem hj
  by_cases hb : below l (nI x) < l.length
  · refine ⟨_, hm.at hb, ?_⟩
    have hle := hl.le hb
    rw [hin, nI_eq (by omega) hx]
    exact ⟨fun e => ⟨_, rfl, hb, e⟩, fun ⟨j, e1, _, e2⟩ => by rw [← e1]; exact e2⟩
  · refine ⟨_, hm.at_out (by omega) (by omega), ?_⟩
    rw [hin]
    exact ⟨fun e => absurd e.symm (nI_ne_m1 hx), fun ⟨j, e1, e2, _⟩ => absurd e2 (by omega)⟩
theorem J_add {S : ST} (h : INV S) (a b : Int32) : ∃ S', g_add S a b = some S' ∧ INV S' := by
  obtain ⟨t, p, hc, hm, hu, ht, hp⟩ := h
  show ∃ S', gI (oY (f_X8_add S a b) [(1, 1), (2, 2), (3, 3)] kI) (fun S1 => f_X9_add S1 a b) = some S' ∧ INV S'
  rcases set_or a with hb | ⟨v, hv, rfl⟩
  · refine gI_thr (n := 1) (c := 1) (r := 0) (by decide) (by decide) rfl hm ht hp ⟨S, ?_, hc, hu, FC.rf S⟩ (fun S1 h1 => ⟨0, MO_thr h1 0 ?_⟩)
    · unfold f_X8_add f_X8_add_0
      rw [X8_needSet_n S hb, oX_n S _ _ (by decide)]
    · unfold f_X9_add f_X9_add_0 f_X9_add_52
      rw [X9_isSet_n S1 hb, oB_s, if_pos rfl, X9_ref1, oB_s, if_neg (by decide)]
  · rcases rng_or b 0 2000 (by decide) (by decide) with hb | ⟨x, hx1, hx2, rfl⟩
    · refine gI_thr (n := 2) (c := 2) (r := 0) (by decide) (by decide) rfl hm ht hp ⟨S, ?_, hc, hu, FC.rf S⟩ (fun S1 h1 => ⟨0, MO_thr h1 0 ?_⟩)
      · unfold f_X8_add f_X8_add_0 f_X8_add_15
        rw [X8_needSet_y S hv, oX_0]
        exact cl_n (a := 0) (b := 2000) hb _ _
      · unfold f_X9_add f_X9_add_0 f_X9_add_52
        rw [X9_isSet_y S1 hv, oB_s, if_neg (by decide), show f_X9_within S1 b 0 2000 = some (0, S1) from wi_n S1 hb, oB_s, if_pos rfl, X9_ref2, oB_s, if_neg (by decide)]
    · have hok := ht.1 v hv
      have h24 := hok.2.1
      obtain ⟨b1, b2, b3⟩ := below_srt (x := x) (by omega) (t.1 v) hok.1 (fun y hy => by have := hok.2.2 y hy; omega)
      obtain ⟨r, er, hr⟩ := at_below (hc.ms hv) hok (x := x) (by omega)
      have ecl : ∀ (u w : Option (Nat × Int32 × ST)), (if nI x < 0 then u else if nI x ≤ 2000 then w else u) = w := fun u w => cl_y (a := 0) (b := 2000) hx1 hx2 (by decide) u w
      by_cases hin : x ∈ t.1 v
      · refine gI_thr (n := 3) (c := 3) (r := 0) (by decide) (by decide) rfl hm ht hp ⟨S, ?_, hc, hu, FC.rf S⟩ (fun S1 h1 => ⟨0, MO_thr h1 0 ?_⟩)
        · unfold f_X8_add f_X8_add_0
          rw [X8_needSet_y S hv, oX_0, ecl, oG_t (inB_n hv (by omega)), nI_clamp (by omega), (hc.ms hv).countBelow, oB_s, er, oB_s, if_pos (hr.mpr hin)]
        · obtain ⟨q, eq, hq⟩ := X9_numberN h1.1 hv hok.2.2 (x := x) (by omega)
          unfold f_X9_add f_X9_add_0 f_X9_add_47 f_X9_add_52
          rw [X9_isSet_y S1 hv, oB_s, if_neg (by decide), show f_X9_within S1 (nI x) 0 2000 = some (1, S1) from wi_y S1 hx1 hx2 (by decide), oB_s, if_neg (by decide), eq, oB_s, if_neg (fun e => (hq.mp e) hin), X9_ref3, oB_s, if_neg (by decide)]
      · by_cases hfull : (t.1 v).length = 24
        · refine gI_thr (n := 3) (c := 3) (r := 0) (by decide) (by decide) rfl hm ht hp ⟨S, ?_, hc, hu, FC.rf S⟩ (fun S1 h1 => ⟨0, MO_thr h1 0 ?_⟩)
          · unfold f_X8_add f_X8_add_0
            rw [X8_needSet_y S hv, oX_0, ecl, oG_t (inB_n hv (by omega)), nI_clamp (by omega), (hc.ms hv).countBelow, oB_s, er, oB_s, if_neg (fun e => hin (hr.mp e)), (hc.ms hv).2.1, hfull, if_neg (by decide)]
          · obtain ⟨q, eq, hq⟩ := X9_numberN h1.1 hv hok.2.2 (x := x) (by omega)
            unfold f_X9_add f_X9_add_0 f_X9_add_47 f_X9_add_52
            rw [X9_isSet_y S1 hv, oB_s, if_neg (by decide), show f_X9_within S1 (nI x) 0 2000 = some (1, S1) from wi_y S1 hx1 hx2 (by decide), oB_s, if_neg (by decide), eq, oB_s, if_pos (hq.mpr hin), X9_many h1.1 hv, oB_s, hfull, if_pos (by decide), X9_ref3, oB_s, if_neg (by decide)]
        · have hlt : (t.1 v).length < 24 := by omega
          obtain ⟨i1, i2⟩ := ins_ok (v := x) hok.1 b1 b2 (fun j h1 h2 => by
            have h3 := b3 j h1 h2
            have h4 := gd_mem h2
            by_cases e : (t.1 v).getD j 0 = x
            · rw [e] at h4; exact absurd h4 hin
            · omega)
          have hlen : ((t.1 v).take (below (t.1 v) (nI x)) ++ x :: (t.1 v).drop (below (t.1 v) (nI x))).length = (t.1 v).length + 1 := by
            rw [List.length_append, List.length_take, List.length_cons, List.length_drop]; omega
          have hget : ((t.1 v).take (below (t.1 v) (nI x)) ++ x :: (t.1 v).drop (below (t.1 v) (nI x))).getD (below (t.1 v) (nI x)) 0 = x := by
            have hta : ((t.1 v).take (below (t.1 v) (nI x))).length = below (t.1 v) (nI x) := by rw [List.length_take]; omega
            rw [List.getD_eq_getElem?_getD, List.getElem?_append_right (by omega), hta, Nat.sub_self]
            rfl
          have hnew : MOK ((t.1 v).take (below (t.1 v) (nI x)) ++ x :: (t.1 v).drop (below (t.1 v) (nI x))) := ⟨i1, by omega, fun y hy => by
            rcases (i2 y).mp hy with e | e
            · rw [e]; exact hx2
            · exact hok.2.2 y e⟩
          refine gI_ok [(1, 1), (2, 2), (3, 3)] (r := nI (below (t.1 v) (nI x))) (t' := put4 t v ((t.1 v).take (below (t.1 v) (nI x)) ++ x :: (t.1 v).drop (below (t.1 v) (nI x))) t.2) (p' := t :: p.take 3) hm (ht.put hnew ht.2.1 ht.2.2) (OKp.push ht hp) ?_ (fun S1 h1 => ?_)
          · unfold f_X8_add f_X8_add_0
            obtain ⟨S1, e1, m1, f1⟩ := MS.takeWith (i := 20) (v := x) (by omega) (hc.ms hv) b1 hlt
            have hc1 : RepC S1 t p := hc.fr f1 (by simp) (by simp)
            rw [X8_needSet_y S hv, oX_0, ecl, oG_t (inB_n hv (by omega)), nI_clamp (by omega), (hc.ms hv).countBelow, oB_s, er, oB_s, if_neg (fun e => hin (hr.mp e)), (hc.ms hv).2.1, if_pos (show nI (t.1 v).length < (24 : Int32) from nI_lt (b := 24) hlt (by decide)), e1, oV_s, hc1.md]
            exact CO_rep hc1 (hu.fr f1 (by simp) (by simp) (by simp)) (FC.of f1 (by simp) (by simp)) m1 hv _ (fun S2 _ => rfl)
          · obtain ⟨q, eq, hq⟩ := X9_numberN h1.1 hv hok.2.2 (x := x) (by omega)
            obtain ⟨S2, e2, m2, f2⟩ := h1.sv
            obtain ⟨S3, e3, m3, f3⟩ := X9_takesAll hv hok m2.1
            obtain ⟨S4, w, e4, m4, s4, q4, f4⟩ := m3.comes hok.1 (fun y hy => by have := hok.2.2 y hy; omega) (v := x) (by omega) (Or.inr hlt)
            have hw : w = (t.1 v).take (below (t.1 v) (nI x)) ++ x :: (t.1 v).drop (below (t.1 v) (nI x)) := srt_ext s4 i1 (fun y => by rw [q4 y, i2 y])
            rw [hw] at m4
            unfold f_X9_add f_X9_add_0 f_X9_add_52
            rw [X9_isSet_y S1 hv, oB_s, if_neg (by decide), show f_X9_within S1 (nI x) 0 2000 = some (1, S1) from wi_y S1 hx1 hx2 (by decide), oB_s, if_neg (by decide), eq, oB_s, if_pos (hq.mpr hin), X9_many h1.1 hv, oB_s, if_neg (show ¬ nI (t.1 v).length = (24 : Int32) from z_ne (b := 24) (by omega) (by decide) hfull), X9_refused0, oB_s, if_pos rfl, e2, oV_s, e3, oV_s, e4, oV_s]
            refine MO_put (m2.fr (f3.tr f4) (by simp) (by simp) (by simp)) m4 hv (f2.tr ((f3.tr f4).wk (by simp) (by simp [AMo]) (by simp))) _ (fun S5 h5 => ?_)
            have hp5 : (put4 t v ((t.1 v).take (below (t.1 v) (nI x)) ++ x :: (t.1 v).drop (below (t.1 v) (nI x))) t.2).1 v = (t.1 v).take (below (t.1 v) (nI x)) ++ x :: (t.1 v).drop (below (t.1 v) (nI x)) := if_pos rfl
            obtain ⟨z, ez, hz⟩ := X9_number h5.1 hv (nI x)
            rw [hp5] at hz
            rw [ez, oB_s]
            congr 2
            rcases hz with ⟨j, z1, z2, z3⟩ | ⟨z1, z2⟩
            · rw [z3]
              congr 1
              have hj2 := hnew.le z1
              have e5 := (nI_eq (by omega) (by omega)).mp z2
              by_cases h6 : j < below (t.1 v) (nI x)
              · have := hnew.1.lt h6 (by omega); omega
              · by_cases h7 : j = below (t.1 v) (nI x)
                · exact h7
                · have := hnew.1.lt (show below (t.1 v) (nI x) < j by omega) z1; omega
            · exact absurd (by rw [hget]) (z1 (below (t.1 v) (nI x)) (by omega))
