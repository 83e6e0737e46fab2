theorem X9_ref1 (S : ST) : f_X9_refused S 1 = some (1, sI S 51 (nI 1)) := X9_refusedk S (k := 1) (by decide) (by decide)
theorem X9_ref2 (S : ST) : f_X9_refused S 2 = some (1, sI S 51 (nI 2)) := X9_refusedk S (k := 2) (by decide) (by decide)
theorem X9_ref3 (S : ST) : f_X9_refused S 3 = some (1, sI S 51 (nI 3)) := X9_refusedk S (k := 3) (by decide) (by decide)
def AMo : List Nat := [30, 31, 32, 33, 34, 35]
theorem MO_ok {S S' : ST} {t : (Nat → List Nat) × Nat} {p : List ((Nat → List Nat) × Nat)} {b : Int32} {o : Option (Int32 × ST)} (h : FR [50, 52] AMo [] (sI S 51 0) S') (hr : RepM S' t p) (e : o = some (b, S')) : MO o S 0 b t p := by
  refine ⟨S', e, hr, (FM.of (FR.sI S 51 0) (by simp) (by simp)).tr (FM.of h (by simp) (by simp [AMo])), ?_⟩
  rw [h.1 51 (by decide), fi_sI_s]
  rfl
theorem RepM.r0 {S : ST} {t : (Nat → List Nat) × Nat} {p : List ((Nat → List Nat) × Nat)} (h : RepM S t p) : RepM (sI S 51 0) t p := h.fr (FR.sI S 51 0) (by simp) (by simp) (by simp)
theorem J_size {S : ST} (h : INV S) (a : Int32) : ∃ S', g_size S a = some S' ∧ INV S' := by
  obtain ⟨t, p, hc, hm, hu, ht, hp⟩ := h
  show ∃ S', gI (oY (f_X8_size S a) [(1, 1)] kI) (fun S1 => f_X9_size S1 a) = some S' ∧ INV S'
  rcases set_or a with hb | ⟨v, hv, rfl⟩
  · refine gI_thr (n := 1) (c := 1) (r := 0) (by decide) (by decide) rfl hm ht hp ⟨S, ?_, hc, hu, FC.rf S⟩ (fun S1 h1 => ⟨0, MO_thr h1 0 ?_⟩)
    · unfold f_X8_size f_X8_size_0
      rw [X8_needSet_n S hb, oX_n S _ _ (by decide)]
    · unfold f_X9_size f_X9_size_0 f_X9_size_13 f_X9_size_28
      rw [X9_isSet_n S1 hb, oB_s, if_pos rfl, X9_ref1, oB_s, if_neg (by decide)]
  · refine gI_ok [(1, 1)] (r := nI (t.1 v).length) hm ht hp ⟨S, ?_, hc, hu, FC.rf S⟩ (fun S1 h1 => MO_ok (FR.rf _ _ _ _) h1.r0 ?_)
    · unfold f_X8_size f_X8_size_0
      rw [X8_needSet_y S hv, oX_0, oG_t (inB_n hv (by omega)), nI_clamp (by omega), (hc.ms hv).2.1]
    · unfold f_X9_size f_X9_size_0 f_X9_size_13 f_X9_size_28
      rw [X9_isSet_y S1 hv, oB_s, if_neg (by decide), X9_refused0, oB_s, if_pos rfl, X9_many h1.r0.1 hv, oB_s]
theorem J_mark {S : ST} (h : INV S) (a b : Int32) : ∃ S', g_mark S a b = some S' ∧ INV S' := by
  obtain ⟨t, p, hc, hm, hu, ht, hp⟩ := h
  show ∃ S', gI (oY (f_X8_mark S a b) [(1, 1)] kI) (fun S1 => f_X9_mark S1 a b) = some S' ∧ INV S'
  rcases set_or a with hb | ⟨v, hv, rfl⟩
  · refine gI_thr (n := 1) (c := 1) (r := 0) (by decide) (by decide) rfl hm ht hp ⟨S, ?_, hc, hu, FC.rf S⟩ (fun S1 h1 => ⟨0, MO_thr h1 0 ?_⟩)
    · unfold f_X8_mark f_X8_mark_0
      rw [X8_needSet_n S hb, oX_n S _ _ (by decide)]
    · unfold f_X9_mark f_X9_mark_0 f_X9_mark_27 f_X9_mark_28 f_X9_mark_44
      rw [X9_isSet_n S1 hb, oB_s, if_pos rfl, X9_ref1, oB_s, if_neg (by decide)]
  · have h24 := (ht.1 v hv).2.1
    rcases pk_ix b (n := (t.1 v).length) (by omega) with hb | hb | ⟨k, hk, rfl⟩
    · refine gI_thr (n := 1) (c := 1) (r := 0) (by decide) (by decide) rfl hm ht hp ⟨S, ?_, hc, hu, FC.rf S⟩ (fun S1 h1 => ⟨0, MO_thr h1 0 ?_⟩)
      · unfold f_X8_mark f_X8_mark_0 f_X8_mark_24
        rw [X8_needSet_y S hv, oX_0, if_pos hb]
      · unfold f_X9_mark f_X9_mark_0 f_X9_mark_27 f_X9_mark_28 f_X9_mark_44
        rw [X9_isSet_y S1 hv, oB_s, if_neg (by decide), X9_many h1.1 hv, oB_s, X9_within, oB_s, if_pos hb, if_pos rfl, X9_ref1, oB_s, if_neg (by decide)]
    · have hlt : ¬ b < 0 := by
        rw [z_lt]; rw [z_le, nI_toInt (by omega)] at hb
        show ¬ b.toInt < 0
        omega
      refine gI_thr (n := 1) (c := 1) (r := 0) (by decide) (by decide) rfl hm ht hp ⟨S, ?_, hc, hu, FC.rf S⟩ (fun S1 h1 => ⟨0, MO_thr h1 0 ?_⟩)
      · unfold f_X8_mark f_X8_mark_0 f_X8_mark_24
        rw [X8_needSet_y S hv, oX_0, if_neg hlt, oG_t (inB_n hv (by omega)), nI_clamp (by omega), (hc.ms hv).2.1, if_neg (fun q => absurd hb (Int32.not_le.mpr q))]
      · unfold f_X9_mark f_X9_mark_0 f_X9_mark_27 f_X9_mark_28 f_X9_mark_44
        have hgt : nI (t.1 v).length - 1 < b := by
          rw [z_le, nI_toInt (by omega)] at hb
          rw [z_lt, show (1 : Int32) = nI 1 from rfl, pk_sub_toInt (by omega) (by omega)]
          omega
        rw [X9_isSet_y S1 hv, oB_s, if_neg (by decide), X9_many h1.1 hv, oB_s, X9_within, oB_s, if_neg hlt, if_pos hgt, if_pos rfl, X9_ref1, oB_s, if_neg (by decide)]
    · refine gI_ok [(1, 1)] (r := nI ((t.1 v).getD k 0)) hm ht hp ⟨S, ?_, hc, hu, FC.rf S⟩ (fun S1 h1 => MO_ok (FR.rf _ _ _ _) h1.r0 ?_)
      · unfold f_X8_mark f_X8_mark_0
        rw [X8_needSet_y S hv, oX_0, if_neg (nI_pos (by omega)), oG_t (inB_n hv (by omega)), nI_clamp (by omega), (hc.ms hv).2.1, if_pos (nI_lt hk (by omega)), oG_t (inB_n hv (by omega)), (hc.ms hv).at hk, oB_s]
      · unfold f_X9_mark f_X9_mark_0 f_X9_mark_28 f_X9_mark_44
        have hle : ¬ nI (t.1 v).length - 1 < nI k := by
          rw [show nI (t.1 v).length - (1 : Int32) = nI ((t.1 v).length - 1) from z_sub (b := 1) (by omega)]
          exact nI_nlt (by omega) (by omega)
        rw [X9_isSet_y S1 hv, oB_s, if_neg (by decide), X9_many h1.1 hv, oB_s, X9_within, oB_s, if_neg (nI_pos (by omega)), if_neg hle, if_neg (by decide), X9_refused0, oB_s, if_pos rfl, X9_markAt h1.r0.1 hv hk, oB_s]
theorem Srt.ends {l : List Nat} (h : Srt l) : l.getD 0 0 ≤ l.getD (l.length - 1) 0 := by
  by_cases h2 : 2 ≤ l.length
  · exact Nat.le_of_lt (h.lt (by omega) (by omega))
  · rw [show l.length - 1 = 0 by omega]; exact Nat.le_refl _
def spanOf (l : List Nat) : Nat := if l.length < 2 then 0 else l.getD (l.length - 1) 0 - l.getD 0 0
theorem J_length {S : ST} (h : INV S) (a : Int32) : ∃ S', g_length S a = some S' ∧ INV S' := by
  obtain ⟨t, p, hc, hm, hu, ht, hp⟩ := h
  show ∃ S', gI (oY (f_X8_length S a) [(1, 1)] kI) (fun S1 => f_X9_length S1 a) = some S' ∧ INV S'
  rcases set_or a with hb | ⟨v, hv, rfl⟩
  · refine gI_thr (n := 1) (c := 1) (r := 0) (by decide) (by decide) rfl hm ht hp ⟨S, ?_, hc, hu, FC.rf S⟩ (fun S1 h1 => ⟨0, MO_thr h1 0 ?_⟩)
    · unfold f_X8_length f_X8_length_0
      rw [X8_needSet_n S hb, oX_n S _ _ (by decide)]
    · unfold f_X9_length f_X9_length_0 f_X9_length_13 f_X9_length_28
      rw [X9_isSet_n S1 hb, oB_s, if_pos rfl, X9_ref1, oB_s, if_neg (by decide)]
  · have he := (ht.1 v hv).1.ends
    refine gI_ok [(1, 1)] (r := nI (spanOf (t.1 v))) hm ht hp ⟨S, ?_, hc, hu, FC.rf S⟩ (fun S1 h1 => MO_ok (FR.rf _ _ _ _) h1.r0 ?_)
    · unfold f_X8_length f_X8_length_0
      rw [X8_needSet_y S hv, oX_0, oG_t (inB_n hv (by omega)), nI_clamp (by omega), (hc.ms hv).span he, oB_s]
      rfl
    · unfold f_X9_length f_X9_length_0 f_X9_length_13 f_X9_length_28
      rw [X9_isSet_y S1 hv, oB_s, if_neg (by decide), X9_refused0, oB_s, if_pos rfl, X9_lengthOf h1.r0.1 hv he, oB_s]
      rfl
theorem pr18_l {S : ST} {t : (Nat → List Nat) × Nat} (h : blk (ai S 30) 0 t) {v : Nat} (hv : v < 4) (hok : MOK (t.1 v)) {d : Nat} (hd : 0 < d) (hd2 : d ≤ 2000) (k5 : ST → Int32 → Int32 → Int32 → Int32 → Option (Int32 × ST)) {a : Nat} (ha : a < (t.1 v).length) : ∀ (n j c : Nat), j ≤ a → a < n + j → f_X9_pairs_18 k5 n S (nI v) (nI d) (nI (c + pr1 (t.1 v) a d j)) (nI a) (nI j) = k5 S (nI v) (nI d) (nI (c + pr1 (t.1 v) a d a)) (nI (a + 1))
  | 0, j, c, h1, h2 => absurd h2 (by omega)
  | n + 1, j, c, h1, h2 => by
    have h24 := hok.2.1
    unfold f_X9_pairs_18 f_X9_pairs_50
    by_cases hj : j = a
    · rw [hj, if_pos (nI_le (Nat.le_refl _) (by omega)), oL_s, nI_1]
    · have hj : j < a := by omega
      have e : pr1 (t.1 v) a d (j + 1) = pr1 (t.1 v) a d j + if (t.1 v).getD a 0 = (t.1 v).getD j 0 + d then 1 else 0 := rfl
      have m1 := hok.le ha
      have m2 := hok.le (show j < (t.1 v).length by omega)
      have hq := z_subeq (a := (t.1 v).getD a 0) (b := (t.1 v).getD j 0) (d := d) (by omega) (by omega) (by omega) hd
      rw [if_neg (nI_ge hj (by omega)), X9_markAt h hv ha, oB_s, X9_markAt h hv (by omega), oB_s]
      by_cases hcc : (t.1 v).getD a 0 = (t.1 v).getD j 0 + d
      · rw [if_pos (hq.mpr hcc), oL_s, oL_s, nI_1, nI_1]
        rw [if_pos hcc] at e
        have := pr18_l h hv hok hd hd2 k5 ha n (j + 1) c (by omega) (by omega)
        rw [e, ← Nat.add_assoc] at this
        exact this
      · rw [if_neg (fun q => hcc (hq.mp q)), oL_s, oL_s, nI_1, show nI (c + pr1 (t.1 v) a d j) + 0 = nI (c + pr1 (t.1 v) a d j) from nI_add _ 0]
        rw [if_neg hcc, Nat.add_zero] at e
        have := pr18_l h hv hok hd hd2 k5 ha n (j + 1) c (by omega) (by omega)
        rw [e] at this
        exact this
theorem pr5_l {S : ST} {t : (Nat → List Nat) × Nat} (h : blk (ai S 30) 0 t) {v : Nat} (hv : v < 4) (hok : MOK (t.1 v)) {d : Nat} (hd : 0 < d) (hd2 : d ≤ 2000) : ∀ (n a : Nat), a ≤ (t.1 v).length → (t.1 v).length < n + a → f_X9_pairs_5 n S (nI v) (nI d) (nI (prs (t.1 v) d a)) (nI a) = some (nI (prs (t.1 v) d (t.1 v).length), S)
  | 0, a, h1, h2 => absurd h2 (by omega)
  | n + 1, a, h1, h2 => by
    have h24 := hok.2.1
    unfold f_X9_pairs_5
    rw [X9_many h hv, oB_s]
    by_cases hk : a = (t.1 v).length
    · rw [hk, if_pos (nI_le (Nat.le_refl _) (by omega))]
    · have hk : a < (t.1 v).length := by omega
      rw [if_neg (nI_ge hk (by omega))]
      have := pr18_l h hv hok hd hd2 (f_X9_pairs_5 n) hk FU 0 (prs (t.1 v) d a) (by omega) (by unfold FU; omega)
      refine Eq.trans this ?_
      exact pr5_l h hv hok hd hd2 n (a + 1) (by omega) (by omega)
theorem X9_pairs {S : ST} {t : (Nat → List Nat) × Nat} (h : blk (ai S 30) 0 t) {v : Nat} (hv : v < 4) (hok : MOK (t.1 v)) {d : Nat} (hd : 0 < d) (hd2 : d ≤ 2000) : f_X9_pairs S (nI v) (nI d) = some (nI (prs (t.1 v) d (t.1 v).length), S) := by
  have h24 := hok.2.1
  exact pr5_l h hv hok hd hd2 FU 0 (by omega) (by unfold FU; omega)
/-- a number from a to b, or not -/
theorem rng_or (x : Int32) (a b : Nat) (hab : a ≤ b) (hb : b < 2 ^ 31) : (x < nI a ∨ nI b < x) ∨ ∃ k, a ≤ k ∧ k ≤ b ∧ x = nI k := by
  by_cases h1 : x < nI a
  · exact Or.inl (Or.inl h1)
  · by_cases h2 : nI b < x
    · exact Or.inl (Or.inr h2)
    · have h0 : ¬ x < 0 := fun q => h1 (by rw [z_lt] at q ⊢; rw [nI_toInt (by omega)]; have : (0 : Int32).toInt = 0 := rfl; omega)
      obtain ⟨k, hk, e⟩ := z_of h0
      rw [e] at h1 h2
      exact Or.inr ⟨k, Nat.le_of_not_lt (fun q => h1 (nI_lt q (by omega))), Nat.le_of_not_lt (fun q => h2 (nI_lt q hk)), e⟩
theorem wi_n (S : ST) {x : Int32} {a b : Nat} (h : x < nI a ∨ nI b < x) : f_X9_within S x (nI a) (nI b) = some (0, S) := by
  rw [X9_within]
  rcases h with h | h
  · rw [if_pos h]
  · rw [if_pos h]
    split <;> rfl
theorem wi_y (S : ST) {k a b : Nat} (h1 : a ≤ k) (h2 : k ≤ b) (hb : b < 2 ^ 31) : f_X9_within S (nI k) (nI a) (nI b) = some (1, S) := by
  rw [X9_within, if_neg (nI_nlt h1 (by omega)), if_neg (nI_nlt h2 hb)]
theorem cl_n {α : Type} {x : Int32} {a b : Nat} (h : x < nI a ∨ nI b < x) (u v : α) : (if x < nI a then u else if x ≤ nI b then v else u) = u := by
  rcases h with h | h
  · rw [if_pos h]
  · rw [if_neg (show ¬ x ≤ nI b from Int32.not_le.mpr h)]
    split <;> rfl
theorem cl_y {α : Type} {k a b : Nat} (h1 : a ≤ k) (h2 : k ≤ b) (hb : b < 2 ^ 31) (u v : α) : (if nI k < nI a then u else if nI k ≤ nI b then v else u) = v := by
  rw [if_neg (nI_nlt h1 (by omega)), if_pos (nI_le h2 hb)]
