/-- one set of a state anew -/
def put4 (t : (Nat → List Nat) × Nat) (to : Nat) (l : List Nat) (m : Nat) : (Nat → List Nat) × Nat := (fun v => if v = to then l else t.1 v, m)
theorem bc42_l {l : List Nat} {o : Nat} (ho : o + 25 ≤ 101) : ∀ (n k : Nat) (S : ST), MM S l → k ≤ l.length → l.length < n + k → ∃ S', f_X9_becomes_42 n S (nI o) (nI k) = some (nI l.length, S') ∧ (∀ j, k ≤ j → j < l.length → ai S' 30 (o + 1 + j) = nI (l.getD j 0)) ∧ (∀ j, j < o + 1 + k ∨ o + 25 ≤ j → ai S' 30 j = ai S 30 j) ∧ FR [] [30] [] S S'
  | 0, k, S, _, _, h2 => absurd h2 (by omega)
  | n + 1, k, S, h, h1, h2 => by
    have h24 := h.1
    unfold f_X9_becomes_42
    rw [h.2.1]
    by_cases hk : k = l.length
    · rw [hk, if_pos (nI_le (Nat.le_refl _) (by omega))]
      exact ⟨S, rfl, fun j h3 h4 => absurd h3 (by omega), fun j _ => rfl, FR.rf _ _ _ S⟩
    · have hk : k < l.length := by omega
      rw [if_neg (nI_ge hk (by omega)), oG_t (inB_n (show k < 24 by omega) (by omega)), nI_1, nI_add, oG_t (inB_n (show o + 1 + k < 101 by omega) (by omega)), oL_s, oL_s, nI_1, nI_clamp (by omega), nI_clamp (by omega), h.2.2 k hk]
      have f0 := FR.sA S 30 (upd (ai S 30) (o + 1 + k) (nI (l.getD k 0)))
      obtain ⟨S', e, g1, g2, g3⟩ := bc42_l ho n (k + 1) _ (h.fr f0 (by simp) (by simp)) (by omega) (by omega)
      refine ⟨S', e, fun j h3 h4 => ?_, fun j hj => ?_, f0.tr g3⟩
      · by_cases e : j = k
        · rw [e, g2 _ (by omega), ai_sA_s, pk_us]
        · exact g1 j (by omega) h4
      · rw [g2 j (by omega), ai_sA_s, pk_un (by omega)]
theorem bc9_l {l : List Nat} {o : Nat} (ho : o + 25 ≤ 101) : ∀ (n k : Nat) (S : ST), MM S l → k ≤ 25 → 25 < n + k → ∃ S', f_X9_becomes_9 n S (nI o) (nI k) = some (nI l.length, S') ∧ ai S' 30 o = nI l.length ∧ (∀ j, j < l.length → ai S' 30 (o + 1 + j) = nI (l.getD j 0)) ∧ (∀ j, j < o ∨ o + 25 ≤ j → ai S' 30 j = ai S 30 j) ∧ FR [] [30] [] S S'
  | 0, k, S, _, _, h2 => absurd h2 (by omega)
  | n + 1, k, S, h, h1, h2 => by
    have h24 := h.1
    unfold f_X9_becomes_9
    by_cases hk : k = 25
    · rw [hk, if_pos (by decide), oG_t (inB_n (show o < 101 by omega) (by omega)), oL_s, nI_clamp (by omega), h.2.1]
      have f0 := FR.sA S 30 (upd (ai S 30) o (nI l.length))
      obtain ⟨S', e, g1, g2, g3⟩ := bc42_l ho FU 0 _ (h.fr f0 (by simp) (by simp)) (by omega) (by unfold FU; omega)
      refine ⟨S', e, by rw [g2 o (by omega), ai_sA_s, pk_us], fun j hj => g1 j (by omega) hj, fun j hj => by rw [g2 j (by omega), ai_sA_s, pk_un (by omega)], f0.tr g3⟩
    · rw [if_neg (show ¬ (25 : Int32) ≤ nI k from nI_ge (b := 25) (by omega) (by decide)), nI_add, oG_t (inB_n (show o + k < 101 by omega) (by omega)), oL_s, oL_s, nI_1, nI_clamp (by omega)]
      have f0 := FR.sA S 30 (upd (ai S 30) (o + k) 0)
      obtain ⟨S', e, g0, g1, g2, g3⟩ := bc9_l ho n (k + 1) _ (h.fr f0 (by simp) (by simp)) (by omega) (by omega)
      exact ⟨S', e, g0, g1, fun j hj => by rw [g2 j hj, ai_sA_s, pk_un (by omega)], f0.tr g3⟩
theorem RepM.becomes {S : ST} {t : (Nat → List Nat) × Nat} {p : List ((Nat → List Nat) × Nat)} (h : RepM S t p) {l : List Nat} (hl : MM S l) {to : Nat} (ht : to < 4) : ∃ S', f_X9_becomes S (nI to) = some (nI l.length, S') ∧ RepM S' (put4 t to l t.2) p ∧ MM S' l ∧ FR [] [30] [] S S' := by
  unfold f_X9_becomes f_X9_becomes_0
  rw [oL_s, show (1 : Int32) + (25 : Int32) * nI to = nI (1 + 25 * to) by rw [show (25 : Int32) = nI 25 from rfl, pk_mul, show (1 : Int32) = nI 1 from rfl, nI_add]]
  obtain ⟨S', e, g0, g1, g2, g3⟩ := bc9_l (o := 1 + 25 * to) (by omega) FU 0 S hl (by omega) (by unfold FU; omega)
  refine ⟨S', e, ⟨⟨?_, fun v hv => ?_⟩, ?_, h.2.2.1, fun d hd => ?_⟩, hl.fr g3 (by simp) (by simp), g3⟩
  · rw [g2 0 (by omega)]; exact h.1.1
  · obtain ⟨h1, h2, h3⟩ := h.1.2 v hv
    show (if v = to then l else t.1 v).length ≤ 24 ∧ _
    by_cases e : v = to
    · rw [show (put4 t to l t.2).1 v = l from if_pos e, if_pos e, e]
      exact ⟨hl.1, by rw [Nat.zero_add]; exact g0, fun k hk => by rw [show 0 + 2 + 25 * to + k = 1 + 25 * to + 1 + k by omega]; exact g1 k hk⟩
    · rw [show (put4 t to l t.2).1 v = t.1 v from if_neg e, if_neg e]
      exact ⟨h1, by rw [g2 _ (by omega)]; exact h2, fun k hk => by rw [g2 _ (by omega)]; exact h3 k hk⟩
  · rw [g3.1 50 (by decide)]; exact h.2.1
  · rw [g3.2.1 31 (by decide)]; exact h.2.2.2 d hd
theorem X9_lengthOf {S : ST} {t : (Nat → List Nat) × Nat} (h : blk (ai S 30) 0 t) {v : Nat} (hv : v < 4) (hs : (t.1 v).getD 0 0 ≤ (t.1 v).getD ((t.1 v).length - 1) 0) : f_X9_lengthOf S (nI v) = some (nI (if (t.1 v).length < 2 then 0 else (t.1 v).getD ((t.1 v).length - 1) 0 - (t.1 v).getD 0 0), S) := by
  have h24 := (h.2 v hv).1
  unfold f_X9_lengthOf f_X9_lengthOf_0 f_X9_lengthOf_32
  rw [X9_many h hv, oB_s]
  by_cases h2 : (t.1 v).length < 2
  · rw [if_neg (show ¬ (2 : Int32) ≤ nI (t.1 v).length from nI_ge (b := 2) h2 (by decide)), if_pos h2]
    rfl
  · rw [if_pos (show (2 : Int32) ≤ nI (t.1 v).length from nI_le (a := 2) (Nat.le_of_not_lt h2) (by omega)), if_neg h2, X9_many h hv, oB_s, show nI (t.1 v).length - (1 : Int32) = nI ((t.1 v).length - 1) from z_sub (b := 1) (by omega), X9_markAt h hv (by omega), oB_s, show f_X9_markAt S (nI v) 0 = some (nI ((t.1 v).getD 0 0), S) from X9_markAt h hv (k := 0) (by omega), oB_s, z_sub hs]
/-- where a mark stands -/
theorem nb_l {S : ST} {t : (Nat → List Nat) × Nat} (h : blk (ai S 30) 0 t) {v : Nat} (hv : v < 4) (a : Int32) : ∀ (n k : Nat) (r : Int32), k ≤ (t.1 v).length → (t.1 v).length < n + k → ∃ r', f_X9_numberOf_5 n S (nI v) a r (nI k) = some (r', S) ∧ ((∃ j, k ≤ j ∧ j < (t.1 v).length ∧ nI ((t.1 v).getD j 0) = a ∧ r' = nI j) ∨ ((∀ j, k ≤ j → j < (t.1 v).length → ¬ nI ((t.1 v).getD j 0) = a) ∧ r' = r))
  | 0, k, r, _, h2 => absurd h2 (by omega)
  | n + 1, k, r, h1, h2 => by
    have h24 := (h.2 v hv).1
    unfold f_X9_numberOf_5 f_X9_numberOf_32
    rw [X9_many h hv, oB_s]
    by_cases hk : k = (t.1 v).length
    · rw [hk, if_pos (nI_le (Nat.le_refl _) (by omega))]
      exact ⟨r, rfl, Or.inr ⟨fun j h3 h4 => absurd h3 (by omega), rfl⟩⟩
    · have hk : k < (t.1 v).length := by omega
      rw [if_neg (nI_ge hk (by omega)), X9_markAt h hv hk, oB_s]
      by_cases hc : nI ((t.1 v).getD k 0) = a
      · rw [if_pos hc, oL_s, nI_1]
        obtain ⟨r', e, q⟩ := nb_l h hv a n (k + 1) (nI k) (by omega) (by omega)
        refine ⟨r', e, Or.inl ?_⟩
        rcases q with ⟨j, q1, q2, q3, q4⟩ | ⟨q1, q2⟩
        · exact ⟨j, by omega, q2, q3, q4⟩
        · exact ⟨k, Nat.le_refl _, hk, hc, q2⟩
      · rw [if_neg hc, oL_s, nI_1]
        obtain ⟨r', e, q⟩ := nb_l h hv a n (k + 1) r (by omega) (by omega)
        refine ⟨r', e, ?_⟩
        rcases q with ⟨j, q1, q2, q3, q4⟩ | ⟨q1, q2⟩
        · exact Or.inl ⟨j, by omega, q2, q3, q4⟩
        · refine Or.inr ⟨fun j h3 h4 => ?_, q2⟩
          by_cases e : j = k
          · rw [e]; exact hc
          · exact q1 j (by omega) h4
theorem X9_number {S : ST} {t : (Nat → List Nat) × Nat} (h : blk (ai S 30) 0 t) {v : Nat} (hv : v < 4) (a : Int32) : ∃ r, f_X9_numberOf S (nI v) a = some (r, S) ∧ ((∃ j, j < (t.1 v).length ∧ nI ((t.1 v).getD j 0) = a ∧ r = nI j) ∨ ((∀ j, j < (t.1 v).length → ¬ nI ((t.1 v).getD j 0) = a) ∧ r = -1)) := by
  have h24 := (h.2 v hv).1
  obtain ⟨r, e, q⟩ := nb_l h hv a FU 0 (-1) (by omega) (by unfold FU; omega)
  refine ⟨r, e, ?_⟩
  rcases q with ⟨j, q1, q2, q3, q4⟩ | ⟨q1, q2⟩
  · exact Or.inl ⟨j, q2, q3, q4⟩
  · exact Or.inr ⟨fun j hj => q1 j (by omega) hj, q2⟩
/-- for a number: it is a mark, at its place; or there is none -/
theorem X9_numberN {S : ST} {t : (Nat → List Nat) × Nat} (h : blk (ai S 30) 0 t) {v : Nat} (hv : v < 4) (hb : ∀ x, x ∈ t.1 v → x ≤ 2000) {x : Nat} (hx : x < 2 ^ 31) : ∃ r, f_X9_numberOf S (nI v) (nI x) = some (r, S) ∧ (r = -1 ↔ x ∉ t.1 v) := by
  have h24 := (h.2 v hv).1
  obtain ⟨r, e, q⟩ := X9_number h hv (nI x)
  refine ⟨r, e, ?_⟩
  rcases q with ⟨j, q1, q2, q3⟩ | ⟨q1, q2⟩
  · have hm := gd_mem q1
    have hj := hb _ hm
    have : (t.1 v).getD j 0 = x := (nI_eq (by omega) hx).mp q2
    rw [this] at hm
    rw [q3]
    constructor
    · intro e
      have := congrArg Int32.toInt e
      rw [nI_toInt (by omega), show (-1 : Int32).toInt = -1 from rfl] at this
      omega
    · intro e; exact absurd hm e
  · rw [q2]
    refine ⟨fun _ hm => ?_, fun _ => rfl⟩
    obtain ⟨j, hj, e⟩ := mem_gd hm
    exact q1 j hj (by rw [e])
theorem tk_l {S0 : ST} {t : (Nat → List Nat) × Nat} {v : Nat} (hv : v < 4) (hok : MOK (t.1 v)) (a : Int32) : ∀ (n k : Nat) (S : ST) (w : List Nat), blk (ai S 30) 0 t → MM S w → Srt w → (∀ x, x ∈ w ↔ x ∈ (t.1 v).take k ∧ ¬ nI x = a) → w.length ≤ k → k ≤ (t.1 v).length → (t.1 v).length < n + k → ∃ S' w', f_X9_takes_6 n S (nI v) a (nI k) = some S' ∧ MM S' w' ∧ Srt w' ∧ (∀ x, x ∈ w' ↔ x ∈ t.1 v ∧ ¬ nI x = a) ∧ FR [52] [32] [] S S'
  | 0, k, S, w, _, _, _, _, _, _, h2 => absurd h2 (by omega)
  | n + 1, k, S, w, h, hm, hs, hw, hlen, h1, h2 => by
    have h24 := hok.2.1
    unfold f_X9_takes_6 f_X9_takes_35
    rw [X9_many h hv, oB_s]
    by_cases hk : k = (t.1 v).length
    · rw [hk, if_pos (nI_le (Nat.le_refl _) (by omega))]
      rw [hk, List.take_length] at hw
      exact ⟨S, w, rfl, hm, hs, hw, FR.rf _ _ _ S⟩
    · have hk : k < (t.1 v).length := by omega
      rw [if_neg (nI_ge hk (by omega)), X9_markAt h hv hk, oB_s]
      have hts : ∀ x, x ∈ (t.1 v).take (k + 1) ↔ x ∈ (t.1 v).take k ∨ x = (t.1 v).getD k 0 := fun x => by
        rw [tk_succ hk, List.mem_append, List.mem_singleton]
      by_cases hc : nI ((t.1 v).getD k 0) = a
      · rw [if_pos hc, oL_s, nI_1]
        refine tk_l (S0 := S0) hv hok a n (k + 1) S w h hm hs (fun x => ?_) (by omega) (by omega) (by omega)
        rw [hw x, hts x]
        constructor
        · rintro ⟨q1, q2⟩; exact ⟨Or.inl q1, q2⟩
        · rintro ⟨q1 | q1, q2⟩
          · exact ⟨q1, q2⟩
          · rw [q1] at q2; exact absurd hc q2
      · rw [if_neg hc, X9_markAt h hv hk, oB_s]
        have hx := hok.le hk
        obtain ⟨S1, w1, e1, m1, s1, q1, f1⟩ := hm.comes hs (fun x hx => by have := hok.2.2 x (List.mem_of_mem_take ((hw x).mp hx).1); omega) (v := (t.1 v).getD k 0) (by omega) (Or.inr (by omega))
        rw [e1, oV_s, oL_s, nI_1]
        have hw1 : w1.length ≤ k + 1 := by
          have : w1.length ≤ ((t.1 v).getD k 0 :: w).length := List.Nodup.length_le_of_subset s1.nd (fun x hx => by
            rcases (q1 x).mp hx with q | q
            · rw [q]; exact List.mem_cons_self
            · exact List.mem_cons_of_mem _ q)
          rw [List.length_cons] at this
          omega
        obtain ⟨S2, w2, e2, m2, s2, q2, f2⟩ := tk_l (S0 := S0) hv hok a n (k + 1) S1 w1 (by rw [f1.2.1 30 (by decide)]; exact h) m1 s1 (fun x => by
          rw [q1 x, hw x, hts x]
          constructor
          · rintro (q | ⟨q, q'⟩)
            · rw [q]; exact ⟨Or.inr rfl, hc⟩
            · exact ⟨Or.inl q, q'⟩
          · rintro ⟨q | q, q'⟩
            · exact Or.inr ⟨q, q'⟩
            · exact Or.inl q) hw1 (by omega) (by omega)
        exact ⟨S2, w2, e2, m2, s2, q2, f1.tr f2⟩
theorem X9_takes {S : ST} {t : (Nat → List Nat) × Nat} {v : Nat} (hv : v < 4) (hok : MOK (t.1 v)) (h : blk (ai S 30) 0 t) (a : Int32) : ∃ S' w', f_X9_takes S (nI v) a = some S' ∧ MM S' w' ∧ Srt w' ∧ (∀ x, x ∈ w' ↔ x ∈ t.1 v ∧ ¬ nI x = a) ∧ FR [52] [32] [] S S' := by
  have h24 := hok.2.1
  obtain ⟨S1, e1, m1, f1⟩ := MM.begins S
  obtain ⟨S2, w2, e2, m2, s2, q2, f2⟩ := tk_l (S0 := S) hv hok a FU 0 S1 [] (by rw [f1.2.1 30 (by decide)]; exact h) m1 List.Pairwise.nil (fun x => by simp) (by simp) (by omega) (by unfold FU; omega)
  refine ⟨S2, w2, ?_, m2, s2, q2, (f1.wk (by simp) (by simp) (by simp)).tr f2⟩
  unfold f_X9_takes f_X9_takes_0
  rw [e1, oV_s]
  exact e2
theorem nI_ne_m1 {x : Nat} (h : x < 2 ^ 31) : ¬ nI x = -1 := fun e => by
  have := congrArg Int32.toInt e
  rw [nI_toInt h, show (-1 : Int32).toInt = -1 from rfl] at this
  omega
/-- all marks of a set -/
theorem X9_takesAll {S : ST} {t : (Nat → List Nat) × Nat} {v : Nat} (hv : v < 4) (hok : MOK (t.1 v)) (h : blk (ai S 30) 0 t) : ∃ S', f_X9_takes S (nI v) (-1) = some S' ∧ MM S' (t.1 v) ∧ FR [52] [32] [] S S' := by
  obtain ⟨S', w, e, m, s, q, f⟩ := X9_takes hv hok h (-1)
  have : w = t.1 v := srt_ext s hok.1 (fun x => by
    rw [q x]
    exact ⟨fun q => q.1, fun q => ⟨q, nI_ne_m1 (by have := hok.2.2 x q; omega)⟩⟩)
  rw [this] at m
  exact ⟨S', e, m, f⟩
theorem X9_refused0 (S : ST) : f_X9_refused S 0 = some (0, sI S 51 0) := rfl
theorem X9_refusedk (S : ST) {k : Nat} (h1 : 0 < k) (h2 : k < 2 ^ 31) : f_X9_refused S (nI k) = some (1, sI S 51 (nI k)) := by
  unfold f_X9_refused f_X9_refused_0 f_X9_refused_14
  rw [oL_s, if_neg (nI_nle h1 h2), oG_t (by decide)]
theorem X9_within (S : ST) (a b c : Int32) : f_X9_within S a b c = some (if a < b then 0 else if c < a then 0 else 1, S) := by
  unfold f_X9_within f_X9_within_0 f_X9_within_14 f_X9_within_15
  split
  · rw [oG_t (by decide)]
  · split
    · rw [oG_t (by decide)]
    · rw [oG_t (by decide)]
/-- a number of a set, or not -/
theorem set_or (a : Int32) : (a < 0 ∨ nI 4 ≤ a) ∨ ∃ v, v < 4 ∧ a = nI v := by
  rcases pk_ix a (n := 4) (by decide) with h | h | h
  · exact Or.inl (Or.inl h)
  · exact Or.inl (Or.inr h)
  · exact Or.inr h
theorem X9_isSet_y (S : ST) {v : Nat} (h : v < 4) : f_X9_isSet S (nI v) = some (1, S) := by
  unfold f_X9_isSet f_X9_isSet_0
  rw [X9_within, oB_s, if_neg (nI_pos (by omega)), if_neg (show ¬ (3 : Int32) < nI v from nI_nlt (a := 3) (by omega) (by decide)), oG_t (by decide)]
theorem X9_isSet_n (S : ST) {a : Int32} (h : a < 0 ∨ nI 4 ≤ a) : f_X9_isSet S a = some (0, S) := by
  unfold f_X9_isSet f_X9_isSet_0
  rw [X9_within, oB_s]
  rcases h with h | h
  · rw [if_pos h, oG_t (by decide)]
  · have h0 : ¬ a < 0 := by
      rw [z_lt]; rw [z_le] at h
      rw [nI_toInt (by decide)] at h
      show ¬ a.toInt < 0
      omega
    have h3 : (3 : Int32) < a := by
      rw [z_lt]; rw [z_le] at h
      rw [nI_toInt (by decide)] at h
      show 3 < a.toInt
      omega
    rw [if_neg h0, if_pos h3, oG_t (by decide)]
theorem X8_needSet_y (S : ST) {v : Nat} (h : v < 4) : f_X8_needSet S (nI v) = some (0, (), S) := by
  unfold f_X8_needSet f_X8_needSet_0
  rw [if_neg (nI_pos (by omega)), if_pos (show nI v < (4 : Int32) from nI_lt (b := 4) h (by decide))]
theorem X8_needSet_n (S : ST) {a : Int32} (h : a < 0 ∨ nI 4 ≤ a) : f_X8_needSet S a = some (1, (), S) := by
  unfold f_X8_needSet f_X8_needSet_0 f_X8_needSet_9
  rcases h with h | h
  · rw [if_pos h]
  · have h4 : ¬ a < 4 := fun q => absurd h (Int32.not_le.mpr q)
    rw [if_neg h4]
    split <;> rfl
