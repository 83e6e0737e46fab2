theorem X9_bar {S : ST} {t : (Nat → List Nat) × Nat} (ht : OKt t) (h : blk (ai S 30) 0 t) {v : Nat} (hv : v < 4) : (Low (t.1 v) t.2 → f_X9_bar S (nI v) = some (0, S)) ∧ (¬ Low (t.1 v) t.2 → f_X9_bar S (nI v) = some (2, S)) := by
  obtain ⟨r, e, hr⟩ := X9_isLow ht h hv
  unfold f_X9_bar f_X9_bar_0 f_X9_bar_24
  rw [X9_isSet_y S hv, oB_s, if_neg (by decide), e, oB_s]
  exact ⟨fun q => by rw [if_neg (fun z => (hr.z.mp z) q)], fun q => by rw [if_pos (hr.z.mpr q)]⟩
theorem X9_bar_n {S : ST} {a : Int32} (h : a < 0 ∨ nI 4 ≤ a) : f_X9_bar S a = some (1, S) := by
  unfold f_X9_bar f_X9_bar_0 f_X9_bar_24
  rw [X9_isSet_n S h, oB_s, if_pos rfl]
theorem J_cyclicMultiplicity {S : ST} (h : INV S) (a b : Int32) : ∃ S', g_cyclicMultiplicity S a b = some S' ∧ INV S' := by
  obtain ⟨t, p, hc, hm, hu, ht, hp⟩ := h
  show ∃ S', gI (oY (f_X8_cyclicMultiplicity S a b) [(1, 1), (2, 2), (3, 3)] kI) (fun S1 => f_X9_cyclicMultiplicity S1 a b) = some S' ∧ INV S'
  rcases set_or a with hb | ⟨v, hv, rfl⟩
  · refine gI_thr (n := 1) (c := 1) (r := 0) (by decide) (by decide) rfl hm ht hp ⟨S, ?_, hc, hu, FC.rf S⟩ (fun S1 h1 => ⟨0, MO_thr h1 0 ?_⟩)
    · unfold f_X8_cyclicMultiplicity f_X8_cyclicMultiplicity_0
      rw [X8_needSet_n S hb, oX_n S _ _ (by decide)]
    · unfold f_X9_cyclicMultiplicity f_X9_cyclicMultiplicity_0 f_X9_cyclicMultiplicity_43 f_X9_cyclicMultiplicity_59
      rw [X9_isSet_n S1 hb, oB_s, if_pos rfl, X9_ref1, oB_s, if_neg (by decide)]
  · have hm1 := ht.2.1
    have hm2 := ht.2.2
    have hok := ht.1 v hv
    have h24 := hok.2.1
    have e1 : nI t.2 - (1 : Int32) = nI (t.2 - 1) := z_sub (b := 1) (by omega)
    rcases rng_or b 1 (t.2 - 1) (by omega) (by omega) with hb | ⟨d, hd1, hd2, rfl⟩
    · refine gI_thr (n := 2) (c := 2) (r := 0) (by decide) (by decide) rfl hm ht hp ⟨S, ?_, hc, hu, FC.rf S⟩ (fun S1 h1 => ⟨0, MO_thr h1 0 ?_⟩)
      · unfold f_X8_cyclicMultiplicity f_X8_cyclicMultiplicity_0 f_X8_cyclicMultiplicity_20
        rw [X8_needSet_y S hv, oX_0, hc.md]
        rcases hb with hb | hb
        · rw [if_pos (show b < (1 : Int32) from hb)]
        · have : ¬ b < nI t.2 := by
            rw [z_lt, nI_toInt (by omega)] at hb ⊢
            omega
          rw [if_neg this]
          split <;> rfl
      · unfold f_X9_cyclicMultiplicity f_X9_cyclicMultiplicity_0 f_X9_cyclicMultiplicity_43 f_X9_cyclicMultiplicity_59
        rw [X9_isSet_y S1 hv, oB_s, if_neg (by decide), X9_modulus h1.1, oB_s, e1, show f_X9_within S1 b 1 (nI (t.2 - 1)) = some (0, S1) from wi_n S1 hb, oB_s, if_pos rfl, X9_ref2, oB_s, if_neg (by decide)]
    · have ecl : ∀ (u w : Option (Nat × Int32 × ST)), (if nI d < 1 then u else if nI d < nI t.2 then w else u) = w := fun u w => by
        rw [if_neg (show ¬ nI d < (1 : Int32) from nI_nlt (b := 1) hd1 (by omega)), if_pos (nI_lt (by omega) (by omega))]
      by_cases hl : Low (t.1 v) t.2
      · refine gI_ok [(1, 1), (2, 2), (3, 3)] (r := nI (cy (t.1 v) t.2 d)) hm ht hp ⟨S, ?_, hc, hu, FC.rf S⟩ (fun S1 h1 => MO_ok (FR.rf _ _ _ _) h1.r0 ?_)
        · unfold f_X8_cyclicMultiplicity f_X8_cyclicMultiplicity_0
          rw [X8_needSet_y S hv, oX_0, hc.md, ecl, (X8_below hc ht hv).1 hl, oX_0, oG_t (inB_n hv (by omega)), nI_clamp (show v < 2 ^ 31 by omega), (hc.ms hv).pairsApart (fun k hk => hok.le hk) hd1 (by omega), oB_s, hc.md, z_sub (by omega), (hc.ms hv).pairsApart (fun k hk => hok.le hk) (by omega) (by omega), oB_s, nI_add]
          rfl
        · obtain ⟨r, e, hr⟩ := X9_isLow ht h1.1 hv
          unfold f_X9_cyclicMultiplicity f_X9_cyclicMultiplicity_0 f_X9_cyclicMultiplicity_43 f_X9_cyclicMultiplicity_59
          rw [X9_isSet_y S1 hv, oB_s, if_neg (by decide), X9_modulus h1.1, oB_s, e1, show f_X9_within S1 (nI d) 1 (nI (t.2 - 1)) = some (1, S1) from wi_y S1 hd1 hd2 (by omega), oB_s, if_neg (by decide), e, oB_s, if_neg (fun z => (hr.z.mp z) hl), X9_refused0, oB_s, if_pos rfl, X9_cyclicPairs ht h1.r0.1 hv hl hd1 (by omega), oB_s]
      · refine gI_thr (n := 3) (c := 3) (r := 0) (by decide) (by decide) rfl hm ht hp ⟨S, ?_, hc, hu, FC.rf S⟩ (fun S1 h1 => ⟨0, MO_thr h1 0 ?_⟩)
        · unfold f_X8_cyclicMultiplicity f_X8_cyclicMultiplicity_0
          rw [X8_needSet_y S hv, oX_0, hc.md, ecl, (X8_below hc ht hv).2 hl, oX_n S _ _ (by decide)]
        · obtain ⟨r, e, hr⟩ := X9_isLow ht h1.1 hv
          unfold f_X9_cyclicMultiplicity f_X9_cyclicMultiplicity_0 f_X9_cyclicMultiplicity_43 f_X9_cyclicMultiplicity_59
          rw [X9_isSet_y S1 hv, oB_s, if_neg (by decide), X9_modulus h1.1, oB_s, e1, show f_X9_within S1 (nI d) 1 (nI (t.2 - 1)) = some (1, S1) from wi_y S1 hd1 hd2 (by omega), oB_s, if_neg (by decide), e, oB_s, if_pos (hr.z.mpr hl), X9_ref3, oB_s, if_neg (by decide)]
theorem icr_l {S : ST} {t : (Nat → List Nat) × Nat} (ht : OKt t) (h : blk (ai S 30) 0 t) {v : Nat} (hv : v < 4) (hlow : Low (t.1 v) t.2) : ∀ (n d : Nat) (r : Int32) (P : Prop), 1 ≤ d → d ≤ t.2 → t.2 < n + d → BI r P → ∃ r', f_X9_isCyclicRuler_18 n S (nI v) r (nI d) = some (r', S) ∧ BI r' (P ∧ ∀ k, d ≤ k → k < t.2 → cy (t.1 v) t.2 k < 2)
  | 0, d, r, P, _, _, h2, _ => absurd h2 (by omega)
  | n + 1, d, r, P, h0, h1, h2, hr => by
    have hm2 := ht.2.2
    have h24 := (ht.1 v hv).2.1
    unfold f_X9_isCyclicRuler_18 f_X9_isCyclicRuler_52 f_X9_isCyclicRuler_45
    rw [X9_modulus h, oB_s]
    by_cases hd : d = t.2
    · rw [hd, if_pos (nI_le (Nat.le_refl _) (by omega)), oG_t hr.isB]
      exact ⟨r, rfl, hr.cg ⟨fun q => ⟨q, fun k k1 k2 => absurd k1 (by omega)⟩, fun q => q.1⟩⟩
    · rw [if_neg (nI_ge (show d < t.2 by omega) (by omega))]
      by_cases hz : r = 0
      · have := hr.z.mp hz
        rw [if_pos hz, oG_t hr.isB]
        exact ⟨r, rfl, hr.cg ⟨fun q => absurd q this, fun q => q.1⟩⟩
      · have hP : P := Classical.byContradiction (fun q => hz (hr.z.mpr q))
        have hle := cy_le (ht.1 v hv).1 hlow h0 (show d < t.2 by omega)
        rw [if_neg hz, X9_cyclicPairs ht h hv hlow h0 (by omega), oB_s]
        have step : ∀ (r1 : Int32) (P1 : Prop), BI r1 P1 → (P1 ↔ P ∧ cy (t.1 v) t.2 d < 2) → ∃ r', oL (nI d + 1) (fun v1 => f_X9_isCyclicRuler_18 n S (nI v) r1 v1) = some (r', S) ∧ BI r' (P ∧ ∀ k, d ≤ k → k < t.2 → cy (t.1 v) t.2 k < 2) := fun r1 P1 hr1 e1 => by
          rw [oL_s, nI_1]
          obtain ⟨r', e, q⟩ := icr_l ht h hv hlow n (d + 1) r1 P1 (by omega) (by omega) (by omega) hr1
          refine ⟨r', e, q.cg ⟨fun ⟨q1, q2⟩ => ⟨(e1.mp q1).1, fun k k1 k2 => ?_⟩, fun ⟨q1, q2⟩ => ⟨e1.mpr ⟨q1, q2 d (Nat.le_refl _) (by omega)⟩, fun k k1 k2 => q2 k (by omega) k2⟩⟩⟩
          by_cases ek : k = d
          · rw [ek]; exact (e1.mp q1).2
          · exact q2 k (by omega) k2
        by_cases h3 : 2 ≤ cy (t.1 v) t.2 d
        · rw [if_pos (show (2 : Int32) ≤ nI (cy (t.1 v) t.2 d) from nI_le (a := 2) h3 (by omega))]
          exact step 0 False (BI.f (fun q => q)) ⟨fun q => absurd q (fun q => q), fun q => absurd q.2 (by omega)⟩
        · rw [if_neg (show ¬ (2 : Int32) ≤ nI (cy (t.1 v) t.2 d) from nI_ge (b := 2) (by omega) (by decide))]
          exact step 1 True (BI.t trivial) ⟨fun _ => ⟨hP, by omega⟩, fun _ => trivial⟩
theorem J_isCyclicRuler {S : ST} (h : INV S) (a : Int32) : ∃ S', g_isCyclicRuler S a = some S' ∧ INV S' := by
  obtain ⟨t, p, hc, hm, hu, ht, hp⟩ := h
  show ∃ S', gZ (oY (f_X8_isCyclicRuler S a) [(1, 1), (3, 2)] kZ) (fun S1 => f_X9_isCyclicRuler S1 a) = some S' ∧ INV S'
  rcases set_or a with hb | ⟨v, hv, rfl⟩
  · refine gZ_thr (n := 1) (c := 1) (r := 0) (by decide) (by decide) rfl hm ht hp ⟨S, ?_, hc, hu, FC.rf S⟩ (fun S1 h1 => ⟨0, MO_thr h1 0 ?_⟩)
    · unfold f_X8_isCyclicRuler f_X8_isCyclicRuler_0
      rw [X8_needSet_n S hb, oX_n S _ _ (by decide)]
    · unfold f_X9_isCyclicRuler f_X9_isCyclicRuler_0
      rw [X9_bar_n hb, oB_s, X9_ref1, oB_s, if_neg (by decide)]
  · have hm1 := ht.2.1
    have hm2 := ht.2.2
    have hok := ht.1 v hv
    by_cases hl : Low (t.1 v) t.2
    · obtain ⟨S1, e1, t1, f1⟩ := TL.countCyclic hok hm2 hl (show v ≠ 24 by omega) (hc.ms hv)
      obtain ⟨r, er, hr⟩ := t1.isAtMost (Cs_len t.2 hok.2.1) hm1 hm2
      have hc1 : RepC S1 t p := hc.fr f1 (by simp) (by simp)
      refine gZ_ok [(1, 1), (3, 2)] (r := r) (t' := t) (p' := p) hm ht hp ⟨S1, ?_, hc1, hu.fr f1 (by simp) (by simp) (by simp), FC.of f1 (by simp) (by simp)⟩ (fun S2 h2 => ?_)
      · unfold f_X8_isCyclicRuler f_X8_isCyclicRuler_0
        rw [X8_needSet_y S hv, oX_0, (X8_below hc ht hv).1 hl, oX_0, oG_t (inB_n hv (by omega)), nI_clamp (show v < 2 ^ 31 by omega), hc.md, e1, oV_s, hc1.md, er, oB_s, oG_t hr.isB]
      · obtain ⟨r', e', q'⟩ := icr_l ht h2.r0.1 hv hl FU 1 1 True (by omega) (by omega) (by unfold FU; omega) (BI.t trivial)
        have hrr : r' = r := q'.eq hr ⟨fun q k k1 k2 => by rw [Cs_cnt hok.1 hl k1 k2]; exact q.2 k k1 k2, fun q => ⟨trivial, fun k k1 k2 => by rw [← Cs_cnt hok.1 hl k1 k2]; exact q k k1 k2⟩⟩
        refine MO_ok (FR.rf _ _ _ _) h2.r0 ?_
        unfold f_X9_isCyclicRuler f_X9_isCyclicRuler_0
        rw [(X9_bar ht h2.1 hv).1 hl, oB_s, X9_refused0, oB_s, if_pos rfl, ← hrr]
        exact e'
    · refine gZ_thr (n := 3) (c := 2) (r := 0) (by decide) (by decide) rfl hm ht hp ⟨S, ?_, hc, hu, FC.rf S⟩ (fun S1 h1 => ⟨0, MO_thr h1 0 ?_⟩)
      · unfold f_X8_isCyclicRuler f_X8_isCyclicRuler_0
        rw [X8_needSet_y S hv, oX_0, (X8_below hc ht hv).2 hl, oX_n S _ _ (by decide)]
      · unfold f_X9_isCyclicRuler f_X9_isCyclicRuler_0
        rw [(X9_bar ht h1.1 hv).2 hl, oB_s, X9_ref2, oB_s, if_neg (by decide)]
/-- the index of a set: all differences alike, or none -/
def IX (l : List Nat) (m : Nat) (r : Int32) : Prop := ((2 ≤ l.length ∧ ∀ k, 2 ≤ k → k < m → cy l m k = cy l m 1) ∧ r = nI (cy l m 1)) ∨ (¬ (2 ≤ l.length ∧ ∀ k, 2 ≤ k → k < m → cy l m k = cy l m 1) ∧ r = -1)
theorem IX.eq {l : List Nat} {m : Nat} {r r' : Int32} (h : IX l m r) (h' : IX l m r') : r = r' := by
  rcases h with ⟨q, e⟩ | ⟨q, e⟩ <;> rcases h' with ⟨q', e'⟩ | ⟨q', e'⟩
  · rw [e, e']
  · exact absurd q q'
  · exact absurd q' q
  · rw [e, e']
theorem X8_indexOf {S : ST} {t : (Nat → List Nat) × Nat} {p : List ((Nat → List Nat) × Nat)} (hc : RepC S t p) (ht : OKt t) {v : Nat} (hv : v < 4) (hl : Low (t.1 v) t.2) : ∃ r S', f_X8_indexOf S v = some (r, S') ∧ IX (t.1 v) t.2 r ∧ FR [] [24] [] S S' := by
  have hm1 := ht.2.1
  have hm2 := ht.2.2
  have hok := ht.1 v hv
  have h24 := hok.2.1
  unfold f_X8_indexOf f_X8_indexOf_0 f_X8_indexOf_54
  rw [(hc.ms hv).2.1]
  by_cases h2 : 2 ≤ (t.1 v).length
  · obtain ⟨S1, e1, t1, f1⟩ := TL.countCyclic hok hm2 hl (show v ≠ 24 by omega) (hc.ms hv)
    obtain ⟨r, er, hr⟩ := t1.isLevel (Cs_len t.2 h24) hm1 hm2
    have hc1 : RepC S1 t p := hc.fr f1 (by simp) (by simp)
    rw [if_pos (show (2 : Int32) ≤ nI (t.1 v).length from nI_le (a := 2) h2 (by omega)), hc.md, e1, oV_s, hc1.md, er, oB_s]
    have key : (∀ k, 2 ≤ k → k < t.2 → (Cs (t.1 v) t.2).count k = (Cs (t.1 v) t.2).count 1) ↔ ∀ k, 2 ≤ k → k < t.2 → cy (t.1 v) t.2 k = cy (t.1 v) t.2 1 := by
      constructor
      · intro q k k1 k2
        rw [← Cs_cnt hok.1 hl (by omega) k2, ← Cs_cnt hok.1 hl (by omega) (by omega)]; exact q k k1 k2
      · intro q k k1 k2
        rw [Cs_cnt hok.1 hl (by omega) k2, Cs_cnt hok.1 hl (by omega) (by omega)]; exact q k k1 k2
    rw [key] at hr
    by_cases hz : r = 0
    · rw [if_pos hz]
      exact ⟨-1, S1, rfl, Or.inr ⟨fun q => (hr.z.mp hz) q.2, rfl⟩, f1⟩
    · rw [if_neg hz, show f_X5_of S1 1 = some (ai S1 24 1, S1) from X5_of S1 (d := 1) (by decide), oB_s, t1 1 (by decide), Cs_cnt hok.1 hl (by omega) (by omega)]
      exact ⟨_, S1, rfl, Or.inl ⟨⟨h2, Classical.byContradiction (fun q => hz (hr.z.mpr q))⟩, rfl⟩, f1⟩
  · rw [if_neg (show ¬ (2 : Int32) ≤ nI (t.1 v).length from nI_ge (b := 2) (by omega) (by decide))]
    exact ⟨-1, S, rfl, Or.inr ⟨fun q => h2 q.1, rfl⟩, FR.rf _ _ _ S⟩
theorem ixo_l {S : ST} {t : (Nat → List Nat) × Nat} (ht : OKt t) (h : blk (ai S 30) 0 t) {v : Nat} (hv : v < 4) (hlow : Low (t.1 v) t.2) : ∀ (n d : Nat) (r : Int32) (P : Prop), 2 ≤ d → d ≤ t.2 → t.2 < n + d → BI r P → ∃ r', f_X9_indexOf_25 n S (nI v) (nI (cy (t.1 v) t.2 1)) r (nI d) = some (r', S) ∧ (((P ∧ ∀ k, d ≤ k → k < t.2 → cy (t.1 v) t.2 k = cy (t.1 v) t.2 1) ∧ r' = nI (cy (t.1 v) t.2 1)) ∨ (¬ (P ∧ ∀ k, d ≤ k → k < t.2 → cy (t.1 v) t.2 k = cy (t.1 v) t.2 1) ∧ r' = -1))
  | 0, d, r, P, _, _, h2, _ => absurd h2 (by omega)
  | n + 1, d, r, P, h0, h1, h2, hr => by
    have hm1 := ht.2.1
    have hm2 := ht.2.2
    have h24 := (ht.1 v hv).2.1
    unfold f_X9_indexOf_25 f_X9_indexOf_61 f_X9_indexOf_70 f_X9_indexOf_54
    rw [X9_modulus h, oB_s]
    by_cases hd : d = t.2
    · rw [hd, if_pos (nI_le (Nat.le_refl _) (by omega))]
      by_cases hz : r = 0
      · rw [if_pos hz]
        exact ⟨-1, rfl, Or.inr ⟨fun q => (hr.z.mp hz) q.1, rfl⟩⟩
      · rw [if_neg hz]
        exact ⟨_, rfl, Or.inl ⟨⟨Classical.byContradiction (fun q => hz (hr.z.mpr q)), fun k k1 k2 => absurd k1 (by omega)⟩, rfl⟩⟩
    · rw [if_neg (nI_ge (show d < t.2 by omega) (by omega))]
      by_cases hz : r = 0
      · rw [if_pos hz, if_pos hz]
        exact ⟨-1, rfl, Or.inr ⟨fun q => (hr.z.mp hz) q.1, rfl⟩⟩
      · have hP : P := Classical.byContradiction (fun q => hz (hr.z.mpr q))
        have hle := cy_le (ht.1 v hv).1 hlow (show 1 ≤ d by omega) (show d < t.2 by omega)
        have hle1 := cy_le (ht.1 v hv).1 hlow (show 1 ≤ 1 by omega) (show 1 < t.2 by omega)
        rw [if_neg hz, X9_cyclicPairs ht h hv hlow (by omega) (by omega), oB_s]
        have step : ∀ (r1 : Int32) (P1 : Prop), BI r1 P1 → (P1 ↔ P ∧ cy (t.1 v) t.2 d = cy (t.1 v) t.2 1) → ∃ r', oL (nI d + 1) (fun v1 => f_X9_indexOf_25 n S (nI v) (nI (cy (t.1 v) t.2 1)) r1 v1) = some (r', S) ∧ (((P ∧ ∀ k, d ≤ k → k < t.2 → cy (t.1 v) t.2 k = cy (t.1 v) t.2 1) ∧ r' = nI (cy (t.1 v) t.2 1)) ∨ (¬ (P ∧ ∀ k, d ≤ k → k < t.2 → cy (t.1 v) t.2 k = cy (t.1 v) t.2 1) ∧ r' = -1)) := fun r1 P1 hr1 e1 => by
          rw [oL_s, nI_1]
          obtain ⟨r', e, q⟩ := ixo_l ht h hv hlow n (d + 1) r1 P1 (by omega) (by omega) (by omega) hr1
          have eqv : (P1 ∧ ∀ k, d + 1 ≤ k → k < t.2 → cy (t.1 v) t.2 k = cy (t.1 v) t.2 1) ↔ (P ∧ ∀ k, d ≤ k → k < t.2 → cy (t.1 v) t.2 k = cy (t.1 v) t.2 1) := by
            constructor
            · rintro ⟨q1, q2⟩
              refine ⟨(e1.mp q1).1, fun k k1 k2 => ?_⟩
              by_cases ek : k = d
              · rw [ek]; exact (e1.mp q1).2
              · exact q2 k (by omega) k2
            · rintro ⟨q1, q2⟩
              exact ⟨e1.mpr ⟨q1, q2 d (Nat.le_refl _) (by omega)⟩, fun k k1 k2 => q2 k (by omega) k2⟩
          rw [eqv] at q
          exact ⟨r', e, q⟩
        by_cases h3 : cy (t.1 v) t.2 d = cy (t.1 v) t.2 1
        · rw [if_pos (by rw [h3])]
          exact step 1 True (BI.t trivial) ⟨fun _ => ⟨hP, h3⟩, fun _ => trivial⟩
        · rw [if_neg (z_ne (by omega) (by omega) h3)]
          exact step 0 False (BI.f (fun q => q)) ⟨fun q => absurd q (fun q => q), fun q => absurd q.2 h3⟩
theorem X9_indexOf {S : ST} {t : (Nat → List Nat) × Nat} (ht : OKt t) (h : blk (ai S 30) 0 t) {v : Nat} (hv : v < 4) (hlow : Low (t.1 v) t.2) : ∃ r, f_X9_indexOf S (nI v) = some (r, S) ∧ IX (t.1 v) t.2 r := by
  have hm1 := ht.2.1
  have h24 := (ht.1 v hv).2.1
  unfold f_X9_indexOf f_X9_indexOf_0 f_X9_indexOf_21
  rw [show f_X9_cyclicPairs S (nI v) 1 = some (nI (cy (t.1 v) t.2 1), S) from X9_cyclicPairs ht h hv hlow (d := 1) (by omega) (by omega), oB_s, X9_many h hv, oB_s]
  by_cases h2 : 2 ≤ (t.1 v).length
  · rw [if_neg (show ¬ nI (t.1 v).length ≤ (1 : Int32) from nI_ge (a := 1) (by omega) (by omega))]
    obtain ⟨r, e, q⟩ := ixo_l ht h hv hlow FU 2 1 (2 ≤ (t.1 v).length) (by omega) hm1 (by unfold FU; have := ht.2.2; omega) (BI.t h2)
    exact ⟨r, e, q⟩
  · rw [if_pos (show nI (t.1 v).length ≤ (1 : Int32) from nI_le (b := 1) (by omega) (by decide))]
    obtain ⟨r, e, q⟩ := ixo_l ht h hv hlow FU 2 0 (2 ≤ (t.1 v).length) (by omega) hm1 (by unfold FU; have := ht.2.2; omega) (BI.f h2)
    exact ⟨r, e, q⟩
theorem J_index {S : ST} (h : INV S) (a : Int32) : ∃ S', g_index S a = some S' ∧ INV S' := by
  obtain ⟨t, p, hc, hm, hu, ht, hp⟩ := h
  show ∃ S', gI (oY (f_X8_index S a) [(1, 1), (3, 2)] kI) (fun S1 => f_X9_index S1 a) = some S' ∧ INV S'
  rcases set_or a with hb | ⟨v, hv, rfl⟩
  · refine gI_thr (n := 1) (c := 1) (r := 0) (by decide) (by decide) rfl hm ht hp ⟨S, ?_, hc, hu, FC.rf S⟩ (fun S1 h1 => ⟨0, MO_thr h1 0 ?_⟩)
    · unfold f_X8_index f_X8_index_0
      rw [X8_needSet_n S hb, oX_n S _ _ (by decide)]
    · unfold f_X9_index f_X9_index_0 f_X9_index_21
      rw [X9_bar_n hb, oB_s, X9_ref1, oB_s, if_neg (by decide)]
  · by_cases hl : Low (t.1 v) t.2
    · obtain ⟨r, S1, e1, q1, f1⟩ := X8_indexOf hc ht hv hl
      refine gI_ok [(1, 1), (3, 2)] (r := r) (t' := t) (p' := p) hm ht hp ⟨S1, ?_, hc.fr f1 (by simp) (by simp), hu.fr f1 (by simp) (by simp) (by simp), FC.of f1 (by simp) (by simp)⟩ (fun S2 h2 => ?_)
      · unfold f_X8_index f_X8_index_0
        rw [X8_needSet_y S hv, oX_0, (X8_below hc ht hv).1 hl, oX_0, oG_t (inB_n hv (by omega)), nI_clamp (show v < 2 ^ 31 by omega), e1, oB_s]
      · obtain ⟨r', e', q'⟩ := X9_indexOf ht h2.r0.1 hv hl
        refine MO_ok (FR.rf _ _ _ _) h2.r0 ?_
        unfold f_X9_index f_X9_index_0 f_X9_index_21
        rw [(X9_bar ht h2.1 hv).1 hl, oB_s, X9_refused0, oB_s, if_pos rfl, e', oB_s, q'.eq q1]
    · refine gI_thr (n := 3) (c := 2) (r := 0) (by decide) (by decide) rfl hm ht hp ⟨S, ?_, hc, hu, FC.rf S⟩ (fun S1 h1 => ⟨0, MO_thr h1 0 ?_⟩)
      · unfold f_X8_index f_X8_index_0
        rw [X8_needSet_y S hv, oX_0, (X8_below hc ht hv).2 hl, oX_n S _ _ (by decide)]
      · unfold f_X9_index f_X9_index_0 f_X9_index_21
        rw [(X9_bar ht h1.1 hv).2 hl, oB_s, X9_ref2, oB_s, if_neg (by decide)]
