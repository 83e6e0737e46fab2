/-- what the reference has found so far: F, and F is no later than the forms of (a, j) -/
def BE (l : List Nat) (m : Nat) (F : List Nat) (a j : Nat) : Prop := ∀ W, FO l m a j W → ¬ LX (bF W) (bF F) l.length
def OKF (l : List Nat) (m : Nat) (F : List Nat) : Prop := F.length = l.length ∧ (∀ x, x ∈ F → x ≤ 2000) ∧ (F = List.replicate l.length 2000 ∨ ∃ t j, 1 ≤ t ∧ t < m ∧ Nat.gcd m t = 1 ∧ j < l.length ∧ FO l m t j F)
theorem c98_l {t : (Nat → List Nat) × Nat} {p : List ((Nat → List Nat) × Nat)} (ht : OKt t) {v a : Nat} (to : Int32) (hv : v < 4) (ha1 : 1 ≤ a) (ha : a < t.2) (hlow : Low (t.1 v) t.2) (hn : 1 ≤ (t.1 v).length) (k86 : ST → Int32 → Int32 → Int32 → Int32 → Option (Int32 × ST)) : ∀ (f j : Nat) (S : ST) (F : List Nat), RepM S t p → FI S F → OKF (t.1 v) t.2 F → (Nat.gcd t.2 a = 1 → ∀ i, i < j → BE (t.1 v) t.2 F a i) → j ≤ (t.1 v).length → (t.1 v).length < f + j → ∃ S' F', f_X9_canonical_98 k86 f S (nI v) to (nI (t.1 v).length) (nI a) (nI j) = k86 S' (nI v) to (nI (t.1 v).length) (nI (a + 1)) ∧ FI S' F' ∧ OKF (t.1 v) t.2 F' ∧ (Nat.gcd t.2 a = 1 → ∀ i, i < (t.1 v).length → BE (t.1 v) t.2 F' a i) ∧ ¬ LX (bF F) (bF F') (t.1 v).length ∧ FR [52] [32, 34] [] S S'
  | 0, j, S, F, _, _, _, _, _, h => absurd h (by omega)
  | f + 1, j, S, F, h, hF, hO, hB, h1, h2 => by
    have hok := ht.1 v hv
    have h24 := hok.2.1
    have hm1 := ht.2.1
    have hm2 := ht.2.2
    unfold f_X9_canonical_98 f_X9_canonical_182
    by_cases hj : j = (t.1 v).length
    · rw [if_pos (nI_le (show (t.1 v).length ≤ j by omega) (by omega)), oL_s, nI_1]
      exact ⟨S, F, rfl, hF, hO, by rw [← hj]; exact hB, LX.irr, FR.rf _ _ _ S⟩
    · have hj : j < (t.1 v).length := by omega
      have hgb : Nat.gcd a t.2 ≤ t.2 := Nat.gcd_le_right _ (by omega)
      rw [if_neg (nI_ge hj (by omega)), X9_modulus h.1, oB_s, X9_divisor S (show a < 2 ^ 31 by omega) hm2, oB_s]
      by_cases hg : Nat.gcd t.2 a = 1
      · rw [if_pos (show nI (Nat.gcd a t.2) = 1 by rw [Nat.gcd_comm, hg]; rfl)]
        obtain ⟨S1, e1, w1, f1⟩ := MW.begins S
        rw [e1, oV_s]
        obtain ⟨S2, F2, W, e2, q2, r2, r3, r4, r5, f2⟩ := c124_l (p := p) ht to hv ha1 ha hg hlow hj hO.1 hO.2.1 k86 (f_X9_canonical_98 k86 f) FU 0 S1 (h.fr f1 (by simp) (by simp) (by simp)) w1 (hF.fr f1 (by simp)) (by omega) (by unfold FU; omega)
        rw [show f_X9_canonical_124 k86 (f_X9_canonical_98 k86 f) FU S1 (nI v) to (nI (t.1 v).length) (nI a) (nI j) 0 = _ from e2]
        have hO2 : OKF (t.1 v) t.2 F2 := by
          rcases r3 with e | e
          · rw [e]
            refine ⟨(FO_len hok (show 1 ≤ t.2 by omega) hm2 hg hlow hj r2).1, fun x hx => ?_, Or.inr ⟨a, j, ha1, ha, hg, hj, r2⟩⟩
            have := FO_b (show 1 ≤ t.2 by omega) r2 x hx
            omega
          · rw [e]; exact hO
        have f12 : FR [52] [32, 34] [] S S2 := (f1.wk (by simp) (by simp) (by simp)).tr f2
        obtain ⟨S3, F3, e3, q3, o3, b3, k3, f3⟩ := c98_l ht to hv ha1 ha hlow hn k86 f (j + 1) S2 F2 (h.fr f12 (by simp) (by simp) (by simp)) q2 hO2 (fun _ i hi W' hW' => by
          by_cases e : i = j
          · rw [e] at hW'
            rw [hW'.uq r2]
            exact r4
          · exact LX.keep (hB hg i (by omega) W' hW') r5) (by omega) (by omega)
        exact ⟨S3, F3, e3, q3, o3, b3, LX.keep r5 k3, f12.tr f3⟩
      · rw [if_neg (show ¬ nI (Nat.gcd a t.2) = 1 from z_ne (b := 1) (by omega) (by decide) (fun q => hg (by rw [Nat.gcd_comm]; exact q))), oL_s, nI_1]
        exact ⟨S, F, rfl, hF, hO, fun q => absurd q hg, LX.irr, FR.rf _ _ _ S⟩
theorem c195_l {t : (Nat → List Nat) × Nat} {p : List ((Nat → List Nat) × Nat)} {to : Nat} (hto : to < 4) {F : List Nat} (hs : Srt F) (hb : ∀ x, x ∈ F → x ≤ 2000) {S0 : ST} : ∀ (f k : Nat) (S : ST), RepM S t p → FI S F → MM S (F.take k) → FR [50, 52] AMo [] (sI S0 51 0) S → k ≤ F.length → F.length < f + k → MO (f_X9_canonical_195 f S (nI to) (nI F.length) (nI k)) S0 0 (nI F.length) (put4 t to F t.2) p
  | 0, k, S, _, _, _, _, _, h => absurd h (by omega)
  | f + 1, k, S, h, hF, hm, hf, h1, h2 => by
    have h24 := hF.1
    unfold f_X9_canonical_195
    by_cases hk : k = F.length
    · rw [if_pos (nI_le (show F.length ≤ k by omega) (by omega))]
      rw [hk, List.take_length] at hm
      exact MO_put h hm hto hf _ (fun S2 _ => rfl)
    · have hk : k < F.length := by omega
      have hx := hb _ (gd_mem hk)
      rw [if_neg (nI_ge hk (by omega)), oG_t (inB_n (show k < 24 by omega) (by omega)), nI_clamp (by omega), hF.2 k hk]
      have hsk : Srt (F.take (k + 1)) := List.Pairwise.sublist (List.take_sublist (k + 1) F) hs
      rw [tk_succ hk] at hsk
      have hap := List.pairwise_append.mp hsk
      obtain ⟨S1, e1, m1, f1⟩ := hm.comes_last hap.1 (fun y hy => hap.2.2 y hy _ (List.mem_singleton.mpr rfl)) (show F.getD k 0 < 2 ^ 31 by omega) (by rw [List.length_take]; omega)
      rw [e1, oV_s, oL_s, nI_1]
      rw [← tk_succ hk] at m1
      exact c195_l hto hs hb f (k + 1) S1 (h.fr f1 (by simp) (by simp) (by simp)) (hF.fr f1 (by simp)) m1 (hf.tr (f1.wk (by simp) (by simp [AMo]) (by simp))) (by omega) (by omega)
theorem c86_l {t : (Nat → List Nat) × Nat} {p : List ((Nat → List Nat) × Nat)} (ht : OKt t) {v to : Nat} (hv : v < 4) (hto : to < 4) (hlow : Low (t.1 v) t.2) (hn : 1 ≤ (t.1 v).length) {S0 : ST} : ∀ (f a : Nat) (S : ST) (F : List Nat), RepM S t p → FI S F → OKF (t.1 v) t.2 F → (∀ b, 1 ≤ b → b < a → Nat.gcd t.2 b = 1 → ∀ i, i < (t.1 v).length → BE (t.1 v) t.2 F b i) → FR [50, 52] AMo [] (sI S0 51 0) S → 1 ≤ a → a ≤ t.2 → t.2 < f + a → ∃ Z, CAN (t.1 v) t.2 Z ∧ MO (f_X9_canonical_86 f S (nI v) (nI to) (nI (t.1 v).length) (nI a)) S0 0 (nI Z.length) (put4 t to Z t.2) p
  | 0, a, S, F, _, _, _, _, _, _, _, h => absurd h (by omega)
  | f + 1, a, S, F, h, hF, hO, hB, hf, h0, h1, h2 => by
    have hok := ht.1 v hv
    have h24 := hok.2.1
    have hm1 := ht.2.1
    have hm2 := ht.2.2
    unfold f_X9_canonical_86
    rw [X9_modulus h.1, oB_s]
    by_cases ha : a = t.2
    · rw [if_pos (nI_le (show t.2 ≤ a by omega) (by omega))]
      have hform : ∃ t' j, 1 ≤ t' ∧ t' < t.2 ∧ Nat.gcd t.2 t' = 1 ∧ j < (t.1 v).length ∧ FO (t.1 v) t.2 t' j F := by
        rcases hO.2.2 with e | e
        · have hfo := xv_FO (l := t.1 v) (show 1 ≤ t.2 by omega) hm2 1 0
          obtain ⟨_, w0⟩ := FO_len hok (show 1 ≤ t.2 by omega) hm2 (Nat.gcd_one_right t.2) hlow (show 0 < (t.1 v).length by omega) hfo
          refine absurd ⟨0, by omega, fun j hj => absurd hj (by omega), ?_⟩ (hB 1 (by omega) (by omega) (Nat.gcd_one_right t.2) 0 (by omega) _ hfo)
          unfold bF
          rw [w0, e, List.getD_eq_getElem?_getD, List.getElem?_replicate, if_pos (by omega)]
          show (0 : Nat) < 2000
          omega
        · exact e
      have hcan : CAN (t.1 v) t.2 F := ⟨hO.1, hform, fun b i W b1 b2 b3 hi hW => hB b b1 (by omega) b3 i hi W hW⟩
      obtain ⟨S1, e1, m1, f1⟩ := MM.begins S
      rw [e1, oV_s]
      refine ⟨F, hcan, ?_⟩
      have := c195_l (t := t) (p := p) hto (CAN.ok hok hm1 hm2 hcan).1 hO.2.1 FU 0 S1 (h.fr f1 (by simp) (by simp) (by simp)) (hF.fr f1 (by simp)) m1 (hf.tr (f1.wk (by simp) (by simp) (by simp))) (by omega) (by unfold FU; have := hF.1; omega)
      rw [hO.1] at this ⊢
      exact this
    · rw [if_neg (nI_ge (show a < t.2 by omega) (by omega))]
      obtain ⟨S1, F1, e1, q1, o1, b1, k1, f1⟩ := c98_l (p := p) ht (nI to) hv h0 (show a < t.2 by omega) hlow hn (f_X9_canonical_86 f) FU 0 S F h hF hO (fun _ i hi => absurd hi (by omega)) (by omega) (by unfold FU; omega)
      rw [show f_X9_canonical_98 (f_X9_canonical_86 f) FU S (nI v) (nI to) (nI (t.1 v).length) (nI a) 0 = _ from e1]
      exact c86_l ht hv hto hlow hn f (a + 1) S1 F1 (h.fr f1 (by simp) (by simp) (by simp)) q1 o1 (fun b h3 h4 h5 i hi => by
        by_cases e : b = a
        · rw [e] at h5 ⊢; exact b1 h5 i hi
        · exact fun W hW => LX.keep (hB b h3 (by omega) h5 i hi W hW) k1) (hf.tr (f1.wk (by simp) (by simp [AMo]) (by simp))) (by omega) (by omega) (by omega)
theorem c61_l {t : (Nat → List Nat) × Nat} {p : List ((Nat → List Nat) × Nat)} (ht : OKt t) {v to : Nat} (hv : v < 4) (hto : to < 4) (hlow : Low (t.1 v) t.2) (hn : 1 ≤ (t.1 v).length) {S0 : ST} : ∀ (f k : Nat) (S : ST), RepM S t p → (∀ j, j < k → ai S 34 j = 2000) → FR [50, 52] AMo [] (sI S0 51 0) S → k ≤ (t.1 v).length → (t.1 v).length < f + k → ∃ Z, CAN (t.1 v) t.2 Z ∧ MO (f_X9_canonical_61 f S (nI v) (nI to) (nI (t.1 v).length) (nI k)) S0 0 (nI Z.length) (put4 t to Z t.2) p
  | 0, k, S, _, _, _, _, h => absurd h (by omega)
  | f + 1, k, S, h, hv0, hf, h1, h2 => by
    have h24 := (ht.1 v hv).2.1
    have hm1 := ht.2.1
    have hm2 := ht.2.2
    unfold f_X9_canonical_61
    by_cases hk : k = (t.1 v).length
    · rw [if_pos (nI_le (show (t.1 v).length ≤ k by omega) (by omega))]
      exact c86_l ht hv hto hlow hn FU 1 S (List.replicate (t.1 v).length 2000) h ⟨by rw [List.length_replicate]; exact h24, fun j hj => by
        rw [List.length_replicate] at hj
        rw [hv0 j (by omega), List.getD_eq_getElem?_getD, List.getElem?_replicate, if_pos hj]
        rfl⟩ ⟨List.length_replicate, fun x hx => by rw [List.eq_of_mem_replicate hx]; omega, Or.inl rfl⟩ (fun b b1 b2 => absurd b2 (by omega)) hf (by omega) (by omega) (by unfold FU; omega)
    · have hk : k < (t.1 v).length := by omega
      rw [if_neg (nI_ge hk (by omega)), oG_t (inB_n (show k < 24 by omega) (by omega)), oL_s, oL_s, nI_clamp (by omega), nI_1]
      have f0 := FR.sA S 34 (upd (ai S 34) k 2000)
      exact c61_l ht hv hto hlow hn f (k + 1) _ (h.fr f0 (by simp) (by simp) (by simp)) (fun j hj => by
        rw [ai_sA_s]
        by_cases e : j = k
        · rw [e, pk_us]
        · rw [pk_un e]; exact hv0 j (by omega)) (hf.tr (f0.wk (by simp) (by simp [AMo]) (by simp))) (by omega) (by omega)
theorem J_canonical {S : ST} (h : INV S) (a b : Int32) : ∃ S', g_canonical S a b = some S' ∧ INV S' := by
  obtain ⟨t, p, hc, hm, hu, ht, hp⟩ := h
  show ∃ S', gI (oY (f_X8_canonical S a b) [(1, 1), (3, 2)] kI) (fun S1 => f_X9_canonical S1 a b) = some S' ∧ INV S'
  rcases set_or a with hb | ⟨v, hv, rfl⟩
  · refine gI_thr (n := 1) (c := 1) (r := 0) (by decide) (by decide) rfl hm ht hp ⟨S, ?_, hc, hu, FC.rf S⟩ (fun S1 h1 => ⟨0, MO_thr h1 0 ?_⟩)
    · unfold f_X8_canonical f_X8_canonical_0
      rw [X8_needSet_n S hb, oX_n S _ _ (by decide)]
    · unfold f_X9_canonical f_X9_canonical_0 f_X9_canonical_15 f_X9_canonical_40
      rw [X9_isSet_n S1 hb, oB_s, if_pos rfl, X9_ref1, oB_s, if_neg (by decide)]
  · rcases set_or b with hb | ⟨to, hto, rfl⟩
    · refine gI_thr (n := 1) (c := 1) (r := 0) (by decide) (by decide) rfl hm ht hp ⟨S, ?_, hc, hu, FC.rf S⟩ (fun S1 h1 => ⟨0, MO_thr h1 0 ?_⟩)
      · unfold f_X8_canonical f_X8_canonical_0
        rw [X8_needSet_y S hv, oX_0, X8_needSet_n S hb, oX_n S _ _ (by decide)]
      · unfold f_X9_canonical f_X9_canonical_0 f_X9_canonical_15 f_X9_canonical_40
        rw [X9_isSet_y S1 hv, oB_s, if_neg (by decide), X9_isSet_n S1 hb, oB_s, if_pos rfl, X9_ref1, oB_s, if_neg (by decide)]
    · have hok := ht.1 v hv
      have hm1 := ht.2.1
      have hm2 := ht.2.2
      have h24 := hok.2.1
      by_cases h0 : (t.1 v).length = 0
      · refine gI_thr (n := 3) (c := 2) (r := 0) (by decide) (by decide) rfl hm ht hp ⟨S, ?_, hc, hu, FC.rf S⟩ (fun S1 h1 => ⟨0, MO_thr h1 0 ?_⟩)
        · unfold f_X8_canonical f_X8_canonical_0
          rw [X8_needSet_y S hv, oX_0, X8_needSet_y S hto, oX_0, oG_t (inB_n hv (by omega)), nI_clamp (show v < 2 ^ 31 by omega), (hc.ms hv).2.1, h0, if_pos (show nI 0 = 0 from rfl)]
        · unfold f_X9_canonical f_X9_canonical_0 f_X9_canonical_35 f_X9_canonical_40
          rw [X9_isSet_y S1 hv, oB_s, if_neg (by decide), X9_isSet_y S1 hto, oB_s, if_neg (by decide), X9_many h1.1 hv, oB_s, h0, if_pos (show nI 0 = 0 from rfl), X9_ref2, oB_s, if_neg (by decide)]
      · have hne : ¬ nI (t.1 v).length = 0 := nI_ne0 (by omega) (by omega)
        by_cases hl : Low (t.1 v) t.2
        · obtain ⟨S1, Z, e1, m1, can1, u1, f1⟩ := X8_makeCanonical hok hm1 hm2 hl (show 1 ≤ (t.1 v).length by omega) (show v < 20 by omega) (hc.ms hv) hu hc.md
          have hc1 : RepC S1 t p := hc.fr f1 (by simp) (by simp)
          refine gI_ok [(1, 1), (3, 2)] (r := nI Z.length) (t' := put4 t to Z t.2) (p' := t :: p.take 3) hm (ht.put (can1.ok hok hm1 hm2) hm1 hm2) (OKp.push ht hp) ?_ (fun S3 h3 => ?_)
          · unfold f_X8_canonical f_X8_canonical_0
            rw [X8_needSet_y S hv, oX_0, X8_needSet_y S hto, oX_0, oG_t (inB_n hv (by omega)), nI_clamp (show v < 2 ^ 31 by omega), (hc.ms hv).2.1, if_neg hne, (X8_below hc ht hv).1 hl, oX_0, oG_t (inB_n hv (by omega)), e1, oV_s, hc1.md]
            exact CO_rep hc1 u1 (FC.of f1 (by simp) (by simp)) m1 hto _ (fun S2 q => by rw [q.2.1])
          · obtain ⟨r, e, hr⟩ := X9_isLow ht h3.1 hv
            obtain ⟨S4, e4, m4, f4⟩ := h3.sv
            obtain ⟨Z2, can2, mo2⟩ := c61_l (p := t :: p.take 3) ht hv hto hl (show 1 ≤ (t.1 v).length by omega) (S0 := S3) FU 0 S4 m4 (fun j hj => absurd hj (by omega)) f4 (by omega) (by unfold FU; omega)
            rw [can2.uq can1] at mo2
            unfold f_X9_canonical f_X9_canonical_0 f_X9_canonical_40
            rw [X9_isSet_y S3 hv, oB_s, if_neg (by decide), X9_isSet_y S3 hto, oB_s, if_neg (by decide), X9_many h3.1 hv, oB_s, if_neg hne, e, oB_s, if_neg (fun z => (hr.z.mp z) hl), X9_refused0, oB_s, if_pos rfl, e4, oV_s, X9_many m4.1 hv, oB_s]
            exact mo2
        · refine gI_thr (n := 3) (c := 2) (r := 0) (by decide) (by decide) rfl hm ht hp ⟨S, ?_, hc, hu, FC.rf S⟩ (fun S1 h1 => ⟨0, MO_thr h1 0 ?_⟩)
          · unfold f_X8_canonical f_X8_canonical_0
            rw [X8_needSet_y S hv, oX_0, X8_needSet_y S hto, oX_0, oG_t (inB_n hv (by omega)), nI_clamp (show v < 2 ^ 31 by omega), (hc.ms hv).2.1, if_neg hne, (X8_below hc ht hv).2 hl, oX_n S _ _ (by decide)]
          · obtain ⟨r, e, hr⟩ := X9_isLow ht h1.1 hv
            unfold f_X9_canonical f_X9_canonical_0 f_X9_canonical_35 f_X9_canonical_40
            rw [X9_isSet_y S1 hv, oB_s, if_neg (by decide), X9_isSet_y S1 hto, oB_s, if_neg (by decide), X9_many h1.1 hv, oB_s, if_neg hne, e, oB_s, if_pos (hr.z.mpr hl), X9_ref2, oB_s, if_neg (by decide)]
