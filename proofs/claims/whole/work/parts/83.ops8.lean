def etv (p k : Nat) : Nat := 2 * p * k + k * k % p
def etl (p k : Nat) : List Nat := (List.range k).map (etv p)
theorem etl_s (p k : Nat) : etl p (k + 1) = etl p k ++ [etv p k] := by
  unfold etl
  rw [List.range_succ, List.map_append]
  rfl
theorem etl_len (p k : Nat) : (etl p k).length = k := by
  unfold etl
  rw [List.length_map, List.length_range]
theorem etv_lt {p : Nat} (hp : 1 ≤ p) {a b : Nat} (h : a < b) : etv p a < etv p b := by
  unfold etv
  have h1 := Nat.mod_lt (a * a) (show 0 < p by omega)
  have h2 : 2 * p * (a + 1) ≤ 2 * p * b := Nat.mul_le_mul_left _ h
  rw [Nat.mul_add, Nat.mul_one] at h2
  omega
theorem etl_srt {p : Nat} (hp : 1 ≤ p) (k : Nat) : Srt (etl p k) := by
  unfold etl Srt
  rw [List.pairwise_map]
  exact List.pairwise_lt_range.imp (fun h => etv_lt hp h)
theorem etv_b {p k : Nat} (h1 : 3 ≤ p) (h2 : p ≤ 23) (hk : k < p) : etv p k ≤ 2000 := by
  unfold etv
  have h3 := Nat.mod_lt (k * k) (show 0 < p by omega)
  have h4 : 2 * p * k ≤ 46 * 22 := Nat.mul_le_mul (by omega) (by omega)
  omega
theorem etl_mem {p k x : Nat} : x ∈ etl p k ↔ ∃ i, i < k ∧ x = etv p i := by
  unfold etl
  rw [List.mem_map]
  constructor
  · rintro ⟨i, hi, e⟩; exact ⟨i, List.mem_range.mp hi, e.symm⟩
  · rintro ⟨i, hi, e⟩; exact ⟨i, List.mem_range.mpr hi, e.symm⟩
theorem etl_ok {p : Nat} (h1 : 3 ≤ p) (h2 : p ≤ 23) : MOK (etl p p) := ⟨etl_srt (by omega) p, by rw [etl_len]; omega, fun x hx => by
  obtain ⟨i, hi, e⟩ := etl_mem.mp hx
  rw [e]; exact etv_b h1 h2 hi⟩
theorem etc_l {p to : Nat} (h1 : 3 ≤ p) (h2 : p ≤ 23) : ∀ (n k : Nat) (S : ST), MS S 20 (etl p k) → k ≤ p → p < n + k → ∃ S', f_X8_erdosTuran_17 n S (nI p) (nI to) (nI k) = oV (f_X8_replace S' (nI to) (fi S' (30 + 0))) (fun (S2 : ST) => oB (f_X2_span S2 20) (fun (r4 : Int32) (S3 : ST) => some (0, r4, S3))) ∧ MS S' 20 (etl p p) ∧ FR [20] [20] [] S S'
  | 0, k, S, _, _, h => absurd h (by omega)
  | n + 1, k, S, hm, k1, k2 => by
    unfold f_X8_erdosTuran_17
    by_cases hk : k = p
    · rw [hk, if_pos (nI_le (Nat.le_refl _) (by omega))]
      rw [hk] at hm
      exact ⟨S, rfl, hm, FR.rf _ _ _ S⟩
    · have hkk : k * k ≤ 23 * 23 := Nat.mul_le_mul (by omega) (by omega)
      rw [if_neg (nI_ge (show k < p by omega) (by omega)), pk_mul, residue_n S (by omega) (by omega) (by omega), oB_s, show (2 : Int32) = nI 2 from rfl, pk_mul, pk_mul, nI_add]
      obtain ⟨S1, e1, m1, f1⟩ := hm.push (by rw [etl_len]; omega) (etv p k)
      rw [show f_X2_push S 20 (nI (2 * p * k + k * k % p)) = some S1 from e1, oV_s, oL_s, nI_1]
      rw [← etl_s] at m1
      obtain ⟨S2, e2, m2, f2⟩ := etc_l (to := to) h1 h2 n (k + 1) S1 m1 (by omega) (by omega)
      exact ⟨S2, e2, m2, f1.tr f2⟩
theorem span_k {l : List Nat} (hs : Srt l) : ∀ S2, MS S2 20 l → oB (f_X2_span S2 20) (fun (r4 : Int32) (S3 : ST) => some ((0 : Nat), r4, S3)) = some (0, nI (spanOf l), S2) := fun S2 q => by
  rw [q.span hs.ends, oB_s]
  rfl
theorem put4_to (t : (Nat → List Nat) × Nat) (to : Nat) (l : List Nat) (m : Nat) : (put4 t to l m).1 to = l := if_pos rfl
theorem len_k {t : (Nat → List Nat) × Nat} {p : List ((Nat → List Nat) × Nat)} {to m : Nat} {l : List Nat} (hto : to < 4) (hs : Srt l) : ∀ S2, RepM S2 (put4 t to l m) p → f_X9_lengthOf S2 (nI to) = some (nI (spanOf l), S2) := fun S2 q => by
  have := X9_lengthOf q.1 hto (by rw [put4_to]; exact hs.ends)
  rw [put4_to] at this
  exact this
theorem etm_l {t : (Nat → List Nat) × Nat} {q : List ((Nat → List Nat) × Nat)} {p to : Nat} (h1 : 3 ≤ p) (h2 : p ≤ 23) (hto : to < 4) {S0 : ST} : ∀ (n k : Nat) (S : ST), RepM S t q → MW S (rv (etv p) k) → FR [50, 52] AMo [] (sI S0 51 0) S → k ≤ p → p < n + k → MO (f_X9_erdosTuran_42 n S (nI p) (nI to) (nI k)) S0 0 (nI (spanOf (etl p p))) (put4 t to (etl p p) t.2) q
  | 0, k, S, _, _, _, _, h => absurd h (by omega)
  | n + 1, k, S, h, hw, hf, k1, k2 => by
    have hb : ∀ k, k ≤ p → ∀ x, x ∈ rv (etv p) k → x ≤ 2000 := fun k hk x hx => by
      obtain ⟨i, hi, e⟩ := rv_mem.mp hx
      rw [e]; exact etv_b h1 h2 (by omega)
    unfold f_X9_erdosTuran_42
    by_cases hk : k = p
    · rw [hk, if_pos (nI_le (Nat.le_refl _) (by omega))]
      rw [hk] at hw
      have e : srt (rv (etv p) p) = etl p p := srt_ext (srt_srt _) (etl_srt (by omega) p) (fun x => by rw [srt_mem (hb p (Nat.le_refl _)), rv_mem, etl_mem])
      have hmm := hw.fin (hb _ (Nat.le_refl _))
      rw [e] at hmm
      exact MO_put h hmm hto hf _ (fun S2 q2 => by rw [len_k hto (etl_srt (by omega) p) S2 q2, oB_s])
    · have hkk : k * k ≤ 23 * 23 := Nat.mul_le_mul (by omega) (by omega)
      have hle := etv_b h1 h2 (show k < p by omega)
      rw [if_neg (nI_ge (show k < p by omega) (by omega)), oG_t (by unfold nz; exact decide_eq_true (nI_ne0 (by omega) (by omega))), pk_mul, pk_rem (by omega) (by omega) (by omega), show (2 : Int32) = nI 2 from rfl, pk_mul, pk_mul, nI_add]
      obtain ⟨S1, e1, w1, f1⟩ := hw.comes (fun x hx => by have := hb k (by omega) x hx; omega) (by rw [rv_len]; omega) (v := etv p k) (by omega)
      rw [show f_X9_comes S (nI (2 * p * k + k * k % p)) = some S1 from e1, oV_s, oL_s, nI_1]
      exact etm_l h1 h2 hto n (k + 1) S1 (h.fr f1 (by simp) (by simp) (by simp)) w1 (hf.tr (f1.wk (by simp) (by simp [AMo]) (by simp))) (by omega) (by omega)
theorem J_erdosTuran {S : ST} (h : INV S) (a b : Int32) : ∃ S', g_erdosTuran S a b = some S' ∧ INV S' := by
  obtain ⟨t, p, hc, hm, hu, ht, hp⟩ := h
  show ∃ S', gI (oY (f_X8_erdosTuran S a b) [(1, 1), (2, 2)] kI) (fun S1 => f_X9_erdosTuran S1 a b) = some S' ∧ INV S'
  rcases set_or b with hb | ⟨to, hto, rfl⟩
  · refine gI_thr (n := 1) (c := 1) (r := 0) (by decide) (by decide) rfl hm ht hp ⟨S, ?_, hc, hu, FC.rf S⟩ (fun S1 h1 => ⟨0, MO_thr h1 0 ?_⟩)
    · unfold f_X8_erdosTuran f_X8_erdosTuran_0
      rw [X8_needSet_n S hb, oX_n S _ _ (by decide)]
    · unfold f_X9_erdosTuran f_X9_erdosTuran_0 f_X9_erdosTuran_24
      rw [X9_isSet_n S1 hb, oB_s, if_pos rfl, X9_ref1, oB_s, if_neg (by decide)]
  · rcases rng_or a 3 23 (by decide) (by decide) with hb | ⟨q, q1, q2, rfl⟩
    · refine gI_thr (n := 2) (c := 2) (r := 0) (by decide) (by decide) rfl hm ht hp ⟨S, ?_, hc, hu, FC.rf S⟩ (fun S1 h1 => ⟨0, MO_thr h1 0 ?_⟩)
      · unfold f_X8_erdosTuran f_X8_erdosTuran_0
        rw [X8_needSet_y S hto, oX_0, X8_needPrime_n S hb, oX_n S _ _ (by decide)]
      · unfold f_X9_erdosTuran f_X9_erdosTuran_0 f_X9_erdosTuran_24
        rw [X9_isSet_y S1 hto, oB_s, if_neg (by decide), X9_isPrime_n S1 hb, oB_s, if_pos rfl, X9_ref2, oB_s, if_neg (by decide)]
    · by_cases hpr : Pr q
      · refine gI_ok [(1, 1), (2, 2)] (r := nI (spanOf (etl q q))) (t' := put4 t to (etl q q) t.2) (p' := t :: p.take 3) hm (ht.put (etl_ok q1 q2) ht.2.1 ht.2.2) (OKp.push ht hp) ?_ (fun S1 h1 => ?_)
        · unfold f_X8_erdosTuran f_X8_erdosTuran_0
          obtain ⟨S1, e1, m1, f1⟩ := MS.empty S 20
          obtain ⟨S2, e2, m2, f2⟩ := etc_l (to := to) q1 q2 FU 0 S1 m1 (by omega) (by unfold FU; omega)
          have fall : FR [20] [20] [] S S2 := (f1.wk (by simp) (by simp) (by simp)).tr f2
          have hc1 : RepC S2 t p := hc.fr fall (by simp) (by simp)
          rw [X8_needSet_y S hto, oX_0, (X8_needPrime S q1 q2).1 hpr, oX_0, e1, oV_s]
          have := CO_rep (S := S) (m := t.2) hc1 (hu.fr fall (by simp) (by simp) (by simp)) (FC.of fall (by simp) (by simp)) m2 hto (fun (S2 : ST) => oB (f_X2_span S2 20) (fun (r4 : Int32) (S3 : ST) => some (0, r4, S3))) (r := nI (spanOf (etl q q))) (span_k (etl_srt (by omega) q))
          rw [← hc1.md, ← e2] at this
          exact this
        · obtain ⟨r, e, hr⟩ := X9_isPrime S1 q1 q2
          obtain ⟨S2, e2, m2, f2⟩ := h1.sv
          obtain ⟨S3, e3, m3, f3⟩ := MW.begins S2
          unfold f_X9_erdosTuran f_X9_erdosTuran_0 f_X9_erdosTuran_24
          rw [X9_isSet_y S1 hto, oB_s, if_neg (by decide), e, oB_s, if_neg (fun z => (hr.z.mp z) hpr), X9_refused0, oB_s, if_pos rfl, e2, oV_s, e3, oV_s]
          exact etm_l q1 q2 hto FU 0 S3 (m2.fr f3 (by simp) (by simp) (by simp)) m3 (f2.tr (f3.wk (by simp) (by simp) (by simp))) (by omega) (by unfold FU; omega)
      · refine gI_thr (n := 2) (c := 2) (r := 0) (by decide) (by decide) rfl hm ht hp ⟨S, ?_, hc, hu, FC.rf S⟩ (fun S1 h1 => ⟨0, MO_thr h1 0 ?_⟩)
        · unfold f_X8_erdosTuran f_X8_erdosTuran_0
          rw [X8_needSet_y S hto, oX_0, (X8_needPrime S q1 q2).2 hpr, oX_n S _ _ (by decide)]
        · obtain ⟨r, e, hr⟩ := X9_isPrime S1 q1 q2
          unfold f_X9_erdosTuran f_X9_erdosTuran_0 f_X9_erdosTuran_24
          rw [X9_isSet_y S1 hto, oB_s, if_neg (by decide), e, oB_s, if_pos (hr.z.mpr hpr), X9_ref2, oB_s, if_neg (by decide)]
/-! residues -/
def rsv (p i : Nat) : Nat := (i + 1) * (i + 1) % p
theorem rsv_lt {p i : Nat} (h : 1 ≤ p) : rsv p i < p := Nat.mod_lt _ h
theorem rsc_l {p to : Nat} (h1 : 3 ≤ p) (h2 : p ≤ 23) : ∀ (n i : Nat) (S : ST), BR S 0 (rv (rsv p) i) → i + 1 ≤ p → p < n + i + 1 → ∃ S', f_X8_residues_17 n S (nI p) (nI to) (nI (i + 1)) = oV (f_X8_replace S' (nI to) (nI p)) (fun (S3 : ST) => some (0, (fi S3 20), S3)) ∧ MS S' 20 (srt (rv (rsv p) (p - 1))) ∧ FR [20] [20] [0] S S'
  | 0, i, S, _, _, h => absurd h (by omega)
  | n + 1, i, S, hb, k1, k2 => by
    unfold f_X8_residues_17
    by_cases hk : i + 1 = p
    · rw [hk, if_pos (nI_le (Nat.le_refl _) (by omega))]
      rw [show i = p - 1 by omega] at hb
      obtain ⟨S1, e1, m1, f1⟩ := hb.spill (i := 20) (Nat.le_trans (srt_len _) (by rw [rv_len]; omega))
      rw [e1, oV_s]
      exact ⟨S1, rfl, m1, f1.wk (by simp) (by simp) (by simp)⟩
    · have hkk : (i + 1) * (i + 1) ≤ 23 * 23 := Nat.mul_le_mul (by omega) (by omega)
      have hlt := rsv_lt (p := p) (i := i) (by omega)
      rw [if_neg (nI_ge (show i + 1 < p by omega) (by omega)), pk_mul, residue_n S (by omega) (by omega) (by omega), oB_s]
      obtain ⟨S1, e1, b1, f1⟩ := hb.put (k := rsv p i) (by omega)
      rw [show f_X0_put S 0 (nI ((i + 1) * (i + 1) % p)) = some S1 from e1, oV_s, oL_s, nI_1]
      obtain ⟨S2, e2, m2, f2⟩ := rsc_l (to := to) h1 h2 n (i + 1) S1 b1 (by omega) (by omega)
      exact ⟨S2, e2, m2, (f1.wk (by simp) (by simp) (by simp)).tr f2⟩
theorem rsm_l {t : (Nat → List Nat) × Nat} {q : List ((Nat → List Nat) × Nat)} {p to : Nat} (h1 : 3 ≤ p) (h2 : p ≤ 23) (hto : to < 4) {S0 : ST} : ∀ (n i : Nat) (S : ST), RepM S t q → MW S (rv (rsv p) i) → FR [50, 52] AMo [] (sI S0 51 0) S → i + 1 ≤ p → p < n + i + 1 → MO (f_X9_residues_42 n S (nI p) (nI to) (nI (i + 1))) S0 0 (nI (srt (rv (rsv p) (p - 1))).length) (put4 t to (srt (rv (rsv p) (p - 1))) p) q
  | 0, i, S, _, _, _, _, h => absurd h (by omega)
  | n + 1, i, S, h, hw, hf, k1, k2 => by
    have hb : ∀ k, ∀ x, x ∈ rv (rsv p) k → x < p := fun k x hx => by
      obtain ⟨i, hi, e⟩ := rv_mem.mp hx
      rw [e]; exact rsv_lt (by omega)
    unfold f_X9_residues_42
    by_cases hk : i + 1 = p
    · rw [hk, if_pos (nI_le (Nat.le_refl _) (by omega)), oG_t (by decide), oL_s]
      rw [show i = p - 1 by omega] at hw
      have f0 := FR.sA S 30 (upd (ai S 30) (Int32.toNatClampNeg 0) (nI p))
      have hmm := (hw.fin (fun x hx => by have := hb _ x hx; omega)).fr f0 (by simp) (by simp)
      exact MO_put (h.mod p) hmm hto (hf.tr (f0.wk (by simp) (by simp [AMo]) (by simp))) _ (fun S2 _ => rfl)
    · have hkk : (i + 1) * (i + 1) ≤ 23 * 23 := Nat.mul_le_mul (by omega) (by omega)
      have hlt := rsv_lt (p := p) (i := i) (by omega)
      rw [if_neg (nI_ge (show i + 1 < p by omega) (by omega)), oG_t (by unfold nz; exact decide_eq_true (nI_ne0 (by omega) (by omega))), pk_mul, pk_rem (by omega) (by omega) (by omega)]
      obtain ⟨S1, e1, w1, f1⟩ := hw.comes (fun x hx => by have := hb i x hx; omega) (by rw [rv_len]; omega) (v := rsv p i) (by omega)
      rw [show f_X9_comes S (nI ((i + 1) * (i + 1) % p)) = some S1 from e1, oV_s, oL_s, nI_1]
      exact rsm_l h1 h2 hto n (i + 1) S1 (h.fr f1 (by simp) (by simp) (by simp)) w1 (hf.tr (f1.wk (by simp) (by simp [AMo]) (by simp))) (by omega) (by omega)
theorem J_residues {S : ST} (h : INV S) (a b : Int32) : ∃ S', g_residues S a b = some S' ∧ INV S' := by
  obtain ⟨t, p, hc, hm, hu, ht, hp⟩ := h
  show ∃ S', gI (oY (f_X8_residues S a b) [(1, 1), (2, 2)] kI) (fun S1 => f_X9_residues S1 a b) = some S' ∧ INV S'
  rcases set_or b with hb | ⟨to, hto, rfl⟩
  · refine gI_thr (n := 1) (c := 1) (r := 0) (by decide) (by decide) rfl hm ht hp ⟨S, ?_, hc, hu, FC.rf S⟩ (fun S1 h1 => ⟨0, MO_thr h1 0 ?_⟩)
    · unfold f_X8_residues f_X8_residues_0
      rw [X8_needSet_n S hb, oX_n S _ _ (by decide)]
    · unfold f_X9_residues f_X9_residues_0 f_X9_residues_24
      rw [X9_isSet_n S1 hb, oB_s, if_pos rfl, X9_ref1, oB_s, if_neg (by decide)]
  · rcases rng_or a 3 23 (by decide) (by decide) with hb | ⟨q, q1, q2, rfl⟩
    · refine gI_thr (n := 2) (c := 2) (r := 0) (by decide) (by decide) rfl hm ht hp ⟨S, ?_, hc, hu, FC.rf S⟩ (fun S1 h1 => ⟨0, MO_thr h1 0 ?_⟩)
      · unfold f_X8_residues f_X8_residues_0
        rw [X8_needSet_y S hto, oX_0, X8_needPrime_n S hb, oX_n S _ _ (by decide)]
      · unfold f_X9_residues f_X9_residues_0 f_X9_residues_24
        rw [X9_isSet_y S1 hto, oB_s, if_neg (by decide), X9_isPrime_n S1 hb, oB_s, if_pos rfl, X9_ref2, oB_s, if_neg (by decide)]
    · by_cases hpr : Pr q
      · have hnew : MOK (srt (rv (rsv q) (q - 1))) := MOK_srt (fun x hx => by
          obtain ⟨i, hi, e⟩ := rv_mem.mp hx
          have := rsv_lt (p := q) (i := i) (by omega)
          omega) (by rw [rv_len]; omega)
        refine gI_ok [(1, 1), (2, 2)] (r := nI (srt (rv (rsv q) (q - 1))).length) (t' := put4 t to (srt (rv (rsv q) (q - 1))) q) (p' := t :: p.take 3) hm (ht.put hnew (by omega) (by omega)) (OKp.push ht hp) ?_ (fun S1 h1 => ?_)
        · unfold f_X8_residues f_X8_residues_0
          obtain ⟨S1, e1, b1, f1⟩ := BR.wipe S 0
          obtain ⟨S2, e2, m2, f2⟩ := rsc_l (to := to) q1 q2 FU 0 S1 b1 (by omega) (by unfold FU; omega)
          have fall : FR [20] [20] [0] S S2 := (f1.wk (by simp) (by simp) (by simp)).tr f2
          have hc1 : RepC S2 t p := hc.fr fall (by simp) (by simp)
          rw [X8_needSet_y S hto, oX_0, (X8_needPrime S q1 q2).1 hpr, oX_0, e1, oV_s]
          have := CO_rep (S := S) (m := q) hc1 (hu.fr fall (by simp) (by simp) (by simp)) (FC.of fall (by simp) (by simp)) m2 hto (fun (S3 : ST) => some (0, (fi S3 20), S3)) (r := nI (srt (rv (rsv q) (q - 1))).length) (fun S2 z => by rw [z.2.1])
          rw [← e2] at this
          exact this
        · obtain ⟨r, e, hr⟩ := X9_isPrime S1 q1 q2
          obtain ⟨S2, e2, m2, f2⟩ := h1.sv
          obtain ⟨S3, e3, m3, f3⟩ := MW.begins S2
          unfold f_X9_residues f_X9_residues_0 f_X9_residues_24
          rw [X9_isSet_y S1 hto, oB_s, if_neg (by decide), e, oB_s, if_neg (fun z => (hr.z.mp z) hpr), X9_refused0, oB_s, if_pos rfl, e2, oV_s, e3, oV_s]
          exact rsm_l q1 q2 hto FU 0 S3 (m2.fr f3 (by simp) (by simp) (by simp)) m3 (f2.tr (f3.wk (by simp) (by simp) (by simp))) (by omega) (by unfold FU; omega)
      · refine gI_thr (n := 2) (c := 2) (r := 0) (by decide) (by decide) rfl hm ht hp ⟨S, ?_, hc, hu, FC.rf S⟩ (fun S1 h1 => ⟨0, MO_thr h1 0 ?_⟩)
        · unfold f_X8_residues f_X8_residues_0
          rw [X8_needSet_y S hto, oX_0, (X8_needPrime S q1 q2).2 hpr, oX_n S _ _ (by decide)]
        · obtain ⟨r, e, hr⟩ := X9_isPrime S1 q1 q2
          unfold f_X9_residues f_X9_residues_0 f_X9_residues_24
          rw [X9_isSet_y S1 hto, oB_s, if_neg (by decide), e, oB_s, if_pos (hr.z.mpr hpr), X9_ref2, oB_s, if_neg (by decide)]
/-! Ruzsa's construction -/
def rzv (p g i : Nat) : Nat := (p * (i + 1) + (p - 1) * pwr g p (i + 1)) % (p * (p - 1))
theorem rz_b {p g k : Nat} (h1 : 3 ≤ p) (h2 : p ≤ 23) (hk : k ≤ 23) : p * k + (p - 1) * pwr g p k ≤ 2000 ∧ 6 ≤ p * (p - 1) ∧ p * (p - 1) ≤ 506 := by
  have h3 := pwr_lt (g := g) (p := p) (by omega) k
  have h4 : p * k ≤ 23 * 23 := Nat.mul_le_mul h2 hk
  have h5 : (p - 1) * pwr g p k ≤ 22 * 23 := Nat.mul_le_mul (by omega) (by omega)
  have h6 : p * (p - 1) ≤ 23 * 22 := Nat.mul_le_mul h2 (by omega)
  have h7 : 3 * 2 ≤ p * (p - 1) := Nat.mul_le_mul h1 (by omega)
  omega
theorem rzc_l {p g to : Nat} (h1 : 3 ≤ p) (h2 : p ≤ 23) (hg : g < p) : ∀ (n i : Nat) (S : ST), BR S 0 (rv (rzv p g) i) → i + 1 ≤ p → p < n + i + 1 → ∃ S', f_X8_ruzsa_46 n S (nI p) (nI g) (nI to) (nI (p * (p - 1))) (nI (pwr g p i)) (nI (i + 1)) = oV (f_X8_replace S' (nI to) (nI (p * (p - 1)))) (fun (S3 : ST) => oB (f_X2_span S3 20) (fun (r5 : Int32) (S4 : ST) => some (0, r5, S4))) ∧ MS S' 20 (srt (rv (rzv p g) (p - 1))) ∧ FR [20] [20] [0] S S'
  | 0, i, S, _, _, h => absurd h (by omega)
  | n + 1, i, S, hb, k1, k2 => by
    unfold f_X8_ruzsa_46
    by_cases hk : i + 1 = p
    · rw [hk, if_pos (nI_le (Nat.le_refl _) (by omega))]
      rw [show i = p - 1 by omega] at hb
      obtain ⟨S1, e1, m1, f1⟩ := hb.spill (i := 20) (Nat.le_trans (srt_len _) (by rw [rv_len]; omega))
      rw [e1, oV_s]
      exact ⟨S1, rfl, m1, f1.wk (by simp) (by simp) (by simp)⟩
    · obtain ⟨b1, b2, b3⟩ := rz_b (g := g) (k := i + 1) h1 h2 (by omega)
      have hp := pwr_lt (g := g) (p := p) (by omega) i
      have hmul : pwr g p i * g ≤ 23 * 23 := Nat.mul_le_mul (by omega) (by omega)
      have hlt : rzv p g i < p * (p - 1) := Nat.mod_lt _ (by omega)
      rw [if_neg (nI_ge (show i + 1 < p by omega) (by omega)), pk_mul, residue_n S (by omega) (by omega) (by omega), oB_s, show nI p - (1 : Int32) = nI (p - 1) from z_sub (b := 1) (by omega), show pwr g p i * g % p = pwr g p (i + 1) from rfl, pk_mul, pk_mul, nI_add, residue_n S (by omega) (by omega) (by omega), oB_s]
      obtain ⟨S1, e1, b1, f1⟩ := hb.put (k := rzv p g i) (by omega)
      rw [show f_X0_put S 0 (nI ((p * (i + 1) + (p - 1) * pwr g p (i + 1)) % (p * (p - 1)))) = some S1 from e1, oV_s, oL_s, nI_1]
      obtain ⟨S2, e2, m2, f2⟩ := rzc_l (to := to) h1 h2 hg n (i + 1) S1 b1 (by omega) (by omega)
      exact ⟨S2, e2, m2, (f1.wk (by simp) (by simp) (by simp)).tr f2⟩
theorem rzm_l {t : (Nat → List Nat) × Nat} {q : List ((Nat → List Nat) × Nat)} {p g to : Nat} (h1 : 3 ≤ p) (h2 : p ≤ 23) (hg : g < p) (hto : to < 4) {S0 : ST} : ∀ (n i : Nat) (S : ST), RepM S t q → MW S (rv (rzv p g) i) → FR [50, 52] AMo [] (sI S0 51 0) S → i + 1 ≤ p → p < n + i + 1 → MO (f_X9_ruzsa_54 n S (nI p) (nI g) (nI to) (nI (pwr g p i)) (nI (i + 1))) S0 0 (nI (spanOf (srt (rv (rzv p g) (p - 1))))) (put4 t to (srt (rv (rzv p g) (p - 1))) (p * (p - 1))) q
  | 0, i, S, _, _, _, _, h => absurd h (by omega)
  | n + 1, i, S, h, hw, hf, k1, k2 => by
    obtain ⟨b1, b2, b3⟩ := rz_b (g := g) (k := i + 1) h1 h2 (by omega)
    have hb : ∀ k, ∀ x, x ∈ rv (rzv p g) k → x < p * (p - 1) := fun k x hx => by
      obtain ⟨i, hi, e⟩ := rv_mem.mp hx
      rw [e]; exact Nat.mod_lt _ (by omega)
    unfold f_X9_ruzsa_54
    by_cases hk : i + 1 = p
    · rw [hk, if_pos (nI_le (Nat.le_refl _) (by omega))]
      rw [show i = p - 1 by omega] at hw
      have hmm := hw.fin (fun x hx => by have := hb _ x hx; omega)
      obtain ⟨S2, e2, m2, _, f2⟩ := h.becomes hmm hto
      rw [e2, oB_s, oG_t (by decide), oL_s, show nI p - (1 : Int32) = nI (p - 1) from z_sub (b := 1) (by omega), pk_mul]
      have f3 := FR.sA S2 30 (upd (ai S2 30) (Int32.toNatClampNeg 0) (nI (p * (p - 1))))
      have m3 : RepM (sA S2 30 (upd (ai S2 30) (Int32.toNatClampNeg 0) (nI (p * (p - 1))))) (put4 t to (srt (rv (rzv p g) (p - 1))) (p * (p - 1))) q := m2.mod (p * (p - 1))
      refine MO_ok (hf.tr ((f2.tr f3).wk (by simp) (by simp [AMo]) (by simp))) m3 ?_
      rw [len_k hto (srt_srt _) _ m3, oB_s]
    · have hp := pwr_lt (g := g) (p := p) (by omega) i
      have hmul : pwr g p i * g ≤ 23 * 23 := Nat.mul_le_mul (by omega) (by omega)
      have hlt : rzv p g i < p * (p - 1) := Nat.mod_lt _ (by omega)
      rw [if_neg (nI_ge (show i + 1 < p by omega) (by omega)), oG_t (by unfold nz; exact decide_eq_true (nI_ne0 (by omega) (by omega))), pk_mul, pk_rem (by omega) (by omega) (by omega), oL_s, show nI p - (1 : Int32) = nI (p - 1) from z_sub (b := 1) (by omega), show pwr g p i * g % p = pwr g p (i + 1) from rfl, pk_mul, pk_mul, pk_mul, nI_add, oG_t (by unfold nz; exact decide_eq_true (nI_ne0 (by omega) (by omega))), pk_rem (by omega) (by omega) (by omega)]
      obtain ⟨S1, e1, w1, f1⟩ := hw.comes (fun x hx => by have := hb i x hx; omega) (by rw [rv_len]; omega) (v := rzv p g i) (by omega)
      rw [show f_X9_comes S (nI ((p * (i + 1) + (p - 1) * pwr g p (i + 1)) % (p * (p - 1)))) = some S1 from e1, oV_s, oL_s, nI_1]
      exact rzm_l h1 h2 hg hto n (i + 1) S1 (h.fr f1 (by simp) (by simp) (by simp)) w1 (hf.tr (f1.wk (by simp) (by simp [AMo]) (by simp))) (by omega) (by omega)
theorem J_ruzsa {S : ST} (h : INV S) (a b c : Int32) : ∃ S', g_ruzsa S a b c = some S' ∧ INV S' := by
  obtain ⟨t, p, hc, hm, hu, ht, hp⟩ := h
  show ∃ S', gI (oY (f_X8_ruzsa S a b c) [(1, 1), (2, 2)] kI) (fun S1 => f_X9_ruzsa S1 a b c) = some S' ∧ INV S'
  rcases set_or c with hb | ⟨to, hto, rfl⟩
  · refine gI_thr (n := 1) (c := 1) (r := 0) (by decide) (by decide) rfl hm ht hp ⟨S, ?_, hc, hu, FC.rf S⟩ (fun S1 h1 => ⟨0, MO_thr h1 0 ?_⟩)
    · unfold f_X8_ruzsa f_X8_ruzsa_0
      rw [X8_needSet_n S hb, oX_n S _ _ (by decide)]
    · unfold f_X9_ruzsa f_X9_ruzsa_0 f_X9_ruzsa_32
      rw [X9_isSet_n S1 hb, oB_s, if_pos rfl, X9_ref1, oB_s, if_neg (by decide)]
  · rcases rng_or a 3 23 (by decide) (by decide) with hb | ⟨q, q1, q2, rfl⟩
    · refine gI_thr (n := 2) (c := 2) (r := 0) (by decide) (by decide) rfl hm ht hp ⟨S, ?_, hc, hu, FC.rf S⟩ (fun S1 h1 => ⟨0, MO_thr h1 0 ?_⟩)
      · unfold f_X8_ruzsa f_X8_ruzsa_0
        rw [X8_needSet_y S hto, oX_0, X8_needPrime_n S hb, oX_n S _ _ (by decide)]
      · unfold f_X9_ruzsa f_X9_ruzsa_0 f_X9_ruzsa_31 f_X9_ruzsa_32
        rw [X9_isSet_y S1 hto, oB_s, if_neg (by decide), X9_isPrime_n S1 hb, oB_s, if_pos rfl, X9_ref2, oB_s, if_neg (by decide)]
    · by_cases hpr : Pr q
      · obtain ⟨r8, e8, hr8⟩ := X8_root S b q1 q2
        by_cases hroot : ∃ g, b = nI g ∧ Root g q
        · obtain ⟨g, rfl, hg⟩ := hroot
          obtain ⟨b1, b2, b3⟩ := rz_b (p := q) (g := g) (k := 1) q1 q2 (by omega)
          have hnew : MOK (srt (rv (rzv q g) (q - 1))) := MOK_srt (fun x hx => by
            obtain ⟨i, hi, e⟩ := rv_mem.mp hx
            have : rzv q g i < q * (q - 1) := Nat.mod_lt _ (by omega)
            omega) (by rw [rv_len]; omega)
          refine gI_ok [(1, 1), (2, 2)] (r := nI (spanOf (srt (rv (rzv q g) (q - 1))))) (t' := put4 t to (srt (rv (rzv q g) (q - 1))) (q * (q - 1))) (p' := t :: p.take 3) hm (ht.put hnew (by omega) (by omega)) (OKp.push ht hp) ?_ (fun S1 h1 => ?_)
          · unfold f_X8_ruzsa f_X8_ruzsa_0
            obtain ⟨S1, e1, b1, f1⟩ := BR.wipe S 0
            obtain ⟨S2, e2, m2, f2⟩ := rzc_l (to := to) q1 q2 hg.2.1 FU 0 S1 b1 (by omega) (by unfold FU; omega)
            have fall : FR [20] [20] [0] S S2 := (f1.wk (by simp) (by simp) (by simp)).tr f2
            have hc1 : RepC S2 t p := hc.fr fall (by simp) (by simp)
            rw [X8_needSet_y S hto, oX_0, (X8_needPrime S q1 q2).1 hpr, oX_0, e8, oB_s, if_neg (fun z => (hr8.z.mp z) ⟨g, rfl, hg⟩), oL_s, show nI q - (1 : Int32) = nI (q - 1) from z_sub (b := 1) (by omega), pk_mul, e1, oV_s]
            have := CO_rep (S := S) (m := q * (q - 1)) hc1 (hu.fr fall (by simp) (by simp) (by simp)) (FC.of fall (by simp) (by simp)) m2 hto (fun (S2 : ST) => oB (f_X2_span S2 20) (fun (r4 : Int32) (S3 : ST) => some (0, r4, S3))) (r := nI (spanOf (srt (rv (rzv q g) (q - 1))))) (span_k (srt_srt _))
            rw [← e2] at this
            exact this
          · obtain ⟨r, e, hr⟩ := X9_isPrime S1 q1 q2
            obtain ⟨r9, e9, hr9⟩ := X9_root S1 (nI g) q1 q2 hpr
            obtain ⟨S2, e2, m2, f2⟩ := h1.sv
            obtain ⟨S3, e3, m3, f3⟩ := MW.begins S2
            unfold f_X9_ruzsa f_X9_ruzsa_0 f_X9_ruzsa_32
            rw [X9_isSet_y S1 hto, oB_s, if_neg (by decide), e, oB_s, if_neg (fun z => (hr.z.mp z) hpr), e9, oB_s, if_neg (fun z => (hr9.z.mp z) ⟨g, rfl, hg⟩), X9_refused0, oB_s, if_pos rfl, e2, oV_s, e3, oV_s]
            exact rzm_l q1 q2 hg.2.1 hto FU 0 S3 (m2.fr f3 (by simp) (by simp) (by simp)) m3 (f2.tr (f3.wk (by simp) (by simp) (by simp))) (by omega) (by unfold FU; omega)
        · refine gI_thr (n := 2) (c := 2) (r := 0) (by decide) (by decide) rfl hm ht hp ⟨S, ?_, hc, hu, FC.rf S⟩ (fun S1 h1 => ⟨0, MO_thr h1 0 ?_⟩)
          · unfold f_X8_ruzsa f_X8_ruzsa_0
            rw [X8_needSet_y S hto, oX_0, (X8_needPrime S q1 q2).1 hpr, oX_0, e8, oB_s, if_pos (hr8.z.mpr hroot)]
          · obtain ⟨r, e, hr⟩ := X9_isPrime S1 q1 q2
            obtain ⟨r9, e9, hr9⟩ := X9_root S1 b q1 q2 hpr
            unfold f_X9_ruzsa f_X9_ruzsa_0 f_X9_ruzsa_31 f_X9_ruzsa_32
            rw [X9_isSet_y S1 hto, oB_s, if_neg (by decide), e, oB_s, if_neg (fun z => (hr.z.mp z) hpr), e9, oB_s, if_pos (hr9.z.mpr hroot), X9_ref2, oB_s, if_neg (by decide)]
      · refine gI_thr (n := 2) (c := 2) (r := 0) (by decide) (by decide) rfl hm ht hp ⟨S, ?_, hc, hu, FC.rf S⟩ (fun S1 h1 => ⟨0, MO_thr h1 0 ?_⟩)
        · unfold f_X8_ruzsa f_X8_ruzsa_0
          rw [X8_needSet_y S hto, oX_0, (X8_needPrime S q1 q2).2 hpr, oX_n S _ _ (by decide)]
        · obtain ⟨r, e, hr⟩ := X9_isPrime S1 q1 q2
          unfold f_X9_ruzsa f_X9_ruzsa_0 f_X9_ruzsa_31 f_X9_ruzsa_32
          rw [X9_isSet_y S1 hto, oB_s, if_neg (by decide), e, oB_s, if_pos (hr.z.mpr hpr), X9_ref2, oB_s, if_neg (by decide)]
