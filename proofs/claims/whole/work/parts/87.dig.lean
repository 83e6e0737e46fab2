/-! the digest -/
noncomputable def fC (P : Prop) : Int32 := @ite Int32 P (Classical.propDecidable P) 1 0
theorem fC_t {P : Prop} (h : P) : fC P = 1 := if_pos h
theorem fC_f {P : Prop} (h : ¬ P) : fC P = 0 := if_neg h
theorem BI.fc {r : Int32} {P : Prop} (h : BI r P) : r = fC P := by
  rcases h with ⟨p, e⟩ | ⟨p, e⟩
  · rw [e, fC_t p]
  · rw [e, fC_f p]
noncomputable def ixv (l : List Nat) (m : Nat) : Int32 := @ite Int32 (2 ≤ l.length ∧ ∀ k, 2 ≤ k → k < m → cy l m k = cy l m 1) (Classical.propDecidable _) (nI (cy l m 1)) (-1)
theorem IX.v {l : List Nat} {m : Nat} {r : Int32} (h : IX l m r) : r = ixv l m := by
  unfold ixv
  rcases h with ⟨q, e⟩ | ⟨q, e⟩
  · rw [e, if_pos q]
  · rw [e, if_neg q]
def mx (h : Int64) (v : Int32) : Int64 := (31 : Int64) * h + Int32.toInt64 v
def mk_ (h : Int64) (l : List Nat) : Nat → Int64
  | 0 => h
  | k + 1 => mx (mk_ h l k) (nI (l.getD k 0))
noncomputable def dS5 (h : Int64) (l : List Nat) : Int64 := mx (mx (mx (mk_ (mx h (nI l.length)) l l.length) (fC (Ds l).Nodup)) (nI (run (Ds l) 2000 0))) (nI (srt (Ds l)).length)
noncomputable def dSet (h : Int64) (l : List Nat) (m : Nat) : Int64 := @ite Int64 (Low l m) (Classical.propDecidable _) (mx (mx (dS5 h l) (ixv l m)) (nI (mulN l m))) (dS5 h l)
noncomputable def dAll (h : Int64) (t : (Nat → List Nat) × Nat) : Nat → Int64
  | 0 => h
  | s + 1 => dSet (dAll h t s) (t.1 s) t.2
noncomputable def dFam (h : Int64) (t : (Nat → List Nat) × Nat) : Nat → Int64
  | 0 => h
  | k + 1 => mx (dFam h t k) (fC (fam t k 4).Nodup)
theorem mixed_e (S : ST) (h : Int64) (v : Int32) : f_X8_mixed S h (Int32.toInt64 v) = some (mx h v, S) := rfl
/-- what measureAll has left -/
def DC (S : ST) (t : (Nat → List Nat) × Nat) : Prop := ∀ x, x < 4 → BR S (x + 1) (Ds (t.1 x)) ∧ BI (fi S (40 + x)) (Ds (t.1 x)).Nodup ∧ CLS S t x x
theorem DC.fr {S S' : ST} {t : (Nat → List Nat) × Nat} (h : DC S t) (hf : FR [25, 26] [24, 25] [0] S S') : DC S' t := fun x hx => by
  obtain ⟨h1, h2, h3⟩ := h x hx
  exact ⟨h1.fr hf (by simp), by rw [hf.1 _ (by simp; omega)]; exact h2, h3.fr hf (by simp; omega)⟩
theorem ms58 {S : ST} {t : (Nat → List Nat) × Nat} {p : List ((Nat → List Nat) × Nat)} (hc : RepC S t p) (hu : UN S) (ht : OKt t) (hd : DC S t) {v : Nat} (hv : v < 4) (h : Int64) : ∃ S', f_X8_mixedSet_58 S v v (Int32.toInt64 (fC (Ds (t.1 v)).Nodup)) h = some (@ite Int64 (Low (t.1 v) t.2) (Classical.propDecidable _) (mx (mx (mx (mx (mx h (fC (Ds (t.1 v)).Nodup)) (nI (run (Ds (t.1 v)) 2000 0))) (nI (srt (Ds (t.1 v))).length)) (ixv (t.1 v) t.2)) (nI (mulN (t.1 v) t.2))) (mx (mx (mx h (fC (Ds (t.1 v)).Nodup)) (nI (run (Ds (t.1 v)) 2000 0))) (nI (srt (Ds (t.1 v))).length)), S') ∧ UN S' ∧ FR [25, 26] [24, 25] [0] S S' := by
  have hok := ht.1 v hv
  obtain ⟨b1, b2, b3⟩ := hd v hv
  obtain ⟨g, eg, hg⟩ := gr_low (hc.ms hv) hok ht.2.2
  unfold f_X8_mixedSet_58 f_X8_mixedSet_132
  rw [mixed_e, oB_s, SP.unbroken b1, oB_s, mixed_e, oB_s, b1.ones, oB_s, mixed_e, oB_s, eg, oB_s, hc.md]
  by_cases hl : Low (t.1 v) t.2
  · have hlt := hg.mpr hl
    obtain ⟨r, S1, e1, q1, f1⟩ := X8_indexOf hc ht hv hl
    have hc1 : RepC S1 t p := hc.fr f1 (by simp) (by simp)
    obtain ⟨S2, e2, u2, f2⟩ := X8_countMultipliers hc1 (hu.fr f1 (by simp) (by simp) (by simp)) ht hv hl
    rw [if_neg (show ¬ nI t.2 ≤ g from Int32.not_le.mpr hlt), e1, oB_s, mixed_e, oB_s, e2, oB_s, mixed_e, oB_s, if_pos hl, q1.v]
    exact ⟨S2, rfl, u2, (f1.wk (by simp) (by simp) (by simp)).tr f2⟩
  · rw [if_pos (show nI t.2 ≤ g from Int32.not_lt.mp (fun q => hl (hg.mp q))), if_neg hl]
    exact ⟨S, rfl, hu, FR.rf _ _ _ S⟩
theorem ms14_l {S : ST} {t : (Nat → List Nat) × Nat} {p : List ((Nat → List Nat) × Nat)} (hc : RepC S t p) (hu : UN S) (ht : OKt t) (hd : DC S t) {v : Nat} (hv : v < 4) (h : Int64) : ∀ (n k : Nat), k ≤ (t.1 v).length → (t.1 v).length < n + k → ∃ S', f_X8_mixedSet_14 n S v v (mk_ (mx h (nI (t.1 v).length)) (t.1 v) k) (nI k) = some (dSet h (t.1 v) t.2, S') ∧ UN S' ∧ FR [25, 26] [24, 25] [0] S S'
  | 0, k, _, h => absurd h (by omega)
  | n + 1, k, h1, h2 => by
    have hok := ht.1 v hv
    have h24 := hok.2.1
    unfold f_X8_mixedSet_14
    rw [(hc.ms hv).2.1]
    by_cases hk : k = (t.1 v).length
    · rw [hk, if_pos (nI_le (Nat.le_refl _) (by omega))]
      obtain ⟨b1, b2, b3⟩ := hd v hv
      obtain ⟨S1, e1, u1, f1⟩ := ms58 hc hu ht hd hv (mk_ (mx h (nI (t.1 v).length)) (t.1 v) (t.1 v).length)
      refine ⟨S1, ?_, u1, f1⟩
      unfold dSet dS5
      rw [← e1]
      by_cases hz : fi S (40 + v) = 0
      · rw [if_pos hz, fC_f (b2.z.mp hz)]
        rfl
      · rw [if_neg hz, fC_t (Classical.byContradiction (fun q => hz (b2.z.mpr q)))]
        rfl
    · have hk : k < (t.1 v).length := by omega
      rw [if_neg (nI_ge hk (by omega)), (hc.ms hv).at hk, oB_s, mixed_e, oB_s, oL_s, nI_1]
      exact ms14_l hc hu ht hd hv h n (k + 1) (by omega) (by omega)
theorem X8_mixedSet {S : ST} {t : (Nat → List Nat) × Nat} {p : List ((Nat → List Nat) × Nat)} (hc : RepC S t p) (hu : UN S) (ht : OKt t) (hd : DC S t) {v : Nat} (hv : v < 4) (h : Int64) : ∃ S', f_X8_mixedSet S h v v = some (dSet h (t.1 v) t.2, S') ∧ UN S' ∧ FR [25, 26] [24, 25] [0] S S' := by
  have h24 := (ht.1 v hv).2.1
  unfold f_X8_mixedSet f_X8_mixedSet_0
  rw [(hc.ms hv).2.1, mixed_e, oB_s]
  exact ms14_l hc hu ht hd hv h FU 0 (by omega) (by unfold FU; omega)
theorem dg66_l {S : ST} {t : (Nat → List Nat) × Nat} (hd : DC S t) (h : Int64) : ∀ (n k : Nat), k ≤ 16 → 16 < n + k → f_X8_digest_66 n S (dFam h t k) (nI k) = some (dFam h t 16, S)
  | 0, k, _, h => absurd h (by omega)
  | n + 1, k, h1, h2 => by
    unfold f_X8_digest_66 f_X8_digest_86
    by_cases hk : k = 16
    · rw [hk, if_pos (by decide)]
    · obtain ⟨r, e, hr⟩ := X8_formFamily (fun x hx => (hd x hx).2.2) (k := k) (by omega)
      have ih := dg66_l hd h n (k + 1) (by omega) (by omega)
      rw [if_neg (show ¬ (15 : Int32) < nI k from nI_nlt (a := 15) (by omega) (by decide)), e, oB_s]
      by_cases hz : r = 0
      · rw [if_pos hz, show (0 : Int64) = Int32.toInt64 0 from rfl, mixed_e, oB_s, oL_s, nI_1]
        rw [show dFam h t (k + 1) = mx (dFam h t k) (fC (fam t k 4).Nodup) from rfl, fC_f (hr.z.mp hz)] at ih
        exact ih
      · rw [if_neg hz, show (1 : Int64) = Int32.toInt64 1 from rfl, mixed_e, oB_s, oL_s, nI_1]
        rw [show dFam h t (k + 1) = mx (dFam h t k) (fC (fam t k 4).Nodup) from rfl, fC_t (Classical.byContradiction (fun q => hz (hr.z.mpr q)))] at ih
        exact ih
theorem dg32_l {t : (Nat → List Nat) × Nat} {p : List ((Nat → List Nat) × Nat)} (ht : OKt t) (h : Int64) : ∀ (n s : Nat) (S : ST), RepC S t p → UN S → DC S t → s ≤ 4 → 4 < n + s → ∃ S', f_X8_digest_32 n S (dAll h t s) (nI s) = some (dFam (dAll h t 4) t 16, S') ∧ UN S' ∧ FR [25, 26] [24, 25] [0] S S'
  | 0, s, S, _, _, _, _, h => absurd h (by omega)
  | n + 1, s, S, hc, hu, hd, h1, h2 => by
    unfold f_X8_digest_32
    by_cases hs : s = 4
    · rw [hs, if_pos (by decide)]
      exact ⟨S, dg66_l hd _ FU 0 (by omega) (by unfold FU; omega), hu, FR.rf _ _ _ S⟩
    · have hs : s < 4 := by omega
      obtain ⟨S1, e1, u1, f1⟩ := X8_mixedSet hc hu ht hd hs (dAll h t s)
      rw [if_neg (show ¬ (4 : Int32) ≤ nI s from nI_ge (b := 4) hs (by decide)), oG_t (inB_n hs (by omega)), oG_t (inB_n hs (by omega)), nI_clamp (by omega), e1, oB_s, oL_s, nI_1]
      obtain ⟨S2, e2, u2, f2⟩ := dg32_l ht h n (s + 1) S1 (hc.fr f1 (by simp) (by simp)) u1 (hd.fr f1) (by omega) (by omega)
      exact ⟨S2, e2, u2, f1.tr f2⟩
theorem X8_digest {S : ST} {t : (Nat → List Nat) × Nat} {p : List ((Nat → List Nat) × Nat)} (hc : RepC S t p) (hu : UN S) (ht : OKt t) : ∃ S', f_X8_digest S = some (dFam (dAll (mx (mx 12467 (nI p.length)) (nI t.2)) t 4) t 16, S') ∧ RepC S' t p ∧ UN S' ∧ FC S S' := by
  obtain ⟨S1, e1, x1, f1⟩ := X8_measureAll ht hc
  have hc1 : RepC S1 t p := hc.fr f1 (by simp [IF4]) (by simp)
  have hu1 : UN S1 := hu.fr f1 (by simp [IF4]) (by simp [IF4]) (by simp)
  obtain ⟨S2, e2, u2, f2⟩ := dg32_l ht (mx (mx 12467 (nI p.length)) (nI t.2)) FU 0 S1 hc1 hu1 x1 (by omega) (by unfold FU; omega)
  refine ⟨S2, ?_, hc1.fr f2 (by simp) (by simp), u2, (FC.of f1 (by simp [IF4]) (by simp)).tr (FC.of f2 (by simp) (by simp))⟩
  unfold f_X8_digest f_X8_digest_0
  rw [e1, oV_s, hc1.2.2.1, mixed_e, oB_s, hc1.md, mixed_e, oB_s]
  exact e2
/-! the reference's digest -/
def HM (S0 S : ST) (t : (Nat → List Nat) × Nat) (p : List ((Nat → List Nat) × Nat)) (h : Int64) : Prop := RepM S t p ∧ fl S 0 = h ∧ FM S0 S
theorem HM.mix {S0 S : ST} {t : (Nat → List Nat) × Nat} {p : List ((Nat → List Nat) × Nat)} {h : Int64} (q : HM S0 S t p h) (v : Int32) : ∃ S', f_X9_mix S v = some S' ∧ HM S0 S' t p (mx h v) := by
  refine ⟨sL S 0 ((31 : Int64) * fl S 0 + Int32.toInt64 v), rfl, q.1, ?_, q.2.2⟩
  show va_up (fl S) 0 ((31 : Int64) * fl S 0 + Int32.toInt64 v) 0 = _
  rw [va_up_self, q.2.1]
  rfl
theorem HM.fr {S0 S S' : ST} {t : (Nat → List Nat) × Nat} {p : List ((Nat → List Nat) × Nat)} {h : Int64} (q : HM S0 S t p h) (f : FR [] [33] [] S S') : HM S0 S' t p h := ⟨q.1.fr f (by simp) (by simp) (by simp), by rw [f.2.2.2]; exact q.2.1, q.2.2.tr (FM.of f (by simp) (by simp))⟩
theorem md140_l {S0 : ST} {t : (Nat → List Nat) × Nat} {p : List ((Nat → List Nat) × Nat)} (ht : OKt t) (h : Int64) : ∀ (n k : Nat) (S : ST), HM S0 S t p (dFam h t k) → k ≤ 16 → 16 < n + k → ∃ S', f_X9_digest_140 n S (nI k) = some (dFam h t 16, S') ∧ HM S0 S' t p (dFam h t 16)
  | 0, k, S, _, _, h => absurd h (by omega)
  | n + 1, k, S, q, h1, h2 => by
    unfold f_X9_digest_140 f_X9_digest_160
    by_cases hk : k = 16
    · rw [hk] at q
      rw [hk, if_pos (by decide), q.2.1]
      exact ⟨S, rfl, q⟩
    · obtain ⟨r, S1, e1, q1, f1⟩ := X9_areOnce ht q.1.1 (k := k) (by omega)
      rw [if_neg (show ¬ (16 : Int32) ≤ nI k from nI_ge (b := 16) (by omega) (by decide)), e1, oB_s]
      have e : dFam h t (k + 1) = mx (dFam h t k) (fC (fam t k 4).Nodup) := rfl
      by_cases hz : r = 0
      · obtain ⟨S2, e2, m2⟩ := (q.fr f1).mix 0
        rw [fC_f (q1.z.mp hz)] at e
        rw [← e] at m2
        rw [if_pos hz, e2, oV_s, oL_s, nI_1]
        exact md140_l ht h n (k + 1) S2 m2 (by omega) (by omega)
      · obtain ⟨S2, e2, m2⟩ := (q.fr f1).mix 1
        rw [fC_t (Classical.byContradiction (fun z => hz (q1.z.mpr z)))] at e
        rw [← e] at m2
        rw [if_neg hz, e2, oV_s, oL_s, nI_1]
        exact md140_l ht h n (k + 1) S2 m2 (by omega) (by omega)
theorem md85 {S0 S : ST} {t : (Nat → List Nat) × Nat} {p : List ((Nat → List Nat) × Nat)} (ht : OKt t) {v : Nat} (hv : v < 4) {h : Int64} (q : HM S0 S t p (mk_ (mx h (nI (t.1 v).length)) (t.1 v) (t.1 v).length)) (k30 : ST → Int32 → Option (Int64 × ST)) : ∃ S', f_X9_digest_85 k30 S (nI v) (fC (Ds (t.1 v)).Nodup) = k30 S' (nI (v + 1)) ∧ HM S0 S' t p (dSet h (t.1 v) t.2) := by
  unfold f_X9_digest_85 f_X9_digest_132
  obtain ⟨S1, e1, m1⟩ := q.mix (fC (Ds (t.1 v)).Nodup)
  obtain ⟨S2, e2, f2⟩ := X9_complete ht m1.1.1 hv
  obtain ⟨S3, e3, m3⟩ := (m1.fr f2).mix (nI (run (Ds (t.1 v)) 2000 0))
  obtain ⟨S4, e4, f4⟩ := X9_unlike ht m3.1.1 hv
  obtain ⟨S5, e5, m5⟩ := (m3.fr f4).mix (nI (srt (Ds (t.1 v))).length)
  obtain ⟨r, er, hr⟩ := X9_isLow ht m5.1.1 hv
  rw [e1, oV_s, e2, oB_s, e3, oV_s, e4, oB_s, e5, oV_s, er, oB_s]
  by_cases hl : Low (t.1 v) t.2
  · obtain ⟨r6, e6, q6⟩ := X9_indexOf ht m5.1.1 hv hl
    obtain ⟨S7, e7, m7⟩ := m5.mix r6
    obtain ⟨S8, e8, m8⟩ := m7.mix (nI (mulN (t.1 v) t.2))
    rw [if_neg (fun z => (hr.z.mp z) hl), e6, oB_s, e7, oV_s, X9_multipliersOf ht m7.1.1 hv hl, oB_s, e8, oV_s, oL_s, nI_1]
    refine ⟨S8, rfl, ?_⟩
    rw [q6.v] at m8
    unfold dSet dS5
    rw [if_pos hl]
    exact m8
  · rw [if_pos (hr.z.mpr hl), oL_s, nI_1]
    refine ⟨S5, rfl, ?_⟩
    unfold dSet dS5
    rw [if_neg hl]
    exact m5
theorem md37_l {S0 : ST} {t : (Nat → List Nat) × Nat} {p : List ((Nat → List Nat) × Nat)} (ht : OKt t) {v : Nat} (hv : v < 4) (h : Int64) (k30 : ST → Int32 → Option (Int64 × ST)) : ∀ (n k : Nat) (S : ST), HM S0 S t p (mk_ (mx h (nI (t.1 v).length)) (t.1 v) k) → k ≤ (t.1 v).length → (t.1 v).length + 1 < n + k → ∃ S', f_X9_digest_37 k30 n S (nI v) (nI (k + 1)) = k30 S' (nI (v + 1)) ∧ HM S0 S' t p (dSet h (t.1 v) t.2)
  | 0, k, S, _, _, h => absurd h (by omega)
  | n + 1, k, S, q, h1, h2 => by
    have h24 := (ht.1 v hv).2.1
    unfold f_X9_digest_37
    rw [X9_many q.1.1 hv, oB_s]
    by_cases hk : k = (t.1 v).length
    · rw [hk] at q
      obtain ⟨r, S1, e1, q1, f1⟩ := X9_areOnce ht q.1.1 (bit_pow v hv 0 (by omega)).2
      rw [fam_pow hv] at q1
      obtain ⟨S2, e2, m2⟩ := md85 ht hv (q.fr f1) k30
      rw [hk, if_pos (nI_lt (by omega) (by omega)), shl_4 v hv, e1, oB_s]
      refine ⟨S2, ?_, m2⟩
      rw [← e2]
      by_cases hz : r = 0
      · rw [if_pos hz, fC_f (q1.z.mp hz)]
      · rw [if_neg hz, fC_t (Classical.byContradiction (fun z => hz (q1.z.mpr z)))]
    · have hk : k < (t.1 v).length := by omega
      have hcell := (q.1.1.2 v hv).2.2 k hk
      rw [if_neg (nI_nlt (show k + 1 ≤ (t.1 v).length by omega) (by omega)), show (1 : Int32) + (25 : Int32) * nI v + nI (k + 1) = nI (0 + 2 + 25 * v + k) by rw [show (25 : Int32) = nI 25 from rfl, pk_mul, show (1 : Int32) = nI 1 from rfl, nI_add, nI_add]; congr 1; omega, oG_t (inB_n (show 0 + 2 + 25 * v + k < 101 by omega) (by omega)), nI_clamp (by omega), hcell]
      obtain ⟨S1, e1, m1⟩ := q.mix (nI ((t.1 v).getD k 0))
      rw [e1, oV_s, oL_s, nI_1]
      exact md37_l ht hv h k30 n (k + 1) S1 m1 (by omega) (by omega)
theorem md30_l {S0 : ST} {t : (Nat → List Nat) × Nat} {p : List ((Nat → List Nat) × Nat)} (ht : OKt t) (h : Int64) : ∀ (n s : Nat) (S : ST), HM S0 S t p (dAll h t s) → s ≤ 4 → 4 < n + s → ∃ S', f_X9_digest_30 n S (nI s) = some (dFam (dAll h t 4) t 16, S') ∧ HM S0 S' t p (dFam (dAll h t 4) t 16)
  | 0, s, S, _, _, h => absurd h (by omega)
  | n + 1, s, S, q, h1, h2 => by
    unfold f_X9_digest_30
    by_cases hs : s = 4
    · rw [hs] at q
      rw [hs, if_pos (by decide)]
      exact md140_l ht _ FU 0 S q (by omega) (by unfold FU; omega)
    · have hs : s < 4 := by omega
      have h24 := (ht.1 s hs).2.1
      rw [if_neg (show ¬ (4 : Int32) ≤ nI s from nI_ge (b := 4) hs (by decide))]
      have hcell := (q.1.1.2 s hs).2.1
      obtain ⟨S1, e1, m1⟩ := q.mix (nI (t.1 s).length)
      obtain ⟨S2, e2, m2⟩ := md37_l ht hs (dAll h t s) (f_X9_digest_30 n) 999999 0 S1 m1 (by omega) (by omega)
      obtain ⟨S3, e3, m3⟩ := md30_l ht h n (s + 1) S2 m2 (by omega) (by omega)
      refine ⟨S3, ?_, m3⟩
      rw [← e3, ← e2]
      rw [show FU = 999999 + 1 from rfl, f_X9_digest_37, X9_many q.1.1 hs, oB_s, if_neg (show ¬ nI (t.1 s).length < (0 : Int32) from nI_pos (by omega)), show (1 : Int32) + (25 : Int32) * nI s + 0 = nI (0 + 1 + 25 * s) by rw [show (25 : Int32) = nI 25 from rfl, pk_mul, show (1 : Int32) = nI 1 from rfl, nI_add, show (0 : Int32) = nI 0 from rfl, nI_add]; exact congrArg nI (by omega), oG_t (inB_n (show 0 + 1 + 25 * s < 101 by omega) (by omega)), nI_clamp (by omega), hcell, e1, oV_s, oL_s]
      rfl
theorem X9_digest {S : ST} {t : (Nat → List Nat) × Nat} {p : List ((Nat → List Nat) × Nat)} (h : RepM S t p) (ht : OKt t) : ∃ S', f_X9_digest S = some (dFam (dAll (mx (mx 12467 (nI p.length)) (nI t.2)) t 4) t 16, S') ∧ RepM S' t p ∧ FM S S' := by
  have q0 : HM S (sL (sI S 51 0) 0 12467) t p 12467 := ⟨h.r0, by show va_up (fl (sI S 51 0)) 0 12467 0 = _; rw [va_up_self], (show FM S (sI S 51 0) from FM.of (FR.sI S 51 0) (by simp) (by simp))⟩
  obtain ⟨S1, e1, m1⟩ := q0.mix (nI p.length)
  obtain ⟨S2, e2, m2⟩ := m1.mix (nI t.2)
  obtain ⟨S3, e3, m3⟩ := md30_l ht (mx (mx 12467 (nI p.length)) (nI t.2)) FU 0 S2 m2 (by omega) (by unfold FU; omega)
  refine ⟨S3, ?_, m3.1, m3.2.2⟩
  unfold f_X9_digest f_X9_digest_0
  rw [oL_s, oL_s, show fi (sL (sI S 51 0) 0 12467) 50 = nI p.length from q0.1.2.1, e1, oV_s, X9_modulus m1.1.1, oB_s, e2, oV_s]
  exact e3
theorem J_digest {S : ST} (h : INV S) : ∃ S', g_digest S = some S' ∧ INV S' := by
  obtain ⟨t, p, hc, hm, hu, ht, hp⟩ := h
  obtain ⟨S1, e1, c1, u1, f1⟩ := X8_digest hc hu ht
  obtain ⟨S2, e2, m2, f2⟩ := X9_digest (hm.fc f1) ht
  unfold g_digest
  rw [e1, oB_s, e2, oB_s, if_pos (by rw [lg_cmp_eq])]
  exact ⟨S2, rfl, t, p, c1.fm f2, m2, u1.fm f2, ht, hp⟩
