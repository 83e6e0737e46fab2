/-! marks modulo the modulus -/
def Low (l : List Nat) (m : Nat) : Prop := ∀ v, v ∈ l → v < m
theorem low_last {l : List Nat} (hs : Srt l) {m : Nat} (h0 : l.length ≠ 0) : Low l m ↔ l.getD (l.length - 1) 0 < m := by
  constructor
  · intro h; exact h _ (gd_mem (by omega))
  · intro h v hv
    obtain ⟨k, hk, e⟩ := mem_gd hv
    by_cases q : k = l.length - 1
    · rw [← e, q]; exact h
    · have := hs.lt (show k < l.length - 1 by omega) (by omega); omega
theorem MS.gr {S : ST} {i : Nat} {l : List Nat} (h : MS S i l) (h0 : l.length ≠ 0) : f_X2_greatest S i = some (nI (l.getD (l.length - 1) 0), S) := by
  have h24 := h.1
  unfold f_X2_greatest f_X2_greatest_0
  rw [h.2.1, show nI l.length - (1 : Int32) = nI (l.length - 1) from z_sub (b := 1) (by omega), h.at (by omega), oB_s]
theorem MS.gr0 {S : ST} {i : Nat} {l : List Nat} (h : MS S i l) (h0 : l.length = 0) : f_X2_greatest S i = some (-1, S) := by
  rw [List.length_eq_zero_iff.mp h0] at h
  exact h.greatest0
theorem m1_lt {m : Nat} (h : m < 2 ^ 31) : (-1 : Int32) < nI m := by
  rw [z_lt, nI_toInt h]
  show (-1 : Int) < m
  omega
/-- greatest mark against the modulus -/
theorem gr_low {S : ST} {i : Nat} {l : List Nat} (h : MS S i l) (hl : MOK l) {m : Nat} (hm : m ≤ 1000) : ∃ r, f_X2_greatest S i = some (r, S) ∧ (r < nI m ↔ Low l m) := by
  by_cases h0 : l.length = 0
  · refine ⟨_, h.gr0 h0, ?_⟩
    have : l = [] := List.length_eq_zero_iff.mp h0
    exact ⟨fun _ v hv => by rw [this] at hv; exact absurd hv (by simp), fun _ => m1_lt (by omega)⟩
  · refine ⟨_, h.gr h0, ?_⟩
    have := hl.le (show l.length - 1 < l.length by omega)
    rw [low_last hl.1 h0, nI_ltI (by omega) (by omega)]
theorem X8_below {S : ST} {t : (Nat → List Nat) × Nat} {p : List ((Nat → List Nat) × Nat)} (hc : RepC S t p) (ht : OKt t) {v : Nat} (hv : v < 4) : (Low (t.1 v) t.2 → f_X8_needBelowModulus S (nI v) = some (0, (), S)) ∧ (¬ Low (t.1 v) t.2 → f_X8_needBelowModulus S (nI v) = some (3, (), S)) := by
  obtain ⟨r, e, hr⟩ := gr_low (hc.ms hv) (ht.1 v hv) ht.2.2
  unfold f_X8_needBelowModulus f_X8_needBelowModulus_0
  rw [oG_t (inB_n hv (by omega)), nI_clamp (by omega), e, oB_s, hc.md]
  exact ⟨fun h => by rw [if_pos (hr.mpr h)], fun h => by rw [if_neg (fun q => h (hr.mp q))]⟩
theorem X9_isLow {S : ST} {t : (Nat → List Nat) × Nat} (ht : OKt t) (h : blk (ai S 30) 0 t) {v : Nat} (hv : v < 4) : ∃ r, f_X9_isLow S (nI v) = some (r, S) ∧ BI r (Low (t.1 v) t.2) := by
  have hok := ht.1 v hv
  have h24 := hok.2.1
  have hm := ht.2.2
  unfold f_X9_isLow f_X9_isLow_0 f_X9_isLow_27 f_X9_isLow_32
  rw [X9_many h hv, oB_s]
  by_cases h0 : (t.1 v).length = 0
  · rw [h0, if_pos (by decide), oG_t (by decide)]
    have : t.1 v = [] := List.length_eq_zero_iff.mp h0
    exact ⟨1, rfl, BI.t (fun x hx => by rw [this] at hx; exact absurd hx (by simp))⟩
  · rw [if_neg (nI_ne0 (by omega) (by omega)), X9_many h hv, oB_s, show nI (t.1 v).length - (1 : Int32) = nI ((t.1 v).length - 1) from z_sub (b := 1) (by omega), X9_markAt h hv (by omega), oB_s, X9_modulus h, oB_s]
    have hle := hok.le (show (t.1 v).length - 1 < (t.1 v).length by omega)
    have hl := low_last hok.1 (m := t.2) h0
    by_cases hc : (t.1 v).getD ((t.1 v).length - 1) 0 < t.2
    · rw [if_neg (nI_ge hc (by omega)), oG_t (by decide)]
      exact ⟨1, rfl, BI.t (hl.mpr hc)⟩
    · rw [if_pos (nI_le (by omega) (by omega)), oG_t (by decide)]
      exact ⟨0, rfl, BI.f (fun q => hc (hl.mp q))⟩
theorem X9_around {S : ST} {t : (Nat → List Nat) × Nat} (ht : OKt t) (h : blk (ai S 30) 0 t) (a : Int32) : f_X9_around S a = some (nI (a.toInt % t.2).toNat, S) := by
  have h1 : 1 ≤ t.2 := by have := ht.2.1; omega
  have h2 : t.2 < 2 ^ 31 := by have := ht.2.2; omega
  unfold f_X9_around f_X9_around_0 f_X9_around_21
  rw [X9_modulus h, oB_s, oG_t (by unfold nz; exact decide_eq_true (nI_ne0 (by omega) h2)), oL_s]
  have hr := rem_z a h1 h2
  obtain ⟨h3, h4, h5, h6⟩ := tmod_e (z := a.toInt) h1
  generalize a - a / nI t.2 * nI t.2 = v at *
  have hmod := Int.emod_lt_of_pos a.toInt (show (0 : Int) < t.2 by omega)
  by_cases hc : 0 ≤ a.toInt.tmod t.2
  · rw [if_pos (show 0 ≤ v by rw [z_le, hr]; exact hc)]
    congr 2
    exact z_nat (by rw [hr, ← h3 hc]; omega) (by omega)
  · have hc := Int.not_le.mp hc
    rw [if_neg (show ¬ 0 ≤ v by rw [z_le, hr]; exact Int.not_le.mpr hc), X9_modulus h, oB_s]
    congr 2
    have hs := h4 hc
    apply z_nat _ (by omega)
    rw [Int32.toInt_add, nI_toInt h2, hr, Int.bmod_eq_of_le (by omega) (by omega)]
    omega
/-- counting along a list -/
def cN (P : Nat → Bool) (l : List Nat) : Nat → Nat
  | 0 => 0
  | k + 1 => cN P l k + if P (l.getD k 0) = true then 1 else 0
theorem cN_len (P : Nat → Bool) (l : List Nat) : ∀ k, k ≤ l.length → cN P l k = ((l.take k).filter P).length
  | 0, _ => rfl
  | k + 1, h => by
    show cN P l k + _ = _
    rw [cN_len P l k (by omega), tk_succ (show k < l.length by omega), List.filter_append, List.length_append]
    congr 1
    generalize l.getD k 0 = z
    by_cases hz : P z = true
    · simp [hz]
    · simp [hz]
theorem cN_all (P : Nat → Bool) (l : List Nat) : cN P l l.length = (l.filter P).length := by
  rw [cN_len P l _ (Nat.le_refl _), List.take_length]
theorem cN_le (P : Nat → Bool) (l : List Nat) : ∀ k, cN P l k ≤ k
  | 0 => Nat.le_refl _
  | k + 1 => by
    have := cN_le P l k
    show cN P l k + _ ≤ _
    split <;> omega
theorem cN_cg {P Q : Nat → Bool} {l : List Nat} : ∀ k, k ≤ l.length → (∀ y, y ∈ l → (P y = true ↔ Q y = true)) → cN P l k = cN Q l k
  | 0, _, _ => rfl
  | k + 1, h, e => by
    show cN P l k + _ = cN Q l k + _
    rw [cN_cg k (by omega) e]
    have := e _ (gd_mem (show k < l.length by omega))
    by_cases hq : Q (l.getD k 0) = true
    · rw [if_pos hq, if_pos (this.mpr hq)]
    · rw [if_neg hq, if_neg (fun q => hq (this.mp q))]
theorem cN_or {P Q R : Nat → Bool} {l : List Nat} : ∀ k, k ≤ l.length → (∀ y, y ∈ l → (R y = true ↔ P y = true ∨ Q y = true) ∧ ¬ (P y = true ∧ Q y = true)) → cN R l k = cN P l k + cN Q l k
  | 0, _, _ => rfl
  | k + 1, h, e => by
    show cN R l k + _ = (cN P l k + _) + (cN Q l k + _)
    rw [cN_or k (by omega) e]
    obtain ⟨e1, e2⟩ := e _ (gd_mem (show k < l.length by omega))
    by_cases hp : P (l.getD k 0) = true
    · have hq : ¬ Q (l.getD k 0) = true := fun q => e2 ⟨hp, q⟩
      rw [if_pos hp, if_neg hq, if_pos (e1.mpr (Or.inl hp))]
      omega
    · by_cases hq : Q (l.getD k 0) = true
      · rw [if_neg hp, if_pos hq, if_pos (e1.mpr (Or.inr hq))]
        omega
      · rw [if_neg hp, if_neg hq, if_neg (fun q => (e1.mp q).elim hp hq)]
        omega
def pUp (l : List Nat) (e : Nat) (y : Nat) : Bool := decide (e ≤ y ∧ y - e ∈ l)
def pDn (l : List Nat) (e : Nat) (y : Nat) : Bool := decide (y + e ∈ l)
def pCy (l : List Nat) (m d : Nat) (y : Nat) : Bool := decide ((y + m - d) % m ∈ l)
theorem pr1_ex {l : List Nat} (hs : Srt l) {a e : Nat} (ha : a < l.length) : ∀ j, j ≤ a → ((∃ x, x < j ∧ l.getD a 0 = l.getD x 0 + e) → pr1 l a e j = 1) ∧ ((¬ ∃ x, x < j ∧ l.getD a 0 = l.getD x 0 + e) → pr1 l a e j = 0)
  | 0, _ => ⟨fun ⟨x, hx, _⟩ => absurd hx (by omega), fun _ => rfl⟩
  | j + 1, hj => by
    obtain ⟨i1, i2⟩ := pr1_ex hs (e := e) ha j (by omega)
    have hd : pr1 l a e (j + 1) = pr1 l a e j + if l.getD a 0 = l.getD j 0 + e then 1 else 0 := rfl
    rw [hd]
    by_cases hc : l.getD a 0 = l.getD j 0 + e
    · have : ¬ ∃ x, x < j ∧ l.getD a 0 = l.getD x 0 + e := fun ⟨x, hx, q⟩ => by
        have := hs.lt hx (show j < l.length by omega); omega
      rw [if_pos hc, i2 this]
      exact ⟨fun _ => rfl, fun q => absurd ⟨j, by omega, hc⟩ q⟩
    · rw [if_neg hc, Nat.add_zero]
      constructor
      · rintro ⟨x, hx, q⟩
        by_cases e1 : x = j
        · rw [e1] at q; exact absurd q hc
        · exact i1 ⟨x, by omega, q⟩
      · intro q
        exact i2 (fun ⟨x, hx, q2⟩ => q ⟨x, by omega, q2⟩)
theorem prs_cN {l : List Nat} (hs : Srt l) {e : Nat} (he : 0 < e) : ∀ n, n ≤ l.length → prs l e n = cN (pUp l e) l n
  | 0, _ => rfl
  | a + 1, h => by
    have ih := prs_cN hs he a (by omega)
    have ha : a < l.length := by omega
    obtain ⟨i1, i2⟩ := pr1_ex hs (e := e) ha a (Nat.le_refl _)
    show prs l e a + pr1 l a e a = cN (pUp l e) l a + _
    rw [ih]
    congr 1
    have key : pUp l e (l.getD a 0) = true ↔ ∃ x, x < a ∧ l.getD a 0 = l.getD x 0 + e := by
      unfold pUp
      rw [decide_eq_true_iff]
      constructor
      · rintro ⟨q1, q2⟩
        obtain ⟨x, hx, q⟩ := mem_gd q2
        refine ⟨x, ?_, by omega⟩
        by_cases hxa : x < a
        · exact hxa
        · by_cases hxe : x = a
          · rw [hxe] at q; omega
          · have := hs.lt (show a < x by omega) hx; omega
      · rintro ⟨x, hx, q⟩
        refine ⟨by omega, ?_⟩
        rw [show l.getD a 0 - e = l.getD x 0 by omega]
        exact gd_mem (by omega)
    by_cases hk : pUp l e (l.getD a 0) = true
    · rw [if_pos hk, i1 (key.mp hk)]
    · rw [if_neg hk, i2 (fun q => hk (key.mpr q))]
theorem up_dn {l : List Nat} (hs : Srt l) (e : Nat) : (l.filter (pDn l e)).length = (l.filter (pUp l e)).length := by
  have h1 : ((l.filter (pDn l e)).map (fun x => x + e)).Perm (l.filter (pUp l e)) := by
    rw [List.perm_ext_iff_of_nodup]
    · intro y
      rw [List.mem_map, List.mem_filter]
      constructor
      · rintro ⟨x, hx, rfl⟩
        rw [List.mem_filter] at hx
        unfold pDn at hx
        unfold pUp
        rw [decide_eq_true_iff] at hx ⊢
        exact ⟨hx.2, by omega, by rw [Nat.add_sub_cancel]; exact hx.1⟩
      · rintro ⟨q1, q2⟩
        unfold pUp at q2
        rw [decide_eq_true_iff] at q2
        refine ⟨y - e, ?_, by omega⟩
        rw [List.mem_filter]
        unfold pDn
        rw [decide_eq_true_iff]
        exact ⟨q2.2, by rw [Nat.sub_add_cancel q2.1]; exact q1⟩
    · unfold List.Nodup
      rw [List.pairwise_map]
      exact ((List.Pairwise.filter _ hs).imp (fun q => by omega))
    · exact (show Srt (l.filter (pUp l e)) from List.Pairwise.filter _ hs).nd
  have := h1.length_eq
  rw [List.length_map] at this
  exact this
/-- how often a difference is there modulo m -/
def cy (l : List Nat) (m d : Nat) : Nat := prs l d l.length + prs l (m - d) l.length
theorem cy_cN {l : List Nat} (hs : Srt l) {m d : Nat} (hlow : Low l m) (h1 : 1 ≤ d) (h2 : d < m) : cN (pCy l m d) l l.length = cy l m d := by
  unfold cy
  rw [prs_cN hs (by omega) _ (Nat.le_refl _), prs_cN hs (by omega) _ (Nat.le_refl _), cN_all (pUp l (m - d)), ← up_dn hs, ← cN_all, ← cN_or _ (Nat.le_refl _)]
  intro y hy
  have hym := hlow y hy
  unfold pCy pUp pDn
  rw [decide_eq_true_iff, decide_eq_true_iff, decide_eq_true_iff]
  by_cases hd : d ≤ y
  · rw [show (y + m - d) % m = y - d by rw [show y + m - d = (y - d) + m by omega, Nat.add_mod_right, Nat.mod_eq_of_lt (by omega)]]
    refine ⟨⟨fun q => Or.inl ⟨hd, q⟩, fun q => ?_⟩, fun ⟨_, q⟩ => by have := hlow _ q; omega⟩
    rcases q with q | q
    · exact q.2
    · have := hlow _ q; omega
  · rw [show (y + m - d) % m = y + (m - d) by rw [Nat.mod_eq_of_lt (by omega)]; omega]
    exact ⟨⟨fun q => Or.inr q, fun q => q.elim (fun q => absurd q.1 hd) (fun q => q)⟩, fun ⟨q, _⟩ => hd q.1⟩
theorem cyc1_cnt {l : List Nat} (hs : Srt l) {m d a : Nat} (hlow : Low l m) (h1 : 1 ≤ d) (h2 : d < m) (ha : a < l.length) : ∀ j, j ≤ a → (cyc1 l m a j).count d = pr1 l a d j + pr1 l a (m - d) j
  | 0, _ => rfl
  | j + 1, hj => by
    have ih := cyc1_cnt hs hlow h1 h2 ha j (by omega)
    have hlt := hs.lt (show j < a by omega) ha
    have hm := hlow _ (gd_mem ha)
    show ((m - (l.getD a 0 - l.getD j 0)) :: (l.getD a 0 - l.getD j 0) :: cyc1 l m a j).count d = (pr1 l a d j + if l.getD a 0 = l.getD j 0 + d then 1 else 0) + (pr1 l a (m - d) j + if l.getD a 0 = l.getD j 0 + (m - d) then 1 else 0)
    rw [List.count_cons, List.count_cons, ih]
    have e1 : ((l.getD a 0 - l.getD j 0 == d) = true) ↔ l.getD a 0 = l.getD j 0 + d := by rw [beq_iff_eq]; omega
    have e2 : ((m - (l.getD a 0 - l.getD j 0) == d) = true) ↔ l.getD a 0 = l.getD j 0 + (m - d) := by rw [beq_iff_eq]; omega
    by_cases c1 : l.getD a 0 = l.getD j 0 + d
    · by_cases c2 : l.getD a 0 = l.getD j 0 + (m - d)
      · rw [if_pos (e1.mpr c1), if_pos (e2.mpr c2), if_pos c1, if_pos c2]; omega
      · rw [if_pos (e1.mpr c1), if_neg (fun q => c2 (e2.mp q)), if_pos c1, if_neg c2]; omega
    · by_cases c2 : l.getD a 0 = l.getD j 0 + (m - d)
      · rw [if_neg (fun q => c1 (e1.mp q)), if_pos (e2.mpr c2), if_neg c1, if_pos c2]; omega
      · rw [if_neg (fun q => c1 (e1.mp q)), if_neg (fun q => c2 (e2.mp q)), if_neg c1, if_neg c2]; omega
theorem cycs_cnt {l : List Nat} (hs : Srt l) {m d : Nat} (hlow : Low l m) (h1 : 1 ≤ d) (h2 : d < m) : ∀ a, a ≤ l.length → (cycs l m a).count d = prs l d a + prs l (m - d) a
  | 0, _ => rfl
  | a + 1, ha => by
    have ih := cycs_cnt hs hlow h1 h2 a (by omega)
    show (cyc1 l m a a ++ cycs l m a).count d = (prs l d a + pr1 l a d a) + (prs l (m - d) a + pr1 l a (m - d) a)
    rw [List.count_append, ih, cyc1_cnt hs hlow h1 h2 (by omega) a (Nat.le_refl _)]
    omega
theorem Cs_cnt {l : List Nat} (hs : Srt l) {m d : Nat} (hlow : Low l m) (h1 : 1 ≤ d) (h2 : d < m) : (Cs l m).count d = cy l m d := cycs_cnt hs hlow h1 h2 _ (Nat.le_refl _)
theorem cp_l {S : ST} {t : (Nat → List Nat) × Nat} (ht : OKt t) (h : blk (ai S 30) 0 t) {v : Nat} (hv : v < 4) (hlow : Low (t.1 v) t.2) {d : Nat} (h1 : 1 ≤ d) (h2 : d < t.2) : ∀ (n k : Nat), k ≤ (t.1 v).length → (t.1 v).length < n + k → f_X9_cyclicPairs_5 n S (nI v) (nI d) (nI (cN (pCy (t.1 v) t.2 d) (t.1 v) k)) (nI k) = some (nI (cy (t.1 v) t.2 d), S)
  | 0, k, _, h2 => absurd h2 (by omega)
  | n + 1, k, hk1, hk2 => by
    have hok := ht.1 v hv
    have h24 := hok.2.1
    have hm := ht.2.2
    unfold f_X9_cyclicPairs_5 f_X9_cyclicPairs_43
    rw [X9_many h hv, oB_s]
    by_cases hk : k = (t.1 v).length
    · rw [hk, if_pos (nI_le (Nat.le_refl _) (by omega)), cy_cN hok.1 hlow h1 h2]
    · have hk : k < (t.1 v).length := by omega
      have hy := hlow _ (gd_mem hk)
      have ih := cp_l ht h hv hlow h1 h2 n (k + 1) (by omega) (by omega)
      have hz : ((nI ((t.1 v).getD k 0) - nI d).toInt % t.2).toNat = ((t.1 v).getD k 0 + t.2 - d) % t.2 := by
        rw [pk_sub_toInt (by omega) (by omega), ← Int.add_emod_right]
        rw [show ((((t.1 v).getD k 0 : Nat) : Int) - (d : Int) + (t.2 : Int)) = (((t.1 v).getD k 0 + t.2 - d : Nat) : Int) by omega]
        rfl
      rw [if_neg (nI_ge hk (by omega)), X9_markAt h hv hk, oB_s, X9_around ht h, oB_s, hz]
      have hlt : ((t.1 v).getD k 0 + t.2 - d) % t.2 < t.2 := Nat.mod_lt _ (by omega)
      obtain ⟨r, er, hr⟩ := X9_numberN h hv hok.2.2 (x := ((t.1 v).getD k 0 + t.2 - d) % t.2) (by omega)
      rw [er, oB_s]
      have hcn : cN (pCy (t.1 v) t.2 d) (t.1 v) (k + 1) = cN (pCy (t.1 v) t.2 d) (t.1 v) k + if pCy (t.1 v) t.2 d ((t.1 v).getD k 0) = true then 1 else 0 := rfl
      by_cases hin : ((t.1 v).getD k 0 + t.2 - d) % t.2 ∈ t.1 v
      · rw [if_neg (fun q => (hr.mp q) hin), oL_s, oL_s, nI_1, nI_1]
        rw [if_pos (by unfold pCy; exact decide_eq_true hin)] at hcn
        rw [hcn] at ih
        exact ih
      · rw [if_pos (hr.mpr hin), oL_s, oL_s, nI_1, show nI (cN (pCy (t.1 v) t.2 d) (t.1 v) k) + 0 = nI (cN (pCy (t.1 v) t.2 d) (t.1 v) k) from nI_add _ 0]
        rw [if_neg (by unfold pCy; exact fun q => hin (of_decide_eq_true q))] at hcn
        rw [hcn] at ih
        exact ih
theorem X9_cyclicPairs {S : ST} {t : (Nat → List Nat) × Nat} (ht : OKt t) (h : blk (ai S 30) 0 t) {v : Nat} (hv : v < 4) (hlow : Low (t.1 v) t.2) {d : Nat} (h1 : 1 ≤ d) (h2 : d < t.2) : f_X9_cyclicPairs S (nI v) (nI d) = some (nI (cy (t.1 v) t.2 d), S) := by
  have h24 := (ht.1 v hv).2.1
  exact cp_l ht h hv hlow h1 h2 FU 0 (by omega) (by unfold FU; omega)
theorem cy_le {l : List Nat} (hs : Srt l) {m d : Nat} (hlow : Low l m) (h1 : 1 ≤ d) (h2 : d < m) : cy l m d ≤ l.length := by
  rw [← cy_cN hs hlow h1 h2]
  exact cN_le _ _ _
