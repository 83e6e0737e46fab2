/-! multipliers -/
theorem em_mul (t a s m : Int) : (t * (a % m) - s) % m = (t * a - s) % m := by
  rw [Int.sub_emod, Int.mul_emod, Int.emod_emod, ← Int.mul_emod, ← Int.sub_emod]
theorem sub_toInt {a : Nat} {x : Int32} (ha : a < 2 ^ 30) (h1 : -2 ^ 30 < x.toInt) (h2 : x.toInt < 2 ^ 30) : (nI a - x).toInt = a - x.toInt := by
  rw [Int32.toInt_sub, nI_toInt (by omega), Int.bmod_eq_of_le (by omega) (by omega)]
/-- y times t, moved back by s -/
def phi (m t : Nat) (s : Int) (y : Nat) : Nat := (((t : Int) * y - s) % m).toNat
theorem phi_c {m t : Nat} (hm : 1 ≤ m) (s : Int) (y : Nat) : (phi m t s y : Int) = ((t : Int) * y - s) % m := by
  unfold phi
  exact Int.toNat_of_nonneg (Int.emod_nonneg _ (by omega))
theorem phi_lt {m t : Nat} (hm : 1 ≤ m) (s : Int) (y : Nat) : phi m t s y < m := by
  have h1 := phi_c (t := t) hm s y
  have h2 := Int.emod_lt_of_pos ((t : Int) * y - s) (show (0 : Int) < m by omega)
  omega
theorem phi_inj {m t : Nat} (hm : 1 ≤ m) (hg : Nat.gcd m t = 1) {s : Int} {y z : Nat} (hy : y < m) (hz : z < m) (h : phi m t s y = phi m t s z) : y = z := by
  have h1 : ((t : Int) * y - s) % m = ((t : Int) * z - s) % m := by rw [← phi_c hm, ← phi_c hm, h]
  rw [Int.emod_sub_cancel_right] at h1
  have h2 : t * y % m = t * z % m := by
    have : ((t * y % m : Nat) : Int) = ((t * z % m : Nat) : Int) := by
      rw [Int.natCast_emod, Int.natCast_emod, Int.natCast_mul, Int.natCast_mul]; exact h1
    exact Int.ofNat.inj this
  have key : ∀ a b : Nat, a < m → b ≤ a → t * a % m = t * b % m → a = b := fun a b ha hab e => by
    have h3 := Nat.sub_mod_eq_zero_of_mod_eq e
    rw [← Nat.mul_sub] at h3
    have h4 : m ∣ (a - b) := Nat.Coprime.dvd_of_dvd_mul_left hg (Nat.dvd_of_mod_eq_zero h3)
    have h5 := Nat.eq_zero_of_dvd_of_lt h4 (by omega)
    omega
  by_cases hyz : z ≤ y
  · exact key y z hy hyz h2
  · exact (key z y hz (by omega) h2.symm).symm
theorem phi_sh {m t d : Nat} (hm : 1 ≤ m) (hd : d < m) (s : Int) (y : Nat) : (phi m t s y + m - t * d % m) % m = phi m t s ((y + m - d) % m) := by
  have hlt := Nat.mod_lt (t * d) (show 0 < m by omega)
  have e : (((phi m t s y + m - t * d % m) % m : Nat) : Int) = (phi m t s ((y + m - d) % m) : Int) := by
    rw [phi_c hm, Int.natCast_emod, Int.natCast_emod, em_mul]
    rw [show ((phi m t s y + m - t * d % m : Nat) : Int) = (phi m t s y : Int) + m - ((t * d % m : Nat) : Int) by omega]
    rw [show ((y + m - d : Nat) : Int) = (y : Int) + m - d by omega]
    rw [phi_c hm, Int.natCast_emod, Int.natCast_mul, Int.sub_emod_emod]
    have e1 : ((t : Int) * y - s) % m + m - (t : Int) * d = ((t : Int) * y - s) % m - ((t : Int) * d - m) := by omega
    rw [e1, Int.emod_sub_emod]
    have e2 : (t : Int) * ((y : Int) + m - d) - s = ((t : Int) * y - s - ((t : Int) * d - m)) + m * ((t : Int) - 1) := by
      rw [Int.mul_sub, Int.mul_add, Int.mul_sub, Int.mul_one, Int.mul_comm (m : Int) t]
      omega
    rw [e2, Int.add_mul_emod_self_left]
  exact Int.ofNat.inj e
theorem on_l {l : List Nat} (hs : Srt l) {m t : Nat} {s : Int} (hm : 1 ≤ m) (hg : Nat.gcd m t = 1) (hlow : Low l m) (h : ∀ y, y ∈ l → phi m t s y ∈ l) : ∀ x, x ∈ l → ∃ y, y ∈ l ∧ phi m t s y = x := fun x hx => by
  refine Classical.byContradiction (fun q => ?_)
  have hnd : (l.map (phi m t s)).Nodup := by
    unfold List.Nodup
    rw [List.pairwise_map]
    exact List.Pairwise.imp_of_mem (fun {a b} ha hb hab e => Nat.ne_of_lt hab (phi_inj hm hg (hlow a ha) (hlow b hb) e)) hs
  have hnot : x ∉ l.map (phi m t s) := fun z => by
    obtain ⟨y, y1, y2⟩ := List.mem_map.mp z
    exact q ⟨y, y1, y2⟩
  have := List.Nodup.length_le_of_subset (List.nodup_cons.mpr ⟨hnot, hnd⟩) (l₂ := l) (fun z hz => by
    rcases List.mem_cons.mp hz with e | e
    · rw [e]; exact hx
    · obtain ⟨y, y1, y2⟩ := List.mem_map.mp e
      rw [← y2]; exact h y y1)
  rw [List.length_cons, List.length_map] at this
  omega
/-- a multiplier keeps how often a difference is there -/
theorem cy_keep {l : List Nat} (hs : Srt l) {m t d : Nat} {s : Int} (hm : 2 ≤ m) (hg : Nat.gcd m t = 1) (hlow : Low l m) (h : ∀ y, y ∈ l → phi m t s y ∈ l) (h1 : 1 ≤ d) (h2 : d < m) : 1 ≤ t * d % m ∧ cy l m (t * d % m) = cy l m d := by
  have hlt := Nat.mod_lt (t * d) (show 0 < m by omega)
  have hpos : 1 ≤ t * d % m := by
    refine Classical.byContradiction (fun q => ?_)
    have h3 : m ∣ t * d := Nat.dvd_of_mod_eq_zero (by omega)
    have h4 := Nat.eq_zero_of_dvd_of_lt (Nat.Coprime.dvd_of_dvd_mul_left hg h3) h2
    omega
  refine ⟨hpos, ?_⟩
  have hon := on_l hs (by omega) hg hlow h
  rw [← cy_cN hs hlow hpos hlt, ← cy_cN hs hlow h1 h2, cN_all, cN_all]
  have hp : ((l.filter (pCy l m d)).map (phi m t s)).Perm (l.filter (pCy l m (t * d % m))) := by
    rw [List.perm_ext_iff_of_nodup]
    · intro x
      rw [List.mem_map, List.mem_filter]
      constructor
      · rintro ⟨y, hy, rfl⟩
        rw [List.mem_filter] at hy
        unfold pCy at hy ⊢
        rw [decide_eq_true_iff] at hy ⊢
        exact ⟨h y hy.1, by rw [phi_sh (by omega) h2]; exact h _ hy.2⟩
      · rintro ⟨x1, x2⟩
        unfold pCy at x2
        rw [decide_eq_true_iff] at x2
        obtain ⟨y, y1, y2⟩ := hon x x1
        obtain ⟨z, z1, z2⟩ := hon _ x2
        rw [← y2, phi_sh (by omega) h2] at z2
        have e := phi_inj (by omega) hg (hlow z z1) (Nat.mod_lt _ (by omega)) z2
        refine ⟨y, ?_, y2⟩
        rw [List.mem_filter]
        unfold pCy
        rw [decide_eq_true_iff, ← e]
        exact ⟨y1, z1⟩
    · unfold List.Nodup
      rw [List.pairwise_map]
      refine List.Pairwise.imp_of_mem (fun {a b} ha hb hab e => ?_) (List.Pairwise.filter _ hs)
      rw [List.mem_filter] at ha hb
      exact Nat.ne_of_lt hab (phi_inj (by omega) hg (hlow a ha.1) (hlow b hb.1) e)
    · exact (show Srt (l.filter (pCy l m (t * d % m))) from List.Pairwise.filter _ hs).nd
  have := hp.length_eq
  rw [List.length_map] at this
  exact this.symm
def shS (l : List Nat) (t j : Nat) : Int := (t : Int) * l.getD 0 0 - l.getD j 0
def MPj (l : List Nat) (m t j : Nat) : Prop := ∀ i, i < l.length → phi m t (shS l t j) (l.getD i 0) ∈ l
def MP (l : List Nat) (m t : Nat) : Prop := l.length = 0 ∨ ∃ j, j < l.length ∧ MPj l m t j
def mpB (l : List Nat) (m t : Nat) : Bool := decide (l.length = 0) || (List.range l.length).any fun j => (List.range l.length).all fun i => decide (phi m t (shS l t j) (l.getD i 0) ∈ l)
theorem mpB_iff {l : List Nat} {m t : Nat} : mpB l m t = true ↔ MP l m t := by
  unfold mpB MP MPj
  rw [Bool.or_eq_true, decide_eq_true_iff, List.any_eq_true]
  constructor
  · rintro (q | ⟨j, j1, j2⟩)
    · exact Or.inl q
    · refine Or.inr ⟨j, List.mem_range.mp j1, fun i hi => ?_⟩
      exact of_decide_eq_true (List.all_eq_true.mp j2 i (List.mem_range.mpr hi))
  · rintro (q | ⟨j, j1, j2⟩)
    · exact Or.inl q
    · exact Or.inr ⟨j, List.mem_range.mpr j1, List.all_eq_true.mpr (fun i hi => decide_eq_true (j2 i (List.mem_range.mp hi)))⟩
theorem phi_m {m t : Nat} (hm : 1 ≤ m) {s s' : Int} (h : s' = s % m) (y : Nat) : phi m t s' y = phi m t s y := by
  unfold phi
  rw [h, Int.sub_emod_emod]
theorem mul_b {t y : Nat} (ht : t ≤ 1000) (hy : y ≤ 1000) : t * y ≤ 1000000 := Nat.mul_le_mul ht hy
theorem ish_l {S : ST} {i m t : Nat} {l : List Nat} (hm : MS S i l) (hb : BR S 0 l) (h30 : fi S (30 + 0) = nI m) (hm1 : 2 ≤ m) (hm2 : m ≤ 1000) (hlow : Low l m) (ht : t ≤ 1000) {x : Int32} (hx1 : -2 ^ 30 < x.toInt) (hx2 : x.toInt < 2 ^ 29) : ∀ (n k : Nat), k ≤ l.length → l.length < n + k → ∃ r, f_X8_isShifted_3 n S i (nI t) x (nI k) = some (r, S) ∧ BI r (∀ i, k ≤ i → i < l.length → phi m t x.toInt (l.getD i 0) ∈ l)
  | 0, k, _, h => absurd h (by omega)
  | n + 1, k, h1, h2 => by
    have h24 := hm.1
    unfold f_X8_isShifted_3
    rw [hm.2.1]
    by_cases hk : k = l.length
    · rw [hk, if_pos (nI_le (Nat.le_refl _) (by omega))]
      exact ⟨1, rfl, BI.t (fun i i1 i2 => absurd i1 (by omega))⟩
    · have hk : k < l.length := by omega
      have hy := hlow _ (gd_mem hk)
      have hmul := mul_b ht (show l.getD k 0 ≤ 1000 by omega)
      have e : (nI (t * l.getD k 0) - x).toInt = (t : Int) * l.getD k 0 - x.toInt := by
        rw [sub_toInt (by omega) hx1 (by omega), Int.natCast_mul]
      have hlt := phi_lt (m := m) (t := t) (by omega) x.toInt (l.getD k 0)
      rw [if_neg (nI_ge hk (by omega)), hm.at hk, oB_s, h30, pk_mul, residue_z S _ (by omega) (by omega), oB_s, e, show (((t : Int) * l.getD k 0 - x.toInt) % m).toNat = phi m t x.toInt (l.getD k 0) from rfl, hb.has (by omega), oB_s]
      by_cases hin : phi m t x.toInt (l.getD k 0) ∈ l
      · rw [if_pos hin, if_neg (by decide), oL_s, nI_1]
        obtain ⟨r, e, hr⟩ := ish_l hm hb h30 hm1 hm2 hlow ht hx1 hx2 n (k + 1) (by omega) (by omega)
        refine ⟨r, e, hr.cg ⟨fun q i i1 i2 => ?_, fun q i i1 i2 => q i (by omega) i2⟩⟩
        by_cases ei : i = k
        · rw [ei]; exact hin
        · exact q i (by omega) i2
      · rw [if_neg hin, if_pos rfl]
        exact ⟨0, rfl, BI.f (fun q => hin (q k (Nat.le_refl _) hk))⟩
theorem tis_l {S : ST} {i m t : Nat} {l : List Nat} (hm : MS S i l) (hb : BR S 0 l) (h30 : fi S (30 + 0) = nI m) (hm1 : 2 ≤ m) (hm2 : m ≤ 1000) (hlow : Low l m) (ht : t ≤ 1000) : ∀ (n j : Nat), j ≤ l.length → l.length < n + j → ∃ r, f_X8_turnsIntoShift_2 n S i (nI t) (nI j) = some (r, S) ∧ BI r (∃ x, j ≤ x ∧ x < l.length ∧ MPj l m t x)
  | 0, j, _, h => absurd h (by omega)
  | n + 1, j, h1, h2 => by
    have h24 := hm.1
    unfold f_X8_turnsIntoShift_2
    rw [hm.2.1]
    by_cases hj : j = l.length
    · rw [hj, if_pos (nI_le (Nat.le_refl _) (by omega))]
      exact ⟨0, rfl, BI.f (fun ⟨x, x1, x2, _⟩ => by omega)⟩
    · have hj : j < l.length := by omega
      have hy0 := hlow _ (gd_mem (show 0 < l.length by omega))
      have hyj := hlow _ (gd_mem hj)
      have hmul := mul_b ht (show l.getD 0 0 ≤ 1000 by omega)
      have e : (nI (t * l.getD 0 0) - nI (l.getD j 0)).toInt = shS l t j := by
        rw [pk_sub_toInt (by omega) (by omega)]
        unfold shS
        rw [Int.natCast_mul]
      have hb1 : -2 ^ 30 < shS l t j := by
        unfold shS
        rw [← Int.natCast_mul]; omega
      have hb2 : shS l t j < 2 ^ 29 := by
        unfold shS
        rw [← Int.natCast_mul]; omega
      obtain ⟨r, er, hr⟩ := ish_l hm hb h30 hm1 hm2 hlow ht (x := nI (t * l.getD 0 0) - nI (l.getD j 0)) (by rw [e]; exact hb1) (by rw [e]; exact hb2) FU 0 (by omega) (by unfold FU; omega)
      rw [e] at hr
      rw [if_neg (nI_ge hj (by omega)), show f_X2_at S i 0 = some (nI (l.getD 0 0), S) from hm.at (k := 0) (by omega), oB_s, hm.at hj, oB_s, pk_mul, show f_X8_isShifted S i (nI t) (nI (t * l.getD 0 0) - nI (l.getD j 0)) = some (r, S) from er, oB_s]
      by_cases hz : r = 0
      · rw [if_pos hz, oL_s, nI_1]
        have hnot := hr.z.mp hz
        obtain ⟨r', e', hr'⟩ := tis_l hm hb h30 hm1 hm2 hlow ht n (j + 1) (by omega) (by omega)
        refine ⟨r', e', hr'.cg ⟨fun ⟨x, x1, x2, x3⟩ => ⟨x, by omega, x2, x3⟩, fun ⟨x, x1, x2, x3⟩ => ?_⟩⟩
        by_cases ex : x = j
        · rw [ex] at x3; exact absurd (fun i _ i2 => x3 i i2) hnot
        · exact ⟨x, by omega, x2, x3⟩
      · rw [if_neg hz]
        refine ⟨1, rfl, BI.t ⟨j, Nat.le_refl _, hj, fun i hi => ?_⟩⟩
        exact (Classical.byContradiction (fun q => hz (hr.z.mpr q)) : ∀ i, 0 ≤ i → i < l.length → phi m t (shS l t j) (l.getD i 0) ∈ l) i (by omega) hi
theorem kt_l {S : ST} {i m t : Nat} {l : List Nat} (hok : MOK l) (hm : MS S i l) (hT : TL S (Cs l m)) (h30 : fi S (30 + 0) = nI m) (hm1 : 2 ≤ m) (hm2 : m ≤ 1000) (hlow : Low l m) (ht : t ≤ 1000) (hg : Nat.gcd m t = 1) (h0 : 1 ≤ l.length) : ∀ (n k : Nat), 1 ≤ k → k ≤ l.length → l.length < n + k → ∃ r, f_X8_keepsTally_2 n S i (nI t) (nI k) = some (r, S) ∧ ((r = 0 ∨ r = 1) ∧ (r = 0 → ¬ MP l m t))
  | 0, k, _, _, h => absurd h (by omega)
  | n + 1, k, k1, h1, h2 => by
    have h24 := hm.1
    unfold f_X8_keepsTally_2
    rw [hm.2.1]
    by_cases hk : k = l.length
    · rw [hk, if_pos (nI_le (Nat.le_refl _) (by omega))]
      exact ⟨1, rfl, Or.inr rfl, fun e => absurd e (by decide)⟩
    · have hk : k < l.length := by omega
      obtain ⟨q1, q2⟩ := hok.d (show 0 < k by omega) hk
      have hyk := hlow _ (gd_mem hk)
      have hmul := mul_b ht (show l.getD k 0 - l.getD 0 0 ≤ 1000 by omega)
      have hmod := Nat.mod_lt (t * (l.getD k 0 - l.getD 0 0)) (show 0 < m by omega)
      rw [if_neg (nI_ge hk (by omega)), hm.at hk, oB_s, show f_X2_at S i 0 = some (nI (l.getD 0 0), S) from hm.at (k := 0) (by omega), oB_s, oL_s, z_sub (by omega), h30, pk_mul, residue_n S (by omega) (by omega) (by omega), oB_s, X5_of S (by omega), oB_s, X5_of S (by omega), oB_s, hT _ (by omega), hT _ (by omega)]
      by_cases hc : nI ((Cs l m).count (t * (l.getD k 0 - l.getD 0 0) % m)) = nI ((Cs l m).count (l.getD k 0 - l.getD 0 0))
      · rw [if_pos hc, oL_s, nI_1]
        exact kt_l hok hm hT h30 hm1 hm2 hlow ht hg h0 n (k + 1) (by omega) (by omega) (by omega)
      · rw [if_neg hc]
        refine ⟨0, rfl, Or.inl rfl, fun _ hmp => hc ?_⟩
        rcases hmp with q | ⟨j, j1, j2⟩
        · omega
        · obtain ⟨c1, c2⟩ := cy_keep hok.1 hm1 hg hlow (s := shS l t j) (fun y hy => by
            obtain ⟨x, x1, x2⟩ := mem_gd hy
            rw [← x2]; exact j2 x x1) (show 1 ≤ l.getD k 0 - l.getD 0 0 by omega) (by omega)
          rw [Cs_cnt hok.1 hlow c1 hmod, Cs_cnt hok.1 hlow (by omega) (by omega), c2]
theorem cm57_l {S : ST} {i m : Nat} {l : List Nat} (hok : MOK l) (hm : MS S i l) (hT : TL S (Cs l m)) (hb : BR S 0 l) (hU : UL S (unitsOf m)) (h30 : fi S (30 + 0) = nI m) (hm1 : 2 ≤ m) (hm2 : m ≤ 1000) (hlow : Low l m) (h0 : 1 ≤ l.length) : ∀ (n k : Nat), k ≤ (unitsOf m).length → (unitsOf m).length < n + k → f_X8_countMultipliers_57 n S i (nI (cN (mpB l m) (unitsOf m) k)) (nI k) = some (nI ((unitsOf m).filter (mpB l m)).length, S)
  | 0, k, _, h => absurd h (by omega)
  | n + 1, k, h1, h2 => by
    have hu1000 := hU.1
    unfold f_X8_countMultipliers_57 f_X8_countMultipliers_101
    rw [hU.2.1]
    by_cases hk : k = (unitsOf m).length
    · rw [hk, if_pos (nI_le (Nat.le_refl _) (by omega)), cN_all]
    · have hk : k < (unitsOf m).length := by omega
      obtain ⟨t1, t2, t3⟩ := (unitsOf_mem hm1).mp (gd_mem hk)
      have hcn : cN (mpB l m) (unitsOf m) (k + 1) = cN (mpB l m) (unitsOf m) k + if mpB l m ((unitsOf m).getD k 0) = true then 1 else 0 := rfl
      have ih := cm57_l hok hm hT hb hU h30 hm1 hm2 hlow h0 n (k + 1) (by omega) (by omega)
      rw [if_neg (nI_ge hk (by omega)), hU.at hk, oB_s]
      generalize (unitsOf m).getD k 0 = t at *
      have h24 := hm.1
      obtain ⟨r, er, hr1, hr2⟩ := kt_l hok hm hT h30 hm1 hm2 hlow (show t ≤ 1000 by omega) t3 h0 FU 1 (by omega) (by omega) (by unfold FU; omega)
      obtain ⟨r', er', hr'⟩ := tis_l hm hb h30 hm1 hm2 hlow (show t ≤ 1000 by omega) FU 0 (by omega) (by unfold FU; omega)
      rw [show f_X8_keepsTally S i (nI t) = some (r, S) from er, oB_s]
      have hmp : MP l m t ↔ ∃ x, 0 ≤ x ∧ x < l.length ∧ MPj l m t x := by
        unfold MP
        constructor
        · rintro (q | ⟨j, j1, j2⟩)
          · omega
          · exact ⟨j, by omega, j1, j2⟩
        · rintro ⟨j, _, j1, j2⟩; exact Or.inr ⟨j, j1, j2⟩
      by_cases hz : r = 0
      · have hno : ¬ mpB l m t = true := fun q => hr2 hz (mpB_iff.mp q)
        rw [if_pos hz, oL_s, nI_1]
        rw [if_neg hno, Nat.add_zero] at hcn
        rw [hcn] at ih
        exact ih
      · rw [if_neg hz, show f_X8_turnsIntoShift S i (nI t) = some (r', S) from er', oB_s]
        by_cases hz' : r' = 0
        · have hno : ¬ mpB l m t = true := fun q => (hr'.z.mp hz') (hmp.mp (mpB_iff.mp q))
          rw [if_pos hz', oL_s, nI_1]
          rw [if_neg hno, Nat.add_zero] at hcn
          rw [hcn] at ih
          exact ih
        · have hyes : mpB l m t = true := mpB_iff.mpr (hmp.mpr (Classical.byContradiction (fun q => hz' (hr'.z.mpr q))))
          rw [if_neg hz', oL_s, oL_s, nI_1, nI_1]
          rw [if_pos hyes] at hcn
          rw [hcn] at ih
          exact ih
/-- how many multipliers -/
def mulN (l : List Nat) (m : Nat) : Nat := ((unitsOf m).filter (mpB l m)).length
theorem mp_small {l : List Nat} {m t : Nat} (hm : 1 ≤ m) (hlow : Low l m) (h : l.length < 2) : MP l m t := by
  by_cases h0 : l.length = 0
  · exact Or.inl h0
  · refine Or.inr ⟨0, by omega, fun i hi => ?_⟩
    rw [show i = 0 by omega]
    have hy := hlow _ (gd_mem (show 0 < l.length by omega))
    have : phi m t (shS l t 0) (l.getD 0 0) = l.getD 0 0 := by
      have e : (phi m t (shS l t 0) (l.getD 0 0) : Int) = l.getD 0 0 := by
        rw [phi_c hm]
        unfold shS
        rw [show (t : Int) * (l.getD 0 0 : Nat) - ((t : Int) * (l.getD 0 0 : Nat) - (l.getD 0 0 : Nat)) = ((l.getD 0 0 : Nat) : Int) by omega]
        exact Int.emod_eq_of_lt (by omega) (by omega)
      exact Int.ofNat.inj e
    rw [this]
    exact gd_mem (by omega)
theorem X8_countMultipliers {S : ST} {t : (Nat → List Nat) × Nat} {p : List ((Nat → List Nat) × Nat)} (hc : RepC S t p) (hu : UN S) (ht : OKt t) {v : Nat} (hv : v < 4) (hl : Low (t.1 v) t.2) : ∃ S', f_X8_countMultipliers S v = some (nI (mulN (t.1 v) t.2), S') ∧ UN S' ∧ FR [25, 26] [24, 25] [0] S S' := by
  have hm1 := ht.2.1
  have hm2 := ht.2.2
  have hok := ht.1 v hv
  have h24 := hok.2.1
  obtain ⟨S1, e1, u1, n1, f1⟩ := hu.prepare hm1 hm2
  have hc1 : RepC S1 t p := hc.fr f1 (by simp) (by simp)
  unfold f_X8_countMultipliers f_X8_countMultipliers_0
  rw [hc.md, e1, oV_s, (hc1.ms hv).2.1]
  by_cases h2 : 2 ≤ (t.1 v).length
  · obtain ⟨S2, e2, t2, f2⟩ := TL.countCyclic hok hm2 hl (show v ≠ 24 by omega) (hc1.ms hv)
    have hc2 : RepC S2 t p := hc1.fr f2 (by simp) (by simp)
    obtain ⟨S3, e3, b3, f3⟩ := BR.hold (b := 0) (hc2.ms hv) hok.2.2
    have hc3 : RepC S3 t p := hc2.fr f3 (by simp) (by simp)
    rw [if_pos (show (2 : Int32) ≤ nI (t.1 v).length from nI_le (a := 2) h2 (by omega)), hc1.md, e2, oV_s, e3, oV_s]
    have hU3 := (u1.fr f2 (by simp) (by simp)).fr f3 (by simp) (by simp)
    refine ⟨S3, ?_, (n1.fr f2 (by simp) (by simp) (by simp)).fr f3 (by simp) (by simp) (by simp), (f1.wk (by simp) (by simp) (by simp)).tr ((f2.wk (by simp) (by simp) (by simp)).tr (f3.wk (by simp) (by simp) (by simp)))⟩
    exact cm57_l hok (hc3.ms hv) (t2.fr f3 (by simp)) b3 hU3 hc3.md hm1 hm2 hl (by omega) FU 0 (by omega) (by unfold FU; have := hU3.1; omega)
  · rw [if_neg (show ¬ (2 : Int32) ≤ nI (t.1 v).length from nI_ge (b := 2) (by omega) (by decide)), u1.2.1]
    refine ⟨S1, ?_, n1, f1.wk (by simp) (by simp) (by simp)⟩
    have : (unitsOf t.2).filter (mpB (t.1 v) t.2) = unitsOf t.2 := List.filter_eq_self.mpr (fun x _ => mpB_iff.mpr (mp_small (by omega) hl (by omega)))
    unfold mulN
    rw [this]
