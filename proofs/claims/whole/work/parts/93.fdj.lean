def lvB (L : List Nat) (c : Nat) : Nat → Nat → Bool
  | 0, _ => true
  | f + 1, d => bif Nat.beq (cntN d L) c then lvB L c f (d + 1) else false
theorem al109_0 (S : ST) {v : Nat} (hv : v ≤ 31) : ∀ (f d : Nat), d ≤ v → v < f + d → f_X9_alike_109 f S (nI v) 0 (nI d) = some (-1, S)
  | 0, d, _, h => absurd h (by omega)
  | f + 1, d, h1, h2 => by
    unfold f_X9_alike_109 f_X9_alike_161 f_X9_alike_139 f_X9_alike_140
    by_cases hd : d = v
    · rw [hd, if_pos (nI_le (Nat.le_refl _) (by omega)), if_pos rfl]
    · rw [if_neg (nI_ge (show d < v by omega) (by omega)), if_pos rfl, oL_s, nI_1]
      exact al109_0 S hv f (d + 1) (by omega) (by omega)
theorem al109_l {S : ST} {v : Nat} {L : List Nat} (hv1 : 3 ≤ v) (hv : v ≤ 31) (ho : OV S v L) (hL : L.length < 2 ^ 31) : ∀ (f d k : Nat), k + d = v → k < f → f_X9_alike_109 f S (nI v) 1 (nI d) = some (if lvB L (cntN 1 L) k d = true then nI (L.count 1) else -1, S)
  | 0, d, k, _, h => absurd h (by omega)
  | f + 1, d, 0, h1, h2 => by
    unfold f_X9_alike_109 f_X9_alike_161
    rw [if_pos (nI_le (show v ≤ d by omega) (by omega)), if_neg (by decide), oG_t (by decide)]
    rw [show Int32.toNatClampNeg 1 = 1 from rfl, ho 1 (by omega)]
    rfl
  | f + 1, d, k + 1, h1, h2 => by
    have c1 := cnt_lt hL 1
    have cd := cnt_lt hL d
    unfold f_X9_alike_109 f_X9_alike_139 f_X9_alike_140
    rw [if_neg (nI_ge (show d < v by omega) (by omega)), if_neg (by decide), oG_t (inB_n (show d < 2001 by omega) (by omega)), oG_t (by decide), nI_clamp (by omega), show Int32.toNatClampNeg 1 = 1 from rfl, ho 1 (by omega), ho d (by omega)]
    show _ = some (if (bif Nat.beq (cntN d L) (cntN 1 L) then lvB L (cntN 1 L) k (d + 1) else false) = true then nI (L.count 1) else -1, S)
    by_cases e : L.count d = L.count 1
    · rw [if_pos (by rw [e]), oL_s, nI_1, beq_t (show cntN d L = cntN 1 L by rw [cntN_e, cntN_e]; exact e)]
      exact al109_l hv1 hv ho hL f (d + 1) k (by omega) (by omega)
    · rw [if_neg (z_ne cd c1 e), oL_s, nI_1, beq_f (show ¬ cntN d L = cntN 1 L by rw [cntN_e, cntN_e]; exact e), al109_0 S hv f (d + 1) (by omega) (by omega)]
      rfl
def alB (v : Nat) (r : List Nat) : Bool := lvB (ofA v (0 :: r) (0 :: r) []) (cntN 1 (ofA v (0 :: r) (0 :: r) [])) (v - 2) 2
theorem al22_l {r : List Nat} {v : Nat} (hv1 : 3 ≤ v) (hv : v ≤ 31) (hb : ∀ x, x ∈ (0 :: r) → x < v) : ∀ (f a : Nat) (S : ST) (L : List Nat), PK S r → OV S v L → a ≤ (0 :: r).length → (0 :: r).length < f + a → ∃ S', f_X9_alike_22 f S (nI r.length) (nI v) (nI a - 1) = f_X9_alike_109 FU S' (nI v) 1 2 ∧ OV S' v (ofA v (0 :: r) ((0 :: r).drop a) L) ∧ FR [] [33] [] S S'
  | 0, a, S, L, _, _, _, h => absurd h (by omega)
  | f + 1, a, S, L, hp, ho, h1, h2 => by
    have h24 := hp.1
    have hql : (0 :: r).length = r.length + 1 := List.length_cons
    unfold f_X9_alike_22
    by_cases ha : a = r.length + 1
    · rw [ha, show nI (r.length + 1) - 1 = nI r.length from nI_pred _, if_pos (nI_le (Nat.le_refl _) (by omega)), List.drop_of_length_le (by omega)]
      exact ⟨S, rfl, ho, FR.rf _ _ _ S⟩
    · have ha : a < (0 :: r).length := by omega
      have hr0 : ¬ nI r.length ≤ nI a - 1 := by
        rw [z_le, nI_toInt (by omega), show (1 : Int32) = nI 1 from rfl, pk_sub_toInt (by omega) (by omega)]
        omega
      rw [if_neg hr0]
      obtain ⟨S1, e1, q1, f1⟩ := al30_l hv1 hv ha hb (f_X9_alike_22 f) FU 0 S L hp ho (by omega) (by unfold FU; omega)
      rw [show f_X9_alike_30 (f_X9_alike_22 f) FU S (nI r.length) (nI v) (nI a - 1) (-1) = _ from e1]
      rw [List.drop_zero] at q1
      obtain ⟨S2, e2, q2, f2⟩ := al22_l hv1 hv hb f (a + 1) S1 _ (hp.fr f1 (by simp)) q1 (by omega) (by omega)
      rw [dr_c ha]
      exact ⟨S2, e2, q2, f1.tr f2⟩
theorem X9_alike {S : ST} {r : List Nat} {v : Nat} (hv1 : 3 ≤ v) (hv : v ≤ 31) (hp : PK S r) (hg : GR (v - 1) 1 r) : ∃ S', f_X9_alike S (nI r.length) (nI v) = some (if alB v r = true then nI ((ofA v (0 :: r) (0 :: r) []).count 1) else -1, S') ∧ FR [] [33] [] S S' := by
  have h24 := hp.1
  have hb : ∀ x, x ∈ (0 :: r) → x < v := fun x hx => by
    rcases List.mem_cons.mp hx with q | q
    · omega
    · have := GR_b r 1 x hg q; omega
  have hql : (0 :: r).length = r.length + 1 := List.length_cons
  obtain ⟨S1, e1, o1, f1⟩ := al2_l hv (nI r.length) FU 0 S (fun j hj => absurd hj (by omega)) (by omega) (by unfold FU; omega)
  obtain ⟨S2, e2, o2, f2⟩ := al22_l hv1 hv hb FU 0 S1 [] (hp.fr f1 (by simp)) o1 (by omega) (by unfold FU; omega)
  rw [List.drop_zero] at o2
  have hlen : (ofA v (0 :: r) (0 :: r) []).length < 2 ^ 31 := by
    rw [ofA_len]
    have : (0 :: r).length * (0 :: r).length ≤ 25 * 25 := Nat.mul_le_mul (by omega) (by omega)
    show _ + 0 < _
    omega
  refine ⟨S2, ?_, f1.tr f2⟩
  rw [show f_X9_alike S (nI r.length) (nI v) = _ from e1, show f_X9_alike_22 FU S1 (nI r.length) (nI v) (-1) = _ from e2]
  exact al109_l hv1 hv o2 hlen FU 2 (v - 2) (by omega) (by unfold FU; omega)
def fdR (v : Nat) : Nat → List Nat → Option (Option (List Nat))
  | 0, _ => none
  | f + 1, r => bif alB v r then some (some r) else match nx (v - 1) r with
    | some q => fdR v f q
    | none => some none
theorem fdR_e (v f : Nat) (r : List Nat) : fdR v (f + 1) r = bif alB v r then some (some r) else match nx (v - 1) r with
    | some q => fdR v f q
    | none => some none := rfl
def FDE (S : ST) (v k to : Nat) (c : Int32) : Option (Int32 × ST) := oV (f_X9_saves S) (fun (S3 : ST) => oV (f_X9_makes S3 (nI k - (1 : Int32))) (fun (S4 : ST) => oB (f_X9_becomes S4 (nI to)) (fun (r6 : Int32) (S5 : ST) => oG (inB 0 101) (oL (sA S5 30 (upd (ai S5 30) (Int32.toNatClampNeg 0) (nI v))) (fun (S8 : ST) => some (c, S8))))))
theorem fd80_n (S : ST) (a1 a2 a3 : Int32) (k : Nat) : f_X9_firstDifferenceSet_80 (k + 1) S a1 a2 a3 0 (-1) = some (-1, S) := by
  unfold f_X9_firstDifferenceSet_80
  rw [if_pos rfl, if_pos rfl]
theorem fd80_y (S : ST) (v k to : Nat) {c : Nat} (hc : c < 2 ^ 31) (j : Nat) : f_X9_firstDifferenceSet_80 (j + 1) S (nI v) (nI k) (nI to) 0 (nI c) = FDE S v k to (nI c) := by
  unfold f_X9_firstDifferenceSet_80
  rw [if_pos rfl, if_neg (nI_ne_m1 hc)]
  rfl
theorem fd80_l {v k to : Nat} (hv1 : 3 ≤ v) (hv : v ≤ 31) (hk1 : 2 ≤ k) (hk : k ≤ 6) : ∀ (f j : Nat) (S : ST) (r : List Nat) (o : Option (List Nat)) (a5 : Int32), fdR v f r = some o → r.length = k - 1 → PK S r → GR (v - 1) 1 r → f < j → ∃ S', FR [] [33, 35] [] S S' ∧ ((∃ q, o = some q ∧ f_X9_firstDifferenceSet_80 j S (nI v) (nI k) (nI to) 1 a5 = FDE S' v k to (nI ((ofA v (0 :: q) (0 :: q) []).count 1)) ∧ PK S' q ∧ q.length = k - 1 ∧ GR (v - 1) 1 q) ∨ (o = none ∧ f_X9_firstDifferenceSet_80 j S (nI v) (nI k) (nI to) 1 a5 = some (-1, S')))
  | f, 0, S, r, o, a5, _, _, _, _, h => absurd h (by omega)
  | 0, j + 1, S, r, o, a5, e, _, _, _, _ => absurd e (by simp [fdR])
  | f + 1, j + 1, S, r, o, a5, e, hr, hp, hg, hj => by
    have hk_1 : nI k - (1 : Int32) = nI r.length := by rw [hr]; exact z_sub (b := 1) (by omega)
    obtain ⟨i, rfl⟩ : ∃ i, j = i + 1 := ⟨j - 1, by omega⟩
    rw [fdR_e] at e
    obtain ⟨S1, e1, f1⟩ := X9_alike hv1 hv hp hg
    have hlen : (ofA v (0 :: r) (0 :: r) []).length < 2 ^ 31 := by
      rw [ofA_len, List.length_cons, hr]
      have : (k - 1 + 1) * (k - 1 + 1) ≤ 6 * 6 := Nat.mul_le_mul (by omega) (by omega)
      show _ + 0 < _
      omega
    have hc1 := cnt_lt hlen 1
    rw [f_X9_firstDifferenceSet_80, if_neg (show ¬ (1 : Int32) = 0 by decide), hk_1, e1, oB_s]
    cases hc : alB v r with
    | true =>
      rw [hc] at e
      have e : some r = o := Option.some.inj e
      rw [if_pos rfl, if_neg (nI_ne_m1 hc1)]
      unfold f_X9_firstDifferenceSet_118 f_X9_firstDifferenceSet_119
      exact ⟨S1, f1.wk (by simp) (by simp) (by simp), Or.inl ⟨r, e.symm, fd80_y S1 v k to hc1 i, hp.fr f1 (by simp), hr, hg⟩⟩
    | false =>
      rw [hc] at e
      rw [if_neg (show ¬ false = true by decide), if_pos rfl, show nI v - (1 : Int32) = nI (v - 1) from z_sub (b := 1) (by omega)]
      obtain ⟨b, S2, e2, q2, f2⟩ := X9_picksNext (show v - 1 < 2 ^ 30 by omega) (hp.fr f1 (by simp)) hg
      rw [e2, oB_s]
      unfold f_X9_firstDifferenceSet_118 f_X9_firstDifferenceSet_119
      have f12 : FR [] [33, 35] [] S S2 := (f1.wk (by simp) (by simp) (by simp)).tr (f2.wk (by simp) (by simp) (by simp))
      rcases q2 with ⟨c1, c2, _⟩ | ⟨w, c1, c2, c3⟩
      · rw [c1] at e
        have e : none = o := Option.some.inj e
        rw [c2, if_pos rfl, fd80_n]
        exact ⟨S2, f12, Or.inr ⟨e.symm, rfl⟩⟩
      · rw [c1] at e
        rw [c2, if_neg (by decide)]
        obtain ⟨g2, l2⟩ := GR_nx r 1 w hg c1
        obtain ⟨S3, f3, q3⟩ := fd80_l (to := to) hv1 hv hk1 hk f (i + 1) S2 w o (-1) e (by rw [l2, hr]) c3 g2 (by omega)
        exact ⟨S3, f12.tr f3, q3⟩
def okD (v k : Nat) : Bool := match dcl v k with
  | none => true
  | some q => decide ((0 :: q).Pairwise (· < ·)) && (decide ((0 :: q).length ≤ 24) && ((0 :: q).all (fun x => Nat.ble x 2000) && Nat.beq (cntN 1 (ofA v (0 :: q) (0 :: q) [])) (k * (k - 1) / (v - 1))))
/-- so many rows that are not alike -/
def stD (v : Nat) : Nat → List Nat → Option (List Nat)
  | 0, r => some r
  | n + 1, r => bif alB v r then none else match nx (v - 1) r with
    | some q => stD v n q
    | none => none
theorem stD_fdR {v : Nat} : ∀ {n f : Nat} {r q : List Nat}, stD v n r = some q → fdR v (n + f) r = fdR v f q
  | 0, f, r, q, e => by rw [Nat.zero_add, show r = q from Option.some.inj e]
  | n + 1, f, r, q, e => by
    have e : (bif alB v r then none else match nx (v - 1) r with
      | some q => stD v n q
      | none => none) = some q := e
    rw [show n + 1 + f = n + f + 1 by omega, fdR_e]
    cases h : alB v r with
    | true => rw [h] at e; exact absurd e (by simp)
    | false =>
      rw [h] at e
      cases h2 : nx (v - 1) r with
      | none => rw [h2] at e; exact absurd e (by simp)
      | some w => rw [h2] at e; exact stD_fdR (n := n) e
set_option maxRecDepth 1000000 in
theorem td31_0 : stD 31 400 [1, 2, 3, 4, 5] = some [1, 2, 4, 7, 8] := by decide +kernel
set_option maxRecDepth 1000000 in
theorem td31_1 : stD 31 400 [1, 2, 4, 7, 8] = some [1, 2, 5, 11, 26] := by decide +kernel
set_option maxRecDepth 1000000 in
theorem td31_2 : stD 31 400 [1, 2, 5, 11, 26] = some [1, 2, 6, 20, 24] := by decide +kernel
set_option maxRecDepth 1000000 in
theorem td31_3 : stD 31 400 [1, 2, 6, 20, 24] = some [1, 2, 8, 14, 15] := by decide +kernel
set_option maxRecDepth 1000000 in
theorem td31_4 : stD 31 400 [1, 2, 8, 14, 15] = some [1, 2, 10, 14, 15] := by decide +kernel
set_option maxRecDepth 1000000 in
theorem td31_5 : stD 31 400 [1, 2, 10, 14, 15] = some [1, 2, 12, 19, 26] := by decide +kernel
set_option maxRecDepth 1000000 in
theorem td31_6 : stD 31 400 [1, 2, 12, 19, 26] = some [1, 2, 15, 24, 25] := by decide +kernel
set_option maxRecDepth 1000000 in
theorem td31_7 : stD 31 400 [1, 2, 15, 24, 25] = some [1, 2, 22, 24, 26] := by decide +kernel
set_option maxRecDepth 1000000 in
theorem td31_8 : stD 31 400 [1, 2, 22, 24, 26] = some [1, 3, 4, 29, 30] := by decide +kernel
set_option maxRecDepth 1000000 in
theorem td31_9 : stD 31 400 [1, 3, 4, 29, 30] = some [1, 3, 6, 11, 25] := by decide +kernel
set_option maxRecDepth 1000000 in
theorem td31_10 : stD 31 400 [1, 3, 6, 11, 25] = some [1, 3, 7, 22, 29] := by decide +kernel
set_option maxRecDepth 1000000 in
theorem td31_e : fdR 31 96 [1, 3, 7, 22, 29] = some (dcl 31 6) := by decide +kernel
set_option maxRecDepth 1000000 in
theorem td31_o : okD 31 6 = true := by decide +kernel
theorem td31 : fdR 31 4496 (rg 1 5) = some (dcl 31 6) := by
  show fdR 31 (400 + (400 + (400 + (400 + (400 + (400 + (400 + (400 + (400 + (400 + (400 + (96)))))))))))) [1, 2, 3, 4, 5] = _
  rw [stD_fdR td31_0]
  rw [stD_fdR td31_1]
  rw [stD_fdR td31_2]
  rw [stD_fdR td31_3]
  rw [stD_fdR td31_4]
  rw [stD_fdR td31_5]
  rw [stD_fdR td31_6]
  rw [stD_fdR td31_7]
  rw [stD_fdR td31_8]
  rw [stD_fdR td31_9]
  rw [stD_fdR td31_10]
  exact td31_e
set_option maxRecDepth 1000000 in
theorem td16_0 : stD 16 400 [1, 2, 3, 4, 5] = some [1, 3, 6, 8, 15] := by decide +kernel
set_option maxRecDepth 1000000 in
theorem td16_1 : stD 16 400 [1, 3, 6, 8, 15] = some [1, 6, 7, 9, 12] := by decide +kernel
set_option maxRecDepth 1000000 in
theorem td16_2 : stD 16 400 [1, 6, 7, 9, 12] = some [2, 3, 9, 14, 15] := by decide +kernel
set_option maxRecDepth 1000000 in
theorem td16_3 : stD 16 400 [2, 3, 9, 14, 15] = some [2, 7, 8, 10, 15] := by decide +kernel
set_option maxRecDepth 1000000 in
theorem td16_4 : stD 16 400 [2, 7, 8, 10, 15] = some [3, 5, 13, 14, 15] := by decide +kernel
set_option maxRecDepth 1000000 in
theorem td16_5 : stD 16 400 [3, 5, 13, 14, 15] = some [4, 6, 10, 12, 14] := by decide +kernel
set_option maxRecDepth 1000000 in
theorem td16_6 : stD 16 400 [4, 6, 10, 12, 14] = some [6, 7, 11, 13, 14] := by decide +kernel
set_option maxRecDepth 1000000 in
theorem td16_e : fdR 16 203 [6, 7, 11, 13, 14] = some (dcl 16 6) := by decide +kernel
set_option maxRecDepth 1000000 in
theorem td16_o : okD 16 6 = true := by decide +kernel
theorem td16 : fdR 16 3003 (rg 1 5) = some (dcl 16 6) := by
  show fdR 16 (400 + (400 + (400 + (400 + (400 + (400 + (400 + (203)))))))) [1, 2, 3, 4, 5] = _
  rw [stD_fdR td16_0]
  rw [stD_fdR td16_1]
  rw [stD_fdR td16_2]
  rw [stD_fdR td16_3]
  rw [stD_fdR td16_4]
  rw [stD_fdR td16_5]
  rw [stD_fdR td16_6]
  exact td16_e

def chkD (v k : Nat) : Bool := bif Nat.beq k 6 && (Nat.beq v 31 || Nat.beq v 16) then true else bif Nat.ble 3 v && (Nat.ble 2 k && (Nat.ble (k + 1) v && Nat.beq (k * (k - 1) % (v - 1)) 0)) then decide (fdR v 5000 (rg 1 (k - 1)) = some (dcl v k)) && okD v k else true
set_option maxRecDepth 1000000 in
theorem tabd0 : ∀ v, v < 32 → ∀ k, k < 7 → chkD v k = true := by decide +kernel
theorem tabd {v k : Nat} (hv : v < 32) (hk : k < 7) (h1 : 3 ≤ v) (h2 : 2 ≤ k) (h3 : k < v) (h4 : k * (k - 1) % (v - 1) = 0) : ∃ f, f ≤ 5000 ∧ fdR v f (rg 1 (k - 1)) = some (dcl v k) ∧ okD v k = true := by
  by_cases a1 : v = 31 ∧ k = 6
  · rw [a1.1, a1.2]; exact ⟨4496, by decide, td31, td31_o⟩
  · by_cases a2 : v = 16 ∧ k = 6
    · rw [a2.1, a2.2]; exact ⟨3003, by decide, td16, td16_o⟩
    · have h := tabd0 v hv k hk
      unfold chkD at h
      have hz : (Nat.beq k 6 && (Nat.beq v 31 || Nat.beq v 16)) = false := by
        by_cases b1 : k = 6
        · rw [beq_t b1, beq_f (show ¬ v = 31 from fun q => a1 ⟨q, b1⟩), beq_f (show ¬ v = 16 from fun q => a2 ⟨q, b1⟩)]; rfl
        · rw [beq_f b1]; rfl
      rw [hz, cond_false, Nat.ble_eq_true_of_le h1, Nat.ble_eq_true_of_le h2, Nat.ble_eq_true_of_le (show k + 1 ≤ v from h3), beq_t h4] at h
      have h : (decide (fdR v 5000 (rg 1 (k - 1)) = some (dcl v k)) && okD v k) = true := h
      rw [Bool.and_eq_true] at h
      exact ⟨5000, by decide, of_decide_eq_true h.1, h.2⟩
theorem okD_s {v k : Nat} {q : List Nat} (h : okD v k = true) (e : dcl v k = some q) : MOK (0 :: q) ∧ (ofA v (0 :: q) (0 :: q) []).count 1 = k * (k - 1) / (v - 1) := by
  unfold okD at h
  rw [e] at h
  have h : (decide ((0 :: q).Pairwise (· < ·)) && (decide ((0 :: q).length ≤ 24) && ((0 :: q).all (fun x => Nat.ble x 2000) && Nat.beq (cntN 1 (ofA v (0 :: q) (0 :: q) [])) (k * (k - 1) / (v - 1))))) = true := h
  rw [Bool.and_eq_true, Bool.and_eq_true, Bool.and_eq_true] at h
  obtain ⟨h1, h2, h3, h4⟩ := h
  refine ⟨⟨show (0 :: q).Pairwise (· < ·) from of_decide_eq_true h1, of_decide_eq_true h2, fun x hx => Nat.le_of_ble_eq_true (List.all_eq_true.mp h3 x hx)⟩, ?_⟩
  rw [← cntN_e]
  exact Nat.beq_eq.mp h4
