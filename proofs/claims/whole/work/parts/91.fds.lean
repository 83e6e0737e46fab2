/-! difference sets: the class -/
def cntN (d : Nat) : List Nat → Nat
  | [] => 0
  | x :: l => bif Nat.beq x d then cntN d l + 1 else cntN d l
theorem cntN_e (d : Nat) : ∀ l, cntN d l = l.count d
  | [] => rfl
  | x :: l => by
    show (bif Nat.beq x d then cntN d l + 1 else cntN d l) = _
    rw [cntN_e d l]
    by_cases h : x = d
    · rw [beq_t h, h, List.count_cons_self]; rfl
    · rw [beq_f h, List.count_cons_of_ne h]; rfl
def gmx (g c : Nat) : Nat := bif Nat.ble c g then g else c
theorem gmx_e {g c : Nat} (hg : g < 2 ^ 31) (hc : c < 2 ^ 31) : (if nI g < nI c then nI c else nI g) = nI (gmx g c) := by
  unfold gmx
  cases h : Nat.ble c g with
  | true => rw [if_neg (nI_nlt (Nat.le_of_ble_eq_true h) hg)]; rfl
  | false => rw [if_pos (nI_lt (show g < c by have := ble_f h; omega) hc)]; rfl
theorem gmx_b {g c n : Nat} (hg : g ≤ n) (hc : c ≤ n) : gmx g c ≤ n := by
  unfold gmx
  cases Nat.ble c g <;> assumption
def bl (v x : Nat) : List Nat → List Nat
  | [] => []
  | y :: w => (x - y) :: (v - (x - y)) :: bl v x w
theorem bl_len (v x : Nat) : ∀ w, (bl v x w).length = 2 * w.length
  | [] => rfl
  | y :: w => by show (bl v x w).length + 1 + 1 = _; rw [bl_len v x w, List.length_cons]; omega
def gm : List Nat → List Nat → Nat → Nat
  | [], _, g => g
  | d :: B, L, g => gm B (d :: L) (gmx g (cntN d (d :: L)))
def adB : List Nat → List Nat → List Nat
  | [], L => L
  | d :: B, L => adB B (d :: L)
theorem adB_len : ∀ B L, (adB B L).length = B.length + L.length
  | [], L => by show L.length = 0 + _; omega
  | d :: B, L => by show (adB B (d :: L)).length = _; rw [adB_len B, List.length_cons, List.length_cons]; omega
theorem adB_cnt (k : Nat) : ∀ B L, (adB B L).count k = (B ++ L).count k
  | [], L => rfl
  | d :: B, L => by
    show (adB B (d :: L)).count k = _
    rw [adB_cnt k B, List.count_append, List.cons_append, List.count_cons, List.count_cons, List.count_append]
    omega
theorem TL.cg {S : ST} {L L' : List Nat} (h : TL S L) (e : ∀ k, L'.count k = L.count k) : TL S L' := fun d hd => by rw [h d hd, e d]
theorem TL.unbump {S : ST} {L : List Nat} {d : Nat} (h : TL S (d :: L)) (hd : d < 1000) : ∃ r S', f_X5_bump S (nI d) (-1) = some (r, S') ∧ TL S' L ∧ FR [] [24] [] S S' := by
  refine ⟨_, _, X5_bump S hd (-1), ?_, FR.sA S 24 _⟩
  intro k hk
  rw [ai_sA_s]
  by_cases e : k = d
  · rw [e, pk_us, h d hd, List.count_cons_self, pk_m1]
  · rw [pk_un e, h k hk, List.count_cons_of_ne (fun q => e q.symm)]
theorem gm_d (d : Nat) (B L : List Nat) (g : Nat) : gm (d :: B) L g = gm B (d :: L) (gmx g (cntN d (d :: L))) := rfl
theorem cu_l {v x : Nat} {w : List Nat} (hv : v ≤ 1000) (hx : x < v) (hw : ∀ y, y ∈ w → y < x) : ∀ (f k : Nat) (S : ST) (L : List Nat) (g : Nat), MS S 20 w → TL S L → L.length + 2 * (w.length - k) ≤ 1000000 → g ≤ 1000000 → k ≤ w.length → w.length < f + k → ∃ S', f_X5_countMark_6 f S 20 (nI x) (nI v) 1 (nI g) (nI k) = some (nI (gm (bl v x (w.drop k)) L g), S') ∧ TL S' (adB (bl v x (w.drop k)) L) ∧ gm (bl v x (w.drop k)) L g ≤ 1000000 ∧ FR [] [24] [] S S'
  | 0, k, S, L, g, _, _, _, _, _, h => absurd h (by omega)
  | f + 1, k, S, L, g, hm, ht, hL, hg, h1, h2 => by
    have h24 := hm.1
    unfold f_X5_countMark_6
    rw [hm.2.1]
    by_cases hk : k = w.length
    · rw [hk, if_pos (nI_le (Nat.le_refl _) (by omega)), List.drop_length]
      exact ⟨S, rfl, ht, hg, FR.rf _ _ _ S⟩
    · have hk : k < w.length := by omega
      have hy := hw _ (gd_mem hk)
      rw [if_neg (nI_ge hk (by omega)), hm.at hk, oB_s, oL_s, z_sub (show w.getD k 0 ≤ x by omega), dr_c hk]
      generalize w.getD k 0 = y at *
      obtain ⟨S1, e1, t1, f1⟩ := ht.bump (d := x - y) (by omega)
      have c1 : ((x - y) :: L).count (x - y) ≤ ((x - y) :: L).length := List.count_le_length
      rw [List.length_cons] at c1
      rw [e1, oB_s, oL_s, gmx_e (by omega) (by omega), z_sub (show x - y ≤ v by omega)]
      obtain ⟨S2, e2, t2, f2⟩ := t1.bump (d := v - (x - y)) (by omega)
      have c2 : ((v - (x - y)) :: (x - y) :: L).count (v - (x - y)) ≤ ((v - (x - y)) :: (x - y) :: L).length := List.count_le_length
      rw [List.length_cons, List.length_cons] at c2
      have g1 := gmx_b hg (show ((x - y) :: L).count (x - y) ≤ 1000000 by omega)
      rw [e2, oB_s, oL_s, gmx_e (by omega) (by omega), oL_s, nI_1]
      have g2 := gmx_b g1 (show ((v - (x - y)) :: (x - y) :: L).count (v - (x - y)) ≤ 1000000 by omega)
      obtain ⟨S3, e3, t3, g3, f3⟩ := cu_l hv hx hw f (k + 1) S2 _ _ ((hm.fr f1 (by simp) (by simp)).fr f2 (by simp) (by simp)) t2 (by rw [List.length_cons, List.length_cons]; omega) g2 (by omega) (by omega)
      have hgm : gm (bl v x (y :: w.drop (k + 1))) L g = gm (bl v x (w.drop (k + 1))) ((v - (x - y)) :: (x - y) :: L) (gmx (gmx g (((x - y) :: L).count (x - y))) (((v - (x - y)) :: (x - y) :: L).count (v - (x - y)))) := by
        show gm ((x - y) :: (v - (x - y)) :: bl v x (w.drop (k + 1))) L g = _
        rw [gm_d, gm_d, cntN_e, cntN_e]
      rw [hgm]
      exact ⟨S3, e3, t3, g3, f1.tr (f2.tr f3)⟩
theorem cd_l {v x : Nat} {w : List Nat} (hv : v ≤ 1000) (hx : x < v) (hw : ∀ y, y ∈ w → y < x) {L : List Nat} : ∀ (f k : Nat) (S : ST) (g : Int32), MS S 20 w → TL S (bl v x (w.drop k) ++ L) → k ≤ w.length → w.length < f + k → ∃ r S', f_X5_countMark_6 f S 20 (nI x) (nI v) (-1) g (nI k) = some (r, S') ∧ TL S' L ∧ FR [] [24] [] S S'
  | 0, k, S, g, _, _, _, h => absurd h (by omega)
  | f + 1, k, S, g, hm, ht, h1, h2 => by
    have h24 := hm.1
    unfold f_X5_countMark_6
    rw [hm.2.1]
    by_cases hk : k = w.length
    · rw [hk, if_pos (nI_le (Nat.le_refl _) (by omega))]
      rw [hk, List.drop_length] at ht
      exact ⟨g, S, rfl, ht, FR.rf _ _ _ S⟩
    · have hk : k < w.length := by omega
      have hy := hw _ (gd_mem hk)
      rw [if_neg (nI_ge hk (by omega)), hm.at hk, oB_s, oL_s, z_sub (show w.getD k 0 ≤ x by omega)]
      rw [dr_c hk] at ht
      generalize w.getD k 0 = y at *
      obtain ⟨r1, S1, e1, t1, f1⟩ := TL.unbump (d := x - y) (L := (v - (x - y)) :: (bl v x (w.drop (k + 1)) ++ L)) ht (by omega)
      rw [e1, oB_s, oL_s, z_sub (show x - y ≤ v by omega)]
      obtain ⟨r2, S2, e2, t2, f2⟩ := t1.unbump (by omega)
      rw [e2, oB_s, oL_s, oL_s, nI_1]
      obtain ⟨r3, S3, e3, t3, f3⟩ := cd_l hv hx hw f (k + 1) S2 _ ((hm.fr f1 (by simp) (by simp)).fr f2 (by simp) (by simp)) t2 (by omega) (by omega)
      exact ⟨r3, S3, e3, t3, f1.tr (f2.tr f3)⟩
def fdc (v share : Nat) : Nat → List Nat → Nat → List Nat → Option (List Nat)
  | 0, _, _, _ => some []
  | l + 1, w, last, L => lpF (fun x => bif Nat.ble (gm (bl v x (w ++ [last])) L 0) share then fdc v share l (w ++ [last]) x (adB (bl v x (w ++ [last])) L) else none) (v - l - (last + 1)) (last + 1)
/-- how the search ends -/
def ST2 (o : Option (List Nat)) (b : Int32) (S' : ST) (w L : List Nat) : Prop := (∃ r, o = some r ∧ b = 1 ∧ MS S' 20 (w ++ r)) ∨ (o = none ∧ b = 0 ∧ MS S' 20 w ∧ TL S' L)
theorem fd14_l {v share left last : Nat} {w L : List Nat} (rec : ST → Nat → Int32 → Int32 → Int32 → Option (Int32 × ST)) (hv : v ≤ 31) (hsh : share ≤ 1000) (hl : left + 1 ≤ v) (hw : (w ++ [last]).length < 24) (hlt : ∀ y, y ∈ w ++ [last] → y ≤ last) (hL : L.length + 60 * (left + 2) ≤ 100000)
    (hrec : ∀ (S : ST) (x : Nat) (L' : List Nat), last < x → x < v → L'.length + 60 * (left + 1) ≤ 100000 → MS S 20 ((w ++ [last]) ++ [x]) → TL S L' → ∃ b S', rec S 20 (nI left) (nI v) (nI share) = some (b, S') ∧ ST2 (fdc v share left (w ++ [last]) x L') b S' ((w ++ [last]) ++ [x]) L' ∧ FR [20] [20, 24] [] S S') :
    ∀ (k f x : Nat) (S : ST), v - left - x = k → last < x → x ≤ v + 1 → k < f → MS S 20 (w ++ [last]) → TL S L → ∃ b S', f_X8_finishDifferenceSet_14 rec f S 20 (nI (left + 1)) (nI v) (nI share) (nI x) = some (b, S') ∧ ST2 (lpF (fun x => bif Nat.ble (gm (bl v x (w ++ [last])) L 0) share then fdc v share left (w ++ [last]) x (adB (bl v x (w ++ [last])) L) else none) k x) b S' (w ++ [last]) L ∧ FR [20] [20, 24] [] S S'
  | k, 0, x, S, _, _, _, h, _, _ => absurd h (by omega)
  | 0, f + 1, x, S, hk, hx, hx2, _, hm, ht => by
    unfold f_X8_finishDifferenceSet_14
    rw [show nI v - nI (left + 1) = nI (v - (left + 1)) from z_sub hl, if_pos (nI_lt (show v - (left + 1) < x by omega) (by omega))]
    exact ⟨0, S, rfl, Or.inr ⟨rfl, rfl, hm, ht⟩, FR.rf _ _ _ S⟩
  | k + 1, f + 1, x, S, hk, hx, hx2, hf, hm, ht => by
    have hwx : ∀ y, y ∈ w ++ [last] → y < x := fun y hy => by have := hlt y hy; omega
    obtain ⟨S1, e1, t1, g1, f1⟩ := cu_l (show v ≤ 1000 by omega) (show x < v by omega) hwx FU 0 S L 0 hm ht (by omega) (by omega) (by omega) (by unfold FU; omega)
    rw [List.drop_zero] at e1 t1 g1
    have m1 := hm.fr f1 (by simp) (by simp)
    have hno : ∀ (g : Nat → Option (List Nat)) (S1 : ST), (∀ S2, MS S2 20 (w ++ [last]) → TL S2 L → ∃ b S', f_X8_finishDifferenceSet_14 rec f S2 20 (nI (left + 1)) (nI v) (nI share) (nI (x + 1)) = some (b, S') ∧ ST2 (lpF g k (x + 1)) b S' (w ++ [last]) L ∧ FR [20] [20, 24] [] S2 S') → g x = none → MS S1 20 (w ++ [last]) → TL S1 (adB (bl v x (w ++ [last])) L) → ∃ b S', f_X8_finishDifferenceSet_62 rec (f_X8_finishDifferenceSet_14 rec f) S1 20 (nI (left + 1)) (nI v) (nI share) (nI x) = some (b, S') ∧ ST2 (lpF g (k + 1) x) b S' (w ++ [last]) L ∧ FR [20] [20, 24] [] S1 S' := fun g S1 ih hg m1 t1 => by
      obtain ⟨r2, S2, e2, t2, f2⟩ := cd_l (show v ≤ 1000 by omega) (show x < v by omega) hwx FU 0 S1 0 m1 (t1.cg (fun k => by rw [List.drop_zero]; exact (adB_cnt k _ L).symm)) (by omega) (by unfold FU; omega)
      unfold f_X8_finishDifferenceSet_62
      rw [show f_X5_countMark S1 20 (nI x) (nI v) (-1) = some (r2, S2) from e2, oB_s, oL_s, nI_1]
      obtain ⟨b3, S3, e3, q3, f3⟩ := ih S2 (m1.fr f2 (by simp) (by simp)) t2
      exact ⟨b3, S3, e3, by rw [lpF_n hg]; exact q3, (f2.wk (by simp) (by simp) (by simp)).tr f3⟩
    have ih := fun S2 m2 t2 => fd14_l rec hv hsh hl hw hlt hL hrec k f (x + 1) S2 (by omega) (by omega) (by omega) (by omega) m2 t2
    unfold f_X8_finishDifferenceSet_14
    rw [show nI v - nI (left + 1) = nI (v - (left + 1)) from z_sub hl, if_neg (nI_nlt (show x ≤ v - (left + 1) by omega) (by omega)), show f_X5_countMark S 20 (nI x) (nI v) 1 = some (nI (gm (bl v x (w ++ [last])) L 0), S1) from e1, oB_s]
    cases hc : Nat.ble (gm (bl v x (w ++ [last])) L 0) share with
    | false =>
      have hc' := ble_f hc
      rw [if_pos (nI_lt (show share < gm (bl v x (w ++ [last])) L 0 by omega) (by omega))]
      obtain ⟨b3, S3, e3, q3, f3⟩ := hno _ S1 ih (by show (bif Nat.ble (gm (bl v x (w ++ [last])) L 0) share then _ else none) = none; rw [hc]; rfl) m1 t1
      exact ⟨b3, S3, e3, q3, (f1.wk (by simp) (by simp) (by simp)).tr f3⟩
    | true =>
      have hc' := Nat.le_of_ble_eq_true hc
      rw [if_neg (nI_nlt hc' (by omega))]
      obtain ⟨S2, e2, m2, f2⟩ := m1.push hw x
      rw [e2, oV_s, show nI (left + 1) - (1 : Int32) = nI left from nI_pred left]
      obtain ⟨b3, S3, e3, q3, f3⟩ := hrec S2 x (adB (bl v x (w ++ [last])) L) hx (by omega) (by rw [adB_len, bl_len]; omega) m2 (t1.fr f2 (by simp))
      rw [e3, oB_s]
      have hg : ∀ o, fdc v share left (w ++ [last]) x (adB (bl v x (w ++ [last])) L) = o → (bif Nat.ble (gm (bl v x (w ++ [last])) L 0) share then fdc v share left (w ++ [last]) x (adB (bl v x (w ++ [last])) L) else none) = o := fun o ho => by rw [hc]; exact ho
      have f123 : FR [20] [20, 24] [] S S3 := (f1.wk (by simp) (by simp) (by simp)).tr ((f2.wk (by simp) (by simp) (by simp)).tr f3)
      rcases q3 with ⟨r, d1, d2, d3⟩ | ⟨d1, d2, d3, d4⟩
      · rw [d2, if_neg (by decide)]
        refine ⟨1, S3, rfl, Or.inl ⟨x :: r, lpF_s (x := x) (hg _ d1), rfl, ?_⟩, f123⟩
        rw [List.append_assoc, List.singleton_append] at d3
        exact d3
      · obtain ⟨S4, e4, m4, f4⟩ := d3.pop
        rw [d2, if_pos rfl, e4, oV_s]
        obtain ⟨b5, S5, e5, q5, f5⟩ := hno _ S4 ih (hg _ d1) m4 (d4.fr f4 (by simp))
        exact ⟨b5, S5, e5, q5, f123.tr ((f4.wk (by simp) (by simp) (by simp)).tr f5)⟩
theorem fd_n {v share : Nat} (hv : v ≤ 31) (hsh : share ≤ 1000) : ∀ (d left : Nat) (S : ST) (w : List Nat) (last : Nat) (L : List Nat), left < d → left ≤ v → w.length + left + 2 ≤ 24 → last ≤ v → (∀ y, y ∈ w ++ [last] → y ≤ last) → L.length + 60 * (left + 1) ≤ 100000 → MS S 20 (w ++ [last]) → TL S L → ∃ b S', f_X8_finishDifferenceSet_n d S 20 (nI left) (nI v) (nI share) = some (b, S') ∧ ST2 (fdc v share left w last L) b S' (w ++ [last]) L ∧ FR [20] [20, 24] [] S S'
  | 0, left, S, w, last, L, h, _, _, _, _, _, _, _ => absurd h (by omega)
  | d + 1, 0, S, w, last, L, _, _, hlen, hla, hlt, hL, hm, ht => by
    unfold f_X8_finishDifferenceSet_n g_X8_finishDifferenceSet f_X8_finishDifferenceSet_0
    rw [if_neg (by decide)]
    exact ⟨1, S, rfl, Or.inl ⟨[], rfl, rfl, by rw [List.append_nil]; exact hm⟩, FR.rf _ _ _ S⟩
  | d + 1, l + 1, S, w, last, L, hd, hln, hlen, hla, hlt, hL, hm, ht => by
    have hwl : (w ++ [last]).length = w.length + 1 := by rw [List.length_append, List.length_singleton]
    unfold f_X8_finishDifferenceSet_n g_X8_finishDifferenceSet f_X8_finishDifferenceSet_0
    rw [if_pos (show (0 : Int32) < nI (l + 1) from nI_lt (a := 0) (by omega) (by omega)), hm.greatest, oB_s, oL_s, nI_1]
    exact fd14_l (f_X8_finishDifferenceSet_n d) hv hsh hln (by omega) hlt (by omega) (fun S1 x L' h1 h2 hL' m1 t1 => fd_n hv hsh d l S1 (w ++ [last]) x L' (by omega) (by omega) (by omega) (by omega) (fun y hy => by
      rcases List.mem_append.mp hy with q | q
      · have := hlt y q; omega
      · rw [List.mem_singleton.mp q]; omega) hL' m1 t1) (v - l - (last + 1)) FU (last + 1) S rfl (by omega) (by omega) (by unfold FU; omega) hm ht
def dcl (v k : Nat) : Option (List Nat) := match fdc v (k * (k - 1) / (v - 1)) (k - 2) [0] 1 (adB (bl v 1 [0]) []) with
  | some r => some (1 :: r)
  | none => none
theorem X8_makeDS {S : ST} {v k : Nat} (hv1 : 3 ≤ v) (hv : v ≤ 31) (hk1 : 2 ≤ k) (hk : k ≤ 6) (hkv : k < v) : ∃ b S', f_X8_makeDifferenceSet S (nI v) (nI k) (nI (k * (k - 1) / (v - 1))) = some (b, S') ∧ ((∃ q, dcl v k = some q ∧ b = 1 ∧ MS S' 20 (0 :: q)) ∨ (dcl v k = none ∧ b = 0)) ∧ FR [20] [20, 24] [] S S' := by
  have hmul : k * (k - 1) ≤ 6 * 6 := Nat.mul_le_mul hk (by omega)
  have hsh : k * (k - 1) / (v - 1) ≤ 1000 := Nat.le_trans (Nat.div_le_self _ _) (by omega)
  obtain ⟨S1, e1, m1, f1⟩ := MS.empty S 20
  obtain ⟨S2, e2, m2, f2⟩ := m1.push (by decide) 0
  obtain ⟨S3, e3, t3, f3⟩ := TL.wipe S2
  have m3 := m2.fr f3 (by simp) (by simp)
  obtain ⟨S4, e4, t4, g4, f4⟩ := cu_l (v := v) (x := 1) (show v ≤ 1000 by omega) (by omega) (w := [0]) (fun y hy => by rw [List.mem_singleton.mp hy]; omega) FU 0 S3 [] 0 m3 t3 (by decide) (by omega) (by omega) (by decide)
  obtain ⟨S5, e5, m5, f5⟩ := (m3.fr f4 (by simp) (by simp)).push (by decide) 1
  obtain ⟨b, S6, e6, q6, f6⟩ := fd_n hv hsh RD (k - 2) S5 [0] 1 (adB (bl v 1 [0]) []) (show k - 2 < 24 by omega) (by omega) (by show 1 + (k - 2) + 2 ≤ 24; omega) (by omega) (fun y hy => by
    rcases List.mem_append.mp hy with q | q
    · rw [List.mem_singleton.mp q]; omega
    · rw [List.mem_singleton.mp q]; omega) (by rw [adB_len, bl_len]; show 2 * 1 + 0 + _ ≤ _; omega) m5 (t4.fr f5 (by simp))
  have hfr : FR [20] [20, 24] [] S S6 := (f1.wk (by simp) (by simp) (by simp)).tr ((f2.wk (by simp) (by simp) (by simp)).tr ((f3.wk (by simp) (by simp) (by simp)).tr ((f4.wk (by simp) (by simp) (by simp)).tr ((f5.wk (by simp) (by simp) (by simp)).tr f6))))
  unfold f_X8_makeDifferenceSet f_X8_makeDifferenceSet_0
  rw [e1, oV_s, show f_X2_push S1 20 0 = some S2 from e2, oV_s, e3, oV_s, show f_X5_countMark S3 20 1 (nI v) 1 = some (_, S4) from e4, oB_s, show f_X2_push S4 20 1 = some S5 from e5, oV_s, show nI k - (2 : Int32) = nI (k - 2) from z_sub (b := 2) hk1, show f_X8_finishDifferenceSet S5 20 (nI (k - 2)) (nI v) (nI (k * (k - 1) / (v - 1))) = some (b, S6) from e6, oB_s]
  rcases q6 with ⟨r, d1, d2, d3⟩ | ⟨d1, d2, d3, d4⟩
  · rw [d2, oG_t (by decide)]
    refine ⟨1, S6, rfl, Or.inl ⟨1 :: r, ?_, rfl, d3⟩, hfr⟩
    unfold dcl
    rw [d1]
  · rw [d2, oG_t (by decide)]
    refine ⟨0, S6, rfl, Or.inr ⟨?_, rfl⟩, hfr⟩
    unfold dcl
    rw [d1]
