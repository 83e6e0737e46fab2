/-! difference sets: the reference -/
def OV (S : ST) (v : Nat) (L : List Nat) : Prop := ∀ d, d < v → ai S 33 d = nI (L.count d)
def offN (v a b : Nat) : Nat := bif Nat.ble b a then a - b else a + v - b
def ofr (v a : Nat) : List Nat → List Nat → List Nat
  | [], L => L
  | b :: q, L => ofr v a q (offN v a b :: L)
def ofA (v : Nat) (q : List Nat) : List Nat → List Nat → List Nat
  | [], L => L
  | a :: w, L => ofA v q w (ofr v a q L)
theorem ofr_len (v a : Nat) : ∀ q L, (ofr v a q L).length = q.length + L.length
  | [], L => by show L.length = 0 + _; omega
  | b :: q, L => by show (ofr v a q _).length = _; rw [ofr_len v a q, List.length_cons, List.length_cons]; omega
theorem ofA_len (v : Nat) (q : List Nat) : ∀ w L, (ofA v q w L).length = w.length * q.length + L.length
  | [], L => by show L.length = 0 * _ + _; omega
  | a :: w, L => by show (ofA v q w _).length = _; rw [ofA_len v q w, ofr_len, List.length_cons, Nat.succ_mul]; omega
theorem offN_lt {v a b : Nat} (ha : a < v) (hb : b < v) : offN v a b < v := by
  unfold offN
  cases h : Nat.ble b a with
  | true => show a - b < v; omega
  | false => have := ble_f h; show a + v - b < v; omega
theorem al2_l {v : Nat} (hv : v ≤ 31) (a1 : Int32) : ∀ (f d : Nat) (S : ST), (∀ j, j < d → ai S 33 j = 0) → d ≤ v → v < f + d → ∃ S', f_X9_alike_2 f S a1 (nI v) (nI d) = f_X9_alike_22 FU S' a1 (nI v) (-1) ∧ OV S' v [] ∧ FR [] [33] [] S S'
  | 0, d, S, _, _, h => absurd h (by omega)
  | f + 1, d, S, h, h1, h2 => by
    unfold f_X9_alike_2
    by_cases hd : d = v
    · rw [hd, if_pos (nI_le (Nat.le_refl _) (by omega))]
      exact ⟨S, rfl, fun j hj => by rw [h j (by omega)]; rfl, FR.rf _ _ _ S⟩
    · rw [if_neg (nI_ge (show d < v by omega) (by omega)), oG_t (inB_n (show d < 2001 by omega) (by omega)), oL_s, oL_s, nI_clamp (by omega), nI_1]
      obtain ⟨S1, e1, q1, f1⟩ := al2_l hv a1 f (d + 1) (sA S 33 (upd (ai S 33) d 0)) (fun j hj => by
        rw [ai_sA_s]
        by_cases e : j = d
        · rw [e, pk_us]
        · rw [pk_un e]; exact h j (by omega)) (by omega) (by omega)
      exact ⟨S1, e1, q1, (FR.sA S 33 _).tr f1⟩
theorem q_at {S : ST} {r : List Nat} (hp : PK S r) {j : Nat} (hj : j < (0 :: r).length) : (j = 0 ∧ (0 :: r).getD j 0 = 0) ∨ (1 ≤ j ∧ j - 1 < r.length ∧ ai S 35 (j - 1) = nI ((0 :: r).getD j 0)) := by
  rw [List.length_cons] at hj
  by_cases h0 : j = 0
  · exact Or.inl ⟨h0, by rw [h0]; rfl⟩
  · obtain ⟨i, rfl⟩ : ∃ i, j = i + 1 := ⟨j - 1, by omega⟩
    exact Or.inr ⟨by omega, by omega, hp.2 i (by omega)⟩
theorem m1_le {a j : Nat} (ha : a < 2 ^ 30) (hj : j ≤ a) (hp : 1 ≤ a) : ¬ nI a ≤ nI j - 1 := by
  rw [z_le, nI_toInt (by omega), show (1 : Int32) = nI 1 from rfl, pk_sub_toInt (by omega) (by omega)]
  omega
theorem al_sel {S : ST} {r : List Nat} (hp : PK S r) {j : Nat} (hj : j < (0 :: r).length) (K : Int32 → Option (Int32 × ST)) : (if 0 ≤ nI j - 1 then oG (inB (nI j - 1) 24) (K (ai S 35 (Int32.toNatClampNeg (nI j - 1)))) else K 0) = K (nI ((0 :: r).getD j 0)) := by
  have h24 := hp.1
  rcases q_at hp hj with ⟨c1, c2⟩ | ⟨c1, c2, c3⟩
  · rw [c2, c1, if_neg (show ¬ (0 : Int32) ≤ nI 0 - 1 by decide)]
    rfl
  · rw [show nI j - 1 = nI (j - 1) from z_sub (b := 1) c1, if_pos (nI_pos' (by omega)), oG_t (inB_n (show j - 1 < 24 by omega) (by omega)), nI_clamp (by omega), c3]
theorem al30_l {r : List Nat} {v a : Nat} (hv1 : 3 ≤ v) (hv : v ≤ 31) (ha : a < (0 :: r).length) (hb : ∀ x, x ∈ (0 :: r) → x < v) (k22 : ST → Int32 → Int32 → Int32 → Option (Int32 × ST)) : ∀ (f b : Nat) (S : ST) (L : List Nat), PK S r → OV S v L → b ≤ (0 :: r).length → (0 :: r).length < f + b → ∃ S', f_X9_alike_30 k22 f S (nI r.length) (nI v) (nI a - 1) (nI b - 1) = k22 S' (nI r.length) (nI v) (nI (a + 1) - 1) ∧ OV S' v (ofr v ((0 :: r).getD a 0) ((0 :: r).drop b) L) ∧ FR [] [33] [] S S'
  | 0, b, S, L, _, _, _, h => absurd h (by omega)
  | f + 1, b, S, L, hp, ho, h1, h2 => by
    have h24 := hp.1
    have hql : (0 :: r).length = r.length + 1 := List.length_cons
    unfold f_X9_alike_30 f_X9_alike_50 f_X9_alike_66 f_X9_alike_87
    by_cases hbl : b = r.length + 1
    · rw [hbl, show nI (r.length + 1) - 1 = nI r.length from nI_pred _, if_pos (nI_le (Nat.le_refl _) (by omega)), oL_s, show nI a - 1 + 1 = nI (a + 1) - 1 by rw [nI_pred, Int32.sub_add_cancel]]
      rw [List.drop_of_length_le (by omega)]
      exact ⟨S, rfl, ho, FR.rf _ _ _ S⟩
    · have hbl : b < (0 :: r).length := by omega
      have hr0 : ¬ nI r.length ≤ nI b - 1 := by
        rw [z_le, nI_toInt (by omega), show (1 : Int32) = nI 1 from rfl, pk_sub_toInt (by omega) (by omega)]
        omega
      have hqa := hb _ (gd_mem ha)
      have hqb := hb _ (gd_mem hbl)
      rw [if_neg hr0]
      rw [al_sel hp ha (fun z => (if 0 ≤ nI b - 1 then oG (inB (nI b - 1) 24) (oL (z - (ai S 35 (Int32.toNatClampNeg (nI b - 1)))) (fun (v1 : Int32) => (if 0 ≤ v1 then oG (inB v1 2001) (oG (inB v1 2001) (oL (sA S 33 (upd (ai S 33) (Int32.toNatClampNeg v1) ((ai S 33 (Int32.toNatClampNeg v1)) + (1 : Int32)))) (fun (S3 : ST) => oL (nI b - 1 + 1) (fun (v4 : Int32) => (f_X9_alike_30 k22 f) S3 (nI r.length) (nI v) (nI a - 1) v4)))) else oG (inB (v1 + nI v) 2001) (oG (inB (v1 + nI v) 2001) (oL (sA S 33 (upd (ai S 33) (Int32.toNatClampNeg (v1 + nI v)) ((ai S 33 (Int32.toNatClampNeg (v1 + nI v))) + (1 : Int32)))) (fun (S3 : ST) => oL (nI b - 1 + 1) (fun (v4 : Int32) => (f_X9_alike_30 k22 f) S3 (nI r.length) (nI v) (nI a - 1) v4))))))) else (oL (z - 0) (fun (v1 : Int32) => (if 0 ≤ v1 then oG (inB v1 2001) (oG (inB v1 2001) (oL (sA S 33 (upd (ai S 33) (Int32.toNatClampNeg v1) ((ai S 33 (Int32.toNatClampNeg v1)) + (1 : Int32)))) (fun (S3 : ST) => oL (nI b - 1 + 1) (fun (v4 : Int32) => (f_X9_alike_30 k22 f) S3 (nI r.length) (nI v) (nI a - 1) v4)))) else oG (inB (v1 + nI v) 2001) (oG (inB (v1 + nI v) 2001) (oL (sA S 33 (upd (ai S 33) (Int32.toNatClampNeg (v1 + nI v)) ((ai S 33 (Int32.toNatClampNeg (v1 + nI v))) + (1 : Int32)))) (fun (S3 : ST) => oL (nI b - 1 + 1) (fun (v4 : Int32) => (f_X9_alike_30 k22 f) S3 (nI r.length) (nI v) (nI a - 1) v4)))))))))]
      rw [al_sel hp hbl (fun z => (oL (nI ((0 :: r).getD a 0) - z) (fun (v1 : Int32) => (if 0 ≤ v1 then oG (inB v1 2001) (oG (inB v1 2001) (oL (sA S 33 (upd (ai S 33) (Int32.toNatClampNeg v1) ((ai S 33 (Int32.toNatClampNeg v1)) + (1 : Int32)))) (fun (S3 : ST) => oL (nI b - 1 + 1) (fun (v4 : Int32) => (f_X9_alike_30 k22 f) S3 (nI r.length) (nI v) (nI a - 1) v4)))) else oG (inB (v1 + nI v) 2001) (oG (inB (v1 + nI v) 2001) (oL (sA S 33 (upd (ai S 33) (Int32.toNatClampNeg (v1 + nI v)) ((ai S 33 (Int32.toNatClampNeg (v1 + nI v))) + (1 : Int32)))) (fun (S3 : ST) => oL (nI b - 1 + 1) (fun (v4 : Int32) => (f_X9_alike_30 k22 f) S3 (nI r.length) (nI v) (nI a - 1) v4))))))))]
      rw [dr_c hbl]
      generalize hqae : (0 :: r).getD a 0 = qa at *
      generalize hqbe : (0 :: r).getD b 0 = qb at *
      have hoff := offN_lt hqa hqb
      have hstep : ∃ S', f_X9_alike_30 k22 f (sA S 33 (upd (ai S 33) (offN v qa qb) (ai S 33 (offN v qa qb) + 1))) (nI r.length) (nI v) (nI a - 1) (nI (b + 1) - 1) = k22 S' (nI r.length) (nI v) (nI (a + 1) - 1) ∧ OV S' v (ofr v qa ((0 :: r).drop (b + 1)) (offN v qa qb :: L)) ∧ FR [] [33] [] S S' := by
        obtain ⟨S1, e1, q1, f1⟩ := al30_l (a := a) hv1 hv ha hb k22 f (b + 1) (sA S 33 (upd (ai S 33) (offN v qa qb) (ai S 33 (offN v qa qb) + 1))) (offN v qa qb :: L) (hp.fr (FR.sA S 33 _) (by simp)) (fun d hd => by
          rw [ai_sA_s]
          by_cases e : d = offN v qa qb
          · rw [e, pk_us, ho _ hoff, nI_1, List.count_cons_self]
          · rw [pk_un e, ho d hd, List.count_cons_of_ne (fun q => e q.symm)]) (by omega) (by omega)
        rw [hqae] at q1
        exact ⟨S1, e1, q1, (FR.sA S 33 _).tr f1⟩
      rw [oL_s, show nI b - 1 + 1 = nI (b + 1) - 1 by rw [nI_pred, Int32.sub_add_cancel]]
      show ∃ S', _ ∧ OV S' v (ofr v qa ((0 :: r).drop (b + 1)) (offN v qa qb :: L)) ∧ _
      obtain ⟨S1, e1, q1, f1⟩ := hstep
      refine ⟨S1, ?_, q1, f1⟩
      rw [← e1]
      cases hle : Nat.ble qb qa with
      | true =>
        have hle' := Nat.le_of_ble_eq_true hle
        have eo : offN v qa qb = qa - qb := by unfold offN; rw [hle]; rfl
        rw [eo] at hoff ⊢
        rw [z_sub hle', if_pos (nI_pos' (by omega)), oG_t (inB_n (show qa - qb < 2001 by omega) (by omega)), oG_t (inB_n (show qa - qb < 2001 by omega) (by omega)), oL_s, oL_s, nI_clamp (by omega)]
      | false =>
        have hle' := ble_f hle
        have eo : offN v qa qb = qa + v - qb := by unfold offN; rw [hle]; rfl
        rw [eo] at hoff ⊢
        have hneg : nI qa - nI qb < 0 := pk_sneg (by omega) (by omega)
        have hadd : nI qa - nI qb + nI v = nI (qa + v - qb) := by
          rw [Int32.sub_eq_add_neg, Int32.add_assoc, Int32.add_comm (-nI qb), ← Int32.add_assoc, ← Int32.sub_eq_add_neg, nI_add, z_sub (by omega)]
        rw [if_neg (show ¬ (0 : Int32) ≤ nI qa - nI qb from fun q => by rw [z_le] at q; rw [z_lt] at hneg; omega), hadd, oG_t (inB_n (show qa + v - qb < 2001 by omega) (by omega)), oG_t (inB_n (show qa + v - qb < 2001 by omega) (by omega)), oL_s, oL_s, nI_clamp (by omega)]
