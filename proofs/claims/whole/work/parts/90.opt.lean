/-! optimal rulers: the reference -/
def clB : List Nat → Nat → Nat → Option Nat
  | [], _, met => some met
  | y :: pre, x, met => bif Nat.beq (met &&& (1 * 2 ^ (x - y) % 18446744073709551616)) 0 then clB pre x (met ||| (1 * 2 ^ (x - y) % 18446744073709551616)) else none
def cl : List Nat → Nat → Nat → List Nat → Option Nat
  | _, _, _, [] => none
  | pre, i, met, x :: xs => match clB pre x met with
    | none => some i
    | some m => cl (pre ++ [x]) (i + 1) m xs
theorem clx_n {pre xs : List Nat} {i met x : Nat} (e : clB pre x met = none) : cl pre i met (x :: xs) = some i := by
  show (match clB pre x met with
    | none => some i
    | some m => cl (pre ++ [x]) (i + 1) m xs) = _
  rw [e]
theorem clx_s {pre xs : List Nat} {i met x m : Nat} (e : clB pre x met = some m) : cl pre i met (x :: xs) = cl (pre ++ [x]) (i + 1) m xs := by
  show (match clB pre x met with
    | none => some i
    | some m => cl (pre ++ [x]) (i + 1) m xs) = _
  rw [e]
theorem cl_lt : ∀ (xs pre : List Nat) (i met k : Nat), cl pre i met xs = some k → k < i + xs.length
  | [], pre, i, met, k, e => absurd e (by simp [cl])
  | x :: xs, pre, i, met, k, e => by
    rw [List.length_cons]
    cases h : clB pre x met with
    | none => rw [clx_n h] at e; have := Option.some.inj e; omega
    | some m => rw [clx_s h] at e; have := cl_lt xs _ _ _ k e; omega
def clv : Option Nat → Int32
  | none => -1
  | some i => nI i
theorem lgc0 (x : Int64) : lg_cmp x 0 = 0 ↔ uu x = 0 := by rw [lg_cmp_eq]; exact uu_0
theorem beq_t {a b : Nat} (h : a = b) : Nat.beq a b = true := Nat.beq_eq.mpr h
theorem beq_f {a b : Nat} (h : ¬ a = b) : Nat.beq a b = false := Bool.eq_false_iff.mpr (fun q => h (Nat.beq_eq.mp q))
theorem ble_f {a b : Nat} (h : Nat.ble a b = false) : ¬ a ≤ b := fun q => by rw [Nat.ble_eq_true_of_le q] at h; exact absurd h (by decide)
theorem cl14_l {S : ST} {r : List Nat} {h : Nat} (hh : h ≤ 63) (hp : PK S r) (hg : GR h 1 r) {a : Nat} (ha : a < r.length) (k5 : ST → Int32 → Int64 → Int32 → Option (Int32 × ST)) : ∀ (f j : Nat) (met : Int64), j ≤ a + 1 → a + 1 < f + j → (clB ((0 :: r.take a).drop j) (r.getD a 0) (uu met) = none → f_X9_clash_14 k5 f S (nI r.length) met (nI a) (nI j - 1) = some (nI a, S)) ∧ (∀ m, clB ((0 :: r.take a).drop j) (r.getD a 0) (uu met) = some m → ∃ met', uu met' = m ∧ f_X9_clash_14 k5 f S (nI r.length) met (nI a) (nI j - 1) = k5 S (nI r.length) met' (nI (a + 1)))
  | 0, j, met, h1, h2 => absurd h2 (by omega)
  | f + 1, j, met, h1, h2 => by
    have h24 := hp.1
    have hql : (0 :: r.take a).length = a + 1 := by rw [List.length_cons, List.length_take]; omega
    unfold f_X9_clash_14 f_X9_clash_45
    by_cases hj : j = a + 1
    · rw [hj, show nI (a + 1) - 1 = nI a from nI_pred a, if_pos (nI_le (Nat.le_refl _) (by omega)), oL_s, nI_1, List.drop_of_length_le (by omega)]
      refine ⟨fun e => absurd e (by simp [clB]), fun m e => ⟨met, ?_, rfl⟩⟩
      exact Option.some.inj e
    · have hj : j ≤ a := by omega
      have hx := GR_b r 1 _ hg (gd_mem ha)
      have hxe : ai S 35 a = nI (r.getD a 0) := hp.2 a ha
      obtain ⟨y, hy, hyx, hbr⟩ : ∃ y, (0 :: r.take a).getD j 0 = y ∧ y ≤ r.getD a 0 ∧ ((j = 0 ∧ y = 0) ∨ (1 ≤ j ∧ ai S 35 (j - 1) = nI y)) := by
        by_cases h0 : j = 0
        · exact ⟨0, by rw [h0]; rfl, by omega, Or.inl ⟨h0, rfl⟩⟩
        · refine ⟨r.getD (j - 1) 0, ?_, ?_, Or.inr ⟨by omega, hp.2 _ (by omega)⟩⟩
          · obtain ⟨i, rfl⟩ : ∃ i, j = i + 1 := ⟨j - 1, by omega⟩
            show (r.take a).getD i 0 = r.getD i 0
            rw [List.getD_eq_getElem?_getD, List.getD_eq_getElem?_getD, List.getElem?_take, if_pos (by omega)]
          · have := (GR_srt r 1 hg).lt (show j - 1 < a by omega) ha
            omega
      have hdr : (0 :: r.take a).drop j = y :: (0 :: r.take a).drop (j + 1) := by
        rw [dr_c (show j < (0 :: r.take a).length by omega), hy]
      have hbr : (if (nI a ≤ nI j - 1) then oL (nI a + 1) (fun (v2 : Int32) => k5 S (nI r.length) met v2) else oG (inB (nI a) 24) ((if 0 ≤ nI j - 1 then oG (inB (nI j - 1) 24) (oL ((1 : Int64) <<< (Int32.toInt64 (ai S 35 (Int32.toNatClampNeg (nI a)) - ai S 35 (Int32.toNatClampNeg (nI j - 1))) &&& 63)) (fun (v1 : Int64) => (if (lg_cmp (met &&& v1) 0) = 0 then oL (met ||| v1) (fun (v3 : Int64) => oL (nI j - 1 + 1) (fun (v4 : Int32) => (f_X9_clash_14 k5 f) S (nI r.length) v3 (nI a) v4)) else some (nI a, S)))) else (oL ((1 : Int64) <<< (Int32.toInt64 (ai S 35 (Int32.toNatClampNeg (nI a)) - 0) &&& 63)) (fun (v1 : Int64) => (if (lg_cmp (met &&& v1) 0) = 0 then oL (met ||| v1) (fun (v3 : Int64) => oL (nI j - 1 + 1) (fun (v4 : Int32) => (f_X9_clash_14 k5 f) S (nI r.length) v3 (nI a) v4)) else some (nI a, S))))))) = (if (lg_cmp (met &&& ((1 : Int64) <<< ((nI (r.getD a 0 - y)).toInt64 &&& 63))) 0) = 0 then (f_X9_clash_14 k5 f) S (nI r.length) (met ||| ((1 : Int64) <<< ((nI (r.getD a 0 - y)).toInt64 &&& 63))) (nI a) (nI (j + 1) - 1) else some (nI a, S)) := by
        rw [nI_clamp (show a < 2 ^ 31 by omega), hxe, oG_t (inB_n (show a < 24 by omega) (by omega)), show nI j - 1 + 1 = nI (j + 1) - 1 by rw [nI_pred, Int32.sub_add_cancel]]
        rcases hbr with ⟨c1, c2⟩ | ⟨c1, c2⟩
        · rw [c1, c2, if_neg (show ¬ nI a ≤ nI 0 - 1 by rw [show nI 0 - 1 = (-1 : Int32) by decide]; rw [z_le, nI_toInt (by omega)]; show ¬ (a : Int) ≤ -1; omega), if_neg (show ¬ (0 : Int32) ≤ nI 0 - 1 by decide), show nI (r.getD a 0) - (0 : Int32) = nI (r.getD a 0 - 0) from z_sub (b := 0) (by omega)]
          rfl
        · rw [show nI j - 1 = nI (j - 1) from z_sub (b := 1) c1, if_neg (nI_ge (show j - 1 < a by omega) (by omega)), if_pos (nI_pos' (by omega)), oG_t (inB_n (show j - 1 < 24 by omega) (by omega)), nI_clamp (show j - 1 < 2 ^ 31 by omega), c2, z_sub hyx]
          rfl
      rw [hbr, hdr]
      have hub : uu ((1 : Int64) <<< ((nI (r.getD a 0 - y)).toInt64 &&& 63)) = 1 * 2 ^ (r.getD a 0 - y) % 18446744073709551616 := by rw [uu_shl 1 (show r.getD a 0 - y < 64 by omega), uu_1]
      obtain ⟨i1, i2⟩ := cl14_l hh hp hg ha k5 f (j + 1) (met ||| ((1 : Int64) <<< ((nI (r.getD a 0 - y)).toInt64 &&& 63))) (by omega) (by omega)
      rw [uu_or, hub] at i1 i2
      show ((bif Nat.beq (uu met &&& (1 * 2 ^ (r.getD a 0 - y) % 18446744073709551616)) 0 then clB ((0 :: r.take a).drop (j + 1)) (r.getD a 0) (uu met ||| (1 * 2 ^ (r.getD a 0 - y) % 18446744073709551616)) else none) = none → _) ∧ (∀ m, (bif Nat.beq (uu met &&& (1 * 2 ^ (r.getD a 0 - y) % 18446744073709551616)) 0 then clB ((0 :: r.take a).drop (j + 1)) (r.getD a 0) (uu met ||| (1 * 2 ^ (r.getD a 0 - y) % 18446744073709551616)) else none) = some m → _)
      by_cases hz : uu met &&& (1 * 2 ^ (r.getD a 0 - y) % 18446744073709551616) = 0
      · rw [if_pos ((lgc0 _).mpr (by rw [uu_and, hub]; exact hz)), beq_t hz]
        exact ⟨i1, i2⟩
      · rw [if_neg (fun q => hz (by have := (lgc0 _).mp q; rw [uu_and, hub] at this; exact this)), beq_f hz]
        exact ⟨fun _ => rfl, fun m e => absurd e (by simp)⟩
theorem cl5_l {S : ST} {r : List Nat} {h : Nat} (hh : h ≤ 63) (hp : PK S r) (hg : GR h 1 r) : ∀ (f a : Nat) (met : Int64), a ≤ r.length → r.length < f + a → f_X9_clash_5 f S (nI r.length) met (nI a) = some (clv (cl (0 :: r.take a) a (uu met) (r.drop a)), S)
  | 0, a, met, h1, h2 => absurd h2 (by omega)
  | f + 1, a, met, h1, h2 => by
    have h24 := hp.1
    unfold f_X9_clash_5
    by_cases ha : a = r.length
    · rw [ha, if_pos (nI_le (Nat.le_refl _) (by omega)), List.drop_length]
      rfl
    · have ha : a < r.length := by omega
      rw [if_neg (nI_ge ha (by omega)), dr_c ha]
      obtain ⟨i1, i2⟩ := cl14_l hh hp hg ha (f_X9_clash_5 f) FU 0 met (by omega) (by unfold FU; omega)
      rw [List.drop_zero] at i1 i2
      cases hc : clB (0 :: r.take a) (r.getD a 0) (uu met) with
      | none =>
        rw [clx_n hc]
        exact i1 hc
      | some m =>
        obtain ⟨met', e1, e2⟩ := i2 m hc
        rw [clx_s hc, show f_X9_clash_14 (f_X9_clash_5 f) FU S (nI r.length) met (nI a) (-1) = _ from e2, cl5_l hh hp hg f (a + 1) met' (by omega) (by omega), e1, tk_succ ha, List.cons_append]
theorem X9_clash {S : ST} {r : List Nat} {h : Nat} (hh : h ≤ 63) (hp : PK S r) (hg : GR h 1 r) : f_X9_clash S (nI r.length) = some (clv (cl [0] 0 0 r), S) := by
  have h24 := hp.1
  exact cl5_l hh hp hg FU 0 0 (by omega) (by unfold FU; omega)
/-- the row with all places behind i as high as may be -/
def topR (h : Nat) : Nat → List Nat → List Nat
  | _, [] => []
  | 0, a :: r => a :: rg (h + 1 - r.length) r.length
  | i + 1, a :: r => a :: topR h i r
theorem topR_nil (h : Nat) : ∀ i, topR h i [] = []
  | 0 => rfl
  | _ + 1 => rfl
theorem topR_len (h : Nat) : ∀ (r : List Nat) (i : Nat), (topR h i r).length = r.length
  | [], i => by rw [topR_nil]
  | a :: r, 0 => by show (rg _ _).length + 1 = _; rw [rg_len]; rfl
  | a :: r, i + 1 => by show (topR h i r).length + 1 = _; rw [topR_len h r i]; rfl
theorem topR_lo (h : Nat) : ∀ (r : List Nat) (i k : Nat), k ≤ i → (topR h i r).getD k 0 = r.getD k 0
  | [], i, _, _ => by rw [topR_nil]
  | a :: r, 0, k, hk => by rw [show k = 0 by omega]; rfl
  | a :: r, i + 1, 0, _ => rfl
  | a :: r, i + 1, k + 1, hk => topR_lo h r i k (by omega)
theorem topR_hi (h : Nat) : ∀ (r : List Nat) (i k : Nat), i < k → k < r.length → r.length ≤ h + 1 → (topR h i r).getD k 0 = h - (r.length - 1 - k)
  | [], _, _, _, hk, _ => absurd hk (by simp)
  | a :: r, _, 0, h0, _, _ => absurd h0 (by omega)
  | a :: r, 0, k + 1, _, hk, hl => by
    rw [List.length_cons] at hk hl ⊢
    show (rg (h + 1 - r.length) r.length).getD k 0 = _
    rw [rg_gd _ _ _ (by omega)]
    omega
  | a :: r, i + 1, k + 1, hi, hk, hl => by
    rw [List.length_cons] at hk hl ⊢
    show (topR h i r).getD k 0 = _
    rw [topR_hi h r i k (by omega) (by omega) (by omega)]
    congr 1
    omega
theorem GR_top {h : Nat} : ∀ (r : List Nat) (i lo : Nat), GR h lo r → GR h lo (topR h i r)
  | [], i, _, _ => by rw [topR_nil]; trivial
  | a :: r, 0, lo, g => ⟨g.1, by rw [rg_len]; exact g.2.1, GR_rg _ _ _ (by have := g.2.1; omega) (by have := g.2.1; omega)⟩
  | a :: r, i + 1, lo, g => ⟨g.1, by rw [topR_len]; exact g.2.1, GR_top r i (a + 1) g.2.2⟩
theorem GR_len {h : Nat} : ∀ (r : List Nat) (lo : Nat), GR h lo r → r.length ≤ h + 1
  | [], _, _ => by show 0 ≤ _; omega
  | a :: r, lo, g => by have := g.2.1; rw [List.length_cons]; omega
theorem sk11_l {r : List Nat} {h i : Nat} (hh : h < 2 ^ 30) (hr : r.length ≤ 24) (hl : r.length ≤ h + 1) (hi : i < r.length) : ∀ (n k : Nat) (S : ST), i < k → (∀ j, j < k → ai S 35 j = nI ((topR h i r).getD j 0)) → k ≤ r.length → r.length < n + k → ∃ S', f_X9_skips_11 n S (nI r.length) (nI h) (nI i) (nI k) = f_X9_skips_43 S' (nI r.length) (nI h) ∧ PK S' (topR h i r) ∧ FR [] [35] [] S S'
  | 0, k, S, _, _, _, h2 => absurd h2 (by omega)
  | n + 1, k, S, hik, hv, h1, h2 => by
    unfold f_X9_skips_11
    by_cases hk : k = r.length
    · rw [hk, if_pos (nI_le (Nat.le_refl _) (by omega))]
      exact ⟨S, rfl, ⟨by rw [topR_len]; exact hr, fun j hj => hv j (by rw [topR_len] at hj; omega)⟩, FR.rf _ _ _ S⟩
    · have hk : k < r.length := by omega
      rw [if_neg (nI_ge hk (by omega)), if_neg (nI_ne_m1 (by omega)), oG_t (inB_n (show k < 24 by omega) (by omega)), oL_s, oL_s, nI_clamp (by omega), nI_1]
      rw [show nI h - (nI r.length - (1 : Int32) - nI k) = nI ((topR h i r).getD k 0) by
        rw [topR_hi h r i k hik hk hl, show nI r.length - (1 : Int32) = nI (r.length - 1) from z_sub (b := 1) (by omega), z_sub (by omega), z_sub (by omega)]]
      obtain ⟨S1, e1, p1, f1⟩ := sk11_l hh hr hl hi n (k + 1) (sA S 35 (upd (ai S 35) k (nI ((topR h i r).getD k 0)))) (by omega) (fun j hj => by
        rw [ai_sA_s]
        by_cases e : j = k
        · rw [e, pk_us]
        · rw [pk_un e]; exact hv j (by omega)) (by omega) (by omega)
      exact ⟨S1, e1, p1, (FR.sA S 35 _).tr f1⟩
def nr (h : Nat) (r : List Nat) : List Nat := match cl [0] 0 0 r with
  | none => r
  | some i => topR h i r
theorem nr_n {h : Nat} {r : List Nat} (e : cl [0] 0 0 r = none) : nr h r = r := by unfold nr; rw [e]
theorem nr_s {h i : Nat} {r : List Nat} (e : cl [0] 0 0 r = some i) : nr h r = topR h i r := by unfold nr; rw [e]
theorem nr_len (h : Nat) (r : List Nat) : (nr h r).length = r.length := by
  cases e : cl [0] 0 0 r with
  | none => rw [nr_n e]
  | some i => rw [nr_s e, topR_len]
theorem GR_nr {h lo : Nat} {r : List Nat} (g : GR h lo r) : GR h lo (nr h r) := by
  cases e : cl [0] 0 0 r with
  | none => rw [nr_n e]; exact g
  | some i => rw [nr_s e]; exact GR_top r i lo g
theorem sk43 {S : ST} {r : List Nat} {h : Nat} (hh : h ≤ 63) (hp : PK S r) (hg : GR h 1 r) : ∃ b S', f_X9_skips_43 S (nI r.length) (nI h) = some (b, S') ∧ ((nx h r = none ∧ b = 0) ∨ ∃ q, nx h r = some q ∧ b = 1 ∧ PK S' q) ∧ FR [] [35] [] S S' := by
  obtain ⟨b, S1, e1, q1, f1⟩ := X9_picksNext (show h < 2 ^ 30 by omega) hp hg
  unfold f_X9_skips_43
  rw [e1, oB_s]
  rcases q1 with ⟨c1, c2, _⟩ | ⟨q, c1, c2, c3⟩
  · rw [c2, oG_t (by decide)]
    exact ⟨0, S1, rfl, Or.inl ⟨c1, rfl⟩, f1⟩
  · rw [c2, oG_t (by decide)]
    exact ⟨1, S1, rfl, Or.inr ⟨q, c1, rfl, c3⟩, f1⟩
theorem X9_skips {S : ST} {r : List Nat} {h : Nat} (hh : h ≤ 63) (hp : PK S r) (hg : GR h 1 r) : ∃ b S', f_X9_skips S (nI r.length) (nI h) = some (b, S') ∧ ((nx h (nr h r) = none ∧ b = 0) ∨ ∃ q, nx h (nr h r) = some q ∧ b = 1 ∧ PK S' q) ∧ FR [] [35] [] S S' := by
  have h24 := hp.1
  unfold f_X9_skips f_X9_skips_0
  rw [X9_clash hh hp hg, oB_s, oL_s]
  cases e : cl [0] 0 0 r with
  | none =>
    rw [nr_n e]
    obtain ⟨b, S1, e1, q1, f1⟩ := sk43 hh hp hg
    refine ⟨b, S1, ?_, q1, f1⟩
    rw [← e1]
    show f_X9_skips_11 (999999 + 1) S (nI r.length) (nI h) (-1) _ = _
    unfold f_X9_skips_11
    rw [if_pos rfl]
    split <;> rfl
  | some i =>
    have hi := cl_lt r _ _ _ i e
    rw [nr_s e]
    obtain ⟨S1, e1, p1, f1⟩ := sk11_l (show h < 2 ^ 30 by omega) h24 (GR_len r 1 hg) (show i < r.length by omega) FU (i + 1) S (by omega) (fun j hj => by rw [topR_lo h r i j (by omega)]; exact hp.2 j (by omega)) (by omega) (by unfold FU; omega)
    obtain ⟨b, S2, e2, q2, f2⟩ := sk43 hh p1 (GR_top r i 1 hg)
    rw [topR_len] at e2
    refine ⟨b, S2, ?_, q2, f1.tr f2⟩
    rw [← e2, ← e1]
    show f_X9_skips_11 FU S (nI r.length) (nI h) (nI i) (nI i + 1) = _
    rw [nI_1]
def okB (n L : Nat) (r : List Nat) : Bool := match cl [0] 0 0 r with
  | none => Nat.beq (r.getD (n - 2) 0) L
  | some _ => false
def opR (n : Nat) : Nat → Nat → List Nat → Option (List Nat)
  | 0, _, _ => none
  | f + 1, L, r => bif okB n L r then some r else match nx L (nr L r) with
    | some q => opR n f L q
    | none => bif Nat.ble L 62 then opR n f (L + 1) (rg 1 (n - 1)) else none
theorem opR_e (n f L : Nat) (r : List Nat) : opR n (f + 1) L r = bif okB n L r then some r else match nx L (nr L r) with
    | some q => opR n f L q
    | none => bif Nat.ble L 62 then opR n f (L + 1) (rg 1 (n - 1)) else none := rfl
def OPE (S : ST) (n to : Nat) : Option (Int32 × ST) := oV (f_X9_makes S (nI n - (1 : Int32))) (fun (S2 : ST) => oB (f_X9_becomes S2 (nI to)) (fun (r4 : Int32) (S3 : ST) => oB (f_X9_lengthOf S3 (nI to)) (fun (r6 : Int32) (S5 : ST) => some (r6, S5))))
theorem op67_1 (S : ST) (n to : Nat) (a : Int32) (k : Nat) : f_X9_optimal_67 (k + 1) S (nI n) (nI to) a 1 = OPE S n to := by
  unfold f_X9_optimal_67
  rw [if_neg (by decide)]
  rfl
theorem op67_l {n to : Nat} (hn1 : 2 ≤ n) (hn : n ≤ 7) : ∀ (f k : Nat) (S : ST) (L : Nat) (r q : List Nat), opR n f L r = some q → r.length = n - 1 → PK S r → GR L 1 r → n - 1 ≤ L → L ≤ 63 → f < k → ∃ S', f_X9_optimal_67 k S (nI n) (nI to) (nI L) 0 = OPE S' n to ∧ PK S' q ∧ q.length = n - 1 ∧ GR 63 1 q ∧ FR [] [35] [] S S'
  | f, 0, S, L, r, q, _, _, _, _, _, _, h => absurd h (by omega)
  | 0, k + 1, S, L, r, q, e, _, _, _, _, _, _ => absurd e (by simp [opR])
  | f + 1, k + 1, S, L, r, q, e, hr, hp, hg, hL1, hL, hk => by
    have hn_1 : nI n - (1 : Int32) = nI r.length := by rw [hr]; exact z_sub (b := 1) (by omega)
    have h24 := hp.1
    rw [opR_e] at e
    have hlast : ai S 35 (n - 2) = nI (r.getD (n - 2) 0) := hp.2 _ (by omega)
    have hlb := GR_b r 1 _ hg (gd_mem (show n - 2 < r.length by omega))
    obtain ⟨b, S1, e1, q1, f1⟩ := X9_skips hL hp hg
    have key : okB n L r = false → ∃ S', f_X9_optimal_99 (f_X9_optimal_67 k) S (nI n) (nI to) (nI L) = OPE S' n to ∧ PK S' q ∧ q.length = n - 1 ∧ GR 63 1 q ∧ FR [] [35] [] S S' := fun hc => by
      rw [hc] at e
      unfold f_X9_optimal_99 f_X9_optimal_100
      rw [if_pos rfl, hn_1, e1, oB_s]
      rcases q1 with ⟨c1, c2⟩ | ⟨w, c1, c2, c3⟩
      · rw [c1] at e
        rw [c2, if_pos rfl, oL_s, nI_1]
        cases hle : Nat.ble L 62 with
        | false => rw [hle] at e; exact absurd e (by simp)
        | true =>
          rw [hle] at e
          have hle := Nat.le_of_ble_eq_true hle
          obtain ⟨S2, e2, p2, f2⟩ := X9_picksFirst S1 (a := 1) (m := r.length) h24
          rw [show f_X9_picksFirst S1 (nI r.length) 1 = some S2 from e2, oV_s]
          rw [← hr] at e
          obtain ⟨S3, e3, p3, l3, g3, f3⟩ := op67_l (to := to) hn1 hn f k S2 (L + 1) _ q e (by rw [rg_len, hr]) p2 (GR_rg _ 1 1 (Nat.le_refl _) (by omega)) (by omega) (by omega) (by omega)
          exact ⟨S3, e3, p3, l3, g3, f1.tr (f2.tr f3)⟩
      · rw [c1] at e
        rw [c2, if_neg (by decide)]
        obtain ⟨g2, l2⟩ := GR_nx _ 1 w (GR_nr hg) c1
        obtain ⟨S3, e3, p3, l3, g3, f3⟩ := op67_l (to := to) hn1 hn f k S1 L w q e (by rw [l2, nr_len, hr]) c3 g2 hL1 hL (by omega)
        exact ⟨S3, e3, p3, l3, g3, f1.tr f3⟩
    unfold f_X9_optimal_67
    rw [if_pos rfl, show nI n - (2 : Int32) = nI (n - 2) from z_sub (b := 2) hn1, oG_t (inB_n (show n - 2 < 24 by omega) (by omega)), nI_clamp (by omega), hlast, hn_1]
    by_cases hq : r.getD (n - 2) 0 = L
    · rw [if_pos (by rw [hq]), X9_clash hL hp hg, oB_s]
      cases hc : cl [0] 0 0 r with
      | none =>
        have ho : okB n L r = true := by unfold okB; rw [hc]; exact beq_t hq
        rw [ho] at e
        have e : r = q := Option.some.inj e
        rw [if_pos (show clv none = -1 from rfl)]
        unfold f_X9_optimal_100
        rw [if_neg (by decide)]
        obtain ⟨j, rfl⟩ : ∃ j, k = j + 1 := ⟨k - 1, by omega⟩
        refine ⟨S, op67_1 S n to _ j, by rw [← e]; exact hp, by rw [← e]; exact hr, ?_, FR.rf _ _ _ S⟩
        rw [← e]
        have mono : ∀ (r : List Nat) (lo : Nat), GR L lo r → GR 63 lo r := fun r => by
          induction r with
          | nil => intro lo _; trivial
          | cons a r ih => intro lo g; exact ⟨g.1, by have := g.2.1; omega, ih _ g.2.2⟩
        exact mono r 1 hg
      | some i =>
        have ho : okB n L r = false := by unfold okB; rw [hc]
        have hi := cl_lt r _ _ _ i hc
        rw [if_neg (show ¬ clv (some i) = -1 from nI_ne_m1 (by omega))]
        exact key ho
    · have ho : okB n L r = false := by
        unfold okB
        cases cl [0] 0 0 r with
        | none => exact beq_f hq
        | some i => rfl
      rw [if_neg (z_ne (by omega) (by omega) hq)]
      exact key ho
/-! optimal rulers: the class -/
def fru (L : Nat) : Nat → Nat → Nat → Nat → Option (List Nat)
  | 0, _, _, _ => some [L]
  | l + 1, last, near, used => lpF (fun x => bif Nat.beq ((near * 2 ^ (x - last) % 18446744073709551616) &&& (1 * 2 ^ (L - x) % 18446744073709551616)) 0 then (bif Nat.beq (((near * 2 ^ (x - last) % 18446744073709551616) ||| (1 * 2 ^ (L - x) % 18446744073709551616)) &&& used) 0 then fru L l x ((near * 2 ^ (x - last) % 18446744073709551616) ||| 1) ((used ||| (near * 2 ^ (x - last) % 18446744073709551616)) ||| (1 * 2 ^ (L - x) % 18446744073709551616)) else none) else none) (L + 1 - (l + 1) * (l + 1 + 1) / 2 - (last + 1)) (last + 1)
theorem fr34_l {L left last T : Nat} {w : List Nat} {near used : Int64} (rec : ST → Nat → Int32 → Int32 → Int64 → Int64 → Option (Int32 × ST)) (hL : L ≤ 63) (hT : T ≤ L) (hw : (w ++ [last]).length < 24)
    (hrec : ∀ (S : ST) (x : Nat) (near' used' : Int64), last < x → x ≤ L → MS S 20 ((w ++ [last]) ++ [x]) → ∃ b S', rec S 20 (nI left) (nI L) near' used' = some (b, S') ∧ SR (fru L left x (uu near') (uu used')) b S' ((w ++ [last]) ++ [x]) ∧ FR [20] [20] [] S S') :
    ∀ (k f x : Nat) (S : ST), L + 1 - T - x = k → last < x → x ≤ L + 1 → k < f → MS S 20 (w ++ [last]) → ∃ b S', f_X8_finishRuler_34 rec f S 20 (nI (left + 1)) (nI L) near used (nI last) (nI (L - T)) (nI x) = some (b, S') ∧ SR (lpF (fun x => bif Nat.beq ((uu near * 2 ^ (x - last) % 18446744073709551616) &&& (1 * 2 ^ (L - x) % 18446744073709551616)) 0 then (bif Nat.beq (((uu near * 2 ^ (x - last) % 18446744073709551616) ||| (1 * 2 ^ (L - x) % 18446744073709551616)) &&& uu used) 0 then fru L left x ((uu near * 2 ^ (x - last) % 18446744073709551616) ||| 1) ((uu used ||| (uu near * 2 ^ (x - last) % 18446744073709551616)) ||| (1 * 2 ^ (L - x) % 18446744073709551616)) else none) else none) k x) b S' (w ++ [last]) ∧ FR [20] [20] [] S S'
  | k, 0, x, S, _, _, _, h, _ => absurd h (by omega)
  | 0, f + 1, x, S, hk, hx, hx2, _, hm => by
    unfold f_X8_finishRuler_34
    rw [if_pos (nI_lt (show L - T < x by omega) (by omega))]
    exact ⟨0, S, rfl, Or.inr ⟨rfl, rfl, hm⟩, FR.rf _ _ _ S⟩
  | k + 1, f + 1, x, S, hk, hx, hx2, hf, hm => by
    obtain ⟨v2, e2⟩ : ∃ v, v = near <<< ((nI (x - last)).toInt64 &&& 63) := ⟨_, rfl⟩
    obtain ⟨v3, e3⟩ : ∃ v, v = (1 : Int64) <<< ((nI (L - x)).toInt64 &&& 63) := ⟨_, rfl⟩
    have u2 : uu near * 2 ^ (x - last) % 18446744073709551616 = uu v2 := by rw [e2, uu_shl near (show x - last < 64 by omega)]
    have u3 : 1 * 2 ^ (L - x) % 18446744073709551616 = uu v3 := by rw [e3, uu_shl 1 (show L - x < 64 by omega), uu_1]
    have hno : ∀ (g : Nat → Option (List Nat)) (G : Option (Int32 × ST)), (∀ S1, MS S1 20 (w ++ [last]) → ∃ b S', f_X8_finishRuler_34 rec f S1 20 (nI (left + 1)) (nI L) near used (nI last) (nI (L - T)) (nI (x + 1)) = some (b, S') ∧ SR (lpF g k (x + 1)) b S' (w ++ [last]) ∧ FR [20] [20] [] S1 S') → g x = none → G = f_X8_finishRuler_34 rec f S 20 (nI (left + 1)) (nI L) near used (nI last) (nI (L - T)) (nI (x + 1)) → ∃ b S', G = some (b, S') ∧ SR (lpF g (k + 1) x) b S' (w ++ [last]) ∧ FR [20] [20] [] S S' := fun g G ih hg hG => by
      obtain ⟨b4, S4, e4, q4, f4⟩ := ih S hm
      exact ⟨b4, S4, by rw [hG]; exact e4, by rw [lpF_n hg]; exact q4, f4⟩
    have ih := fun S1 m1 => fr34_l (near := near) (used := used) rec hL hT hw hrec k f (x + 1) S1 (by omega) (by omega) (by omega) (by omega) m1
    unfold f_X8_finishRuler_34 f_X8_finishRuler_116
    rw [if_neg (nI_nlt (show x ≤ L - T by omega) (by omega)), oL_s, oL_s, z_sub (show last ≤ x by omega), z_sub (show x ≤ L by omega), ← e2, ← e3]
    by_cases c1 : uu v2 &&& uu v3 = 0
    · rw [if_pos ((lgc0 _).mpr (by rw [uu_and]; exact c1))]
      by_cases c2 : (uu v2 ||| uu v3) &&& uu used = 0
      · rw [if_pos ((lgc0 _).mpr (by rw [uu_and, uu_or]; exact c2))]
        obtain ⟨S1, q1, m1, f1⟩ := hm.push hw x
        rw [q1, oV_s, show nI (left + 1) - (1 : Int32) = nI left from nI_pred left]
        obtain ⟨b, S2, q2, r2, f2⟩ := hrec S1 x (v2 ||| 1) ((used ||| v2) ||| v3) hx (by omega) m1
        rw [q2, oB_s]
        rw [uu_or, uu_or, uu_or, uu_1] at r2
        have hg : ∀ o, fru L left x (uu v2 ||| 1) (uu used ||| uu v2 ||| uu v3) = o → (bif Nat.beq ((uu near * 2 ^ (x - last) % 18446744073709551616) &&& (1 * 2 ^ (L - x) % 18446744073709551616)) 0 then (bif Nat.beq (((uu near * 2 ^ (x - last) % 18446744073709551616) ||| (1 * 2 ^ (L - x) % 18446744073709551616)) &&& uu used) 0 then fru L left x ((uu near * 2 ^ (x - last) % 18446744073709551616) ||| 1) ((uu used ||| (uu near * 2 ^ (x - last) % 18446744073709551616)) ||| (1 * 2 ^ (L - x) % 18446744073709551616)) else none) else none) = o := fun o ho => by
          rw [u2, u3, beq_t c1, beq_t c2]
          exact ho
        rcases r2 with ⟨r, d1, d2, d3⟩ | ⟨d1, d2, d3⟩
        · rw [d2, if_neg (by decide)]
          refine ⟨1, S2, rfl, Or.inl ⟨x :: r, lpF_s (x := x) (hg _ d1), rfl, ?_⟩, f1.tr f2⟩
          rw [List.append_assoc, List.singleton_append] at d3
          exact d3
        · obtain ⟨S3, q3, m3, f3⟩ := d3.pop
          rw [d2, if_pos rfl, q3, oV_s, oL_s, nI_1]
          obtain ⟨b4, S4, q4, r4, f4⟩ := ih S3 m3
          exact ⟨b4, S4, q4, by rw [lpF_n (x := x) (k := k) (hg _ d1)]; exact r4, f1.tr (f2.tr ((f3.wk (by simp) (by simp) (by simp)).tr f4))⟩
      · rw [if_neg (fun q => c2 (by have := (lgc0 _).mp q; rw [uu_and, uu_or] at this; exact this)), oL_s, nI_1]
        refine hno _ _ ih ?_ rfl
        show (bif Nat.beq _ 0 then (bif Nat.beq _ 0 then _ else none) else none) = none
        rw [u2, u3, beq_t c1, beq_f c2]
        rfl
    · rw [if_neg (fun q => c1 (by have := (lgc0 _).mp q; rw [uu_and] at this; exact this)), oL_s, nI_1]
      refine hno _ _ ih ?_ rfl
      show (bif Nat.beq _ 0 then (bif Nat.beq _ 0 then _ else none) else none) = none
      rw [u2, u3, beq_f c1]
      rfl
theorem fr_n {L : Nat} (hL : L ≤ 63) : ∀ (d left : Nat) (S : ST) (w : List Nat) (last : Nat) (near used : Int64), left < d → left ≤ 20 → left * (left + 1) / 2 ≤ L → w.length + left + 2 ≤ 24 → last ≤ L → MS S 20 (w ++ [last]) → ∃ b S', f_X8_finishRuler_n d S 20 (nI left) (nI L) near used = some (b, S') ∧ SR (fru L left last (uu near) (uu used)) b S' (w ++ [last]) ∧ FR [20] [20] [] S S'
  | 0, left, S, w, last, near, used, h, _, _, _, _, _ => absurd h (by omega)
  | d + 1, 0, S, w, last, near, used, _, _, _, hlen, hla, hm => by
    have hwl : (w ++ [last]).length = w.length + 1 := by rw [List.length_append, List.length_singleton]
    unfold f_X8_finishRuler_n g_X8_finishRuler f_X8_finishRuler_0
    rw [if_neg (by decide)]
    obtain ⟨S1, e1, m1, f1⟩ := hm.push (by omega) L
    rw [e1, oV_s]
    exact ⟨1, S1, rfl, Or.inl ⟨[L], rfl, rfl, m1⟩, f1⟩
  | d + 1, l + 1, S, w, last, near, used, hd, h20, hT, hlen, hla, hm => by
    have hwl : (w ++ [last]).length = w.length + 1 := by rw [List.length_append, List.length_singleton]
    have hp2 : (l + 1) * (l + 1 + 1) ≤ 24 * 24 := Nat.mul_le_mul (by omega) (by omega)
    have hp3 : l * (l + 1) ≤ (l + 1) * (l + 1 + 1) := Nat.mul_le_mul (by omega) (by omega)
    unfold f_X8_finishRuler_n g_X8_finishRuler f_X8_finishRuler_0
    rw [if_pos (show (0 : Int32) < nI (l + 1) from nI_lt (a := 0) (by omega) (by omega)), hm.greatest, oB_s, oG_t (by decide), oL_s, oL_s, nI_1, nI_1, pk_mul, show nI ((l + 1) * (l + 1 + 1)) / 2 = nI ((l + 1) * (l + 1 + 1) / 2) from pk_div (d := 2) (by omega) (by decide) (by decide), z_sub hT]
    exact fr34_l (f_X8_finishRuler_n d) hL hT (by omega) (fun S1 x near' used' h1 h2 m1 => fr_n hL d l S1 (w ++ [last]) x near' used' (by omega) (by omega) (by omega) (by omega) h2 m1) (L + 1 - (l + 1) * (l + 1 + 1) / 2 - (last + 1)) FU (last + 1) S rfl (by omega) (by omega) (by unfold FU; omega) hm
def mko (n : Nat) : Nat → Nat → Option (List Nat)
  | 0, _ => none
  | f + 1, L => match fru L (n - 2) 0 1 (1 * 2 ^ L % 18446744073709551616) with
    | some r => some r
    | none => mko n f (L + 1)
theorem mo34_1 (S : ST) (n : Int32) (a : Int32) (k : Nat) : f_X8_makeOptimal_34 (k + 1) S n 1 a = some S := by
  unfold f_X8_makeOptimal_34 f_X8_makeOptimal_66
  rw [if_neg (by decide)]
theorem mo34_l {n : Nat} (hn1 : 2 ≤ n) (hn : n ≤ 7) : ∀ (f k L : Nat) (S : ST) (r : List Nat), L + f ≤ 64 → (n - 2) * (n - 2 + 1) / 2 ≤ L → mko n f L = some r → f < k → MS S 20 [0] → ∃ S', f_X8_makeOptimal_34 k S (nI n) 0 (nI L) = some S' ∧ MS S' 20 (0 :: r) ∧ FR [20] [20] [] S S'
  | f, 0, L, S, r, _, _, _, h, _ => absurd h (by omega)
  | 0, k + 1, L, S, r, _, _, e, _, _ => absurd e (by simp [mko])
  | f + 1, k + 1, L, S, r, hL, hT, e, hk, hm => by
    unfold f_X8_makeOptimal_34
    rw [if_pos rfl, if_neg (show ¬ (63 : Int32) < nI L from nI_nlt (a := 63) (by omega) (by decide)), show nI n - (2 : Int32) = nI (n - 2) from z_sub (b := 2) hn1]
    obtain ⟨b, S1, e1, q1, f1⟩ := fr_n (show L ≤ 63 by omega) RD (n - 2) S [] 0 1 ((1 : Int64) <<< ((nI L).toInt64 &&& 63)) (show n - 2 < 24 by omega) (by omega) hT (by show 0 + (n - 2) + 2 ≤ 24; omega) (by omega) hm
    rw [show f_X8_finishRuler S 20 (nI (n - 2)) (nI L) 1 ((1 : Int64) <<< ((nI L).toInt64 &&& 63)) = some (b, S1) from e1, oB_s, oL_s, nI_1]
    have e : (match fru L (n - 2) 0 1 (1 * 2 ^ L % 18446744073709551616) with
      | some r => some r
      | none => mko n f (L + 1)) = some r := e
    rw [uu_shl 1 (show L < 64 by omega), uu_1] at q1
    rcases q1 with ⟨q, c1, c2, c3⟩ | ⟨c1, c2, c3⟩
    · rw [c1] at e
      have e : q = r := Option.some.inj e
      obtain ⟨j, rfl⟩ : ∃ j, k = j + 1 := ⟨k - 1, by omega⟩
      rw [c2, mo34_1]
      exact ⟨S1, rfl, by rw [← e]; exact c3, f1⟩
    · rw [c1] at e
      rw [c2]
      obtain ⟨S2, e2, m2, f2⟩ := mo34_l hn1 hn f k (L + 1) S1 r (by omega) (by omega) e (by omega) c3
      exact ⟨S2, e2, m2, f1.tr f2⟩
def tabO (n : Nat) : List Nat := ([[], [], [1], [1, 3], [1, 4, 6], [1, 4, 9, 11], [1, 4, 10, 12, 17], [1, 4, 10, 18, 23, 25]] : List (List Nat)).getD n []
set_option maxRecDepth 1000000 in
theorem tabo_c : ∀ n, n < 6 → mko (n + 2) 40 ((n + 2) * (n + 2 - 1) / 2) = some (tabO (n + 2)) := by decide +kernel
set_option maxRecDepth 1000000 in
theorem tabo_r : ∀ n, n < 6 → opR (n + 2) 40000 ((n + 2) * (n + 2 - 1) / 2) (rg 1 (n + 2 - 1)) = some (tabO (n + 2)) := by decide +kernel
def opZ (n : Nat) : List Nat := 0 :: tabO n
theorem opZ_ok : ∀ n, n < 7 → (opZ (n + 1)).Pairwise (· < ·) ∧ (opZ (n + 1)).length ≤ 24 ∧ (∀ v, v ∈ opZ (n + 1) → v ≤ 2000) ∧ (tabO (n + 1)).length = n := by decide +kernel
theorem T_n {n : Nat} (h1 : 2 ≤ n) (hn : n ≤ 7) : (n - 2) * (n - 2 + 1) / 2 ≤ n * (n - 1) / 2 ∧ n - 1 ≤ n * (n - 1) / 2 ∧ n * (n - 1) / 2 ≤ 21 := by
  have : ∀ m, m < 6 → (m + 2 - 2) * (m + 2 - 2 + 1) / 2 ≤ (m + 2) * (m + 2 - 1) / 2 ∧ m + 2 - 1 ≤ (m + 2) * (m + 2 - 1) / 2 ∧ (m + 2) * (m + 2 - 1) / 2 ≤ 21 := by decide
  have := this (n - 2) (by omega)
  rw [show n - 2 + 2 = n by omega] at this
  exact this
theorem X8_makeOptimal {S : ST} {n : Nat} (h1 : 1 ≤ n) (hn : n ≤ 7) : ∃ S', f_X8_makeOptimal S (nI n) = some S' ∧ MS S' 20 (opZ n) ∧ FR [20] [20] [] S S' := by
  obtain ⟨S1, e1, m1, f1⟩ := MS.empty S 20
  obtain ⟨S2, e2, m2, f2⟩ := m1.push (by decide) 0
  have f12 : FR [20] [20] [] S S2 := (f1.wk (by simp) (by simp) (by simp)).tr f2
  have hmul : n * (n - 1) ≤ 7 * 7 := Nat.mul_le_mul hn (by omega)
  unfold f_X8_makeOptimal f_X8_makeOptimal_0
  rw [e1, oV_s, show f_X2_push S1 20 0 = some S2 from e2, oV_s]
  by_cases h2 : 2 ≤ n
  · obtain ⟨t1, t2, t3⟩ := T_n h2 hn
    obtain ⟨S3, e3, m3, f3⟩ := mo34_l h2 hn 40 FU (n * (n - 1) / 2) S2 (tabO n) (by omega) t1 (by
      have := tabo_c (n - 2) (by omega)
      rw [show n - 2 + 2 = n by omega] at this
      exact this) (by unfold FU; omega) m2
    rw [if_pos (show (2 : Int32) ≤ nI n from nI_le (a := 2) h2 (by omega))]
    unfold f_X8_makeOptimal_25
    rw [oG_t (by decide), oL_s, show nI n - (1 : Int32) = nI (n - 1) from z_sub (b := 1) h1, pk_mul, show nI (n * (n - 1)) / 2 = nI (n * (n - 1) / 2) from pk_div (d := 2) (by omega) (by decide) (by decide)]
    exact ⟨S3, e3, m3, f12.tr f3⟩
  · have e : n = 1 := by omega
    rw [if_neg (show ¬ (2 : Int32) ≤ nI n from nI_ge (b := 2) (by omega) (by decide))]
    unfold f_X8_makeOptimal_25
    rw [oG_t (by decide), oL_s]
    refine ⟨S2, mo34_1 S2 _ _ 999999, ?_, f12⟩
    rw [e]
    exact m2
theorem op_end {S S0 : ST} {t : (Nat → List Nat) × Nat} {p : List ((Nat → List Nat) × Nat)} {n to : Nat} (h1 : 1 ≤ n) (hn : n ≤ 7) (hto : to < 4) (h : RepM S t p) (hp : PK S (tabO n)) (hg : GR 63 1 (tabO n)) (hf : FR [50, 52] AMo [] (sI S0 51 0) S) : MO (OPE S n to) S0 0 (nI (spanOf (opZ n))) (put4 t to (opZ n) t.2) p := by
  obtain ⟨k1, k2, k3, k4⟩ := opZ_ok (n - 1) (by omega)
  rw [show n - 1 + 1 = n by omega] at k1 k2 k3 k4
  obtain ⟨S5, e5, m5, s5, f5⟩ := X9_makes (show 63 < 2 ^ 30 by decide) hp hg (by omega)
  rw [k4] at e5
  unfold OPE
  rw [show nI n - (1 : Int32) = nI (n - 1) from z_sub (b := 1) h1, e5, oV_s]
  exact MO_put (h.fr f5 (by simp) (by simp) (by simp)) m5 hto (hf.tr (f5.wk (by simp) (by simp [AMo]) (by simp))) _ (fun S2 q2 => by rw [len_k hto k1 S2 q2, oB_s])
theorem J_optimal {S : ST} (h : INV S) (a b : Int32) : ∃ S', g_optimal S a b = some S' ∧ INV S' := by
  obtain ⟨t, p, hc, hm, hu, ht, hp⟩ := h
  show ∃ S', gI (oY (f_X8_optimal S a b) [(1, 1), (2, 2)] kI) (fun S1 => f_X9_optimal S1 a b) = some S' ∧ INV S'
  rcases set_or b with hb | ⟨to, hto, rfl⟩
  · refine gI_thr (n := 1) (c := 1) (r := 0) (by decide) (by decide) rfl hm ht hp ⟨S, ?_, hc, hu, FC.rf S⟩ (fun S1 h1 => ⟨0, MO_thr h1 0 ?_⟩)
    · unfold f_X8_optimal f_X8_optimal_0
      rw [X8_needSet_n S hb, oX_n S _ _ (by decide)]
    · unfold f_X9_optimal f_X9_optimal_0 f_X9_optimal_27
      rw [X9_isSet_n S1 hb, oB_s, if_pos rfl, X9_ref1, oB_s, if_neg (by decide)]
  · rcases rng_or a 1 7 (by decide) (by decide) with hb | ⟨n, n1, n2, rfl⟩
    · refine gI_thr (n := 2) (c := 2) (r := 0) (by decide) (by decide) rfl hm ht hp ⟨S, ?_, hc, hu, FC.rf S⟩ (fun S1 h1 => ⟨0, MO_thr h1 0 ?_⟩)
      · unfold f_X8_optimal f_X8_optimal_0 f_X8_optimal_15
        rw [X8_needSet_y S hto, oX_0]
        exact cl_n (a := 1) (b := 7) hb _ _
      · unfold f_X9_optimal f_X9_optimal_0 f_X9_optimal_27
        rw [X9_isSet_y S1 hto, oB_s, if_neg (by decide), show f_X9_within S1 a 1 7 = some (0, S1) from wi_n S1 hb, oB_s, if_pos rfl, X9_ref2, oB_s, if_neg (by decide)]
    · have ecl : ∀ (u w : Option (Nat × Int32 × ST)), (if nI n < 1 then u else if nI n ≤ 7 then w else u) = w := fun u w => cl_y (a := 1) (b := 7) n1 n2 (by decide) u w
      obtain ⟨k1, k2, k3, k4⟩ := opZ_ok (n - 1) (by omega)
      rw [show n - 1 + 1 = n by omega] at k1 k2 k3 k4
      have hmul : n * (n - 1) ≤ 7 * 7 := Nat.mul_le_mul n2 (by omega)
      refine gI_ok [(1, 1), (2, 2)] (r := nI (spanOf (opZ n))) (t' := put4 t to (opZ n) t.2) (p' := t :: p.take 3) hm (ht.put ⟨k1, k2, k3⟩ ht.2.1 ht.2.2) (OKp.push ht hp) ?_ (fun S1 h1 => ?_)
      · unfold f_X8_optimal f_X8_optimal_0
        obtain ⟨S1, e1, m1, f1⟩ := X8_makeOptimal (S := S) n1 n2
        have hc1 : RepC S1 t p := hc.fr f1 (by simp) (by simp)
        rw [X8_needSet_y S hto, oX_0, ecl, e1, oV_s, hc1.md]
        exact CO_rep (S := S) hc1 (hu.fr f1 (by simp) (by simp) (by simp)) (FC.of f1 (by simp) (by simp)) m1 hto (fun (S2 : ST) => oB (f_X2_span S2 20) (fun (r4 : Int32) (S3 : ST) => some (0, r4, S3))) (r := nI (spanOf (opZ n))) (span_k k1)
      · obtain ⟨S2, e2, m2, f2⟩ := h1.sv
        obtain ⟨S3, e3, p3, f3⟩ := X9_picksFirst S2 (a := 1) (m := n - 1) (by omega)
        have h3 : RepM S3 t (t :: p.take 3) := m2.fr f3 (by simp) (by simp) (by simp)
        have hf3 : FR [50, 52] AMo [] (sI S1 51 0) S3 := f2.tr (f3.wk (by simp) (by simp [AMo]) (by simp))
        unfold f_X9_optimal f_X9_optimal_0 f_X9_optimal_27 f_X9_optimal_57
        rw [X9_isSet_y S1 hto, oB_s, if_neg (by decide), show f_X9_within S1 (nI n) 1 7 = some (1, S1) from wi_y S1 n1 n2 (by decide), oB_s, if_neg (by decide), X9_refused0, oB_s, if_pos rfl, e2, oV_s, oG_t (by decide), oL_s, show nI n - (1 : Int32) = nI (n - 1) from z_sub (b := 1) n1, show f_X9_picksFirst S2 (nI (n - 1)) 1 = some S3 from e3, oV_s, oV_s]
        by_cases e : n = 1
        · rw [if_pos (show nI n = 1 by rw [e]; rfl)]
          have hpe : PK S3 (tabO n) := by rw [e] at p3 ⊢; exact p3
          have hge : GR 63 1 (tabO n) := by rw [e]; trivial
          exact op_end n1 n2 hto h3 hpe hge hf3
        · rw [if_neg (show ¬ nI n = 1 from z_ne (b := 1) (by omega) (by decide) e), pk_mul, show nI (n * (n - 1)) / 2 = nI (n * (n - 1) / 2) from pk_div (d := 2) (by omega) (by decide) (by decide)]
          obtain ⟨t1, t2, t3⟩ := T_n (show 2 ≤ n by omega) n2
          obtain ⟨S4, e4, p4, l4, g4, f4⟩ := op67_l (to := to) (show 2 ≤ n by omega) n2 40000 FU S3 (n * (n - 1) / 2) (rg 1 (n - 1)) (tabO n) (by
            have := tabo_r (n - 2) (by omega)
            rw [show n - 2 + 2 = n by omega] at this
            exact this) (rg_len _ _) p3 (GR_rg _ 1 1 (Nat.le_refl _) (by omega)) t2 (by omega) (by unfold FU; omega)
          rw [e4]
          exact op_end n1 n2 hto (h3.fr f4 (by simp) (by simp) (by simp)) p4 g4 (hf3.tr (f4.wk (by simp) (by simp [AMo]) (by simp)))
