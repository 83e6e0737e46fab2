/-! sparse rulers -/
theorem nI_and2 {a b : Nat} (ha : a < 2 ^ 31) (hb : b < 2 ^ 31) : nI a &&& nI b = nI (a &&& b) := by
  apply Int32.toBitVec_inj.mp
  apply BitVec.eq_of_toNat_eq
  rw [Int32.toBitVec_and, BitVec.toNat_and, pk_tn (by omega), pk_tn (by omega), pk_tn (Nat.lt_of_le_of_lt Nat.and_le_left (by omega))]
theorem nI_or2 {a b : Nat} (ha : a < 2 ^ 31) (hb : b < 2 ^ 31) : nI a ||| nI b = nI (a ||| b) := by
  have := Nat.or_lt_two_pow ha hb
  apply Int32.toBitVec_inj.mp
  apply BitVec.eq_of_toNat_eq
  rw [Int32.toBitVec_or, BitVec.toNat_or, pk_tn (by omega), pk_tn (by omega), pk_tn (by omega)]
theorem sm_32 : ∀ d, d < 32 → ((nI d &&& 31).toBitVec.smod 32).toNat = d := by decide +kernel
theorem sl_32 : ∀ d, d < 31 → (1 : Int32) <<< (nI d &&& 31) = nI (2 ^ d) := by decide +kernel
def cmpB (s : Nat) : Nat → Nat → Bool
  | 0, _ => true
  | f + 1, d => bif Nat.beq (s &&& (s / 2 ^ d)) 0 then false else cmpB s f (d + 1)
theorem ic_0 (S : ST) (a b d : Int32) (k : Nat) : f_X9_isComplete_4 (k + 1) S a b 0 d = some (0, S) := by
  unfold f_X9_isComplete_4 f_X9_isComplete_33
  rw [if_pos (show (0 : Int32) = 0 from rfl)]
  split <;> rfl
theorem ic_l {S : ST} {s n : Nat} (hs : s < 2 ^ 31) (hn : n ≤ 20) : ∀ (f k d : Nat), d + f = n + 1 → f < k → f_X9_isComplete_4 k S (nI s) (nI n) 1 (nI d) = some (if cmpB s f d = true then 1 else 0, S)
  | f, 0, d, _, h => absurd h (by omega)
  | 0, k + 1, d, h1, h2 => by
    unfold f_X9_isComplete_4 f_X9_isComplete_33
    rw [if_pos (nI_lt (show n < d by omega) (by omega)), oG_t (by decide)]
    rfl
  | f + 1, k + 1, d, h1, h2 => by
    unfold f_X9_isComplete_4 f_X9_isComplete_26
    have hq : s / 2 ^ d ≤ s := Nat.div_le_self _ _
    have hland : s &&& (s / 2 ^ d) < 2 ^ 31 := Nat.lt_of_le_of_lt Nat.and_le_left hs
    rw [if_neg (nI_nlt (show d ≤ n by omega) (by omega)), if_neg (show ¬ (1 : Int32) = 0 by decide), pk_shrN hs _ d (sm_32 d (by omega)), nI_and2 hs (by omega)]
    show _ = some (if (bif Nat.beq (s &&& (s / 2 ^ d)) 0 then false else cmpB s f (d + 1)) = true then 1 else 0, S)
    by_cases hz : s &&& (s / 2 ^ d) = 0
    · rw [if_pos (show nI (s &&& (s / 2 ^ d)) = 0 by rw [hz]; rfl), oL_s, show Nat.beq (s &&& (s / 2 ^ d)) 0 = true from Nat.beq_eq.mpr hz]
      obtain ⟨j, rfl⟩ : ∃ j, k = j + 1 := ⟨k - 1, by omega⟩
      rw [ic_0]
      rfl
    · rw [if_neg (nI_ne0 (by omega) hland), oL_s, nI_1, show Nat.beq (s &&& (s / 2 ^ d)) 0 = false from Bool.eq_false_iff.mpr (fun q => hz (Nat.beq_eq.mp q))]
      exact ic_l hs hn f k (d + 1) (by omega) (by omega)
theorem X9_isComplete {S : ST} {s n : Nat} (hs : s < 2 ^ 31) (hn : n ≤ 20) : f_X9_isComplete S (nI s) (nI n) = some (if cmpB s n 1 = true then 1 else 0, S) :=
  ic_l hs hn n FU 1 (by omega) (by unfold FU; omega)
def mskR : Nat → List Nat → Nat
  | s, [] => s
  | s, x :: r => mskR (s ||| 2 ^ x) r
theorem mskR_b : ∀ (r : List Nat) (s : Nat), s < 2 ^ 31 → (∀ x, x ∈ r → x ≤ 20) → mskR s r < 2 ^ 31
  | [], s, h, _ => h
  | x :: r, s, h, hb => mskR_b r _ (Nat.or_lt_two_pow h (Nat.pow_lt_pow_right (by decide) (by have := hb x List.mem_cons_self; omega))) (fun y hy => hb y (List.mem_cons_of_mem _ hy))
def SP65 (k50 : ST → Int32 → Int32 → Int32 → Int32 → Option (Int32 × ST)) (S : ST) (a1 a2 a3 a5 : Int32) : Option (Int32 × ST) := oB (f_X9_isComplete S a5 a1) (fun (r3 : Int32) (S2 : ST) => (if r3 = 0 then oB (f_X9_picksNext S2 a3 (a1 - (1 : Int32))) (fun (r6 : Int32) (S5 : ST) => (if r6 = 0 then oL (a3 + 1) (fun (v8 : Int32) => oV (f_X9_picksFirst S5 v8 1) (fun (S9 : ST) => f_X9_sparse_124 k50 S9 a1 a2 v8 r3)) else f_X9_sparse_124 k50 S5 a1 a2 a3 r3)) else f_X9_sparse_124 k50 S2 a1 a2 a3 r3))
theorem sp65_l {S : ST} {r : List Nat} (hp : PK S r) (hb : ∀ x, x ∈ r → x ≤ 20) (k50 : ST → Int32 → Int32 → Int32 → Int32 → Option (Int32 × ST)) (a1 a2 : Int32) : ∀ (f j s : Nat), s < 2 ^ 31 → j ≤ r.length → r.length < f + j → f_X9_sparse_65 k50 f S a1 a2 (nI r.length) (nI s) (nI j) = SP65 k50 S a1 a2 (nI r.length) (nI (mskR s (r.drop j)))
  | 0, j, s, _, _, h => absurd h (by omega)
  | f + 1, j, s, hs, h1, h2 => by
    have h24 := hp.1
    unfold f_X9_sparse_65
    by_cases hj : j = r.length
    · rw [hj, if_pos (nI_le (Nat.le_refl _) (by omega)), List.drop_length]
      rfl
    · have hj : j < r.length := by omega
      have hx := hb _ (gd_mem hj)
      have hpw : 2 ^ (r.getD j 0) < 2 ^ 31 := Nat.pow_lt_pow_right (by decide) (by omega)
      rw [if_neg (nI_ge hj (by omega)), oG_t (inB_n (show j < 24 by omega) (by omega)), nI_clamp (by omega), hp.2 j hj, sl_32 _ (by omega), nI_or2 hs hpw, oL_s, oL_s, nI_1, dr_c hj]
      exact sp65_l hp hb k50 a1 a2 f (j + 1) _ (Nat.or_lt_two_pow hs hpw) (by omega) (by omega)
def spR (n : Nat) : Nat → List Nat → Option (List Nat)
  | 0, _ => none
  | f + 1, r => bif cmpB (mskR (1 ||| 2 ^ n) r) n 1 then some r else match nx (n - 1) r with
    | some q => spR n f q
    | none => bif Nat.ble (r.length + 2) n then spR n f (rg 1 (r.length + 1)) else none
theorem spR_e (n f : Nat) (r : List Nat) : spR n (f + 1) r = bif cmpB (mskR (1 ||| 2 ^ n) r) n 1 then some r else match nx (n - 1) r with
    | some q => spR n f q
    | none => bif Nat.ble (r.length + 2) n then spR n f (rg 1 (r.length + 1)) else none := rfl
def SPE (S : ST) (n to : Nat) (q : List Nat) : Option (Int32 × ST) := oV (f_X9_makes S (nI q.length)) (fun (S2 : ST) => oV (f_X9_comes S2 (nI n)) (fun (S3 : ST) => oB (f_X9_becomes S3 (nI to)) (fun (r5 : Int32) (S4 : ST) => some (r5, S4))))
theorem sp50_l {n to : Nat} (hn1 : 1 ≤ n) (hn : n ≤ 20) : ∀ (f k : Nat) (S : ST) (r q : List Nat), spR n f r = some q → PK S r → GR (n - 1) 1 r → f < k → ∃ S', f_X9_sparse_50 k S (nI n) (nI to) (nI r.length) 0 = SPE S' n to q ∧ PK S' q ∧ GR (n - 1) 1 q ∧ FR [] [35] [] S S'
  | f, 0, S, r, q, _, _, _, h => absurd h (by omega)
  | 0, k + 1, S, r, q, e, _, _, _ => absurd e (by simp [spR])
  | f + 1, k + 1, S, r, q, e, hp, hg, hk => by
    have h24 := hp.1
    have hb : ∀ x, x ∈ r → x ≤ 20 := fun x hx => by have := GR_b r 1 x hg hx; omega
    have hs0 : (1 ||| 2 ^ n) < 2 ^ 31 := Nat.or_lt_two_pow (by decide) (Nat.pow_lt_pow_right (by decide) (by omega))
    rw [spR_e] at e
    unfold f_X9_sparse_50
    rw [if_pos rfl, oL_s, sl_32 n (by omega), show (1 : Int32) ||| nI (2 ^ n) = nI (1 ||| 2 ^ n) from nI_or2 (a := 1) (by decide) (Nat.pow_lt_pow_right (by decide) (by omega))]
    rw [show f_X9_sparse_65 (f_X9_sparse_50 k) FU S (nI n) (nI to) (nI r.length) (nI (1 ||| 2 ^ n)) 0 = _ from sp65_l hp hb (f_X9_sparse_50 k) (nI n) (nI to) FU 0 (1 ||| 2 ^ n) hs0 (by omega) (by unfold FU; omega), List.drop_zero]
    unfold SP65 f_X9_sparse_124
    rw [X9_isComplete (mskR_b r _ hs0 hb) hn, oB_s]
    cases hc : cmpB (mskR (1 ||| 2 ^ n) r) n 1 with
    | true =>
      rw [hc] at e
      have e : r = q := Option.some.inj e
      rw [if_pos rfl, if_neg (by decide)]
      obtain ⟨j, rfl⟩ : ∃ j, k = j + 1 := ⟨k - 1, by omega⟩
      refine ⟨S, ?_, by rw [← e]; exact hp, by rw [← e]; exact hg, FR.rf _ _ _ S⟩
      unfold f_X9_sparse_50
      rw [if_neg (by decide), ← e]
      rfl
    | false =>
      rw [hc] at e
      rw [if_neg (show ¬ false = true by decide), if_pos rfl, show nI n - (1 : Int32) = nI (n - 1) from z_sub (b := 1) hn1]
      obtain ⟨b, S1, e1, q1, f1⟩ := X9_picksNext (show n - 1 < 2 ^ 30 by omega) hp hg
      rw [e1, oB_s]
      rcases q1 with ⟨c1, c2, c3⟩ | ⟨w, c1, c2, c3⟩
      · rw [c1] at e
        rw [c2, c3, if_pos rfl, oL_s, nI_1]
        cases hle : Nat.ble (r.length + 2) n with
        | false => rw [hle] at e; exact absurd e (by simp)
        | true =>
          rw [hle] at e
          have hle := Nat.le_of_ble_eq_true hle
          obtain ⟨S2, e2, p2, f2⟩ := X9_picksFirst S (a := 1) (m := r.length + 1) (by omega)
          rw [show f_X9_picksFirst S (nI (r.length + 1)) 1 = some S2 from e2, oV_s]
          obtain ⟨S3, e3, p3, g3, f3⟩ := sp50_l (to := to) hn1 hn f k S2 _ q e p2 (GR_rg _ 1 1 (Nat.le_refl _) (by omega)) (by omega)
          rw [rg_len] at e3
          exact ⟨S3, e3, p3, g3, f2.tr f3⟩
      · rw [c1] at e
        rw [c2, if_neg (by decide)]
        obtain ⟨g2, l2⟩ := GR_nx r 1 w hg c1
        obtain ⟨S3, e3, p3, g3, f3⟩ := sp50_l (to := to) hn1 hn f k S1 w q e c3 g2 (by omega)
        rw [l2] at e3
        exact ⟨S3, e3, p3, g3, f1.tr f3⟩
/-! the class's search -/
theorem uu_shl (x : Int64) {k : Nat} (hk : k < 64) : uu (x <<< ((nI k).toInt64 &&& 63)) = uu x * 2 ^ k % 18446744073709551616 := by
  unfold uu
  rw [Int64.toBitVec_shiftLeft, sh_m k hk, BitVec.shiftLeft_eq', BitVec.toNat_shiftLeft, Nat.shiftLeft_eq, BitVec.toNat_ofNat, Nat.mod_eq_of_lt (show k < 2 ^ 64 by omega)]
theorem uu_or (x y : Int64) : uu (x ||| y) = uu x ||| uu y := by unfold uu; rw [Int64.toBitVec_or, BitVec.toNat_or]
theorem uu_xor (x y : Int64) : uu (x ^^^ y) = uu x ^^^ uu y := by unfold uu; rw [Int64.toBitVec_xor, BitVec.toNat_xor]
theorem uu_m1 : uu (-1) = 18446744073709551615 := by decide
theorem uu_1 : uu 1 = 1 := by decide
def lpF (g : Nat → Option (List Nat)) : Nat → Nat → Option (List Nat)
  | 0, _ => none
  | k + 1, x => match g x with
    | some r => some (x :: r)
    | none => lpF g k (x + 1)
theorem lpF_s {g : Nat → Option (List Nat)} {k x : Nat} {r : List Nat} (e : g x = some r) : lpF g (k + 1) x = some (x :: r) := by
  show (match g x with
    | some r => some (x :: r)
    | none => lpF g k (x + 1)) = _
  rw [e]
theorem lpF_n {g : Nat → Option (List Nat)} {k x : Nat} (e : g x = none) : lpF g (k + 1) x = lpF g k (x + 1) := by
  show (match g x with
    | some r => some (x :: r)
    | none => lpF g k (x + 1)) = _
  rw [e]
/-- how a search ends: found, the marks pushed; or not, and nothing changed -/
def SR (o : Option (List Nat)) (b : Int32) (S' : ST) (w : List Nat) : Prop := (∃ r, o = some r ∧ b = 1 ∧ MS S' 20 (w ++ r)) ∨ (o = none ∧ b = 0 ∧ MS S' 20 w)
theorem popN_z : ∀ k, popN k 0 = 0
  | 0 => rfl
  | k + 1 => by show 0 % 2 + popN k (0 / 2) = 0; rw [Nat.zero_div, popN_z k]
theorem popN_le : ∀ k n, popN k n ≤ k
  | 0, _ => Nat.le_refl _
  | k + 1, n => by
    show n % 2 + popN k (n / 2) ≤ k + 1
    have := popN_le k (n / 2)
    have := Nat.mod_lt n (show 0 < 2 by decide)
    omega
def pop64 (m : Nat) : Nat := bif Nat.ble 2097152 m then popN 64 m else popN 21 m
theorem pop64_e (m : Nat) : pop64 m = popN 64 m := by
  unfold pop64
  cases h : Nat.ble 2097152 m with
  | true => rfl
  | false =>
    have : ¬ 2097152 ≤ m := fun q => by rw [Nat.ble_eq_true_of_le q] at h; exact absurd h (by decide)
    have hq := popN_add 21 43 m
    rw [Nat.div_eq_of_lt (show m < 2 ^ 21 by omega), popN_z, Nat.add_zero, show (21 + 43 : Nat) = 64 from rfl] at hq
    rw [cond_false, hq]
    exact (Nat.add_zero _).symm
def fsp (n : Nat) : Nat → Nat → Nat → Nat → Nat → Option (List Nat)
  | 0, _, _, _, ms => bif Nat.ble (pop64 ms) 0 then some [n] else none
  | l + 1, c, last, near, ms => bif Nat.ble (pop64 ms) ((l + 1) * (c + 1) + (l + 1) * l / 2) then lpF (fun x => fsp n l (c + 1) x ((near * 2 ^ (x - last) % 18446744073709551616) ||| 1) (ms &&& (((near * 2 ^ (x - last) % 18446744073709551616) ||| (1 * 2 ^ (n - x) % 18446744073709551616)) ^^^ 18446744073709551615))) (n - l - (last + 1)) (last + 1) else none
theorem fs53_l {n left last : Nat} {w : List Nat} {near ms : Int64} (rec : ST → Nat → Int32 → Int32 → Int64 → Int64 → Option (Int32 × ST)) (hn : n ≤ 20) (hl : left + 1 ≤ n) (hw : (w ++ [last]).length < 24)
    (hrec : ∀ (S : ST) (x : Nat) (near' ms' : Int64), last < x → x ≤ n → MS S 20 ((w ++ [last]) ++ [x]) → ∃ b S', rec S 20 (nI left) (nI n) near' ms' = some (b, S') ∧ SR (fsp n left (w.length + 2) x (uu near') (uu ms')) b S' ((w ++ [last]) ++ [x]) ∧ FR [20] [20] [] S S') :
    ∀ (k f x : Nat) (S : ST), n - left - x = k → last < x → x ≤ n + 1 → k < f → MS S 20 (w ++ [last]) → ∃ b S', f_X8_finishSparse_53 rec f S 20 (nI (left + 1)) (nI n) near ms (nI last) (nI x) = some (b, S') ∧ SR (lpF (fun x => fsp n left (w.length + 2) x ((uu near * 2 ^ (x - last) % 18446744073709551616) ||| 1) (uu ms &&& (((uu near * 2 ^ (x - last) % 18446744073709551616) ||| (1 * 2 ^ (n - x) % 18446744073709551616)) ^^^ 18446744073709551615))) k x) b S' (w ++ [last]) ∧ FR [20] [20] [] S S'
  | k, 0, x, S, _, _, _, h, _ => absurd h (by omega)
  | 0, f + 1, x, S, hk, hx, hx2, _, hm => by
    unfold f_X8_finishSparse_53
    rw [show nI n - nI (left + 1) = nI (n - (left + 1)) from z_sub hl]
    rw [if_pos (nI_lt (show n - (left + 1) < x by omega) (by omega))]
    exact ⟨0, S, rfl, Or.inr ⟨rfl, rfl, hm⟩, FR.rf _ _ _ S⟩
  | k + 1, f + 1, x, S, hk, hx, hx2, hf, hm => by
    unfold f_X8_finishSparse_53
    rw [show nI n - nI (left + 1) = nI (n - (left + 1)) from z_sub hl, if_neg (nI_nlt (show x ≤ n - (left + 1) by omega) (by omega)), oL_s, oL_s, z_sub (show last ≤ x by omega), z_sub (show x ≤ n by omega)]
    obtain ⟨S1, e1, m1, f1⟩ := hm.push hw x
    rw [e1, oV_s, show nI (left + 1) - (1 : Int32) = nI left from nI_pred left]
    obtain ⟨b, S2, e2, q2, f2⟩ := hrec S1 x (near <<< ((nI (x - last)).toInt64 &&& 63) ||| 1) (ms &&& ((near <<< ((nI (x - last)).toInt64 &&& 63) ||| (1 : Int64) <<< ((nI (n - x)).toInt64 &&& 63)) ^^^ (-1))) hx (by omega) m1
    rw [e2, oB_s]
    rw [uu_or, uu_and, uu_xor, uu_or, uu_shl near (show x - last < 64 by omega), uu_shl 1 (show n - x < 64 by omega), uu_m1, uu_1] at q2
    rcases q2 with ⟨r, c1, c2, c3⟩ | ⟨c1, c2, c3⟩
    · rw [c2, if_neg (by decide)]
      refine ⟨1, S2, rfl, Or.inl ⟨x :: r, lpF_s c1, rfl, ?_⟩, f1.tr f2⟩
      rw [List.append_assoc, List.singleton_append] at c3
      exact c3
    · obtain ⟨S3, e3, m3, f3⟩ := c3.pop
      rw [c2, if_pos rfl, e3, oV_s, oL_s, nI_1]
      obtain ⟨b4, S4, e4, q4, f4⟩ := fs53_l (near := near) (ms := ms) rec hn hl hw hrec k f (x + 1) S3 (by omega) (by omega) (by omega) (by omega) m3
      exact ⟨b4, S4, e4, by rw [lpF_n (x := x) (k := k) c1]; exact q4, f1.tr (f2.tr ((f3.wk (by simp) (by simp) (by simp)).tr f4))⟩
theorem fs_n {n : Nat} (hn : n ≤ 20) : ∀ (d left : Nat) (S : ST) (w : List Nat) (last : Nat) (near ms : Int64), left < d → left ≤ n → w.length + left + 2 ≤ 24 → last ≤ n → MS S 20 (w ++ [last]) → ∃ b S', f_X8_finishSparse_n d S 20 (nI left) (nI n) near ms = some (b, S') ∧ SR (fsp n left (w.length + 1) last (uu near) (uu ms)) b S' (w ++ [last]) ∧ FR [20] [20] [] S S'
  | 0, left, S, w, last, near, ms, h, _, _, _, _ => absurd h (by omega)
  | d + 1, 0, S, w, last, near, ms, _, _, hlen, hla, hm => by
    have hwl : (w ++ [last]).length = w.length + 1 := by rw [List.length_append, List.length_singleton]
    have hpl := popN_le 64 (uu ms)
    unfold f_X8_finishSparse_n g_X8_finishSparse f_X8_finishSparse_0
    rw [oG_t (by decide), oL_s, bitCount_e, oB_s, show nI 0 * (fi S 20 + 1) + nI 0 * (nI 0 - 1) / 2 = nI 0 by
      rw [nI_0, Int32.zero_mul, show (0 : Int32) * (0 - 1) / 2 = 0 by decide]; rfl]
    show ∃ b S', _ ∧ SR (bif Nat.ble (pop64 (uu ms)) 0 then some [n] else none) b S' _ ∧ _
    rw [pop64_e]
    cases hb : Nat.ble (popN 64 (uu ms)) 0 with
    | true =>
      have := Nat.le_of_ble_eq_true hb
      rw [if_pos (nI_le this (by decide)), if_neg (by decide)]
      obtain ⟨S1, e1, m1, f1⟩ := hm.push (by omega) n
      rw [e1, oV_s]
      exact ⟨1, S1, rfl, Or.inl ⟨[n], rfl, rfl, m1⟩, f1⟩
    | false =>
      have : ¬ popN 64 (uu ms) ≤ 0 := fun q => by rw [Nat.ble_eq_true_of_le q] at hb; exact absurd hb (by decide)
      rw [if_neg (nI_ge (show 0 < popN 64 (uu ms) by omega) (by omega))]
      exact ⟨0, S, rfl, Or.inr ⟨rfl, rfl, hm⟩, FR.rf _ _ _ S⟩
  | d + 1, l + 1, S, w, last, near, ms, hd, hln, hlen, hla, hm => by
    have hwl : (w ++ [last]).length = w.length + 1 := by rw [List.length_append, List.length_singleton]
    have hpl := popN_le 64 (uu ms)
    have hp1 : (l + 1) * (w.length + 1 + 1) ≤ 24 * 24 := Nat.mul_le_mul (by omega) (by omega)
    have hp2 : (l + 1) * l ≤ 24 * 24 := Nat.mul_le_mul (by omega) (by omega)
    unfold f_X8_finishSparse_n g_X8_finishSparse f_X8_finishSparse_0
    rw [oG_t (by decide), oL_s, bitCount_e, oB_s, hm.2.1, hwl, nI_1, pk_mul, show nI (l + 1) - (1 : Int32) = nI l from nI_pred l, pk_mul, show nI ((l + 1) * l) / 2 = nI ((l + 1) * l / 2) from pk_div (d := 2) (by omega) (by decide) (by decide), nI_add]
    show ∃ b S', _ ∧ SR (bif Nat.ble (pop64 (uu ms)) ((l + 1) * (w.length + 1 + 1) + (l + 1) * l / 2) then _ else none) b S' _ ∧ _
    rw [pop64_e]
    cases hb : Nat.ble (popN 64 (uu ms)) ((l + 1) * (w.length + 1 + 1) + (l + 1) * l / 2) with
    | true =>
      have := Nat.le_of_ble_eq_true hb
      rw [if_pos (nI_le this (by omega)), if_pos (show (0 : Int32) < nI (l + 1) from nI_lt (a := 0) (by omega) (by omega)), hm.greatest, oB_s, oL_s, nI_1]
      exact fs53_l (f_X8_finishSparse_n d) hn hln (by omega) (fun S1 x near' ms' h1 h2 m1 => by
        obtain ⟨b, S2, e2, q2, f2⟩ := fs_n hn d l S1 (w ++ [last]) x near' ms' (by omega) (by omega) (by omega) h2 m1
        rw [hwl] at q2
        exact ⟨b, S2, e2, q2, f2⟩) (n - l - (last + 1)) FU (last + 1) S rfl (by omega) (by omega) (by unfold FU; omega) hm
    | false =>
      have : ¬ popN 64 (uu ms) ≤ (l + 1) * (w.length + 1 + 1) + (l + 1) * l / 2 := fun q => by rw [Nat.ble_eq_true_of_le q] at hb; exact absurd hb (by decide)
      rw [if_neg (nI_ge (show (l + 1) * (w.length + 1 + 1) + (l + 1) * l / 2 < popN 64 (uu ms) by omega) (by omega))]
      exact ⟨0, S, rfl, Or.inr ⟨rfl, rfl, hm⟩, FR.rf _ _ _ S⟩
def msp (n bt : Nat) : Nat → Nat → Option (List Nat)
  | 0, _ => none
  | f + 1, i => match fsp n i 1 0 1 bt with
    | some r => some r
    | none => msp n bt f (i + 1)
theorem ms28_l {n : Nat} (hn : n ≤ 20) {bt : Int64} : ∀ (f k i : Nat) (S : ST) (r : List Nat), i + f = n → msp n (uu bt) f i = some r → f < k → MS S 20 [0] → ∃ S', f_X8_makeSparse_28 k S (nI n) 0 bt (nI i) = some S' ∧ MS S' 20 (0 :: r) ∧ FR [20] [20] [] S S'
  | f, 0, i, S, r, _, _, h, _ => absurd h (by omega)
  | 0, k + 1, i, S, r, _, e, _, _ => absurd e (by simp [msp])
  | f + 1, k + 1, i, S, r, hi, e, hk, hm => by
    unfold f_X8_makeSparse_28
    rw [if_pos rfl, if_neg (nI_ge (show i < n by omega) (by omega))]
    obtain ⟨b, S1, e1, q1, f1⟩ := fs_n hn RD i S [] 0 1 bt (show i < 24 by omega) (by omega) (by show 0 + i + 2 ≤ 24; omega) (by omega) hm
    rw [show f_X8_finishSparse S 20 (nI i) (nI n) 1 bt = some (b, S1) from e1, oB_s, oL_s, nI_1]
    have e : (match fsp n i 1 0 1 (uu bt) with
      | some r => some r
      | none => msp n (uu bt) f (i + 1)) = some r := e
    rw [uu_1, show ([] : List Nat).length + 1 = 1 from rfl] at q1
    rcases q1 with ⟨q, c1, c2, c3⟩ | ⟨c1, c2, c3⟩
    · rw [c1] at e
      have e : q = r := Option.some.inj e
      obtain ⟨j, rfl⟩ : ∃ j, k = j + 1 := ⟨k - 1, by omega⟩
      unfold f_X8_makeSparse_28 f_X8_makeSparse_57
      rw [c2, if_neg (by decide)]
      exact ⟨S1, rfl, by rw [← e]; exact c3, f1⟩
    · rw [c1] at e
      rw [c2]
      obtain ⟨S2, e2, m2, f2⟩ := ms28_l hn f k (i + 1) S1 r (by omega) e (by omega) c3
      exact ⟨S2, e2, m2, f1.tr f2⟩
theorem bt_e : ∀ n, n < 20 → uu (((1 : Int64) <<< ((nI (n + 1)).toInt64 &&& 63)) - 2) = 2 ^ (n + 1) - 2 := by decide +kernel
/-- the inner marks of the sparse rulers -/
def tabS (n : Nat) : List Nat := ([[], [], [1], [1], [1, 2], [1, 2], [1, 4], [1, 2, 3], [1, 2, 5], [1, 2, 6], [1, 2, 3, 6], [1, 2, 3, 7], [1, 2, 3, 8], [1, 2, 6, 10], [1, 2, 3, 4, 9], [1, 2, 3, 4, 10], [1, 2, 3, 8, 12], [1, 2, 3, 8, 13], [1, 2, 3, 4, 5, 12], [1, 2, 3, 4, 9, 14], [1, 2, 3, 4, 10, 15]] : List (List Nat)).getD n []
set_option maxRecDepth 1000000 in
theorem tab_c : ∀ n, n < 20 → msp (n + 1) (2 ^ (n + 1) - 2) (n + 1) 0 = some (tabS (n + 1) ++ [n + 1]) := by decide +kernel
set_option maxRecDepth 1000000 in
theorem tab_r : ∀ n, n < 20 → spR (n + 1) 20000 [] = some (tabS (n + 1)) := by decide +kernel
def spZ (n : Nat) : List Nat := 0 :: (tabS n ++ [n])
theorem spZ_ok : ∀ n, n < 20 → (spZ (n + 1)).Pairwise (· < ·) ∧ (spZ (n + 1)).length ≤ 24 ∧ (∀ v, v ∈ spZ (n + 1) → v ≤ 2000) ∧ (tabS (n + 1)).length ≤ 22 := by decide +kernel
theorem X8_makeSparse {S : ST} {n : Nat} (h1 : 1 ≤ n) (hn : n ≤ 20) : ∃ S', f_X8_makeSparse S (nI n) = some S' ∧ MS S' 20 (spZ n) ∧ FR [20] [20] [] S S' := by
  obtain ⟨m, rfl⟩ : ∃ m, n = m + 1 := ⟨n - 1, by omega⟩
  obtain ⟨S1, e1, m1, f1⟩ := MS.empty S 20
  obtain ⟨S2, e2, m2, f2⟩ := m1.push (by decide) 0
  obtain ⟨S3, e3, m3, f3⟩ := ms28_l hn (bt := ((1 : Int64) <<< ((nI (m + 1)).toInt64 &&& 63)) - 2) (m + 1) FU 0 S2 (tabS (m + 1) ++ [m + 1]) (by omega) (by rw [bt_e m (by omega)]; exact tab_c m (by omega)) (by unfold FU; omega) m2
  refine ⟨S3, ?_, m3, (f1.wk (by simp) (by simp) (by simp)).tr (f2.tr f3)⟩
  unfold f_X8_makeSparse f_X8_makeSparse_0
  rw [e1, oV_s, show f_X2_push S1 20 0 = some S2 from e2, oV_s, oL_s]
  exact e3
theorem J_sparse {S : ST} (h : INV S) (a b : Int32) : ∃ S', g_sparse S a b = some S' ∧ INV S' := by
  obtain ⟨t, p, hc, hm, hu, ht, hp⟩ := h
  show ∃ S', gI (oY (f_X8_sparse S a b) [(1, 1), (2, 2)] kI) (fun S1 => f_X9_sparse S1 a b) = some S' ∧ INV S'
  rcases set_or b with hb | ⟨to, hto, rfl⟩
  · refine gI_thr (n := 1) (c := 1) (r := 0) (by decide) (by decide) rfl hm ht hp ⟨S, ?_, hc, hu, FC.rf S⟩ (fun S1 h1 => ⟨0, MO_thr h1 0 ?_⟩)
    · unfold f_X8_sparse f_X8_sparse_0
      rw [X8_needSet_n S hb, oX_n S _ _ (by decide)]
    · unfold f_X9_sparse f_X9_sparse_0 f_X9_sparse_27
      rw [X9_isSet_n S1 hb, oB_s, if_pos rfl, X9_ref1, oB_s, if_neg (by decide)]
  · rcases rng_or a 1 20 (by decide) (by decide) with hb | ⟨n, n1, n2, rfl⟩
    · refine gI_thr (n := 2) (c := 2) (r := 0) (by decide) (by decide) rfl hm ht hp ⟨S, ?_, hc, hu, FC.rf S⟩ (fun S1 h1 => ⟨0, MO_thr h1 0 ?_⟩)
      · unfold f_X8_sparse f_X8_sparse_0 f_X8_sparse_15
        rw [X8_needSet_y S hto, oX_0]
        exact cl_n (a := 1) (b := 20) hb _ _
      · unfold f_X9_sparse f_X9_sparse_0 f_X9_sparse_27
        rw [X9_isSet_y S1 hto, oB_s, if_neg (by decide), show f_X9_within S1 a 1 20 = some (0, S1) from wi_n S1 hb, oB_s, if_pos rfl, X9_ref2, oB_s, if_neg (by decide)]
    · have ecl : ∀ (u w : Option (Nat × Int32 × ST)), (if nI n < 1 then u else if nI n ≤ 20 then w else u) = w := fun u w => cl_y (a := 1) (b := 20) n1 n2 (by decide) u w
      obtain ⟨k1, k2, k3, k4⟩ : (spZ n).Pairwise (· < ·) ∧ (spZ n).length ≤ 24 ∧ (∀ v, v ∈ spZ n → v ≤ 2000) ∧ (tabS n).length ≤ 22 := by
        have := spZ_ok (n - 1) (by omega)
        rw [show n - 1 + 1 = n by omega] at this
        exact this
      refine gI_ok [(1, 1), (2, 2)] (r := nI (spZ n).length) (t' := put4 t to (spZ n) t.2) (p' := t :: p.take 3) hm (ht.put ⟨k1, k2, k3⟩ ht.2.1 ht.2.2) (OKp.push ht hp) ?_ (fun S1 h1 => ?_)
      · unfold f_X8_sparse f_X8_sparse_0
        obtain ⟨S1, e1, m1, f1⟩ := X8_makeSparse (S := S) n1 n2
        have hc1 : RepC S1 t p := hc.fr f1 (by simp) (by simp)
        rw [X8_needSet_y S hto, oX_0, ecl, e1, oV_s, hc1.md]
        exact CO_rep hc1 (hu.fr f1 (by simp) (by simp) (by simp)) (FC.of f1 (by simp) (by simp)) m1 hto _ (fun S2 q => by rw [q.2.1])
      · obtain ⟨S2, e2, m2, f2⟩ := h1.sv
        obtain ⟨S3, e3, p3, f3⟩ := X9_picksFirst S2 (a := 1) (m := 0) (by omega)
        obtain ⟨S4, e4, p4, g4, f4⟩ := sp50_l (to := to) n1 n2 20000 FU S3 [] (tabS n) (by
          have := tab_r (n - 1) (by omega)
          rw [show n - 1 + 1 = n by omega] at this
          exact this) p3 trivial (by unfold FU; omega)
        obtain ⟨S5, e5, m5, s5, f5⟩ := X9_makes (show n - 1 < 2 ^ 30 by omega) p4 g4 k4
        obtain ⟨S6, e6, m6, f6⟩ := m5.comes_last s5 (x := n) (fun y hy => by
          rcases List.mem_cons.mp hy with q | q
          · omega
          · have := GR_b _ 1 y g4 q; omega) (by omega) (by rw [List.length_cons]; omega)
        have h3 : RepM S3 t (t :: p.take 3) := m2.fr f3 (by simp) (by simp) (by simp)
        have h4 : RepM S4 t (t :: p.take 3) := h3.fr f4 (by simp) (by simp) (by simp)
        have h5 : RepM S5 t (t :: p.take 3) := h4.fr f5 (by simp) (by simp) (by simp)
        have h6 : RepM S6 t (t :: p.take 3) := h5.fr f6 (by simp) (by simp) (by simp)
        have hf6 : FR [50, 52] AMo [] (sI S1 51 0) S6 := f2.tr ((f3.wk (by simp) (by simp [AMo]) (by simp)).tr ((f4.wk (by simp) (by simp [AMo]) (by simp)).tr ((f5.wk (by simp) (by simp [AMo]) (by simp)).tr (f6.wk (by simp) (by simp [AMo]) (by simp)))))
        unfold f_X9_sparse f_X9_sparse_0 f_X9_sparse_27
        rw [X9_isSet_y S1 hto, oB_s, if_neg (by decide), show f_X9_within S1 (nI n) 1 20 = some (1, S1) from wi_y S1 n1 n2 (by decide), oB_s, if_neg (by decide), X9_refused0, oB_s, if_pos rfl, e2, oV_s, show f_X9_picksFirst S2 0 1 = some S3 from e3, oV_s, show f_X9_sparse_50 FU S3 (nI n) (nI to) 0 0 = _ from e4]
        unfold SPE
        rw [e5, oV_s, e6, oV_s]
        exact MO_put h6 m6 hto hf6 _ (fun S7 _ => rfl)
