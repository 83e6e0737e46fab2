/-! how many bits a word has -/
def popN : Nat → Nat → Nat
  | 0, _ => 0
  | k + 1, n => n % 2 + popN k (n / 2)
theorem popN_add : ∀ (a b n : Nat), popN (a + b) n = popN a n + popN b (n / 2 ^ a)
  | 0, b, n => by rw [Nat.zero_add, Nat.pow_zero, Nat.div_one]; show _ = 0 + _; omega
  | a + 1, b, n => by
    rw [show a + 1 + b = (a + b) + 1 by omega]
    show n % 2 + popN (a + b) (n / 2) = (n % 2 + popN a (n / 2)) + _
    rw [popN_add a b (n / 2), Nat.div_div_eq_div_mul, Nat.pow_succ, Nat.mul_comm 2]
    omega
theorem popN_mod : ∀ (k n : Nat), popN k (n % 2 ^ k) = popN k n
  | 0, n => rfl
  | k + 1, n => by
    show n % 2 ^ (k + 1) % 2 + popN k (n % 2 ^ (k + 1) / 2) = n % 2 + popN k (n / 2)
    have hp := Nat.two_pow_pos k
    have e1 : n % 2 ^ (k + 1) % 2 = n % 2 := Nat.mod_mod_of_dvd n ⟨2 ^ k, by rw [Nat.pow_succ, Nat.mul_comm]⟩
    have e2 : n % 2 ^ (k + 1) / 2 = n / 2 % 2 ^ k := by
      rw [Nat.pow_succ, Nat.mul_comm, Nat.mod_mul_right_div_self]
    rw [e1, e2, popN_mod k]
def mk8 (m : Nat) : Nat → Nat
  | 0 => 0
  | k + 1 => m + 256 * mk8 m k
/-- a function of bytes, byte by byte -/
def dg (f : Nat → Nat) : Nat → Nat → Nat
  | 0, _ => 0
  | k + 1, n => f (n % 256) + 256 * dg f k (n / 256)
theorem and_dig (a : Nat) {m M : Nat} (hm : m < 256) : a &&& (m + 256 * M) = ((a % 256) &&& m) + 256 * ((a / 256) &&& M) := by
  have h1 := Nat.and_mod_two_pow (a := a) (b := m + 256 * M) (n := 8)
  have h2 := Nat.and_div_two_pow (a := a) (b := m + 256 * M) (n := 8)
  rw [show (2 : Nat) ^ 8 = 256 from rfl] at h1 h2
  rw [show (m + 256 * M) % 256 = m by omega] at h1
  rw [show (m + 256 * M) / 256 = M by omega] at h2
  omega
theorem dg_lt {f : Nat → Nat} (hf : ∀ b, b < 256 → f b < 256) (k n : Nat) : dg f (k + 1) n % 256 = f (n % 256) ∧ dg f (k + 1) n / 256 = dg f k (n / 256) := by
  have := hf (n % 256) (Nat.mod_lt _ (by decide))
  show (f (n % 256) + 256 * dg f k (n / 256)) % 256 = _ ∧ (f (n % 256) + 256 * dg f k (n / 256)) / 256 = _
  omega
theorem dg_dg {f g : Nat → Nat} (hf : ∀ b, b < 256 → f b < 256) : ∀ k n, dg g k (dg f k n) = dg (fun b => g (f b)) k n
  | 0, n => rfl
  | k + 1, n => by
    show g (dg f (k + 1) n % 256) + 256 * dg g k (dg f (k + 1) n / 256) = g (f (n % 256)) + 256 * dg (fun b => g (f b)) k (n / 256)
    rw [(dg_lt hf k n).1, (dg_lt hf k n).2, dg_dg hf k]
def by1 (b : Nat) : Nat := b - ((b / 2) &&& 85)
def by2 (b : Nat) : Nat := (b &&& 51) + ((b / 4) &&& 51)
def by3 (b : Nat) : Nat := (b + b / 16) &&& 15
theorem by_t1 : ∀ u, u < 128 → ∀ v, v < 2 → (u + 128 * v) &&& 85 = u &&& 85 := by decide +kernel
theorem by_t2 : ∀ u, u < 64 → ∀ v, v < 4 → (u + 64 * v) &&& 51 = u &&& 51 := by decide +kernel
theorem by_l1 : ∀ b, b < 256 → by1 b < 256 := by decide +kernel
theorem by_l2 : ∀ b, b < 256 → by2 b < 256 := by decide +kernel
theorem by_l3 : ∀ b, b < 256 → by3 b < 256 := by decide +kernel
theorem by_n : ∀ b, b < 256 → by2 (by1 b) % 16 ≤ 4 ∧ by2 (by1 b) / 16 ≤ 4 := by decide +kernel
theorem by_p : ∀ b, b < 256 → by3 (by2 (by1 b)) = popN 8 b ∧ popN 8 b ≤ 8 := by decide +kernel
theorem st1 : ∀ k n, n < 256 ^ k → n - ((n / 2) &&& mk8 85 k) = dg by1 k n ∧ ((n / 2) &&& mk8 85 k) ≤ n
  | 0, n, h => by
    have : n = 0 := by simpa using h
    rw [this]
    exact ⟨rfl, by decide⟩
  | k + 1, n, h => by
    have h2 : n / 256 < 256 ^ k := by rw [Nat.pow_succ] at h; omega
    obtain ⟨q1, q2⟩ := st1 k (n / 256) h2
    show n - ((n / 2) &&& (85 + 256 * mk8 85 k)) = by1 (n % 256) + 256 * dg by1 k (n / 256) ∧ ((n / 2) &&& (85 + 256 * mk8 85 k)) ≤ n
    rw [and_dig _ (by decide), ← q1]
    have e1 : n / 2 % 256 = (n % 256) / 2 + 128 * (n / 256 % 2) := by omega
    have e2 : n / 2 / 256 = n / 256 / 2 := by omega
    rw [e1, e2, by_t1 _ (by omega) _ (by omega)]
    have e3 : (n % 256 / 2) &&& 85 ≤ n % 256 / 2 := Nat.and_le_left
    unfold by1
    generalize (n % 256 / 2) &&& 85 = u at *
    generalize (n / 256 / 2) &&& mk8 85 k = v at *
    omega
theorem st2 : ∀ k x, (x &&& mk8 51 k) + ((x / 4) &&& mk8 51 k) = dg by2 k x
  | 0, x => by show (x &&& 0) + ((x / 4) &&& 0) = 0; rw [Nat.and_zero, Nat.and_zero]
  | k + 1, x => by
    have q := st2 k (x / 256)
    show (x &&& (51 + 256 * mk8 51 k)) + ((x / 4) &&& (51 + 256 * mk8 51 k)) = by2 (x % 256) + 256 * dg by2 k (x / 256)
    rw [and_dig _ (by decide), and_dig _ (by decide), ← q]
    have e1 : x / 4 % 256 = (x % 256) / 4 + 64 * (x / 256 % 4) := by omega
    have e2 : x / 4 / 256 = x / 256 / 4 := by omega
    rw [e1, e2, by_t2 _ (by omega) _ (by omega)]
    unfold by2
    omega
def nib : Nat → Nat → Prop
  | 0, _ => True
  | k + 1, x => x % 256 % 16 ≤ 4 ∧ x % 256 / 16 ≤ 4 ∧ nib k (x / 256)
theorem st3 : ∀ k x, x < 256 ^ k → nib k x → (x + x / 16) &&& mk8 15 k = dg by3 k x
  | 0, x, h, _ => by show (x + x / 16) &&& 0 = 0; rw [Nat.and_zero]
  | k + 1, x, h, hn => by
    have h2 : x / 256 < 256 ^ k := by rw [Nat.pow_succ] at h; omega
    have q := st3 k (x / 256) h2 hn.2.2
    have hd : x / 256 % 16 ≤ 4 := by
      cases k with
      | zero => rw [Nat.pow_zero] at h2; omega
      | succ j => have := hn.2.2.1; omega
    show (x + x / 16) &&& (15 + 256 * mk8 15 k) = by3 (x % 256) + 256 * dg by3 k (x / 256)
    have h3 := hn.1
    have h4 := hn.2.1
    rw [and_dig _ (by decide), ← q]
    have e2 : (x + x / 16) / 256 = x / 256 + x / 256 / 16 := by omega
    have e3 : ∀ y : Nat, y % 256 &&& 15 = y % 16 := fun y => by
      have := Nat.and_two_pow_sub_one_eq_mod (y % 256) 4
      rw [show (2 : Nat) ^ 4 - 1 = 15 from rfl] at this
      rw [this]
      omega
    unfold by3
    have e4 : (x % 256 + x % 256 / 16) &&& 15 = (x + x / 16) % 256 &&& 15 := by
      have := Nat.and_two_pow_sub_one_eq_mod (x % 256 + x % 256 / 16) 4
      rw [show (2 : Nat) ^ 4 - 1 = 15 from rfl] at this
      rw [this, e3]
      omega
    rw [e2, e4]
theorem nib_dg : ∀ k n, nib k (dg (fun b => by2 (by1 b)) k n)
  | 0, n => trivial
  | k + 1, n => by
    have hb : n % 256 < 256 := Nat.mod_lt _ (by decide)
    have hf : ∀ b, b < 256 → by2 (by1 b) < 256 := fun b hb => by_l2 _ (by_l1 b hb)
    obtain ⟨e1, e2⟩ := dg_lt (f := fun b => by2 (by1 b)) hf k n
    show dg (fun b => by2 (by1 b)) (k + 1) n % 256 % 16 ≤ 4 ∧ dg (fun b => by2 (by1 b)) (k + 1) n % 256 / 16 ≤ 4 ∧ nib k (dg (fun b => by2 (by1 b)) (k + 1) n / 256)
    rw [e1, e2]
    exact ⟨(by_n _ hb).1, (by_n _ hb).2, nib_dg k _⟩
theorem dg_bd {f : Nat → Nat} (hf : ∀ b, b < 256 → f b < 256) : ∀ k n, dg f k n < 256 ^ k
  | 0, n => by show 0 < 1; decide
  | k + 1, n => by
    have h1 := dg_bd hf k (n / 256)
    have h2 := hf (n % 256) (Nat.mod_lt _ (by decide))
    show f (n % 256) + 256 * dg f k (n / 256) < 256 ^ (k + 1)
    rw [Nat.pow_succ]
    omega
theorem dg_pop : ∀ k n, dg (fun b => by3 (by2 (by1 b))) k n = dg (popN 8) k n
  | 0, n => rfl
  | k + 1, n => by
    show by3 (by2 (by1 (n % 256))) + 256 * dg _ k (n / 256) = popN 8 (n % 256) + 256 * dg (popN 8) k (n / 256)
    rw [(by_p _ (Nat.mod_lt _ (by decide))).1, dg_pop k]
theorem pop_fold (n : Nat) : ∃ g0 g1 g2 g3 g4 g5 g6 g7, g0 ≤ 8 ∧ g1 ≤ 8 ∧ g2 ≤ 8 ∧ g3 ≤ 8 ∧ g4 ≤ 8 ∧ g5 ≤ 8 ∧ g6 ≤ 8 ∧ g7 ≤ 8 ∧ dg (popN 8) 8 n = g0 + 256 * (g1 + 256 * (g2 + 256 * (g3 + 256 * (g4 + 256 * (g5 + 256 * (g6 + 256 * g7)))))) ∧ popN 64 n = g0 + g1 + g2 + g3 + g4 + g5 + g6 + g7 := by
  have hb : ∀ m : Nat, popN 8 (m % 256) ≤ 8 := fun m => (by_p _ (Nat.mod_lt _ (by decide))).2
  have hs : ∀ (k m : Nat), popN (8 + k) m = popN 8 (m % 256) + popN k (m / 256) := fun k m => by
    rw [popN_add, ← popN_mod 8 m]
  refine ⟨_, _, _, _, _, _, _, _, hb n, hb (n / 256), hb (n / 256 / 256), hb (n / 256 / 256 / 256), hb (n / 256 / 256 / 256 / 256), hb (n / 256 / 256 / 256 / 256 / 256), hb (n / 256 / 256 / 256 / 256 / 256 / 256), hb (n / 256 / 256 / 256 / 256 / 256 / 256 / 256), rfl, ?_⟩
  rw [show (64 : Nat) = 8 + (8 + (8 + (8 + (8 + (8 + (8 + (8 + 0))))))) from rfl, hs, hs, hs, hs, hs, hs, hs, hs]
  show _ + (_ + (_ + (_ + (_ + (_ + (_ + (_ + 0))))))) = _
  omega
