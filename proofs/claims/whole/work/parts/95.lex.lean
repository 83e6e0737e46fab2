/-! the order of rows; first rotations -/
def LX (f g : Nat → Nat) (n : Nat) : Prop := ∃ k, k < n ∧ (∀ j, j < k → f j = g j) ∧ f k < g k
theorem LX.irr {f : Nat → Nat} {n : Nat} : ¬ LX f f n := fun ⟨k, _, _, h⟩ => Nat.lt_irrefl _ h
theorem LX.tr {f g h : Nat → Nat} {n : Nat} (p : LX f g n) (q : LX g h n) : LX f h n := by
  obtain ⟨a, a1, a2, a3⟩ := p
  obtain ⟨b, b1, b2, b3⟩ := q
  rcases Nat.lt_trichotomy a b with c | c | c
  · exact ⟨a, a1, fun j hj => (a2 j hj).trans (b2 j (by omega)), by have := b2 a c; omega⟩
  · rw [← c] at b3
    exact ⟨a, a1, fun j hj => (a2 j hj).trans (b2 j (by omega)), by omega⟩
  · exact ⟨b, b1, fun j hj => (a2 j (by omega)).trans (b2 j hj), by have := a2 b c; omega⟩
theorem LX.tri (f g : Nat → Nat) : ∀ n, LX f g n ∨ LX g f n ∨ ∀ k, k < n → f k = g k
  | 0 => Or.inr (Or.inr (fun k hk => absurd hk (by omega)))
  | n + 1 => by
    rcases LX.tri f g n with ⟨k, k1, k2, k3⟩ | ⟨k, k1, k2, k3⟩ | h
    · exact Or.inl ⟨k, by omega, k2, k3⟩
    · exact Or.inr (Or.inl ⟨k, by omega, k2, k3⟩)
    · rcases Nat.lt_trichotomy (f n) (g n) with c | c | c
      · exact Or.inl ⟨n, by omega, h, c⟩
      · exact Or.inr (Or.inr (fun k hk => by
          by_cases e : k = n
          · rw [e]; exact c
          · exact h k (by omega)))
      · exact Or.inr (Or.inl ⟨n, by omega, fun j hj => (h j hj).symm, c⟩)
theorem LX.cg {f f' g g' : Nat → Nat} {n : Nat} (h : LX f g n) (e1 : ∀ k, k < n → f k = f' k) (e2 : ∀ k, k < n → g k = g' k) : LX f' g' n := by
  obtain ⟨k, k1, k2, k3⟩ := h
  exact ⟨k, k1, fun j hj => by rw [← e1 j (by omega), ← e2 j (by omega)]; exact k2 j hj, by rw [← e1 k k1, ← e2 k k1]; exact k3⟩
theorem mn_ex (F : Nat → Nat → Nat) (n : Nat) : ∀ N, ∃ s, s < N + 1 ∧ ∀ s', s' < N + 1 → ¬ LX (F s') (F s) n
  | 0 => ⟨0, by omega, fun s' h q => by rw [show s' = 0 by omega] at q; exact LX.irr q⟩
  | N + 1 => by
    obtain ⟨s, h1, h2⟩ := mn_ex F n N
    by_cases c : LX (F (N + 1)) (F s) n
    · refine ⟨N + 1, by omega, fun s' hs' q => ?_⟩
      by_cases e : s' = N + 1
      · rw [e] at q; exact LX.irr q
      · exact h2 s' (by omega) (q.tr c)
    · refine ⟨s, by omega, fun s' hs' q => ?_⟩
      by_cases e : s' = N + 1
      · rw [e] at q; exact c q
      · exact h2 s' (by omega) q
def cq (g : List Nat) (k : Nat) : Nat := g.getD (k % g.length) 0
theorem cq_lt {g : List Nat} {k : Nat} (h : k < g.length) : cq g k = g.getD k 0 := by unfold cq; rw [Nat.mod_eq_of_lt h]
theorem cq_n (g : List Nat) (k : Nat) : cq g (k + g.length) = cq g k := by unfold cq; rw [Nat.add_mod_right]
theorem cq_am (g : List Nat) (i p : Nat) : cq g (i + p % g.length) = cq g (i + p) := by unfold cq; rw [Nat.add_mod_mod]
def rt (g : List Nat) (s : Nat) : Nat → Nat := fun k => cq g (s + k)
theorem rt_mod (g : List Nat) (s : Nat) : rt g (s % g.length) = rt g s := by
  funext k
  unfold rt cq
  rw [Nat.mod_add_mod]
/-- a rotation that is not the first -/
def BT (g : List Nat) (s : Nat) : Prop := ∃ s', LX (rt g s') (rt g s) g.length
theorem bt_run {g : List Nat} {i j k : Nat} (hk : k < g.length) (hA : ∀ p, p < k → cq g (i + p) = cq g (j + p)) (hlt : cq g (j + k) < cq g (i + k)) {p : Nat} (hp : p ≤ k) : BT g (i + p) :=
  ⟨j + p, k - p, by omega, fun q hq => by
    show cq g (j + p + q) = cq g (i + p + q)
    rw [Nat.add_assoc, Nat.add_assoc]
    exact (hA (p + q) (by omega)).symm, by
    show cq g (j + p + (k - p)) < cq g (i + p + (k - p))
    rw [show j + p + (k - p) = j + k by omega, show i + p + (k - p) = i + k by omega]
    exact hlt⟩
theorem ub_ex {g : List Nat} (hn : 1 ≤ g.length) : ∃ s, s < g.length ∧ ¬ BT g s := by
  obtain ⟨s, h1, h2⟩ := mn_ex (rt g) g.length (g.length - 1)
  refine ⟨s, by omega, fun ⟨s', q⟩ => ?_⟩
  rw [← rt_mod] at q
  exact h2 (s' % g.length) (by have := Nat.mod_lt s' (show 0 < g.length by omega); omega) q
def RInv (g : List Nat) (i j : Nat) : Prop := i ≠ j ∧ ∀ s, (s < i ∨ s < j) → s ≠ i → s ≠ j → BT g s
theorem fr_end1 {g : List Nat} {i j : Nat} (hn : 1 ≤ g.length) (h : RInv g i j) (he : g.length ≤ i ∨ g.length ≤ j) : (if j < i then j else i) < g.length ∧ ¬ BT g (if j < i then j else i) := by
  obtain ⟨s, h1, h2⟩ := ub_ex hn
  have hs : s = i ∨ s = j := by
    by_cases a : s = i
    · exact Or.inl a
    · by_cases b : s = j
      · exact Or.inr b
      · exact absurd (h.2 s (by omega) a b) h2
  rcases hs with e | e
  · rw [if_neg (show ¬ j < i by omega), ← e]; exact ⟨h1, h2⟩
  · have := h.1
    rw [if_pos (show j < i by omega), ← e]; exact ⟨h1, h2⟩
theorem fr_same {g : List Nat} {i j : Nat} (hij : i < j) (h : RInv g i j) (hrt : ∀ x, rt g (j + x) = rt g (i + x)) : ∀ (b s : Nat), s ≤ b → ¬ BT g s → rt g s = rt g i
  | b, s, hs, hu => by
    by_cases e : s = i
    · rw [e]
    · by_cases e2 : s < j
      · exact absurd (h.2 s (Or.inr e2) e (by omega)) hu
      · have hx := hrt (s - j)
        rw [show j + (s - j) = s by omega] at hx
        match b, hs with
        | 0, hs => omega
        | b + 1, hs =>
          have hu2 : ¬ BT g (i + (s - j)) := fun ⟨s', q⟩ => hu ⟨s', by rw [hx]; exact q⟩
          rw [hx]
          exact fr_same hij h hrt b (i + (s - j)) (by omega) hu2
theorem rt_all {g : List Nat} {i j : Nat} (hn : 1 ≤ g.length) (hA : ∀ p, p < g.length → cq g (i + p) = cq g (j + p)) (x : Nat) : rt g (j + x) = rt g (i + x) := by
  funext q
  show cq g (j + x + q) = cq g (i + x + q)
  rw [Nat.add_assoc, Nat.add_assoc, ← cq_am g j, ← cq_am g i]
  exact (hA _ (Nat.mod_lt _ (by omega))).symm
theorem fr_end2 {g : List Nat} {i j : Nat} (hn : 1 ≤ g.length) (h : RInv g i j) (hA : ∀ p, p < g.length → cq g (i + p) = cq g (j + p)) : ¬ BT g (if j < i then j else i) := by
  obtain ⟨s, h1, h2⟩ := ub_ex hn
  by_cases c : j < i
  · rw [if_pos c]
    have := fr_same (i := j) (j := i) c ⟨fun e => h.1 e.symm, fun s hs a b => h.2 s (Or.comm.mp hs) b a⟩ (rt_all hn (fun p hp => (hA p hp).symm)) s s (Nat.le_refl _) h2
    rintro ⟨s', q⟩
    exact h2 ⟨s', by rw [this]; exact q⟩
  · rw [if_neg c]
    have := fr_same (i := i) (j := j) (by have := h.1; omega) h (rt_all hn hA) s s (Nat.le_refl _) h2
    rintro ⟨s', q⟩
    exact h2 ⟨s', by rw [this]; exact q⟩
theorem RInv.gt {g : List Nat} {i j k : Nat} (h : RInv g i j) (hk : k < g.length) (hA : ∀ p, p < k → cq g (i + p) = cq g (j + p)) (hlt : cq g (j + k) < cq g (i + k)) : RInv g (i + (k + 1)) (if i + (k + 1) = j then j + 1 else j) := by
  have hb : ∀ s, i ≤ s → s ≤ i + k → BT g s := fun s s1 s2 => by
    have := bt_run hk hA hlt (p := s - i) (by omega)
    rw [show i + (s - i) = s by omega] at this
    exact this
  by_cases e : i + (k + 1) = j
  · rw [if_pos e]
    refine ⟨by omega, fun s hs a b => ?_⟩
    by_cases c : i ≤ s
    · exact hb s c (by omega)
    · exact h.2 s (by omega) (by omega) (by omega)
  · rw [if_neg e]
    refine ⟨e, fun s hs a b => ?_⟩
    by_cases c : i ≤ s ∧ s ≤ i + k
    · exact hb s c.1 c.2
    · exact h.2 s (by omega) (by omega) b
theorem RInv.lt {g : List Nat} {i j k : Nat} (h : RInv g i j) (hk : k < g.length) (hA : ∀ p, p < k → cq g (i + p) = cq g (j + p)) (hlt : cq g (i + k) < cq g (j + k)) : RInv g i (if i = j + (k + 1) then j + (k + 1) + 1 else j + (k + 1)) := by
  have hb : ∀ s, j ≤ s → s ≤ j + k → BT g s := fun s s1 s2 => by
    have := bt_run hk (fun p hp => (hA p hp).symm) hlt (p := s - j) (by omega)
    rw [show j + (s - j) = s by omega] at this
    exact this
  by_cases e : i = j + (k + 1)
  · rw [if_pos e]
    refine ⟨by omega, fun s hs a b => ?_⟩
    by_cases c : j ≤ s
    · exact hb s c (by omega)
    · exact h.2 s (by omega) a (by omega)
  · rw [if_neg e]
    refine ⟨e, fun s hs a b => ?_⟩
    by_cases c : j ≤ s ∧ s ≤ j + k
    · exact hb s c.1 c.2
    · exact h.2 s (by omega) a (by omega)
/-! sums -/
def ps (f : Nat → Nat) : Nat → Nat
  | 0 => 0
  | k + 1 => ps f k + f k
theorem ps_cg {f g : Nat → Nat} : ∀ k, (∀ j, j < k → f j = g j) → ps f k = ps g k
  | 0, _ => rfl
  | k + 1, h => by show ps f k + f k = ps g k + g k; rw [ps_cg k (fun j hj => h j (by omega)), h k (by omega)]
theorem ps_LX {f g : Nat → Nat} {n : Nat} (ht : ps f n = ps g n) (h : LX (ps f) (ps g) n) : LX f g n := by
  obtain ⟨k, k1, k2, k3⟩ := h
  match k, k1, k2, k3 with
  | 0, _, _, k3 => exact absurd k3 (by show ¬ (0 : Nat) < 0; omega)
  | k + 1, k1, k2, k3 =>
    refine ⟨k, by omega, fun j hj => ?_, ?_⟩
    · have a := k2 (j + 1) (by omega)
      have b := k2 j (by omega)
      have a : ps f j + f j = ps g j + g j := a
      omega
    · have b := k2 k (by omega)
      have k3 : ps f k + f k < ps g k + g k := k3
      omega
