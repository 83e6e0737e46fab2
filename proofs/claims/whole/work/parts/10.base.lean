/-! The world of the system as ONE memory: 88 cells at the addresses ad 0 .. ad 87 (ad is one-one), what they hold read off a pure state ST. After the constructors no call makes a cell but an exception, and no reference changes: only numbers do. -/
/-- a pure state: int fields, long fields, int rows, long rows, each by a number of its own -/
abbrev ST : Type := (Nat → Int32) × (Nat → Int64) × (Nat → Nat → Int32) × (Nat → Nat → Int64)
/-- the context: classes and slots; the classes of the arrays (int, long, MarkSet, Spans, State); the addresses -/
abbrev CX : Type := va_G × (Nat → ClassId) × (Nat → Nat)
def fi (S : ST) : Nat → Int32 := S.1
def fl (S : ST) : Nat → Int64 := S.2.1
def ai (S : ST) : Nat → Nat → Int32 := S.2.2.1
def al (S : ST) : Nat → Nat → Int64 := S.2.2.2
def sI (S : ST) (k : Nat) (v : Int32) : ST := (va_up S.1 k v, S.2.1, S.2.2.1, S.2.2.2)
def sL (S : ST) (k : Nat) (v : Int64) : ST := (S.1, va_up S.2.1 k v, S.2.2.1, S.2.2.2)
def sA (S : ST) (k : Nat) (f : Nat → Int32) : ST := (S.1, S.2.1, va_up S.2.2.1 k f, S.2.2.2)
def sB (S : ST) (k : Nat) (f : Nat → Int64) : ST := (S.1, S.2.1, S.2.2.1, va_up S.2.2.2 k f)
theorem fi_sI (S : ST) (k : Nat) (v : Int32) : fi (sI S k v) = va_up (fi S) k v := rfl
theorem fl_sI (S : ST) (k : Nat) (v : Int32) : fl (sI S k v) = fl S := rfl
theorem ai_sI (S : ST) (k : Nat) (v : Int32) : ai (sI S k v) = ai S := rfl
theorem al_sI (S : ST) (k : Nat) (v : Int32) : al (sI S k v) = al S := rfl
theorem fi_sL (S : ST) (k : Nat) (v : Int64) : fi (sL S k v) = fi S := rfl
theorem fl_sL (S : ST) (k : Nat) (v : Int64) : fl (sL S k v) = va_up (fl S) k v := rfl
theorem ai_sL (S : ST) (k : Nat) (v : Int64) : ai (sL S k v) = ai S := rfl
theorem al_sL (S : ST) (k : Nat) (v : Int64) : al (sL S k v) = al S := rfl
theorem fi_sA (S : ST) (k : Nat) (f : Nat → Int32) : fi (sA S k f) = fi S := rfl
theorem fl_sA (S : ST) (k : Nat) (f : Nat → Int32) : fl (sA S k f) = fl S := rfl
theorem ai_sA (S : ST) (k : Nat) (f : Nat → Int32) : ai (sA S k f) = va_up (ai S) k f := rfl
theorem al_sA (S : ST) (k : Nat) (f : Nat → Int32) : al (sA S k f) = al S := rfl
theorem fi_sB (S : ST) (k : Nat) (f : Nat → Int64) : fi (sB S k f) = fi S := rfl
theorem fl_sB (S : ST) (k : Nat) (f : Nat → Int64) : fl (sB S k f) = fl S := rfl
theorem ai_sB (S : ST) (k : Nat) (f : Nat → Int64) : ai (sB S k f) = ai S := rfl
theorem al_sB (S : ST) (k : Nat) (f : Nat → Int64) : al (sB S k f) = va_up (al S) k f := rfl
/-- what the cell k holds. Cells 2i, 2i+1 (i < 24): a MarkSet (i < 22: now's sets 0 .. 3, the saved states' 4 .. 19, made 20, turned 21) or a Gaps (22, 23) and its row; 48+2b, 49+2b (b < 5): a BitRow and its words (0: row; 1 + v: that of spans v); 58 + v: Spans v; 62: spans; 63+2j, 64+2j (j < 5): a State (0: now; 1 + n: saved n) and its sets; 73, 74: the UndoStack and its states; 75, 76: Tally; 77, 78: Units; 79: the workbench; 80 .. 86: the model and its rows; 87: the law's out -/
def enc (x : CX) (S : ST) (k : Nat) : va_E :=
  if k < 48 then
    if k % 2 = 0 then .inr (if k < 44 then 2 else 1, [.ref (x.2.2 (k + 1)), .int (fi S (k / 2))]) else .inl (x.2.1 0, 24, .inl (ai S (k / 2)))
  else if k < 58 then
    if k % 2 = 0 then .inr (0, [.ref (x.2.2 (k + 1))]) else .inl (x.2.1 1, 32, .inr (.inl (al S (k / 2 - 24))))
  else if k < 62 then .inr (3, [.ref (x.2.2 (2 * (k - 33))), .int (fi S (k - 18)), .int (fi S (k - 14))])
  else if k = 62 then .inl (x.2.1 3, 4, .inr (.inr (.inr (.inr (fun v => some (x.2.2 (58 + v)))))))
  else if k < 73 then
    if k % 2 = 1 then .inr (4, [.ref (x.2.2 (k + 1)), .int (fi S ((k - 63) / 2 + 30))]) else .inl (x.2.1 2, 4, .inr (.inr (.inr (.inr (fun v => some (x.2.2 (2 * (4 * ((k - 64) / 2) + v))))))))
  else if k = 73 then .inr (6, [.ref (x.2.2 74), .int (fi S 36), .int (fi S 37)])
  else if k = 74 then .inl (x.2.1 4, 4, .inr (.inr (.inr (.inr (fun v => some (x.2.2 (63 + 2 * (v + 1))))))))
  else if k = 75 then .inr (5, [.ref (x.2.2 76)])
  else if k = 76 then .inl (x.2.1 0, 1000, .inl (ai S 24))
  else if k = 77 then .inr (7, [.ref (x.2.2 78), .int (fi S 25), .int (fi S 26)])
  else if k = 78 then .inl (x.2.1 0, 1000, .inl (ai S 25))
  else if k = 79 then .inr (8, [.ref (x.2.2 63), .ref (x.2.2 73), .ref (x.2.2 40), .ref (x.2.2 42), .ref (x.2.2 44), .ref (x.2.2 46), .ref (x.2.2 48), .ref (x.2.2 62), .ref (x.2.2 75), .ref (x.2.2 77)])
  else if k = 80 then .inr (9, [.ref (x.2.2 81), .ref (x.2.2 82), .int (fi S 50), .int (fi S 51), .ref (x.2.2 83), .int (fi S 52), .ref (x.2.2 84), .ref (x.2.2 85), .ref (x.2.2 86), .long (fl S 0)])
  else if k = 81 then .inl (x.2.1 0, 101, .inl (ai S 30))
  else if k = 82 then .inl (x.2.1 0, 404, .inl (ai S 31))
  else if k = 83 then .inl (x.2.1 0, 24, .inl (ai S 32))
  else if k = 84 then .inl (x.2.1 0, 2001, .inl (ai S 33))
  else if k = 85 then .inl (x.2.1 0, 24, .inl (ai S 34))
  else if k = 86 then .inl (x.2.1 0, 24, .inl (ai S 35))
  else .inl (x.2.1 1, 1, .inr (.inl (al S 5)))
def cells (x : CX) (S : ST) : va_W := (List.range 88).map (fun k => (x.2.2 k, enc x S k))
def tysx (x : CX) : List (ClassId × FieldType) := [(x.2.1 0, .int), (x.2.1 1, .long), (x.2.1 2, .object RX2), (x.2.1 3, .object RX3), (x.2.1 4, .object RX4)]
def inj (x : CX) : Prop := ∀ i j : Nat, i < 88 → j < 88 → x.2.2 i = x.2.2 j → i = j
/-- which cells a call may change: the world's, and those that it makes -/
def AA (x : CX) (sz : Nat) : Nat → Prop := fun q => (∃ k : Nat, k < 88 ∧ q = x.2.2 k) ∨ sz ≤ q
theorem cells_get (x : CX) (S : ST) {k : Nat} (h : k < 88) : (cells x S)[k]? = some (x.2.2 k, enc x S k) := by
  unfold cells
  rw [List.getElem?_map, List.getElem?_range h]
  rfl
theorem cells_at {x : CX} {S : ST} {k : Nat} {q : Nat × va_E} (h : (cells x S)[k]? = some q) : k < 88 ∧ q = (x.2.2 k, enc x S k) := by
  have hk : k < 88 := by
    have h1 := (List.getElem?_eq_some_iff.mp h).1
    unfold cells at h1
    rw [List.length_map, List.length_range] at h1
    exact h1
  rw [cells_get x S hk] at h
  exact ⟨hk, (Option.some.inj h).symm⟩
theorem cells_D {x : CX} (hi : inj x) (S : ST) (sz : Nat) : va_D (AA x sz) (cells x S) := by
  refine ⟨fun i j p q h1 h2 h3 => ?_, fun k q h => ?_⟩
  · obtain ⟨a1, rfl⟩ := cells_at h1
    obtain ⟨a2, rfl⟩ := cells_at h2
    exact hi i j a1 a2 h3
  · obtain ⟨a1, rfl⟩ := cells_at h
    exact Or.inl ⟨k, a1, rfl⟩
theorem cells_set {x : CX} {S S' : ST} {k : Nat} {e : va_E} (h : k < 88) (he : enc x S' k = e) (ho : ∀ j : Nat, j < 88 → j ≠ k → enc x S' j = enc x S j) : (cells x S).set k (x.2.2 k, e) = cells x S' := by
  apply List.ext_getElem?
  intro j
  by_cases hj : j < 88
  · by_cases hjk : j = k
    · subst hjk
      rw [List.getElem?_set_self (by unfold cells; rw [List.length_map, List.length_range]; exact hj), cells_get x S' hj, he]
    · rw [List.getElem?_set_ne (Ne.symm hjk), cells_get x S hj, cells_get x S' hj, ho j hj hjk]
  · rw [List.getElem?_eq_none (by rw [List.length_set]; unfold cells; rw [List.length_map, List.length_range]; omega), List.getElem?_eq_none (by unfold cells; rw [List.length_map, List.length_range]; omega)]
/-! what each kind of cell holds -/
theorem enc_ms (x : CX) (S : ST) {i : Nat} (h : i < 22) : enc x S (2 * i) = .inr (2, [.ref (x.2.2 (2 * i + 1)), .int (fi S i)]) := by
  have h1 : 2 * i < 48 := by omega
  have h2 : 2 * i % 2 = 0 := by omega
  have h3 : 2 * i < 44 := by omega
  have h4 : 2 * i / 2 = i := by omega
  simp only [enc, h1, h2, h3, h4, if_true]
theorem enc_gp (x : CX) (S : ST) {i : Nat} (h : 22 ≤ i ∧ i < 24) : enc x S (2 * i) = .inr (1, [.ref (x.2.2 (2 * i + 1)), .int (fi S i)]) := by
  have h1 : 2 * i < 48 := by omega
  have h2 : 2 * i % 2 = 0 := by omega
  have h3 : ¬ 2 * i < 44 := by omega
  have h4 : 2 * i / 2 = i := by omega
  simp only [enc, h1, h2, h3, h4, if_true, if_false]
theorem enc_ma (x : CX) (S : ST) {i : Nat} (h : i < 24) : enc x S (2 * i + 1) = .inl (x.2.1 0, 24, .inl (ai S i)) := by
  have h1 : 2 * i + 1 < 48 := by omega
  have h2 : ¬ (2 * i + 1) % 2 = 0 := by omega
  have h4 : (2 * i + 1) / 2 = i := by omega
  simp only [enc, h1, h2, h4, if_true, if_false]
theorem enc_br (x : CX) (S : ST) {b : Nat} (h : b < 5) : enc x S (48 + 2 * b) = .inr (0, [.ref (x.2.2 (49 + 2 * b))]) := by
  have h1 : ¬ 48 + 2 * b < 48 := by omega
  have h2 : 48 + 2 * b < 58 := by omega
  have h3 : (48 + 2 * b) % 2 = 0 := by omega
  have h4 : 48 + 2 * b + 1 = 49 + 2 * b := by omega
  simp only [enc, h1, h2, h3, h4, if_true, if_false]
theorem enc_bw (x : CX) (S : ST) {b : Nat} (h : b < 5) : enc x S (49 + 2 * b) = .inl (x.2.1 1, 32, .inr (.inl (al S b))) := by
  have h1 : ¬ 49 + 2 * b < 48 := by omega
  have h2 : 49 + 2 * b < 58 := by omega
  have h3 : ¬ (49 + 2 * b) % 2 = 0 := by omega
  have h4 : (49 + 2 * b) / 2 - 24 = b := by omega
  simp only [enc, h1, h2, h3, h4, if_true, if_false]
theorem enc_sp (x : CX) (S : ST) {v : Nat} (h : v < 4) : enc x S (58 + v) = .inr (3, [.ref (x.2.2 (48 + 2 * (v + 1))), .int (fi S (40 + v)), .int (fi S (44 + v))]) := by
  have h1 : ¬ 58 + v < 48 := by omega
  have h2 : ¬ 58 + v < 58 := by omega
  have h3 : 58 + v < 62 := by omega
  have h4 : 2 * (58 + v - 33) = 48 + 2 * (v + 1) := by omega
  have h5 : 58 + v - 18 = 40 + v := by omega
  have h6 : 58 + v - 14 = 44 + v := by omega
  simp only [enc, h1, h2, h3, h4, h5, h6, if_true, if_false]
theorem enc_st (x : CX) (S : ST) {j : Nat} (h : j < 5) : enc x S (63 + 2 * j) = .inr (4, [.ref (x.2.2 (64 + 2 * j)), .int (fi S (30 + j))]) := by
  have h1 : ¬ 63 + 2 * j < 48 := by omega
  have h2 : ¬ 63 + 2 * j < 58 := by omega
  have h3 : ¬ 63 + 2 * j < 62 := by omega
  have h4 : ¬ 63 + 2 * j = 62 := by omega
  have h5 : 63 + 2 * j < 73 := by omega
  have h6 : (63 + 2 * j) % 2 = 1 := by omega
  have h7 : 63 + 2 * j + 1 = 64 + 2 * j := by omega
  have h8 : (63 + 2 * j - 63) / 2 + 30 = 30 + j := by omega
  simp only [enc, h1, h2, h3, h4, h5, h6, h7, h8, if_true, if_false]
theorem enc_ss (x : CX) (S : ST) {j : Nat} (h : j < 5) : enc x S (64 + 2 * j) = .inl (x.2.1 2, 4, .inr (.inr (.inr (.inr (fun v => some (x.2.2 (2 * (4 * j + v)))))))) := by
  have h1 : ¬ 64 + 2 * j < 48 := by omega
  have h2 : ¬ 64 + 2 * j < 58 := by omega
  have h3 : ¬ 64 + 2 * j < 62 := by omega
  have h4 : ¬ 64 + 2 * j = 62 := by omega
  have h5 : 64 + 2 * j < 73 := by omega
  have h6 : ¬ (64 + 2 * j) % 2 = 1 := by omega
  have h8 : (64 + 2 * j - 64) / 2 = j := by omega
  simp only [enc, h1, h2, h3, h4, h5, h6, h8, if_true, if_false]
/-! what a change of the pure state changes -/
/-- the cell of an int field, of an int row, of a long row -/
def cI (i : Nat) : Nat := if i < 24 then 2 * i else if i = 25 ∨ i = 26 then 77 else if i < 36 then 2 * i + 3 else if i < 40 then 73 else if i < 44 then i + 18 else if i < 48 then i + 14 else 80
def cA (i : Nat) : Nat := if i < 24 then 2 * i + 1 else if i = 24 then 76 else if i = 25 then 78 else i + 51
def cB (i : Nat) : Nat := if i < 5 then 49 + 2 * i else 87
theorem enc_sI (x : CX) (S : ST) (i : Nat) (v : Int32) {j : Nat} (h : j ≠ cI i) : enc x (sI S i v) j = enc x S j := by
  have key : ∀ idx : Nat, (idx = i → j = cI i) → fi (sI S i v) idx = fi S idx := fun idx hh => by rw [fi_sI]; exact va_up_ne _ _ (fun e => h (hh e))
  unfold enc
  simp only [ai_sI, al_sI, fl_sI]
  by_cases h1 : j < 48
  · simp only [h1, if_true]
    by_cases h2 : j % 2 = 0
    · simp only [h2, if_true]
      rw [key (j / 2) (fun e => by subst e; unfold cI; rw [if_pos (by omega)]; omega)]
    · simp only [h2, if_false]
  · simp only [h1, if_false]
    by_cases h2 : j < 58
    · simp only [h2, if_true]
    · simp only [h2, if_false]
      by_cases h3 : j < 62
      · simp only [h3, if_true]
        rw [key (j - 18) (fun e => by subst e; unfold cI; rw [if_neg (by omega), if_neg (by omega), if_neg (by omega), if_neg (by omega), if_pos (by omega)]; omega), key (j - 14) (fun e => by subst e; unfold cI; rw [if_neg (by omega), if_neg (by omega), if_neg (by omega), if_neg (by omega), if_neg (by omega), if_pos (by omega)]; omega)]
      · simp only [h3, if_false]
        by_cases h4 : j = 62
        · simp only [h4, if_true]
        · simp only [h4, if_false]
          by_cases h5 : j < 73
          · simp only [h5, if_true]
            by_cases h6 : j % 2 = 1
            · simp only [h6, if_true]
              rw [key ((j - 63) / 2 + 30) (fun e => by subst e; unfold cI; rw [if_neg (by omega), if_neg (by omega), if_pos (by omega)]; omega)]
            · simp only [h6, if_false]
          · simp only [h5, if_false]
            by_cases h7 : j = 73
            · subst h7
              simp only [if_true]
              rw [key 36 (fun e => by subst e; rfl), key 37 (fun e => by subst e; rfl)]
            · simp only [h7, if_false]
              by_cases h8 : j = 77
              · subst h8
                show (.inr (7, [.ref (x.2.2 78), .int (fi (sI S i v) 25), .int (fi (sI S i v) 26)]) : va_E) = .inr (7, [.ref (x.2.2 78), .int (fi S 25), .int (fi S 26)])
                rw [key 25 (fun e => by subst e; rfl), key 26 (fun e => by subst e; rfl)]
              · by_cases h9 : j = 80
                · subst h9
                  show (.inr (9, [.ref (x.2.2 81), .ref (x.2.2 82), .int (fi (sI S i v) 50), .int (fi (sI S i v) 51), .ref (x.2.2 83), .int (fi (sI S i v) 52), .ref (x.2.2 84), .ref (x.2.2 85), .ref (x.2.2 86), .long (fl S 0)]) : va_E) = .inr (9, [.ref (x.2.2 81), .ref (x.2.2 82), .int (fi S 50), .int (fi S 51), .ref (x.2.2 83), .int (fi S 52), .ref (x.2.2 84), .ref (x.2.2 85), .ref (x.2.2 86), .long (fl S 0)])
                  rw [key 50 (fun e => by subst e; rfl), key 51 (fun e => by subst e; rfl), key 52 (fun e => by subst e; rfl)]
                · simp only [h8, h9, if_false]
theorem enc_sA (x : CX) (S : ST) (i : Nat) (f : Nat → Int32) {j : Nat} (h : j ≠ cA i) : enc x (sA S i f) j = enc x S j := by
  have key : ∀ idx : Nat, (idx = i → j = cA i) → ai (sA S i f) idx = ai S idx := fun idx hh => by rw [ai_sA]; exact va_up_ne _ _ (fun e => h (hh e))
  unfold enc
  simp only [fi_sA, al_sA, fl_sA]
  by_cases h1 : j < 48
  · simp only [h1, if_true]
    by_cases h2 : j % 2 = 0
    · simp only [h2, if_true]
    · simp only [h2, if_false]
      rw [key (j / 2) (fun e => by subst e; unfold cA; rw [if_pos (by omega)]; omega)]
  · simp only [h1, if_false]
    by_cases h2 : j = 76
    · subst h2
      show (.inl (x.2.1 0, 1000, .inl (ai (sA S i f) 24)) : va_E) = .inl (x.2.1 0, 1000, .inl (ai S 24))
      rw [key 24 (fun e => by subst e; rfl)]
    · by_cases h3 : j = 78
      · subst h3
        show (.inl (x.2.1 0, 1000, .inl (ai (sA S i f) 25)) : va_E) = .inl (x.2.1 0, 1000, .inl (ai S 25))
        rw [key 25 (fun e => by subst e; rfl)]
      · by_cases h4 : j = 81
        · subst h4
          show (.inl (x.2.1 0, 101, .inl (ai (sA S i f) 30)) : va_E) = .inl (x.2.1 0, 101, .inl (ai S 30))
          rw [key 30 (fun e => by subst e; rfl)]
        · by_cases h5 : j = 82
          · subst h5
            show (.inl (x.2.1 0, 404, .inl (ai (sA S i f) 31)) : va_E) = .inl (x.2.1 0, 404, .inl (ai S 31))
            rw [key 31 (fun e => by subst e; rfl)]
          · by_cases h6 : j = 83
            · subst h6
              show (.inl (x.2.1 0, 24, .inl (ai (sA S i f) 32)) : va_E) = .inl (x.2.1 0, 24, .inl (ai S 32))
              rw [key 32 (fun e => by subst e; rfl)]
            · by_cases h7 : j = 84
              · subst h7
                show (.inl (x.2.1 0, 2001, .inl (ai (sA S i f) 33)) : va_E) = .inl (x.2.1 0, 2001, .inl (ai S 33))
                rw [key 33 (fun e => by subst e; rfl)]
              · by_cases h8 : j = 85
                · subst h8
                  show (.inl (x.2.1 0, 24, .inl (ai (sA S i f) 34)) : va_E) = .inl (x.2.1 0, 24, .inl (ai S 34))
                  rw [key 34 (fun e => by subst e; rfl)]
                · by_cases h9 : j = 86
                  · subst h9
                    show (.inl (x.2.1 0, 24, .inl (ai (sA S i f) 35)) : va_E) = .inl (x.2.1 0, 24, .inl (ai S 35))
                    rw [key 35 (fun e => by subst e; rfl)]
                  · simp only [h2, h3, h4, h5, h6, h7, h8, h9, if_false]
theorem enc_sB (x : CX) (S : ST) (i : Nat) (f : Nat → Int64) {j : Nat} (hj : j < 88) (h : j ≠ cB i) : enc x (sB S i f) j = enc x S j := by
  have key : ∀ idx : Nat, (idx = i → j = cB i) → al (sB S i f) idx = al S idx := fun idx hh => by rw [al_sB]; exact va_up_ne _ _ (fun e => h (hh e))
  unfold enc
  simp only [fi_sB, ai_sB, fl_sB]
  by_cases h0 : j < 48
  · simp only [h0, if_true]
  · simp only [h0, if_false]
    by_cases h1 : j < 58
    · simp only [h1, if_true]
      by_cases h2 : j % 2 = 0
      · simp only [h2, if_true]
      · simp only [h2, if_false]
        rw [key (j / 2 - 24) (fun e => by subst e; unfold cB; rw [if_pos (by omega)]; omega)]
    · simp only [h1, if_false]
      by_cases h2 : j = 87
      · subst h2
        show (.inl (x.2.1 1, 1, .inr (.inl (al (sB S i f) 5))) : va_E) = .inl (x.2.1 1, 1, .inr (.inl (al S 5)))
        rw [key 5 (fun e => by subst e; rfl)]
      · have h3 : j < 62 ∨ j = 62 ∨ (62 < j ∧ j < 73) ∨ j = 73 ∨ j = 74 ∨ j = 75 ∨ j = 76 ∨ j = 77 ∨ j = 78 ∨ j = 79 ∨ j = 80 ∨ j = 81 ∨ j = 82 ∨ j = 83 ∨ j = 84 ∨ j = 85 ∨ j = 86 := by omega
        rcases h3 with h3 | rfl | h3 | rfl | rfl | rfl | rfl | rfl | rfl | rfl | rfl | rfl | rfl | rfl | rfl | rfl | rfl
        · simp only [h3, if_true]
        · rfl
        · have a1 : ¬ j < 62 := by omega
          have a2 : ¬ j = 62 := by omega
          have a3 : j < 73 := by omega
          simp only [a1, a2, a3, if_true, if_false]
        all_goals rfl
theorem enc_sL (x : CX) (S : ST) (v : Int64) {j : Nat} (h : j ≠ 80) : enc x (sL S 0 v) j = enc x S j := by
  unfold enc
  simp only [fi_sL, ai_sL, al_sL, h, if_false]
