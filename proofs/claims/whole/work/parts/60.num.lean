/-! ===== the pure part: numbers, frames, sets of marks ===== -/
theorem oG_t {α : Type} {b : Bool} {k : Option α} (h : b = true) : oG b k = k := by unfold oG; rw [if_pos h]
theorem oB_s {α β γ : Type} (a : α) (b : β) (k : α → β → Option γ) : oB (some (a, b)) k = k a b := rfl
theorem oV_s {β γ : Type} (b : β) (k : β → Option γ) : oV (some b) k = k b := rfl
theorem oL_s {α γ : Type} (a : α) (k : α → Option γ) : oL a k = k a := rfl
theorem oX_0 {β : Type} (S : ST) (z : β) (k : ST → Option (Nat × β × ST)) : oX (some (0, (), S)) z k = k S := rfl
theorem oX_n {β : Type} {n : Nat} (S : ST) (z : β) (k : ST → Option (Nat × β × ST)) (h : n ≠ 0) : oX (some (n, (), S)) z k = some (n, z, S) := by
  show (if n = 0 then k S else some (n, z, S)) = _
  rw [if_neg h]
theorem inB_n {k n : Nat} (h : k < n) (hn : n < 2 ^ 31) : inB (nI k) n = true := by
  unfold inB
  exact decide_eq_true (nI_in h hn)
theorem z_lit (n : Nat) : (OfNat.ofNat n : Int32) = nI n := rfl
theorem z_ne {a b : Nat} (ha : a < 2 ^ 31) (hb : b < 2 ^ 31) (h : a ≠ b) : ¬ nI a = nI b := fun e => h ((nI_eq ha hb).mp e)
/-- an int by its value -/
theorem z_le (x y : Int32) : x ≤ y ↔ x.toInt ≤ y.toInt := Int32.le_iff_toInt_le
theorem z_lt (x y : Int32) : x < y ↔ x.toInt < y.toInt := Int32.lt_iff_toInt_lt
theorem z_eq (x y : Int32) : x = y ↔ x.toInt = y.toInt := ⟨fun h => by rw [h], fun h => Int32.toInt_inj.mp h⟩
/-- any int that isn't below 0 is a natural number -/
theorem z_of {x : Int32} (h : ¬ x < 0) : ∃ k : Nat, k < 2 ^ 31 ∧ x = nI k := nI_of h
theorem z_sub {a b : Nat} (h : b ≤ a) : nI a - nI b = nI (a - b) := pk_sub h
/-- which parts of a pure state may differ -/
def FR (I A B : List Nat) (S S' : ST) : Prop := (∀ j, j ∉ I → fi S' j = fi S j) ∧ (∀ j, j ∉ A → ai S' j = ai S j) ∧ (∀ j, j ∉ B → al S' j = al S j) ∧ fl S' = fl S
theorem FR.rf (I A B : List Nat) (S : ST) : FR I A B S S := ⟨fun _ _ => rfl, fun _ _ => rfl, fun _ _ => rfl, rfl⟩
theorem FR.tr {I A B : List Nat} {S S1 S2 : ST} (h : FR I A B S S1) (h2 : FR I A B S1 S2) : FR I A B S S2 := ⟨fun j hj => (h2.1 j hj).trans (h.1 j hj), fun j hj => (h2.2.1 j hj).trans (h.2.1 j hj), fun j hj => (h2.2.2.1 j hj).trans (h.2.2.1 j hj), h2.2.2.2.trans h.2.2.2⟩
theorem FR.wk {I A B I' A' B' : List Nat} {S S' : ST} (h : FR I A B S S') (hI : ∀ j ∈ I, j ∈ I') (hA : ∀ j ∈ A, j ∈ A') (hB : ∀ j ∈ B, j ∈ B') : FR I' A' B' S S' := ⟨fun j hj => h.1 j (fun q => hj (hI j q)), fun j hj => h.2.1 j (fun q => hj (hA j q)), fun j hj => h.2.2.1 j (fun q => hj (hB j q)), h.2.2.2⟩
theorem FR.sI (S : ST) (k : Nat) (v : Int32) : FR [k] [] [] S (sI S k v) := ⟨fun j hj => by rw [fi_sI]; exact va_up_ne _ _ (by simpa using hj), fun _ _ => rfl, fun _ _ => rfl, rfl⟩
theorem FR.sA (S : ST) (k : Nat) (f : Nat → Int32) : FR [] [k] [] S (sA S k f) := ⟨fun _ _ => rfl, fun j hj => by rw [ai_sA]; exact va_up_ne _ _ (by simpa using hj), fun _ _ => rfl, rfl⟩
theorem FR.sB (S : ST) (k : Nat) (f : Nat → Int64) : FR [] [] [k] S (sB S k f) := ⟨fun _ _ => rfl, fun _ _ => rfl, fun j hj => by rw [al_sB]; exact va_up_ne _ _ (by simpa using hj), rfl⟩
theorem fi_sI_s (S : ST) (k : Nat) (v : Int32) : fi (sI S k v) k = v := by rw [fi_sI, va_up_self]
theorem ai_sA_s (S : ST) (k : Nat) (f : Nat → Int32) : ai (sA S k f) k = f := by rw [ai_sA, va_up_self]
theorem al_sB_s (S : ST) (k : Nat) (f : Nat → Int64) : al (sB S k f) k = f := by rw [al_sB, va_up_self]
theorem fi_sI_n (S : ST) {k j : Nat} (v : Int32) (h : j ≠ k) : fi (sI S k v) j = fi S j := by rw [fi_sI, va_up_ne _ _ h]
theorem ai_sA_n (S : ST) {k j : Nat} (f : Nat → Int32) (h : j ≠ k) : ai (sA S k f) j = ai S j := by rw [ai_sA, va_up_ne _ _ h]
theorem al_sB_n (S : ST) {k j : Nat} (f : Nat → Int64) (h : j ≠ k) : al (sB S k f) j = al S j := by rw [al_sB, va_up_ne _ _ h]
/-- the MarkSet (or Gaps) number i holds the list l -/
def MS (S : ST) (i : Nat) (l : List Nat) : Prop := l.length ≤ 24 ∧ fi S i = nI l.length ∧ ∀ k, k < l.length → ai S i k = nI (l.getD k 0)
theorem MS.fr {I A B : List Nat} {S S' : ST} {i : Nat} {l : List Nat} (h : MS S i l) (hf : FR I A B S S') (hI : i ∉ I) (hA : i ∉ A) : MS S' i l := ⟨h.1, by rw [hf.1 i hI]; exact h.2.1, fun k hk => by rw [hf.2.1 i hA]; exact h.2.2 k hk⟩
theorem MS.at {S : ST} {i : Nat} {l : List Nat} (h : MS S i l) {k : Nat} (hk : k < l.length) : f_X2_at S i (nI k) = some (nI (l.getD k 0), S) := by
  have h24 := h.1
  unfold f_X2_at f_X2_at_0
  rw [if_neg (nI_pos (by omega)), h.2.1, if_neg (nI_ge hk (by omega)), oG_t (inB_n (by omega) (by omega)), nI_clamp (by omega), h.2.2 k hk]
  rfl
/-- a number that is no place of the set: NONE -/
theorem MS.at_out {S : ST} {i : Nat} {l : List Nat} (h : MS S i l) {k : Nat} (hk : l.length ≤ k) (hb : k < 2 ^ 31) : f_X2_at S i (nI k) = some (-1, S) := by
  unfold f_X2_at f_X2_at_0
  rw [if_neg (nI_pos (by omega)), h.2.1, if_pos (nI_le hk hb)]
  rfl
theorem MS.at_neg {S : ST} {i : Nat} {a : Int32} (h : a < 0) : f_X2_at S i a = some (-1, S) := by
  unfold f_X2_at f_X2_at_0
  rw [if_pos h]
  rfl
theorem MS.empty (S : ST) (i : Nat) : ∃ S', f_X2_empty S i = some S' ∧ MS S' i [] ∧ FR [i] [] [] S S' := by
  refine ⟨sI S i 0, rfl, ⟨by simp, fi_sI_s S i 0, fun k hk => absurd hk (by simp)⟩, FR.sI S i 0⟩
theorem MS.push {S : ST} {i : Nat} {l : List Nat} (h : MS S i l) (hl : l.length < 24) (v : Nat) : ∃ S', f_X2_push S i (nI v) = some S' ∧ MS S' i (l ++ [v]) ∧ FR [i] [i] [] S S' := by
  have e : fi S i = nI l.length := h.2.1
  refine ⟨sI (sA S i (upd (ai S i) l.length (nI v))) i (nI (l.length + 1)), ?_, ⟨by simp; omega, ?_, ?_⟩, ?_⟩
  · unfold f_X2_push f_X2_push_0 f_X2_push_29
    rw [if_neg (by rw [e]; exact nI_ge (b := 24) hl (by decide)), e, oG_t (inB_n hl (by omega)), oL_s, oL_s, nI_clamp (by omega)]
    rw [show fi (sA S i (upd (ai S i) l.length (nI v))) i = nI l.length from e, nI_1]
  · rw [fi_sI_s, List.length_append]; rfl
  · intro k hk
    rw [ai_sI, ai_sA_s]
    rw [List.length_append] at hk
    have hk : k < l.length + 1 := hk
    by_cases hkl : k = l.length
    · subst hkl
      rw [pk_us]
      simp
    · rw [pk_un hkl, h.2.2 k (by omega)]
      congr 1
      rw [List.getD_eq_getElem?_getD, List.getD_eq_getElem?_getD, List.getElem?_append_left (by omega)]
  · exact FR.tr ((FR.sA S i _).wk (by simp) (by simp) (by simp)) ((FR.sI _ i _).wk (by simp) (by simp) (by simp))
theorem MS.push_full {S : ST} {i : Nat} {l : List Nat} (h : MS S i l) (hl : 24 ≤ l.length) (a : Int32) : f_X2_push S i a = some S := by
  unfold f_X2_push f_X2_push_0 f_X2_push_29
  rw [if_pos (by rw [h.2.1]; exact nI_le hl (by have := h.1; omega))]
theorem MS.pop {S : ST} {i : Nat} {l : List Nat} {v : Nat} (h : MS S i (l ++ [v])) : ∃ S', f_X2_pop S i = some S' ∧ MS S' i l ∧ FR [i] [] [] S S' := by
  have h24 := h.1
  have e : fi S i = nI (l.length + 1) := by rw [h.2.1, List.length_append]; rfl
  rw [List.length_append] at h24
  have h24 : l.length + 1 ≤ 24 := h24
  refine ⟨sI S i (nI l.length), ?_, ⟨by omega, fi_sI_s _ _ _, fun k hk => ?_⟩, FR.sI S i _⟩
  · unfold f_X2_pop f_X2_pop_0 f_X2_pop_17
    rw [if_neg (by rw [e]; exact nI_nle (by omega) (by omega)), e, oL_s, show nI (l.length + 1) - (1 : Int32) = nI l.length from nI_pred _]
  · rw [ai_sI, h.2.2 k (by rw [List.length_append]; show k < l.length + 1; omega)]
    congr 1
    rw [List.getD_eq_getElem?_getD, List.getD_eq_getElem?_getD, List.getElem?_append_left (by omega)]
theorem MS.take {S : ST} {i j : Nat} {l : List Nat} (h : MS S j l) (hij : i ≠ j) : ∃ S', f_X2_take S i j = some S' ∧ MS S' i l ∧ FR [i] [i] [] S S' := by
  refine ⟨sI (sA S i (va_cpy (ai S j) (ai S i) 0 0 24)) i (fi S j), ?_, ⟨h.1, ?_, ?_⟩, ?_⟩
  · unfold f_X2_take f_X2_take_0
    rw [oL_s, oL_s]
    rfl
  · rw [fi_sI_s]; exact h.2.1
  · intro k hk
    have := h.1
    rw [ai_sI, ai_sA_s, sb_cpy0 (by omega)]
    exact h.2.2 k hk
  · exact FR.tr ((FR.sA S i _).wk (by simp) (by simp) (by simp)) ((FR.sI _ i _).wk (by simp) (by simp) (by simp))
theorem MS.greatest {S : ST} {i : Nat} {l : List Nat} {v : Nat} (h : MS S i (l ++ [v])) : f_X2_greatest S i = some (nI v, S) := by
  unfold f_X2_greatest f_X2_greatest_0
  have e : fi S i = nI (l.length + 1) := by rw [h.2.1, List.length_append]; rfl
  rw [e, show nI (l.length + 1) - (1 : Int32) = nI l.length from nI_pred _, h.at (by rw [List.length_append]; show l.length < l.length + 1; omega), oB_s]
  simp
theorem MS.greatest0 {S : ST} {i : Nat} (h : MS S i []) : f_X2_greatest S i = some (-1, S) := by
  unfold f_X2_greatest f_X2_greatest_0
  rw [MS.at_neg (by rw [h.2.1]; decide), oB_s]
theorem gl_s (l : List Nat) (v : Nat) : (l ++ [v]).getD l.length 0 = v := by simp
/-- the last mark of a list that isn't empty -/
theorem l_last {l : List Nat} (h : l ≠ []) : ∃ (l0 : List Nat) (v : Nat), l = l0 ++ [v] := ⟨l.dropLast, l.getLast h, (List.dropLast_concat_getLast h).symm⟩
theorem gd_app {l : List Nat} {v k : Nat} (h : k < l.length) : (l ++ [v]).getD k 0 = l.getD k 0 := by
  rw [List.getD_eq_getElem?_getD, List.getD_eq_getElem?_getD, List.getElem?_append_left h]
theorem tk_succ {l : List Nat} {k : Nat} (h : k < l.length) : l.take (k + 1) = l.take k ++ [l.getD k 0] := by
  rw [List.take_add_one, List.getD_eq_getElem?_getD]
  simp [h]
/-- the marks of l that are below a -/
def below (l : List Nat) (a : Int32) : Nat := (l.filter (fun v => decide (nI v < a))).length
theorem below_succ {l : List Nat} {a : Int32} {k : Nat} (h : k < l.length) : below (l.take (k + 1)) a = below (l.take k) a + if nI (l.getD k 0) < a then 1 else 0 := by
  rw [tk_succ h]
  unfold below
  rw [List.filter_append, List.length_append]
  congr 1
  generalize l.getD k 0 = v
  by_cases hc : nI v < a
  · simp [hc]
  · simp [hc]
theorem MS.countBelow_l {S : ST} {i : Nat} {l : List Nat} (h : MS S i l) (a : Int32) : ∀ (n k c : Nat), k ≤ l.length → l.length < n + k → c = below (l.take k) a → f_X2_countBelow_4 n S i a (nI c) (nI k) = some (nI (below l a), S)
  | 0, k, c, h1, h2, _ => absurd h2 (by omega)
  | n + 1, k, c, h1, h2, hc => by
    have h24 := h.1
    unfold f_X2_countBelow_4
    rw [h.2.1]
    by_cases hk : k = l.length
    · subst hk
      rw [if_pos (nI_le (Nat.le_refl _) (by omega)), hc, List.take_length]
    · have hk : k < l.length := by omega
      rw [if_neg (nI_ge hk (by omega)), oG_t (inB_n (by omega) (by omega)), nI_clamp (by omega), h.2.2 k hk]
      have hs := below_succ (a := a) hk
      unfold f_X2_countBelow_25
      by_cases hc2 : nI (l.getD k 0) < a
      · rw [if_neg (by rw [Int32.not_le]; exact hc2), oL_s, oL_s, nI_1, nI_1]
        rw [if_pos hc2] at hs
        exact MS.countBelow_l h a n (k + 1) (c + 1) (by omega) (by omega) (by rw [hs, hc])
      · rw [if_pos (Int32.not_lt.mp hc2), oL_s, nI_1]
        rw [if_neg hc2] at hs
        exact MS.countBelow_l h a n (k + 1) c (by omega) (by omega) (by rw [hs, hc, Nat.add_zero])
theorem MS.countBelow {S : ST} {i : Nat} {l : List Nat} (h : MS S i l) (a : Int32) : f_X2_countBelow S i a = some (nI (below l a), S) := by
  unfold f_X2_countBelow f_X2_countBelow_0
  have := h.1
  exact MS.countBelow_l h a FU 0 0 (by omega) (by unfold FU; omega) rfl
theorem MS.span {S : ST} {i : Nat} {l : List Nat} (h : MS S i l) (hs : l.getD 0 0 ≤ l.getD (l.length - 1) 0) : f_X2_span S i = some (nI (if l.length < 2 then 0 else l.getD (l.length - 1) 0 - l.getD 0 0), S) := by
  have h24 := h.1
  unfold f_X2_span f_X2_span_0 f_X2_span_22
  rw [h.2.1]
  by_cases h2 : l.length < 2
  · rw [if_neg (show ¬ (2 : Int32) ≤ nI l.length from nI_ge (b := 2) h2 (by decide)), if_pos h2]
    rfl
  · rw [if_pos (show (2 : Int32) ≤ nI l.length from nI_le (a := 2) (Nat.le_of_not_lt h2) (by omega)), if_neg h2]
    have hne : l ≠ [] := by intro e; subst e; simp at h2
    obtain ⟨l0, v, rfl⟩ := l_last hne
    rw [h.greatest, oB_s]
    have h0 : f_X2_at S i 0 = some (nI ((l0 ++ [v]).getD 0 0), S) := h.at (k := 0) (by simp)
    rw [h0, oB_s]
    have hl : (l0 ++ [v]).length - 1 = l0.length := by simp
    rw [hl, gl_s] at hs ⊢
    rw [z_sub hs]
/-- pairs of places i > j of a list with the difference d -/
def pr1 (l : List Nat) (i d : Nat) : Nat → Nat
  | 0 => 0
  | j + 1 => pr1 l i d j + if l.getD i 0 = l.getD j 0 + d then 1 else 0
def prs (l : List Nat) (d : Nat) : Nat → Nat
  | 0 => 0
  | i + 1 => prs l d i + pr1 l i d i
theorem z_subeq {a b d : Nat} (ha : a < 2 ^ 30) (hb : b < 2 ^ 30) (hd : d < 2 ^ 30) (hd0 : 0 < d) : nI a - nI b = nI d ↔ a = b + d := by
  rw [z_eq, pk_sub_toInt ha hb, nI_toInt (by omega)]
  omega
theorem MS.pairs_15 {S : ST} {i : Nat} {l : List Nat} (h : MS S i l) (hm : ∀ k, k < l.length → l.getD k 0 ≤ 2000) {d : Nat} (hd : 0 < d) (hd2 : d ≤ 2000) (k4 : ST → Nat → Int32 → Int32 → Int32 → Option (Int32 × ST)) {a : Nat} (ha : a < l.length) : ∀ (n j c : Nat), j ≤ a → a < n + j → f_X2_pairsApart_15 k4 n S i (nI d) (nI (c + pr1 l a d j)) (nI a) (nI j) = k4 S i (nI d) (nI (c + pr1 l a d a)) (nI (a + 1))
  | 0, j, c, h1, h2 => absurd h2 (by omega)
  | n + 1, j, c, h1, h2 => by
    have h24 := h.1
    unfold f_X2_pairsApart_15
    by_cases hj : j = a
    · subst hj
      rw [if_pos (nI_le (Nat.le_refl _) (by omega)), oL_s, nI_1]
    · have hj : j < a := by omega
      have e : pr1 l a d (j + 1) = pr1 l a d j + if l.getD a 0 = l.getD j 0 + d then 1 else 0 := rfl
      rw [if_neg (nI_ge hj (by omega)), oG_t (inB_n (by omega) (by omega)), oG_t (inB_n (by omega) (by omega)), nI_clamp (by omega), nI_clamp (by omega), h.2.2 a ha, h.2.2 j (by omega)]
      have m1 := hm a ha
      have m2 := hm j (by omega)
      have hq := z_subeq (a := l.getD a 0) (b := l.getD j 0) (d := d) (by omega) (by omega) (by omega) hd
      unfold f_X2_pairsApart_42
      by_cases hc : l.getD a 0 = l.getD j 0 + d
      · rw [if_pos (hq.mpr hc), oL_s, oL_s, nI_1, nI_1]
        rw [if_pos hc] at e
        have := MS.pairs_15 h hm hd hd2 k4 ha n (j + 1) c (by omega) (by omega)
        rw [e, ← Nat.add_assoc] at this
        exact this
      · rw [if_neg (fun q => hc (hq.mp q)), oL_s, nI_1]
        rw [if_neg hc, Nat.add_zero] at e
        have := MS.pairs_15 h hm hd hd2 k4 ha n (j + 1) c (by omega) (by omega)
        rw [e] at this
        exact this
theorem MS.pairs_4 {S : ST} {i : Nat} {l : List Nat} (h : MS S i l) (hm : ∀ k, k < l.length → l.getD k 0 ≤ 2000) {d : Nat} (hd : 0 < d) (hd2 : d ≤ 2000) : ∀ (n a : Nat), a ≤ l.length → l.length < n + a → f_X2_pairsApart_4 n S i (nI d) (nI (prs l d a)) (nI a) = some (nI (prs l d l.length), S)
  | 0, a, h1, h2 => absurd h2 (by omega)
  | n + 1, a, h1, h2 => by
    have h24 := h.1
    unfold f_X2_pairsApart_4
    rw [h.2.1]
    by_cases hk : a = l.length
    · subst hk
      rw [if_pos (nI_le (Nat.le_refl _) (by omega))]
    · have hk : a < l.length := by omega
      rw [if_neg (nI_ge hk (by omega))]
      have := MS.pairs_15 h hm hd hd2 (f_X2_pairsApart_4 n) hk FU 0 (prs l d a) (by omega) (by unfold FU; omega)
      refine Eq.trans this ?_
      exact MS.pairs_4 h hm hd hd2 n (a + 1) (by omega) (by omega)
theorem MS.pairsApart {S : ST} {i : Nat} {l : List Nat} (h : MS S i l) (hm : ∀ k, k < l.length → l.getD k 0 ≤ 2000) {d : Nat} (hd : 0 < d) (hd2 : d ≤ 2000) : f_X2_pairsApart S i (nI d) = some (nI (prs l d l.length), S) := by
  unfold f_X2_pairsApart f_X2_pairsApart_0
  have h24 := h.1
  by_cases hl : l.length = 0
  · unfold FU f_X2_pairsApart_4
    rw [h.2.1, hl, if_pos (by decide)]
    rfl
  · exact MS.pairs_4 h hm hd hd2 FU 1 (by omega) (by unfold FU; omega)
/-- pushing the marks of another set, place by place -/
theorem MS.tw_37 {i j : Nat} (hij : i ≠ j) {l : List Nat} : ∀ (n k : Nat) (S : ST) (w : List Nat), MS S j l → MS S i w → k ≤ l.length → l.length < n + k → w.length + (l.length - k) ≤ 24 → ∃ S', f_X2_takeWith_37 n S i j (nI k) = some S' ∧ MS S' i (w ++ l.drop k) ∧ FR [i] [i] [] S S'
  | 0, k, S, w, h, hw, h1, h2, h3 => absurd h2 (by omega)
  | n + 1, k, S, w, h, hw, h1, h2, h3 => by
    have h24 := h.1
    unfold f_X2_takeWith_37
    rw [h.2.1]
    by_cases hk : k = l.length
    · subst hk
      rw [if_pos (nI_le (Nat.le_refl _) (by omega))]
      exact ⟨S, rfl, by rw [List.drop_length, List.append_nil]; exact hw, FR.rf _ _ _ S⟩
    · have hk : k < l.length := by omega
      rw [if_neg (nI_ge hk (by omega)), h.at hk, oB_s]
      obtain ⟨S1, e1, m1, f1⟩ := hw.push (by omega) (l.getD k 0)
      rw [e1, oV_s, oL_s, nI_1]
      obtain ⟨S2, e2, m2, f2⟩ := MS.tw_37 hij n (k + 1) S1 (w ++ [l.getD k 0]) (h.fr f1 (by simp; omega) (by simp; omega)) m1 (by omega) (by omega) (by rw [List.length_append]; show w.length + 1 + _ ≤ 24; omega)
      refine ⟨S2, e2, ?_, f1.tr f2⟩
      rw [List.append_assoc] at m2
      have hd : l.drop k = [l.getD k 0] ++ l.drop (k + 1) := by
        rw [List.drop_eq_getElem_cons hk, List.getD_eq_getElem?_getD, List.getElem?_eq_getElem hk]
        rfl
      rw [hd]
      exact m2
