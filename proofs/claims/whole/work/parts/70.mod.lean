/-! the reference: its row, what it has saved, what it makes -/
theorem FR.wI {I I' A B : List Nat} {S S' : ST} (h : FR I A B S S') (hI : ∀ j ∈ I, j ∈ I') : FR I' A B S S' := h.wk hI (fun _ q => q) (fun _ q => q)
def blk (f : Nat → Int32) (o : Nat) (t : (Nat → List Nat) × Nat) : Prop := f o = nI t.2 ∧ ∀ v, v < 4 → (t.1 v).length ≤ 24 ∧ f (o + 1 + 25 * v) = nI (t.1 v).length ∧ ∀ k, k < (t.1 v).length → f (o + 2 + 25 * v + k) = nI ((t.1 v).getD k 0)
theorem blk.cg {f g : Nat → Int32} {o o' : Nat} {t : (Nat → List Nat) × Nat} (h : blk f o t) (e : ∀ j, j < 101 → g (o' + j) = f (o + j)) : blk g o' t := by
  refine ⟨by have := e 0 (by omega); rw [Nat.add_zero, Nat.add_zero] at this; rw [this]; exact h.1, fun v hv => ?_⟩
  obtain ⟨h1, h2, h3⟩ := h.2 v hv
  refine ⟨h1, ?_, fun k hk => ?_⟩
  · rw [Nat.add_assoc, e (1 + 25 * v) (by omega), ← Nat.add_assoc]; exact h2
  · rw [show o' + 2 + 25 * v + k = o' + (2 + 25 * v + k) by omega, e _ (by omega), show o + (2 + 25 * v + k) = o + 2 + 25 * v + k by omega]; exact h3 k hk
def RepM (S : ST) (t : (Nat → List Nat) × Nat) (p : List ((Nat → List Nat) × Nat)) : Prop := blk (ai S 30) 0 t ∧ fi S 50 = nI p.length ∧ p.length ≤ 4 ∧ ∀ d, d < p.length → blk (ai S 31) (101 * (p.length - 1 - d)) (p.getD d no_t)
theorem RepM.fr {I A B : List Nat} {S S' : ST} {t : (Nat → List Nat) × Nat} {p : List ((Nat → List Nat) × Nat)} (h : RepM S t p) (hf : FR I A B S S') (h50 : 50 ∉ I) (h30 : 30 ∉ A) (h31 : 31 ∉ A) : RepM S' t p :=
  ⟨by rw [hf.2.1 30 h30]; exact h.1, by rw [hf.1 50 h50]; exact h.2.1, h.2.2.1, fun d hd => by rw [hf.2.1 31 h31]; exact h.2.2.2 d hd⟩
theorem X9_many {S : ST} {t : (Nat → List Nat) × Nat} (h : blk (ai S 30) 0 t) {v : Nat} (hv : v < 4) : f_X9_many S (nI v) = some (nI (t.1 v).length, S) := by
  unfold f_X9_many f_X9_many_0
  rw [show (1 : Int32) + (25 : Int32) * nI v = nI (1 + 25 * v) by rw [show (25 : Int32) = nI 25 from rfl, pk_mul, show (1 : Int32) = nI 1 from rfl, nI_add], oG_t (inB_n (by omega) (by omega)), nI_clamp (by omega)]
  have := (h.2 v hv).2.1
  rw [Nat.zero_add] at this
  rw [this]
theorem X9_markAt {S : ST} {t : (Nat → List Nat) × Nat} (h : blk (ai S 30) 0 t) {v k : Nat} (hv : v < 4) (hk : k < (t.1 v).length) : f_X9_markAt S (nI v) (nI k) = some (nI ((t.1 v).getD k 0), S) := by
  unfold f_X9_markAt f_X9_markAt_0
  obtain ⟨h1, h2, h3⟩ := h.2 v hv
  rw [show (1 : Int32) + (25 : Int32) * nI v + 1 + nI k = nI (2 + 25 * v + k) by rw [show (25 : Int32) = nI 25 from rfl, pk_mul, show (1 : Int32) = nI 1 from rfl, nI_add, nI_add, nI_add]; congr 1; omega, oG_t (inB_n (by omega) (by omega)), nI_clamp (by omega)]
  have := h3 k hk
  rw [Nat.zero_add] at this
  rw [this]
theorem X9_modulus {S : ST} {t : (Nat → List Nat) × Nat} (h : blk (ai S 30) 0 t) : f_X9_modulus S = some (nI t.2, S) := by
  unfold f_X9_modulus f_X9_modulus_0
  rw [oG_t (by decide), show Int32.toNatClampNeg 0 = 0 from rfl, h.1]
theorem sv50_l {s : Nat} (hs : s < 4) : ∀ (n k : Nat) (S : ST), fi S 50 = nI s → k ≤ 101 → 101 < n + k → ∃ S', f_X9_saves_50 n S (nI k) = some S' ∧ fi S' 50 = nI (s + 1) ∧ (∀ j, k ≤ j → j < 101 → ai S' 31 (101 * s + j) = ai S 30 j) ∧ (∀ j, j < 101 * s + k ∨ 101 * s + 101 ≤ j → ai S' 31 j = ai S 31 j) ∧ FR [50] [31] [] S S'
  | 0, k, S, _, _, h2 => absurd h2 (by omega)
  | n + 1, k, S, h, h1, h2 => by
    unfold f_X9_saves_50
    by_cases hk : k = 101
    · rw [hk, if_pos (by decide), oL_s, h, nI_1]
      exact ⟨_, rfl, fi_sI_s _ _ _, fun j h3 h4 => absurd h3 (by omega), fun j _ => rfl, (FR.sI S 50 _).wk (by simp) (by simp) (by simp)⟩
    · rw [if_neg (show ¬ (101 : Int32) ≤ nI k from nI_ge (b := 101) (by omega) (by decide)), oG_t (inB_n (show k < 101 by omega) (by omega)), h, show (101 : Int32) * nI s + nI k = nI (101 * s + k) by rw [show (101 : Int32) = nI 101 from rfl, pk_mul, nI_add], oG_t (inB_n (show 101 * s + k < 404 by omega) (by omega)), oL_s, oL_s, nI_1, nI_clamp (by omega), nI_clamp (by omega)]
      obtain ⟨S', e, g1, g2, g3, g4⟩ := sv50_l hs n (k + 1) (sA S 31 (upd (ai S 31) (101 * s + k) (ai S 30 k))) h (by omega) (by omega)
      refine ⟨S', e, g1, fun j h3 h4 => ?_, fun j hj => ?_, ((FR.sA S 31 _).wk (by simp) (by simp) (by simp)).tr g4⟩
      · by_cases e : j = k
        · rw [e, g3 _ (by omega), ai_sA_s, pk_us]
        · rw [g2 j (by omega) h4, ai_sA_n _ _ (by decide)]
      · rw [g3 j (by omega), ai_sA_s, pk_un (by omega)]
theorem sv10_l : ∀ (n k : Nat) (S : ST), k ≤ 303 → 303 < n + k → fi S 50 = nI 4 → ∃ S', f_X9_saves_10 n S (nI k) = f_X9_saves_48 S' ∧ fi S' 50 = nI 3 ∧ (∀ j, k ≤ j → j < 303 → ai S' 31 j = ai S 31 (j + 101)) ∧ (∀ j, j < k → ai S' 31 j = ai S 31 j) ∧ FR [50] [31] [] S S'
  | 0, k, S, _, h2, _ => absurd h2 (by omega)
  | n + 1, k, S, h1, h2, h => by
    unfold f_X9_saves_10
    by_cases hk : k = 303
    · rw [hk, if_pos (by decide), oL_s, h]
      exact ⟨_, rfl, fi_sI_s _ _ _, fun j h3 h4 => absurd h3 (by omega), fun j _ => rfl, (FR.sI S 50 _).wk (by simp) (by simp) (by simp)⟩
    · rw [if_neg (show ¬ (303 : Int32) ≤ nI k from nI_ge (b := 303) (by omega) (by decide)), show nI k + (101 : Int32) = nI (k + 101) by rw [show (101 : Int32) = nI 101 from rfl, nI_add], oG_t (inB_n (show k + 101 < 404 by omega) (by omega)), oG_t (inB_n (show k < 404 by omega) (by omega)), oL_s, oL_s, nI_1, nI_clamp (by omega), nI_clamp (by omega)]
      obtain ⟨S', e, g1, g2, g3, g4⟩ := sv10_l n (k + 1) (sA S 31 (upd (ai S 31) k (ai S 31 (k + 101)))) (by omega) (by omega) h
      refine ⟨S', e, g1, fun j h3 h4 => ?_, fun j hj => ?_, ((FR.sA S 31 _).wk (by simp) (by simp) (by simp)).tr g4⟩
      · by_cases e : j = k
        · rw [e, g3 _ (by omega), ai_sA_s, pk_us]
        · rw [g2 j (by omega) h4, ai_sA_s, pk_un (by omega)]
      · rw [g3 j (by omega), ai_sA_s, pk_un (by omega)]
theorem RepM.saves {S : ST} {t : (Nat → List Nat) × Nat} {p : List ((Nat → List Nat) × Nat)} (h : RepM S t p) : ∃ S', f_X9_saves S = some S' ∧ RepM S' t (t :: p.take 3) ∧ FR [50] [31] [] S S' := by
  obtain ⟨h0, h50, hp, hs⟩ := h
  have hlen : (t :: p.take 3).length = min (p.length + 1) 4 := by
    rw [List.length_cons, List.length_take]; omega
  have hget : ∀ d, d + 1 < min (p.length + 1) 4 → (t :: p.take 3).getD (d + 1) no_t = p.getD d no_t := fun d hd => by
    rw [List.getD_cons_succ, List.getD_eq_getElem?_getD, List.getD_eq_getElem?_getD, List.getElem?_take, if_pos (by omega)]
  unfold f_X9_saves f_X9_saves_0
  rw [h50]
  by_cases h4 : p.length = 4
  · rw [if_pos (by rw [h4]; rfl)]
    obtain ⟨S1, e1, a1, a2, a3, a4⟩ := sv10_l FU 0 S (by omega) (by unfold FU; omega) (by rw [h50, h4])
    obtain ⟨S2, e2, b1, b2, b3, b4⟩ := sv50_l (s := 3) (by omega) FU 0 S1 a1 (by omega) (by unfold FU; omega)
    refine ⟨S2, Eq.trans e1 e2, ⟨?_, by rw [b1, hlen, h4]; rfl, by omega, fun d hd => ?_⟩, a4.tr b4⟩
    · rw [(a4.tr b4).2.1 30 (by decide)]; exact h0
    · rw [hlen, h4] at hd
      rw [hlen, h4]
      cases d with
      | zero =>
        refine h0.cg (fun j hj => ?_)
        rw [show 101 * (min (4 + 1) 4 - 1 - 0) + j = 101 * 3 + j from rfl, b2 j (by omega) hj, a4.2.1 30 (by decide), Nat.zero_add]
      | succ d =>
        have hd : d + 1 < 4 := hd
        rw [hget d (by omega)]
        refine (hs d (by omega)).cg (fun j hj => ?_)
        rw [show min (4 + 1) 4 - 1 - (d + 1) = 2 - d by omega, b3 _ (by omega), a2 _ (by omega) (by omega), show 101 * (2 - d) + j + 101 = 101 * (p.length - 1 - d) + j by omega]
  · rw [if_neg (show ¬ nI p.length = (4 : Int32) from z_ne (b := 4) (by omega) (by decide) h4)]
    obtain ⟨S2, e2, b1, b2, b3, b4⟩ := sv50_l (s := p.length) (by omega) FU 0 S h50 (by omega) (by unfold FU; omega)
    refine ⟨S2, e2, ⟨?_, by rw [b1, hlen]; congr 1; omega, by omega, fun d hd => ?_⟩, b4⟩
    · rw [b4.2.1 30 (by decide)]; exact h0
    · rw [hlen] at hd
      rw [hlen, show min (p.length + 1) 4 = p.length + 1 by omega]
      cases d with
      | zero =>
        refine h0.cg (fun j hj => ?_)
        rw [show p.length + 1 - 1 - 0 = p.length by omega, b2 j (by omega) hj, Nat.zero_add]
      | succ d =>
        rw [hget d hd]
        refine (hs d (by omega)).cg (fun j hj => ?_)
        rw [b3 _ (by omega)]
        congr 2
        omega
/-- what the reference has made -/
def MM (S : ST) (l : List Nat) : Prop := l.length ≤ 24 ∧ fi S 52 = nI l.length ∧ ∀ k, k < l.length → ai S 32 k = nI (l.getD k 0)
theorem MM.fr {I A B : List Nat} {S S' : ST} {l : List Nat} (h : MM S l) (hf : FR I A B S S') (h1 : 52 ∉ I) (h2 : 32 ∉ A) : MM S' l := ⟨h.1, by rw [hf.1 52 h1]; exact h.2.1, fun k hk => by rw [hf.2.1 32 h2]; exact h.2.2 k hk⟩
theorem MM.begins (S : ST) : ∃ S', f_X9_begins S = some S' ∧ MM S' [] ∧ FR [52] [] [] S S' :=
  ⟨sI S 52 0, rfl, ⟨by decide, fi_sI_s _ _ _, fun k hk => absurd hk (by simp)⟩, FR.sI S 52 0⟩
theorem cm50_l {l : List Nat} {v a : Nat} (hl : l.length < 24) (ha : a ≤ l.length) : ∀ (n k : Nat) (S : ST), a ≤ k → k ≤ l.length → k < n + a → fi S 52 = nI l.length → (∀ j, j < k → ai S 32 j = nI (l.getD j 0)) → (∀ j, k ≤ j → j < l.length → ai S 32 (j + 1) = nI (l.getD j 0)) → ∃ S', f_X9_comes_50 n S (nI v) (nI a) (nI k) = some S' ∧ MM S' (l.take a ++ v :: l.drop a) ∧ FR [52] [32] [] S S'
  | 0, k, S, _, _, h3, _, _, _ => absurd h3 (by omega)
  | n + 1, k, S, h1, h2, h3, h52, hlo, hhi => by
    unfold f_X9_comes_50
    by_cases hk : k = a
    · rw [hk, if_pos (nI_le (Nat.le_refl _) (by omega)), oG_t (inB_n (show a < 24 by omega) (by omega)), oL_s, oL_s, nI_clamp (by omega)]
      rw [show fi (sA S 32 (upd (ai S 32) a (nI v))) 52 = nI l.length from h52, nI_1]
      have hlen : (l.take a ++ v :: l.drop a).length = l.length + 1 := by
        rw [List.length_append, List.length_take, List.length_cons, List.length_drop]; omega
      refine ⟨_, rfl, ⟨by omega, by rw [fi_sI_s, hlen], fun j hj => ?_⟩, ((FR.sA S 32 _).wk (by simp) (by simp) (by simp)).tr ((FR.sI _ 52 _).wk (by simp) (by simp) (by simp))⟩
      rw [hlen] at hj
      rw [ai_sI, ai_sA_s]
      have hta : (l.take a).length = a := by rw [List.length_take]; omega
      by_cases e1 : j = a
      · rw [e1, pk_us, List.getD_eq_getElem?_getD, List.getElem?_append_right (by omega), hta, Nat.sub_self]
        rfl
      · rw [pk_un e1]
        by_cases e2 : j < a
        · rw [hlo j (by omega), List.getD_eq_getElem?_getD, List.getD_eq_getElem?_getD, List.getElem?_append_left (by omega), List.getElem?_take, if_pos e2]
        · have := hhi (j - 1) (by omega) (by omega)
          rw [show j - 1 + 1 = j by omega] at this
          rw [this, List.getD_eq_getElem?_getD, List.getD_eq_getElem?_getD, List.getElem?_append_right (by omega), hta, show j - a = (j - 1 - a) + 1 by omega, List.getElem?_cons_succ, List.getElem?_drop]
          congr 3
          omega
    · rw [if_neg (nI_ge (show a < k by omega) (by omega)), show nI k - (1 : Int32) = nI (k - 1) from z_sub (b := 1) (by omega), oG_t (inB_n (show k - 1 < 24 by omega) (by omega)), oG_t (inB_n (show k < 24 by omega) (by omega)), oL_s, oL_s, nI_clamp (by omega), nI_clamp (by omega)]
      rw [show nI k + (-1) = nI (k - 1) by rw [show k = k - 1 + 1 by omega, pk_m1]; rfl]
      obtain ⟨S', e, g1, g2⟩ := cm50_l hl ha n (k - 1) (sA S 32 (upd (ai S 32) k (ai S 32 (k - 1)))) (by omega) (by omega) (by omega) h52 (fun j hj => by rw [ai_sA_s, pk_un (by omega)]; exact hlo j (by omega)) (fun j h4 h5 => by
        rw [ai_sA_s]
        by_cases e : j + 1 = k
        · rw [e, pk_us, show k - 1 = j by omega]; exact hlo j (by omega)
        · rw [pk_un e]; exact hhi j (by omega) h5)
      exact ⟨S', e, g1, ((FR.sA S 32 _).wk (by simp) (by simp) (by simp)).tr g2⟩
theorem ins_ok {l : List Nat} {v a : Nat} (h : Srt l) (ha : a ≤ l.length) (h1 : ∀ j, j < a → l.getD j 0 < v) (h2 : ∀ j, a ≤ j → j < l.length → v < l.getD j 0) : Srt (l.take a ++ v :: l.drop a) ∧ ∀ x, x ∈ l.take a ++ v :: l.drop a ↔ x = v ∨ x ∈ l := by
  have hm : ∀ x, x ∈ l.take a → x < v := fun x hx => by
    obtain ⟨k, hk, e⟩ := List.mem_iff_getElem.mp hx
    rw [List.length_take] at hk
    rw [← e, List.getElem_take]
    have := h1 k (by omega)
    rw [List.getD_eq_getElem?_getD, List.getElem?_eq_getElem (by omega)] at this
    exact this
  have hd : ∀ x, x ∈ l.drop a → v < x := fun x hx => by
    obtain ⟨k, hk, e⟩ := List.mem_iff_getElem.mp hx
    rw [List.length_drop] at hk
    rw [← e, List.getElem_drop]
    have := h2 (a + k) (by omega) (by omega)
    rw [List.getD_eq_getElem?_getD, List.getElem?_eq_getElem (by omega)] at this
    exact this
  constructor
  · unfold Srt
    rw [List.pairwise_append]
    refine ⟨List.Pairwise.sublist (List.take_sublist _ _) h, List.pairwise_cons.mpr ⟨hd, List.Pairwise.sublist (List.drop_sublist _ _) h⟩, fun x hx y hy => ?_⟩
    rcases List.mem_cons.mp hy with e | e
    · rw [e]; exact hm x hx
    · exact Nat.lt_trans (hm x hx) (hd y e)
  · intro x
    have : x ∈ l ↔ x ∈ l.take a ∨ x ∈ l.drop a := by
      rw [← List.mem_append, List.take_append_drop]
    rw [List.mem_append, List.mem_cons, this]
    constructor
    · rintro (q | q | q)
      · exact Or.inr (Or.inl q)
      · exact Or.inl q
      · exact Or.inr (Or.inr q)
    · rintro (q | q | q)
      · exact Or.inr (Or.inl q)
      · exact Or.inl q
      · exact Or.inr (Or.inr q)
theorem cm2_l {l : List Nat} {v : Nat} (hs : Srt l) (hb : ∀ x, x ∈ l → x < 2 ^ 31) (hv : v < 2 ^ 31) (hfit : v ∈ l ∨ l.length < 24) : ∀ (n a : Nat) (S : ST), MM S l → a ≤ l.length → l.length < n + a → (∀ j, j < a → l.getD j 0 < v) → ∃ S' l', f_X9_comes_2 n S (nI v) (nI a) = some S' ∧ MM S' l' ∧ Srt l' ∧ (∀ x, x ∈ l' ↔ x = v ∨ x ∈ l) ∧ FR [52] [32] [] S S'
  | 0, a, S, _, _, h3, _ => absurd h3 (by omega)
  | n + 1, a, S, h, h1, h2, hlo => by
    have h24 := h.1
    have fin45 : (∀ j, a ≤ j → j < l.length → v < l.getD j 0) → v ∉ l → ∃ S' l', f_X9_comes_45 S (nI v) (nI a) = some S' ∧ MM S' l' ∧ Srt l' ∧ (∀ x, x ∈ l' ↔ x = v ∨ x ∈ l) ∧ FR [52] [32] [] S S' := fun hhi hn => by
      have hl : l.length < 24 := by
        rcases hfit with q | q
        · exact absurd q hn
        · exact q
      unfold f_X9_comes_45
      rw [oL_s, h.2.1]
      obtain ⟨S', e, g1, g2⟩ := cm50_l (v := v) hl h1 FU l.length S h1 (Nat.le_refl _) (by unfold FU; omega) h.2.1 h.2.2 (fun j h3 h4 => absurd h3 (by omega))
      obtain ⟨i1, i2⟩ := ins_ok hs h1 hlo hhi
      exact ⟨S', _, e, g1, i1, i2, g2⟩
    unfold f_X9_comes_2 f_X9_comes_26
    rw [h.2.1]
    by_cases hk : a = l.length
    · rw [if_pos (show nI l.length ≤ nI a by rw [hk]; exact nI_le (Nat.le_refl _) (by omega)), if_pos (show nI l.length ≤ nI a by rw [hk]; exact nI_le (Nat.le_refl _) (by omega))]
      refine fin45 (fun j h3 h4 => absurd h3 (by omega)) (fun hin => ?_)
      obtain ⟨k, hk2, e⟩ := mem_gd hin
      have := hlo k (by omega)
      omega
    · have hk : a < l.length := by omega
      have hx := hb _ (gd_mem hk)
      rw [if_neg (nI_ge hk (by omega)), oG_t (inB_n (show a < 24 by omega) (by omega)), nI_clamp (by omega), h.2.2 a hk]
      by_cases hc : v ≤ l.getD a 0
      · rw [if_pos (nI_le hc hx), if_neg (nI_ge hk (by omega)), oG_t (inB_n (show a < 24 by omega) (by omega))]
        by_cases he : l.getD a 0 = v
        · rw [if_pos (by rw [he])]
          refine ⟨S, l, rfl, h, hs, fun x => ⟨fun q => Or.inr q, fun q => ?_⟩, FR.rf _ _ _ S⟩
          rcases q with q | q
          · rw [q, ← he]; exact gd_mem hk
          · exact q
        · rw [if_neg (z_ne hx hv he)]
          have hhi : ∀ j, a ≤ j → j < l.length → v < l.getD j 0 := fun j h3 h4 => by
            by_cases e : j = a
            · rw [e]; omega
            · have := hs.lt (show a < j by omega) h4
              omega
          refine fin45 hhi (fun hin => ?_)
          obtain ⟨k, hk2, e⟩ := mem_gd hin
          by_cases hka : k < a
          · have := hlo k hka; omega
          · have := hhi k (by omega) hk2; omega
      · rw [if_neg (nI_ge (show l.getD a 0 < v by omega) hv), oL_s, nI_1]
        refine cm2_l hs hb hv hfit n (a + 1) S h (by omega) (by omega) (fun j hj => ?_)
        by_cases e : j = a
        · rw [e]; omega
        · exact hlo j (by omega)
theorem MM.comes {S : ST} {l : List Nat} {v : Nat} (h : MM S l) (hs : Srt l) (hb : ∀ x, x ∈ l → x < 2 ^ 31) (hv : v < 2 ^ 31) (hfit : v ∈ l ∨ l.length < 24) : ∃ S' l', f_X9_comes S (nI v) = some S' ∧ MM S' l' ∧ Srt l' ∧ (∀ x, x ∈ l' ↔ x = v ∨ x ∈ l) ∧ FR [52] [32] [] S S' := by
  have h24 := h.1
  exact cm2_l hs hb hv hfit FU 0 S h (by omega) (by unfold FU; omega) (fun j hj => absurd hj (by omega))
