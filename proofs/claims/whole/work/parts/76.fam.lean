/-! how often a difference is there -/
def OF (S : ST) (L : List Nat) : Prop := ∀ d, d ≤ 2000 → ai S 33 d = nI (L.count d)
theorem OF.fr {I A B : List Nat} {S S' : ST} {L : List Nat} (h : OF S L) (hf : FR I A B S S') (hA : 33 ∉ A) : OF S' L := fun d hd => by rw [hf.2.1 33 hA]; exact h d hd
theorem OF.inc {S : ST} {L : List Nat} (h : OF S L) (d : Nat) (hd : d ≤ 2000) : OF (sA S 33 (upd (ai S 33) d (ai S 33 d + 1))) (d :: L) := fun k hk => by
  rw [ai_sA_s]
  by_cases e : k = d
  · rw [e, pk_us, h d hd, nI_1, List.count_cons_self]
  · rw [pk_un e, h k hk, List.count_cons_of_ne (fun q => e q.symm)]
theorem ct13_l {t : (Nat → List Nat) × Nat} {v : Nat} (hv : v < 4) (hok : MOK (t.1 v)) (L : List Nat) (k2 : ST → Int32 → Int32 → Option ST) {a : Nat} (ha : a < (t.1 v).length) : ∀ (n j : Nat) (S : ST), blk (ai S 30) 0 t → OF S (dif1 (t.1 v) a j ++ (difs (t.1 v) a ++ L)) → j ≤ a → a < n + j → ∃ S', f_X9_counts_13 k2 n S (nI v) (nI a) (nI j) = k2 S' (nI v) (nI (a + 1)) ∧ OF S' (difs (t.1 v) (a + 1) ++ L) ∧ FR [] [33] [] S S'
  | 0, j, S, _, _, _, h2 => absurd h2 (by omega)
  | n + 1, j, S, h, ho, h1, h2 => by
    have h24 := hok.2.1
    unfold f_X9_counts_13
    by_cases hj : j = a
    · rw [hj, if_pos (nI_le (Nat.le_refl _) (by omega)), oL_s, nI_1]
      rw [hj] at ho
      exact ⟨S, rfl, by rw [show difs (t.1 v) (a + 1) = dif1 (t.1 v) a a ++ difs (t.1 v) a from rfl, List.append_assoc]; exact ho, FR.rf _ _ _ S⟩
    · have hj : j < a := by omega
      obtain ⟨q1, q2⟩ := hok.d hj ha
      rw [if_neg (nI_ge hj (by omega)), X9_markAt h hv ha, oB_s, X9_markAt h hv (by omega), oB_s, z_sub (by omega)]
      have ho1 := ho.inc ((t.1 v).getD a 0 - (t.1 v).getD j 0) (by omega)
      rw [oG_t (inB_n (by omega) (by omega)), oG_t (inB_n (by omega) (by omega)), oL_s, oL_s, nI_1, nI_clamp (by omega)]
      have f0 := FR.sA S 33 (upd (ai S 33) ((t.1 v).getD a 0 - (t.1 v).getD j 0) (ai S 33 ((t.1 v).getD a 0 - (t.1 v).getD j 0) + 1))
      obtain ⟨S2, e2, o2, f2⟩ := ct13_l hv hok L k2 ha n (j + 1) _ (by rw [f0.2.1 30 (by decide)]; exact h) ho1 (by omega) (by omega)
      exact ⟨S2, e2, o2, f0.tr f2⟩
theorem ct2_l {t : (Nat → List Nat) × Nat} {v : Nat} (hv : v < 4) (hok : MOK (t.1 v)) (L : List Nat) : ∀ (n a : Nat) (S : ST), blk (ai S 30) 0 t → OF S (difs (t.1 v) a ++ L) → a ≤ (t.1 v).length → (t.1 v).length < n + a → ∃ S', f_X9_counts_2 n S (nI v) (nI a) = some S' ∧ OF S' (Ds (t.1 v) ++ L) ∧ FR [] [33] [] S S'
  | 0, a, S, _, _, _, h2 => absurd h2 (by omega)
  | n + 1, a, S, h, ho, h1, h2 => by
    have h24 := hok.2.1
    unfold f_X9_counts_2
    rw [X9_many h hv, oB_s]
    by_cases ha : a = (t.1 v).length
    · rw [ha, if_pos (nI_le (Nat.le_refl _) (by omega))]
      rw [ha] at ho
      exact ⟨S, rfl, ho, FR.rf _ _ _ S⟩
    · have ha : a < (t.1 v).length := by omega
      rw [if_neg (nI_ge ha (by omega))]
      obtain ⟨S1, e1, o1, f1⟩ := ct13_l hv hok L (f_X9_counts_2 n) ha FU 0 S h ho (by omega) (by unfold FU; omega)
      obtain ⟨S2, e2, o2, f2⟩ := ct2_l hv hok L n (a + 1) S1 (by rw [f1.2.1 30 (by decide)]; exact h) o1 (by omega) (by omega)
      exact ⟨S2, Eq.trans e1 e2, o2, f1.tr f2⟩
theorem X9_counts {S : ST} {t : (Nat → List Nat) × Nat} (h : blk (ai S 30) 0 t) {v : Nat} (hv : v < 4) (hok : MOK (t.1 v)) {L : List Nat} (ho : OF S L) : ∃ S', f_X9_counts S (nI v) = some S' ∧ OF S' (Ds (t.1 v) ++ L) ∧ FR [] [33] [] S S' := by
  have h24 := hok.2.1
  exact ct2_l hv hok L FU 0 S h ho (by omega) (by unfold FU; omega)
theorem bit_16 : ∀ k, k < 16 → ∀ s, s < 4 → (((nI k >>> (nI s &&& 31)) &&& (1 : Int32)) = 1 ↔ k.testBit s = true) := by decide +kernel
theorem shl_4 : ∀ v, v < 4 → (1 : Int32) <<< (nI v &&& 31) = nI (2 ^ v) := by decide +kernel
theorem or_16 : ∀ c, c < 16 → ∀ v, v < 4 → nI c ||| ((1 : Int32) <<< (nI v &&& 31)) = nI (c ||| 2 ^ v) ∧ (c ||| 2 ^ v) < 16 := by decide +kernel
theorem and_16 : ∀ c, c < 16 → ∀ k, k < 16 → ((nI c &&& nI k) = 0 ↔ ∀ o, o < 4 → ¬ (c.testBit o = true ∧ k.testBit o = true)) := by decide +kernel
theorem bit_or : ∀ c, c < 16 → ∀ v, v < 4 → ∀ o, o < 4 → ((c ||| 2 ^ v).testBit o = true ↔ c.testBit o = true ∨ o = v) := by decide +kernel
theorem bit_pow : ∀ v, v < 4 → ∀ o, o < 4 → ((2 ^ v).testBit o = true ↔ o = v) ∧ 2 ^ v < 16 := by decide +kernel
/-- the differences of the sets that a mask names -/
def fam (t : (Nat → List Nat) × Nat) (k : Nat) : Nat → List Nat
  | 0 => []
  | s + 1 => if k.testBit s = true then Ds (t.1 s) ++ fam t k s else fam t k s
theorem lo24_l {t : (Nat → List Nat) × Nat} (ht : OKt t) {k : Nat} (hk : k < 16) : ∀ (n s : Nat) (S : ST), blk (ai S 30) 0 t → OF S (fam t k s) → s ≤ 4 → 4 < n + s → ∃ S', f_X9_laysOften_24 n S (nI k) (nI s) = some S' ∧ OF S' (fam t k 4) ∧ FR [] [33] [] S S'
  | 0, s, S, _, _, _, h2 => absurd h2 (by omega)
  | n + 1, s, S, h, ho, h1, h2 => by
    unfold f_X9_laysOften_24 f_X9_laysOften_43
    by_cases hs : s = 4
    · rw [hs, if_pos (by decide)]
      rw [hs] at ho
      exact ⟨S, rfl, ho, FR.rf _ _ _ S⟩
    · have hs : s < 4 := by omega
      rw [if_neg (show ¬ (4 : Int32) ≤ nI s from nI_ge (b := 4) hs (by decide))]
      have hf : fam t k (s + 1) = if k.testBit s = true then Ds (t.1 s) ++ fam t k s else fam t k s := rfl
      by_cases hb : k.testBit s = true
      · rw [if_pos ((bit_16 k hk s hs).mpr hb)]
        rw [if_pos hb] at hf
        obtain ⟨S1, e1, o1, f1⟩ := X9_counts h hs (ht.1 s hs) ho
        rw [e1, oV_s, oL_s, nI_1]
        rw [← hf] at o1
        obtain ⟨S2, e2, o2, f2⟩ := lo24_l ht hk n (s + 1) S1 (by rw [f1.2.1 30 (by decide)]; exact h) o1 (by omega) (by omega)
        exact ⟨S2, e2, o2, f1.tr f2⟩
      · rw [if_neg (fun q => hb ((bit_16 k hk s hs).mp q)), oL_s, nI_1]
        rw [if_neg hb] at hf
        rw [← hf] at ho
        exact lo24_l ht hk n (s + 1) S h ho (by omega) (by omega)
theorem lo2_l {t : (Nat → List Nat) × Nat} (ht : OKt t) {k : Nat} (hk : k < 16) : ∀ (n d : Nat) (S : ST), blk (ai S 30) 0 t → (∀ j, j < d → ai S 33 j = 0) → d ≤ 2001 → 2001 < n + d → ∃ S', f_X9_laysOften_2 n S (nI k) (nI d) = some S' ∧ OF S' (fam t k 4) ∧ FR [] [33] [] S S'
  | 0, d, S, _, _, _, h2 => absurd h2 (by omega)
  | n + 1, d, S, h, hz, h1, h2 => by
    unfold f_X9_laysOften_2
    by_cases hd : d = 2001
    · rw [hd, if_pos (by decide)]
      exact lo24_l ht hk FU 0 S h (fun j hj => by rw [hz j (by omega)]; rfl) (by omega) (by unfold FU; omega)
    · rw [if_neg (show ¬ (2000 : Int32) < nI d from nI_nlt (a := 2000) (by omega) (by decide)), oG_t (inB_n (show d < 2001 by omega) (by omega)), oL_s, oL_s, nI_1, nI_clamp (by omega)]
      obtain ⟨S2, e2, o2, f2⟩ := lo2_l ht hk n (d + 1) (sA S 33 (upd (ai S 33) d 0)) (by rw [ai_sA_n _ _ (by decide)]; exact h) (fun j hj => by
        rw [ai_sA_s]
        by_cases e : j = d
        · rw [e, pk_us]
        · rw [pk_un e]; exact hz j (by omega)) (by omega) (by omega)
      exact ⟨S2, e2, o2, (FR.sA S 33 _).tr f2⟩
theorem X9_laysOften {S : ST} {t : (Nat → List Nat) × Nat} (ht : OKt t) (h : blk (ai S 30) 0 t) {k : Nat} (hk : k < 16) : ∃ S', f_X9_laysOften S (nI k) = some S' ∧ OF S' (fam t k 4) ∧ FR [] [33] [] S S' :=
  lo2_l ht hk FU 0 S h (fun j hj => absurd hj (by omega)) (by omega) (by unfold FU; omega)
theorem fam_mem {t : (Nat → List Nat) × Nat} {k x : Nat} : ∀ {s}, x ∈ fam t k s ↔ ∃ o, o < s ∧ k.testBit o = true ∧ x ∈ Ds (t.1 o)
  | 0 => by simp [fam]
  | s + 1 => by
    show x ∈ (if k.testBit s = true then Ds (t.1 s) ++ fam t k s else fam t k s) ↔ _
    by_cases hb : k.testBit s = true
    · rw [if_pos hb, List.mem_append, fam_mem]
      constructor
      · rintro (q | ⟨o, q1, q2, q3⟩)
        · exact ⟨s, by omega, hb, q⟩
        · exact ⟨o, by omega, q2, q3⟩
      · rintro ⟨o, q1, q2, q3⟩
        by_cases e : o = s
        · rw [e] at q3; exact Or.inl q3
        · exact Or.inr ⟨o, by omega, q2, q3⟩
    · rw [if_neg hb, fam_mem]
      constructor
      · rintro ⟨o, q1, q2, q3⟩; exact ⟨o, by omega, q2, q3⟩
      · rintro ⟨o, q1, q2, q3⟩
        by_cases e : o = s
        · rw [e] at q2; exact absurd q2 hb
        · exact ⟨o, by omega, q2, q3⟩
theorem dif1_len (l : List Nat) (a : Nat) : ∀ j, (dif1 l a j).length = j
  | 0 => rfl
  | j + 1 => by show (dif1 l a j).length + 1 = _; rw [dif1_len l a j]
theorem difs_len (l : List Nat) : ∀ a, (difs l a).length ≤ a * a
  | 0 => Nat.le_refl _
  | a + 1 => by
    show (dif1 l a a ++ difs l a).length ≤ _
    rw [List.length_append, dif1_len]
    have := difs_len l a
    rw [Nat.add_mul, Nat.one_mul, Nat.mul_add a a 1, Nat.mul_one]
    generalize a * a = z at *
    omega
theorem Ds_len {l : List Nat} (h : l.length ≤ 24) : (Ds l).length ≤ 576 := by
  have h1 := difs_len l l.length
  have h2 : l.length * l.length ≤ 24 * 24 := Nat.mul_le_mul h h
  unfold Ds
  omega
theorem fam_len {t : (Nat → List Nat) × Nat} (ht : OKt t) (k : Nat) : ∀ s, s ≤ 4 → (fam t k s).length ≤ 576 * s
  | 0, _ => Nat.le_refl _
  | s + 1, hs => by
    have ih := fam_len ht k s (by omega)
    have hd := Ds_len (ht.1 s (by omega)).2.1
    show (if k.testBit s = true then Ds (t.1 s) ++ fam t k s else fam t k s).length ≤ _
    split
    · rw [List.length_append]; omega
    · omega
theorem fam_b {t : (Nat → List Nat) × Nat} (ht : OKt t) {k x : Nat} (hx : x ∈ fam t k 4) : 1 ≤ x ∧ x ≤ 2000 := by
  obtain ⟨o, h1, h2, h3⟩ := fam_mem.mp hx
  exact Ds_b (ht.1 o h1) h3
theorem OF.once_l {S : ST} {L : List Nat} (h : OF S L) (hL : L.length < 2 ^ 31) : ∀ (n d : Nat) (r : Int32) (P : Prop), 1 ≤ d → d ≤ 2001 → 2001 < n + d → BI r P → ∃ r', f_X9_areOnce_9 n S r (nI d) = some (r', S) ∧ BI r' (P ∧ ∀ k, d ≤ k → k ≤ 2000 → L.count k < 2)
  | 0, d, r, P, _, _, h2, _ => absurd h2 (by omega)
  | n + 1, d, r, P, h0, h1, h2, hr => by
    unfold f_X9_areOnce_9 f_X9_areOnce_34 f_X9_areOnce_35
    by_cases hd : d = 2001
    · rw [hd, if_pos (by decide)]
      have hb : isB r = true := by
        rcases hr with ⟨_, e⟩ | ⟨_, e⟩ <;> rw [e] <;> decide
      rw [oG_t hb]
      exact ⟨r, rfl, hr.cg ⟨fun q => ⟨q, fun k k1 k2 => absurd k1 (by omega)⟩, fun q => q.1⟩⟩
    · rw [if_neg (show ¬ (2000 : Int32) < nI d from nI_nlt (a := 2000) (by omega) (by decide))]
      have hc := cnt_lt hL d
      have step : ∀ (r1 : Int32) (P1 : Prop), BI r1 P1 → (P1 ↔ P ∧ L.count d < 2) → ∃ r', oL (nI d + 1) (fun v1 => f_X9_areOnce_9 n S r1 v1) = some (r', S) ∧ BI r' (P ∧ ∀ k, d ≤ k → k ≤ 2000 → L.count k < 2) := fun r1 P1 hr1 e1 => by
        rw [oL_s, nI_1]
        obtain ⟨r', e, q⟩ := OF.once_l h hL n (d + 1) r1 P1 (by omega) (by omega) (by omega) hr1
        refine ⟨r', e, q.cg ⟨fun ⟨q1, q2⟩ => ⟨(e1.mp q1).1, fun k k1 k2 => ?_⟩, fun ⟨q1, q2⟩ => ⟨e1.mpr ⟨q1, q2 d (Nat.le_refl _) (by omega)⟩, fun k k1 k2 => q2 k (by omega) k2⟩⟩⟩
        by_cases ek : k = d
        · rw [ek]; exact (e1.mp q1).2
        · exact q2 k (by omega) k2
      by_cases hz : r = 0
      · rw [if_pos hz]
        have := hr.z.mp hz
        exact step 0 False (BI.f (fun q => q)) ⟨fun q => absurd q (fun q => q), fun q => absurd q.1 this⟩
      · rw [if_neg hz, oG_t (inB_n (show d < 2001 by omega) (by omega)), nI_clamp (by omega), h d (by omega)]
        have hP : P := Classical.byContradiction (fun q => hz (hr.z.mpr q))
        by_cases h3 : 2 ≤ L.count d
        · rw [if_pos (show (2 : Int32) ≤ nI (L.count d) from nI_le (a := 2) h3 hc)]
          exact step 0 False (BI.f (fun q => q)) ⟨fun q => absurd q (fun q => q), fun q => absurd q.2 (by omega)⟩
        · rw [if_neg (show ¬ (2 : Int32) ≤ nI (L.count d) from nI_ge (b := 2) (by omega) (by decide))]
          exact step 1 True (BI.t trivial) ⟨fun _ => ⟨hP, by omega⟩, fun _ => trivial⟩
theorem X9_areOnce {S : ST} {t : (Nat → List Nat) × Nat} (ht : OKt t) (h : blk (ai S 30) 0 t) {k : Nat} (hk : k < 16) : ∃ r S', f_X9_areOnce S (nI k) = some (r, S') ∧ BI r (fam t k 4).Nodup ∧ FR [] [33] [] S S' := by
  obtain ⟨S1, e1, o1, f1⟩ := X9_laysOften ht h hk
  have hL : (fam t k 4).length < 2 ^ 31 := by have := fam_len ht k 4 (by omega); omega
  obtain ⟨r, e, q⟩ := OF.once_l o1 hL FU 1 1 True (by omega) (by omega) (by unfold FU; omega) (BI.t trivial)
  refine ⟨r, S1, ?_, q.cg ?_, f1⟩
  · unfold f_X9_areOnce f_X9_areOnce_0
    rw [e1, oV_s]
    exact e
  · rw [List.nodup_iff_count]
    constructor
    · rintro ⟨-, q⟩ a
      by_cases ha : a ∈ fam t k 4
      · have := fam_b ht ha
        have := q a (by omega) (by omega)
        omega
      · rw [List.count_eq_zero_of_not_mem ha]; omega
    · intro q
      exact ⟨trivial, fun a _ _ => by have := q a; omega⟩
theorem fam_pow {t : (Nat → List Nat) × Nat} {v : Nat} (hv : v < 4) : fam t (2 ^ v) 4 = Ds (t.1 v) := by
  have hb := bit_pow v hv
  have h : ∀ o, o < 4 → fam t (2 ^ v) (o + 1) = if o = v then Ds (t.1 o) ++ fam t (2 ^ v) o else fam t (2 ^ v) o := fun o ho => by
    show (if (2 ^ v).testBit o = true then _ else _) = _
    by_cases e : o = v
    · rw [if_pos ((hb o ho).1.mpr e), if_pos e]
    · rw [if_neg (fun q => e ((hb o ho).1.mp q)), if_neg e]
  have h0 : fam t (2 ^ v) 0 = [] := rfl
  rw [h 3 (by omega), h 2 (by omega), h 1 (by omega), h 0 (by omega), h0]
  match v, hv with
  | 0, _ => simp
  | 1, _ => simp
  | 2, _ => simp
  | 3, _ => simp
theorem OF.run_l {S : ST} {L : List Nat} (h : OF S L) (hL : L.length < 2 ^ 31) : ∀ (f n k : Nat), n + f = 2000 → f < k → f_X9_complete_9 k S (nI n) = some (nI (run L f n), S)
  | f, n, 0, h1, h2 => absurd h2 (by omega)
  | 0, n, k + 1, h1, h2 => by
    unfold f_X9_complete_9 f_X9_complete_33
    rw [if_pos (show (2000 : Int32) ≤ nI n by rw [show n = 2000 by omega]; decide)]
    rfl
  | f + 1, n, k + 1, h1, h2 => by
    unfold f_X9_complete_9 f_X9_complete_33
    rw [if_neg (show ¬ (2000 : Int32) ≤ nI n from nI_ge (b := 2000) (by omega) (by decide)), nI_1, oG_t (inB_n (show n + 1 < 2001 by omega) (by omega)), nI_clamp (by omega), h (n + 1) (by omega)]
    have hc := cnt_lt hL (n + 1)
    unfold run
    by_cases hin : n + 1 ∈ L
    · have := List.count_pos_iff.mpr hin
      rw [if_neg (nI_nle this hc), oL_s, if_pos hin]
      exact OF.run_l h hL f (n + 1) k (by omega) (by omega)
    · rw [List.count_eq_zero_of_not_mem hin, if_pos (by decide), if_neg hin]
theorem X9_complete {S : ST} {t : (Nat → List Nat) × Nat} (ht : OKt t) (h : blk (ai S 30) 0 t) {v : Nat} (hv : v < 4) : ∃ S', f_X9_complete S (nI v) = some (nI (run (Ds (t.1 v)) 2000 0), S') ∧ FR [] [33] [] S S' := by
  obtain ⟨S1, e1, o1, f1⟩ := X9_laysOften ht h (bit_pow v hv 0 (by omega)).2
  have hL : (fam t (2 ^ v) 4).length < 2 ^ 31 := by have := fam_len ht (2 ^ v) 4 (by omega); omega
  refine ⟨S1, ?_, f1⟩
  unfold f_X9_complete f_X9_complete_0
  rw [shl_4 v hv, e1, oV_s]
  have := OF.run_l o1 hL 2000 0 FU rfl (by unfold FU; omega)
  rw [fam_pow hv] at this
  exact this
theorem OF.unl_l {S : ST} {L : List Nat} (h : OF S L) (hL : L.length < 2 ^ 31) : ∀ (n d : Nat), 1 ≤ d → d ≤ 2001 → 2001 < n + d → f_X9_unlike_11 n S (nI (srtTo L d).length) (nI d) = some (nI (srtTo L 2001).length, S)
  | 0, d, _, _, h2 => absurd h2 (by omega)
  | n + 1, d, h0, h1, h2 => by
    unfold f_X9_unlike_11 f_X9_unlike_33
    by_cases hd : d = 2001
    · rw [hd, if_pos (by decide)]
    · rw [if_neg (show ¬ (2000 : Int32) < nI d from nI_nlt (a := 2000) (by omega) (by decide)), oG_t (inB_n (show d < 2001 by omega) (by omega)), nI_clamp (by omega), h d (by omega)]
      have hc := cnt_lt hL d
      have ih := OF.unl_l h hL n (d + 1) (by omega) (by omega) (by omega)
      by_cases hin : d ∈ L
      · have := List.count_pos_iff.mpr hin
        rw [if_neg (nI_nle this hc), oL_s, oL_s, nI_1, nI_1]
        rw [srtTo_in hin, List.length_append] at ih
        exact ih
      · rw [List.count_eq_zero_of_not_mem hin, if_pos (by decide), oL_s, oL_s, nI_1, show nI (srtTo L d).length + 0 = nI (srtTo L d).length from nI_add _ 0]
        rw [srtTo_out hin] at ih
        exact ih
theorem X9_unlike {S : ST} {t : (Nat → List Nat) × Nat} (ht : OKt t) (h : blk (ai S 30) 0 t) {v : Nat} (hv : v < 4) : ∃ S', f_X9_unlike S (nI v) = some (nI (srt (Ds (t.1 v))).length, S') ∧ FR [] [33] [] S S' := by
  obtain ⟨S1, e1, o1, f1⟩ := X9_laysOften ht h (bit_pow v hv 0 (by omega)).2
  have hL : (fam t (2 ^ v) 4).length < 2 ^ 31 := by have := fam_len ht (2 ^ v) 4 (by omega); omega
  refine ⟨S1, ?_, f1⟩
  unfold f_X9_unlike f_X9_unlike_0
  rw [shl_4 v hv, e1, oV_s]
  have := OF.unl_l o1 hL FU 1 (by omega) (by omega) (by unfold FU; omega)
  rw [fam_pow hv] at this
  have h0 : srtTo (Ds (t.1 v)) 1 = [] := by
    rw [srtTo_out (fun q => by have := Ds_b (ht.1 v hv) q; omega)]
    rfl
  have h1 : srt (Ds (t.1 v)) = srtTo (Ds (t.1 v)) 2001 := by
    rw [srt_e, show (2048 : Nat) = 2001 + 47 from rfl]
    exact srtTo_skip 47 (fun x x1 x2 q => by have := Ds_b (ht.1 v hv) q; omega)
  rw [h0] at this
  rw [h1]
  exact this
