theorem X8_measured {S : ST} {t : (Nat → List Nat) × Nat} {p : List ((Nat → List Nat) × Nat)} (hc : RepC S t p) (ht : OKt t) {v : Nat} (hv : v < 4) : ∃ S', f_X8_measured S (nI v) = some (v, S') ∧ BR S' (v + 1) (Ds (t.1 v)) ∧ BI (fi S' (40 + v)) (Ds (t.1 v)).Nodup ∧ FR [40 + v] [] [v + 1] S S' := by
  obtain ⟨S1, e1, b1, d1, f1⟩ := SP.measure (v := v) (by omega) (ht.1 v hv) (hc.ms hv)
  refine ⟨S1, ?_, b1, d1, f1⟩
  unfold f_X8_measured f_X8_measured_0
  rw [oG_t (inB_n hv (by omega)), oG_t (inB_n hv (by omega)), nI_clamp (by omega), e1, oV_s, oG_t (inB_n hv (by omega))]
theorem BI.isB {r : Int32} {P : Prop} (h : BI r P) : isB r = true := by
  rcases h with ⟨_, e⟩ | ⟨_, e⟩ <;> rw [e] <;> decide
theorem fr40 {S S' : ST} {v : Nat} (hv : v < 4) (f : FR [40 + v] [] [v + 1] S S') : FC S S' := FC.of f (by simp <;> omega) (by simp)
theorem J_isRuler {S : ST} (h : INV S) (a : Int32) : ∃ S', g_isRuler S a = some S' ∧ INV S' := by
  obtain ⟨t, p, hc, hm, hu, ht, hp⟩ := h
  show ∃ S', gZ (oY (f_X8_isRuler S a) [(1, 1)] kZ) (fun S1 => f_X9_isRuler S1 a) = some S' ∧ INV S'
  rcases set_or a with hb | ⟨v, hv, rfl⟩
  · refine gZ_thr (n := 1) (c := 1) (r := 0) (by decide) (by decide) rfl hm ht hp ⟨S, ?_, hc, hu, FC.rf S⟩ (fun S1 h1 => ⟨0, MO_thr h1 0 ?_⟩)
    · unfold f_X8_isRuler f_X8_isRuler_0
      rw [X8_needSet_n S hb, oX_n S _ _ (by decide)]
    · unfold f_X9_isRuler f_X9_isRuler_0 f_X9_isRuler_13 f_X9_isRuler_33 f_X9_isRuler_34
      rw [X9_isSet_n S1 hb, oB_s, if_pos rfl, X9_ref1, oB_s, if_neg (by decide), oG_t (by decide)]
  · obtain ⟨S1, e1, b1, d1, f1⟩ := X8_measured hc ht hv
    refine gZ_ok [(1, 1)] (r := fi S1 (40 + v)) (t' := t) (p' := p) hm ht hp ⟨S1, ?_, hc.fr f1 (by simp <;> omega) (by simp), hu.fr f1 (by simp <;> omega) (by simp <;> omega) (by simp), fr40 hv f1⟩ (fun S2 h2 => ?_)
    · unfold f_X8_isRuler f_X8_isRuler_0
      rw [X8_needSet_y S hv, oX_0, e1, oB_s, oG_t (decide_eq_true hv), oG_t d1.isB]
    · obtain ⟨r, S3, e3, q3, f3⟩ := X9_areOnce ht h2.r0.1 (bit_pow v hv 0 (by omega)).2
      rw [fam_pow hv] at q3
      have hr : r = fi S1 (40 + v) := q3.eq d1 Iff.rfl
      refine MO_ok (f3.wk (by simp) (by simp [AMo]) (by simp)) (h2.r0.fr f3 (by simp) (by simp) (by simp)) ?_
      unfold f_X9_isRuler f_X9_isRuler_0 f_X9_isRuler_13 f_X9_isRuler_33 f_X9_isRuler_34
      rw [X9_isSet_y S2 hv, oB_s, if_neg (by decide), X9_refused0, oB_s, if_pos rfl, shl_4 v hv, e3, oB_s, ← hr]
      rcases q3 with ⟨_, e⟩ | ⟨_, e⟩ <;> rw [e]
      · rw [if_neg (by decide), oG_t (by decide)]
      · rw [if_pos rfl, oG_t (by decide)]
theorem J_completeUpTo {S : ST} (h : INV S) (a : Int32) : ∃ S', g_completeUpTo S a = some S' ∧ INV S' := by
  obtain ⟨t, p, hc, hm, hu, ht, hp⟩ := h
  show ∃ S', gI (oY (f_X8_completeUpTo S a) [(1, 1)] kI) (fun S1 => f_X9_completeUpTo S1 a) = some S' ∧ INV S'
  rcases set_or a with hb | ⟨v, hv, rfl⟩
  · refine gI_thr (n := 1) (c := 1) (r := 0) (by decide) (by decide) rfl hm ht hp ⟨S, ?_, hc, hu, FC.rf S⟩ (fun S1 h1 => ⟨0, MO_thr h1 0 ?_⟩)
    · unfold f_X8_completeUpTo f_X8_completeUpTo_0
      rw [X8_needSet_n S hb, oX_n S _ _ (by decide)]
    · unfold f_X9_completeUpTo f_X9_completeUpTo_0 f_X9_completeUpTo_13 f_X9_completeUpTo_28
      rw [X9_isSet_n S1 hb, oB_s, if_pos rfl, X9_ref1, oB_s, if_neg (by decide)]
  · obtain ⟨S1, e1, b1, d1, f1⟩ := X8_measured hc ht hv
    refine gI_ok [(1, 1)] (r := nI (run (Ds (t.1 v)) 2000 0)) (t' := t) (p' := p) hm ht hp ⟨S1, ?_, hc.fr f1 (by simp <;> omega) (by simp), hu.fr f1 (by simp <;> omega) (by simp <;> omega) (by simp), fr40 hv f1⟩ (fun S2 h2 => ?_)
    · unfold f_X8_completeUpTo f_X8_completeUpTo_0
      rw [X8_needSet_y S hv, oX_0, e1, oB_s, oG_t (decide_eq_true hv), SP.unbroken b1, oB_s]
    · obtain ⟨S3, e3, f3⟩ := X9_complete ht h2.r0.1 hv
      refine MO_ok (f3.wk (by simp) (by simp [AMo]) (by simp)) (h2.r0.fr f3 (by simp) (by simp) (by simp)) ?_
      unfold f_X9_completeUpTo f_X9_completeUpTo_0 f_X9_completeUpTo_13 f_X9_completeUpTo_28
      rw [X9_isSet_y S2 hv, oB_s, if_neg (by decide), X9_refused0, oB_s, if_pos rfl, e3, oB_s]
theorem J_differences {S : ST} (h : INV S) (a : Int32) : ∃ S', g_differences S a = some S' ∧ INV S' := by
  obtain ⟨t, p, hc, hm, hu, ht, hp⟩ := h
  show ∃ S', gI (oY (f_X8_differences S a) [(1, 1)] kI) (fun S1 => f_X9_differences S1 a) = some S' ∧ INV S'
  rcases set_or a with hb | ⟨v, hv, rfl⟩
  · refine gI_thr (n := 1) (c := 1) (r := 0) (by decide) (by decide) rfl hm ht hp ⟨S, ?_, hc, hu, FC.rf S⟩ (fun S1 h1 => ⟨0, MO_thr h1 0 ?_⟩)
    · unfold f_X8_differences f_X8_differences_0
      rw [X8_needSet_n S hb, oX_n S _ _ (by decide)]
    · unfold f_X9_differences f_X9_differences_0 f_X9_differences_13 f_X9_differences_28
      rw [X9_isSet_n S1 hb, oB_s, if_pos rfl, X9_ref1, oB_s, if_neg (by decide)]
  · obtain ⟨S1, e1, b1, d1, f1⟩ := X8_measured hc ht hv
    refine gI_ok [(1, 1)] (r := nI (srt (Ds (t.1 v))).length) (t' := t) (p' := p) hm ht hp ⟨S1, ?_, hc.fr f1 (by simp <;> omega) (by simp), hu.fr f1 (by simp <;> omega) (by simp <;> omega) (by simp), fr40 hv f1⟩ (fun S2 h2 => ?_)
    · unfold f_X8_differences f_X8_differences_0
      rw [X8_needSet_y S hv, oX_0, e1, oB_s, oG_t (decide_eq_true hv), b1.ones, oB_s]
    · obtain ⟨S3, e3, f3⟩ := X9_unlike ht h2.r0.1 hv
      refine MO_ok (f3.wk (by simp) (by simp [AMo]) (by simp)) (h2.r0.fr f3 (by simp) (by simp) (by simp)) ?_
      unfold f_X9_differences f_X9_differences_0 f_X9_differences_13 f_X9_differences_28
      rw [X9_isSet_y S2 hv, oB_s, if_neg (by decide), X9_refused0, oB_s, if_pos rfl, e3, oB_s]
/-! families -/
def IF4 : List Nat := [40, 41, 42, 43, 44, 45, 46, 47]
def BF4 : List Nat := [1, 2, 3, 4]
/-- what clashes with the set s, up to the set o -/
def CLS (S : ST) (t : (Nat → List Nat) × Nat) (s o : Nat) : Prop := ∃ c, c < 16 ∧ fi S (44 + s) = nI c ∧ ∀ x, x < 4 → (c.testBit x = true ↔ (x = s ∧ ¬ (Ds (t.1 s)).Nodup) ∨ (x < s ∧ x < o ∧ ∃ d, d ∈ Ds (t.1 s) ∧ d ∈ Ds (t.1 x)))
theorem CLS.fr {I A B : List Nat} {S S' : ST} {t : (Nat → List Nat) × Nat} {s o : Nat} (h : CLS S t s o) (hf : FR I A B S S') (hI : 44 + s ∉ I) : CLS S' t s o := by
  obtain ⟨c, h1, h2, h3⟩ := h
  exact ⟨c, h1, by rw [hf.1 _ hI]; exact h2, h3⟩
theorem ma33_l {t : (Nat → List Nat) × Nat} {s : Nat} (hs : s < 4) (k2 : ST → Int32 → Option ST) : ∀ (n o : Nat) (S : ST), (∀ x, x ≤ s → BR S (x + 1) (Ds (t.1 x))) → CLS S t s o → o ≤ s → s < n + o → ∃ S', f_X8_measureAll_33 k2 n S (nI s) s (nI o) = k2 S' (nI (s + 1)) ∧ CLS S' t s s ∧ FR [44 + s] [] [] S S'
  | 0, o, S, _, _, _, h2 => absurd h2 (by omega)
  | n + 1, o, S, hb, hc, h1, h2 => by
    unfold f_X8_measureAll_33 f_X8_measureAll_69
    by_cases ho : o = s
    · rw [ho, if_pos (nI_le (Nat.le_refl _) (by omega)), oL_s, nI_1]
      rw [ho] at hc
      exact ⟨S, rfl, hc, FR.rf _ _ _ S⟩
    · have ho : o < s := by omega
      rw [if_neg (nI_ge ho (by omega)), oG_t (inB_n (show o < 4 by omega) (by omega)), nI_clamp (by omega), (hb s (Nat.le_refl _)).meets (hb o (by omega)), oB_s]
      obtain ⟨c, c1, c2, c3⟩ := hc
      by_cases hm : ∃ v, v ∈ Ds (t.1 s) ∧ v ∈ Ds (t.1 o)
      · obtain ⟨q1, q2⟩ := or_16 c c1 o (by omega)
        rw [if_pos hm, if_neg (by decide), oL_s, oL_s, nI_1, c2, q1]
        have f0 := FR.sI S (44 + s) (nI (c ||| 2 ^ o))
        obtain ⟨S2, e2, d2, f2⟩ := ma33_l hs k2 n (o + 1) _ (fun x hx => (hb x hx).fr f0 (by simp)) ⟨c ||| 2 ^ o, q2, fi_sI_s _ _ _, fun x hx => by
          rw [bit_or c c1 o (by omega) x hx, c3 x hx]
          constructor
          · rintro ((q | ⟨q1, q2, q3⟩) | q)
            · exact Or.inl q
            · exact Or.inr ⟨q1, by omega, q3⟩
            · rw [q]; exact Or.inr ⟨ho, by omega, hm⟩
          · rintro (q | ⟨q1, q2, q3⟩)
            · exact Or.inl (Or.inl q)
            · by_cases e : x = o
              · exact Or.inr e
              · exact Or.inl (Or.inr ⟨q1, by omega, q3⟩)⟩ (by omega) (by omega)
        exact ⟨S2, e2, d2, f0.tr f2⟩
      · rw [if_neg hm, if_pos rfl, oL_s, nI_1]
        refine ma33_l hs k2 n (o + 1) S hb ⟨c, c1, c2, fun x hx => ?_⟩ (by omega) (by omega)
        rw [c3 x hx]
        constructor
        · rintro (q | ⟨q1, q2, q3⟩)
          · exact Or.inl q
          · exact Or.inr ⟨q1, by omega, q3⟩
        · rintro (q | ⟨q1, q2, q3⟩)
          · exact Or.inl q
          · by_cases e : x = o
            · rw [e] at q3; exact absurd q3 hm
            · exact Or.inr ⟨q1, by omega, q3⟩
theorem ma2_l {t : (Nat → List Nat) × Nat} {p : List ((Nat → List Nat) × Nat)} (ht : OKt t) : ∀ (n s : Nat) (S : ST), RepC S t p → (∀ x, x < s → BR S (x + 1) (Ds (t.1 x)) ∧ BI (fi S (40 + x)) (Ds (t.1 x)).Nodup ∧ CLS S t x x) → s ≤ 4 → 4 < n + s → ∃ S', f_X8_measureAll_2 n S (nI s) = some S' ∧ (∀ x, x < 4 → BR S' (x + 1) (Ds (t.1 x)) ∧ BI (fi S' (40 + x)) (Ds (t.1 x)).Nodup ∧ CLS S' t x x) ∧ FR IF4 [] BF4 S S'
  | 0, s, S, _, _, _, h2 => absurd h2 (by omega)
  | n + 1, s, S, hc, hx, h1, h2 => by
    unfold f_X8_measureAll_2 f_X8_measureAll_28
    by_cases hs : s = 4
    · rw [hs, if_pos (by decide)]
      rw [hs] at hx
      exact ⟨S, rfl, hx, FR.rf _ _ _ S⟩
    · have hs : s < 4 := by omega
      rw [if_neg (show ¬ (4 : Int32) ≤ nI s from nI_ge (b := 4) hs (by decide))]
      obtain ⟨S1, e1, b1, d1, f1⟩ := X8_measured hc ht hs
      rw [e1, oB_s, oG_t (decide_eq_true hs)]
      have cont : ∀ c : Nat, c < 16 → (∀ x, x < 4 → (c.testBit x = true ↔ x = s ∧ ¬ (Ds (t.1 s)).Nodup)) → ∃ S', oL (sI S1 (44 + s) (nI c)) (fun (S1 : ST) => f_X8_measureAll_33 (f_X8_measureAll_2 n) FU S1 (nI s) s 0) = some S' ∧ (∀ x, x < 4 → BR S' (x + 1) (Ds (t.1 x)) ∧ BI (fi S' (40 + x)) (Ds (t.1 x)).Nodup ∧ CLS S' t x x) ∧ FR IF4 [] BF4 S S' := fun c hc16 hcb => by
        rw [oL_s]
        have f2 := FR.sI S1 (44 + s) (nI c)
        have hbr : ∀ x, x ≤ s → BR (sI S1 (44 + s) (nI c)) (x + 1) (Ds (t.1 x)) := fun x hx2 => by
          by_cases e : x = s
          · rw [e]; exact b1.fr f2 (by simp)
          · exact ((hx x (by omega)).1.fr f1 (by simp <;> omega)).fr f2 (by simp)
        obtain ⟨S3, e3, d3, f3⟩ := ma33_l hs (f_X8_measureAll_2 n) FU 0 _ hbr ⟨c, hc16, fi_sI_s _ _ _, fun x hx => by
          rw [hcb x hx]
          constructor
          · intro q; exact Or.inl q
          · rintro (q | ⟨_, q, _⟩)
            · exact q
            · exact absurd q (by omega)⟩ (by omega) (by unfold FU; omega)
        have fall : FR IF4 [] BF4 S S3 := (f1.wk (by simp [IF4]; omega) (by simp) (by simp [BF4]; omega)).tr ((f2.wk (by simp [IF4]; omega) (by simp) (by simp)).tr (f3.wk (by simp [IF4]; omega) (by simp) (by simp)))
        obtain ⟨S4, e4, x4, f4⟩ := ma2_l ht n (s + 1) S3 (hc.fr fall (by simp [IF4]) (by simp)) (fun x hx2 => by
          by_cases e : x = s
          · rw [e]
            exact ⟨(b1.fr f2 (by simp)).fr f3 (by simp), by rw [f3.1 _ (by simp <;> omega), f2.1 _ (by simp <;> omega)]; exact d1, d3⟩
          · obtain ⟨y1, y2, y3⟩ := hx x (by omega)
            exact ⟨((y1.fr f1 (by simp <;> omega)).fr f2 (by simp)).fr f3 (by simp), by rw [f3.1 _ (by simp <;> omega), f2.1 _ (by simp <;> omega), f1.1 _ (by simp <;> omega)]; exact y2, ((y3.fr f1 (by simp <;> omega)).fr f2 (by simp <;> omega)).fr f3 (by simp <;> omega)⟩) (by omega) (by omega)
        exact ⟨S4, Eq.trans e3 e4, x4, fall.tr f4⟩
      by_cases hd : fi S1 (40 + s) = 0
      · rw [if_pos hd, shl_4 s hs]
        have hnd := d1.z.mp hd
        refine cont (2 ^ s) (bit_pow s hs 0 (by omega)).2 (fun x hx => ?_)
        rw [(bit_pow s hs x hx).1]
        exact ⟨fun e => ⟨e, hnd⟩, fun e => e.1⟩
      · rw [if_neg hd]
        have hnd : (Ds (t.1 s)).Nodup := Classical.byContradiction (fun q => hd (d1.z.mpr q))
        refine cont 0 (by decide) (fun x hx => ?_)
        rw [Nat.zero_testBit]
        exact ⟨fun e => absurd e (by decide), fun e => absurd hnd e.2⟩
theorem X8_measureAll {S : ST} {t : (Nat → List Nat) × Nat} {p : List ((Nat → List Nat) × Nat)} (ht : OKt t) (hc : RepC S t p) : ∃ S', f_X8_measureAll S = some S' ∧ (∀ x, x < 4 → BR S' (x + 1) (Ds (t.1 x)) ∧ BI (fi S' (40 + x)) (Ds (t.1 x)).Nodup ∧ CLS S' t x x) ∧ FR IF4 [] BF4 S S' :=
  ma2_l ht FU 0 S hc (fun x hx => absurd hx (by omega)) (by omega) (by unfold FU; omega)
theorem ff_l {S : ST} {t : (Nat → List Nat) × Nat} (hx : ∀ x, x < 4 → CLS S t x x) {k : Nat} (hk : k < 16) : ∀ (n s : Nat), s ≤ 4 → 4 < n + s → ∃ r, f_X8_formFamily_2 n S (nI k) (nI s) = some (r, S) ∧ BI r (∀ x, s ≤ x → x < 4 → k.testBit x = true → (Ds (t.1 x)).Nodup ∧ ∀ o, o < x → k.testBit o = true → ¬ ∃ d, d ∈ Ds (t.1 x) ∧ d ∈ Ds (t.1 o))
  | 0, s, _, h2 => absurd h2 (by omega)
  | n + 1, s, h1, h2 => by
    unfold f_X8_formFamily_2 f_X8_formFamily_32
    by_cases hs : s = 4
    · rw [hs, if_pos (by decide)]
      exact ⟨1, rfl, BI.t (fun x x1 x2 => absurd x1 (by omega))⟩
    · have hs : s < 4 := by omega
      obtain ⟨r, e, hr⟩ := ff_l hx hk n (s + 1) (by omega) (by omega)
      rw [if_neg (show ¬ (4 : Int32) ≤ nI s from nI_ge (b := 4) hs (by decide))]
      by_cases hb : k.testBit s = true
      · rw [if_pos ((bit_16 k hk s hs).mpr hb), oG_t (inB_n hs (by omega)), nI_clamp (by omega)]
        obtain ⟨c, c1, c2, c3⟩ := hx s hs
        have key : (nI c &&& nI k) = 0 ↔ (Ds (t.1 s)).Nodup ∧ ∀ o, o < s → k.testBit o = true → ¬ ∃ d, d ∈ Ds (t.1 s) ∧ d ∈ Ds (t.1 o) := by
          rw [and_16 c c1 k hk]
          constructor
          · intro q
            refine ⟨Classical.byContradiction (fun nd => q s hs ⟨(c3 s hs).mpr (Or.inl ⟨rfl, nd⟩), hb⟩), fun o ho hbo hd => q o (by omega) ⟨(c3 o (by omega)).mpr (Or.inr ⟨ho, ho, hd⟩), hbo⟩⟩
          · rintro ⟨q1, q2⟩ o ho ⟨q3, q4⟩
            rcases (c3 o ho).mp q3 with ⟨_, z⟩ | ⟨z1, _, z2⟩
            · exact z q1
            · exact q2 o z1 q4 z2
        rw [c2]
        by_cases hz : (nI c &&& nI k) = 0
        · rw [if_pos hz, oL_s, nI_1]
          refine ⟨r, e, hr.cg ⟨fun q x x1 x2 x3 => ?_, fun q x x1 x2 x3 => q x (by omega) x2 x3⟩⟩
          by_cases ex : x = s
          · rw [ex]; exact key.mp hz
          · exact q x (by omega) x2 x3
        · rw [if_neg hz]
          exact ⟨0, rfl, BI.f (fun q => hz (key.mpr (q s (Nat.le_refl _) hs hb)))⟩
      · rw [if_neg (fun q => hb ((bit_16 k hk s hs).mp q)), oL_s, nI_1]
        refine ⟨r, e, hr.cg ⟨fun q x x1 x2 x3 => ?_, fun q x x1 x2 x3 => q x (by omega) x2 x3⟩⟩
        by_cases ex : x = s
        · rw [ex] at x3; exact absurd x3 hb
        · exact q x (by omega) x2 x3
theorem fam_nd {t : (Nat → List Nat) × Nat} {k : Nat} : ∀ s, (fam t k s).Nodup ↔ ∀ x, x < s → k.testBit x = true → (Ds (t.1 x)).Nodup ∧ ∀ o, o < x → k.testBit o = true → ¬ ∃ d, d ∈ Ds (t.1 x) ∧ d ∈ Ds (t.1 o)
  | 0 => ⟨fun _ x hx => absurd hx (by omega), fun _ => List.nodup_nil⟩
  | s + 1 => by
    have ih := fam_nd (t := t) (k := k) s
    show (if k.testBit s = true then Ds (t.1 s) ++ fam t k s else fam t k s).Nodup ↔ _
    by_cases hb : k.testBit s = true
    · rw [if_pos hb, List.nodup_append, ih]
      constructor
      · rintro ⟨q1, q2, q3⟩ x hx hbx
        by_cases e : x = s
        · rw [e]
          refine ⟨q1, fun o ho hbo ⟨d, d1, d2⟩ => ?_⟩
          exact q3 d d1 d (fam_mem.mpr ⟨o, ho, hbo, d2⟩) rfl
        · exact q2 x (by omega) hbx
      · intro q
        refine ⟨(q s (by omega) hb).1, fun x hx hbx => q x (by omega) hbx, fun d d1 d' d2 e => ?_⟩
        rw [← e] at d2
        obtain ⟨o, o1, o2, o3⟩ := fam_mem.mp d2
        exact (q s (by omega) hb).2 o o1 o2 ⟨d, d1, o3⟩
    · rw [if_neg hb, ih]
      constructor
      · intro q x hx hbx
        by_cases e : x = s
        · rw [e] at hbx; exact absurd hbx hb
        · exact q x (by omega) hbx
      · intro q x hx hbx
        exact q x (by omega) hbx
theorem X8_formFamily {S : ST} {t : (Nat → List Nat) × Nat} (hx : ∀ x, x < 4 → CLS S t x x) {k : Nat} (hk : k < 16) : ∃ r, f_X8_formFamily S (nI k) = some (r, S) ∧ BI r (fam t k 4).Nodup := by
  obtain ⟨r, e, hr⟩ := ff_l hx hk FU 0 (by omega) (by unfold FU; omega)
  refine ⟨r, e, hr.cg ?_⟩
  rw [fam_nd]
  exact ⟨fun q x x2 x3 => q x (by omega) x2 x3, fun q x _ x2 x3 => q x x2 x3⟩
theorem J_isFamily {S : ST} (h : INV S) (a : Int32) : ∃ S', g_isFamily S a = some S' ∧ INV S' := by
  obtain ⟨t, p, hc, hm, hu, ht, hp⟩ := h
  show ∃ S', gZ (oY (f_X8_isFamily S a) [(2, 1)] kZ) (fun S1 => f_X9_isFamily S1 a) = some S' ∧ INV S'
  rcases rng_or a 0 15 (by decide) (by decide) with hb | ⟨k, hk1, hk2, rfl⟩
  · refine gZ_thr (n := 2) (c := 1) (r := 0) (by decide) (by decide) rfl hm ht hp ⟨S, ?_, hc, hu, FC.rf S⟩ (fun S1 h1 => ⟨0, MO_thr h1 0 ?_⟩)
    · exact cl_n (a := 0) (b := 15) hb _ _
    · unfold f_X9_isFamily f_X9_isFamily_0 f_X9_isFamily_16 f_X9_isFamily_34 f_X9_isFamily_35
      rw [show f_X9_within S1 a 0 15 = some (0, S1) from wi_n S1 hb, oB_s, if_pos rfl, X9_ref1, oB_s, if_neg (by decide), oG_t (by decide)]
  · obtain ⟨S1, e1, x1, f1⟩ := X8_measureAll ht hc
    obtain ⟨r, er, hr⟩ := X8_formFamily (fun x hx => (x1 x hx).2.2) (k := k) (by omega)
    refine gZ_ok [(2, 1)] (r := r) (t' := t) (p' := p) hm ht hp ⟨S1, ?_, hc.fr f1 (by simp [IF4]) (by simp), hu.fr f1 (by simp [IF4]) (by simp [IF4]) (by simp), FC.of f1 (by simp [IF4]) (by simp)⟩ (fun S2 h2 => ?_)
    · unfold f_X8_isFamily f_X8_isFamily_0
      refine Eq.trans (cl_y (a := 0) (b := 15) hk1 hk2 (by decide) _ _) ?_
      rw [e1, oV_s, er, oB_s, oG_t hr.isB]
    · obtain ⟨r', S3, e3, q3, f3⟩ := X9_areOnce ht h2.r0.1 (k := k) (by omega)
      have hrr : r' = r := q3.eq hr Iff.rfl
      refine MO_ok (f3.wk (by simp) (by simp [AMo]) (by simp)) (h2.r0.fr f3 (by simp) (by simp) (by simp)) ?_
      unfold f_X9_isFamily f_X9_isFamily_0 f_X9_isFamily_16 f_X9_isFamily_34 f_X9_isFamily_35
      rw [show f_X9_within S2 (nI k) 0 15 = some (1, S2) from wi_y S2 hk1 hk2 (by decide), oB_s, if_neg (by decide), X9_refused0, oB_s, if_pos rfl, e3, oB_s, ← hrr]
      rcases q3 with ⟨_, e⟩ | ⟨_, e⟩ <;> rw [e]
      · rw [if_neg (by decide), oG_t (by decide)]
      · rw [if_pos rfl, oG_t (by decide)]
