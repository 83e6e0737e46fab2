/-! the complement and the reflection -/
def coTo (l : List Nat) (a : Nat) : List Nat := (List.range a).filter (fun x => !decide (x ∈ l))
theorem co_mem {l : List Nat} {a x : Nat} : x ∈ coTo l a ↔ x < a ∧ x ∉ l := by
  unfold coTo
  rw [List.mem_filter, List.mem_range]
  simp
theorem co_in {l : List Nat} {a : Nat} (h : a ∈ l) : coTo l (a + 1) = coTo l a := by
  unfold coTo
  rw [List.range_succ, List.filter_append]
  simp [h]
theorem co_out {l : List Nat} {a : Nat} (h : a ∉ l) : coTo l (a + 1) = coTo l a ++ [a] := by
  unfold coTo
  rw [List.range_succ, List.filter_append]
  simp [h]
theorem co_srt (l : List Nat) (a : Nat) : Srt (coTo l a) := List.Pairwise.filter _ List.pairwise_lt_range
theorem co_mono {l : List Nat} {a : Nat} : ∀ d, (coTo l a).length ≤ (coTo l (a + d)).length
  | 0 => Nat.le_refl _
  | d + 1 => by
    refine Nat.le_trans (co_mono d) ?_
    rw [← Nat.add_assoc]
    by_cases h : a + d ∈ l
    · rw [co_in h]; exact Nat.le_refl _
    · rw [co_out h, List.length_append]; omega
theorem co_len {l : List Nat} (hs : Srt l) {m : Nat} (hl : Low l m) : (coTo l m).length + l.length = m := by
  have h1 : (srtTo l m).Perm l := by
    rw [List.perm_ext_iff_of_nodup (srtTo_srt l m).nd hs.nd]
    intro x
    rw [srtTo_mem]
    exact ⟨fun q => q.2, fun q => ⟨hl x q, q⟩⟩
  have h2 : (coTo l m).length + (srtTo l m).length = m := by
    unfold coTo srtTo
    have := List.length_eq_countP_add_countP (fun x => decide (x ∈ l)) (l := List.range m)
    rw [List.length_range, List.countP_eq_length_filter, List.countP_eq_length_filter] at this
    have e : (List.range m).filter (fun a => decide ¬ decide (a ∈ l) = true) = (List.range m).filter (fun x => !decide (x ∈ l)) := by
      congr 1
      funext x
      by_cases hx : x ∈ l <;> simp [hx]
    rw [e] at this
    omega
  rw [h1.length_eq] at h2
  exact h2
theorem cpl_l {t : (Nat → List Nat) × Nat} (ht : OKt t) {l : List Nat} (hl : (coTo l t.2).length ≤ 24) {to : Nat} : ∀ (n a : Nat) (S : ST), BR S 0 l → MS S 20 (coTo l a) → fi S (30 + 0) = nI t.2 → a ≤ t.2 → t.2 < n + a → ∃ S', f_X8_complement_73 n S (nI to) (nI a) = oV (f_X8_replace S' (nI to) (nI t.2)) (fun (S2 : ST) => some (0, (fi S2 20), S2)) ∧ MS S' 20 (coTo l t.2) ∧ FR [20] [20] [] S S'
  | 0, a, S, _, _, _, _, h2 => absurd h2 (by omega)
  | n + 1, a, S, hb, hm, h30, h1, h2 => by
    have hm2 := ht.2.2
    unfold f_X8_complement_73 f_X8_complement_103
    rw [h30]
    by_cases ha : a = t.2
    · rw [ha, if_pos (nI_le (Nat.le_refl _) (by omega))]
      rw [ha] at hm
      exact ⟨S, rfl, hm, FR.rf _ _ _ S⟩
    · rw [if_neg (nI_ge (show a < t.2 by omega) (by omega)), hb.has (by omega), oB_s]
      by_cases hin : a ∈ l
      · rw [if_pos hin, if_neg (by decide), oL_s, nI_1]
        exact cpl_l ht hl n (a + 1) S hb (by rw [co_in hin]; exact hm) h30 (by omega) (by omega)
      · rw [if_neg hin, if_pos rfl]
        have hlen : (coTo l a).length < 24 := by
          have q1 := co_mono (l := l) (a := a + 1) (t.2 - (a + 1))
          rw [show a + 1 + (t.2 - (a + 1)) = t.2 by omega, co_out hin, List.length_append] at q1
          have : [a].length = 1 := rfl
          omega
        obtain ⟨S1, e1, m1, f1⟩ := hm.push hlen a
        rw [e1, oV_s, oL_s, nI_1]
        obtain ⟨S2, e2, m2, f2⟩ := cpl_l (to := to) ht hl n (a + 1) S1 (hb.fr f1 (by simp)) (by rw [co_out hin]; exact m1) (by rw [f1.1 _ (by simp)]; exact h30) (by omega) (by omega)
        exact ⟨S2, e2, m2, f1.tr f2⟩
theorem cpm_l {t : (Nat → List Nat) × Nat} {p : List ((Nat → List Nat) × Nat)} (ht : OKt t) {v to : Nat} (hv : v < 4) (hto : to < 4) (hl : (coTo (t.1 v) t.2).length ≤ 24) {S0 : ST} : ∀ (n a : Nat) (S : ST), RepM S t p → MM S (coTo (t.1 v) a) → FR [50, 52] AMo [] (sI S0 51 0) S → a ≤ t.2 → t.2 < n + a → MO (f_X9_complement_65 n S (nI v) (nI to) (nI a)) S0 0 (nI (coTo (t.1 v) t.2).length) (put4 t to (coTo (t.1 v) t.2) t.2) p
  | 0, a, S, _, _, _, _, h2 => absurd h2 (by omega)
  | n + 1, a, S, h, hw, hf, h1, h2 => by
    have hok := ht.1 v hv
    have hm2 := ht.2.2
    unfold f_X9_complement_65 f_X9_complement_88
    rw [X9_modulus h.1, oB_s]
    by_cases ha : a = t.2
    · rw [ha, if_pos (nI_le (Nat.le_refl _) (by omega))]
      rw [ha] at hw
      exact MO_put h hw hto hf _ (fun S2 _ => rfl)
    · obtain ⟨r, er, hr⟩ := X9_numberN h.1 hv hok.2.2 (x := a) (by omega)
      rw [if_neg (nI_ge (show a < t.2 by omega) (by omega)), er, oB_s]
      by_cases hin : a ∈ t.1 v
      · rw [if_neg (fun q => (hr.mp q) hin), oL_s, nI_1]
        exact cpm_l ht hv hto hl n (a + 1) S h (by rw [co_in hin]; exact hw) hf (by omega) (by omega)
      · rw [if_pos (hr.mpr hin)]
        have hlen : (coTo (t.1 v) a).length < 24 := by
          have q1 := co_mono (l := t.1 v) (a := a + 1) (t.2 - (a + 1))
          rw [show a + 1 + (t.2 - (a + 1)) = t.2 by omega, co_out hin, List.length_append] at q1
          have : [a].length = 1 := rfl
          omega
        obtain ⟨S1, w1, e1, m1, s1, q1, f1⟩ := hw.comes (co_srt _ _) (fun x hx => by have := (co_mem.mp hx).1; omega) (v := a) (by omega) (Or.inr hlen)
        have hw1 : w1 = coTo (t.1 v) (a + 1) := srt_ext s1 (co_srt _ _) (fun x => by
          rw [q1 x, co_mem, co_mem]
          constructor
          · rintro (q | ⟨q, q'⟩)
            · rw [q]; exact ⟨by omega, hin⟩
            · exact ⟨by omega, q'⟩
          · rintro ⟨q, q'⟩
            by_cases e : x = a
            · exact Or.inl e
            · exact Or.inr ⟨by omega, q'⟩)
        rw [hw1] at m1
        rw [e1, oV_s, oL_s, nI_1]
        exact cpm_l ht hv hto hl n (a + 1) S1 (h.fr f1 (by simp) (by simp) (by simp)) m1 (hf.tr (f1.wk (by simp) (by simp [AMo]) (by simp))) (by omega) (by omega)
theorem J_complement {S : ST} (h : INV S) (a b : Int32) : ∃ S', g_complement S a b = some S' ∧ INV S' := by
  obtain ⟨t, p, hc, hm, hu, ht, hp⟩ := h
  show ∃ S', gI (oY (f_X8_complement S a b) [(1, 1), (3, 2)] kI) (fun S1 => f_X9_complement S1 a b) = some S' ∧ INV S'
  rcases set_or a with hb | ⟨v, hv, rfl⟩
  · refine gI_thr (n := 1) (c := 1) (r := 0) (by decide) (by decide) rfl hm ht hp ⟨S, ?_, hc, hu, FC.rf S⟩ (fun S1 h1 => ⟨0, MO_thr h1 0 ?_⟩)
    · unfold f_X8_complement f_X8_complement_0
      rw [X8_needSet_n S hb, oX_n S _ _ (by decide)]
    · unfold f_X9_complement f_X9_complement_0 f_X9_complement_15 f_X9_complement_47
      rw [X9_isSet_n S1 hb, oB_s, if_pos rfl, X9_ref1, oB_s, if_neg (by decide)]
  · rcases set_or b with hb | ⟨to, hto, rfl⟩
    · refine gI_thr (n := 1) (c := 1) (r := 0) (by decide) (by decide) rfl hm ht hp ⟨S, ?_, hc, hu, FC.rf S⟩ (fun S1 h1 => ⟨0, MO_thr h1 0 ?_⟩)
      · unfold f_X8_complement f_X8_complement_0
        rw [X8_needSet_y S hv, oX_0, X8_needSet_n S hb, oX_n S _ _ (by decide)]
      · unfold f_X9_complement f_X9_complement_0 f_X9_complement_15 f_X9_complement_47
        rw [X9_isSet_y S1 hv, oB_s, if_neg (by decide), X9_isSet_n S1 hb, oB_s, if_pos rfl, X9_ref1, oB_s, if_neg (by decide)]
    · have hok := ht.1 v hv
      have hm1 := ht.2.1
      have hm2 := ht.2.2
      have h24 := hok.2.1
      by_cases hl : Low (t.1 v) t.2
      · have hcl := co_len hok.1 hl
        have hcond : (nI t.2 - nI (t.1 v).length ≤ 24) ↔ (coTo (t.1 v) t.2).length ≤ 24 := by
          rw [z_le, pk_sub_toInt (by omega) (by omega)]
          show _ ≤ (24 : Int) ↔ _
          omega
        by_cases hfit : (coTo (t.1 v) t.2).length ≤ 24
        · have hnew : MOK (coTo (t.1 v) t.2) := ⟨co_srt _ _, hfit, fun x hx => by have := (co_mem.mp hx).1; omega⟩
          refine gI_ok [(1, 1), (3, 2)] (r := nI (coTo (t.1 v) t.2).length) (t' := put4 t to (coTo (t.1 v) t.2) t.2) (p' := t :: p.take 3) hm (ht.put hnew ht.2.1 ht.2.2) (OKp.push ht hp) ?_ (fun S1 h1 => ?_)
          · unfold f_X8_complement f_X8_complement_0
            obtain ⟨S1, q1, b1, f1⟩ := BR.hold (b := 0) (hc.ms hv) hok.2.2
            obtain ⟨S2, q2, m2, f2⟩ := MS.empty S1 20
            have h30 : fi S2 (30 + 0) = nI t.2 := by rw [f2.1 _ (by simp), f1.1 _ (by simp), hc.md]
            obtain ⟨S3, q3, m3, f3⟩ := cpl_l (to := to) ht hfit FU 0 S2 (b1.fr f2 (by simp)) m2 h30 (by omega) (by unfold FU; omega)
            have fall : FR [20] [20] [0] S S3 := (f1.wk (by simp) (by simp) (by simp)).tr ((f2.wk (by simp) (by simp) (by simp)).tr (f3.wk (by simp) (by simp) (by simp)))
            have hc1 : RepC S3 t p := hc.fr fall (by simp) (by simp)
            rw [X8_needSet_y S hv, oX_0, X8_needSet_y S hto, oX_0, (X8_below hc ht hv).1 hl, oX_0, oG_t (inB_n hv (by omega)), nI_clamp (show v < 2 ^ 31 by omega), hc.md, (hc.ms hv).2.1, if_pos (hcond.mpr hfit), oG_t (inB_n hv (by omega)), q1, oV_s, q2, oV_s]
            have := CO_rep (S := S) (m := t.2) hc1 (hu.fr fall (by simp) (by simp) (by simp)) (FC.of fall (by simp) (by simp)) m3 hto (fun (S2 : ST) => some (0, (fi S2 20), S2)) (r := nI (coTo (t.1 v) t.2).length) (fun S2 q => by rw [q.2.1])
            rw [← q3] at this
            exact this
          · obtain ⟨r, e, hr⟩ := X9_isLow ht h1.1 hv
            obtain ⟨S2, q2, m2, f2⟩ := h1.sv
            obtain ⟨S3, q3, m3, f3⟩ := MM.begins S2
            unfold f_X9_complement f_X9_complement_0 f_X9_complement_47
            rw [X9_isSet_y S1 hv, oB_s, if_neg (by decide), X9_isSet_y S1 hto, oB_s, if_neg (by decide), e, oB_s, if_neg (fun z => (hr.z.mp z) hl), X9_modulus h1.1, oB_s, X9_many h1.1 hv, oB_s, if_pos (hcond.mpr hfit), X9_refused0, oB_s, if_pos rfl, q2, oV_s, q3, oV_s]
            exact cpm_l ht hv hto hfit FU 0 S3 (m2.fr f3 (by simp) (by simp) (by simp)) m3 (f2.tr (f3.wk (by simp) (by simp) (by simp))) (by omega) (by unfold FU; omega)
        · refine gI_thr (n := 3) (c := 2) (r := 0) (by decide) (by decide) rfl hm ht hp ⟨S, ?_, hc, hu, FC.rf S⟩ (fun S1 h1 => ⟨0, MO_thr h1 0 ?_⟩)
          · unfold f_X8_complement f_X8_complement_0
            rw [X8_needSet_y S hv, oX_0, X8_needSet_y S hto, oX_0, (X8_below hc ht hv).1 hl, oX_0, oG_t (inB_n hv (by omega)), nI_clamp (show v < 2 ^ 31 by omega), hc.md, (hc.ms hv).2.1, if_neg (fun q => hfit (hcond.mp q))]
          · obtain ⟨r, e, hr⟩ := X9_isLow ht h1.1 hv
            unfold f_X9_complement f_X9_complement_0 f_X9_complement_42 f_X9_complement_47
            rw [X9_isSet_y S1 hv, oB_s, if_neg (by decide), X9_isSet_y S1 hto, oB_s, if_neg (by decide), e, oB_s, if_neg (fun z => (hr.z.mp z) hl), X9_modulus h1.1, oB_s, X9_many h1.1 hv, oB_s, if_neg (fun q => hfit (hcond.mp q)), X9_ref2, oB_s, if_neg (by decide)]
      · refine gI_thr (n := 3) (c := 2) (r := 0) (by decide) (by decide) rfl hm ht hp ⟨S, ?_, hc, hu, FC.rf S⟩ (fun S1 h1 => ⟨0, MO_thr h1 0 ?_⟩)
        · unfold f_X8_complement f_X8_complement_0
          rw [X8_needSet_y S hv, oX_0, X8_needSet_y S hto, oX_0, (X8_below hc ht hv).2 hl, oX_n S _ _ (by decide)]
        · obtain ⟨r, e, hr⟩ := X9_isLow ht h1.1 hv
          unfold f_X9_complement f_X9_complement_0 f_X9_complement_42 f_X9_complement_47
          rw [X9_isSet_y S1 hv, oB_s, if_neg (by decide), X9_isSet_y S1 hto, oB_s, if_neg (by decide), e, oB_s, if_pos (hr.z.mpr hl), X9_ref2, oB_s, if_neg (by decide)]
/-- greatest minus each mark, from the last mark on -/
def rfl_ (l : List Nat) (k : Nat) : List Nat := ((l.drop k).reverse).map (fun y => l.getD (l.length - 1) 0 - y)
theorem rf_len (l : List Nat) (k : Nat) : (rfl_ l k).length = l.length - k := by
  unfold rfl_
  rw [List.length_map, List.length_reverse, List.length_drop]
theorem rf_succ {l : List Nat} {k : Nat} (h : k < l.length) : rfl_ l k = rfl_ l (k + 1) ++ [l.getD (l.length - 1) 0 - l.getD k 0] := by
  unfold rfl_
  rw [dr_c h, List.reverse_cons, List.map_append]
  rfl
theorem rf_mem {l : List Nat} {x : Nat} : x ∈ rfl_ l 0 ↔ ∃ y, y ∈ l ∧ x = l.getD (l.length - 1) 0 - y := by
  unfold rfl_
  rw [List.drop_zero, List.mem_map]
  constructor
  · rintro ⟨y, hy, e⟩; exact ⟨y, List.mem_reverse.mp hy, e.symm⟩
  · rintro ⟨y, hy, e⟩; exact ⟨y, List.mem_reverse.mpr hy, e.symm⟩
theorem Srt.le_last {l : List Nat} (h : Srt l) {y : Nat} (hy : y ∈ l) : y ≤ l.getD (l.length - 1) 0 := by
  obtain ⟨k, hk, e⟩ := mem_gd hy
  by_cases q : k = l.length - 1
  · rw [← e, q]; exact Nat.le_refl _
  · have := h.lt (show k < l.length - 1 by omega) (by omega); omega
theorem rf_srt {l : List Nat} (h : Srt l) : Srt (rfl_ l 0) := by
  unfold rfl_ Srt
  rw [List.drop_zero, List.pairwise_map, List.pairwise_reverse]
  refine List.Pairwise.imp_of_mem ?_ h
  intro a b ha hb hab
  have := h.le_last hb
  omega
theorem z_m1 (x : Int32) : x + (-1) = x - 1 := by rw [Int32.sub_eq_add_neg]
theorem rfc_l {i to : Nat} {l : List Nat} (hl : MOK l) (hi : i < 20) : ∀ (n k : Nat) (S : ST), MS S i l → MS S 20 (rfl_ l k) → k ≤ l.length → k < n → ∃ S', f_X8_reflect_33 n S (nI to) i (nI k - 1) = oV (f_X8_replace S' (nI to) (fi S' (30 + 0))) (fun (S2 : ST) => some (0, (fi S2 20), S2)) ∧ MS S' 20 (rfl_ l 0) ∧ FR [20] [20] [] S S'
  | 0, k, S, _, _, _, h2 => absurd h2 (by omega)
  | n + 1, k, S, h, hm, h1, h2 => by
    have h24 := h.1
    unfold f_X8_reflect_33
    cases k with
    | zero =>
      rw [if_pos (by decide)]
      exact ⟨S, rfl, hm, FR.rf _ _ _ S⟩
    | succ k =>
      have hle := hl.1.le_last (gd_mem (show k < l.length by omega))
      rw [show nI (k + 1) - (1 : Int32) = nI k from nI_pred k, if_neg (nI_pos (by omega)), h.gr (by omega), oB_s, h.at (show k < l.length by omega), oB_s, z_sub hle]
      obtain ⟨S1, e1, m1, f1⟩ := hm.push (by rw [rf_len]; omega) (l.getD (l.length - 1) 0 - l.getD k 0)
      rw [← rf_succ (show k < l.length by omega)] at m1
      rw [e1, oV_s, oL_s, z_m1]
      obtain ⟨S2, e2, m2, f2⟩ := rfc_l (to := to) hl hi n k S1 (h.fr f1 (by simp; omega) (by simp; omega)) m1 (by omega) (by omega)
      exact ⟨S2, e2, m2, f1.tr f2⟩
theorem rfm_l {t : (Nat → List Nat) × Nat} {p : List ((Nat → List Nat) × Nat)} (ht : OKt t) {v to : Nat} (hv : v < 4) (hto : to < 4) {S0 : ST} : ∀ (n k : Nat) (S : ST), RepM S t p → MW S (rv (fun i => (t.1 v).getD ((t.1 v).length - 1) 0 - (t.1 v).getD i 0) k) → FR [50, 52] AMo [] (sI S0 51 0) S → k ≤ (t.1 v).length → (t.1 v).length < n + k → MO (f_X9_reflect_38 n S (nI v) (nI to) (nI k)) S0 0 (nI (rfl_ (t.1 v) 0).length) (put4 t to (rfl_ (t.1 v) 0) t.2) p
  | 0, k, S, _, _, _, _, h2 => absurd h2 (by omega)
  | n + 1, k, S, h, hw, hf, h1, h2 => by
    have hok := ht.1 v hv
    have h24 := hok.2.1
    have hb : ∀ k, k ≤ (t.1 v).length → ∀ x, x ∈ rv (fun i => (t.1 v).getD ((t.1 v).length - 1) 0 - (t.1 v).getD i 0) k → x ≤ 2000 := fun k hk x hx => by
      obtain ⟨i, hi, e⟩ := rv_mem.mp hx
      have := hok.le (show (t.1 v).length - 1 < (t.1 v).length by omega)
      omega
    unfold f_X9_reflect_38
    rw [X9_many h.1 hv, oB_s]
    by_cases hk : k = (t.1 v).length
    · rw [hk, if_pos (nI_le (Nat.le_refl _) (by omega))]
      rw [hk] at hw
      have e : srt (rv (fun i => (t.1 v).getD ((t.1 v).length - 1) 0 - (t.1 v).getD i 0) (t.1 v).length) = rfl_ (t.1 v) 0 := srt_ext (srt_srt _) (rf_srt hok.1) (fun x => by
        rw [srt_mem (hb _ (Nat.le_refl _)), rv_mem, rf_mem]
        constructor
        · rintro ⟨i, hi, e⟩; exact ⟨_, gd_mem hi, e⟩
        · rintro ⟨y, hy, e⟩
          obtain ⟨i, hi, q⟩ := mem_gd hy
          exact ⟨i, hi, by rw [e, ← q]⟩)
      have hmm := hw.fin (hb _ (Nat.le_refl _))
      rw [e] at hmm
      exact MO_put h hmm hto hf _ (fun S2 _ => rfl)
    · have hk : k < (t.1 v).length := by omega
      have hle := hok.1.le_last (gd_mem hk)
      have hl2 := hok.le (show (t.1 v).length - 1 < (t.1 v).length by omega)
      rw [if_neg (nI_ge hk (by omega)), X9_many h.1 hv, oB_s, show nI (t.1 v).length - (1 : Int32) = nI ((t.1 v).length - 1) from z_sub (b := 1) (by omega), X9_markAt h.1 hv (by omega), oB_s, X9_markAt h.1 hv hk, oB_s, z_sub hle]
      obtain ⟨S1, e1, w1, f1⟩ := hw.comes (fun x hx => by have := hb k (by omega) x hx; omega) (by rw [rv_len]; omega) (v := (t.1 v).getD ((t.1 v).length - 1) 0 - (t.1 v).getD k 0) (by omega)
      rw [e1, oV_s, oL_s, nI_1]
      exact rfm_l ht hv hto n (k + 1) S1 (h.fr f1 (by simp) (by simp) (by simp)) w1 (hf.tr (f1.wk (by simp) (by simp [AMo]) (by simp))) (by omega) (by omega)
theorem J_reflect {S : ST} (h : INV S) (a b : Int32) : ∃ S', g_reflect S a b = some S' ∧ INV S' := by
  obtain ⟨t, p, hc, hm, hu, ht, hp⟩ := h
  show ∃ S', gI (oY (f_X8_reflect S a b) [(1, 1)] kI) (fun S1 => f_X9_reflect S1 a b) = some S' ∧ INV S'
  rcases set_or a with hb | ⟨v, hv, rfl⟩
  · refine gI_thr (n := 1) (c := 1) (r := 0) (by decide) (by decide) rfl hm ht hp ⟨S, ?_, hc, hu, FC.rf S⟩ (fun S1 h1 => ⟨0, MO_thr h1 0 ?_⟩)
    · unfold f_X8_reflect f_X8_reflect_0
      rw [X8_needSet_n S hb, oX_n S _ _ (by decide)]
    · unfold f_X9_reflect f_X9_reflect_0 f_X9_reflect_19 f_X9_reflect_20
      rw [X9_isSet_n S1 hb, oB_s, if_pos rfl, X9_ref1, oB_s, if_neg (by decide)]
  · rcases set_or b with hb | ⟨to, hto, rfl⟩
    · refine gI_thr (n := 1) (c := 1) (r := 0) (by decide) (by decide) rfl hm ht hp ⟨S, ?_, hc, hu, FC.rf S⟩ (fun S1 h1 => ⟨0, MO_thr h1 0 ?_⟩)
      · unfold f_X8_reflect f_X8_reflect_0
        rw [X8_needSet_y S hv, oX_0, X8_needSet_n S hb, oX_n S _ _ (by decide)]
      · unfold f_X9_reflect f_X9_reflect_0 f_X9_reflect_19 f_X9_reflect_20
        rw [X9_isSet_y S1 hv, oB_s, if_neg (by decide), X9_isSet_n S1 hb, oB_s, if_pos rfl, X9_ref1, oB_s, if_neg (by decide)]
    · have hok := ht.1 v hv
      have h24 := hok.2.1
      have hnew : MOK (rfl_ (t.1 v) 0) := ⟨rf_srt hok.1, by rw [rf_len]; omega, fun x hx => by
        obtain ⟨y, hy, e⟩ := rf_mem.mp hx
        obtain ⟨k, hk, _⟩ := mem_gd hy
        have := hok.le (show (t.1 v).length - 1 < (t.1 v).length by omega)
        omega⟩
      refine gI_ok [(1, 1)] (r := nI (rfl_ (t.1 v) 0).length) (t' := put4 t to (rfl_ (t.1 v) 0) t.2) (p' := t :: p.take 3) hm (ht.put hnew ht.2.1 ht.2.2) (OKp.push ht hp) ?_ (fun S1 h1 => ?_)
      · unfold f_X8_reflect f_X8_reflect_0
        obtain ⟨S1, q1, m1, f1⟩ := MS.empty S 20
        have hms : MS S1 v (t.1 v) := (hc.ms hv).fr f1 (by simp; omega) (by simp)
        obtain ⟨S2, q2, m2, f2⟩ := rfc_l (to := to) hok (show v < 20 by omega) FU (t.1 v).length S1 hms (by rw [show rfl_ (t.1 v) (t.1 v).length = [] by unfold rfl_; rw [List.drop_length]; rfl]; exact m1) (Nat.le_refl _) (by unfold FU; omega)
        have fall : FR [20] [20] [] S S2 := (f1.wk (by simp) (by simp) (by simp)).tr f2
        have hc1 : RepC S2 t p := hc.fr fall (by simp) (by simp)
        rw [X8_needSet_y S hv, oX_0, X8_needSet_y S hto, oX_0, oG_t (inB_n hv (by omega)), q1, oV_s, nI_clamp (show v < 2 ^ 31 by omega), oL_s, hms.2.1]
        have := CO_rep (S := S) (m := t.2) hc1 (hu.fr fall (by simp) (by simp) (by simp)) (FC.of fall (by simp) (by simp)) m2 hto (fun (S2 : ST) => some (0, (fi S2 20), S2)) (r := nI (rfl_ (t.1 v) 0).length) (fun S2 q => by rw [q.2.1])
        rw [← hc1.md, ← q2] at this
        exact this
      · obtain ⟨S2, q2, m2, f2⟩ := h1.sv
        obtain ⟨S3, q3, m3, f3⟩ := MW.begins S2
        unfold f_X9_reflect f_X9_reflect_0 f_X9_reflect_20
        rw [X9_isSet_y S1 hv, oB_s, if_neg (by decide), X9_isSet_y S1 hto, oB_s, if_neg (by decide), X9_refused0, oB_s, if_pos rfl, q2, oV_s, q3, oV_s]
        exact rfm_l ht hv hto FU 0 S3 (m2.fr f3 (by simp) (by simp) (by simp)) m3 (f2.tr (f3.wk (by simp) (by simp) (by simp))) (by omega) (by unfold FU; omega)
