/-! a number that says whether something holds -/
def BI (r : Int32) (P : Prop) : Prop := (P ∧ r = 1) ∨ (¬ P ∧ r = 0)
theorem BI.t {P : Prop} (h : P) : BI 1 P := Or.inl ⟨h, rfl⟩
theorem BI.f {P : Prop} (h : ¬ P) : BI 0 P := Or.inr ⟨h, rfl⟩
theorem BI.eq {r r' : Int32} {P Q : Prop} (h : BI r P) (h' : BI r' Q) (e : P ↔ Q) : r = r' := by
  rcases h with ⟨p, a⟩ | ⟨p, a⟩ <;> rcases h' with ⟨q, b⟩ | ⟨q, b⟩
  · rw [a, b]
  · exact absurd (e.mp p) q
  · exact absurd (e.mpr q) p
  · rw [a, b]
theorem BI.z {r : Int32} {P : Prop} (h : BI r P) : r = 0 ↔ ¬ P := by
  rcases h with ⟨p, a⟩ | ⟨p, a⟩
  · rw [a]; exact ⟨fun e => absurd e (by decide), fun e => absurd p e⟩
  · rw [a]; exact ⟨fun _ => p, fun _ => rfl⟩
theorem BI.cg {r : Int32} {P Q : Prop} (h : BI r P) (e : P ↔ Q) : BI r Q := by
  rcases h with ⟨p, a⟩ | ⟨p, a⟩
  · exact Or.inl ⟨e.mp p, a⟩
  · exact Or.inr ⟨fun q => p (e.mpr q), a⟩
theorem Srt.lt {l : List Nat} (h : Srt l) {j a : Nat} (hj : j < a) (ha : a < l.length) : l.getD j 0 < l.getD a 0 := by
  rw [List.getD_eq_getElem?_getD, List.getD_eq_getElem?_getD, List.getElem?_eq_getElem ha, List.getElem?_eq_getElem (by omega)]
  exact List.pairwise_iff_getElem.mp h j a (by omega) ha hj
theorem gd_mem {l : List Nat} {k : Nat} (h : k < l.length) : l.getD k 0 ∈ l := by
  rw [List.getD_eq_getElem?_getD, List.getElem?_eq_getElem h]
  exact List.getElem_mem h
theorem mem_gd {l : List Nat} {v : Nat} (h : v ∈ l) : ∃ k, k < l.length ∧ l.getD k 0 = v := by
  obtain ⟨k, hk, e⟩ := List.mem_iff_getElem.mp h
  exact ⟨k, hk, by rw [List.getD_eq_getElem?_getD, List.getElem?_eq_getElem hk]; exact e⟩
theorem dr_c {l : List Nat} {k : Nat} (h : k < l.length) : l.drop k = l.getD k 0 :: l.drop (k + 1) := by
  rw [List.drop_eq_getElem_cons h, List.getD_eq_getElem?_getD, List.getElem?_eq_getElem h]
  rfl
/-- a set of marks as the document has it -/
def MOK (l : List Nat) : Prop := Srt l ∧ l.length ≤ 24 ∧ ∀ v, v ∈ l → v ≤ 2000
/-- the differences of a set, the latest first -/
def dif1 (l : List Nat) (a : Nat) : Nat → List Nat
  | 0 => []
  | j + 1 => (l.getD a 0 - l.getD j 0) :: dif1 l a j
def difs (l : List Nat) : Nat → List Nat
  | 0 => []
  | a + 1 => dif1 l a a ++ difs l a
def Ds (l : List Nat) : List Nat := difs l l.length
theorem dif1_mem {l : List Nat} {a v : Nat} : ∀ {j : Nat}, v ∈ dif1 l a j ↔ ∃ x, x < j ∧ v = l.getD a 0 - l.getD x 0
  | 0 => by simp [dif1]
  | j + 1 => by
    show v ∈ (l.getD a 0 - l.getD j 0) :: dif1 l a j ↔ _
    rw [List.mem_cons, dif1_mem]
    constructor
    · rintro (e | ⟨x, hx, e⟩)
      · exact ⟨j, by omega, e⟩
      · exact ⟨x, by omega, e⟩
    · rintro ⟨x, hx, e⟩
      by_cases hxj : x = j
      · rw [hxj] at e; exact Or.inl e
      · exact Or.inr ⟨x, by omega, e⟩
theorem difs_mem {l : List Nat} {v : Nat} : ∀ {a : Nat}, v ∈ difs l a ↔ ∃ y x, y < a ∧ x < y ∧ v = l.getD y 0 - l.getD x 0
  | 0 => by simp [difs]
  | a + 1 => by
    show v ∈ dif1 l a a ++ difs l a ↔ _
    rw [List.mem_append, dif1_mem, difs_mem]
    constructor
    · rintro (⟨x, hx, e⟩ | ⟨y, x, hy, hx, e⟩)
      · exact ⟨a, x, by omega, hx, e⟩
      · exact ⟨y, x, by omega, hx, e⟩
    · rintro ⟨y, x, hy, hx, e⟩
      by_cases hya : y = a
      · rw [hya] at e hx; exact Or.inl ⟨x, hx, e⟩
      · exact Or.inr ⟨y, x, by omega, hx, e⟩
theorem MOK.d {l : List Nat} (h : MOK l) {a j : Nat} (hj : j < a) (ha : a < l.length) : l.getD j 0 < l.getD a 0 ∧ l.getD a 0 ≤ 2000 := ⟨h.1.lt hj ha, h.2.2 _ (gd_mem ha)⟩
theorem MOK.le {l : List Nat} (h : MOK l) {a : Nat} (ha : a < l.length) : l.getD a 0 ≤ 2000 := h.2.2 _ (gd_mem ha)
theorem Ds_b {l : List Nat} (h : MOK l) {v : Nat} (hv : v ∈ Ds l) : 1 ≤ v ∧ v ≤ 2000 := by
  obtain ⟨y, x, hy, hx, e⟩ := difs_mem.mp hv
  have := h.d hx hy
  omega
def flg (P : Prop) [Decidable P] : Int32 := if P then 1 else 0
theorem flg_BI (P : Prop) [Decidable P] : BI (flg P) P := by
  unfold flg
  by_cases h : P
  · rw [if_pos h]; exact BI.t h
  · rw [if_neg h]; exact BI.f h
theorem ndc {v : Nat} {s : List Nat} : (v :: s).Nodup ↔ v ∉ s ∧ s.Nodup := List.nodup_cons
theorem SP.m24 {v i : Nat} {l : List Nat} (hi : i < 24) (hl : MOK l) (k14 : ST → Nat → Nat → Int32 → Option ST) {a : Nat} (ha : a < l.length) : ∀ (n j : Nat) (S : ST), MS S i l → BR S (v + 1) (dif1 l a j ++ difs l a) → BI (fi S (40 + v)) (dif1 l a j ++ difs l a).Nodup → j ≤ a → a < n + j → ∃ S', f_X3_measure_24 k14 n S v i (nI a) (nI j) = k14 S' v i (nI (a + 1)) ∧ BR S' (v + 1) (difs l (a + 1)) ∧ BI (fi S' (40 + v)) (difs l (a + 1)).Nodup ∧ FR [40 + v] [] [v + 1] S S'
  | 0, j, S, _, _, _, _, h2 => absurd h2 (by omega)
  | n + 1, j, S, hm, hb, hd, h1, h2 => by
    have h24 := hl.2.1
    unfold f_X3_measure_24 f_X3_measure_59
    by_cases hj : j = a
    · rw [hj, if_pos (nI_le (Nat.le_refl _) (by omega)), oL_s, nI_1]
      rw [hj] at hb hd
      exact ⟨S, rfl, hb, hd, FR.rf _ _ _ S⟩
    · have hj : j < a := by omega
      obtain ⟨q1, q2⟩ := hl.d hj ha
      rw [if_neg (nI_ge hj (by omega)), hm.at ha, oB_s, hm.at (by omega), oB_s, oL_s, z_sub (by omega)]
      have hcons : (l.getD a 0 - l.getD j 0) :: (dif1 l a j ++ difs l a) = dif1 l a (j + 1) ++ difs l a := rfl
      rw [hb.has (by omega), oB_s]
      generalize hdd : l.getD a 0 - l.getD j 0 = d at *
      have hd2000 : d ≤ 2000 := by omega
      by_cases hin : d ∈ dif1 l a j ++ difs l a
      · rw [if_pos hin, if_neg (by decide), oL_s]
        have hb1 : BR (sI S (40 + v) 0) (v + 1) (dif1 l a j ++ difs l a) := hb.fr (FR.sI S _ _) (by simp)
        obtain ⟨S1, e1, b1, f1⟩ := hb1.put hd2000
        rw [e1, oV_s, oL_s, nI_1]
        rw [hcons] at b1
        have f1' := (FR.sI S (40 + v) 0).wk (I' := [40 + v]) (A' := []) (B' := [v + 1]) (by simp) (by simp) (by simp) |>.tr (f1.wk (by simp) (by simp) (by simp))
        obtain ⟨S2, e2, b2, d2, f2⟩ := SP.m24 hi hl k14 ha n (j + 1) S1 (hm.fr f1' (by simp; omega) (by simp)) b1 (by
          rw [f1.1 _ (by simp), fi_sI_s, ← hcons]
          exact BI.f (fun q => (ndc.mp q).1 hin)) (by omega) (by omega)
        exact ⟨S2, e2, b2, d2, f1'.tr f2⟩
      · rw [if_neg hin, if_pos rfl]
        obtain ⟨S1, e1, b1, f1⟩ := hb.put hd2000
        rw [e1, oV_s, oL_s, nI_1]
        rw [hcons] at b1
        have f1' := f1.wk (I' := [40 + v]) (A' := []) (B' := [v + 1]) (by simp) (by simp) (by simp)
        obtain ⟨S2, e2, b2, d2, f2⟩ := SP.m24 hi hl k14 ha n (j + 1) S1 (hm.fr f1' (by simp; omega) (by simp)) b1 (by
          rw [f1.1 _ (by simp), ← hcons]
          exact hd.cg ⟨fun q => ndc.mpr ⟨hin, q⟩, fun q => (ndc.mp q).2⟩) (by omega) (by omega)
        exact ⟨S2, e2, b2, d2, f1'.tr f2⟩
theorem SP.m14 {v i : Nat} {l : List Nat} (hi : i < 24) (hl : MOK l) : ∀ (n a : Nat) (S : ST), MS S i l → BR S (v + 1) (difs l a) → BI (fi S (40 + v)) (difs l a).Nodup → a ≤ l.length → l.length < n + a → ∃ S', f_X3_measure_14 n S v i (nI a) = some S' ∧ BR S' (v + 1) (Ds l) ∧ BI (fi S' (40 + v)) (Ds l).Nodup ∧ FR [40 + v] [] [v + 1] S S'
  | 0, a, S, _, _, _, _, h2 => absurd h2 (by omega)
  | n + 1, a, S, hm, hb, hd, h1, h2 => by
    have h24 := hl.2.1
    unfold f_X3_measure_14
    rw [hm.2.1]
    by_cases ha : a = l.length
    · rw [ha, if_pos (nI_le (Nat.le_refl _) (by omega))]
      rw [ha] at hb hd
      exact ⟨S, rfl, hb, hd, FR.rf _ _ _ S⟩
    · have ha : a < l.length := by omega
      rw [if_neg (nI_ge ha (by omega))]
      obtain ⟨S1, e1, b1, d1, f1⟩ := SP.m24 hi hl (f_X3_measure_14 n) ha FU 0 S hm hb hd (by omega) (by unfold FU; omega)
      obtain ⟨S2, e2, b2, d2, f2⟩ := SP.m14 hi hl n (a + 1) S1 (hm.fr f1 (by simp; omega) (by simp)) b1 d1 (by omega) (by omega)
      exact ⟨S2, Eq.trans e1 e2, b2, d2, f1.tr f2⟩
theorem SP.measure {S : ST} {v i : Nat} {l : List Nat} (hi : i < 24) (hl : MOK l) (hm : MS S i l) : ∃ S', f_X3_measure S v i = some S' ∧ BR S' (v + 1) (Ds l) ∧ BI (fi S' (40 + v)) (Ds l).Nodup ∧ FR [40 + v] [] [v + 1] S S' := by
  obtain ⟨S1, e1, b1, f1⟩ := BR.wipe S (v + 1)
  have h24 := hl.2.1
  have f2 := (f1.wk (I' := [40 + v]) (A' := []) (B' := [v + 1]) (by simp) (by simp) (by simp)).tr ((FR.sI S1 (40 + v) 1).wk (by simp) (by simp) (by simp))
  unfold f_X3_measure f_X3_measure_0
  rw [e1, oV_s, oL_s]
  have hm2 : MS (sI S1 (40 + v) 1) i l := hm.fr f2 (by simp; omega) (by simp)
  have hb2 : BR (sI S1 (40 + v) 1) (v + 1) [] := b1.fr (FR.sI S1 _ _) (by simp)
  have hd2 : BI (fi (sI S1 (40 + v) 1) (40 + v)) ([] : List Nat).Nodup := by rw [fi_sI_s]; exact BI.t List.nodup_nil
  by_cases h0 : l.length = 0
  · refine ⟨sI S1 (40 + v) 1, ?_, ?_, ?_, f2⟩
    · unfold FU f_X3_measure_14
      rw [hm2.2.1, h0, if_pos (by decide)]
    · unfold Ds; rw [h0]; exact hb2
    · unfold Ds; rw [h0]; exact hd2
  · obtain ⟨S3, e3, b3, d3, f3⟩ := SP.m14 (v := v) hi hl FU 1 _ hm2 (by simpa [difs, dif1] using hb2) (by simpa [difs, dif1] using hd2) (by omega) (by unfold FU; omega)
    exact ⟨S3, e3, b3, d3, f2.tr f3⟩
/-- how far the numbers 1, 2 .. are all there -/
def run (s : List Nat) : Nat → Nat → Nat
  | 0, n => n
  | f + 1, n => if n + 1 ∈ s then run s f (n + 1) else n
theorem SP.unb_l {S : ST} {v : Nat} {s : List Nat} (hb : BR S (v + 1) s) : ∀ (f n k : Nat), n + f = 2000 → f < k → f_X3_unbroken_2 k S v (nI n) = some (nI (run s f n), S)
  | f, n, 0, h1, h2 => absurd h2 (by omega)
  | 0, n, k + 1, h1, h2 => by
    unfold f_X3_unbroken_2 f_X3_unbroken_28
    rw [if_pos (show (2000 : Int32) ≤ nI n by rw [show n = 2000 by omega]; decide)]
    rfl
  | f + 1, n, k + 1, h1, h2 => by
    unfold f_X3_unbroken_2 f_X3_unbroken_28
    rw [if_neg (show ¬ (2000 : Int32) ≤ nI n from nI_ge (b := 2000) (by omega) (by decide)), nI_1, hb.has (by omega), oB_s]
    unfold run
    by_cases h : n + 1 ∈ s
    · rw [if_pos h, if_neg (by decide), oL_s, if_pos h]
      exact SP.unb_l hb f (n + 1) k (by omega) (by omega)
    · rw [if_neg h, if_pos rfl, if_neg h]
theorem SP.unbroken {S : ST} {v : Nat} {s : List Nat} (hb : BR S (v + 1) s) : f_X3_unbroken S v = some (nI (run s 2000 0), S) := by
  unfold f_X3_unbroken f_X3_unbroken_0
  exact SP.unb_l hb 2000 0 FU rfl (by unfold FU; omega)
theorem SP.free_l {S : ST} {v i : Nat} {s l : List Nat} (hb : BR S (v + 1) s) (hm : MS S i l) {x : Nat} (hx : x ≤ 2000) (hl : ∀ y, y ∈ l → y < x) : ∀ (n k : Nat), k ≤ l.length → l.length < n + k → ∃ r, f_X3_isFree_2 n S v i (nI x) (nI k) = some (r, S) ∧ BI r (∀ y, y ∈ l.drop k → x - y ∉ s)
  | 0, k, h1, h2 => absurd h2 (by omega)
  | n + 1, k, h1, h2 => by
    have h24 := hm.1
    unfold f_X3_isFree_2
    rw [hm.2.1]
    by_cases hk : k = l.length
    · rw [hk, if_pos (nI_le (Nat.le_refl _) (by omega)), List.drop_length]
      exact ⟨1, rfl, BI.t (fun y hy => absurd hy (by simp))⟩
    · have hk : k < l.length := by omega
      have hy := hl _ (gd_mem hk)
      rw [if_neg (nI_ge hk (by omega)), hm.at hk, oB_s, z_sub (by omega), hb.has (by omega), oB_s, dr_c hk]
      by_cases hin : x - l.getD k 0 ∈ s
      · rw [if_pos hin, if_neg (by decide)]
        exact ⟨0, rfl, BI.f (fun q => q _ List.mem_cons_self hin)⟩
      · rw [if_neg hin, if_pos rfl, oL_s, nI_1]
        obtain ⟨r, e, hr⟩ := SP.free_l hb hm hx hl n (k + 1) (by omega) (by omega)
        refine ⟨r, e, hr.cg ⟨fun q y hy => ?_, fun q y hy => q y (List.mem_cons_of_mem _ hy)⟩⟩
        rcases List.mem_cons.mp hy with e | e
        · rw [e]; exact hin
        · exact q y e
theorem SP.isFree {S : ST} {v i : Nat} {s l : List Nat} (hb : BR S (v + 1) s) (hm : MS S i l) {x : Nat} (hx : x ≤ 2000) (hl : ∀ y, y ∈ l → y < x) : ∃ r, f_X3_isFree S v i (nI x) = some (r, S) ∧ BI r (∀ y, y ∈ l → x - y ∉ s) := by
  have h24 := hm.1
  exact SP.free_l hb hm hx hl FU 0 (by omega) (by unfold FU; omega)
theorem SP.note_l {v i : Nat} {l : List Nat} {x : Nat} (hx : x ≤ 2000) (hl : ∀ y, y ∈ l → y < x) : ∀ (n k : Nat) (S : ST) (s : List Nat), BR S (v + 1) s → MS S i l → k ≤ l.length → l.length < n + k → ∃ S', f_X3_note_2 n S v i (nI x) (nI k) = some S' ∧ BR S' (v + 1) (((l.drop k).map (fun y => x - y)).reverse ++ s) ∧ FR [] [] [v + 1] S S'
  | 0, k, S, s, hb, hm, h1, h2 => absurd h2 (by omega)
  | n + 1, k, S, s, hb, hm, h1, h2 => by
    have h24 := hm.1
    unfold f_X3_note_2
    rw [hm.2.1]
    by_cases hk : k = l.length
    · rw [hk, if_pos (nI_le (Nat.le_refl _) (by omega)), List.drop_length]
      exact ⟨S, rfl, hb, FR.rf _ _ _ S⟩
    · have hk : k < l.length := by omega
      have hy := hl _ (gd_mem hk)
      rw [if_neg (nI_ge hk (by omega)), hm.at hk, oB_s, z_sub (by omega)]
      obtain ⟨S1, e1, b1, f1⟩ := hb.put (k := x - l.getD k 0) (by omega)
      rw [e1, oV_s, oL_s, nI_1, dr_c hk]
      obtain ⟨S2, e2, b2, f2⟩ := SP.note_l hx hl n (k + 1) S1 _ b1 (hm.fr f1 (by simp) (by simp)) (by omega) (by omega)
      refine ⟨S2, e2, ?_, f1.tr f2⟩
      rw [List.map_cons, List.reverse_cons, List.append_assoc]
      exact b2
theorem SP.note {S : ST} {v i : Nat} {s l : List Nat} (hb : BR S (v + 1) s) (hm : MS S i l) {x : Nat} (hx : x ≤ 2000) (hl : ∀ y, y ∈ l → y < x) : ∃ S', f_X3_note S v i (nI x) = some S' ∧ BR S' (v + 1) (l.map (fun y => x - y) ++ s) ∧ FR [] [] [v + 1] S S' := by
  have h24 := hm.1
  obtain ⟨S', e, b, f⟩ := SP.note_l hx hl FU 0 S s hb hm (by omega) (by unfold FU; omega)
  exact ⟨S', e, b.cg (fun y => by simp), f⟩
