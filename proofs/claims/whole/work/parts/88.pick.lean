/-! the reference's rows of places -/
def PK (S : ST) (r : List Nat) : Prop := r.length ≤ 24 ∧ ∀ k, k < r.length → ai S 35 k = nI (r.getD k 0)
theorem PK.fr {I A B : List Nat} {S S' : ST} {r : List Nat} (h : PK S r) (hf : FR I A B S S') (h1 : 35 ∉ A) : PK S' r := ⟨h.1, fun k hk => by rw [hf.2.1 35 h1]; exact h.2 k hk⟩
def rg (a : Nat) : Nat → List Nat
  | 0 => []
  | n + 1 => a :: rg (a + 1) n
theorem rg_len : ∀ (n a : Nat), (rg a n).length = n
  | 0, _ => rfl
  | n + 1, a => by show (rg (a + 1) n).length + 1 = _; rw [rg_len n]
theorem rg_gd : ∀ (n a k : Nat), k < n → (rg a n).getD k 0 = a + k
  | 0, _, k, h => absurd h (by omega)
  | n + 1, a, 0, _ => rfl
  | n + 1, a, k + 1, h => by
    show (rg (a + 1) n).getD k 0 = _
    rw [rg_gd n (a + 1) k (by omega)]
    omega
theorem gd_l {u w : List Nat} {k : Nat} (h : k < u.length) : (u ++ w).getD k 0 = u.getD k 0 := by
  rw [List.getD_eq_getElem?_getD, List.getD_eq_getElem?_getD, List.getElem?_append_left h]
theorem gd_r {u w : List Nat} {k : Nat} (h : u.length ≤ k) : (u ++ w).getD k 0 = w.getD (k - u.length) 0 := by
  rw [List.getD_eq_getElem?_getD, List.getD_eq_getElem?_getD, List.getElem?_append_right h]
/-- the next row of places up to h -/
def nx (h : Nat) : List Nat → Option (List Nat)
  | [] => none
  | a :: r => match nx h r with
    | some q => some (a :: q)
    | none => bif Nat.beq (a + r.length) h then none else some (rg (a + 1) (r.length + 1))
theorem nx_s {h a : Nat} {r q : List Nat} (e : nx h r = some q) : nx h (a :: r) = some (a :: q) := by
  show (match nx h r with
    | some q => some (a :: q)
    | none => bif Nat.beq (a + r.length) h then none else some (rg (a + 1) (r.length + 1))) = _
  rw [e]
theorem nx_t {h a : Nat} {r : List Nat} (e : nx h r = none) (g : a + r.length = h) : nx h (a :: r) = none := by
  show (match nx h r with
    | some q => some (a :: q)
    | none => bif Nat.beq (a + r.length) h then none else some (rg (a + 1) (r.length + 1))) = _
  rw [e]
  show (bif Nat.beq (a + r.length) h then none else some (rg (a + 1) (r.length + 1))) = _
  rw [show Nat.beq (a + r.length) h = true from Nat.beq_eq.mpr g]
  rfl
theorem nx_n {h a : Nat} {r : List Nat} (e : nx h r = none) (g : ¬ a + r.length = h) : nx h (a :: r) = some (rg (a + 1) (r.length + 1)) := by
  show (match nx h r with
    | some q => some (a :: q)
    | none => bif Nat.beq (a + r.length) h then none else some (rg (a + 1) (r.length + 1))) = _
  rw [e]
  show (bif Nat.beq (a + r.length) h then none else some (rg (a + 1) (r.length + 1))) = _
  rw [show Nat.beq (a + r.length) h = false from Bool.eq_false_iff.mpr (fun q => g (Nat.beq_eq.mp q))]
  rfl
theorem nx_app {h : Nat} {w q : List Nat} (e : nx h w = some q) : ∀ u : List Nat, nx h (u ++ w) = some (u ++ q)
  | [] => e
  | a :: u => nx_s (nx_app e u)
/-- a row of places from lo up to h that goes up, with room behind -/
def GR (h : Nat) : Nat → List Nat → Prop
  | _, [] => True
  | lo, a :: r => lo ≤ a ∧ a + r.length ≤ h ∧ GR h (a + 1) r
theorem GR_rg {h : Nat} : ∀ (n lo a : Nat), lo ≤ a → a + n ≤ h + 1 → GR h lo (rg a n)
  | 0, _, _, _, _ => trivial
  | n + 1, lo, a, h1, h2 => ⟨h1, by rw [rg_len]; omega, GR_rg n (a + 1) (a + 1) (Nat.le_refl _) (by omega)⟩
theorem GR_nx {h : Nat} : ∀ (r : List Nat) (lo : Nat) (q : List Nat), GR h lo r → nx h r = some q → GR h lo q ∧ q.length = r.length
  | [], lo, q, _, e => absurd e (by simp [nx])
  | a :: r, lo, q, g, e => by
    obtain ⟨g1, g2, g3⟩ := g
    cases hr : nx h r with
    | some w =>
      rw [nx_s hr] at e
      obtain ⟨k1, k2⟩ := GR_nx r (a + 1) w g3 hr
      rw [← Option.some.inj e]
      exact ⟨⟨g1, by rw [k2]; exact g2, k1⟩, by rw [List.length_cons, List.length_cons, k2]⟩
    | none =>
      by_cases c : a + r.length = h
      · rw [nx_t hr c] at e; exact absurd e (by simp)
      · rw [nx_n hr c] at e
        rw [← Option.some.inj e]
        exact ⟨GR_rg _ lo (a + 1) (by omega) (by omega), by rw [rg_len, List.length_cons]⟩
theorem GR_b {h : Nat} : ∀ (r : List Nat) (lo x : Nat), GR h lo r → x ∈ r → lo ≤ x ∧ x ≤ h
  | [], _, x, _, hx => absurd hx (by simp)
  | a :: r, lo, x, g, hx => by
    obtain ⟨g1, g2, g3⟩ := g
    rcases List.mem_cons.mp hx with q | q
    · rw [q]; omega
    · have := GR_b r (a + 1) x g3 q; omega
theorem GR_srt {h : Nat} : ∀ (r : List Nat) (lo : Nat), GR h lo r → Srt r
  | [], _, _ => List.Pairwise.nil
  | a :: r, lo, g => List.Pairwise.cons (fun x hx => by have := GR_b r (a + 1) x g.2.2 hx; omega) (GR_srt r (a + 1) g.2.2)
theorem GR_at {h : Nat} : ∀ (u : List Nat) (lo a : Nat) (w : List Nat), GR h lo (u ++ a :: w) → lo ≤ a ∧ a + w.length ≤ h
  | [], lo, a, w, g => ⟨g.1, g.2.1⟩
  | b :: u, lo, a, w, g => by
    have := GR_at u (b + 1) a w g.2.2
    have := g.1
    omega
theorem srt_snoc {w : List Nat} {x : Nat} (h : Srt w) (hlt : ∀ y, y ∈ w → y < x) : Srt (w ++ [x]) := by
  unfold Srt
  rw [List.pairwise_append]
  refine ⟨h, List.pairwise_singleton _ _, fun a ha b hb => ?_⟩
  rw [List.mem_singleton.mp hb]; exact hlt a ha
theorem pf_l {a m : Nat} (hm : m ≤ 24) : ∀ (n k : Nat) (S : ST), (∀ j, j < k → ai S 35 j = nI (a + j)) → k ≤ m → m < n + k → ∃ S', f_X9_picksFirst_2 n S (nI m) (nI a) (nI k) = some S' ∧ (∀ j, j < m → ai S' 35 j = nI (a + j)) ∧ FR [] [35] [] S S'
  | 0, k, S, _, _, h => absurd h (by omega)
  | n + 1, k, S, h, h1, h2 => by
    unfold f_X9_picksFirst_2
    by_cases hk : k = m
    · rw [hk, if_pos (nI_le (Nat.le_refl _) (by omega))]
      exact ⟨S, rfl, by rw [← hk]; exact h, FR.rf _ _ _ S⟩
    · rw [if_neg (nI_ge (show k < m by omega) (by omega)), oG_t (inB_n (show k < 24 by omega) (by omega)), oL_s, oL_s, nI_clamp (by omega), nI_1, nI_add]
      obtain ⟨S1, e1, q1, f1⟩ := pf_l (a := a) hm n (k + 1) (sA S 35 (upd (ai S 35) k (nI (a + k)))) (fun j hj => by
        rw [ai_sA_s]
        by_cases e : j = k
        · rw [e, pk_us]
        · rw [pk_un e]; exact h j (by omega)) (by omega) (by omega)
      exact ⟨S1, e1, q1, (FR.sA S 35 _).tr f1⟩
theorem X9_picksFirst (S : ST) {a m : Nat} (hm : m ≤ 24) : ∃ S', f_X9_picksFirst S (nI m) (nI a) = some S' ∧ PK S' (rg a m) ∧ FR [] [35] [] S S' := by
  obtain ⟨S1, e1, q1, f1⟩ := pf_l (a := a) hm FU 0 S (fun j hj => absurd hj (by omega)) (by omega) (by unfold FU; omega)
  exact ⟨S1, e1, ⟨by rw [rg_len]; exact hm, fun k hk => by rw [rg_len] at hk; rw [rg_gd m a k hk]; exact q1 k hk⟩, f1⟩
theorem pn51_l {q : List Nat} (hq : q.length ≤ 24) : ∀ (n j : Nat) (S : ST), 1 ≤ j → (∀ k, k < j → ai S 35 k = nI (q.getD k 0)) → (∀ i, j ≤ i → i < q.length → q.getD i 0 = q.getD (i - 1) 0 + 1) → j ≤ q.length → q.length < n + j → ∃ S', f_X9_picksNext_51 n S (nI q.length) (nI j) = some (1, S') ∧ PK S' q ∧ FR [] [35] [] S S'
  | 0, j, S, _, _, _, _, h => absurd h (by omega)
  | n + 1, j, S, h0, h, hs, h1, h2 => by
    unfold f_X9_picksNext_51
    by_cases hj : j = q.length
    · rw [hj, if_pos (nI_le (Nat.le_refl _) (by omega))]
      rw [hj] at h
      exact ⟨S, rfl, ⟨hq, h⟩, FR.rf _ _ _ S⟩
    · have hj : j < q.length := by omega
      rw [if_neg (nI_ge hj (by omega)), show nI j - (1 : Int32) = nI (j - 1) from z_sub (b := 1) (by omega), oG_t (inB_n (show j - 1 < 24 by omega) (by omega)), oG_t (inB_n (show j < 24 by omega) (by omega)), oL_s, oL_s, nI_clamp (by omega), nI_clamp (by omega), nI_1, h (j - 1) (by omega), nI_1, ← hs j (Nat.le_refl _) hj]
      obtain ⟨S1, e1, q1, f1⟩ := pn51_l hq n (j + 1) (sA S 35 (upd (ai S 35) j (nI (q.getD j 0)))) (by omega) (fun k hk => by
        rw [ai_sA_s]
        by_cases e : k = j
        · rw [e, pk_us]
        · rw [pk_un e]; exact h k (by omega)) (fun i hi hi2 => hs i (by omega) hi2) (by omega) (by omega)
      exact ⟨S1, e1, q1, (FR.sA S 35 _).tr f1⟩
theorem pn30 {S : ST} {u w : List Nat} {a : Nat} (h : PK S (u ++ a :: w)) : ∃ S', f_X9_picksNext_30 S (nI (u ++ a :: w).length) (nI u.length) = some (1, S') ∧ PK S' (u ++ rg (a + 1) (w.length + 1)) ∧ FR [] [35] [] S S' := by
  have hl : (u ++ a :: w).length = u.length + (w.length + 1) := by rw [List.length_append, List.length_cons]
  have hq : (u ++ rg (a + 1) (w.length + 1)).length = u.length + (w.length + 1) := by rw [List.length_append, rg_len]
  have h24 := h.1
  unfold f_X9_picksNext_30
  rw [if_pos (nI_pos' (by omega)), oG_t (inB_n (show u.length < 24 by omega) (by omega)), oG_t (inB_n (show u.length < 24 by omega) (by omega)), oL_s, oL_s, nI_clamp (by omega), nI_1, h.2 u.length (by omega), gd_r (Nat.le_refl _), Nat.sub_self, show (a :: w).getD 0 0 = a from rfl, nI_1]
  obtain ⟨S1, e1, q1, f1⟩ := pn51_l (q := u ++ rg (a + 1) (w.length + 1)) (by omega) FU (u.length + 1) (sA S 35 (upd (ai S 35) u.length (nI (a + 1)))) (by omega) (fun k hk => by
    rw [ai_sA_s]
    by_cases e : k = u.length
    · rw [e, pk_us, gd_r (Nat.le_refl _), rg_gd _ _ _ (by omega), Nat.sub_self]
    · rw [pk_un e, h.2 k (by omega), gd_l (by omega), gd_l (by omega)]) (fun i hi hi2 => by
      rw [gd_r (by omega), gd_r (by omega), rg_gd _ _ _ (by omega), rg_gd _ _ _ (by omega)]; omega) (by omega) (by unfold FU; omega)
  rw [hq] at e1
  rw [hl]
  exact ⟨S1, e1, q1, (FR.sA S 35 _).tr f1⟩
theorem pn4_l {h lo : Nat} (hh : h < 2 ^ 30) {S : ST} : ∀ (n : Nat) (u w : List Nat), PK S (u ++ w) → GR h lo (u ++ w) → nx h w = none → u.length < n → ∃ b S', f_X9_picksNext_4 n S (nI (u ++ w).length) (nI h) (nI u.length - 1) = some (b, S') ∧ ((nx h (u ++ w) = none ∧ b = 0 ∧ S' = S) ∨ ∃ q, nx h (u ++ w) = some q ∧ b = 1 ∧ PK S' q) ∧ FR [] [35] [] S S'
  | 0, u, w, _, _, _, hn => absurd hn (by omega)
  | n + 1, u, w, hp, hg, hw, hn => by
    unfold f_X9_picksNext_4
    by_cases hu : u = []
    · rw [hu, if_pos (show nI ([] : List Nat).length - 1 < 0 by decide)]
      unfold f_X9_picksNext_30
      rw [if_neg (show ¬ (0 : Int32) ≤ nI ([] : List Nat).length - 1 by decide)]
      exact ⟨0, S, rfl, Or.inl ⟨hw, rfl, rfl⟩, FR.rf _ _ _ S⟩
    · obtain ⟨v, a, e⟩ := l_last hu
      rw [e] at hp hg hn ⊢
      rw [List.append_assoc, show [a] ++ w = a :: w from rfl] at hp hg ⊢
      rw [List.length_append, List.length_singleton] at hn
      obtain ⟨ga, gb⟩ := GR_at v lo a w hg
      have h24 := hp.1
      have hl : (v ++ a :: w).length = v.length + (w.length + 1) := by rw [List.length_append, List.length_cons]
      have ha : ai S 35 v.length = nI a := by rw [hp.2 v.length (by omega), gd_r (Nat.le_refl _), Nat.sub_self]; rfl
      rw [show nI (v ++ [a]).length - 1 = nI v.length by rw [List.length_append, List.length_singleton]; exact nI_pred v.length]
      rw [if_neg (nI_pos (by omega)), oG_t (inB_n (show v.length < 24 by omega) (by omega)), nI_clamp (by omega), ha]
      rw [show nI h - (nI (v ++ a :: w).length - (1 : Int32) - nI v.length) = nI (h - w.length) by
        rw [hl, show nI (v.length + (w.length + 1)) - (1 : Int32) = nI (v.length + w.length) from nI_pred (v.length + w.length), z_sub (by omega), z_sub (by omega)]
        congr 1
        omega]
      by_cases c : a + w.length = h
      · rw [if_pos (show nI a = nI (h - w.length) by congr 1; omega), oL_s, z_m1]
        exact pn4_l hh n v (a :: w) hp hg (nx_t hw c) (by omega)
      · rw [if_neg (z_ne (show a < 2 ^ 31 by omega) (by omega) (by omega))]
        obtain ⟨S1, e1, q1, f1⟩ := pn30 hp
        exact ⟨1, S1, e1, Or.inr ⟨_, nx_app (nx_n hw c) v, rfl, q1⟩, f1⟩
theorem X9_picksNext {S : ST} {r : List Nat} {h lo : Nat} (hh : h < 2 ^ 30) (hp : PK S r) (hg : GR h lo r) : ∃ b S', f_X9_picksNext S (nI r.length) (nI h) = some (b, S') ∧ ((nx h r = none ∧ b = 0 ∧ S' = S) ∨ ∃ q, nx h r = some q ∧ b = 1 ∧ PK S' q) ∧ FR [] [35] [] S S' := by
  have h24 := hp.1
  have := pn4_l (lo := lo) hh (S := S) FU r [] (by rw [List.append_nil]; exact hp) (by rw [List.append_nil]; exact hg) rfl (by unfold FU; omega)
  rw [List.append_nil] at this
  exact this
theorem MM.comes_last {S : ST} {w : List Nat} {x : Nat} (h : MM S w) (hs : Srt w) (hlt : ∀ y, y ∈ w → y < x) (hx : x < 2 ^ 31) (hl : w.length < 24) : ∃ S', f_X9_comes S (nI x) = some S' ∧ MM S' (w ++ [x]) ∧ FR [52] [32] [] S S' := by
  obtain ⟨S1, l1, e1, m1, s1, q1, f1⟩ := h.comes hs (fun y hy => by have := hlt y hy; omega) hx (Or.inr hl)
  have : l1 = w ++ [x] := srt_ext s1 (srt_snoc hs hlt) (fun y => by
    rw [q1 y, List.mem_append, List.mem_singleton]
    exact Or.comm)
  rw [this] at m1
  exact ⟨S1, e1, m1, f1⟩
theorem mk_l {r : List Nat} (hr : r.length ≤ 22) (hs : Srt (0 :: r)) (hb : ∀ x, x ∈ r → x < 2 ^ 31) : ∀ (n k : Nat) (S : ST), PK S r → MM S (0 :: r.take k) → k ≤ r.length → r.length < n + k → ∃ S', f_X9_makes_11 n S (nI r.length) (nI k) = some S' ∧ MM S' (0 :: r) ∧ FR [52] [32] [] S S'
  | 0, k, S, _, _, _, h => absurd h (by omega)
  | n + 1, k, S, hp, hm, h1, h2 => by
    unfold f_X9_makes_11
    by_cases hk : k = r.length
    · rw [hk, if_pos (nI_le (Nat.le_refl _) (by omega))]
      rw [hk, List.take_length] at hm
      exact ⟨S, rfl, hm, FR.rf _ _ _ S⟩
    · have hk : k < r.length := by omega
      rw [if_neg (nI_ge hk (by omega)), oG_t (inB_n (show k < 24 by omega) (by omega)), nI_clamp (by omega), hp.2 k hk]
      have hsk : Srt (0 :: r.take (k + 1)) := List.Pairwise.sublist (List.Sublist.cons_cons 0 (List.take_sublist (k + 1) r)) hs
      rw [tk_succ hk, ← List.cons_append] at hsk
      have hap := List.pairwise_append.mp hsk
      have hlt : (0 :: r.take k).length < 24 := by rw [List.length_cons, List.length_take]; omega
      obtain ⟨S1, e1, m1, f1⟩ := hm.comes_last hap.1 (fun y hy => hap.2.2 y hy _ (List.mem_singleton.mpr rfl)) (hb _ (gd_mem hk)) hlt
      rw [e1, oV_s, oL_s, nI_1]
      rw [List.cons_append, ← tk_succ hk] at m1
      obtain ⟨S2, e2, m2, f2⟩ := mk_l hr hs hb n (k + 1) S1 (hp.fr f1 (by simp)) m1 (by omega) (by omega)
      exact ⟨S2, e2, m2, f1.tr f2⟩
theorem X9_makes {S : ST} {r : List Nat} {h : Nat} (hh : h < 2 ^ 30) (hp : PK S r) (hg : GR h 1 r) (hr : r.length ≤ 22) : ∃ S', f_X9_makes S (nI r.length) = some S' ∧ MM S' (0 :: r) ∧ Srt (0 :: r) ∧ FR [52] [32] [] S S' := by
  have hs : Srt (0 :: r) := List.Pairwise.cons (fun x hx => by have := GR_b r 1 x hg hx; omega) (GR_srt r 1 hg)
  obtain ⟨S1, e1, m1, f1⟩ := MM.begins S
  obtain ⟨S2, e2, m2, f2⟩ := m1.comes_last List.Pairwise.nil (x := 0) (fun y hy => absurd hy (by simp)) (by omega) (by decide)
  obtain ⟨S3, e3, m3, f3⟩ := mk_l hr hs (fun x hx => by have := GR_b r 1 x hg hx; omega) FU 0 S2 ((hp.fr f1 (by simp)).fr f2 (by simp)) m2 (by omega) (by unfold FU; omega)
  refine ⟨S3, ?_, m3, hs, (f1.wk (by simp) (by simp) (by simp)).tr (f2.tr f3)⟩
  unfold f_X9_makes f_X9_makes_0
  rw [e1, oV_s, show f_X9_comes S1 0 = some S2 from e2, oV_s]
  exact e3
