/-! the tally of cyclic differences -/
def TL (S : ST) (L : List Nat) : Prop := ∀ d, d < 1000 → ai S 24 d = nI (L.count d)
theorem TL.fr {I A B : List Nat} {S S' : ST} {L : List Nat} (h : TL S L) (hf : FR I A B S S') (hA : 24 ∉ A) : TL S' L := fun d hd => by rw [hf.2.1 24 hA]; exact h d hd
theorem tfill_l : ∀ (n k : Nat) (S : ST), k ≤ 1000 → 1000 < n + k → (∀ j, j < k → ai S 24 j = 0) → ∃ S', f_J7_fill_53178_5 n S 0 (nI k) 1000 = some S' ∧ (∀ j, j < 1000 → ai S' 24 j = 0) ∧ FR [] [24] [] S S'
  | 0, k, S, h1, h2, _ => absurd h2 (by omega)
  | n + 1, k, S, h1, h2, hz => by
    unfold f_J7_fill_53178_5
    by_cases hk : k = 1000
    · rw [hk, if_pos (by decide)]
      exact ⟨S, rfl, by rw [hk] at hz; exact hz, FR.rf _ _ _ S⟩
    · have hk : k < 1000 := by omega
      rw [if_neg (show ¬ (1000 : Int32) ≤ nI k from nI_ge (b := 1000) hk (by decide)), oG_t (inB_n hk (by omega)), oL_s, oL_s, nI_1, nI_clamp (by omega)]
      obtain ⟨S', e, h0, hf⟩ := tfill_l n (k + 1) (sA S 24 (upd (ai S 24) k 0)) (by omega) (by omega) (fun j hj => by
        rw [ai_sA_s]
        by_cases hjk : j = k
        · rw [hjk, pk_us]
        · rw [pk_un hjk]; exact hz j (by omega))
      exact ⟨S', e, h0, (FR.sA S 24 _).tr hf⟩
theorem TL.wipe (S : ST) : ∃ S', f_X5_wipe S = some S' ∧ TL S' [] ∧ FR [] [24] [] S S' := by
  obtain ⟨S', e, h0, hf⟩ := tfill_l FU 0 S (by omega) (by unfold FU; omega) (fun j hj => absurd hj (by omega))
  refine ⟨S', ?_, fun d hd => by rw [h0 d hd]; rfl, hf⟩
  unfold f_X5_wipe f_X5_wipe_0 f_J7_fill_53178 f_J7_fill_53178_0
  rw [show f_J7_fill_53178_5 FU S 0 0 1000 = some S' from e, oV_s]
theorem X5_of (S : ST) {d : Nat} (hd : d < 1000) : f_X5_of S (nI d) = some (ai S 24 d, S) := by
  unfold f_X5_of f_X5_of_0 f_X5_of_20 f_X5_of_21
  rw [if_neg (nI_pos (by omega)), if_neg (show ¬ (1000 : Int32) ≤ nI d from nI_ge (b := 1000) hd (by decide)), oG_t (inB_n hd (by omega)), nI_clamp (by omega)]
theorem X5_bump (S : ST) {d : Nat} (hd : d < 1000) (x : Int32) : f_X5_bump S (nI d) x = some (ai S 24 d + x, sA S 24 (upd (ai S 24) d (ai S 24 d + x))) := by
  unfold f_X5_bump f_X5_bump_0 f_X5_bump_11
  rw [if_neg (nI_pos (by omega)), if_pos (show nI d < (1000 : Int32) from nI_lt (b := 1000) hd (by decide)), oG_t (inB_n hd (by omega)), oG_t (inB_n hd (by omega)), oL_s, oG_t (inB_n hd (by omega)), nI_clamp (by omega), ai_sA_s, pk_us]
theorem TL.bump {S : ST} {L : List Nat} (h : TL S L) {d : Nat} (hd : d < 1000) : ∃ S', f_X5_bump S (nI d) 1 = some (nI ((d :: L).count d), S') ∧ TL S' (d :: L) ∧ FR [] [24] [] S S' := by
  refine ⟨_, ?_, ?_, FR.sA S 24 (upd (ai S 24) d (ai S 24 d + 1))⟩
  · rw [X5_bump S hd, h d hd, nI_1, List.count_cons_self]
  · intro k hk
    rw [ai_sA_s]
    by_cases e : k = d
    · rw [e, pk_us, h d hd, nI_1, List.count_cons_self]
    · rw [pk_un e, h k hk, List.count_cons_of_ne (fun q => e q.symm)]
def cyc1 (l : List Nat) (m a : Nat) : Nat → List Nat
  | 0 => []
  | j + 1 => (m - (l.getD a 0 - l.getD j 0)) :: (l.getD a 0 - l.getD j 0) :: cyc1 l m a j
def cycs (l : List Nat) (m : Nat) : Nat → List Nat
  | 0 => []
  | a + 1 => cyc1 l m a a ++ cycs l m a
def Cs (l : List Nat) (m : Nat) : List Nat := cycs l m l.length
theorem TL.c17 {i m : Nat} {l : List Nat} (hl : MOK l) (hm2 : m ≤ 1000) (hlow : ∀ v, v ∈ l → v < m) (k6 : ST → Nat → Int32 → Int32 → Option ST) {a : Nat} (ha : a < l.length) (hi : i ≠ 24) : ∀ (n j : Nat) (S : ST), MS S i l → TL S (cyc1 l m a j ++ cycs l m a) → j ≤ a → a < n + j → ∃ S', f_X5_countCyclic_17 k6 n S i (nI m) (nI a) (nI j) = k6 S' i (nI m) (nI (a + 1)) ∧ TL S' (cycs l m (a + 1)) ∧ FR [] [24] [] S S'
  | 0, j, S, _, _, _, h2 => absurd h2 (by omega)
  | n + 1, j, S, hm, ht, h1, h2 => by
    have h24 := hl.2.1
    unfold f_X5_countCyclic_17
    by_cases hj : j = a
    · rw [hj, if_pos (nI_le (Nat.le_refl _) (by omega)), oL_s, nI_1]
      rw [hj] at ht
      exact ⟨S, rfl, ht, FR.rf _ _ _ S⟩
    · have hj : j < a := by omega
      obtain ⟨q1, q2⟩ := hl.d hj ha
      have q3 := hlow _ (gd_mem ha)
      rw [if_neg (nI_ge hj (by omega)), hm.at ha, oB_s, hm.at (by omega), oB_s, oL_s, z_sub (by omega)]
      have hcons : (m - (l.getD a 0 - l.getD j 0)) :: (l.getD a 0 - l.getD j 0) :: (cyc1 l m a j ++ cycs l m a) = cyc1 l m a (j + 1) ++ cycs l m a := rfl
      obtain ⟨S1, e1, t1, f1⟩ := ht.bump (d := l.getD a 0 - l.getD j 0) (by omega)
      rw [e1, oB_s, z_sub (by omega)]
      obtain ⟨S2, e2, t2, f2⟩ := t1.bump (d := m - (l.getD a 0 - l.getD j 0)) (by omega)
      rw [e2, oB_s, oL_s, nI_1]
      rw [hcons] at t2
      obtain ⟨S3, e3, t3, f3⟩ := TL.c17 hl hm2 hlow k6 ha hi n (j + 1) S2 (hm.fr (f1.tr f2) (by simp) (by simpa using hi)) t2 (by omega) (by omega)
      exact ⟨S3, e3, t3, (f1.tr f2).tr f3⟩
theorem TL.c6 {i m : Nat} {l : List Nat} (hl : MOK l) (hm2 : m ≤ 1000) (hlow : ∀ v, v ∈ l → v < m) (hi : i ≠ 24) : ∀ (n a : Nat) (S : ST), MS S i l → TL S (cycs l m a) → a ≤ l.length → l.length < n + a → ∃ S', f_X5_countCyclic_6 n S i (nI m) (nI a) = some S' ∧ TL S' (Cs l m) ∧ FR [] [24] [] S S'
  | 0, a, S, _, _, _, h2 => absurd h2 (by omega)
  | n + 1, a, S, hm, ht, h1, h2 => by
    have h24 := hl.2.1
    unfold f_X5_countCyclic_6
    rw [hm.2.1]
    by_cases ha : a = l.length
    · rw [ha, if_pos (nI_le (Nat.le_refl _) (by omega))]
      rw [ha] at ht
      exact ⟨S, rfl, ht, FR.rf _ _ _ S⟩
    · have ha : a < l.length := by omega
      rw [if_neg (nI_ge ha (by omega))]
      obtain ⟨S1, e1, t1, f1⟩ := TL.c17 hl hm2 hlow (f_X5_countCyclic_6 n) ha hi FU 0 S hm ht (by omega) (by unfold FU; omega)
      obtain ⟨S2, e2, t2, f2⟩ := TL.c6 hl hm2 hlow hi n (a + 1) S1 (hm.fr f1 (by simp) (by simpa using hi)) t1 (by omega) (by omega)
      exact ⟨S2, Eq.trans e1 e2, t2, f1.tr f2⟩
theorem TL.countCyclic {S : ST} {i m : Nat} {l : List Nat} (hl : MOK l) (hm2 : m ≤ 1000) (hlow : ∀ v, v ∈ l → v < m) (hi : i ≠ 24) (hm : MS S i l) : ∃ S', f_X5_countCyclic S i (nI m) = some S' ∧ TL S' (Cs l m) ∧ FR [] [24] [] S S' := by
  obtain ⟨S1, e1, t1, f1⟩ := TL.wipe S
  have h24 := hl.2.1
  have hm2' : MS S1 i l := hm.fr f1 (by simp) (by simpa using hi)
  unfold f_X5_countCyclic f_X5_countCyclic_0
  rw [e1, oV_s]
  by_cases h0 : l.length = 0
  · refine ⟨S1, ?_, ?_, f1⟩
    · unfold FU f_X5_countCyclic_6
      rw [hm2'.2.1, h0, if_pos (by decide)]
    · unfold Cs; rw [h0]; exact t1
  · obtain ⟨S2, e2, t2, f2⟩ := TL.c6 hl hm2 hlow hi FU 1 S1 hm2' t1 (by omega) (by unfold FU; omega)
    exact ⟨S2, e2, t2, f1.tr f2⟩
theorem cnt_lt {L : List Nat} (h : L.length < 2 ^ 31) (d : Nat) : L.count d < 2 ^ 31 := Nat.lt_of_le_of_lt List.count_le_length h
theorem cyc1_len (l : List Nat) (m a : Nat) : ∀ j, (cyc1 l m a j).length = 2 * j
  | 0 => rfl
  | j + 1 => by show (cyc1 l m a j).length + 1 + 1 = _; rw [cyc1_len l m a j]; omega
theorem cycs_len (l : List Nat) (m : Nat) : ∀ a, (cycs l m a).length ≤ 2 * a * a
  | 0 => Nat.le_refl _
  | a + 1 => by
    show (cyc1 l m a a ++ cycs l m a).length ≤ _
    rw [List.length_append, cyc1_len]
    have := cycs_len l m a
    have e : 2 * (a + 1) * (a + 1) = 2 * a * a + 4 * a + 2 := by
      rw [Nat.mul_assoc, Nat.mul_assoc, Nat.add_mul, Nat.one_mul, Nat.mul_add a a 1, Nat.mul_one]; generalize a * a = z; omega
    omega
theorem Cs_len {l : List Nat} (m : Nat) (h : l.length ≤ 24) : (Cs l m).length < 2 ^ 31 := by
  have h1 := cycs_len l m l.length
  have h2 : 2 * l.length * l.length ≤ 2 * 24 * 24 := Nat.mul_le_mul (by omega) h
  unfold Cs
  omega
theorem TL.atMost_l {S : ST} {L : List Nat} (h : TL S L) (hL : L.length < 2 ^ 31) {m : Nat} (hm : m ≤ 1000) : ∀ (n d : Nat), 1 ≤ d → d ≤ m → m < n + d → ∃ r, f_X5_isAtMost_2 n S 1 (nI m) (nI d) = some (r, S) ∧ BI r (∀ k, d ≤ k → k < m → L.count k < 2)
  | 0, d, _, h1, h2 => absurd h2 (by omega)
  | n + 1, d, h0, h1, h2 => by
    unfold f_X5_isAtMost_2
    by_cases hd : d = m
    · rw [hd, if_pos (nI_le (Nat.le_refl _) (by omega))]
      exact ⟨1, rfl, BI.t (fun k h1 h2 => absurd h1 (by omega))⟩
    · rw [if_neg (nI_ge (show d < m by omega) (by omega)), X5_of S (show d < 1000 by omega), oB_s, h d (by omega)]
      have hc := cnt_lt hL d
      by_cases h3 : L.count d ≤ 1
      · rw [if_pos (show nI (L.count d) ≤ (1 : Int32) from nI_le (b := 1) h3 (by decide)), oL_s, nI_1]
        obtain ⟨r, e, hr⟩ := TL.atMost_l h hL hm n (d + 1) (by omega) (by omega) (by omega)
        refine ⟨r, e, hr.cg ⟨fun q k k1 k2 => ?_, fun q k k1 k2 => q k (by omega) k2⟩⟩
        by_cases e : k = d
        · rw [e]; omega
        · exact q k (by omega) k2
      · rw [if_neg (show ¬ nI (L.count d) ≤ (1 : Int32) from nI_ge (a := 1) (by omega) hc)]
        exact ⟨0, rfl, BI.f (fun q => absurd (q d (Nat.le_refl _) (by omega)) (by omega))⟩
theorem TL.isAtMost {S : ST} {L : List Nat} (h : TL S L) (hL : L.length < 2 ^ 31) {m : Nat} (h2 : 2 ≤ m) (hm : m ≤ 1000) : ∃ r, f_X5_isAtMost S 1 (nI m) = some (r, S) ∧ BI r (∀ k, 1 ≤ k → k < m → L.count k < 2) :=
  TL.atMost_l h hL hm FU 1 (by omega) (by omega) (by unfold FU; omega)
theorem TL.level_l {S : ST} {L : List Nat} (h : TL S L) (hL : L.length < 2 ^ 31) {m : Nat} (hm : m ≤ 1000) : ∀ (n d : Nat), 1 ≤ d → d ≤ m → m < n + d → ∃ r, f_X5_isLevel_2 n S (nI m) (nI d) = some (r, S) ∧ BI r (∀ k, d ≤ k → k < m → L.count k = L.count 1)
  | 0, d, _, h1, h2 => absurd h2 (by omega)
  | n + 1, d, h0, h1, h2 => by
    unfold f_X5_isLevel_2
    by_cases hd : d = m
    · rw [hd, if_pos (nI_le (Nat.le_refl _) (by omega))]
      exact ⟨1, rfl, BI.t (fun k h1 h2 => absurd h1 (by omega))⟩
    · rw [if_neg (nI_ge (show d < m by omega) (by omega)), X5_of S (show d < 1000 by omega), oB_s, show f_X5_of S 1 = some (ai S 24 1, S) from X5_of S (d := 1) (by decide), oB_s, h d (by omega), h 1 (by decide)]
      have hc := cnt_lt hL d
      by_cases h3 : L.count d = L.count 1
      · rw [if_pos (by rw [h3]), oL_s, nI_1]
        obtain ⟨r, e, hr⟩ := TL.level_l h hL hm n (d + 1) (by omega) (by omega) (by omega)
        refine ⟨r, e, hr.cg ⟨fun q k k1 k2 => ?_, fun q k k1 k2 => q k (by omega) k2⟩⟩
        by_cases e : k = d
        · rw [e]; exact h3
        · exact q k (by omega) k2
      · rw [if_neg (z_ne hc (cnt_lt hL 1) h3)]
        exact ⟨0, rfl, BI.f (fun q => h3 (q d (Nat.le_refl _) (by omega)))⟩
theorem TL.isLevel {S : ST} {L : List Nat} (h : TL S L) (hL : L.length < 2 ^ 31) {m : Nat} (h2 : 2 ≤ m) (hm : m ≤ 1000) : ∃ r, f_X5_isLevel S (nI m) = some (r, S) ∧ BI r (∀ k, 2 ≤ k → k < m → L.count k = L.count 1) :=
  TL.level_l h hL hm FU 2 (by omega) (by omega) (by unfold FU; omega)
/-! the state and the ring of saved ones -/
theorem X2_take (S : ST) (i j : Nat) : ∃ S', f_X2_take S i j = some S' ∧ (∀ l, MS S j l → MS S' i l) ∧ FR [i] [i] [] S S' := by
  refine ⟨sI (sA S i (va_cpy (ai S j) (ai S i) 0 0 24)) i (fi S j), rfl, fun l h => ⟨h.1, ?_, ?_⟩, ?_⟩
  · rw [fi_sI_s]; exact h.2.1
  · intro k hk
    have := h.1
    rw [ai_sI, ai_sA_s, sb_cpy0 (by omega)]
    exact h.2.2 k hk
  · exact FR.tr ((FR.sA S i _).wk (by simp) (by simp) (by simp)) ((FR.sI _ i _).wk (by simp) (by simp) (by simp))
/-- the state number k holds four sets and a modulus -/
def hold (S : ST) (k : Nat) (t : (Nat → List Nat) × Nat) : Prop := (∀ v, v < 4 → MS S (4 * k + v) (t.1 v)) ∧ fi S (30 + k) = nI t.2
def four (k : Nat) : List Nat := [4 * k, 4 * k + 1, 4 * k + 2, 4 * k + 3]
theorem four_n {k j : Nat} : j ∉ four k ↔ j < 4 * k ∨ 4 * k + 3 < j := by
  unfold four
  simp
  omega
theorem four_i {k v : Nat} (h : v < 4) : 4 * k + v ∈ four k := by
  unfold four
  simp
  omega
theorem hold.fr {I A B : List Nat} {S S' : ST} {k : Nat} {t : (Nat → List Nat) × Nat} (h : hold S k t) (hf : FR I A B S S') (hI : ∀ j, j ∈ four k → j ∉ I) (hA : ∀ j, j ∈ four k → j ∉ A) (h30 : 30 + k ∉ I) : hold S' k t :=
  ⟨fun v hv => (h.1 v hv).fr hf (hI _ (four_i hv)) (hA _ (four_i hv)), by rw [hf.1 _ h30]; exact h.2⟩
theorem X4_take_l {i j : Nat} (hij : i ≠ j) (hi : i < 5) (hj : j < 5) : ∀ (n a : Nat) (S : ST), a ≤ 4 → 4 < n + a → ∃ S', f_X4_take_2 n S i j (nI a) = some S' ∧ (∀ v, a ≤ v → v < 4 → ∀ l, MS S (4 * j + v) l → MS S' (4 * i + v) l) ∧ (∀ v, v < a → ∀ l, MS S (4 * i + v) l → MS S' (4 * i + v) l) ∧ fi S' (30 + i) = fi S (30 + j) ∧ FR ((30 + i) :: four i) (four i) [] S S'
  | 0, a, S, h1, h2 => absurd h2 (by omega)
  | n + 1, a, S, h1, h2 => by
    unfold f_X4_take_2
    by_cases ha : a = 4
    · rw [if_pos (show (4 : Int32) ≤ nI a by rw [ha]; decide), oL_s]
      refine ⟨_, rfl, fun v v1 v2 => absurd v1 (by omega), fun v hv l hm => hm.fr (FR.sI S _ _) (by simp; omega) (by simp), fi_sI_s _ _ _, (FR.sI S _ _).wk (by simp) (by simp) (by simp)⟩
    · have ha : a < 4 := by omega
      rw [if_neg (show ¬ (4 : Int32) ≤ nI a from nI_ge (b := 4) ha (by decide)), oG_t (inB_n ha (by omega)), oG_t (inB_n ha (by omega)), nI_clamp (by omega)]
      obtain ⟨S1, e1, m1, f1⟩ := X2_take S (4 * i + a) (4 * j + a)
      rw [e1, oV_s, oL_s, nI_1]
      obtain ⟨S2, e2, p2, q2, r2, f2⟩ := X4_take_l hij hi hj n (a + 1) S1 (by omega) (by omega)
      have f1' := f1.wk (I' := (30 + i) :: four i) (A' := four i) (B' := []) (by intro x hx; rw [List.mem_singleton.mp hx]; exact List.mem_cons_of_mem _ (four_i ha)) (by intro x hx; rw [List.mem_singleton.mp hx]; exact four_i ha) (by simp)
      refine ⟨S2, e2, fun v v1 v2 l hm => ?_, fun v hv l hm => ?_, ?_, f1'.tr f2⟩
      · by_cases e : v = a
        · rw [e] at hm ⊢
          exact q2 a (by omega) l (m1 l hm)
        · exact p2 v (by omega) v2 l (hm.fr f1 (by simp; omega) (by simp; omega))
      · exact q2 v (by omega) l (hm.fr f1 (by simp; omega) (by simp; omega))
      · rw [r2, f1.1 _ (by simp; omega)]
theorem X4_take {S : ST} {i j : Nat} (hij : i ≠ j) (hi : i < 5) (hj : j < 5) {t : (Nat → List Nat) × Nat} (h : hold S j t) : ∃ S', f_X4_take S i j = some S' ∧ hold S' i t ∧ FR ((30 + i) :: four i) (four i) [] S S' := by
  obtain ⟨S', e, p, q, r, f⟩ := X4_take_l hij hi hj FU 0 S (by omega) (by unfold FU; omega)
  exact ⟨S', e, ⟨fun v hv => p v (by omega) hv _ (h.1 v hv), by rw [r]; exact h.2⟩, f⟩
def no_t : (Nat → List Nat) × Nat := (fun _ => [], 0)
/-- the class's own state: what is now, and what undo brings back -/
def RepC (S : ST) (t : (Nat → List Nat) × Nat) (p : List ((Nat → List Nat) × Nat)) : Prop := hold S 0 t ∧ p.length ≤ 4 ∧ fi S 37 = nI p.length ∧ ∃ x, x < 4 ∧ fi S 36 = nI x ∧ ∀ d, d < p.length → hold S ((x + 3 - d) % 4 + 1) (p.getD d no_t)
def IU : List Nat := [4, 5, 6, 7, 8, 9, 10, 11, 12, 13, 14, 15, 16, 17, 18, 19, 31, 32, 33, 34, 36, 37]
def AU : List Nat := [4, 5, 6, 7, 8, 9, 10, 11, 12, 13, 14, 15, 16, 17, 18, 19]
theorem IU_n {j : Nat} : j ∉ IU ↔ ¬ (4 ≤ j ∧ j < 20) ∧ ¬ (31 ≤ j ∧ j < 35) ∧ j ≠ 36 ∧ j ≠ 37 := by
  unfold IU
  simp
  omega
theorem AU_n {j : Nat} : j ∉ AU ↔ ¬ (4 ≤ j ∧ j < 20) := by
  unfold AU
  simp
  omega
theorem IU_i {j : Nat} : j ∈ IU ↔ (4 ≤ j ∧ j < 20) ∨ (31 ≤ j ∧ j < 35) ∨ j = 36 ∨ j = 37 := by
  unfold IU
  simp
  omega
theorem AU_i {j : Nat} : j ∈ AU ↔ (4 ≤ j ∧ j < 20) := by
  unfold AU
  simp
  omega
theorem four_m {k j : Nat} : j ∈ four k ↔ 4 * k ≤ j ∧ j ≤ 4 * k + 3 := by
  unfold four
  simp
  omega
theorem min4 {a : Nat} (h : a ≤ 4) : (if (4 : Int32) < nI a + 1 then 4 else nI a + 1) = nI (min (a + 1) 4) := by
  rw [nI_1]
  by_cases e : a = 4
  · rw [e]; decide
  · rw [if_neg (show ¬ (4 : Int32) < nI (a + 1) from nI_nlt (a := 4) (by omega) (by decide)), Nat.min_eq_left (by omega)]
theorem RepC.save {S : ST} {t : (Nat → List Nat) × Nat} {p : List ((Nat → List Nat) × Nat)} (h : RepC S t p) : ∃ S', f_X6_save S 0 = some S' ∧ RepC S' t (t :: p.take 3) ∧ FR IU AU [] S S' := by
  obtain ⟨h0, hp, h37, x, hx, h36, hs⟩ := h
  unfold f_X6_save f_X6_save_0
  rw [h36, if_neg (nI_pos (by omega)), if_pos (show nI x < (4 : Int32) from nI_lt (b := 4) hx (by decide)), oG_t (inB_n hx (by omega)), nI_clamp (by omega)]
  obtain ⟨S1, e1, m1, f1⟩ := X4_take (S := S) (i := x + 1) (j := 0) (by omega) (by omega) (by omega) h0
  rw [e1, oV_s, f1.1 36 (by rw [List.mem_cons, four_m]; omega), h36]
  have hsave : ∀ y : Nat, f_X6_save_48 S1 (nI y) = some (sI (sI S1 36 (nI y)) 37 (nI (min (p.length + 1) 4))) := fun y => by
    unfold f_X6_save_48
    rw [oL_s, oL_s, fi_sI_n _ _ (by decide), f1.1 37 (by rw [List.mem_cons, four_m]; omega), h37, min4 hp]
  have f1' : FR IU AU [] S S1 := f1.wk (fun j hj => by rw [List.mem_cons, four_m] at hj; rw [IU_i]; omega) (fun j hj => by rw [four_m] at hj; rw [AU_i]; omega) (by simp)
  have key : ∀ y : Nat, y = (x + 1) % 4 → RepC (sI (sI S1 36 (nI y)) 37 (nI (min (p.length + 1) 4))) t (t :: p.take 3) ∧ FR IU AU [] S (sI (sI S1 36 (nI y)) 37 (nI (min (p.length + 1) 4))) := fun y hy => by
    have fa : FR [36, 37] [] [] S1 (sI (sI S1 36 (nI y)) 37 (nI (min (p.length + 1) 4))) := ((FR.sI S1 36 (nI y)).wk (by simp) (by simp) (by simp)).tr ((FR.sI _ 37 _).wk (by simp) (by simp) (by simp))
    have hlen : (t :: p.take 3).length = min (p.length + 1) 4 := by
      rw [List.length_cons, List.length_take]; omega
    refine ⟨⟨?_, by omega, by rw [fi_sI_s, hlen], y, by omega, by rw [fi_sI_n _ _ (by decide), fi_sI_s], fun d hd => ?_⟩, f1'.tr (fa.wk (by simp [IU]) (by simp) (by simp))⟩
    · have q0 : hold S1 0 t := h0.fr f1 (fun j hj => by rw [four_m] at hj; rw [List.mem_cons, four_m]; omega) (fun j hj => by rw [four_m] at hj; rw [four_m]; omega) (by rw [List.mem_cons, four_m]; omega)
      exact q0.fr fa (fun j hj => by rw [four_m] at hj; simp; omega) (by simp) (by simp)
    · rw [hlen] at hd
      cases d with
      | zero =>
        rw [show (y + 3 - 0) % 4 + 1 = x + 1 by omega]
        exact m1.fr fa (fun j hj => by rw [four_m] at hj; simp; omega) (by simp) (by simp; omega)
      | succ d =>
        have e2 : (t :: p.take 3).getD (d + 1) no_t = p.getD d no_t := by
          rw [List.getD_cons_succ, List.getD_eq_getElem?_getD, List.getD_eq_getElem?_getD, List.getElem?_take, if_pos (by omega)]
        rw [e2, show (y + 3 - (d + 1)) % 4 + 1 = (x + 3 - d) % 4 + 1 by omega]
        have q0 : hold S1 ((x + 3 - d) % 4 + 1) (p.getD d no_t) := (hs d (by omega)).fr f1 (fun j hj => by rw [four_m] at hj; rw [List.mem_cons, four_m]; omega) (fun j hj => by rw [four_m] at hj; rw [four_m]; omega) (by rw [List.mem_cons, four_m]; omega)
        exact q0.fr fa (fun j hj => by rw [four_m] at hj; simp; omega) (by simp) (by simp; omega)
  by_cases h3 : x = 3
  · rw [if_pos (by rw [h3]; rfl), show (0 : Int32) = nI 0 from rfl, hsave 0]
    exact ⟨_, rfl, key 0 (by omega)⟩
  · rw [if_neg (show ¬ nI x = (3 : Int32) from z_ne (b := 3) (by omega) (by decide) h3), nI_1, hsave (x + 1)]
    exact ⟨_, rfl, key (x + 1) (by omega)⟩
theorem RepC.restore {S : ST} {t t' : (Nat → List Nat) × Nat} {p : List ((Nat → List Nat) × Nat)} (h : RepC S t (t' :: p)) : ∃ S', f_X6_restore S 0 = some S' ∧ RepC S' t' p ∧ FR [0, 1, 2, 3, 30, 36, 37] [0, 1, 2, 3] [] S S' := by
  obtain ⟨h0, hp, h37, x, hx, h36, hs⟩ := h
  rw [List.length_cons] at hp h37 hs
  have key : ∀ y : Nat, y = (x + 3) % 4 → ∃ S', f_X6_restore_17 S 0 (nI y) = some S' ∧ RepC S' t' p ∧ FR [0, 1, 2, 3, 30, 36, 37] [0, 1, 2, 3] [] S S' := fun y hy => by
    unfold f_X6_restore_17 f_X6_restore_34
    rw [if_neg (by rw [h37]; exact nI_ne0 (by omega) (by omega)), if_neg (nI_pos (by omega)), if_pos (show nI y < (4 : Int32) from nI_lt (b := 4) (by omega) (by decide)), oG_t (inB_n (show y < 4 by omega) (by omega)), nI_clamp (by omega)]
    have hy0 := hs 0 (by omega)
    rw [show (x + 3 - 0) % 4 + 1 = y + 1 by omega, List.getD_cons_zero] at hy0
    obtain ⟨S1, e1, m1, f1⟩ := X4_take (S := S) (i := 0) (j := y + 1) (by omega) (by omega) (by omega) hy0
    have e37 : fi (sI S1 36 (nI y)) 37 = nI (p.length + 1) := by rw [fi_sI_n _ _ (by decide), f1.1 37 (by rw [List.mem_cons, four_m]; omega), h37]
    rw [e1, oV_s, oL_s, oL_s, e37, show nI (p.length + 1) - (1 : Int32) = nI p.length from nI_pred _]
    have fa : FR [36, 37] [] [] S1 (sI (sI S1 36 (nI y)) 37 (nI p.length)) := ((FR.sI S1 36 (nI y)).wk (by simp) (by simp) (by simp)).tr ((FR.sI _ 37 _).wk (by simp) (by simp) (by simp))
    refine ⟨_, rfl, ⟨m1.fr fa (fun j hj => by rw [four_m] at hj; simp; omega) (by simp) (by simp), by omega, fi_sI_s _ _ _, y, by omega, by rw [fi_sI_n _ _ (by decide), fi_sI_s], fun d hd => ?_⟩, (f1.wk (fun j hj => by rw [List.mem_cons, four_m] at hj; simp; omega) (fun j hj => by rw [four_m] at hj; simp; omega) (by simp)).tr (fa.wk (by simp) (by simp) (by simp))⟩
    have hd1 := hs (d + 1) (by omega)
    rw [List.getD_cons_succ] at hd1
    rw [show (y + 3 - d) % 4 + 1 = (x + 3 - (d + 1)) % 4 + 1 by omega]
    have q0 : hold S1 ((x + 3 - (d + 1)) % 4 + 1) (p.getD d no_t) := hd1.fr f1 (fun j hj => by rw [four_m] at hj; rw [List.mem_cons, four_m]; omega) (fun j hj => by rw [four_m] at hj; rw [four_m]; omega) (by rw [List.mem_cons, four_m]; omega)
    exact q0.fr fa (fun j hj => by rw [four_m] at hj; simp; omega) (by simp) (by simp; omega)
  unfold f_X6_restore f_X6_restore_0
  rw [h36]
  by_cases hz : x = 0
  · rw [if_pos (by rw [hz]; rfl)]
    exact key 3 (by omega)
  · rw [if_neg (nI_ne0 (by omega) (by omega)), show nI x - (1 : Int32) = nI (x - 1) from z_sub (b := 1) (by omega)]
    exact key (x - 1) (by omega)
