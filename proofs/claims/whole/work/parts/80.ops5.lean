/-! sets that are made number by number -/
def rv (f : Nat → Nat) : Nat → List Nat
  | 0 => []
  | k + 1 => f k :: rv f k
theorem rv_mem {f : Nat → Nat} {x : Nat} : ∀ {k}, x ∈ rv f k ↔ ∃ i, i < k ∧ x = f i
  | 0 => by simp [rv]
  | k + 1 => by
    show x ∈ f k :: rv f k ↔ _
    rw [List.mem_cons, rv_mem]
    constructor
    · rintro (e | ⟨i, hi, e⟩)
      · exact ⟨k, by omega, e⟩
      · exact ⟨i, by omega, e⟩
    · rintro ⟨i, hi, e⟩
      by_cases q : i = k
      · rw [q] at e; exact Or.inl e
      · exact Or.inr ⟨i, by omega, e⟩
theorem rv_len (f : Nat → Nat) : ∀ k, (rv f k).length = k
  | 0 => rfl
  | k + 1 => by show (rv f k).length + 1 = _; rw [rv_len f k]
theorem srt_cg {a b : List Nat} (h : ∀ x, x ∈ a ↔ x ∈ b) : srt a = srt b := by
  unfold srt
  congr 1
  funext k
  exact decide_eq_decide.mpr (h k)
theorem MOK_srt {s : List Nat} (h : ∀ x, x ∈ s → x ≤ 2000) (hl : s.length ≤ 24) : MOK (srt s) := ⟨srt_srt s, Nat.le_trans (srt_len s) hl, fun x hx => h x ((srt_mem h).mp hx)⟩
/-- what the reference has made: the numbers of the list L -/
def MW (S : ST) (L : List Nat) : Prop := ∃ w, MM S w ∧ Srt w ∧ ∀ x, x ∈ w ↔ x ∈ L
theorem MW.fr {I A B : List Nat} {S S' : ST} {L : List Nat} (h : MW S L) (hf : FR I A B S S') (h1 : 52 ∉ I) (h2 : 32 ∉ A) : MW S' L := by
  obtain ⟨w, m, s, q⟩ := h
  exact ⟨w, m.fr hf h1 h2, s, q⟩
theorem MW.comes {S : ST} {L : List Nat} (h : MW S L) (hb : ∀ x, x ∈ L → x < 2 ^ 31) (hl : L.length < 24) {v : Nat} (hv : v < 2 ^ 31) : ∃ S', f_X9_comes S (nI v) = some S' ∧ MW S' (v :: L) ∧ FR [52] [32] [] S S' := by
  obtain ⟨w, m, s, q⟩ := h
  have hw : w.length ≤ L.length := List.Nodup.length_le_of_subset s.nd (fun x hx => (q x).mp hx)
  obtain ⟨S1, w1, e1, m1, s1, q1, f1⟩ := m.comes s (fun x hx => hb x ((q x).mp hx)) hv (Or.inr (by omega))
  exact ⟨S1, e1, ⟨w1, m1, s1, fun x => by rw [q1 x, q x, List.mem_cons]⟩, f1⟩
theorem MW.fin {S : ST} {L : List Nat} (h : MW S L) (hb : ∀ x, x ∈ L → x ≤ 2000) : MM S (srt L) := by
  obtain ⟨w, m, s, q⟩ := h
  rw [← srt_ext s (srt_srt L) (fun x => by rw [q x, srt_mem hb])]
  exact m
theorem MW.begins (S : ST) : ∃ S', f_X9_begins S = some S' ∧ MW S' [] ∧ FR [52] [] [] S S' := by
  obtain ⟨S1, e1, m1, f1⟩ := MM.begins S
  exact ⟨S1, e1, ⟨[], m1, List.Pairwise.nil, fun x => Iff.rfl⟩, f1⟩
def tv (l : List Nat) (m a s : Nat) (i : Nat) : Nat := (a * l.getD i 0 + s) % m
theorem turn_l {i j m a s : Nat} {l : List Nat} (hl : MOK l) (hm : 1 ≤ m) (hm2 : m ≤ 1000) (ha : a ≤ 1000) (hs : s ≤ 1000) : ∀ (n k : Nat) (S : ST), MS S i l → BR S 0 (rv (tv l m a s) k) → fi S (30 + 0) = nI m → k ≤ l.length → l.length < n + k → ∃ S', f_X8_turn_10 n S i (nI a) (nI s) j (nI k) = some S' ∧ MS S' j (srt (rv (tv l m a s) l.length)) ∧ FR [j] [j] [0] S S'
  | 0, k, S, _, _, _, _, h2 => absurd h2 (by omega)
  | n + 1, k, S, h, hb, h30, h1, h2 => by
    have h24 := h.1
    unfold f_X8_turn_10
    rw [h.2.1]
    by_cases hk : k = l.length
    · rw [hk, if_pos (nI_le (Nat.le_refl _) (by omega))]
      rw [hk] at hb
      obtain ⟨S1, e1, m1, f1⟩ := hb.spill (i := j) (Nat.le_trans (srt_len _) (by rw [rv_len]; exact h24))
      rw [e1, oV_s]
      exact ⟨S1, rfl, m1, f1.wk (by simp) (by simp) (by simp)⟩
    · have hk : k < l.length := by omega
      have hle := hl.le hk
      have hmul : a * l.getD k 0 ≤ 1000 * 2000 := Nat.mul_le_mul ha hle
      have hmod := Nat.mod_lt (a * l.getD k 0 + s) (show 0 < m by omega)
      rw [if_neg (nI_ge hk (by omega)), h.at hk, oB_s, h30, pk_mul, nI_add, residue_n S (by omega) hm (by omega), oB_s]
      obtain ⟨S1, e1, b1, f1⟩ := hb.put (k := (a * l.getD k 0 + s) % m) (by omega)
      rw [e1, oV_s, oL_s, nI_1]
      obtain ⟨S2, e2, m2, f2⟩ := turn_l (j := j) hl hm hm2 ha hs n (k + 1) S1 (h.fr f1 (by simp) (by simp)) b1 (by rw [f1.1 _ (by simp)]; exact h30) (by omega) (by omega)
      exact ⟨S2, e2, m2, (f1.wk (by simp) (by simp) (by simp)).tr f2⟩
theorem X8_turn {S : ST} {i m a s : Nat} {l : List Nat} (hl : MOK l) (hm : 1 ≤ m) (hm2 : m ≤ 1000) (ha : a ≤ 1000) (hs : s ≤ 1000) (j : Nat) (h : MS S i l) (h30 : fi S (30 + 0) = nI m) : ∃ S', f_X8_turn S i (nI a) (nI s) j = some S' ∧ MS S' j (srt (rv (tv l m a s) l.length)) ∧ FR [j] [j] [0] S S' := by
  have h24 := h.1
  obtain ⟨S1, e1, b1, f1⟩ := BR.wipe S 0
  obtain ⟨S2, e2, m2, f2⟩ := turn_l (j := j) hl hm hm2 ha hs FU 0 S1 (h.fr f1 (by simp) (by simp)) b1 (by rw [f1.1 _ (by simp)]; exact h30) (by omega) (by unfold FU; omega)
  refine ⟨S2, ?_, m2, (f1.wk (by simp) (by simp) (by simp)).tr f2⟩
  unfold f_X8_turn f_X8_turn_0
  rw [e1, oV_s]
  exact e2
theorem map_l {t : (Nat → List Nat) × Nat} {p : List ((Nat → List Nat) × Nat)} (ht : OKt t) {v to a s : Nat} (hv : v < 4) (hto : to < 4) (ha : a ≤ 1000) (hs : s ≤ 1000) {S0 : ST} : ∀ (n k : Nat) (S : ST), RepM S t p → MW S (rv (tv (t.1 v) t.2 a s) k) → FR [50, 52] AMo [] (sI S0 51 0) S → k ≤ (t.1 v).length → (t.1 v).length < n + k → MO (f_X9_map_78 n S (nI v) (nI a) (nI s) (nI to) (nI k)) S0 0 (nI (srt (rv (tv (t.1 v) t.2 a s) (t.1 v).length)).length) (put4 t to (srt (rv (tv (t.1 v) t.2 a s) (t.1 v).length)) t.2) p
  | 0, k, S, _, _, _, _, h2 => absurd h2 (by omega)
  | n + 1, k, S, h, hw, hf, h1, h2 => by
    have hok := ht.1 v hv
    have h24 := hok.2.1
    have hm1 := ht.2.1
    have hm2 := ht.2.2
    have hlt : ∀ i, tv (t.1 v) t.2 a s i < t.2 := fun i => Nat.mod_lt _ (by omega)
    unfold f_X9_map_78
    rw [X9_many h.1 hv, oB_s]
    by_cases hk : k = (t.1 v).length
    · rw [hk, if_pos (nI_le (Nat.le_refl _) (by omega))]
      rw [hk] at hw
      exact MO_put h (hw.fin (fun x hx => by obtain ⟨i, _, e⟩ := rv_mem.mp hx; have := hlt i; omega)) hto hf _ (fun S2 _ => rfl)
    · have hk : k < (t.1 v).length := by omega
      have hle := hok.le hk
      have hmul : a * (t.1 v).getD k 0 ≤ 1000 * 2000 := Nat.mul_le_mul ha hle
      rw [if_neg (nI_ge hk (by omega)), X9_markAt h.1 hv hk, oB_s, pk_mul, nI_add, X9_around ht h.1, oB_s, nI_toInt (by omega)]
      rw [show (((a * (t.1 v).getD k 0 + s : Nat) : Int) % (t.2 : Int)).toNat = tv (t.1 v) t.2 a s k from rfl]
      obtain ⟨S1, e1, w1, f1⟩ := hw.comes (fun x hx => by obtain ⟨i, _, e⟩ := rv_mem.mp hx; have := hlt i; omega) (by rw [rv_len]; omega) (v := tv (t.1 v) t.2 a s k) (by have := hlt k; omega)
      rw [e1, oV_s, oL_s, nI_1]
      exact map_l ht hv hto ha hs n (k + 1) S1 (h.fr f1 (by simp) (by simp) (by simp)) w1 (hf.tr (f1.wk (by simp) (by simp [AMo]) (by simp))) (by omega) (by omega)
theorem J_map {S : ST} (h : INV S) (a b c d : Int32) : ∃ S', g_map S a b c d = some S' ∧ INV S' := by
  obtain ⟨t, p, hc, hm, hu, ht, hp⟩ := h
  show ∃ S', gI (oY (f_X8_map S a b c d) [(1, 1), (2, 2), (3, 3)] kI) (fun S1 => f_X9_map S1 a b c d) = some S' ∧ INV S'
  rcases set_or a with hb | ⟨v, hv, rfl⟩
  · refine gI_thr (n := 1) (c := 1) (r := 0) (by decide) (by decide) rfl hm ht hp ⟨S, ?_, hc, hu, FC.rf S⟩ (fun S1 h1 => ⟨0, MO_thr h1 0 ?_⟩)
    · unfold f_X8_map f_X8_map_0
      rw [X8_needSet_n S hb, oX_n S _ _ (by decide)]
    · unfold f_X9_map f_X9_map_0 f_X9_map_16 f_X9_map_59
      rw [X9_isSet_n S1 hb, oB_s, if_pos rfl, X9_ref1, oB_s, if_neg (by decide)]
  · rcases set_or d with hb | ⟨to, hto, rfl⟩
    · refine gI_thr (n := 1) (c := 1) (r := 0) (by decide) (by decide) rfl hm ht hp ⟨S, ?_, hc, hu, FC.rf S⟩ (fun S1 h1 => ⟨0, MO_thr h1 0 ?_⟩)
      · unfold f_X8_map f_X8_map_0
        rw [X8_needSet_y S hv, oX_0, X8_needSet_n S hb, oX_n S _ _ (by decide)]
      · unfold f_X9_map f_X9_map_0 f_X9_map_16 f_X9_map_59
        rw [X9_isSet_y S1 hv, oB_s, if_neg (by decide), X9_isSet_n S1 hb, oB_s, if_pos rfl, X9_ref1, oB_s, if_neg (by decide)]
    · rcases rng_or b 0 1000 (by decide) (by decide) with hb | ⟨x, hx1, hx2, rfl⟩
      · refine gI_thr (n := 2) (c := 2) (r := 0) (by decide) (by decide) rfl hm ht hp ⟨S, ?_, hc, hu, FC.rf S⟩ (fun S1 h1 => ⟨0, MO_thr h1 0 ?_⟩)
        · unfold f_X8_map f_X8_map_0 f_X8_map_31
          rw [X8_needSet_y S hv, oX_0, X8_needSet_y S hto, oX_0]
          rcases hb with hb | hb
          · rw [if_pos (show b < (0 : Int32) from hb)]
          · rw [if_pos (show (1000 : Int32) < b from hb)]
            split <;> rfl
        · unfold f_X9_map f_X9_map_0 f_X9_map_42 f_X9_map_59
          rw [X9_isSet_y S1 hv, oB_s, if_neg (by decide), X9_isSet_y S1 hto, oB_s, if_neg (by decide), show f_X9_within S1 b 0 1000 = some (0, S1) from wi_n S1 hb, oB_s, if_pos rfl, X9_ref2, oB_s, if_neg (by decide)]
      · have e1 : ∀ (u w : Option (Nat × Int32 × ST)), (if nI x < 0 then u else if (1000 : Int32) < nI x then u else w) = w := fun u w => by
          rw [if_neg (nI_pos (by omega)), if_neg (show ¬ (1000 : Int32) < nI x from nI_nlt (a := 1000) hx2 (by decide))]
        rcases rng_or c 0 1000 (by decide) (by decide) with hb | ⟨y, hy1, hy2, rfl⟩
        · refine gI_thr (n := 2) (c := 2) (r := 0) (by decide) (by decide) rfl hm ht hp ⟨S, ?_, hc, hu, FC.rf S⟩ (fun S1 h1 => ⟨0, MO_thr h1 0 ?_⟩)
          · unfold f_X8_map f_X8_map_0 f_X8_map_31
            rw [X8_needSet_y S hv, oX_0, X8_needSet_y S hto, oX_0, e1]
            exact cl_n (a := 0) (b := 1000) hb _ _
          · unfold f_X9_map f_X9_map_0 f_X9_map_42 f_X9_map_59
            rw [X9_isSet_y S1 hv, oB_s, if_neg (by decide), X9_isSet_y S1 hto, oB_s, if_neg (by decide), show f_X9_within S1 (nI x) 0 1000 = some (1, S1) from wi_y S1 hx1 hx2 (by decide), oB_s, if_neg (by decide), show f_X9_within S1 c 0 1000 = some (0, S1) from wi_n S1 hb, oB_s, if_pos rfl, X9_ref2, oB_s, if_neg (by decide)]
        · have e2 : ∀ (u w : Option (Nat × Int32 × ST)), (if nI y < 0 then u else if nI y ≤ 1000 then w else u) = w := fun u w => cl_y (a := 0) (b := 1000) hy1 hy2 (by decide) u w
          have hok := ht.1 v hv
          have hm1 := ht.2.1
          have hm2 := ht.2.2
          by_cases hl : Low (t.1 v) t.2
          · have hnew : MOK (srt (rv (tv (t.1 v) t.2 x y) (t.1 v).length)) := MOK_srt (fun z hz => by
              obtain ⟨i, _, e⟩ := rv_mem.mp hz
              have : tv (t.1 v) t.2 x y i < t.2 := Nat.mod_lt _ (by omega)
              omega) (by rw [rv_len]; exact hok.2.1)
            refine gI_ok [(1, 1), (2, 2), (3, 3)] (r := nI (srt (rv (tv (t.1 v) t.2 x y) (t.1 v).length)).length) (t' := put4 t to (srt (rv (tv (t.1 v) t.2 x y) (t.1 v).length)) t.2) (p' := t :: p.take 3) hm (ht.put hnew ht.2.1 ht.2.2) (OKp.push ht hp) ?_ (fun S1 h1 => ?_)
            · unfold f_X8_map f_X8_map_0
              obtain ⟨S1, q1, m1, f1⟩ := X8_turn hok (by omega) hm2 hx2 hy2 20 (hc.ms hv) hc.md
              have hc1 : RepC S1 t p := hc.fr f1 (by simp) (by simp)
              rw [X8_needSet_y S hv, oX_0, X8_needSet_y S hto, oX_0, e1, e2, (X8_below hc ht hv).1 hl, oX_0, oG_t (inB_n hv (by omega)), nI_clamp (show v < 2 ^ 31 by omega), q1, oV_s, hc1.md]
              exact CO_rep hc1 (hu.fr f1 (by simp) (by simp) (by simp)) (FC.of f1 (by simp) (by simp)) m1 hto _ (fun S2 q => by rw [q.2.1])
            · obtain ⟨r, e, hr⟩ := X9_isLow ht h1.1 hv
              obtain ⟨S2, q2, m2, f2⟩ := h1.sv
              obtain ⟨S3, q3, m3, f3⟩ := MW.begins S2
              unfold f_X9_map f_X9_map_0 f_X9_map_59
              rw [X9_isSet_y S1 hv, oB_s, if_neg (by decide), X9_isSet_y S1 hto, oB_s, if_neg (by decide), show f_X9_within S1 (nI x) 0 1000 = some (1, S1) from wi_y S1 hx1 hx2 (by decide), oB_s, if_neg (by decide), show f_X9_within S1 (nI y) 0 1000 = some (1, S1) from wi_y S1 hy1 hy2 (by decide), oB_s, if_neg (by decide), e, oB_s, if_neg (fun z => (hr.z.mp z) hl), X9_refused0, oB_s, if_pos rfl, q2, oV_s, q3, oV_s]
              exact map_l ht hv hto hx2 hy2 FU 0 S3 (m2.fr f3 (by simp) (by simp) (by simp)) m3 (f2.tr (f3.wk (by simp) (by simp) (by simp))) (by omega) (by unfold FU; have := hok.2.1; omega)
          · refine gI_thr (n := 3) (c := 3) (r := 0) (by decide) (by decide) rfl hm ht hp ⟨S, ?_, hc, hu, FC.rf S⟩ (fun S1 h1 => ⟨0, MO_thr h1 0 ?_⟩)
            · unfold f_X8_map f_X8_map_0
              rw [X8_needSet_y S hv, oX_0, X8_needSet_y S hto, oX_0, e1, e2, (X8_below hc ht hv).2 hl, oX_n S _ _ (by decide)]
            · obtain ⟨r, e, hr⟩ := X9_isLow ht h1.1 hv
              unfold f_X9_map f_X9_map_0 f_X9_map_59
              rw [X9_isSet_y S1 hv, oB_s, if_neg (by decide), X9_isSet_y S1 hto, oB_s, if_neg (by decide), show f_X9_within S1 (nI x) 0 1000 = some (1, S1) from wi_y S1 hx1 hx2 (by decide), oB_s, if_neg (by decide), show f_X9_within S1 (nI y) 0 1000 = some (1, S1) from wi_y S1 hy1 hy2 (by decide), oB_s, if_neg (by decide), e, oB_s, if_pos (hr.z.mpr hl), X9_ref3, oB_s, if_neg (by decide)]
