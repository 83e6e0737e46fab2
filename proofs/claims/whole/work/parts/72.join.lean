/-! the invariant; how a call of the class and one of the reference meet -/
def OKt (t : (Nat → List Nat) × Nat) : Prop := (∀ v, v < 4 → MOK (t.1 v)) ∧ 2 ≤ t.2 ∧ t.2 ≤ 1000
def INV (S : ST) : Prop := ∃ t p, RepC S t p ∧ RepM S t p ∧ UN S ∧ OKt t ∧ ∀ q, q ∈ p → OKt q
def FC (S S' : ST) : Prop := (∀ j, 48 ≤ j → fi S' j = fi S j) ∧ (∀ j, 26 ≤ j → ai S' j = ai S j) ∧ fl S' = fl S
def FM (S S' : ST) : Prop := (∀ j, j < 48 → fi S' j = fi S j) ∧ (∀ j, j < 26 → ai S' j = ai S j) ∧ ∀ j, al S' j = al S j
theorem FC.rf (S : ST) : FC S S := ⟨fun _ _ => rfl, fun _ _ => rfl, rfl⟩
theorem FM.rf (S : ST) : FM S S := ⟨fun _ _ => rfl, fun _ _ => rfl, fun _ => rfl⟩
theorem FC.tr {S S1 S2 : ST} (h : FC S S1) (g : FC S1 S2) : FC S S2 := ⟨fun j hj => (g.1 j hj).trans (h.1 j hj), fun j hj => (g.2.1 j hj).trans (h.2.1 j hj), g.2.2.trans h.2.2⟩
theorem FM.tr {S S1 S2 : ST} (h : FM S S1) (g : FM S1 S2) : FM S S2 := ⟨fun j hj => (g.1 j hj).trans (h.1 j hj), fun j hj => (g.2.1 j hj).trans (h.2.1 j hj), fun j => (g.2.2 j).trans (h.2.2 j)⟩
theorem FC.of {I A B : List Nat} {S S' : ST} (h : FR I A B S S') (hI : ∀ j ∈ I, j < 48) (hA : ∀ j ∈ A, j < 26) : FC S S' := ⟨fun j hj => h.1 j (fun q => by have := hI j q; omega), fun j hj => h.2.1 j (fun q => by have := hA j q; omega), h.2.2.2⟩
theorem FM.of {I A : List Nat} {S S' : ST} (h : FR I A [] S S') (hI : ∀ j ∈ I, 48 ≤ j) (hA : ∀ j ∈ A, 26 ≤ j) : FM S S' := ⟨fun j hj => h.1 j (fun q => by have := hI j q; omega), fun j hj => h.2.1 j (fun q => by have := hA j q; omega), fun j => h.2.2.1 j (by simp)⟩
theorem MS.fm {S S' : ST} {i : Nat} {l : List Nat} (h : MS S i l) (hf : FM S S') (hi : i < 26) : MS S' i l := ⟨h.1, by rw [hf.1 i (by omega)]; exact h.2.1, fun k hk => by rw [hf.2.1 i hi]; exact h.2.2 k hk⟩
theorem hold.fm {S S' : ST} {k : Nat} {t : (Nat → List Nat) × Nat} (h : hold S k t) (hf : FM S S') (hk : k < 5) : hold S' k t := ⟨fun v hv => (h.1 v hv).fm hf (by omega), by rw [hf.1 _ (by omega)]; exact h.2⟩
theorem RepC.fm {S S' : ST} {t : (Nat → List Nat) × Nat} {p : List ((Nat → List Nat) × Nat)} (h : RepC S t p) (hf : FM S S') : RepC S' t p := by
  obtain ⟨h0, h1, h2, x, h3, h4, h5⟩ := h
  exact ⟨h0.fm hf (by omega), h1, by rw [hf.1 37 (by omega)]; exact h2, x, h3, by rw [hf.1 36 (by omega)]; exact h4, fun d hd => (h5 d hd).fm hf (by omega)⟩
theorem UN.fm {S S' : ST} (h : UN S) (hf : FM S S') : UN S' := by
  obtain ⟨m, hm, h26, hu⟩ := h
  refine ⟨m, hm, by rw [hf.1 26 (by omega)]; exact h26, fun q => ?_⟩
  obtain ⟨u1, u2, u3⟩ := hu q
  exact ⟨u1, by rw [hf.1 25 (by omega)]; exact u2, fun k hk => by rw [hf.2.1 25 (by omega)]; exact u3 k hk⟩
theorem RepM.fc {S S' : ST} {t : (Nat → List Nat) × Nat} {p : List ((Nat → List Nat) × Nat)} (h : RepM S t p) (hf : FC S S') : RepM S' t p :=
  ⟨by rw [hf.2.1 30 (by omega)]; exact h.1, by rw [hf.1 50 (by omega)]; exact h.2.1, h.2.2.1, fun d hd => by rw [hf.2.1 31 (by omega)]; exact h.2.2.2 d hd⟩
theorem RepC.fr {I A B : List Nat} {S S' : ST} {t : (Nat → List Nat) × Nat} {p : List ((Nat → List Nat) × Nat)} (h : RepC S t p) (hf : FR I A B S S') (hI : ∀ j ∈ I, 20 ≤ j ∧ (j < 30 ∨ 37 < j)) (hA : ∀ j ∈ A, 20 ≤ j) : RepC S' t p := by
  obtain ⟨h0, h1, h2, x, h3, h4, h5⟩ := h
  have key : ∀ k t, k < 5 → hold S k t → hold S' k t := fun k t hk h => h.fr hf (fun j hj q => by rw [four_m] at hj; have := hI j q; omega) (fun j hj q => by rw [four_m] at hj; have := hA j q; omega) (fun q => by have := hI _ q; omega)
  exact ⟨key _ _ (by omega) h0, h1, by rw [hf.1 37 (fun q => by have := hI _ q; omega)]; exact h2, x, h3, by rw [hf.1 36 (fun q => by have := hI _ q; omega)]; exact h4, fun d hd => key _ _ (by omega) (h5 d hd)⟩
theorem RepC.ms {S : ST} {t : (Nat → List Nat) × Nat} {p : List ((Nat → List Nat) × Nat)} (h : RepC S t p) {v : Nat} (hv : v < 4) : MS S v (t.1 v) := by
  have := h.1.1 v hv
  rw [Nat.mul_zero, Nat.zero_add] at this
  exact this
theorem RepC.md {S : ST} {t : (Nat → List Nat) × Nat} {p : List ((Nat → List Nat) × Nat)} (h : RepC S t p) : fi S (30 + 0) = nI t.2 := h.1.2
def CO (o : Option (Nat × Int32 × ST)) (S : ST) (n : Nat) (r : Int32) (t : (Nat → List Nat) × Nat) (p : List ((Nat → List Nat) × Nat)) : Prop := ∃ S1, o = some (n, r, S1) ∧ RepC S1 t p ∧ UN S1 ∧ FC S S1
def MO (o : Option (Int32 × ST)) (S : ST) (k : Nat) (b : Int32) (t : (Nat → List Nat) × Nat) (p : List ((Nat → List Nat) × Nat)) : Prop := ∃ S2, o = some (b, S2) ∧ RepM S2 t p ∧ FM S S2 ∧ fi S2 51 = nI k
def kI (r : Int32) (S1 : ST) : Option (Int32 × ST) := some (0, sB S1 5 (vp_updL (al S1 5) (Int32.toNatClampNeg 0) (Int32.toInt64 r)))
def kZ (r : Int32) (S1 : ST) : Option (Int32 × ST) := some (0, sB S1 5 (vp_updL (al S1 5) (Int32.toNatClampNeg 0) (if r = 0 then 0 else 1)))
def gI (L : Option (Int32 × ST)) (M : ST → Option (Int32 × ST)) : Option ST := oB L (fun (r2 : Int32) (S1 : ST) => oB (M S1) (fun (r4 : Int32) (S3 : ST) => oB (f_X9_thrown S3) (fun (r6 : Int32) (S5 : ST) => (if r6 = r2 then (if r2 = 0 then (if (lg_cmp (al S5 5 (Int32.toNatClampNeg 0)) (Int32.toInt64 r4)) = 0 then some S5 else none) else some S5) else none))))
def gZ (L : Option (Int32 × ST)) (M : ST → Option (Int32 × ST)) : Option ST := oB L (fun (r2 : Int32) (S1 : ST) => oB (M S1) (fun (r4 : Int32) (S3 : ST) => oB (f_X9_thrown S3) (fun (r6 : Int32) (S5 : ST) => (if r6 = r2 then (if r2 = 0 then (if r4 = 0 then (if (lg_cmp (al S5 5 (Int32.toNatClampNeg 0)) 0) = 0 then some S5 else none) else (if (lg_cmp (al S5 5 (Int32.toNatClampNeg 0)) 1) = 0 then some S5 else none)) else some S5) else none))))
theorem thrown_e (S : ST) : f_X9_thrown S = some (fi S 51, S) := rfl
theorem oY_0 {o : Option (Nat × Int32 × ST)} {r : Int32} {S : ST} (h : o = some (0, r, S)) (hs : List (Nat × Int32)) (k : Int32 → ST → Option (Int32 × ST)) : oY o hs k = k r S := by rw [h]; rfl
theorem oY_n {o : Option (Nat × Int32 × ST)} {n : Nat} {r c : Int32} {S : ST} (h : o = some (n, r, S)) {hs : List (Nat × Int32)} (hn : n ≠ 0) (hl : hs.lookup n = some c) (k : Int32 → ST → Option (Int32 × ST)) : oY o hs k = some (c, S) := by
  rw [h]
  show (if n = 0 then _ else match hs.lookup n with
    | none => none
    | some c => some (c, S)) = _
  rw [if_neg hn, hl]
theorem sB5_FC (S : ST) (f : Nat → Int64) : FC S (sB S 5 f) := ⟨fun _ _ => rfl, fun _ _ => rfl, rfl⟩
theorem sB5_FR (S : ST) (f : Nat → Int64) : FR [] [] [5] S (sB S 5 f) := FR.sB S 5 f
theorem gI_ok {C : Option (Nat × Int32 × ST)} {S : ST} {r : Int32} {t t' : (Nat → List Nat) × Nat} {p p' : List ((Nat → List Nat) × Nat)} (hs : List (Nat × Int32)) {M : ST → Option (Int32 × ST)} (hM0 : RepM S t p) (ht : OKt t') (hp : ∀ q, q ∈ p' → OKt q) (hC : CO C S 0 r t' p') (hM : ∀ S1, RepM S1 t p → MO (M S1) S1 0 r t' p') : ∃ S', gI (oY C hs kI) M = some S' ∧ INV S' := by
  obtain ⟨S1, e1, c1, u1, f1⟩ := hC
  have fB := sB5_FR S1 (vp_updL (al S1 5) (Int32.toNatClampNeg 0) (Int32.toInt64 r))
  have hm1 : RepM (sB S1 5 (vp_updL (al S1 5) (Int32.toNatClampNeg 0) (Int32.toInt64 r))) t p := (hM0.fc f1).fr fB (by simp) (by simp) (by simp)
  obtain ⟨S2, e2, m2, f2, h51⟩ := hM _ hm1
  unfold gI
  rw [oY_0 e1]
  unfold kI
  rw [oB_s, e2, oB_s, thrown_e, oB_s, h51, if_pos (show nI 0 = 0 from rfl), if_pos rfl, if_pos]
  · exact ⟨S2, rfl, t', p', (c1.fr fB (by simp) (by simp)).fm f2, m2, (u1.fr fB (by simp) (by simp) (by simp)).fm f2, ht, hp⟩
  · rw [lg_cmp_eq, f2.2.2 5, al_sB_s, pk_uLs]
theorem gZ_ok {C : Option (Nat × Int32 × ST)} {S : ST} {r : Int32} {t t' : (Nat → List Nat) × Nat} {p p' : List ((Nat → List Nat) × Nat)} (hs : List (Nat × Int32)) {M : ST → Option (Int32 × ST)} (hM0 : RepM S t p) (ht : OKt t') (hp : ∀ q, q ∈ p' → OKt q) (hC : CO C S 0 r t' p') (hM : ∀ S1, RepM S1 t p → MO (M S1) S1 0 r t' p') : ∃ S', gZ (oY C hs kZ) M = some S' ∧ INV S' := by
  obtain ⟨S1, e1, c1, u1, f1⟩ := hC
  have fB := sB5_FR S1 (vp_updL (al S1 5) (Int32.toNatClampNeg 0) (if r = 0 then 0 else 1))
  have hm1 : RepM (sB S1 5 (vp_updL (al S1 5) (Int32.toNatClampNeg 0) (if r = 0 then 0 else 1))) t p := (hM0.fc f1).fr fB (by simp) (by simp) (by simp)
  obtain ⟨S2, e2, m2, f2, h51⟩ := hM _ hm1
  have hI : INV S2 := ⟨t', p', (c1.fr fB (by simp) (by simp)).fm f2, m2, (u1.fr fB (by simp) (by simp) (by simp)).fm f2, ht, hp⟩
  have h5 : al S2 5 (Int32.toNatClampNeg 0) = if r = 0 then 0 else 1 := by rw [f2.2.2 5, al_sB_s, pk_uLs]
  unfold gZ
  rw [oY_0 e1]
  unfold kZ
  rw [oB_s, e2, oB_s, thrown_e, oB_s, h51, if_pos (show nI 0 = 0 from rfl), if_pos rfl, h5]
  by_cases hr : r = 0
  · rw [if_pos hr, if_pos hr, if_pos (by rw [lg_cmp_eq])]
    exact ⟨S2, rfl, hI⟩
  · rw [if_neg hr, if_neg hr, if_pos (by rw [lg_cmp_eq])]
    exact ⟨S2, rfl, hI⟩
theorem gI_thr {C : Option (Nat × Int32 × ST)} {S : ST} {r : Int32} {n c : Nat} {t : (Nat → List Nat) × Nat} {p : List ((Nat → List Nat) × Nat)} {hs : List (Nat × Int32)} {M : ST → Option (Int32 × ST)} (hn : n ≠ 0) (hc : 0 < c ∧ c < 4) (hl : hs.lookup n = some (nI c)) (hM0 : RepM S t p) (ht : OKt t) (hp : ∀ q, q ∈ p → OKt q) (hC : CO C S n r t p) (hM : ∀ S1, RepM S1 t p → ∃ b, MO (M S1) S1 c b t p) : ∃ S', gI (oY C hs kI) M = some S' ∧ INV S' := by
  obtain ⟨S1, e1, c1, u1, f1⟩ := hC
  obtain ⟨b, S2, e2, m2, f2, h51⟩ := hM _ (hM0.fc f1)
  unfold gI
  rw [oY_n e1 hn hl, oB_s, e2, oB_s, thrown_e, oB_s, h51, if_pos rfl, if_neg (nI_ne0 hc.1 (by omega))]
  exact ⟨S2, rfl, t, p, c1.fm f2, m2, u1.fm f2, ht, hp⟩
theorem gZ_thr {C : Option (Nat × Int32 × ST)} {S : ST} {r : Int32} {n c : Nat} {t : (Nat → List Nat) × Nat} {p : List ((Nat → List Nat) × Nat)} {hs : List (Nat × Int32)} {M : ST → Option (Int32 × ST)} (hn : n ≠ 0) (hc : 0 < c ∧ c < 4) (hl : hs.lookup n = some (nI c)) (hM0 : RepM S t p) (ht : OKt t) (hp : ∀ q, q ∈ p → OKt q) (hC : CO C S n r t p) (hM : ∀ S1, RepM S1 t p → ∃ b, MO (M S1) S1 c b t p) : ∃ S', gZ (oY C hs kZ) M = some S' ∧ INV S' := by
  obtain ⟨S1, e1, c1, u1, f1⟩ := hC
  obtain ⟨b, S2, e2, m2, f2, h51⟩ := hM _ (hM0.fc f1)
  unfold gZ
  rw [oY_n e1 hn hl, oB_s, e2, oB_s, thrown_e, oB_s, h51, if_pos rfl, if_neg (nI_ne0 hc.1 (by omega))]
  exact ⟨S2, rfl, t, p, c1.fm f2, m2, u1.fm f2, ht, hp⟩
theorem RepC.replace {S : ST} {t : (Nat → List Nat) × Nat} {p : List ((Nat → List Nat) × Nat)} (h : RepC S t p) {l : List Nat} (hl : MS S 20 l) {to : Nat} (ht : to < 4) (m : Nat) : ∃ S', f_X8_replace S (nI to) (nI m) = some S' ∧ RepC S' (put4 t to l m) (t :: p.take 3) ∧ MS S' 20 l ∧ FR (0 :: 1 :: 2 :: 3 :: 30 :: IU) (0 :: 1 :: 2 :: 3 :: AU) [] S S' := by
  obtain ⟨S1, e1, c1, f1⟩ := h.save
  have hl1 : MS S1 20 l := hl.fr f1 (by rw [IU_n]; omega) (by rw [AU_n]; omega)
  obtain ⟨S2, e2, m2, f2⟩ := X2_take S1 to 20
  unfold f_X8_replace f_X8_replace_0
  rw [e1, oV_s, oG_t (inB_n ht (by omega)), nI_clamp (by omega), e2, oV_s, oL_s]
  have f3 := FR.sI S2 (30 + 0) (nI m)
  obtain ⟨h0, h1, h2, x, h3, h4, h5⟩ := c1
  refine ⟨_, rfl, ⟨⟨fun v hv => ?_, fi_sI_s _ _ _⟩, h1, ?_, x, h3, ?_, fun d hd => ?_⟩, (hl1.fr f2 (by simp <;> omega) (by simp <;> omega)).fr f3 (by simp) (by simp), (f1.wk (fun j hj => by simp [hj]) (fun j hj => by simp [hj]) (by simp)).tr ((f2.wk (by intro j hj; rw [List.mem_singleton.mp hj]; simp <;> omega) (by intro j hj; rw [List.mem_singleton.mp hj]; simp <;> omega) (by simp)).tr (f3.wk (by simp) (by simp) (by simp)))⟩
  · rw [Nat.mul_zero, Nat.zero_add]
    by_cases e : v = to
    · rw [show (put4 t to l m).1 v = l from if_pos e, e]
      exact (m2 l hl1).fr f3 (by simp <;> omega) (by simp)
    · rw [show (put4 t to l m).1 v = t.1 v from if_neg e]
      have q := h0.1 v hv
      rw [Nat.mul_zero, Nat.zero_add] at q
      exact (q.fr f2 (by simpa using e) (by simpa using e)).fr f3 (by simp <;> omega) (by simp)
  · rw [f3.1 37 (by simp), f2.1 37 (by simp <;> omega)]; exact h2
  · rw [f3.1 36 (by simp), f2.1 36 (by simp <;> omega)]; exact h4
  · refine ((h5 d hd).fr f2 (fun j hj => by rw [four_m] at hj; simp <;> omega) (fun j hj => by rw [four_m] at hj; simp <;> omega) (by simp <;> omega)).fr f3 (fun j hj => by rw [four_m] at hj; simp <;> omega) (by simp) (by simp <;> omega)
/-- a call that has made its set: it is saved and put in its place -/
theorem CO_rep {S S1 : ST} {t : (Nat → List Nat) × Nat} {p : List ((Nat → List Nat) × Nat)} {l : List Nat} {to m : Nat} {r : Int32} (hr : RepC S1 t p) (hu : UN S1) (hf : FC S S1) (hl : MS S1 20 l) (ht : to < 4) (k : ST → Option (Nat × Int32 × ST)) (hk : ∀ S2, MS S2 20 l → k S2 = some (0, r, S2)) : CO (oV (f_X8_replace S1 (nI to) (nI m)) k) S 0 r (put4 t to l m) (t :: p.take 3) := by
  obtain ⟨S2, e2, c2, l2, f2⟩ := hr.replace hl ht m
  rw [e2, oV_s, hk S2 l2]
  refine ⟨S2, rfl, c2, hu.fr f2 (by simp [IU]) (by simp [IU]) (by simp [AU]), hf.tr (FC.of f2 ?_ ?_)⟩
  · intro j hj
    simp [IU] at hj
    omega
  · intro j hj
    simp [AU] at hj
    omega
theorem OKt.put {t : (Nat → List Nat) × Nat} (h : OKt t) {to m : Nat} {l : List Nat} (hl : MOK l) (h1 : 2 ≤ m) (h2 : m ≤ 1000) : OKt (put4 t to l m) := by
  refine ⟨fun v hv => ?_, h1, h2⟩
  show MOK (if v = to then l else t.1 v)
  by_cases e : v = to
  · rw [if_pos e]; exact hl
  · rw [if_neg e]; exact h.1 v hv
theorem OKp.push {t : (Nat → List Nat) × Nat} {p : List ((Nat → List Nat) × Nat)} (h : OKt t) (hp : ∀ q, q ∈ p → OKt q) : ∀ q, q ∈ t :: p.take 3 → OKt q := fun q hq => by
  rcases List.mem_cons.mp hq with e | e
  · rw [e]; exact h
  · exact hp q (List.mem_of_mem_take e)
/-- the reference: what was made is saved and put in its place -/
theorem MO_thr {S : ST} {t : (Nat → List Nat) × Nat} {p : List ((Nat → List Nat) × Nat)} (h : RepM S t p) {k : Nat} (b : Int32) {o : Option (Int32 × ST)} (e : o = some (b, sI S 51 (nI k))) : MO o S k b t p :=
  ⟨_, e, h.fr (FR.sI S 51 _) (by simp) (by simp) (by simp), FM.of (FR.sI S 51 _) (by simp) (by simp), fi_sI_s _ _ _⟩
