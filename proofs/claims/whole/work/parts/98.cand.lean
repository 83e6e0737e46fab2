/-! forms of a set modulo m -/
def FO (l : List Nat) (m t j : Nat) (F : List Nat) : Prop := Srt F ∧ ∀ x : Nat, x ∈ F ↔ ∃ k, k < l.length ∧ (x : Int) = ((t : Int) * (l.getD k 0 : Nat) - (t : Int) * (l.getD j 0 : Nat)) % (m : Int)
theorem FO.uq {l F F' : List Nat} {m t j : Nat} (h : FO l m t j F) (h' : FO l m t j F') : F = F' := srt_ext h.1 h'.1 (fun x => (h.2 x).trans (h'.2 x).symm)
def Tt (l : List Nat) (m t : Nat) : List Nat := srt (rv (tv l m t 0) l.length)
theorem Tt_mem {l : List Nat} {m t x : Nat} (hm : 1 ≤ m) (hm2 : m ≤ 1000) : x ∈ Tt l m t ↔ ∃ k, k < l.length ∧ x = t * l.getD k 0 % m := by
  unfold Tt
  rw [srt_mem (fun v hv => by
    obtain ⟨i, _, e⟩ := rv_mem.mp hv
    have : tv l m t 0 i < m := Nat.mod_lt _ (by omega)
    omega), rv_mem]
  exact Iff.rfl
theorem phi_0 {m t : Nat} (hm : 1 ≤ m) (y : Nat) : phi m t 0 y = t * y % m := by
  have e : (phi m t 0 y : Int) = ((t * y % m : Nat) : Int) := by
    rw [phi_c hm, Int.sub_zero, Int.natCast_emod, Int.natCast_mul]
  exact Int.ofNat.inj e
theorem Tt_ok {l : List Nat} {m t : Nat} (hl : MOK l) (hm : 1 ≤ m) (hm2 : m ≤ 1000) (hg : Nat.gcd m t = 1) (hlow : Low l m) : Srt (Tt l m t) ∧ (Tt l m t).length = l.length ∧ Low (Tt l m t) m := by
  refine ⟨srt_srt _, ?_, fun v hv => ?_⟩
  · have h1 : (Tt l m t).length ≤ l.length := by
      have := srt_len (rv (tv l m t 0) l.length)
      rw [rv_len] at this
      exact this
    have hnd : (l.map (phi m t 0)).Nodup := by
      unfold List.Nodup
      rw [List.pairwise_map]
      exact List.Pairwise.imp_of_mem (fun {a b} ha hb hab e => Nat.ne_of_lt hab (phi_inj hm hg (hlow a ha) (hlow b hb) e)) hl.1
    have h2 := List.Nodup.length_le_of_subset hnd (l₂ := Tt l m t) (fun z hz => by
      obtain ⟨y, y1, y2⟩ := List.mem_map.mp hz
      obtain ⟨k, k1, k2⟩ := mem_gd y1
      rw [Tt_mem hm hm2]
      exact ⟨k, k1, by rw [k2, ← y2, phi_0 hm]⟩)
    rw [List.length_map] at h2
    omega
  · obtain ⟨k, _, e⟩ := (Tt_mem hm hm2).mp hv
    rw [e]
    exact Nat.mod_lt _ (by omega)
theorem em_core {m x A B y ts u w q : Int} (h0 : 0 ≤ x) (h1 : x < m) (hA : A = y + m * u) (hB : B = ts + m * w) (hx : x + ts = y + m * q) : x = (A - B) % m := by
  have : A - B = x + m * (u - w - q) := by
    rw [hA, hB, Int.mul_sub, Int.mul_sub]
    omega
  rw [this, Int.add_mul_emod_self_left, Int.emod_eq_of_lt h0 h1]
theorem i_md (a m : Nat) : ((a : Nat) : Int) = ((a % m : Nat) : Int) + (m : Int) * ((a / m : Nat) : Int) := by
  rw [← Int.natCast_mul, ← Int.natCast_add, Nat.mod_add_div]
theorem EE_lo {T : List Nat} {m s : Nat} (hs : s < T.length) : EE T m s = T.getD s 0 := by
  unfold EE
  rw [Nat.mod_eq_of_lt hs, Nat.div_eq_of_lt hs, Nat.mul_zero, Nat.add_zero]
theorem rt_pos {g : List Nat} (hn : 1 ≤ g.length) (h : ∀ x, x ∈ g → 1 ≤ x) (s k : Nat) : 1 ≤ rt g s k := h _ (gd_mem (Nat.mod_lt _ (by omega)))
theorem ps_tot {T : List Nat} {m : Nat} (hs : Srt T) (hn : 1 ≤ T.length) (hlow : Low T m) (s : Nat) : ps (rt (gl T m) s) T.length = m := by
  have h1 := ps_rt hs hn hlow s T.length
  rw [EE_n hn] at h1
  omega
theorem ps_totr {T : List Nat} {m : Nat} (hs : Srt T) (hn : 1 ≤ T.length) (hlow : Low T m) {s : Nat} (h : s < T.length) : ps (rt (gl T m).reverse s) T.length = m := by
  have h1 := ps_rv hs hn hlow (s := s) T.length (by omega)
  have h2 := EE_n (T := T) (m := m) (k := 2 * T.length - s - T.length) hn
  rw [show 2 * T.length - s - T.length + T.length = 2 * T.length - s by omega] at h2
  omega
theorem fm_P {l : List Nat} {m t : Nat} (hl : MOK l) (hm : 1 ≤ m) (hm2 : m ≤ 1000) (hg : Nat.gcd m t = 1) (hlow : Low l m) (hn : 1 ≤ l.length) {s j : Nat} (hs : s < l.length) (hj : j < l.length) (hsj : t * l.getD j 0 % m = (Tt l m t).getD s 0) : FO l m t j (psl (rt (gl (Tt l m t) m) s) l.length) := by
  obtain ⟨t1, t2, t3⟩ := Tt_ok hl hm hm2 hg hlow
  have hmem : ∀ x, x ∈ Tt l m t ↔ ∃ k, k < l.length ∧ x = t * l.getD k 0 % m := fun x => Tt_mem hm hm2
  generalize Tt l m t = T at *
  have hn' : 1 ≤ T.length := by omega
  have hgl := gl_len m hn'
  have hpos : ∀ k, 1 ≤ rt (gl T m) s k := rt_pos (by omega) (fun x hx => (gl_pos t1 hn' t3 x hx).1) s
  have htot := ps_tot t1 hn' t3 s
  have core : ∀ k k', k < l.length → k' < l.length → t * l.getD k' 0 % m = T.getD ((s + k) % T.length) 0 → ((ps (rt (gl T m) s) k : Nat) : Int) = ((t : Int) * (l.getD k' 0 : Nat) - (t : Int) * (l.getD j 0 : Nat)) % (m : Int) := fun k k' h1 h2 h3 => by
    have hlt := ps_lt hpos (show k < T.length by omega)
    have hps := ps_rt t1 hn' t3 s k
    rw [EE_lo (show s < T.length by omega), ← hsj] at hps
    unfold EE at hps
    rw [← h3] at hps
    have hps : ((ps (rt (gl T m) s) k : Nat) : Int) + ((t * l.getD j 0 % m : Nat) : Int) = ((t * l.getD k' 0 % m : Nat) : Int) + (m : Int) * (((s + k) / T.length : Nat) : Int) := by
      rw [← Int.natCast_mul, ← Int.natCast_add, ← Int.natCast_add, hps]
    exact em_core (by omega) (by omega) (by rw [← Int.natCast_mul]; exact i_md _ m) (by rw [← Int.natCast_mul]; exact i_md _ m) hps
  refine ⟨psl_srt hpos _, fun x => ?_⟩
  rw [psl_mem]
  constructor
  · rintro ⟨k, k1, e⟩
    obtain ⟨k', h1, h2⟩ := (hmem _).mp (gd_mem (l := T) (Nat.mod_lt (s + k) (show 0 < T.length by omega)))
    exact ⟨k', h1, by rw [e]; exact core k k' k1 h1 h2.symm⟩
  · rintro ⟨k', h1, e⟩
    obtain ⟨z, z1, z2⟩ := mem_gd ((hmem _).mpr ⟨k', h1, rfl⟩)
    have hA := Nat.div_add_mod (z + T.length - s) T.length
    have hAm := Nat.mod_lt (z + T.length - s) (show 0 < T.length by omega)
    refine ⟨(z + T.length - s) % T.length, by omega, ?_⟩
    have hz : (s + (z + T.length - s) % T.length) % T.length = z := by
      have h3 : s + (z + T.length - s) % T.length + T.length * ((z + T.length - s) / T.length) = z + T.length := by omega
      have h4 := congrArg (fun y => y % T.length) h3
      have h4 : (s + (z + T.length - s) % T.length + T.length * ((z + T.length - s) / T.length)) % T.length = (z + T.length) % T.length := h4
      rw [Nat.add_mul_mod_self_left, Nat.add_mod_right, Nat.mod_eq_of_lt z1] at h4
      exact h4
    have := core ((z + T.length - s) % T.length) k' (by omega) h1 (by rw [hz]; exact z2.symm)
    rw [← e] at this
    exact (Int.ofNat.inj this).symm
theorem fm_Q {l : List Nat} {m t : Nat} (hl : MOK l) (hm : 1 ≤ m) (hm2 : m ≤ 1000) (hg : Nat.gcd m t = 1) (htm : t ≤ m) (hlow : Low l m) (hn : 1 ≤ l.length) {s j : Nat} (hs : s < l.length) (hj : j < l.length) (hsj : t * l.getD j 0 % m = (Tt l m t).getD ((2 * l.length - s) % l.length) 0) : FO l m (m - t) j (psl (rt (gl (Tt l m t) m).reverse s) l.length) := by
  obtain ⟨t1, t2, t3⟩ := Tt_ok hl hm hm2 hg hlow
  have hmem : ∀ x, x ∈ Tt l m t ↔ ∃ k, k < l.length ∧ x = t * l.getD k 0 % m := fun x => Tt_mem hm hm2
  generalize Tt l m t = T at *
  have hn' : 1 ≤ T.length := by omega
  have hgl := gl_len m hn'
  have hpos : ∀ k, 1 ≤ rt (gl T m).reverse s k := rt_pos (by rw [List.length_reverse]; omega) (fun x hx => (gl_pos t1 hn' t3 x (List.mem_reverse.mp hx)).1) s
  rw [← t2] at hs hsj
  have htot := ps_totr t1 hn' t3 hs
  have core : ∀ k k', k < l.length → k' < l.length → t * l.getD k' 0 % m = T.getD ((2 * T.length - s - k) % T.length) 0 → ((ps (rt (gl T m).reverse s) k : Nat) : Int) = (((m - t : Nat) : Int) * (l.getD k' 0 : Nat) - ((m - t : Nat) : Int) * (l.getD j 0 : Nat)) % (m : Int) := fun k k' h1 h2 h3 => by
    have hlt := ps_lt hpos (show k < T.length by omega)
    have hps := ps_rv t1 hn' t3 (s := s) k (by omega)
    unfold EE at hps
    rw [← h3, ← hsj] at hps
    have hps : ((ps (rt (gl T m).reverse s) k : Nat) : Int) + (((t * l.getD k' 0 % m : Nat) : Int) + (m : Int) * (((2 * T.length - s - k) / T.length : Nat) : Int)) = ((t * l.getD j 0 % m : Nat) : Int) + (m : Int) * (((2 * T.length - s) / T.length : Nat) : Int) := by
      rw [← Int.natCast_mul, ← Int.natCast_mul, ← Int.natCast_add, ← Int.natCast_add, ← Int.natCast_add, hps]
    have hneg : ∀ y : Nat, ((m - t : Nat) : Int) * (y : Int) = -((t * y % m : Nat) : Int) + (m : Int) * ((y : Int) - ((t * y / m : Nat) : Int)) := fun y => by
      have h4 := i_md (t * y) m
      rw [Int.natCast_mul] at h4
      rw [show ((m - t : Nat) : Int) = (m : Int) - t by omega, Int.sub_mul, Int.mul_sub, h4]
      omega
    refine em_core (y := -((t * l.getD k' 0 % m : Nat) : Int)) (ts := -((t * l.getD j 0 % m : Nat) : Int)) (q := (((2 * T.length - s) / T.length : Nat) : Int) - (((2 * T.length - s - k) / T.length : Nat) : Int)) (by omega) (by omega) (hneg _) (hneg _) ?_
    rw [Int.mul_sub]
    omega
  refine ⟨psl_srt hpos _, fun x => ?_⟩
  rw [psl_mem]
  constructor
  · rintro ⟨k, k1, e⟩
    obtain ⟨k', h1, h2⟩ := (hmem _).mp (gd_mem (l := T) (Nat.mod_lt (2 * T.length - s - k) (show 0 < T.length by omega)))
    exact ⟨k', h1, by rw [e]; exact core k k' k1 h1 h2.symm⟩
  · rintro ⟨k', h1, e⟩
    obtain ⟨z, z1, z2⟩ := mem_gd ((hmem _).mpr ⟨k', h1, rfl⟩)
    have hA := Nat.div_add_mod (2 * T.length - s - z) T.length
    have hAm := Nat.mod_lt (2 * T.length - s - z) (show 0 < T.length by omega)
    refine ⟨(2 * T.length - s - z) % T.length, by omega, ?_⟩
    have hz : (2 * T.length - s - (2 * T.length - s - z) % T.length) % T.length = z := by
      have h3 : 2 * T.length - s - (2 * T.length - s - z) % T.length = z + T.length * ((2 * T.length - s - z) / T.length) := by omega
      rw [h3, Nat.add_mul_mod_self_left, Nat.mod_eq_of_lt z1]
    have := core ((2 * T.length - s - z) % T.length) k' (by omega) h1 (by rw [hz]; exact z2.symm)
    rw [← e] at this
    exact (Int.ofNat.inj this).symm
/-- rows of gaps whose rotations are just the forms of t -/
def CG (l : List Nat) (m t : Nat) (g : List Nat) : Prop := g.length = l.length ∧ (∀ x, x ∈ g → 1 ≤ x ∧ x ≤ m) ∧ (∀ s, s < l.length → ps (rt g s) l.length = m) ∧ (∀ s, s < l.length → ∃ j, j < l.length ∧ FO l m t j (psl (rt g s) l.length)) ∧ ∀ j, j < l.length → ∃ s, s < l.length ∧ FO l m t j (psl (rt g s) l.length)
theorem CG_P {l : List Nat} {m t : Nat} (hl : MOK l) (hm : 1 ≤ m) (hm2 : m ≤ 1000) (hg : Nat.gcd m t = 1) (hlow : Low l m) (hn : 1 ≤ l.length) : CG l m t (gl (Tt l m t) m) := by
  obtain ⟨t1, t2, t3⟩ := Tt_ok hl hm hm2 hg hlow
  have hn' : 1 ≤ (Tt l m t).length := by omega
  refine ⟨by rw [gl_len m hn', t2], gl_pos t1 hn' t3, fun s _ => by rw [← t2]; exact ps_tot t1 hn' t3 s, fun s hs => ?_, fun j hj => ?_⟩
  · obtain ⟨j, j1, j2⟩ := (Tt_mem hm hm2).mp (gd_mem (l := Tt l m t) (k := s) (by omega))
    exact ⟨j, j1, fm_P hl hm hm2 hg hlow hn hs j1 j2.symm⟩
  · obtain ⟨s, s1, s2⟩ := mem_gd ((Tt_mem (l := l) (t := t) hm hm2).mpr ⟨j, hj, rfl⟩)
    exact ⟨s, by omega, fm_P hl hm hm2 hg hlow hn (by omega) hj s2.symm⟩
theorem CG_Q {l : List Nat} {m t : Nat} (hl : MOK l) (hm : 1 ≤ m) (hm2 : m ≤ 1000) (hg : Nat.gcd m t = 1) (htm : t ≤ m) (hlow : Low l m) (hn : 1 ≤ l.length) : CG l m (m - t) (gl (Tt l m t) m).reverse := by
  obtain ⟨t1, t2, t3⟩ := Tt_ok hl hm hm2 hg hlow
  have hn' : 1 ≤ (Tt l m t).length := by omega
  refine ⟨by rw [List.length_reverse, gl_len m hn', t2], fun x hx => gl_pos t1 hn' t3 x (List.mem_reverse.mp hx), fun s hs => by rw [← t2]; exact ps_totr t1 hn' t3 (by omega), fun s hs => ?_, fun j hj => ?_⟩
  · obtain ⟨j, j1, j2⟩ := (Tt_mem hm hm2).mp (gd_mem (l := Tt l m t) (k := (2 * l.length - s) % l.length) (by rw [t2]; exact Nat.mod_lt _ (by omega)))
    exact ⟨j, j1, fm_Q hl hm hm2 hg htm hlow hn hs j1 j2.symm⟩
  · obtain ⟨i, i1, i2⟩ := mem_gd ((Tt_mem (l := l) (t := t) hm hm2).mpr ⟨j, hj, rfl⟩)
    rw [t2] at i1
    by_cases h0 : i = 0
    · refine ⟨0, by omega, fm_Q hl hm hm2 hg htm hlow hn (by omega) hj ?_⟩
      rw [Nat.sub_zero, Nat.mul_mod_left, ← i2, h0]
    · refine ⟨l.length - i, by omega, fm_Q hl hm hm2 hg htm hlow hn (by omega) hj ?_⟩
      rw [show 2 * l.length - (l.length - i) = i + l.length by omega, Nat.add_mod_right, Nat.mod_eq_of_lt i1, i2]
