/-! the class's canonical form -/
def OKb (l : List Nat) (m : Nat) (b : List Nat) : Prop := b ≠ [] → b.length = l.length ∧ ps (bF b) l.length = m ∧ (∀ x, x ∈ b → 1 ≤ x ∧ x ≤ m) ∧ ∃ t j, 1 ≤ t ∧ t < m ∧ Nat.gcd m t = 1 ∧ j < l.length ∧ FO l m t j (psl (bF b) l.length)
def ABo (l : List Nat) (m : Nat) (b : List Nat) (t : Nat) : Prop := ∀ j F, j < l.length → FO l m t j F → b ≠ [] ∧ ¬ LX (fun k => F.getD k 0) (ps (bF b)) l.length
theorem tb_step {S : ST} {l g b : List Nat} {m t : Nat} (hn : 1 ≤ l.length) (hm2 : m ≤ 1000) (ht1 : 1 ≤ t) (ht2 : t < m) (hg : Nat.gcd m t = 1) (hc : CG l m t g) (hm : MS S 22 g) (hb : MS S 23 b) (hok : OKb l m b) : ∃ S' b', f_X8_takeBest S = some S' ∧ MS S' 23 b' ∧ OKb l m b' ∧ ABo l m b' t ∧ (∀ t', ABo l m b t' → ABo l m b' t') ∧ FR [23] [23] [] S S' := by
  obtain ⟨c1, c2, c3, c4, c5⟩ := hc
  have hl : b = [] ∨ b.length = g.length := by
    by_cases e : b = []
    · exact Or.inl e
    · exact Or.inr (by rw [(hok e).1, c1])
  have hb2 : ∀ x, x ∈ b → x < 2 ^ 29 := fun x hx => by
    have := (hok (fun e => by rw [e] at hx; exact absurd hx (by simp))).2.2.1 x hx
    omega
  obtain ⟨S1, b1, e1, m1, l1, q1, q2, q3, f1⟩ := X8_takeBest hm (by omega) (fun x hx => by have := c2 x hx; omega) hb hl hb2
  rw [c1] at l1 q1 q2 q3
  have hne : b1 ≠ [] := fun e => by rw [e] at l1; have l1 : 0 = l.length := l1; omega
  have hok1 : OKb l m b1 := fun _ => by
    rcases q1 with ⟨s, s1, s2⟩ | ⟨s1, s2⟩
    · have hv : ∀ k, k < l.length → bF b1 k = rt g s k := fun k hk => by rw [s2]; exact mr_gd (rt g s) hk
      have hpsl : psl (bF b1) l.length = psl (rt g s) l.length := List.map_congr_left (fun k hk => ps_cg k (fun j hj => hv j (by have := List.mem_range.mp hk; omega)))
      obtain ⟨j, j1, j2⟩ := c4 s s1
      refine ⟨l1, by rw [ps_cg _ hv]; exact c3 s s1, fun x hx => ?_, t, j, ht1, ht2, hg, j1, by rw [hpsl]; exact j2⟩
      rw [s2] at hx
      obtain ⟨k, _, k2⟩ := List.mem_map.mp hx
      rw [← k2]
      exact c2 _ (gd_mem (Nat.mod_lt _ (by omega)))
    · rw [s2]; exact hok s1
  have htot := (hok1 hne).2.1
  refine ⟨S1, b1, e1, m1, hok1, fun j F hj hF => ⟨hne, fun hlx => ?_⟩, fun t' hab j F hj hF => ⟨hne, fun hlx => ?_⟩, f1⟩
  · obtain ⟨s, s1, s2⟩ := c5 j hj
    rw [hF.uq s2] at hlx
    have h2 : LX (ps (rt g s)) (ps (bF b1)) l.length := hlx.cg (fun k hk => mr_gd (ps (rt g s)) hk) (fun _ _ => rfl)
    exact q2 s (ps_LX ((c3 s s1).trans htot.symm) h2)
  · obtain ⟨h0, h1⟩ := hab j F hj hF
    have htb := (hok h0).2.1
    rcases LX.tri (ps (bF b)) (ps (bF b1)) l.length with d | d | d
    · exact q3 h0 (ps_LX (htb.trans htot.symm) d)
    · exact h1 (hlx.tr d)
    · exact h1 (hlx.cg (fun _ _ => rfl) (fun k hk => (d k hk).symm))
theorem mc24_l {l : List Nat} {m i : Nat} (hl : MOK l) (hm1 : 2 ≤ m) (hm2 : m ≤ 1000) (hlow : Low l m) (hn : 1 ≤ l.length) (hi : i < 20) : ∀ (f k : Nat) (S : ST) (b : List Nat), MS S i l → UL S (unitsOf m) → fi S (30 + 0) = nI m → MS S 23 b → OKb l m b → (∀ x, x < k → (unitsOf m).getD x 0 ≤ m - (unitsOf m).getD x 0 → ABo l m b ((unitsOf m).getD x 0) ∧ ABo l m b (m - (unitsOf m).getD x 0)) → k ≤ (unitsOf m).length → (unitsOf m).length < f + k → ∃ S' b', f_X8_makeCanonical_24 f S i (nI k) = some S' ∧ MS S' 20 (psl (bF b') b'.length) ∧ OKb l m b' ∧ (∀ x, x < (unitsOf m).length → (unitsOf m).getD x 0 ≤ m - (unitsOf m).getD x 0 → ABo l m b' ((unitsOf m).getD x 0) ∧ ABo l m b' (m - (unitsOf m).getD x 0)) ∧ FR [20, 21, 22, 23] [20, 21, 22, 23] [0] S S'
  | 0, k, S, b, _, _, _, _, _, _, _, h => absurd h (by omega)
  | f + 1, k, S, b, hm, hU, h30, hb, hok, hab, h1, h2 => by
    have hu1000 := hU.1
    unfold f_X8_makeCanonical_24 f_X8_makeCanonical_101
    rw [hU.2.1]
    by_cases hk : k = (unitsOf m).length
    · rw [if_pos (nI_le (show (unitsOf m).length ≤ k by omega) (by omega))]
      obtain ⟨S1, e1, m1, f1⟩ := X1_spill hb
      rw [e1, oV_s]
      exact ⟨S1, b, rfl, m1, hok, by rw [← hk]; exact hab, f1.wk (by simp) (by simp) (by simp)⟩
    · have hk : k < (unitsOf m).length := by omega
      obtain ⟨u1, u2, u3⟩ := (unitsOf_mem hm1).mp (gd_mem hk)
      rw [if_neg (nI_ge hk (by omega)), hU.at hk, oB_s, h30, z_sub (show (unitsOf m).getD k 0 ≤ m by omega)]
      by_cases hle : (unitsOf m).getD k 0 ≤ m - (unitsOf m).getD k 0
      · generalize hu : (unitsOf m).getD k 0 = u at *
        rw [if_neg (nI_nlt hle (by omega))]
        obtain ⟨S1, e1, m1, f1⟩ := X8_turn (s := 0) hl (show 1 ≤ m by omega) hm2 (show u ≤ 1000 by omega) (by omega) 21 hm h30
        have m1 : MS S1 21 (Tt l m u) := m1
        rw [show f_X8_turn S i (nI u) 0 21 = some S1 from e1, oV_s]
        obtain ⟨t1, t2, t3⟩ := Tt_ok hl (show 1 ≤ m by omega) hm2 u3 hlow
        have h30a : fi S1 (30 + 0) = nI m := by rw [f1.1 _ (by simp)]; exact h30
        have hn' : 1 ≤ (Tt l m u).length := by omega
        have hsp : spanOf (Tt l m u) ≤ m := by
          have := t3 _ (gd_mem (show (Tt l m u).length - 1 < (Tt l m u).length by omega))
          rw [span_e t1 hn']
          omega
        obtain ⟨S2, e2, m2, f2⟩ := X1_measure t1 hn' hsp m1
        rw [h30a, e2, oV_s]
        obtain ⟨S3, b3, e3, m3, ok3, ab3, ke3, f3⟩ := tb_step hn hm2 u1 u2 u3 (CG_P hl (by omega) hm2 u3 hlow hn) m2 ((hb.fr f1 (by simp) (by simp)).fr f2 (by simp) (by simp)) hok
        rw [e3, oV_s]
        have hgl := gl_len (T := Tt l m u) m hn'
        obtain ⟨S4, e4, m4, f4⟩ := X1_reverse (m2.fr f3 (by simp) (by simp)) (by omega)
        rw [e4, oV_s]
        have hgq : Nat.gcd m (m - u) = 1 := by rw [Nat.gcd_self_sub_right (by omega)]; exact u3
        obtain ⟨S5, b5, e5, m5, ok5, ab5, ke5, f5⟩ := tb_step (t := m - u) hn hm2 (by omega) (by omega) hgq (CG_Q hl (by omega) hm2 u3 (by omega) hlow hn) m4 (m3.fr f4 (by simp) (by simp)) ok3
        rw [e5, oV_s, oL_s, nI_1]
        have fall : FR [20, 21, 22, 23] [20, 21, 22, 23] [0] S S5 := (f1.wk (by simp) (by simp) (by simp)).tr ((f2.wk (by simp) (by simp) (by simp)).tr ((f3.wk (by simp) (by simp) (by simp)).tr ((f4.wk (by simp) (by simp) (by simp)).tr (f5.wk (by simp) (by simp) (by simp)))))
        obtain ⟨S6, b6, e6, m6, ok6, ab6, f6⟩ := mc24_l hl hm1 hm2 hlow hn hi f (k + 1) S5 b5 (hm.fr fall (by simp; omega) (by simp; omega)) (hU.fr fall (by simp) (by simp)) (by rw [fall.1 _ (by simp)]; exact h30) m5 ok5 (fun x hx hxl => by
          by_cases e : x = k
          · rw [e, hu]
            exact ⟨ke5 u ab3, ab5⟩
          · obtain ⟨a1, a2⟩ := hab x (by omega) hxl
            exact ⟨ke5 _ (ke3 _ a1), ke5 _ (ke3 _ a2)⟩) (by omega) (by omega)
        exact ⟨S6, b6, e6, m6, ok6, ab6, fall.tr f6⟩
      · rw [if_pos (nI_lt (show m - (unitsOf m).getD k 0 < (unitsOf m).getD k 0 by omega) (by omega)), oL_s, nI_1]
        exact mc24_l hl hm1 hm2 hlow hn hi f (k + 1) S b hm hU h30 hb hok (fun x hx hxl => by
          by_cases e : x = k
          · rw [e] at hxl; exact absurd hxl hle
          · exact hab x (by omega) hxl) (by omega) (by omega)
/-- the first form -/
def CAN (l : List Nat) (m : Nat) (Z : List Nat) : Prop := Z.length = l.length ∧ (∃ t j, 1 ≤ t ∧ t < m ∧ Nat.gcd m t = 1 ∧ j < l.length ∧ FO l m t j Z) ∧ ∀ t j F, 1 ≤ t → t < m → Nat.gcd m t = 1 → j < l.length → FO l m t j F → ¬ LX (fun k => F.getD k 0) (fun k => Z.getD k 0) l.length
theorem l_ext {a b : List Nat} (hl : a.length = b.length) (h : ∀ k, k < a.length → a.getD k 0 = b.getD k 0) : a = b := by
  apply List.ext_getElem hl
  intro i h1 h2
  have := h i h1
  rw [List.getD_eq_getElem?_getD, List.getD_eq_getElem?_getD, List.getElem?_eq_getElem h1, List.getElem?_eq_getElem h2] at this
  exact this
theorem CAN.uq {l Z Z' : List Nat} {m : Nat} (h : CAN l m Z) (h' : CAN l m Z') : Z = Z' := by
  obtain ⟨l1, ⟨t, j, a1, a2, a3, a4, a5⟩, c1⟩ := h
  obtain ⟨l2, ⟨t', j', b1, b2, b3, b4, b5⟩, c2⟩ := h'
  rcases LX.tri (fun k => Z.getD k 0) (fun k => Z'.getD k 0) l.length with d | d | d
  · exact absurd d (c2 t j Z a1 a2 a3 a4 a5)
  · exact absurd d (c1 t' j' Z' b1 b2 b3 b4 b5)
  · exact l_ext (by omega) (fun k hk => d k (by omega))
theorem CAN.ok {l Z : List Nat} {m : Nat} (hl : MOK l) (hm1 : 2 ≤ m) (hm2 : m ≤ 1000) (h : CAN l m Z) : MOK Z := by
  obtain ⟨l1, ⟨t, j, _, _, _, _, a5⟩, _⟩ := h
  refine ⟨a5.1, by have := hl.2.1; omega, fun x hx => ?_⟩
  obtain ⟨k, _, e⟩ := (a5.2 x).mp hx
  have := Int.emod_lt_of_pos ((t : Int) * (l.getD k 0 : Nat) - (t : Int) * (l.getD j 0 : Nat)) (show (0 : Int) < m by omega)
  omega
theorem X8_makeCanonical {S : ST} {l : List Nat} {m i : Nat} (hl : MOK l) (hm1 : 2 ≤ m) (hm2 : m ≤ 1000) (hlow : Low l m) (hn : 1 ≤ l.length) (hi : i < 20) (hm : MS S i l) (hu : UN S) (h30 : fi S (30 + 0) = nI m) : ∃ S' Z, f_X8_makeCanonical S i = some S' ∧ MS S' 20 Z ∧ CAN l m Z ∧ UN S' ∧ FR [20, 21, 22, 23, 25, 26] [20, 21, 22, 23, 25] [0] S S' := by
  obtain ⟨S1, e1, u1, n1, f1⟩ := hu.prepare hm1 hm2
  obtain ⟨z1, z2⟩ := X1_zero S1 23
  have fz : FR [20, 21, 22, 23, 25, 26] [20, 21, 22, 23, 25] [0] S (sI S1 23 0) := (f1.wk (by simp) (by simp) (by simp)).tr (z2.wk (by simp) (by simp) (by simp))
  obtain ⟨S2, b, e2, m2, ok2, ab2, f2⟩ := mc24_l hl hm1 hm2 hlow hn hi FU 0 (sI S1 23 0) [] (hm.fr fz (by simp; omega) (by simp; omega)) (u1.fr z2 (by simp) (by simp)) (by rw [fz.1 _ (by simp)]; exact h30) z1 (fun q => absurd rfl q) (fun x hx => absurd hx (by omega)) (by omega) (by unfold FU; have := u1.1; omega)
  have hall : ∀ t, 1 ≤ t → t < m → Nat.gcd m t = 1 → ABo l m b t := fun t h1 h2 h3 => by
    by_cases c : t ≤ m - t
    · obtain ⟨x, x1, x2⟩ := mem_gd ((unitsOf_mem hm1).mpr ⟨h1, h2, h3⟩)
      have := (ab2 x x1 (by rw [x2]; exact c)).1
      rw [x2] at this
      exact this
    · have hg2 : Nat.gcd m (m - t) = 1 := by rw [Nat.gcd_self_sub_right (by omega)]; exact h3
      obtain ⟨x, x1, x2⟩ := mem_gd ((unitsOf_mem hm1).mpr ⟨show 1 ≤ m - t by omega, by omega, hg2⟩)
      have := (ab2 x x1 (by rw [x2]; omega)).2
      rw [x2, show m - (m - t) = t by omega] at this
      exact this
  have hne : b ≠ [] := by
    obtain ⟨s, _, s2⟩ := (CG_P (t := 1) hl (show 1 ≤ m by omega) hm2 (Nat.gcd_one_right m) hlow hn).2.2.2.2 0 (by omega)
    exact (hall 1 (by omega) (by omega) (Nat.gcd_one_right m) 0 _ (by omega) s2).1
  obtain ⟨k1, k2, k3, k4⟩ := ok2 hne
  rw [k1] at m2
  refine ⟨S2, psl (bF b) l.length, ?_, m2, ⟨psl_len _ _, k4, fun t j F h1 h2 h3 h4 h5 hlx => ?_⟩, (n1.fr z2 (by simp) (by simp) (by simp)).fr f2 (by simp) (by simp) (by simp), fz.tr (f2.wk (by simp) (by simp) (by simp))⟩
  · unfold f_X8_makeCanonical f_X8_makeCanonical_0
    rw [h30, e1, oV_s, oL_s]
    exact e2
  · exact (hall t h1 h2 h3 j F h4 h5).2 (hlx.cg (fun _ _ => rfl) (fun k hk => mr_gd (ps (bF b)) hk))
