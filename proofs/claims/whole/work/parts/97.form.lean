/-! gaps of a set modulo m, and back -/
def dT (T : List Nat) (i : Nat) : Nat := T.getD (i + 1) 0 - T.getD i 0
def gl (T : List Nat) (m : Nat) : List Nat := (List.range (T.length - 1)).map (dT T) ++ [m - spanOf T]
theorem gl_len {T : List Nat} (m : Nat) (hn : 1 ≤ T.length) : (gl T m).length = T.length := by
  unfold gl
  rw [List.length_append, List.length_map, List.length_range, List.length_singleton]
  omega
theorem gl_lo {T : List Nat} {m k : Nat} (h : k + 1 < T.length) : (gl T m).getD k 0 = T.getD (k + 1) 0 - T.getD k 0 := by
  unfold gl
  rw [gd_l (by rw [List.length_map, List.length_range]; omega), mr_gd _ (by omega)]
  rfl
theorem gl_hi {T : List Nat} {m : Nat} : (gl T m).getD (T.length - 1) 0 = m - spanOf T := by
  unfold gl
  rw [gd_r (by rw [List.length_map, List.length_range]; omega), List.length_map, List.length_range, Nat.sub_self]
  rfl
theorem span_e {T : List Nat} (hs : Srt T) (hn : 1 ≤ T.length) : spanOf T = T.getD (T.length - 1) 0 - T.getD 0 0 := by
  unfold spanOf
  by_cases h : T.length < 2
  · rw [if_pos h, show T.length - 1 = 0 by omega, Nat.sub_self]
  · rw [if_neg h]
theorem ml_l {T : List Nat} {m : Nat} (hs : Srt T) (hsp : spanOf T ≤ m) : ∀ (f k : Nat) (S : ST), MS S 21 T → MS S 22 ((List.range (k - 1)).map (dT T)) → 1 ≤ k → k ≤ T.length → T.length < f + k → ∃ S', f_X1_measure_7 f S 22 21 (nI m) (nI k) = some S' ∧ MS S' 22 (gl T m) ∧ FR [22] [22] [] S S'
  | 0, k, S, _, _, _, _, h => absurd h (by omega)
  | f + 1, k, S, hm, hw, h0, h1, h2 => by
    have h24 := hm.1
    have hwl : ((List.range (k - 1)).map (dT T)).length = k - 1 := by rw [List.length_map, List.length_range]
    unfold f_X1_measure_7
    rw [hm.2.1]
    by_cases hk : k = T.length
    · rw [if_pos (nI_le (show T.length ≤ k by omega) (by omega)), hm.span hs.ends, oB_s]
      rw [show nI m - nI (if T.length < 2 then 0 else T.getD (T.length - 1) 0 - T.getD 0 0) = nI (m - spanOf T) from z_sub hsp]
      obtain ⟨S1, e1, m1, f1⟩ := X1_push hw (by omega) (m - spanOf T)
      rw [e1, oV_s]
      refine ⟨S1, rfl, ?_, f1⟩
      unfold gl
      rw [← hk]
      exact m1
    · have hk : k < T.length := by omega
      have hlt := hs.lt (show k - 1 < k by omega) hk
      rw [if_neg (nI_ge hk (by omega)), hm.at hk, oB_s, show nI k - (1 : Int32) = nI (k - 1) from z_sub (b := 1) h0, hm.at (show k - 1 < T.length by omega), oB_s, z_sub (by omega)]
      obtain ⟨S1, e1, m1, f1⟩ := X1_push hw (by omega) (T.getD k 0 - T.getD (k - 1) 0)
      rw [e1, oV_s, oL_s, nI_1]
      have m1 : MS S1 22 ((List.range (k + 1 - 1)).map (dT T)) := by
        rw [show k + 1 - 1 = (k - 1) + 1 by omega, mr_s]
        unfold dT at m1 ⊢
        rw [show k - 1 + 1 = k by omega]
        exact m1
      obtain ⟨S2, e2, m2, f2⟩ := ml_l hs hsp f (k + 1) S1 (hm.fr f1 (by simp) (by simp)) m1 (by omega) (by omega) (by omega)
      exact ⟨S2, e2, m2, f1.tr f2⟩
theorem X1_measure {S : ST} {T : List Nat} {m : Nat} (hs : Srt T) (hn : 1 ≤ T.length) (hsp : spanOf T ≤ m) (hm : MS S 21 T) : ∃ S', f_X1_measure S 22 21 (nI m) = some S' ∧ MS S' 22 (gl T m) ∧ FR [22] [22] [] S S' := by
  have h24 := hm.1
  obtain ⟨z1, z2⟩ := X1_zero S 22
  obtain ⟨S1, e1, m1, f1⟩ := ml_l hs hsp FU 1 (sI S 22 0) (hm.fr z2 (by simp) (by simp)) z1 (by omega) (by omega) (by unfold FU; omega)
  exact ⟨S1, e1, m1, (z2.wk (by simp) (by simp) (by simp)).tr f1⟩
theorem rev_gd {g : List Nat} {k : Nat} (h : k < g.length) : g.reverse.getD k 0 = g.getD (g.length - 1 - k) 0 := by
  rw [List.getD_eq_getElem?_getD, List.getD_eq_getElem?_getD, List.getElem?_reverse h]
theorem rv9_l {g : List Nat} (h24 : g.length ≤ 24) : ∀ (f i : Nat) (S : ST), fi S 22 = nI g.length → i + 1 ≤ g.length → (∀ x, x < g.length → (x < i ∨ g.length - 1 - i < x) → ai S 22 x = nI (g.getD (g.length - 1 - x) 0)) → (∀ x, i ≤ x → x ≤ g.length - 1 - i → ai S 22 x = nI (g.getD x 0)) → g.length < f + i → ∃ S', f_X1_reverse_9 f S 22 (nI i) (nI (g.length - 1 - i)) = some S' ∧ MS S' 22 g.reverse ∧ FR [] [22] [] S S'
  | 0, i, S, _, h, _, _, h2 => absurd h2 (by omega)
  | f + 1, i, S, hc, h1, ho, hin, h2 => by
    unfold f_X1_reverse_9
    by_cases hk : g.length - 1 - i ≤ i
    · rw [if_pos (nI_le hk (by omega))]
      refine ⟨S, rfl, ⟨by rw [List.length_reverse]; exact h24, by rw [List.length_reverse]; exact hc, fun x hx => ?_⟩, FR.rf _ _ _ S⟩
      rw [List.length_reverse] at hx
      rw [rev_gd hx]
      by_cases c : x < i ∨ g.length - 1 - i < x
      · exact ho x hx c
      · rw [show g.length - 1 - x = x by omega]
        exact hin x (by omega) (by omega)
    · have e1 := hin i (Nat.le_refl _) (by omega)
      have e2 := hin (g.length - 1 - i) (by omega) (Nat.le_refl _)
      rw [if_neg (nI_ge (show i < g.length - 1 - i by omega) (by omega)), oG_t (inB_n (show i < 24 by omega) (by omega)), oL_s, oG_t (inB_n (show g.length - 1 - i < 24 by omega) (by omega)), oG_t (inB_n (show i < 24 by omega) (by omega)), oL_s, oG_t (inB_n (show g.length - 1 - i < 24 by omega) (by omega)), oL_s, oL_s, oL_s, nI_clamp (show i < 2 ^ 31 by omega), nI_clamp (show g.length - 1 - i < 2 ^ 31 by omega), nI_1, e1, e2, ai_sA_s]
      rw [show nI (g.length - 1 - i) + (-1) = nI (g.length - 1 - (i + 1)) by rw [show g.length - 1 - i = g.length - 1 - (i + 1) + 1 by omega, pk_m1]]
      obtain ⟨S1, q1, m1, f1⟩ := rv9_l h24 f (i + 1) (sA (sA S 22 (upd (ai S 22) i (nI (g.getD (g.length - 1 - i) 0)))) 22 (upd (upd (ai S 22) i (nI (g.getD (g.length - 1 - i) 0))) (g.length - 1 - i) (nI (g.getD i 0)))) hc (by omega) (fun x hx hc => by
        rw [ai_sA_s]
        by_cases c1 : x = g.length - 1 - i
        · rw [c1, pk_us, show g.length - 1 - (g.length - 1 - i) = i by omega]
        · rw [pk_un c1]
          by_cases c2 : x = i
          · rw [c2, pk_us]
          · rw [pk_un c2]; exact ho x hx (by omega)) (fun x hx hx2 => by
        rw [ai_sA_s, pk_un (by omega), pk_un (by omega)]
        exact hin x (by omega) (by omega)) (by omega)
      exact ⟨S1, q1, m1, ((FR.sA S 22 _).tr (FR.sA _ 22 _)).tr f1⟩
theorem X1_reverse {S : ST} {g : List Nat} (hm : MS S 22 g) (hn : 1 ≤ g.length) : ∃ S', f_X1_reverse S 22 = some S' ∧ MS S' 22 g.reverse ∧ FR [] [22] [] S S' := by
  have h24 := hm.1
  obtain ⟨S1, e1, m1, f1⟩ := rv9_l h24 FU 0 S hm.2.1 (by omega) (fun x hx hc => absurd hc (by omega)) (fun x _ hx => hm.2.2 x (by omega)) (by unfold FU; omega)
  refine ⟨S1, ?_, m1, f1⟩
  unfold f_X1_reverse f_X1_reverse_0
  rw [hm.2.1, oL_s, show nI g.length - (1 : Int32) = nI (g.length - 1 - 0) from z_sub (b := 1) hn]
  exact e1
def psl (f : Nat → Nat) (n : Nat) : List Nat := (List.range n).map (ps f)
theorem psl_len (f : Nat → Nat) (n : Nat) : (psl f n).length = n := by unfold psl; rw [List.length_map, List.length_range]
def bF (b : List Nat) (k : Nat) : Nat := b.getD k 0
theorem sp8_l {b : List Nat} : ∀ (f k : Nat) (S : ST), MS S 23 b → MS S 20 (psl (bF b) k) → k ≤ b.length → b.length < f + k → ∃ S', f_X1_spillInto_8 f S 23 20 (nI (ps (bF b) k)) (nI k) = some S' ∧ MS S' 20 (psl (bF b) b.length) ∧ FR [20] [20] [] S S'
  | 0, k, S, _, _, _, h => absurd h (by omega)
  | f + 1, k, S, hm, hw, h1, h2 => by
    have h24 := hm.1
    unfold f_X1_spillInto_8
    rw [hm.2.1]
    by_cases hk : k = b.length
    · rw [if_pos (nI_le (show b.length ≤ k by omega) (by omega))]
      exact ⟨S, rfl, by rw [← hk]; exact hw, FR.rf _ _ _ S⟩
    · have hk : k < b.length := by omega
      obtain ⟨S1, e1, m1, f1⟩ := hw.push (by rw [psl_len]; omega) (ps (bF b) k)
      have hm1 := hm.fr f1 (by simp) (by simp)
      rw [if_neg (nI_ge hk (by omega)), e1, oV_s, oG_t (inB_n (show k < 24 by omega) (by omega)), oL_s, oL_s, nI_clamp (by omega), hm1.2.2 k hk, nI_add, nI_1]
      have m1 : MS S1 20 (psl (bF b) (k + 1)) := by unfold psl; rw [mr_s]; exact m1
      obtain ⟨S2, e2, m2, f2⟩ := sp8_l f (k + 1) S1 hm1 m1 (by omega) (by omega)
      exact ⟨S2, e2, m2, f1.tr f2⟩
theorem X1_spill {S : ST} {b : List Nat} (hm : MS S 23 b) : ∃ S', f_X1_spillInto S 23 20 = some S' ∧ MS S' 20 (psl (bF b) b.length) ∧ FR [20] [20] [] S S' := by
  have h24 := hm.1
  obtain ⟨S1, e1, m1, f1⟩ := MS.empty S 20
  obtain ⟨S2, e2, m2, f2⟩ := sp8_l FU 0 S1 (hm.fr f1 (by simp) (by simp)) m1 (by omega) (by unfold FU; omega)
  refine ⟨S2, ?_, m2, (f1.wk (by simp) (by simp) (by simp)).tr f2⟩
  unfold f_X1_spillInto f_X1_spillInto_0
  rw [e1, oV_s]
  exact e2
theorem ps_lt {f : Nat → Nat} (hf : ∀ k, 1 ≤ f k) {j : Nat} : ∀ {k : Nat}, j < k → ps f j < ps f k
  | 0, h => absurd h (by omega)
  | k + 1, h => by
    show ps f j < ps f k + f k
    have := hf k
    by_cases e : j = k
    · rw [e]; omega
    · have := ps_lt hf (show j < k by omega); omega
theorem psl_srt {f : Nat → Nat} (hf : ∀ k, 1 ≤ f k) (n : Nat) : Srt (psl f n) := by
  unfold psl Srt
  rw [List.pairwise_map]
  exact List.pairwise_lt_range.imp (fun h => ps_lt hf h)
theorem psl_mem {f : Nat → Nat} {n x : Nat} : x ∈ psl f n ↔ ∃ k, k < n ∧ x = ps f k := by
  unfold psl
  rw [List.mem_map]
  constructor
  · rintro ⟨k, hk, e⟩; exact ⟨k, List.mem_range.mp hk, e.symm⟩
  · rintro ⟨k, hk, e⟩; exact ⟨k, List.mem_range.mpr hk, e.symm⟩
/-! the marks as they go on and on -/
def EE (T : List Nat) (m k : Nat) : Nat := T.getD (k % T.length) 0 + m * (k / T.length)
theorem EE_e {T : List Nat} {m a b : Nat} (hb : b < T.length) : EE T m (T.length * a + b) = T.getD b 0 + m * a := by
  unfold EE
  rw [Nat.mul_add_mod, Nat.mod_eq_of_lt hb, Nat.mul_add_div (by omega), Nat.div_eq_of_lt hb, Nat.add_zero]
theorem EE_n {T : List Nat} {m k : Nat} (hn : 1 ≤ T.length) : EE T m (k + T.length) = EE T m k + m := by
  unfold EE
  rw [Nat.add_mod_right, Nat.add_div_right _ (by omega), Nat.mul_succ]
  omega
theorem EE_s {T : List Nat} {m : Nat} (hs : Srt T) (hn : 1 ≤ T.length) (hlow : Low T m) (k : Nat) : EE T m (k + 1) = EE T m k + cq (gl T m) k := by
  have hk := Nat.div_add_mod k T.length
  have hb := Nat.mod_lt k (show 0 < T.length by omega)
  unfold cq
  rw [gl_len m hn]
  generalize k / T.length = a at *
  generalize k % T.length = b at *
  rw [← hk, EE_e hb]
  by_cases c : b + 1 < T.length
  · have hlt := hs.lt (show b < b + 1 by omega) c
    rw [Nat.add_assoc, EE_e c, gl_lo c]
    omega
  · have e : b = T.length - 1 := by omega
    have h0 := hlow _ (gd_mem (show T.length - 1 < T.length by omega))
    have h1 := hs.ends
    rw [e, gl_hi, span_e hs hn, show T.length * a + (T.length - 1) + 1 = T.length * (a + 1) + 0 by rw [Nat.mul_succ]; omega, EE_e (show 0 < T.length by omega), Nat.mul_succ]
    omega
theorem gl_pos {T : List Nat} {m : Nat} (hs : Srt T) (hn : 1 ≤ T.length) (hlow : Low T m) : ∀ x, x ∈ gl T m → 1 ≤ x ∧ x ≤ m := fun x hx => by
  obtain ⟨k, k1, k2⟩ := mem_gd hx
  rw [gl_len m hn] at k1
  by_cases c : k + 1 < T.length
  · have hlt := hs.lt (show k < k + 1 by omega) c
    have h0 := hlow _ (gd_mem c)
    rw [gl_lo c] at k2
    omega
  · have h0 := hlow _ (gd_mem (show T.length - 1 < T.length by omega))
    have h1 := hs.ends
    rw [show k = T.length - 1 by omega, gl_hi, span_e hs hn] at k2
    omega
theorem ps_rt {T : List Nat} {m : Nat} (hs : Srt T) (hn : 1 ≤ T.length) (hlow : Low T m) (s : Nat) : ∀ k, ps (rt (gl T m) s) k + EE T m s = EE T m (s + k)
  | 0 => by show 0 + _ = _; rw [Nat.zero_add]; rfl
  | k + 1 => by
    show ps (rt (gl T m) s) k + cq (gl T m) (s + k) + EE T m s = EE T m (s + k + 1)
    rw [EE_s hs hn hlow, ← ps_rt hs hn hlow s k]
    omega
theorem cq_rev {g : List Nat} {x : Nat} (hx : x < 2 * g.length) : cq g.reverse x = cq g (2 * g.length - 1 - x) := by
  by_cases c : x < g.length
  · rw [cq_lt (show x < g.reverse.length by rw [List.length_reverse]; exact c), rev_gd c, show 2 * g.length - 1 - x = (g.length - 1 - x) + g.length by omega, cq_n, cq_lt (by omega)]
  · have e := cq_n g.reverse (x - g.length)
    rw [List.length_reverse, show x - g.length + g.length = x by omega] at e
    rw [e, cq_lt (show x - g.length < g.reverse.length by rw [List.length_reverse]; omega), rev_gd (by omega), cq_lt (show 2 * g.length - 1 - x < g.length by omega)]
    congr 1
    omega
theorem ps_rv {T : List Nat} {m : Nat} (hs : Srt T) (hn : 1 ≤ T.length) (hlow : Low T m) {s : Nat} : ∀ k, s + k ≤ 2 * T.length → ps (rt (gl T m).reverse s) k + EE T m (2 * T.length - s - k) = EE T m (2 * T.length - s)
  | 0, _ => by show 0 + _ = _; rw [Nat.zero_add]; rfl
  | k + 1, h => by
    have hgl := gl_len m hn
    show ps (rt (gl T m).reverse s) k + cq (gl T m).reverse (s + k) + EE T m (2 * T.length - s - (k + 1)) = _
    rw [cq_rev (by omega), hgl, ← ps_rv hs hn hlow k (by omega), show 2 * T.length - s - k = 2 * T.length - s - (k + 1) + 1 by omega, EE_s hs hn hlow, show 2 * T.length - 1 - (s + k) = 2 * T.length - s - (k + 1) by omega]
    omega
