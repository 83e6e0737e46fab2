/-! the construction of Mian and Chowla -/
def ext (n : Nat) : Nat → Nat → List Nat → List Nat → List Nat
  | 0, _, w, _ => w
  | f + 1, x, w, s => if n ≤ w.length then w else if ∀ y, y ∈ w → x - y ∉ s then ext n f (x + 1) (w ++ [x]) (w.map (fun y => x - y) ++ s) else ext n f (x + 1) w s
theorem ext_len {n : Nat} (hn : n ≤ 24) : ∀ f x w s, w.length ≤ 24 → (ext n f x w s).length ≤ 24
  | 0, x, w, s, h => h
  | f + 1, x, w, s, h => by
    unfold ext
    split
    · exact h
    · split
      · exact ext_len hn f _ _ _ (by rw [List.length_append]; show w.length + 1 ≤ 24; omega)
      · exact ext_len hn f _ _ _ h
theorem ext_ok {n : Nat} : ∀ f x w s, Srt w → (∀ y, y ∈ w → y < x) → x + f ≤ 2001 → (∀ y, y ∈ w → y ≤ 2000) → Srt (ext n f x w s) ∧ ∀ y, y ∈ ext n f x w s → y ≤ 2000
  | 0, x, w, s, h, _, _, hb => ⟨h, hb⟩
  | f + 1, x, w, s, h, hlt, hx, hb => by
    unfold ext
    split
    · exact ⟨h, hb⟩
    · split
      · refine ext_ok f (x + 1) _ _ ?_ (fun y hy => ?_) (by omega) (fun y hy => ?_)
        · unfold Srt
          rw [List.pairwise_append]
          refine ⟨h, List.pairwise_singleton _ _, fun a ha b hb => ?_⟩
          rw [List.mem_singleton.mp hb]; exact hlt a ha
        · rcases List.mem_append.mp hy with q | q
          · have := hlt y q; omega
          · rw [List.mem_singleton.mp q]; omega
        · rcases List.mem_append.mp hy with q | q
          · exact hb y q
          · rw [List.mem_singleton.mp q]; omega
      · exact ext_ok f (x + 1) w s h (fun y hy => by have := hlt y hy; omega) (by omega) hb
theorem xc_fin {S : ST} {w : List Nat} {n : Nat} (hm : MS S 20 w) (hn : n ≤ 24) : ∃ r, f_X8_makeExtended_94 S (nI n) = some (r, S) ∧ BI r (w.length = n) := by
  have h24 := hm.1
  unfold f_X8_makeExtended_94 f_X8_makeExtended_110
  rw [hm.2.1]
  by_cases h : w.length = n
  · rw [if_pos (by rw [h]), oG_t (by decide)]
    exact ⟨1, rfl, BI.t h⟩
  · rw [if_neg (z_ne (by omega) (by omega) h), oG_t (by decide)]
    exact ⟨0, rfl, BI.f h⟩
theorem xc_l {v n : Nat} (hn : n ≤ 24) : ∀ (f x k : Nat) (S : ST) (w s : List Nat), MS S 20 w → BR S (v + 1) s → (∀ y, y ∈ w → y < x) → x + f = 2001 → f < k → ∃ r S', f_X8_makeExtended_37 k S v (nI n) (nI x) = some (r, S') ∧ BI r ((ext n f x w s).length = n) ∧ MS S' 20 (ext n f x w s) ∧ FR [20] [20] [v + 1] S S'
  | f, x, 0, S, w, s, _, _, _, _, h => absurd h (by omega)
  | 0, x, k + 1, S, w, s, hm, hb, hlt, hx, hk => by
    have h24 := hm.1
    obtain ⟨r, e, hr⟩ := xc_fin hm hn
    unfold f_X8_makeExtended_37
    refine ⟨r, S, ?_, hr, hm, FR.rf _ _ _ S⟩
    rw [hm.2.1, if_pos (show (2000 : Int32) < nI x by rw [show x = 2001 by omega]; decide), e]
    split <;> rfl
  | f + 1, x, k + 1, S, w, s, hm, hb, hlt, hx, hk => by
    have h24 := hm.1
    unfold f_X8_makeExtended_37 f_X8_makeExtended_88 ext
    rw [hm.2.1]
    by_cases hlen : n ≤ w.length
    · obtain ⟨r, e, hr⟩ := xc_fin hm hn
      rw [if_pos (nI_le hlen (by omega)), if_pos hlen]
      exact ⟨r, S, e, hr, hm, FR.rf _ _ _ S⟩
    · rw [if_neg (nI_ge (show w.length < n by omega) (by omega)), if_neg hlen, if_neg (show ¬ (2000 : Int32) < nI x from nI_nlt (a := 2000) (by omega) (by decide))]
      obtain ⟨r, e, hr⟩ := SP.isFree hb hm (x := x) (by omega) hlt
      rw [e, oB_s]
      by_cases hf : ∀ y, y ∈ w → x - y ∉ s
      · rw [if_neg (fun z => (hr.z.mp z) hf), if_pos hf]
        obtain ⟨S1, e1, b1, f1⟩ := SP.note hb hm (x := x) (by omega) hlt
        obtain ⟨S2, e2, m2, f2⟩ := (hm.fr f1 (by simp) (by simp)).push (by omega) x
        rw [e1, oV_s, e2, oV_s, oL_s, nI_1]
        obtain ⟨r3, S3, e3, q3, m3, f3⟩ := xc_l (v := v) hn f (x + 1) k S2 _ _ m2 (b1.fr f2 (by simp)) (fun y hy => by
          rcases List.mem_append.mp hy with q | q
          · have := hlt y q; omega
          · rw [List.mem_singleton.mp q]; omega) (by omega) (by omega)
        exact ⟨r3, S3, e3, q3, m3, (f1.wk (by simp) (by simp) (by simp)).tr ((f2.wk (by simp) (by simp) (by simp)).tr f3)⟩
      · rw [if_pos (hr.z.mpr hf), if_neg hf, oL_s, nI_1]
        exact xc_l hn f (x + 1) k S w s hm hb (fun y hy => by have := hlt y hy; omega) (by omega) (by omega)
def seed0 (l : List Nat) : List Nat := if l = [] then [0] else l
theorem seed_ok {l : List Nat} (h : MOK l) : MOK (seed0 l) ∧ (seed0 l).length ≠ 0 := by
  unfold seed0
  by_cases e : l = []
  · rw [if_pos e]
    exact ⟨⟨List.pairwise_singleton _ _, by decide, fun x hx => by rw [List.mem_singleton.mp hx]; omega⟩, by decide⟩
  · rw [if_neg e]
    exact ⟨h, fun q => e (List.length_eq_zero_iff.mp q)⟩
/-- what a set becomes when it is extended to n marks -/
def extOf (l : List Nat) (n : Nat) : List Nat := ext n (2000 - (seed0 l).getD ((seed0 l).length - 1) 0) ((seed0 l).getD ((seed0 l).length - 1) 0 + 1) (seed0 l) (Ds l)
theorem lt_last {l : List Nat} (h : Srt l) : ∀ y, y ∈ l → y < l.getD (l.length - 1) 0 + 1 := fun y hy => by
  have := h.le_last hy; omega
theorem X8_makeExtended {S : ST} {v n : Nat} (hv : v < 4) (hn : n ≤ 24) {l : List Nat} (hl : MOK l) (hm : MS S v l) (hb : BR S (v + 1) (Ds l)) : ∃ r S', f_X8_makeExtended S v v (nI n) = some (r, S') ∧ BI r ((extOf l n).length = n) ∧ MS S' 20 (extOf l n) ∧ FR [20] [20] [v + 1] S S' := by
  obtain ⟨hs, hs0⟩ := seed_ok hl
  obtain ⟨S1, e1, m1, f1⟩ := X2_take S 20 v
  have m1 := m1 l hm
  have h24 := hl.2.1
  have key : ∀ S2, MS S2 20 (seed0 l) → BR S2 (v + 1) (Ds l) → ∃ r S', f_X8_makeExtended_26 S2 v (nI n) = some (r, S') ∧ BI r ((extOf l n).length = n) ∧ MS S' 20 (extOf l n) ∧ FR [20] [20] [v + 1] S2 S' := fun S2 m2 b2 => by
    have hle := hs.le (show (seed0 l).length - 1 < (seed0 l).length by omega)
    unfold f_X8_makeExtended_26
    rw [m2.gr hs0, oB_s, oL_s, nI_1]
    exact xc_l hn (2000 - (seed0 l).getD ((seed0 l).length - 1) 0) _ FU S2 (seed0 l) (Ds l) m2 b2 (lt_last hs.1) (by omega) (by unfold FU; omega)
  unfold f_X8_makeExtended f_X8_makeExtended_0
  rw [e1, oV_s, m1.2.1]
  by_cases h0 : l = []
  · rw [if_pos (by rw [h0]; rfl)]
    obtain ⟨S2, e2, m2, f2⟩ := m1.push (by rw [h0]; decide) 0
    rw [show f_X2_push S1 20 0 = some S2 from e2, oV_s]
    have hse : seed0 l = l ++ [0] := by unfold seed0; rw [if_pos h0, h0]; rfl
    obtain ⟨r, S3, e3, q3, m3, f3⟩ := key S2 (by rw [hse]; exact m2) ((hb.fr f1 (by simp)).fr f2 (by simp))
    exact ⟨r, S3, e3, q3, m3, (f1.wk (by simp) (by simp) (by simp)).tr ((f2.wk (by simp) (by simp) (by simp)).tr f3)⟩
  · have : l.length ≠ 0 := fun q => h0 (List.length_eq_zero_iff.mp q)
    rw [if_neg (nI_ne0 (by omega) (by omega))]
    have hse : seed0 l = l := by unfold seed0; rw [if_neg h0]
    obtain ⟨r, S3, e3, q3, m3, f3⟩ := key S1 (by rw [hse]; exact m1) (hb.fr f1 (by simp))
    exact ⟨r, S3, e3, q3, m3, (f1.wk (by simp) (by simp) (by simp)).tr f3⟩
/-! the same in the reference -/
def OG (S : ST) (s : List Nat) : Prop := ∀ d, d ≤ 2000 → (ai S 33 d = 0 ↔ d ∉ s)
theorem OG.fr {I A B : List Nat} {S S' : ST} {s : List Nat} (h : OG S s) (hf : FR I A B S S') (hA : 33 ∉ A) : OG S' s := fun d hd => by rw [hf.2.1 33 hA]; exact h d hd
theorem OF.og {S : ST} {L : List Nat} (h : OF S L) (hL : L.length < 2 ^ 31) : OG S L := fun d hd => by
  have hc := cnt_lt hL d
  rw [h d hd, show (0 : Int32) = nI 0 from rfl, nI_eq hc (by decide), List.count_eq_zero]
theorem mc_l {S : ST} {w s : List Nat} (hm : MM S w) (ho : OG S s) {x : Nat} (hx : x ≤ 2000) (hlt : ∀ y, y ∈ w → y < x) : ∀ (n k : Nat) (r : Int32) (P : Prop), k ≤ w.length → w.length < n + k → BI r P → ∃ r', f_X9_mayCome_4 n S (nI x) r (nI k) = some (r', S) ∧ BI r' (P ∧ ∀ y, y ∈ w.drop k → x - y ∉ s)
  | 0, k, r, P, _, h, _ => absurd h (by omega)
  | n + 1, k, r, P, h1, h2, hr => by
    have h24 := hm.1
    unfold f_X9_mayCome_4 f_X9_mayCome_36 f_X9_mayCome_37
    rw [hm.2.1]
    by_cases hk : k = w.length
    · rw [hk, if_pos (nI_le (Nat.le_refl _) (by omega)), oG_t hr.isB, List.drop_length]
      exact ⟨r, rfl, hr.cg ⟨fun q => ⟨q, fun y hy => absurd hy (by simp)⟩, fun q => q.1⟩⟩
    · have hk : k < w.length := by omega
      have hy := hlt _ (gd_mem hk)
      rw [if_neg (nI_ge hk (by omega)), dr_c hk]
      have step : ∀ (r1 : Int32) (P1 : Prop), BI r1 P1 → (P1 ↔ P ∧ x - w.getD k 0 ∉ s) → ∃ r', oL (nI k + 1) (fun v1 => f_X9_mayCome_4 n S (nI x) r1 v1) = some (r', S) ∧ BI r' (P ∧ ∀ y, y ∈ w.getD k 0 :: w.drop (k + 1) → x - y ∉ s) := fun r1 P1 hr1 e1 => by
        rw [oL_s, nI_1]
        obtain ⟨r', e, q⟩ := mc_l hm ho hx hlt n (k + 1) r1 P1 (by omega) (by omega) hr1
        refine ⟨r', e, q.cg ⟨fun ⟨q1, q2⟩ => ⟨(e1.mp q1).1, fun y hy => ?_⟩, fun ⟨q1, q2⟩ => ⟨e1.mpr ⟨q1, q2 _ List.mem_cons_self⟩, fun y hy => q2 y (List.mem_cons_of_mem _ hy)⟩⟩⟩
        rcases List.mem_cons.mp hy with z | z
        · rw [z]; exact (e1.mp q1).2
        · exact q2 y z
      by_cases hz : r = 0
      · have := hr.z.mp hz
        rw [if_pos hz]
        exact step 0 False (BI.f (fun q => q)) ⟨fun q => absurd q (fun q => q), fun q => absurd q.1 this⟩
      · have hP : P := Classical.byContradiction (fun q => hz (hr.z.mpr q))
        rw [if_neg hz, oG_t (inB_n (show k < 24 by omega) (by omega)), nI_clamp (show k < 2 ^ 31 by omega), hm.2.2 k hk, z_sub (by omega), oG_t (inB_n (show x - w.getD k 0 < 2001 by omega) (by omega)), nI_clamp (show x - w.getD k 0 < 2 ^ 31 by omega)]
        by_cases h3 : x - w.getD k 0 ∉ s
        · rw [if_pos ((ho _ (by omega)).mpr h3)]
          exact step 1 True (BI.t trivial) ⟨fun _ => ⟨hP, h3⟩, fun _ => trivial⟩
        · rw [if_neg (fun q => h3 ((ho _ (by omega)).mp q))]
          exact step 0 False (BI.f (fun q => q)) ⟨fun q => absurd q (fun q => q), fun q => absurd q.2 h3⟩
theorem x65_l {w : List Nat} {x n : Nat} (hx : x ≤ 2000) (hlt : ∀ y, y ∈ w → y < x) (hs : Srt w) (hlen : w.length < 24) (k39 : ST → Int32 → Int32 → Option (Int32 × ST)) : ∀ (f k : Nat) (S : ST) (s : List Nat), MM S w → OG S s → k ≤ w.length → w.length < f + k → ∃ S' s', f_X9_extendsTo_65 k39 f S (nI n) (nI x) (nI k) = k39 S' (nI n) (nI (x + 1)) ∧ MM S' (w ++ [x]) ∧ OG S' s' ∧ (∀ d, d ∈ s' ↔ (∃ y, y ∈ w.drop k ∧ d = x - y) ∨ d ∈ s) ∧ FR [52] [32, 33] [] S S'
  | 0, k, S, s, _, _, _, h => absurd h (by omega)
  | f + 1, k, S, s, hm, ho, h1, h2 => by
    have h24 := hm.1
    unfold f_X9_extendsTo_65 f_X9_extendsTo_100
    rw [hm.2.1]
    by_cases hk : k = w.length
    · rw [hk, if_pos (nI_le (Nat.le_refl _) (by omega))]
      obtain ⟨S1, w1, e1, m1, s1, q1, f1⟩ := hm.comes hs (fun y hy => by have := hlt y hy; omega) (v := x) (by omega) (Or.inr hlen)
      have hw : w1 = w ++ [x] := srt_ext s1 (by
        unfold Srt
        rw [List.pairwise_append]
        refine ⟨hs, List.pairwise_singleton _ _, fun a ha b hb => ?_⟩
        rw [List.mem_singleton.mp hb]; exact hlt a ha) (fun y => by rw [q1 y, List.mem_append, List.mem_singleton]; exact Or.comm)
      rw [hw] at m1
      rw [e1, oV_s, oL_s, nI_1]
      refine ⟨S1, s, rfl, m1, ho.fr f1 (by simp), fun d => ?_, f1.wk (by simp) (by simp) (by simp)⟩
      rw [List.drop_length]
      simp
    · have hk : k < w.length := by omega
      have hy := hlt _ (gd_mem hk)
      rw [if_neg (nI_ge hk (by omega)), oG_t (inB_n (show k < 24 by omega) (by omega)), nI_clamp (show k < 2 ^ 31 by omega), hm.2.2 k hk, z_sub (by omega), oG_t (inB_n (show x - w.getD k 0 < 2001 by omega) (by omega)), oL_s, oL_s, nI_1, nI_clamp (show x - w.getD k 0 < 2 ^ 31 by omega)]
      have f0 := FR.sA S 33 (upd (ai S 33) (x - w.getD k 0) 1)
      obtain ⟨S1, s1, e1, m1, o1, q1, f1⟩ := x65_l (n := n) hx hlt hs hlen k39 f (k + 1) _ ((x - w.getD k 0) :: s) (hm.fr f0 (by simp) (by simp)) (fun d hd => by
        rw [ai_sA_s, List.mem_cons]
        by_cases e : d = x - w.getD k 0
        · rw [e, pk_us]
          exact ⟨fun q => absurd q (by decide), fun q => absurd (Or.inl rfl) q⟩
        · rw [pk_un e, ho d hd]
          exact ⟨fun q z => z.elim e q, fun q z => q (Or.inr z)⟩) (by omega) (by omega)
      refine ⟨S1, s1, e1, m1, o1, fun d => ?_, (f0.wk (by simp) (by simp) (by simp)).tr f1⟩
      rw [q1 d, dr_c hk, List.mem_cons]
      constructor
      · rintro (⟨y, y1, y2⟩ | y | y)
        · exact Or.inl ⟨y, List.mem_cons_of_mem _ y1, y2⟩
        · exact Or.inl ⟨_, List.mem_cons_self, y⟩
        · exact Or.inr y
      · rintro (⟨y, y1, y2⟩ | y)
        · rcases List.mem_cons.mp y1 with z | z
          · rw [z] at y2; exact Or.inr (Or.inl y2)
          · exact Or.inl ⟨y, z, y2⟩
        · exact Or.inr (Or.inr y)
theorem xm_fin {S : ST} {w : List Nat} {n : Nat} (hm : MM S w) (hn : n ≤ 24) : ∃ r, f_X9_extendsTo_106 S (nI n) = some (r, S) ∧ BI r (w.length = n) := by
  have h24 := hm.1
  unfold f_X9_extendsTo_106 f_X9_extendsTo_119
  rw [hm.2.1]
  by_cases h : w.length = n
  · rw [if_pos (by rw [h]), oG_t (by decide)]
    exact ⟨1, rfl, BI.t h⟩
  · rw [if_neg (z_ne (by omega) (by omega) h), oG_t (by decide)]
    exact ⟨0, rfl, BI.f h⟩
theorem ext_cg {n : Nat} : ∀ f x w s s', (∀ d, d ∈ s ↔ d ∈ s') → ext n f x w s = ext n f x w s'
  | 0, x, w, s, s', _ => rfl
  | f + 1, x, w, s, s', h => by
    have e : (∀ y, y ∈ w → x - y ∉ s) ↔ (∀ y, y ∈ w → x - y ∉ s') := ⟨fun q y hy z => q y hy ((h _).mpr z), fun q y hy z => q y hy ((h _).mp z)⟩
    unfold ext
    by_cases hl : n ≤ w.length
    · rw [if_pos hl, if_pos hl]
    · rw [if_neg hl, if_neg hl]
      by_cases hf : ∀ y, y ∈ w → x - y ∉ s
      · rw [if_pos hf, if_pos (e.mp hf)]
        exact ext_cg f _ _ _ _ (fun d => by rw [List.mem_append, List.mem_append, h d])
      · rw [if_neg hf, if_neg (fun q => hf (e.mpr q))]
        exact ext_cg f _ _ _ _ h
theorem xm_l {n : Nat} (hn : n ≤ 24) : ∀ (f x k : Nat) (S : ST) (w s : List Nat), MM S w → Srt w → OG S s → (∀ y, y ∈ w → y < x) → x + f = 2001 → f < k → ∃ r S', f_X9_extendsTo_39 k S (nI n) (nI x) = some (r, S') ∧ BI r ((ext n f x w s).length = n) ∧ MM S' (ext n f x w s) ∧ FR [52] [32, 33] [] S S'
  | f, x, 0, S, w, s, _, _, _, _, _, h => absurd h (by omega)
  | 0, x, k + 1, S, w, s, hm, hs, ho, hlt, hx, hk => by
    have h24 := hm.1
    obtain ⟨r, e, hr⟩ := xm_fin hm hn
    unfold f_X9_extendsTo_39
    refine ⟨r, S, ?_, hr, hm, FR.rf _ _ _ S⟩
    rw [hm.2.1, if_pos (show (2000 : Int32) < nI x by rw [show x = 2001 by omega]; decide), e]
    split <;> rfl
  | f + 1, x, k + 1, S, w, s, hm, hs, ho, hlt, hx, hk => by
    have h24 := hm.1
    unfold f_X9_extendsTo_39 f_X9_extendsTo_100 ext
    rw [hm.2.1]
    by_cases hlen : n ≤ w.length
    · obtain ⟨r, e, hr⟩ := xm_fin hm hn
      rw [if_pos (nI_le hlen (by omega)), if_pos hlen]
      exact ⟨r, S, e, hr, hm, FR.rf _ _ _ S⟩
    · rw [if_neg (nI_ge (show w.length < n by omega) (by omega)), if_neg hlen, if_neg (show ¬ (2000 : Int32) < nI x from nI_nlt (a := 2000) (by omega) (by decide))]
      obtain ⟨r, e, hr⟩ := mc_l hm ho (x := x) (by omega) hlt FU 0 1 True (by omega) (by unfold FU; omega) (BI.t trivial)
      rw [show f_X9_mayCome S (nI x) = some (r, S) from e, oB_s]
      rw [List.drop_zero] at hr
      by_cases hf : ∀ y, y ∈ w → x - y ∉ s
      · rw [if_neg (fun z => (hr.z.mp z) ⟨trivial, hf⟩), if_pos hf]
        obtain ⟨S1, s1, e1, m1, o1, q1, f1⟩ := x65_l (n := n) (show x ≤ 2000 by omega) hlt hs (by omega) (f_X9_extendsTo_39 k) FU 0 S s hm ho (by omega) (by unfold FU; omega)
        have hs1 : Srt (w ++ [x]) := by
          unfold Srt
          rw [List.pairwise_append]
          refine ⟨hs, List.pairwise_singleton _ _, fun a ha b hb => ?_⟩
          rw [List.mem_singleton.mp hb]; exact hlt a ha
        obtain ⟨r3, S3, e3, q3, m3, f3⟩ := xm_l hn f (x + 1) k S1 _ s1 m1 hs1 o1 (fun y hy => by
          rcases List.mem_append.mp hy with q | q
          · have := hlt y q; omega
          · rw [List.mem_singleton.mp q]; omega) (by omega) (by omega)
        have hcg := ext_cg (n := n) f (x + 1) (w ++ [x]) s1 (w.map (fun y => x - y) ++ s) (fun d => by
          rw [q1 d, List.drop_zero, List.mem_append, List.mem_map]
          constructor
          · rintro (⟨y, y1, y2⟩ | y)
            · exact Or.inl ⟨y, y1, y2.symm⟩
            · exact Or.inr y
          · rintro (⟨y, y1, y2⟩ | y)
            · exact Or.inl ⟨y, y1, y2.symm⟩
            · exact Or.inr y)
        rw [hcg] at q3 m3
        exact ⟨r3, S3, Eq.trans e1 e3, q3, m3, f1.tr f3⟩
      · rw [if_pos (hr.z.mpr (fun q => hf q.2)), if_neg hf, oL_s, nI_1]
        exact xm_l hn f (x + 1) k S w s hm hs ho (fun y hy => by have := hlt y hy; omega) (by omega) (by omega)
theorem X9_extendsTo {S : ST} {t : (Nat → List Nat) × Nat} (ht : OKt t) (h : blk (ai S 30) 0 t) {v n : Nat} (hv : v < 4) (hn : n ≤ 24) : ∃ r S', f_X9_extendsTo S (nI v) (nI n) = some (r, S') ∧ BI r ((extOf (t.1 v) n).length = n) ∧ MM S' (extOf (t.1 v) n) ∧ FR [52] [32, 33] [] S S' := by
  have hok := ht.1 v hv
  have h24 := hok.2.1
  obtain ⟨hs, hs0⟩ := seed_ok hok
  obtain ⟨S1, e1, o1, f1⟩ := X9_laysOften ht h (bit_pow v hv 0 (by omega)).2
  rw [fam_pow hv] at o1
  obtain ⟨S2, e2, m2, f2⟩ := X9_takesAll hv hok (S := S1) (by rw [f1.2.1 30 (by decide)]; exact h)
  have og := (o1.og (by have := Ds_len h24; omega)).fr f2 (by simp)
  have key : ∀ S3, MM S3 (seed0 (t.1 v)) → OG S3 (Ds (t.1 v)) → ∃ r S', f_X9_extendsTo_25 S3 (nI n) = some (r, S') ∧ BI r ((extOf (t.1 v) n).length = n) ∧ MM S' (extOf (t.1 v) n) ∧ FR [52] [32, 33] [] S3 S' := fun S3 m3 o3 => by
    have hle := hs.le (show (seed0 (t.1 v)).length - 1 < (seed0 (t.1 v)).length by omega)
    have hs24 := hs.2.1
    unfold f_X9_extendsTo_25
    rw [m3.2.1, show nI (seed0 (t.1 v)).length - (1 : Int32) = nI ((seed0 (t.1 v)).length - 1) from z_sub (b := 1) (by omega), oG_t (inB_n (show (seed0 (t.1 v)).length - 1 < 24 by omega) (by omega)), oL_s, nI_clamp (by omega), m3.2.2 _ (by omega), nI_1]
    exact xm_l hn (2000 - (seed0 (t.1 v)).getD ((seed0 (t.1 v)).length - 1) 0) _ FU S3 (seed0 (t.1 v)) (Ds (t.1 v)) m3 hs.1 o3 (lt_last hs.1) (by omega) (by unfold FU; omega)
  unfold f_X9_extendsTo f_X9_extendsTo_0
  rw [shl_4 v hv, e1, oV_s, e2, oV_s, m2.2.1]
  by_cases h0 : t.1 v = []
  · rw [if_pos (by rw [h0]; rfl)]
    obtain ⟨S3, w3, e3, m3, s3, q3, f3⟩ := m2.comes hok.1 (fun y hy => by have := hok.2.2 y hy; omega) (v := 0) (by omega) (Or.inr (by rw [h0]; decide))
    have hse : w3 = seed0 (t.1 v) := by
      unfold seed0; rw [if_pos h0]
      exact srt_ext s3 (List.pairwise_singleton _ _) (fun y => by rw [q3 y, h0]; simp)
    rw [hse] at m3
    rw [show f_X9_comes S2 0 = some S3 from e3, oV_s]
    obtain ⟨r, S4, e4, q4, m4, f4⟩ := key S3 m3 (og.fr f3 (by simp))
    exact ⟨r, S4, e4, q4, m4, (f1.wk (by simp) (by simp) (by simp)).tr ((f2.wk (by simp) (by simp) (by simp)).tr ((f3.wk (by simp) (by simp) (by simp)).tr f4))⟩
  · have : (t.1 v).length ≠ 0 := fun q => h0 (List.length_eq_zero_iff.mp q)
    have hse : seed0 (t.1 v) = t.1 v := by unfold seed0; rw [if_neg h0]
    rw [if_neg (nI_ne0 (by omega) (by omega))]
    obtain ⟨r, S4, e4, q4, m4, f4⟩ := key S2 (by rw [hse]; exact m2) og
    exact ⟨r, S4, e4, q4, m4, (f1.wk (by simp) (by simp) (by simp)).tr ((f2.wk (by simp) (by simp) (by simp)).tr f4)⟩
theorem MO_thr2 {S S' : ST} {t : (Nat → List Nat) × Nat} {p : List ((Nat → List Nat) × Nat)} (h : RepM S' t p) (hf : FM S S') {k : Nat} (b : Int32) {o : Option (Int32 × ST)} (e : o = some (b, sI S' 51 (nI k))) : MO o S k b t p :=
  ⟨_, e, h.fr (FR.sI S' 51 _) (by simp) (by simp) (by simp), hf.tr (FM.of (FR.sI S' 51 _) (by simp) (by simp)), fi_sI_s _ _ _⟩
theorem J_extend {S : ST} (h : INV S) (a b : Int32) : ∃ S', g_extend S a b = some S' ∧ INV S' := by
  obtain ⟨t, p, hc, hm, hu, ht, hp⟩ := h
  show ∃ S', gI (oY (f_X8_extend S a b) [(1, 1), (2, 2), (3, 3)] kI) (fun S1 => f_X9_extend S1 a b) = some S' ∧ INV S'
  rcases set_or a with hb | ⟨v, hv, rfl⟩
  · refine gI_thr (n := 1) (c := 1) (r := 0) (by decide) (by decide) rfl hm ht hp ⟨S, ?_, hc, hu, FC.rf S⟩ (fun S1 h1 => ⟨0, MO_thr h1 0 ?_⟩)
    · unfold f_X8_extend f_X8_extend_0
      rw [X8_needSet_n S hb, oX_n S _ _ (by decide)]
    · unfold f_X9_extend f_X9_extend_0 f_X9_extend_59
      rw [X9_isSet_n S1 hb, oB_s, if_pos rfl, X9_ref1, oB_s, if_neg (by decide)]
  · rcases rng_or b 1 24 (by decide) (by decide) with hb | ⟨n, hn1, hn2, rfl⟩
    · refine gI_thr (n := 2) (c := 2) (r := 0) (by decide) (by decide) rfl hm ht hp ⟨S, ?_, hc, hu, FC.rf S⟩ (fun S1 h1 => ⟨0, MO_thr h1 0 ?_⟩)
      · unfold f_X8_extend f_X8_extend_0 f_X8_extend_15
        rw [X8_needSet_y S hv, oX_0]
        exact cl_n (a := 1) (b := 24) hb _ _
      · unfold f_X9_extend f_X9_extend_0 f_X9_extend_59
        rw [X9_isSet_y S1 hv, oB_s, if_neg (by decide), show f_X9_within S1 b 1 24 = some (0, S1) from wi_n S1 hb, oB_s, if_pos rfl, X9_ref2, oB_s, if_neg (by decide)]
    · have ecl : ∀ (u w : Option (Nat × Int32 × ST)), (if nI n < 1 then u else if nI n ≤ 24 then w else u) = w := fun u w => cl_y (a := 1) (b := 24) hn1 hn2 (by decide) u w
      have hok := ht.1 v hv
      have h24 := hok.2.1
      obtain ⟨S1, e1, b1, d1, f1⟩ := X8_measured hc ht hv
      have hc1 : RepC S1 t p := hc.fr f1 (by simp <;> omega) (by simp)
      have hu1 : UN S1 := hu.fr f1 (by simp <;> omega) (by simp <;> omega) (by simp)
      have hf1 := fr40 hv f1
      have ewi : ∀ S2, f_X9_within S2 (nI n) 1 24 = some (1, S2) := fun S2 => wi_y S2 hn1 hn2 (by decide)
      by_cases hnd : (Ds (t.1 v)).Nodup
      · have hd0 : ¬ fi S1 (40 + v) = 0 := fun z => (d1.z.mp z) hnd
        by_cases hle : (t.1 v).length ≤ n
        · obtain ⟨r2, S2, e2, q2, m2, f2⟩ := X8_makeExtended hv hn2 hok (hc1.ms hv) b1
          have hc2 : RepC S2 t p := hc1.fr f2 (by simp) (by simp)
          have hu2 : UN S2 := hu1.fr f2 (by simp) (by simp) (by simp)
          have hf2 : FC S S2 := hf1.tr (FC.of f2 (by simp) (by simp))
          have hmod : ∀ S3, RepM S3 t p → ∃ r S', f_X9_areOnce S3 ((1 : Int32) <<< (nI v &&& 31)) = some (r, S') ∧ ¬ r = 0 ∧ FR [] [33] [] S3 S' := fun S3 h3 => by
            obtain ⟨r, S4, e4, q4, f4⟩ := X9_areOnce ht h3.1 (bit_pow v hv 0 (by omega)).2
            rw [fam_pow hv] at q4
            exact ⟨r, S4, by rw [shl_4 v hv]; exact e4, fun z => (q4.z.mp z) hnd, f4⟩
          by_cases hfin : (extOf (t.1 v) n).length = n
          · obtain ⟨x1, x2⟩ := ext_ok (n := n) (2000 - (seed0 (t.1 v)).getD ((seed0 (t.1 v)).length - 1) 0) ((seed0 (t.1 v)).getD ((seed0 (t.1 v)).length - 1) 0 + 1) (seed0 (t.1 v)) (Ds (t.1 v)) (seed_ok hok).1.1 (lt_last (seed_ok hok).1.1) (by
              have := (seed_ok hok).1.le (show (seed0 (t.1 v)).length - 1 < (seed0 (t.1 v)).length by have := (seed_ok hok).2; omega)
              omega) (seed_ok hok).1.2.2
            have hnew : MOK (extOf (t.1 v) n) := ⟨x1, by omega, x2⟩
            refine gI_ok [(1, 1), (2, 2), (3, 3)] (r := nI ((extOf (t.1 v) n).getD (n - 1) 0)) (t' := put4 t v (extOf (t.1 v) n) t.2) (p' := t :: p.take 3) hm (ht.put hnew ht.2.1 ht.2.2) (OKp.push ht hp) ?_ (fun S3 h3 => ?_)
            · unfold f_X8_extend f_X8_extend_0
              rw [X8_needSet_y S hv, oX_0, ecl, e1, oB_s, oG_t (decide_eq_true hv), if_neg hd0, oG_t (inB_n hv (by omega)), nI_clamp (show v < 2 ^ 31 by omega), (hc1.ms hv).2.1, if_pos (nI_le hle (by omega)), oG_t (inB_n hv (by omega)), oG_t (inB_n hv (by omega)), e2, oB_s, if_neg (fun z => (q2.z.mp z) hfin), hc2.md]
              exact CO_rep hc2 hu2 hf2 m2 hv _ (fun S4 q => by rw [q.gr (by omega), oB_s, hfin])
            · obtain ⟨r4, S4, e4, q4, f4⟩ := hmod S3 h3
              have h4 : RepM S4 t p := h3.fr f4 (by simp) (by simp) (by simp)
              obtain ⟨r5, S5, e5, q5, m5, f5⟩ := X9_extendsTo ht h4.1 hv hn2
              have h5 : RepM S5 t p := h4.fr f5 (by simp) (by simp) (by simp)
              obtain ⟨S6, e6, m6, f6⟩ := h5.sv
              have mm6 : MM S6 (extOf (t.1 v) n) := by
                obtain ⟨S6', e6', m6', f6'⟩ := h5.r0.saves
                have : S6 = S6' := by rw [e6] at e6'; exact Option.some.inj e6'
                rw [this]
                exact (m5.fr (FR.sI S5 51 0) (by simp) (by simp)).fr f6' (by simp) (by simp)
              obtain ⟨S7, e7, m7, _, f7⟩ := m6.becomes mm6 hv
              unfold f_X9_extend f_X9_extend_0 f_X9_extend_59
              rw [X9_isSet_y S3 hv, oB_s, if_neg (by decide), ewi, oB_s, if_neg (by decide), e4, oB_s, if_neg q4, X9_many h4.1 hv, oB_s, if_neg (nI_nlt hle (by omega)), e5, oB_s, if_neg (fun z => (q5.z.mp z) hfin), X9_refused0, oB_s, if_pos rfl, e6, oV_s, e7, oB_s, show nI n - (1 : Int32) = nI (n - 1) from z_sub (b := 1) (by omega)]
              have hmk := X9_markAt m7.1 hv (k := n - 1) (by rw [put4_to, hfin]; omega)
              rw [put4_to] at hmk
              rw [hmk, oB_s]
              refine ⟨S7, rfl, m7, (FM.of f4 (by simp) (by simp)).tr ((FM.of f5 (by simp) (by simp)).tr ((FM.of (FR.sI S5 51 0) (by simp) (by simp)).tr ((FM.of f6 (by simp) (by simp [AMo])).tr (FM.of f7 (by simp) (by simp))))), ?_⟩
              rw [f7.1 51 (by decide), f6.1 51 (by decide), fi_sI_s]
              rfl
          · refine gI_thr (n := 3) (c := 3) (r := 0) (by decide) (by decide) rfl hm ht hp ⟨S2, ?_, hc2, hu2, hf2⟩ (fun S3 h3 => ?_)
            · unfold f_X8_extend f_X8_extend_0
              rw [X8_needSet_y S hv, oX_0, ecl, e1, oB_s, oG_t (decide_eq_true hv), if_neg hd0, oG_t (inB_n hv (by omega)), nI_clamp (show v < 2 ^ 31 by omega), (hc1.ms hv).2.1, if_pos (nI_le hle (by omega)), oG_t (inB_n hv (by omega)), oG_t (inB_n hv (by omega)), e2, oB_s, if_pos (q2.z.mpr hfin)]
            · obtain ⟨r4, S4, e4, q4, f4⟩ := hmod S3 h3
              have h4 : RepM S4 t p := h3.fr f4 (by simp) (by simp) (by simp)
              obtain ⟨r5, S5, e5, q5, m5, f5⟩ := X9_extendsTo ht h4.1 hv hn2
              refine ⟨0, MO_thr2 (h4.fr f5 (by simp) (by simp) (by simp)) ((FM.of f4 (by simp) (by simp)).tr (FM.of f5 (by simp) (by simp))) 0 ?_⟩
              unfold f_X9_extend f_X9_extend_0 f_X9_extend_54 f_X9_extend_59
              rw [X9_isSet_y S3 hv, oB_s, if_neg (by decide), ewi, oB_s, if_neg (by decide), e4, oB_s, if_neg q4, X9_many h4.1 hv, oB_s, if_neg (nI_nlt hle (by omega)), e5, oB_s, if_pos (q5.z.mpr hfin), X9_ref3, oB_s, if_neg (by decide)]
        · refine gI_thr (n := 3) (c := 3) (r := 0) (by decide) (by decide) rfl hm ht hp ⟨S1, ?_, hc1, hu1, hf1⟩ (fun S3 h3 => ?_)
          · unfold f_X8_extend f_X8_extend_0
            rw [X8_needSet_y S hv, oX_0, ecl, e1, oB_s, oG_t (decide_eq_true hv), if_neg hd0, oG_t (inB_n hv (by omega)), nI_clamp (show v < 2 ^ 31 by omega), (hc1.ms hv).2.1, if_neg (nI_ge (show n < (t.1 v).length by omega) (by omega))]
          · obtain ⟨r, S4, e4, q4, f4⟩ := X9_areOnce ht h3.1 (bit_pow v hv 0 (by omega)).2
            rw [fam_pow hv] at q4
            have h4 : RepM S4 t p := h3.fr f4 (by simp) (by simp) (by simp)
            refine ⟨0, MO_thr2 h4 (FM.of f4 (by simp) (by simp)) 0 ?_⟩
            unfold f_X9_extend f_X9_extend_0 f_X9_extend_54 f_X9_extend_59
            rw [X9_isSet_y S3 hv, oB_s, if_neg (by decide), ewi, oB_s, if_neg (by decide), shl_4 v hv, e4, oB_s, if_neg (fun z => (q4.z.mp z) hnd), X9_many h4.1 hv, oB_s, if_pos (nI_lt (show n < (t.1 v).length by omega) (by omega)), X9_ref3, oB_s, if_neg (by decide)]
      · refine gI_thr (n := 3) (c := 3) (r := 0) (by decide) (by decide) rfl hm ht hp ⟨S1, ?_, hc1, hu1, hf1⟩ (fun S3 h3 => ?_)
        · unfold f_X8_extend f_X8_extend_0
          rw [X8_needSet_y S hv, oX_0, ecl, e1, oB_s, oG_t (decide_eq_true hv), if_pos (d1.z.mpr hnd)]
        · obtain ⟨r, S4, e4, q4, f4⟩ := X9_areOnce ht h3.1 (bit_pow v hv 0 (by omega)).2
          rw [fam_pow hv] at q4
          refine ⟨0, MO_thr2 (h3.fr f4 (by simp) (by simp) (by simp)) (FM.of f4 (by simp) (by simp)) 0 ?_⟩
          unfold f_X9_extend f_X9_extend_0 f_X9_extend_54 f_X9_extend_59
          rw [X9_isSet_y S3 hv, oB_s, if_neg (by decide), ewi, oB_s, if_neg (by decide), shl_4 v hv, e4, oB_s, if_pos (q4.z.mpr hnd), X9_ref3, oB_s, if_neg (by decide)]
