theorem tb_t {w : Cond} (k : Nat) (h : tables_1[k]? = some w) : w ∈ lw_tbl := List.mem_append_right _ (List.mem_of_getElem? h)
set_option maxRecDepth 20000 in
theorem en_F {args : Array Value} {s : State} (hts : ∀ w ∈ lw_tbl, w.before args s = true) : ∀ q ∈ NF, va_Nw (.fieldLinkNest q.1 q.2.1 q.2.2.1 q.2.2.2.1 q.2.2.2.2 RX8) s := by
  intro q hq
  simp only [NF, List.mem_cons, List.not_mem_nil, or_false] at hq
  rcases hq with rfl | rfl | rfl | rfl | rfl | rfl | rfl | rfl | rfl | rfl | rfl | rfl | rfl
  · exact va_Nw.of rfl (hts _ (tb_t 60 (by decide +kernel)))
  · exact va_Nw.of rfl (hts _ (tb_t 125 (by decide +kernel)))
  · exact va_Nw.of rfl (hts _ (tb_t 123 (by decide +kernel)))
  · exact va_Nw.of rfl (hts _ (tb_t 78 (by decide +kernel)))
  · exact va_Nw.of rfl (hts _ (tb_t 127 (by decide +kernel)))
  · exact va_Nw.of rfl (hts _ (tb_t 153 (by decide +kernel)))
  · exact va_Nw.of rfl (hts _ (tb_t 96 (by decide +kernel)))
  · exact va_Nw.of rfl (hts _ (tb_t 58 (by decide +kernel)))
  · exact va_Nw.of rfl (hts _ (tb_t 47 (by decide +kernel)))
  · exact va_Nw.of rfl (hts _ (tb_t 49 (by decide +kernel)))
  · exact va_Nw.of rfl (hts _ (tb_t 50 (by decide +kernel)))
  · exact va_Nw.of rfl (hts _ (tb_t 46 (by decide +kernel)))
  · exact va_Nw.of rfl (hts _ (tb_t 48 (by decide +kernel)))
set_option maxRecDepth 20000 in
theorem en_M {args : Array Value} {s : State} (hts : ∀ w ∈ lw_tbl, w.before args s = true) : ∀ q ∈ NM, va_Nw (.methodLinkNest q.1 q.2.1 q.2.2 RX8) s := by
  intro q hq
  simp only [NM, List.mem_cons, List.not_mem_nil, or_false] at hq
  rcases hq with rfl | rfl | rfl | rfl | rfl | rfl | rfl | rfl | rfl
  · exact va_Nw.of rfl (hts _ (tb_t 40 (by decide +kernel)))
  · exact va_Nw.of rfl (hts _ (tb_t 87 (by decide +kernel)))
  · exact va_Nw.of rfl (hts _ (tb_t 90 (by decide +kernel)))
  · exact va_Nw.of rfl (hts _ (tb_t 104 (by decide +kernel)))
  · exact va_Nw.of rfl (hts _ (tb_t 116 (by decide +kernel)))
  · exact va_Nw.of rfl (hts _ (tb_t 121 (by decide +kernel)))
  · exact va_Nw.of rfl (hts _ (tb_t 137 (by decide +kernel)))
  · exact va_Nw.of rfl (hts _ (tb_t 147 (by decide +kernel)))
  · exact va_Nw.of rfl (hts _ (tb_t 298 (by decide +kernel)))
theorem en_s1 {args : Array Value} {s : State} {cur : ClassId} {k : Nat} {tx : String} (hc : s.vm.findClass RX8 = some cur) (h : (Cond.stringRef RX8 k tx).before args s = true) : ∃ a : Nat, vk_R RX8 k tx a s := by
  obtain ⟨_, _, _, a, -, -, -, -, -, he⟩ := Cond.stringRef_spec hc h
  exact ⟨a, vk_R.of h he⟩
set_option maxRecDepth 20000 in
theorem en_T {args : Array Value} {s : State} (hts : ∀ w ∈ lw_tbl, w.before args s = true) {cur : ClassId} (hc : s.vm.findClass RX8 = some cur) : ∀ q ∈ XT, ∃ a : Nat, vk_R RX8 q.1 q.2 a s := by
  intro q hq
  simp only [XT, List.mem_cons, List.not_mem_nil, or_false] at hq
  rcases hq with rfl | rfl | rfl | rfl | rfl | rfl | rfl | rfl | rfl | rfl | rfl | rfl | rfl | rfl | rfl | rfl | rfl | rfl | rfl | rfl | rfl
  · exact en_s1 hc (hts _ (tb_t 449 (by decide +kernel)))
  · exact en_s1 hc (hts _ (tb_t 492 (by decide +kernel)))
  · exact en_s1 hc (hts _ (tb_t 526 (by decide +kernel)))
  · exact en_s1 hc (hts _ (tb_t 546 (by decide +kernel)))
  · exact en_s1 hc (hts _ (tb_t 579 (by decide +kernel)))
  · exact en_s1 hc (hts _ (tb_t 587 (by decide +kernel)))
  · exact en_s1 hc (hts _ (tb_t 625 (by decide +kernel)))
  · exact en_s1 hc (hts _ (tb_t 652 (by decide +kernel)))
  · exact en_s1 hc (hts _ (tb_t 675 (by decide +kernel)))
  · exact en_s1 hc (hts _ (tb_t 753 (by decide +kernel)))
  · exact en_s1 hc (hts _ (tb_t 768 (by decide +kernel)))
  · exact en_s1 hc (hts _ (tb_t 769 (by decide +kernel)))
  · exact en_s1 hc (hts _ (tb_t 770 (by decide +kernel)))
  · exact en_s1 hc (hts _ (tb_t 783 (by decide +kernel)))
  · exact en_s1 hc (hts _ (tb_t 826 (by decide +kernel)))
  · exact en_s1 hc (hts _ (tb_t 852 (by decide +kernel)))
  · exact en_s1 hc (hts _ (tb_t 386 (by decide +kernel)))
  · exact en_s1 hc (hts _ (tb_t 599 (by decide +kernel)))
  · exact en_s1 hc (hts _ (tb_t 742 (by decide +kernel)))
  · exact en_s1 hc (hts _ (tb_t 422 (by decide +kernel)))
  · exact en_s1 hc (hts _ (tb_t 442 (by decide +kernel)))
set_option maxRecDepth 20000 in
theorem en_C {args : Array Value} {s : State} (hts : ∀ w ∈ lw_tbl, w.before args s = true) : ∀ q ∈ XE, va_Nw (.castable q q) s := by
  intro q hq
  simp only [XE, List.mem_cons, List.not_mem_nil, or_false] at hq
  rcases hq with rfl | rfl | rfl
  · exact va_Nw.of rfl (hts _ (tb_t 347 (by decide +kernel)))
  · exact va_Nw.of rfl (hts _ (tb_t 415 (by decide +kernel)))
  · exact va_Nw.of rfl (hts _ (tb_t 435 (by decide +kernel)))
set_option maxRecDepth 20000 in
theorem en_D {args : Array Value} {s : State} (hts : ∀ w ∈ lw_tbl, w.before args s = true) : ∀ q ∈ XD, va_Nw (.declares q) s := by
  intro q hq
  simp only [XD, List.mem_cons, List.not_mem_nil, or_false] at hq
  rcases hq with rfl | rfl | rfl
  · exact va_Nw.of rfl (hts _ (tb_t 349 (by decide +kernel)))
  · exact va_Nw.of rfl (hts _ (tb_t 351 (by decide +kernel)))
  · exact va_Nw.of rfl (hts _ (tb_t 353 (by decide +kernel)))
set_option maxRecDepth 20000 in
theorem en_P {args : Array Value} {s : State} (hs : ∀ c ∈ flatC (Jvm.Cond.and given_1 narrow_1), c.before args s = true) : ∀ q ∈ XP, va_Nc q.1 q.2 s := by
  intro q hq
  simp only [XP, List.mem_cons, List.not_mem_nil, or_false] at hq
  rcases hq with rfl | rfl | rfl | rfl | rfl | rfl
  · exact va_Nc.of (hs (Cond.not (.castable eIO eIA)) (by decide +kernel))
  · exact va_Nc.of (hs (Cond.not (.castable eIO eIS)) (by decide +kernel))
  · exact va_Nc.of (hs (Cond.not (.castable eIA eIO)) (by decide +kernel))
  · exact va_Nc.of (hs (Cond.not (.castable eIA eIS)) (by decide +kernel))
  · exact va_Nc.of (hs (Cond.not (.castable eIS eIO)) (by decide +kernel))
  · exact va_Nc.of (hs (Cond.not (.castable eIS eIA)) (by decide +kernel))
theorem st_D {s : State} {args : Array Value} (hG : ∀ w ∈ GW, w.before args s = true) : ∃ D : va_G, ∀ (k : Nat) (q : vw_C), vwCl[k]? = some q → u_Kn s q.1 q.2.1 q.2.2 (D.1 k) (D.2 k) := by
  obtain ⟨c0, i0, h0⟩ := u_known (C := RX0) (T := TX0) (N := 1) (n := 1) hG iX0 (hG _ q103)
  obtain ⟨c1, i1, h1⟩ := u_known (C := RX1) (T := TX1) (N := 2) (n := 2) hG iX1 (hG _ q89)
  obtain ⟨c2, i2, h2⟩ := u_known (C := RX2) (T := TX2) (N := 2) (n := 2) hG iX2 (hG _ q39)
  obtain ⟨c3, i3, h3⟩ := u_known (C := RX3) (T := TX3) (N := 3) (n := 3) hG iX3 (hG _ q115)
  obtain ⟨c4, i4, h4⟩ := u_known (C := RX4) (T := TX4) (N := 2) (n := 2) hG iX4 (hG _ q32)
  obtain ⟨c5, i5, h5⟩ := u_known (C := RX5) (T := TX5) (N := 1) (n := 1) hG iX5 (hG _ q136)
  obtain ⟨c6, i6, h6⟩ := u_known (C := RX6) (T := TX6) (N := 3) (n := 3) hG iX6 (hG _ q67)
  obtain ⟨c7, i7, h7⟩ := u_known (C := RX7) (T := TX7) (N := 3) (n := 3) hG iX7 (hG _ q146)
  obtain ⟨c8, i8, h8⟩ := u_known (C := RX8) (T := TX8) (N := 10) (n := 10) hG iX8 (hG _ q24)
  obtain ⟨c9, i9, h9⟩ := u_known (C := RX9) (T := TX9) (N := 10) (n := 10) hG iX9 (hG _ q858)
  refine ⟨(fun k => if k = 0 then c0 else if k = 1 then c1 else if k = 2 then c2 else if k = 3 then c3 else if k = 4 then c4 else if k = 5 then c5 else if k = 6 then c6 else if k = 7 then c7 else if k = 8 then c8 else c9, fun k => if k = 0 then i0 else if k = 1 then i1 else if k = 2 then i2 else if k = 3 then i3 else if k = 4 then i4 else if k = 5 then i5 else if k = 6 then i6 else if k = 7 then i7 else if k = 8 then i8 else i9), ?_⟩
  intro k q hq
  match k, hq with
  | 0, hq => cases hq; exact h0
  | 1, hq => cases hq; exact h1
  | 2, hq => cases hq; exact h2
  | 3, hq => cases hq; exact h3
  | 4, hq => cases hq; exact h4
  | 5, hq => cases hq; exact h5
  | 6, hq => cases hq; exact h6
  | 7, hq => cases hq; exact h7
  | 8, hq => cases hq; exact h8
  | 9, hq => cases hq; exact h9
  | k + 10, hq => simp [vwCl] at hq
theorem st_arr {s : State} {args : Array Value} {ty : FieldType} (h : (Cond.arrayClass ty).before args s = true) (hp : ∀ C : String, ty ≠ .object C) : ∃ cA : ClassId, ArrOfT s cA ty ∧ va_RA s cA ty := by
  obtain ⟨cA, kA, comp, h1, h2, h3⟩ := Cond.arrayClass_spec h
  refine ⟨cA, fun n z => ⟨fun k h => (by cases h), kA, h2, comp, h3⟩, ?_⟩
  cases ty with
  | object C => exact absurd rfl (hp C)
  | _ => exact h1
theorem st_arrO {s : State} {C : String} (h : va_AO C s) : ∃ cA : ClassId, ArrOfT s cA (.object C) ∧ va_RA s cA (.object C) := by
  obtain ⟨comp, cA, kA, h1, -, h2, h3, h4⟩ := Cond.arrayOver_spec h
  exact ⟨cA, fun n z => ⟨fun k h => (by cases h), kA, h2, comp, h3⟩, kA, comp, h2, h3, h1, h4⟩
theorem st_KI {s : State} {args : Array Value} (hts : ∀ w ∈ lw_tbl, w.before args s = true) (hs : ∀ c ∈ flatC (Jvm.Cond.and given_1 narrow_1), c.before args s = true) : ∃ (D : va_G) (cy : Nat → ClassId), KI D cy s := by
  have hG : ∀ w ∈ GW, w.before args s = true := fun w h => hts w (gw_tbl h)
  obtain ⟨D, hD⟩ := st_D hG
  have a2 : va_AO RX2 s := va_AO.of (hts _ (tb_t 38 (by decide +kernel)))
  have a3 : va_AO RX3 s := va_AO.of (hts _ (tb_t 114 (by decide +kernel)))
  have a4 : va_AO RX4 s := va_AO.of (hts _ (tb_t 73 (by decide +kernel)))
  obtain ⟨d0, e0⟩ := st_arr (hG _ q56) (fun C h => by cases h)
  obtain ⟨d1, e1⟩ := st_arr (hG _ q112) (fun C h => by cases h)
  obtain ⟨d2, e2⟩ := st_arrO a2
  obtain ⟨d3, e3⟩ := st_arrO a3
  obtain ⟨d4, e4⟩ := st_arrO a4
  have hc : s.vm.findClass RX8 = some (D.1 8) := (hD 8 (RX8, TX8, 10) rfl).2.1
  refine ⟨D, fun k => if k = 0 then d0 else if k = 1 then d1 else if k = 2 then d2 else if k = 3 then d3 else d4, ⟨hD, fun k q hk => ?_⟩, ⟨en_F hts, en_M hts, en_T hts hc, en_C hts, en_D hts, en_P hs⟩, a2, a3, a4⟩
  match k, hk with
  | 0, hk => cases hk; exact e0
  | 1, hk => cases hk; exact e1
  | 2, hk => cases hk; exact e2
  | 3, hk => cases hk; exact e3
  | 4, hk => cases hk; exact e4
  | k + 5, hk => simp [tysc] at hk
/-- the pure state of the new objects -/
def S0 : ST := (fun k => if 30 ≤ k ∧ k ≤ 34 then 31 else if 40 ≤ k ∧ k ≤ 43 then 1 else 0, fun _ => 0, fun a => if a = 30 then upd (fun _ => 0) 0 31 else fun _ => 0, fun _ _ => 0)
theorem at_refs {D : va_G} {a : Nat} {cA : ClassId} {f g : Nat → Option Nat} {H : Heap} (h : va_at D vwCl (a, .inl (cA, 4, .inr (.inr (.inr (.inr f))))) H) (hfg : ∀ j, j < 4 → f j = g j) : va_at D vwCl (a, .inl (cA, 4, .inr (.inr (.inr (.inr g))))) H := by
  have h1 : H[a]? = some (vp_cell cA (4, .inr (.inr (.inr (.inr f))))) := h
  show H[a]? = some (vp_cell cA (4, .inr (.inr (.inr (.inr g)))))
  rw [h1, vp_cell_q, vp_cell_q]
  congr 1
  unfold arrV
  congr 1
  apply congrArg
  funext j
  show va_rf (f j.val) = va_rf (g j.val)
  rw [hfg j.val j.isLt]
theorem inj_of {ws : va_W} {A : Nat → Prop} (hD : va_D A ws) {ad pl : Nat → Nat} (h : ∀ k, k < 88 → ∃ e, ws[pl k]? = some (ad k, e)) (hp : ∀ i j, i < 88 → j < 88 → pl i = pl j → i = j) : ∀ i j : Nat, i < 88 → j < 88 → ad i = ad j → i = j := fun i j hi hj e => by
  obtain ⟨e1, h1⟩ := h i hi
  obtain ⟨e2, h2⟩ := h j hj
  exact hp i j hi hj (hD.1 _ _ _ _ h1 h2 e)
def plc : List Nat := [3, 4, 5, 6, 7, 8, 9, 10, 15, 16, 17, 18, 19, 20, 21, 22, 25, 26, 27, 28, 29, 30, 31, 32, 35, 36, 37, 38, 39, 40, 41, 42, 45, 46, 47, 48, 49, 50, 51, 52, 53, 54, 55, 56, 57, 58, 59, 60, 61, 62, 65, 66, 68, 69, 71, 72, 74, 75, 64, 67, 70, 73, 63, 1, 2, 13, 14, 23, 24, 33, 34, 43, 44, 11, 12, 76, 77, 78, 79, 0, 80, 81, 82, 83, 84, 85, 86, 87]
set_option maxRecDepth 20000 in
theorem plc_inj : ∀ i j : Nat, i < 88 → j < 88 → plc.getD i 0 = plc.getD j 0 → i = j := by
  have h : ∀ i, i < 88 → ∀ j, j < 88 → plc.getD i 0 = plc.getD j 0 → i = j := by decide +kernel
  exact fun i j hi hj e => h i hi j hj e
set_option maxHeartbeats 4000000 in
set_option maxRecDepth 100000 in
theorem lay_at {cy : Nat → ClassId} {r d w : Nat} {f8 f9 ad : Nat → Nat} (had : ∀ (k a : Nat), ([(f8 2), (f8 3), (f8 4), (f8 5), (f8 6), (f8 7), (f8 8), (f8 9), (f8 14), (f8 15), (f8 16), (f8 17), (f8 18), (f8 19), (f8 20), (f8 21), (f8 24), (f8 25), (f8 26), (f8 27), (f8 28), (f8 29), (f8 30), (f8 31), (f8 34), (f8 35), (f8 36), (f8 37), (f8 38), (f8 39), (f8 40), (f8 41), (f8 44), (f8 45), (f8 46), (f8 47), (f8 48), (f8 49), (f8 50), (f8 51), (f8 52), (f8 53), (f8 54), (f8 55), (f8 56), (f8 57), (f8 58), (f8 59), (f8 60), (f8 61), (f8 64), (f8 65), (f8 67), (f8 68), (f8 70), (f8 71), (f8 73), (f8 74), (f8 63), (f8 66), (f8 69), (f8 72), (f8 62), (f8 0), (f8 1), (f8 12), (f8 13), (f8 22), (f8 23), (f8 32), (f8 33), (f8 42), (f8 43), (f8 10), (f8 11), (f8 75), (f8 76), (f8 77), (f8 78), r, d, (f9 0), (f9 1), (f9 2), (f9 3), (f9 4), (f9 5), w] : List Nat)[k]? = some a → ad k = a) : ∀ k, k < 88 → ∃ e, (cs_X8 cy r f8 ++ cs_X9 cy d f9 ++ [(w, .inl (cy 1, 1, .inr (.inl (fun _ => 0))))])[plc.getD k 0]? = some (ad k, e) := by
  intro k hk
  match k, hk with
  | 0, _ => exact ⟨_, by rw [had 0 _ rfl]; rfl⟩
  | 1, _ => exact ⟨_, by rw [had 1 _ rfl]; rfl⟩
  | 2, _ => exact ⟨_, by rw [had 2 _ rfl]; rfl⟩
  | 3, _ => exact ⟨_, by rw [had 3 _ rfl]; rfl⟩
  | 4, _ => exact ⟨_, by rw [had 4 _ rfl]; rfl⟩
  | 5, _ => exact ⟨_, by rw [had 5 _ rfl]; rfl⟩
  | 6, _ => exact ⟨_, by rw [had 6 _ rfl]; rfl⟩
  | 7, _ => exact ⟨_, by rw [had 7 _ rfl]; rfl⟩
  | 8, _ => exact ⟨_, by rw [had 8 _ rfl]; rfl⟩
  | 9, _ => exact ⟨_, by rw [had 9 _ rfl]; rfl⟩
  | 10, _ => exact ⟨_, by rw [had 10 _ rfl]; rfl⟩
  | 11, _ => exact ⟨_, by rw [had 11 _ rfl]; rfl⟩
  | 12, _ => exact ⟨_, by rw [had 12 _ rfl]; rfl⟩
  | 13, _ => exact ⟨_, by rw [had 13 _ rfl]; rfl⟩
  | 14, _ => exact ⟨_, by rw [had 14 _ rfl]; rfl⟩
  | 15, _ => exact ⟨_, by rw [had 15 _ rfl]; rfl⟩
  | 16, _ => exact ⟨_, by rw [had 16 _ rfl]; rfl⟩
  | 17, _ => exact ⟨_, by rw [had 17 _ rfl]; rfl⟩
  | 18, _ => exact ⟨_, by rw [had 18 _ rfl]; rfl⟩
  | 19, _ => exact ⟨_, by rw [had 19 _ rfl]; rfl⟩
  | 20, _ => exact ⟨_, by rw [had 20 _ rfl]; rfl⟩
  | 21, _ => exact ⟨_, by rw [had 21 _ rfl]; rfl⟩
  | 22, _ => exact ⟨_, by rw [had 22 _ rfl]; rfl⟩
  | 23, _ => exact ⟨_, by rw [had 23 _ rfl]; rfl⟩
  | 24, _ => exact ⟨_, by rw [had 24 _ rfl]; rfl⟩
  | 25, _ => exact ⟨_, by rw [had 25 _ rfl]; rfl⟩
  | 26, _ => exact ⟨_, by rw [had 26 _ rfl]; rfl⟩
  | 27, _ => exact ⟨_, by rw [had 27 _ rfl]; rfl⟩
  | 28, _ => exact ⟨_, by rw [had 28 _ rfl]; rfl⟩
  | 29, _ => exact ⟨_, by rw [had 29 _ rfl]; rfl⟩
  | 30, _ => exact ⟨_, by rw [had 30 _ rfl]; rfl⟩
  | 31, _ => exact ⟨_, by rw [had 31 _ rfl]; rfl⟩
  | 32, _ => exact ⟨_, by rw [had 32 _ rfl]; rfl⟩
  | 33, _ => exact ⟨_, by rw [had 33 _ rfl]; rfl⟩
  | 34, _ => exact ⟨_, by rw [had 34 _ rfl]; rfl⟩
  | 35, _ => exact ⟨_, by rw [had 35 _ rfl]; rfl⟩
  | 36, _ => exact ⟨_, by rw [had 36 _ rfl]; rfl⟩
  | 37, _ => exact ⟨_, by rw [had 37 _ rfl]; rfl⟩
  | 38, _ => exact ⟨_, by rw [had 38 _ rfl]; rfl⟩
  | 39, _ => exact ⟨_, by rw [had 39 _ rfl]; rfl⟩
  | 40, _ => exact ⟨_, by rw [had 40 _ rfl]; rfl⟩
  | 41, _ => exact ⟨_, by rw [had 41 _ rfl]; rfl⟩
  | 42, _ => exact ⟨_, by rw [had 42 _ rfl]; rfl⟩
  | 43, _ => exact ⟨_, by rw [had 43 _ rfl]; rfl⟩
  | 44, _ => exact ⟨_, by rw [had 44 _ rfl]; rfl⟩
  | 45, _ => exact ⟨_, by rw [had 45 _ rfl]; rfl⟩
  | 46, _ => exact ⟨_, by rw [had 46 _ rfl]; rfl⟩
  | 47, _ => exact ⟨_, by rw [had 47 _ rfl]; rfl⟩
  | 48, _ => exact ⟨_, by rw [had 48 _ rfl]; rfl⟩
  | 49, _ => exact ⟨_, by rw [had 49 _ rfl]; rfl⟩
  | 50, _ => exact ⟨_, by rw [had 50 _ rfl]; rfl⟩
  | 51, _ => exact ⟨_, by rw [had 51 _ rfl]; rfl⟩
  | 52, _ => exact ⟨_, by rw [had 52 _ rfl]; rfl⟩
  | 53, _ => exact ⟨_, by rw [had 53 _ rfl]; rfl⟩
  | 54, _ => exact ⟨_, by rw [had 54 _ rfl]; rfl⟩
  | 55, _ => exact ⟨_, by rw [had 55 _ rfl]; rfl⟩
  | 56, _ => exact ⟨_, by rw [had 56 _ rfl]; rfl⟩
  | 57, _ => exact ⟨_, by rw [had 57 _ rfl]; rfl⟩
  | 58, _ => exact ⟨_, by rw [had 58 _ rfl]; rfl⟩
  | 59, _ => exact ⟨_, by rw [had 59 _ rfl]; rfl⟩
  | 60, _ => exact ⟨_, by rw [had 60 _ rfl]; rfl⟩
  | 61, _ => exact ⟨_, by rw [had 61 _ rfl]; rfl⟩
  | 62, _ => exact ⟨_, by rw [had 62 _ rfl]; rfl⟩
  | 63, _ => exact ⟨_, by rw [had 63 _ rfl]; rfl⟩
  | 64, _ => exact ⟨_, by rw [had 64 _ rfl]; rfl⟩
  | 65, _ => exact ⟨_, by rw [had 65 _ rfl]; rfl⟩
  | 66, _ => exact ⟨_, by rw [had 66 _ rfl]; rfl⟩
  | 67, _ => exact ⟨_, by rw [had 67 _ rfl]; rfl⟩
  | 68, _ => exact ⟨_, by rw [had 68 _ rfl]; rfl⟩
  | 69, _ => exact ⟨_, by rw [had 69 _ rfl]; rfl⟩
  | 70, _ => exact ⟨_, by rw [had 70 _ rfl]; rfl⟩
  | 71, _ => exact ⟨_, by rw [had 71 _ rfl]; rfl⟩
  | 72, _ => exact ⟨_, by rw [had 72 _ rfl]; rfl⟩
  | 73, _ => exact ⟨_, by rw [had 73 _ rfl]; rfl⟩
  | 74, _ => exact ⟨_, by rw [had 74 _ rfl]; rfl⟩
  | 75, _ => exact ⟨_, by rw [had 75 _ rfl]; rfl⟩
  | 76, _ => exact ⟨_, by rw [had 76 _ rfl]; rfl⟩
  | 77, _ => exact ⟨_, by rw [had 77 _ rfl]; rfl⟩
  | 78, _ => exact ⟨_, by rw [had 78 _ rfl]; rfl⟩
  | 79, _ => exact ⟨_, by rw [had 79 _ rfl]; rfl⟩
  | 80, _ => exact ⟨_, by rw [had 80 _ rfl]; rfl⟩
  | 81, _ => exact ⟨_, by rw [had 81 _ rfl]; rfl⟩
  | 82, _ => exact ⟨_, by rw [had 82 _ rfl]; rfl⟩
  | 83, _ => exact ⟨_, by rw [had 83 _ rfl]; rfl⟩
  | 84, _ => exact ⟨_, by rw [had 84 _ rfl]; rfl⟩
  | 85, _ => exact ⟨_, by rw [had 85 _ rfl]; rfl⟩
  | 86, _ => exact ⟨_, by rw [had 86 _ rfl]; rfl⟩
  | 87, _ => exact ⟨_, by rw [had 87 _ rfl]; rfl⟩
  | k + 88, hk => exact absurd hk (by omega)
set_option maxHeartbeats 4000000 in
set_option maxRecDepth 100000 in
theorem lay_P {D : va_G} {cy : Nat → ClassId} {r d w : Nat} {f8 f9 ad : Nat → Nat} {H : Heap} (had : ∀ (k a : Nat), ([(f8 2), (f8 3), (f8 4), (f8 5), (f8 6), (f8 7), (f8 8), (f8 9), (f8 14), (f8 15), (f8 16), (f8 17), (f8 18), (f8 19), (f8 20), (f8 21), (f8 24), (f8 25), (f8 26), (f8 27), (f8 28), (f8 29), (f8 30), (f8 31), (f8 34), (f8 35), (f8 36), (f8 37), (f8 38), (f8 39), (f8 40), (f8 41), (f8 44), (f8 45), (f8 46), (f8 47), (f8 48), (f8 49), (f8 50), (f8 51), (f8 52), (f8 53), (f8 54), (f8 55), (f8 56), (f8 57), (f8 58), (f8 59), (f8 60), (f8 61), (f8 64), (f8 65), (f8 67), (f8 68), (f8 70), (f8 71), (f8 73), (f8 74), (f8 63), (f8 66), (f8 69), (f8 72), (f8 62), (f8 0), (f8 1), (f8 12), (f8 13), (f8 22), (f8 23), (f8 32), (f8 33), (f8 42), (f8 43), (f8 10), (f8 11), (f8 75), (f8 76), (f8 77), (f8 78), r, d, (f9 0), (f9 1), (f9 2), (f9 3), (f9 4), (f9 5), w] : List Nat)[k]? = some a → ad k = a) (hP : va_P D vwCl (cs_X8 cy r f8 ++ cs_X9 cy d f9 ++ [(w, .inl (cy 1, 1, .inr (.inl (fun _ => 0))))]) H) : va_P D vwCl (cells (D, cy, ad) S0) H := by
  intro k q hk
  obtain ⟨hk, rfl⟩ := cells_at hk
  match k, hk with
  | 0, _ =>
    have e := hP 3 _ rfl
    rw [← had 0 (f8 2) rfl, ← had 1 (f8 3) rfl] at e
    exact e
  | 1, _ =>
    have e := hP 4 _ rfl
    rw [← had 1 (f8 3) rfl] at e
    exact e
  | 2, _ =>
    have e := hP 5 _ rfl
    rw [← had 2 (f8 4) rfl, ← had 3 (f8 5) rfl] at e
    exact e
  | 3, _ =>
    have e := hP 6 _ rfl
    rw [← had 3 (f8 5) rfl] at e
    exact e
  | 4, _ =>
    have e := hP 7 _ rfl
    rw [← had 4 (f8 6) rfl, ← had 5 (f8 7) rfl] at e
    exact e
  | 5, _ =>
    have e := hP 8 _ rfl
    rw [← had 5 (f8 7) rfl] at e
    exact e
  | 6, _ =>
    have e := hP 9 _ rfl
    rw [← had 6 (f8 8) rfl, ← had 7 (f8 9) rfl] at e
    exact e
  | 7, _ =>
    have e := hP 10 _ rfl
    rw [← had 7 (f8 9) rfl] at e
    exact e
  | 8, _ =>
    have e := hP 15 _ rfl
    rw [← had 8 (f8 14) rfl, ← had 9 (f8 15) rfl] at e
    exact e
  | 9, _ =>
    have e := hP 16 _ rfl
    rw [← had 9 (f8 15) rfl] at e
    exact e
  | 10, _ =>
    have e := hP 17 _ rfl
    rw [← had 10 (f8 16) rfl, ← had 11 (f8 17) rfl] at e
    exact e
  | 11, _ =>
    have e := hP 18 _ rfl
    rw [← had 11 (f8 17) rfl] at e
    exact e
  | 12, _ =>
    have e := hP 19 _ rfl
    rw [← had 12 (f8 18) rfl, ← had 13 (f8 19) rfl] at e
    exact e
  | 13, _ =>
    have e := hP 20 _ rfl
    rw [← had 13 (f8 19) rfl] at e
    exact e
  | 14, _ =>
    have e := hP 21 _ rfl
    rw [← had 14 (f8 20) rfl, ← had 15 (f8 21) rfl] at e
    exact e
  | 15, _ =>
    have e := hP 22 _ rfl
    rw [← had 15 (f8 21) rfl] at e
    exact e
  | 16, _ =>
    have e := hP 25 _ rfl
    rw [← had 16 (f8 24) rfl, ← had 17 (f8 25) rfl] at e
    exact e
  | 17, _ =>
    have e := hP 26 _ rfl
    rw [← had 17 (f8 25) rfl] at e
    exact e
  | 18, _ =>
    have e := hP 27 _ rfl
    rw [← had 18 (f8 26) rfl, ← had 19 (f8 27) rfl] at e
    exact e
  | 19, _ =>
    have e := hP 28 _ rfl
    rw [← had 19 (f8 27) rfl] at e
    exact e
  | 20, _ =>
    have e := hP 29 _ rfl
    rw [← had 20 (f8 28) rfl, ← had 21 (f8 29) rfl] at e
    exact e
  | 21, _ =>
    have e := hP 30 _ rfl
    rw [← had 21 (f8 29) rfl] at e
    exact e
  | 22, _ =>
    have e := hP 31 _ rfl
    rw [← had 22 (f8 30) rfl, ← had 23 (f8 31) rfl] at e
    exact e
  | 23, _ =>
    have e := hP 32 _ rfl
    rw [← had 23 (f8 31) rfl] at e
    exact e
  | 24, _ =>
    have e := hP 35 _ rfl
    rw [← had 24 (f8 34) rfl, ← had 25 (f8 35) rfl] at e
    exact e
  | 25, _ =>
    have e := hP 36 _ rfl
    rw [← had 25 (f8 35) rfl] at e
    exact e
  | 26, _ =>
    have e := hP 37 _ rfl
    rw [← had 26 (f8 36) rfl, ← had 27 (f8 37) rfl] at e
    exact e
  | 27, _ =>
    have e := hP 38 _ rfl
    rw [← had 27 (f8 37) rfl] at e
    exact e
  | 28, _ =>
    have e := hP 39 _ rfl
    rw [← had 28 (f8 38) rfl, ← had 29 (f8 39) rfl] at e
    exact e
  | 29, _ =>
    have e := hP 40 _ rfl
    rw [← had 29 (f8 39) rfl] at e
    exact e
  | 30, _ =>
    have e := hP 41 _ rfl
    rw [← had 30 (f8 40) rfl, ← had 31 (f8 41) rfl] at e
    exact e
  | 31, _ =>
    have e := hP 42 _ rfl
    rw [← had 31 (f8 41) rfl] at e
    exact e
  | 32, _ =>
    have e := hP 45 _ rfl
    rw [← had 32 (f8 44) rfl, ← had 33 (f8 45) rfl] at e
    exact e
  | 33, _ =>
    have e := hP 46 _ rfl
    rw [← had 33 (f8 45) rfl] at e
    exact e
  | 34, _ =>
    have e := hP 47 _ rfl
    rw [← had 34 (f8 46) rfl, ← had 35 (f8 47) rfl] at e
    exact e
  | 35, _ =>
    have e := hP 48 _ rfl
    rw [← had 35 (f8 47) rfl] at e
    exact e
  | 36, _ =>
    have e := hP 49 _ rfl
    rw [← had 36 (f8 48) rfl, ← had 37 (f8 49) rfl] at e
    exact e
  | 37, _ =>
    have e := hP 50 _ rfl
    rw [← had 37 (f8 49) rfl] at e
    exact e
  | 38, _ =>
    have e := hP 51 _ rfl
    rw [← had 38 (f8 50) rfl, ← had 39 (f8 51) rfl] at e
    exact e
  | 39, _ =>
    have e := hP 52 _ rfl
    rw [← had 39 (f8 51) rfl] at e
    exact e
  | 40, _ =>
    have e := hP 53 _ rfl
    rw [← had 40 (f8 52) rfl, ← had 41 (f8 53) rfl] at e
    exact e
  | 41, _ =>
    have e := hP 54 _ rfl
    rw [← had 41 (f8 53) rfl] at e
    exact e
  | 42, _ =>
    have e := hP 55 _ rfl
    rw [← had 42 (f8 54) rfl, ← had 43 (f8 55) rfl] at e
    exact e
  | 43, _ =>
    have e := hP 56 _ rfl
    rw [← had 43 (f8 55) rfl] at e
    exact e
  | 44, _ =>
    have e := hP 57 _ rfl
    rw [← had 44 (f8 56) rfl, ← had 45 (f8 57) rfl] at e
    exact e
  | 45, _ =>
    have e := hP 58 _ rfl
    rw [← had 45 (f8 57) rfl] at e
    exact e
  | 46, _ =>
    have e := hP 59 _ rfl
    rw [← had 46 (f8 58) rfl, ← had 47 (f8 59) rfl] at e
    exact e
  | 47, _ =>
    have e := hP 60 _ rfl
    rw [← had 47 (f8 59) rfl] at e
    exact e
  | 48, _ =>
    have e := hP 61 _ rfl
    rw [← had 48 (f8 60) rfl, ← had 49 (f8 61) rfl] at e
    exact e
  | 49, _ =>
    have e := hP 62 _ rfl
    rw [← had 49 (f8 61) rfl] at e
    exact e
  | 50, _ =>
    have e := hP 65 _ rfl
    rw [← had 50 (f8 64) rfl, ← had 51 (f8 65) rfl] at e
    exact e
  | 51, _ =>
    have e := hP 66 _ rfl
    rw [← had 51 (f8 65) rfl] at e
    exact e
  | 52, _ =>
    have e := hP 68 _ rfl
    rw [← had 52 (f8 67) rfl, ← had 53 (f8 68) rfl] at e
    exact e
  | 53, _ =>
    have e := hP 69 _ rfl
    rw [← had 53 (f8 68) rfl] at e
    exact e
  | 54, _ =>
    have e := hP 71 _ rfl
    rw [← had 54 (f8 70) rfl, ← had 55 (f8 71) rfl] at e
    exact e
  | 55, _ =>
    have e := hP 72 _ rfl
    rw [← had 55 (f8 71) rfl] at e
    exact e
  | 56, _ =>
    have e := hP 74 _ rfl
    rw [← had 56 (f8 73) rfl, ← had 57 (f8 74) rfl] at e
    exact e
  | 57, _ =>
    have e := hP 75 _ rfl
    rw [← had 57 (f8 74) rfl] at e
    exact e
  | 58, _ =>
    have e := hP 64 _ rfl
    rw [← had 58 (f8 63) rfl, ← had 50 (f8 64) rfl] at e
    exact e
  | 59, _ =>
    have e := hP 67 _ rfl
    rw [← had 59 (f8 66) rfl, ← had 52 (f8 67) rfl] at e
    exact e
  | 60, _ =>
    have e := hP 70 _ rfl
    rw [← had 60 (f8 69) rfl, ← had 54 (f8 70) rfl] at e
    exact e
  | 61, _ =>
    have e := hP 73 _ rfl
    rw [← had 61 (f8 72) rfl, ← had 56 (f8 73) rfl] at e
    exact e
  | 62, _ =>
    have e := hP 63 _ rfl
    rw [← had 62 (f8 62) rfl, ← had 58 (f8 63) rfl, ← had 59 (f8 66) rfl, ← had 60 (f8 69) rfl, ← had 61 (f8 72) rfl] at e
    exact at_refs e (fun j hj => by rcases (show j = 0 ∨ j = 1 ∨ j = 2 ∨ j = 3 by omega) with rfl | rfl | rfl | rfl <;> rfl)
  | 63, _ =>
    have e := hP 1 _ rfl
    rw [← had 63 (f8 0) rfl, ← had 64 (f8 1) rfl] at e
    exact e
  | 64, _ =>
    have e := hP 2 _ rfl
    rw [← had 64 (f8 1) rfl, ← had 0 (f8 2) rfl, ← had 2 (f8 4) rfl, ← had 4 (f8 6) rfl, ← had 6 (f8 8) rfl] at e
    exact at_refs e (fun j hj => by rcases (show j = 0 ∨ j = 1 ∨ j = 2 ∨ j = 3 by omega) with rfl | rfl | rfl | rfl <;> rfl)
  | 65, _ =>
    have e := hP 13 _ rfl
    rw [← had 65 (f8 12) rfl, ← had 66 (f8 13) rfl] at e
    exact e
  | 66, _ =>
    have e := hP 14 _ rfl
    rw [← had 66 (f8 13) rfl, ← had 8 (f8 14) rfl, ← had 10 (f8 16) rfl, ← had 12 (f8 18) rfl, ← had 14 (f8 20) rfl] at e
    exact at_refs e (fun j hj => by rcases (show j = 0 ∨ j = 1 ∨ j = 2 ∨ j = 3 by omega) with rfl | rfl | rfl | rfl <;> rfl)
  | 67, _ =>
    have e := hP 23 _ rfl
    rw [← had 67 (f8 22) rfl, ← had 68 (f8 23) rfl] at e
    exact e
  | 68, _ =>
    have e := hP 24 _ rfl
    rw [← had 68 (f8 23) rfl, ← had 16 (f8 24) rfl, ← had 18 (f8 26) rfl, ← had 20 (f8 28) rfl, ← had 22 (f8 30) rfl] at e
    exact at_refs e (fun j hj => by rcases (show j = 0 ∨ j = 1 ∨ j = 2 ∨ j = 3 by omega) with rfl | rfl | rfl | rfl <;> rfl)
  | 69, _ =>
    have e := hP 33 _ rfl
    rw [← had 69 (f8 32) rfl, ← had 70 (f8 33) rfl] at e
    exact e
  | 70, _ =>
    have e := hP 34 _ rfl
    rw [← had 70 (f8 33) rfl, ← had 24 (f8 34) rfl, ← had 26 (f8 36) rfl, ← had 28 (f8 38) rfl, ← had 30 (f8 40) rfl] at e
    exact at_refs e (fun j hj => by rcases (show j = 0 ∨ j = 1 ∨ j = 2 ∨ j = 3 by omega) with rfl | rfl | rfl | rfl <;> rfl)
  | 71, _ =>
    have e := hP 43 _ rfl
    rw [← had 71 (f8 42) rfl, ← had 72 (f8 43) rfl] at e
    exact e
  | 72, _ =>
    have e := hP 44 _ rfl
    rw [← had 72 (f8 43) rfl, ← had 32 (f8 44) rfl, ← had 34 (f8 46) rfl, ← had 36 (f8 48) rfl, ← had 38 (f8 50) rfl] at e
    exact at_refs e (fun j hj => by rcases (show j = 0 ∨ j = 1 ∨ j = 2 ∨ j = 3 by omega) with rfl | rfl | rfl | rfl <;> rfl)
  | 73, _ =>
    have e := hP 11 _ rfl
    rw [← had 73 (f8 10) rfl, ← had 74 (f8 11) rfl] at e
    exact e
  | 74, _ =>
    have e := hP 12 _ rfl
    rw [← had 74 (f8 11) rfl, ← had 65 (f8 12) rfl, ← had 67 (f8 22) rfl, ← had 69 (f8 32) rfl, ← had 71 (f8 42) rfl] at e
    exact at_refs e (fun j hj => by rcases (show j = 0 ∨ j = 1 ∨ j = 2 ∨ j = 3 by omega) with rfl | rfl | rfl | rfl <;> rfl)
  | 75, _ =>
    have e := hP 76 _ rfl
    rw [← had 75 (f8 75) rfl, ← had 76 (f8 76) rfl] at e
    exact e
  | 76, _ =>
    have e := hP 77 _ rfl
    rw [← had 76 (f8 76) rfl] at e
    exact e
  | 77, _ =>
    have e := hP 78 _ rfl
    rw [← had 77 (f8 77) rfl, ← had 78 (f8 78) rfl] at e
    exact e
  | 78, _ =>
    have e := hP 79 _ rfl
    rw [← had 78 (f8 78) rfl] at e
    exact e
  | 79, _ =>
    have e := hP 0 _ rfl
    rw [← had 79 r rfl, ← had 63 (f8 0) rfl, ← had 73 (f8 10) rfl, ← had 40 (f8 52) rfl, ← had 42 (f8 54) rfl, ← had 44 (f8 56) rfl, ← had 46 (f8 58) rfl, ← had 48 (f8 60) rfl, ← had 62 (f8 62) rfl, ← had 75 (f8 75) rfl, ← had 77 (f8 77) rfl] at e
    exact e
  | 80, _ =>
    have e := hP 80 _ rfl
    rw [← had 80 d rfl, ← had 81 (f9 0) rfl, ← had 82 (f9 1) rfl, ← had 83 (f9 2) rfl, ← had 84 (f9 3) rfl, ← had 85 (f9 4) rfl, ← had 86 (f9 5) rfl] at e
    exact e
  | 81, _ =>
    have e := hP 81 _ rfl
    rw [← had 81 (f9 0) rfl] at e
    exact e
  | 82, _ =>
    have e := hP 82 _ rfl
    rw [← had 82 (f9 1) rfl] at e
    exact e
  | 83, _ =>
    have e := hP 83 _ rfl
    rw [← had 83 (f9 2) rfl] at e
    exact e
  | 84, _ =>
    have e := hP 84 _ rfl
    rw [← had 84 (f9 3) rfl] at e
    exact e
  | 85, _ =>
    have e := hP 85 _ rfl
    rw [← had 85 (f9 4) rfl] at e
    exact e
  | 86, _ =>
    have e := hP 86 _ rfl
    rw [← had 86 (f9 5) rfl] at e
    exact e
  | 87, _ =>
    have e := hP 87 _ rfl
    rw [← had 87 w rfl] at e
    exact e
  | k + 88, hk => exact absurd hk (by omega)
