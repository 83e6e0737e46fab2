/-! THE LAW, from its entry, once every call of a script keeps an invariant of the pure state -/
set_option maxHeartbeats 4000000 in
set_option maxRecDepth 100000 in
theorem start_of (Inv : ST → Prop) (h0 : Inv S0) (hstep : ∀ (j : Nat) (S : ST) (v1 v2 v3 v4 : Int32), Inv S → ∃ S' : ST, stp j S v1 v2 v3 v4 = some S' ∧ Inv S') {p : Program} {e : Env} {s : State} {m : MethodId} {below : List Frame} {meth : Method} {c : Code} (l : Launch) (hflags : l.flags = flags0) {b L : Nat} {xs : Nat → Int32} (hL : L ≤ 2560) (C0 : lw_At p s m meth c b L xs) : W p l e room_1 s m #[Value.ref b] below meth c s.heap [] 0 0 (lw_Z below #[Value.ref b] s) (entryFrame m ([Value.ref b] : List Value).toArray 7) := by
  obtain ⟨hx, hb, hr, hml, hown, hts, hX, hbl, hlocks, hgv⟩ := C0
  have hfl := flat_of_before _ hgv
  have hG : ∀ w ∈ GW, w.before #[Value.ref b] s = true := fun w h => hts w (gw_tbl h)
  have F : MF p m meth c cL_law 7 s #[Value.ref b] RL ret := ⟨hx, hb, hml, hown, hG, hr, hlocks⟩
  have hls : l.stackTraces = false := by
    unfold Launch.stackTraces
    rw [hflags]
    decide +kernel
  obtain ⟨D, cy, hK⟩ := st_KI hts hfl
  obtain ⟨A, hAe⟩ : ∃ A : Nat → Prop, A = fun q => s.heap.size ≤ q := ⟨_, rfl⟩
  have hA : ∀ q : Nat, s.heap.size ≤ q → A q := fun q h => by rw [hAe]; exact h
  have hS : va_S A s.heap s.heap [] := va_S.rf
  have hP : va_P D vwCl [] s.heap := fun k q h => by simp at h
  have hD : va_D A [] := ⟨fun i j p q h => by simp at h, fun k q h => by simp at h⟩
  have hl := lv_entry ([.ref b]) (n := 7) (Nat.le_of_ble_eq_true rfl)
  rw [lg_entry_eq]
  generalize (lg_sl ([.ref b]) ++ List.replicate (7 - (lg_sl ([.ref b])).length) Slot.unset).toArray = ls at hl ⊢
  have hl : lv_has ls 7 [(0, .ref b)] := hl
  refine n_new (ci := 8) (fs := [.null, .null, .null, .null, .null, .null, .null, .null, .null, .null]) F hK hP hD hS hA iX8 tyX8_ok q23 q24 q1 rfl (fun j hj => by rcases (show j = 0 ∨ j = 1 ∨ j = 2 ∨ j = 3 ∨ j = 4 ∨ j = 5 ∨ j = 6 ∨ j = 7 ∨ j = 8 ∨ j = 9 by omega) with rfl | rfl | rfl | rfl | rfl | rfl | rfl | rfl | rfl | rfl <;> rfl) (Nat.le_of_ble_eq_true rfl) (Nat.le_of_ble_eq_true rfl) dL_law_0 (fun r H hP hD hS => ?_)
  refine lv_dup F.1 F.2.1 dL_law_3 rfl ?_
  refine n_call (cs := cs_X8 cy r) (wr := []) (rest := [.ref r]) F hK hP hD hS hA 0 [] rfl rfl (by decide) (fun i hi => absurd hi List.not_mem_nil) (k_X8_init l D cy r H.size) q27 q1 (Or.inl q25) q26 rfl ⟨by decide, by decide, by decide +kernel⟩ ⟨rfl, rfl⟩ ⟨Nat.le_of_ble_eq_true rfl, Nat.le_of_ble_eq_true rfl⟩ rfl hl.1 (Nat.le_of_ble_eq_true rfl) ⟨Nat.le_of_ble_eq_true rfl, Nat.le_of_ble_eq_true rfl⟩ dL_law_4 (fun f8 H locs hP hD hS => ?_)
  replace hP : va_P D vwCl (cs_X8 cy r f8) H := hP
  replace hD : va_D A (cs_X8 cy r f8) := hD
  refine lv_astore_n (lv' := [(1, .ref r), (0, .ref b)]) F.1 F.2.1 dL_law_7 rfl hl (by decide) rfl (fun ls hl => ?_)
  refine n_new (ci := 9) (fs := [.null, .null, .int 0, .int 0, .null, .int 0, .null, .null, .null, .long 0]) F hK hP hD hS hA iX9 tyX9_ok q857 q858 q10 rfl (fun j hj => by rcases (show j = 0 ∨ j = 1 ∨ j = 2 ∨ j = 3 ∨ j = 4 ∨ j = 5 ∨ j = 6 ∨ j = 7 ∨ j = 8 ∨ j = 9 by omega) with rfl | rfl | rfl | rfl | rfl | rfl | rfl | rfl | rfl | rfl <;> rfl) (Nat.le_of_ble_eq_true rfl) (Nat.le_of_ble_eq_true rfl) dL_law_8 (fun d H hP hD hS => ?_)
  refine lv_dup F.1 F.2.1 dL_law_11 rfl ?_
  refine n_call (cs := cs_X9 cy d) (wr := cs_X8 cy r f8) (rest := [.ref d]) F hK hP hD hS hA 80 [0, 1, 2, 3, 4, 5, 6, 7, 8, 9, 10, 11, 12, 13, 14, 15, 16, 17, 18, 19, 20, 21, 22, 23, 24, 25, 26, 27, 28, 29, 30, 31, 32, 33, 34, 35, 36, 37, 38, 39, 40, 41, 42, 43, 44, 45, 46, 47, 48, 49, 50, 51, 52, 53, 54, 55, 56, 57, 58, 59, 60, 61, 62, 63, 64, 65, 66, 67, 68, 69, 70, 71, 72, 73, 74, 75, 76, 77, 78, 79] rfl rfl (by decide +kernel) (by decide +kernel) (k_X9_init l D cy d H.size) q861 q10 (Or.inl q859) q860 rfl ⟨by decide, by decide, by decide +kernel⟩ ⟨rfl, rfl⟩ ⟨Nat.le_of_ble_eq_true rfl, Nat.le_of_ble_eq_true rfl⟩ rfl hl.1 (Nat.le_of_ble_eq_true rfl) ⟨Nat.le_of_ble_eq_true rfl, Nat.le_of_ble_eq_true rfl⟩ dL_law_12 (fun f9 H locs hP hD hS => ?_)
  refine lv_astore_n (lv' := [(2, .ref d), (1, .ref r), (0, .ref b)]) F.1 F.2.1 dL_law_15 rfl hl (by decide) rfl (fun ls hl => ?_)
  refine lv_iconst (v := 1) F.1 F.2.1 dL_law_16 (by decide) ?_
  refine n_longs (N := 1) F hK hP hD hS hA (by decide) (by decide) (by decide) (Nat.le_of_ble_eq_true rfl) (Nat.le_of_ble_eq_true rfl) dL_law_17 (fun w H hP hD hS => ?_)
  refine lv_astore_n (lv' := [(3, .ref w), (2, .ref d), (1, .ref r), (0, .ref b)]) F.1 F.2.1 dL_law_19 rfl hl (by decide) rfl (fun ls hl => ?_)
  refine lv_iconst (v := 0) F.1 F.2.1 dL_law_20 (by decide) ?_
  refine lv_istore (lv' := [(4, .int 0), (3, .ref w), (2, .ref d), (1, .ref r), (0, .ref b)]) F.1 F.2.1 dL_law_21 hl (by decide) rfl (fun ls hl => ?_)
  obtain ⟨ad, had⟩ := exf [(f8 2), (f8 3), (f8 4), (f8 5), (f8 6), (f8 7), (f8 8), (f8 9), (f8 14), (f8 15), (f8 16), (f8 17), (f8 18), (f8 19), (f8 20), (f8 21), (f8 24), (f8 25), (f8 26), (f8 27), (f8 28), (f8 29), (f8 30), (f8 31), (f8 34), (f8 35), (f8 36), (f8 37), (f8 38), (f8 39), (f8 40), (f8 41), (f8 44), (f8 45), (f8 46), (f8 47), (f8 48), (f8 49), (f8 50), (f8 51), (f8 52), (f8 53), (f8 54), (f8 55), (f8 56), (f8 57), (f8 58), (f8 59), (f8 60), (f8 61), (f8 64), (f8 65), (f8 67), (f8 68), (f8 70), (f8 71), (f8 73), (f8 74), (f8 63), (f8 66), (f8 69), (f8 72), (f8 62), (f8 0), (f8 1), (f8 12), (f8 13), (f8 22), (f8 23), (f8 32), (f8 33), (f8 42), (f8 43), (f8 10), (f8 11), (f8 75), (f8 76), (f8 77), (f8 78), r, d, (f9 0), (f9 1), (f9 2), (f9 3), (f9 4), (f9 5), w]
  have hPc := lay_P had hP
  have hat := lay_at (cy := cy) (f8 := f8) (f9 := f9) had
  have hinj : inj (D, cy, ad) := inj_of hD hat plc_inj
  have hAd : ∀ k : Nat, k < 88 → s.heap.size ≤ ad k := fun k hk => by
    obtain ⟨e9, he9⟩ := hat k hk
    have := hD.2 _ _ he9
    rw [hAe] at this
    exact this
  have hno : ∀ a : Nat, a < s.heap.size → ¬ AA (D, cy, ad) s.heap.size a := by
    intro a ha h
    rcases h with ⟨k, hk, h⟩ | h
    · have h2 : s.heap.size ≤ ad k := hAd k hk
      have h3 : a = ad k := h
      omega
    · omega
  have hti : (Cond.initialized Bundle.tN).before #[Value.ref b] s = true := hts _ (tb_t 11 (by decide +kernel))
  have hZ : ZZ (D, cy, ad) s := ⟨vx_Zqof (hts _ (tb_t 372 (by decide +kernel))) hti (hfl (Cond.isRef (.static Bundle.tN "UNASSIGNED_STACK" Bundle.steD)) (by decide +kernel)) hno, vx_Zqof (hts _ (tb_t 374 (by decide +kernel))) hti (hfl (Cond.isRef (.static Bundle.tN "SUPPRESSED_SENTINEL" Bundle.listD)) (by decide +kernel)) hno⟩
  have hS9 : va_S (AA (D, cy, ad) s.heap.size) s.heap H locs := ⟨hS.1, fun q h1 h2 => hS.2.1 q h1 (fun h => h2 (Or.inr (by rw [hAe] at h; exact h))), fun z hz => Or.inr (by have := hS.2.2 z hz; rw [hAe] at this; exact this)⟩
  have w9 : WD (D, cy, ad) s S0 H locs := ⟨hPc, hK.1, hinj, hK.2.1, hZ, hS9⟩
  have hl9 : lv_has ls 7 [(0, .ref b), (1, .ref (((D, cy, ad) : CX).2.2 79)), (2, .ref (((D, cy, ad) : CX).2.2 80)), (3, .ref (((D, cy, ad) : CX).2.2 87)), (4, .int 0)] := by
    show lv_has ls 7 [(0, .ref b), (1, .ref (ad 79)), (2, .ref (ad 80)), (3, .ref (ad 87)), (4, .int 0)]
    rw [had 79 r rfl, had 80 d rfl, had 87 w rfl]
    exact lv_sub hl [4, 3, 2, 1, 0] rfl
  refine W.widen (k := 1000) (n := 10000) (Nat.le_of_ble_eq_true rfl) (Nat.le_of_ble_eq_true rfl) ?_
  exact law_loop F hX hbl hls hAd hL Inv hstep 513 0 S0 1000 10000 H locs ls 0 (by omega) (by omega) nI_0.symm (by omega) (by omega) h0 w9 hl9
