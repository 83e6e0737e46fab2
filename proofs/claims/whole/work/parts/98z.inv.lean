/-! the invariant that every call of a script keeps -/
theorem INV_0 : INV S0 := by
  have hM : MOK [] := ⟨List.Pairwise.nil, by decide, fun v hv => absurd hv List.not_mem_nil⟩
  refine ⟨(fun _ => [], 31), [], ⟨⟨fun v hv => ⟨Nat.zero_le 24, ?_, fun k hk => absurd hk (Nat.not_lt_zero k)⟩, rfl⟩, by decide, rfl, 0, by decide, rfl, fun d hd => absurd hd (Nat.not_lt_zero d)⟩, ⟨⟨rfl, fun v hv => ⟨Nat.zero_le 24, ?_, fun k hk => absurd hk (Nat.not_lt_zero k)⟩⟩, rfl, by decide, fun d hd => absurd hd (Nat.not_lt_zero d)⟩, ⟨0, by decide, rfl, fun q => absurd q (by decide)⟩, ⟨fun v _ => hM, by decide, by decide⟩, fun q hq => absurd hq List.not_mem_nil⟩
  · rcases (show v = 0 ∨ v = 1 ∨ v = 2 ∨ v = 3 by omega) with rfl | rfl | rfl | rfl <;> rfl
  · rcases (show v = 0 ∨ v = 1 ∨ v = 2 ∨ v = 3 by omega) with rfl | rfl | rfl | rfl <;> rfl
theorem INV_s (j : Nat) (S : ST) (v1 v2 v3 v4 : Int32) (h : INV S) : ∃ S' : ST, stp j S v1 v2 v3 v4 = some S' ∧ INV S' :=
  match j with
  | 0 => J_add h v1 v2
  | 1 => J_remove h v1 v2
  | 2 => J_clear h v1
  | 3 => J_copy h v1 v2
  | 4 => J_size h v1
  | 5 => J_mark h v1 v2
  | 6 => J_length h v1
  | 7 => J_multiplicity h v1 v2
  | 8 => J_isRuler h v1
  | 9 => J_completeUpTo h v1
  | 10 => J_differences h v1
  | 11 => J_isFamily h v1
  | 12 => J_setModulus h v1
  | 13 => J_cyclicMultiplicity h v1 v2
  | 14 => J_isCyclicRuler h v1
  | 15 => J_index h v1
  | 16 => J_map h v1 v2 v3 v4
  | 17 => J_complement h v1 v2
  | 18 => J_reflect h v1 v2
  | 19 => J_multipliers h v1
  | 20 => J_canonical h v1 v2
  | 21 => J_erdosTuran h v1 v2
  | 22 => J_ruzsa h v1 v2 v3
  | 23 => J_residues h v1 v2
  | 24 => J_extend h v1 v2
  | 25 => J_optimal h v1 v2
  | 26 => J_sparse h v1 v2
  | 27 => J_firstDifferenceSet h v1 v2 v3
  | 28 => J_undo h
  | 29 => J_digest h
  | _ + 30 => ⟨S, rfl, h⟩
theorem main_inv : ∃ Inv : ST → Prop, Inv S0 ∧ ∀ (j : Nat) (S : ST) (v1 v2 v3 v4 : Int32), Inv S → ∃ S' : ST, stp j S v1 v2 v3 v4 = some S' ∧ Inv S' := ⟨INV, INV_0, INV_s⟩
