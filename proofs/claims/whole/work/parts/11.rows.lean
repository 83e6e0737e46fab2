/-! ===== the world of a call: what holds of the machine beside the pure state ===== -/
def inB (j : Int32) (n : Nat) : Bool := decide (¬ (j < 0 ∨ n ≤ j.toNatClampNeg))
theorem inB_in {j : Int32} {n : Nat} (h : inB j n = true) : vp_in j n := by
  unfold inB at h
  have h2 : ¬ (j < 0 ∨ n ≤ j.toNatClampNeg) := of_decide_eq_true h
  exact h2
theorem inB_lt {j : Int32} {n : Nat} (h : inB j n = true) : j.toNatClampNeg < n := Nat.not_le.mp fun q => inB_in h (Or.inr q)
/-- links to a nest mate's fields and methods, the texts of the exceptions, and what the tables say of these -/
def NF : List (String × Nat × String × String × String) := [(RX8, 108, RX4, "modulus", "I"), (RX8, 146, RX3, "distinct", "Z"), (RX8, 153, RX3, "row", "LRulerWorkbench$BitRow;"), (RX8, 262, RX6, "depth", "I"), (RX8, 294, RX3, "clashes", "I"), (RX8, 310, RX7, "count", "I"), (RX8, 323, RX1, "count", "I"), (RX8, 82, RX4, "sets", "[LRulerWorkbench$MarkSet;"), (RX8, 98, RX2, "count", "I"), (RX0, 24, RX2, "count", "I"), (RX1, 23, RX2, "count", "I"), (RX3, 29, RX2, "count", "I"), (RX5, 24, RX2, "count", "I")]
def NM : List (String × Nat × MethodName) := [(RX4, 17, yX2_init), (RX8, 25, yX2_init), (RX8, 35, yX1_init), (RX8, 45, yX0_init), (RX8, 56, yX3_init), (RX3, 11, yX0_init), (RX8, 59, yX5_init), (RX8, 66, yX7_init), (RX7, 22, yX8_isCoprime)]
def XT : List (Nat × String) := [(102, "the set is full"), (115, "the set does not have this mark"), (130, "there is no such mark"), (137, "d is out of range"), (157, "sets is out of range"), (166, "m is out of range"), (186, "t or s is out of range"), (192, "the result would have too many marks"), (209, "the set is empty"), (224, "g is not a primitive root of p"), (235, "n is out of range"), (237, "the set is not a ruler"), (239, "the set has more than n marks"), (245, "a mark would be greater than 2000"), (253, "v or k is out of range"), (265, "the undo stack is empty"), (282, "there is no such set"), (284, "the set has a mark that is not less than the modulus"), (289, "p is out of range or not a prime"), (77, "mark is out of range"), (95, "the set has this mark already")]
abbrev eIO : String := "java/lang/IndexOutOfBoundsException"
abbrev eIA : String := "java/lang/IllegalArgumentException"
abbrev eIS : String := "java/lang/IllegalStateException"
def XE : List String := [eIO, eIA, eIS]
def XP : List (String × String) := [(eIO, eIA), (eIO, eIS), (eIA, eIO), (eIA, eIS), (eIS, eIO), (eIS, eIA)]
def XD : List MethodName := [⟨"java/lang/RuntimeException", "<init>", "(Ljava/lang/String;)V"⟩, ⟨"java/lang/Exception", "<init>", "(Ljava/lang/String;)V"⟩, ⟨"java/lang/Throwable", "<init>", "(Ljava/lang/String;)V"⟩]
def EN (U : State) : Prop := (∀ q ∈ NF, va_Nw (.fieldLinkNest q.1 q.2.1 q.2.2.1 q.2.2.2.1 q.2.2.2.2 RX8) U) ∧ (∀ q ∈ NM, va_Nw (.methodLinkNest q.1 q.2.1 q.2.2 RX8) U) ∧ (∀ q ∈ XT, ∃ a : Nat, vk_R RX8 q.1 q.2 a U) ∧ (∀ q ∈ XE, va_Nw (.castable q q) U) ∧ (∀ q ∈ XD, va_Nw (.declares q) U) ∧ (∀ q ∈ XP, va_Nc q.1 q.2 U)
theorem EN.warm {s U : State} (hW : s.WarmedH U.vm) (h : EN s) : EN U :=
  ⟨fun q hq => (h.1 q hq).warmF hW, fun q hq => (h.2.1 q hq).warmM hW, fun q hq => (h.2.2.1 q hq).elim fun a ha => ⟨a, ha.warm hW⟩, fun q hq => (h.2.2.2.1 q hq).warmC hW, fun q hq => (h.2.2.2.2.1 q hq).warmD hW, fun q hq => (h.2.2.2.2.2 q hq).moved hW.alike⟩
def ZZ (x : CX) (U : State) : Prop := vx_Zq Bundle.tN "UNASSIGNED_STACK" Bundle.steD (AA x U.heap.size) U U.heap ∧ vx_Zq Bundle.tN "SUPPRESSED_SENTINEL" Bundle.listD (AA x U.heap.size) U U.heap
theorem AA_mono {x : CX} {a b : Nat} (h : a ≤ b) (q : Nat) (hq : AA x b q) : AA x a q := hq.elim Or.inl fun k => Or.inr (Nat.le_trans h k)
theorem ZZ.go {x : CX} {s U : State} (hvm : s.vm.Alike U.vm) (hz : s.heap.size ≤ U.heap.size) (hk : ∀ q : Nat, q < s.heap.size → ¬ AA x s.heap.size q → U.heap[q]? = s.heap[q]?) (h : ZZ x s) : ZZ x U :=
  ⟨((h.1.moved hvm).kept hk).narrow (AA_mono hz), ((h.2.moved hvm).kept hk).narrow (AA_mono hz)⟩
/-- the world where a call begins or ends -/
def PW (x : CX) (S : ST) (U : State) : Prop := va_P x.1 vwCl (cells x S) U.heap ∧ va_K x.1 vwCl (tysx x) U ∧ inj x ∧ EN U ∧ ZZ x U
/-- the world within a method whose entry was s -/
def WD (x : CX) (s : State) (S : ST) (H : Heap) (locs : List Loc) : Prop := va_P x.1 vwCl (cells x S) H ∧ va_K x.1 vwCl (tysx x) s ∧ inj x ∧ EN s ∧ ZZ x s ∧ va_S (AA x s.heap.size) s.heap H locs
theorem WD.P {x : CX} {s : State} {S : ST} {H : Heap} {locs : List Loc} (w : WD x s S H locs) : va_P x.1 vwCl (cells x S) H := w.1
theorem WD.K {x : CX} {s : State} {S : ST} {H : Heap} {locs : List Loc} (w : WD x s S H locs) : va_K x.1 vwCl (tysx x) s := w.2.1
theorem WD.I {x : CX} {s : State} {S : ST} {H : Heap} {locs : List Loc} (w : WD x s S H locs) : inj x := w.2.2.1
theorem WD.E {x : CX} {s : State} {S : ST} {H : Heap} {locs : List Loc} (w : WD x s S H locs) : EN s := w.2.2.2.1
theorem WD.Z {x : CX} {s : State} {S : ST} {H : Heap} {locs : List Loc} (w : WD x s S H locs) : ZZ x s := w.2.2.2.2.1
theorem WD.S {x : CX} {s : State} {S : ST} {H : Heap} {locs : List Loc} (w : WD x s S H locs) : va_S (AA x s.heap.size) s.heap H locs := w.2.2.2.2.2
theorem WD.D {x : CX} {s : State} {S : ST} {H : Heap} {locs : List Loc} (w : WD x s S H locs) : va_D (AA x s.heap.size) (cells x S) := cells_D w.I S _
theorem WD.to {x : CX} {s : State} {S S' : ST} {H H1 : Heap} {locs locs1 : List Loc} (w : WD x s S H locs) (hP : va_P x.1 vwCl (cells x S') H1) (hS : va_S (AA x s.heap.size) s.heap H1 locs1) : WD x s S' H1 locs1 := ⟨hP, w.K, w.I, w.E, w.Z, hS⟩
theorem WD.of {x : CX} {s : State} {S : ST} (h : PW x S s) : WD x s S s.heap [] := ⟨h.1, h.2.1, h.2.2.1, h.2.2.2.1, h.2.2.2.2, va_S.rf⟩
theorem WD.pre {x : CX} {s : State} {S : ST} {H : Heap} {locs : List Loc} (w : WD x s S H locs) {U : State} (hU : U.heap = H) (hW : s.WarmedH U.vm) : PW x S U :=
  ⟨by rw [hU]; exact w.P, va_K.moved hW.alike w.K, w.I, EN.warm hW w.E, ZZ.go hW.alike (by rw [hU]; exact w.S.1) (fun q h1 h2 => by rw [hU]; exact w.S.2.1 q h1 h2) w.Z⟩
theorem PW.calling {x : CX} {S : ST} {U : State} {g : JFrame} {mk : MethodId} {a : Array Value} (h : PW x S U) : PW x S (U.calling g mk a) :=
  ⟨h.1, va_K.moved (u := U) (U := U.calling g mk a) (Vm.Alike.refl U.vm) h.2.1, h.2.2.1, EN.warm (s := U) (U := U.calling g mk a) (State.WarmedH.refl U) h.2.2.2.1, ZZ.go (s := U) (U := U.calling g mk a) (Vm.Alike.refl U.vm) (Nat.le_refl _) (fun _ _ _ => rfl) h.2.2.2.2⟩
/-- a method's start -/
abbrev PC (x : CX) (S : ST) (sz : Nat) (av : List Value) : Array Value → State → Prop := va_Pc av (fun U => U.heap.size = sz ∧ PW x S U)
theorem PC.blind {x : CX} {S : ST} {sz : Nat} {av : List Value} : FrameBlind (PC x S sz av) := fun _ _ _ _ q => ⟨q.1, q.2.1, q.2.2.calling⟩
/-- a method's end, where it returns: an int, a long, nothing, the cell k -/
abbrev QI (x : CX) (S : ST) (r : Int32) (sz : Nat) : Array Value → State → Outcome → State → Prop := va_Qi (fun (r' : Int32) (_ : Unit) => r' = r) (fun _ t => PW x S t) (AA x sz)
abbrev QL (x : CX) (S : ST) (r : Int64) (sz : Nat) : Array Value → State → Outcome → State → Prop := va_Ql (fun (r' : Int64) (_ : Unit) => r' = r) (fun _ t => PW x S t) (AA x sz)
abbrev QV (x : CX) (S : ST) (sz : Nat) : Array Value → State → Outcome → State → Prop := va_Qv (fun (_ : Unit) => True) (fun _ t => PW x S t) (AA x sz)
abbrev QR (x : CX) (S : ST) (k : Nat) (sz : Nat) : Array Value → State → Outcome → State → Prop := va_Qr (fun (_ : Unit) => True) (fun _ a t => a = x.2.2 k ∧ PW x S t) (AA x sz)
/-- .. where it may throw: n = 0 if it returns, else which -/
abbrev QXI (x : CX) (S : ST) (n : Nat) (r : Int32) (sz : Nat) : Array Value → State → Outcome → State → Prop := va_Qi (fun (r' : Int32) (_ : Unit) => n = 0 ∧ r' = r) (fun _ t => PW x S t) (AA x sz)
abbrev QXV (x : CX) (S : ST) (n : Nat) (sz : Nat) : Array Value → State → Outcome → State → Prop := va_Qv (fun (_ : Unit) => n = 0) (fun _ t => PW x S t) (AA x sz)
def XK : List (Nat × String) := [(1, eIO), (2, eIA), (3, eIS)]
abbrev XX (x : CX) (S : ST) (n : Nat) (sz : Nat) : String → State → State → Prop := vx_X (fun (_ : Unit) => True) (fun E _ t => (n, E) ∈ XK ∧ va_P x.1 vwCl (cells x S) t.heap) (AA x sz)
/-- what is fixed in a method's body -/
abbrev MF (p : Program) (m : MethodId) (meth : Method) (c : Code) (cc : ByteArray) (nL : Nat) (s : State) (args : Array Value) (own : String) (ret : Option FieldType) : Prop :=
  p.tables.exec = Jvm.exec ∧ c.code = cc ∧ c.maxLocals = nL ∧ s.vm.findClass own = some m.cls ∧ (∀ w ∈ GW, w.before args s = true) ∧ meth.sig.returnType = ret ∧ meth.locks = false
theorem MF.fix {p : Program} {m : MethodId} {meth : Method} {c : Code} {cc : ByteArray} {nL : Nat} {s : State} {args : Array Value} {own : String} {ret : Option FieldType} (F : MF p m meth c cc nL s args own ret) : CallFix p m c cc nL s args GW own := ⟨F.1, F.2.1, F.2.2.1, F.2.2.2.1, F.2.2.2.2.1⟩
theorem MF.of {p : Program} {l : Launch} {y : MethodName} {rm : Room} {cc : ByteArray} {maxL : Nat} {ret : Option FieldType} {e : Env} {s s₁ : State} {m : MethodId} {args : Array Value} {below : List Frame} {meth : Method} {c : Code} {w : Cond} (B : BodyLoose p l y (headSpec (w :: GW) rm) cc maxL ret e s m args below meth c s₁) (hml : c.maxLocals = maxL) : MF p m meth c cc maxL s args y.cls ret :=
  ⟨B.exec, B.bytes, hml, findClass_of_methodNamed B.named, fun v h => atoms_spec (ws := w :: GW) B.pre v (List.mem_cons_of_mem _ h), B.returns, B.notSynchronized⟩
section R1
variable {p : Program} {l : Launch} {e : Env} {R : Room} {s : State} {m : MethodId} {args : Array Value} {below : List Frame} {meth : Method} {c : Code} {H : Heap} {locs : List Loc} {kc ks : Nat} {Q : State → Prop} {cc : ByteArray} {nL : Nat} {own : String} {ret : Option FieldType} {pc : Nat} {ls : Array Slot} {rest : List Value} {x : CX} {S : ST}
/-! ===== fields ===== -/
theorem r_get (F : MF p m meth c cc nL s args own ret) (w : WD x s S H locs) {k ci j index N : Nat} {C : String} {T : u_T} {fs : List Value} {v : Value} (hk : k < 88) (he : enc x S k = .inr (ci, fs)) (hc : vwCl[ci]? = some (C, T, N)) (hin : ∀ w ∈ u_ws C T N, w ∈ GW) (hj : j < N) (hT : (T j).1 = C) (hl : Cond.fieldLink own index C (T j).2.1 (T j).2.2.1 ∈ GW) (hv : fs[j]? = some v) (hd : decode cc pc = .ok (.getfield index, 3))
    (kk : W p l e R s m args below meth c H locs kc ks Q (F0 m (pc + 3) ls (v :: rest))) : W p l e R s m args below meth c H locs kc ks Q (F0 m pc ls (.ref (x.2.2 k) :: rest)) :=
  va_get (D := x.1) F.1 F.2.1 F.2.2.2.2.1 hin F.2.2.2.1 w.K w.P k (by rw [cells_get x S hk, he]) hc j hj (F.2.2.2.2.1 _ hl) (fun _ h => by rw [hT] at h; exact h) hv hd kk
theorem r_getN (F : MF p m meth c cc nL s args own ret) (w : WD x s S H locs) {k ci j index N : Nat} {C : String} {T : u_T} {fs : List Value} {v : Value} (hk : k < 88) (he : enc x S k = .inr (ci, fs)) (hc : vwCl[ci]? = some (C, T, N)) (hin : ∀ w ∈ u_ws C T N, w ∈ GW) (hj : j < N) (hT : (T j).1 = C) (hl : (own, index, C, (T j).2.1, (T j).2.2.1) ∈ NF) (hv : fs[j]? = some v) (hd : decode cc pc = .ok (.getfield index, 3))
    (kk : W p l e R s m args below meth c H locs kc ks Q (F0 m (pc + 3) ls (v :: rest))) : W p l e R s m args below meth c H locs kc ks Q (F0 m pc ls (.ref (x.2.2 k) :: rest)) :=
  va_getN (D := x.1) (host := RX8) F.1 F.2.1 F.2.2.2.2.1 hin F.2.2.2.1 w.K w.P k (by rw [cells_get x S hk, he]) hc j hj (va_Nw.use rfl (w.E.1 _ hl)) (fun _ h => by rw [hT] at h; exact h) hv hd kk
theorem r_put (F : MF p m meth c cc nL s args own ret) (w : WD x s S H locs) {k ci j index N : Nat} {C : String} {T : u_T} {fs : List Value} {v : Value} {S' : ST} {ty0 : Nat → FieldType} {ty : FieldType} (hk : k < 88) (he : enc x S k = .inr (ci, fs)) (hc : vwCl[ci]? = some (C, T, N)) (hin : ∀ w ∈ u_ws C T N, w ∈ GW) (hty : ∀ k, k < N → parseFieldDescriptor (T k).2.2.1 = some (ty0 k)) (hnm : ∀ a, a < N → ∀ b, b < N → a ≠ b → (T a).2.1 ≠ (T b).2.1) (hj : j < N) (hT : (T j).1 = C) (hl : Cond.fieldLink own index C (T j).2.1 (T j).2.2.1 ∈ GW) (hfin : (T j).2.2.2 = false) (hd0 : ty0 j = ty) (hn : narrow ty v = v) (hfit : fits ty v = true) (hlen : j < fs.length) (he' : enc x S' k = .inr (ci, fs.set j v)) (ho : ∀ i : Nat, i < 88 → i ≠ k → enc x S' i = enc x S i) (hd : decode cc pc = .ok (.putfield index, 3))
    (kk : ∀ (H1 : Heap) (locs1 : List Loc), WD x s S' H1 locs1 → W p l e R s m args below meth c H1 locs1 kc ks Q (F0 m (pc + 3) ls rest)) : W p l e R s m args below meth c H locs kc ks Q (F0 m pc ls (v :: .ref (x.2.2 k) :: rest)) :=
  va_put (D := x.1) F.1 F.2.1 F.2.2.2.2.1 hin ty0 hty hnm F.2.2.2.1 w.K w.P w.D w.S k (by rw [cells_get x S hk, he]) hc j hj (F.2.2.2.2.1 _ hl) (fun _ h => by rw [hT] at h; exact h) hfin (by rw [hty j hj, hd0]) hn hfit hlen hd (fun H1 locs1 hP _ hS => kk H1 locs1 (w.to (by rw [cells_set hk he' ho] at hP; exact hP) hS))
theorem r_putN (F : MF p m meth c cc nL s args own ret) (w : WD x s S H locs) {k ci j index N : Nat} {C : String} {T : u_T} {fs : List Value} {v : Value} {S' : ST} {ty0 : Nat → FieldType} {ty : FieldType} (hk : k < 88) (he : enc x S k = .inr (ci, fs)) (hc : vwCl[ci]? = some (C, T, N)) (hin : ∀ w ∈ u_ws C T N, w ∈ GW) (hty : ∀ k, k < N → parseFieldDescriptor (T k).2.2.1 = some (ty0 k)) (hnm : ∀ a, a < N → ∀ b, b < N → a ≠ b → (T a).2.1 ≠ (T b).2.1) (hj : j < N) (hT : (T j).1 = C) (hl : (own, index, C, (T j).2.1, (T j).2.2.1) ∈ NF) (hfin : (T j).2.2.2 = false) (hd0 : ty0 j = ty) (hn : narrow ty v = v) (hfit : fits ty v = true) (hlen : j < fs.length) (he' : enc x S' k = .inr (ci, fs.set j v)) (ho : ∀ i : Nat, i < 88 → i ≠ k → enc x S' i = enc x S i) (hd : decode cc pc = .ok (.putfield index, 3))
    (kk : ∀ (H1 : Heap) (locs1 : List Loc), WD x s S' H1 locs1 → W p l e R s m args below meth c H1 locs1 kc ks Q (F0 m (pc + 3) ls rest)) : W p l e R s m args below meth c H locs kc ks Q (F0 m pc ls (v :: .ref (x.2.2 k) :: rest)) :=
  va_putN (D := x.1) (host := RX8) F.1 F.2.1 F.2.2.2.2.1 hin ty0 hty hnm F.2.2.2.1 w.K w.P w.D w.S k (by rw [cells_get x S hk, he]) hc j hj (va_Nw.use rfl (w.E.1 _ hl)) (fun _ h => by rw [hT] at h; exact h) hfin (by rw [hty j hj, hd0]) hn hfit hlen hd (fun H1 locs1 hP _ hS => kk H1 locs1 (w.to (by rw [cells_set hk he' ho] at hP; exact hP) hS))
/-! ===== rows of numbers ===== -/
theorem r_iald (F : MF p m meth c cc nL s args own ret) (w : WD x s S H locs) {k n : Nat} {f : Nat → Int32} {i : Int32} (hk : k < 88) (he : enc x S k = .inl (x.2.1 0, n, .inl f)) (hin : inB i n = true) (hd : decode cc pc = .ok (.iaload, 1))
    (kk : W p l e R s m args below meth c H locs kc ks Q (F0 m (pc + 1) ls (.int (f i.toNatClampNeg) :: rest))) : W p l e R s m args below meth c H locs kc ks Q (F0 m pc ls (.int i :: .ref (x.2.2 k) :: rest)) :=
  va_iald F.1 F.2.1 w.K w.P k 0 (by rw [cells_get x S hk, he]) rfl (inB_in hin) hd kk
theorem r_lald (F : MF p m meth c cc nL s args own ret) (w : WD x s S H locs) {k n : Nat} {f : Nat → Int64} {i : Int32} (hk : k < 88) (he : enc x S k = .inl (x.2.1 1, n, .inr (.inl f))) (hin : inB i n = true) (hd : decode cc pc = .ok (.laload, 1))
    (kk : W p l e R s m args below meth c H locs kc ks Q (F0 m (pc + 1) ls (.long (f i.toNatClampNeg) :: rest))) : W p l e R s m args below meth c H locs kc ks Q (F0 m pc ls (.int i :: .ref (x.2.2 k) :: rest)) :=
  va_lald F.1 F.2.1 w.K w.P k 1 (by rw [cells_get x S hk, he]) rfl (inB_in hin) hd kk
theorem r_iast (F : MF p m meth c cc nL s args own ret) (w : WD x s S H locs) {k n a : Nat} {i v : Int32} (hk : k < 88) (he : ∀ S : ST, enc x S k = .inl (x.2.1 0, n, .inl (ai S a))) (hca : cA a = k) (hin : inB i n = true) (hd : decode cc pc = .ok (.iastore, 1))
    (kk : ∀ (H1 : Heap) (locs1 : List Loc), WD x s (sA S a (upd (ai S a) i.toNatClampNeg v)) H1 locs1 → W p l e R s m args below meth c H1 locs1 kc ks Q (F0 m (pc + 1) ls rest)) : W p l e R s m args below meth c H locs kc ks Q (F0 m pc ls (.int v :: .int i :: .ref (x.2.2 k) :: rest)) :=
  va_iast F.1 F.2.1 w.K w.P w.D w.S k 0 (by rw [cells_get x S hk, he]) rfl (inB_in hin) hd (fun H1 locs1 hP _ hS => kk H1 locs1 (w.to (by rw [cells_set hk (S' := sA S a (upd (ai S a) i.toNatClampNeg v)) (by rw [he, ai_sA, va_up_self]) (fun j _ hj => enc_sA x S a _ (by rw [hca]; exact hj))] at hP; exact hP) hS))
theorem r_last (F : MF p m meth c cc nL s args own ret) (w : WD x s S H locs) {k n a : Nat} {i : Int32} {v : Int64} (hk : k < 88) (he : ∀ S : ST, enc x S k = .inl (x.2.1 1, n, .inr (.inl (al S a)))) (hca : cB a = k) (hin : inB i n = true) (hd : decode cc pc = .ok (.lastore, 1))
    (kk : ∀ (H1 : Heap) (locs1 : List Loc), WD x s (sB S a (vp_updL (al S a) i.toNatClampNeg v)) H1 locs1 → W p l e R s m args below meth c H1 locs1 kc ks Q (F0 m (pc + 1) ls rest)) : W p l e R s m args below meth c H locs kc ks Q (F0 m pc ls (.long v :: .int i :: .ref (x.2.2 k) :: rest)) :=
  va_last F.1 F.2.1 w.K w.P w.D w.S k 1 (by rw [cells_get x S hk, he]) rfl (inB_in hin) hd (fun H1 locs1 hP _ hS => kk H1 locs1 (w.to (by rw [cells_set hk (S' := sB S a (vp_updL (al S a) i.toNatClampNeg v)) (by rw [he, al_sB, va_up_self]) (fun j h9 hj => enc_sB x S a _ h9 (by rw [hca]; exact hj))] at hP; exact hP) hS))
theorem r_alen (F : MF p m meth c cc nL s args own ret) (w : WD x s S H locs) {k n : Nat} {f : Nat → Int32} {v : Int32} (hk : k < 88) (he : enc x S k = .inl (x.2.1 0, n, .inl f)) (hv : Int32.ofNat n = v) (hd : decode cc pc = .ok (.arraylength, 1))
    (kk : W p l e R s m args below meth c H locs kc ks Q (F0 m (pc + 1) ls (.int v :: rest))) : W p l e R s m args below meth c H locs kc ks Q (F0 m pc ls (.ref (x.2.2 k) :: rest)) :=
  va_alen F.1 F.2.1 w.K w.P k 0 (by rw [cells_get x S hk, he]) rfl hv hd kk
theorem r_alenL (F : MF p m meth c cc nL s args own ret) (w : WD x s S H locs) {k n : Nat} {f : Nat → Int64} {v : Int32} (hk : k < 88) (he : enc x S k = .inl (x.2.1 1, n, .inr (.inl f))) (hv : Int32.ofNat n = v) (hd : decode cc pc = .ok (.arraylength, 1))
    (kk : W p l e R s m args below meth c H locs kc ks Q (F0 m (pc + 1) ls (.int v :: rest))) : W p l e R s m args below meth c H locs kc ks Q (F0 m pc ls (.ref (x.2.2 k) :: rest)) :=
  va_alen F.1 F.2.1 w.K w.P k 1 (by rw [cells_get x S hk, he]) rfl hv hd kk
/-! ===== rows of references ===== -/
/-- now.sets[i] -/
theorem r_now (F : MF p m meth c cc nL s args own ret) (w : WD x s S H locs) {i : Int32} (hin : inB i 4 = true) (hd : decode cc pc = .ok (.aaload, 1))
    (kk : W p l e R s m args below meth c H locs kc ks Q (F0 m (pc + 1) ls (.ref (x.2.2 (2 * i.toNatClampNeg)) :: rest))) : W p l e R s m args below meth c H locs kc ks Q (F0 m pc ls (.int i :: .ref (x.2.2 64) :: rest)) := by
  have h4 : 2 * (4 * 0 + i.toNatClampNeg) = 2 * i.toNatClampNeg := by omega
  refine va_aldq F.1 F.2.1 w.K w.P 64 2 (f := fun v => some (x.2.2 (2 * (4 * 0 + v)))) (by rw [cells_get x S (by omega)]; exact congrArg (fun z => some (x.2.2 64, z)) (enc_ss x S (j := 0) (by omega))) rfl (inB_in hin) hd ?_
  show W p l e R s m args below meth c H locs kc ks Q (F0 m (pc + 1) ls (.ref (x.2.2 (2 * (4 * 0 + i.toNatClampNeg))) :: rest))
  rw [h4]
  exact kk
/-- a state's sets[i] -/
theorem r_sets (F : MF p m meth c cc nL s args own ret) (w : WD x s S H locs) {j : Nat} {i : Int32} (hj : j < 5) (hin : inB i 4 = true) (hd : decode cc pc = .ok (.aaload, 1))
    (kk : W p l e R s m args below meth c H locs kc ks Q (F0 m (pc + 1) ls (.ref (x.2.2 (2 * (4 * j + i.toNatClampNeg))) :: rest))) : W p l e R s m args below meth c H locs kc ks Q (F0 m pc ls (.int i :: .ref (x.2.2 (64 + 2 * j)) :: rest)) :=
  va_aldq F.1 F.2.1 w.K w.P (64 + 2 * j) 2 (f := fun v => some (x.2.2 (2 * (4 * j + v)))) (by rw [cells_get x S (by omega), enc_ss x S hj]) rfl (inB_in hin) hd kk
/-- spans[i] -/
theorem r_spans (F : MF p m meth c cc nL s args own ret) (w : WD x s S H locs) {i : Int32} (hin : inB i 4 = true) (hd : decode cc pc = .ok (.aaload, 1))
    (kk : W p l e R s m args below meth c H locs kc ks Q (F0 m (pc + 1) ls (.ref (x.2.2 (58 + i.toNatClampNeg)) :: rest))) : W p l e R s m args below meth c H locs kc ks Q (F0 m pc ls (.int i :: .ref (x.2.2 62) :: rest)) :=
  va_aldq F.1 F.2.1 w.K w.P 62 3 (f := fun v => some (x.2.2 (58 + v))) (by rw [cells_get x S (by omega)]; rfl) rfl (inB_in hin) hd kk
/-- states[i] -/
theorem r_states (F : MF p m meth c cc nL s args own ret) (w : WD x s S H locs) {i : Int32} (hin : inB i 4 = true) (hd : decode cc pc = .ok (.aaload, 1))
    (kk : W p l e R s m args below meth c H locs kc ks Q (F0 m (pc + 1) ls (.ref (x.2.2 (63 + 2 * (i.toNatClampNeg + 1))) :: rest))) : W p l e R s m args below meth c H locs kc ks Q (F0 m pc ls (.int i :: .ref (x.2.2 74) :: rest)) :=
  va_aldq F.1 F.2.1 w.K w.P 74 4 (f := fun v => some (x.2.2 (63 + 2 * (v + 1)))) (by rw [cells_get x S (by omega)]; rfl) rfl (inB_in hin) hd kk
/-! ===== ends ===== -/
theorem r_iret (F : MF p m meth c cc nL s args own (some .int)) (w : WD x s S H locs) {v : Int32} {res : Int32 × ST} (h : (v, S) = res) (hd : decode cc pc = .ok (.ireturn, 1)) : W p l e R s m args below meth c H locs kc ks (MQ below (QI x res.2 res.1 s.heap.size) args s kc ks (AA x s.heap.size)) (F0 m pc ls [.int v]) := by
  cases h
  exact W.iret F.1 F.2.1 F.2.2.2.2.2.1 (fun t ht hW => ⟨⟨v, (), rfl, rfl, w.pre ht hW⟩, w.S.F ht⟩) w.S.2.2 hd F.2.2.2.2.2.2
theorem r_zret (F : MF p m meth c cc nL s args own (some .boolean)) (w : WD x s S H locs) {v : Int32} {res : Int32 × ST} (hv : narrow .boolean (.int v) = .int v) (h : (v, S) = res) (hd : decode cc pc = .ok (.ireturn, 1)) : W p l e R s m args below meth c H locs kc ks (MQ below (QI x res.2 res.1 s.heap.size) args s kc ks (AA x s.heap.size)) (F0 m pc ls [.int v]) := by
  cases h
  exact W.zret F.1 F.2.1 F.2.2.2.2.2.1 hv (fun t ht hW => ⟨⟨v, (), rfl, rfl, w.pre ht hW⟩, w.S.F ht⟩) w.S.2.2 hd F.2.2.2.2.2.2
theorem r_lret (F : MF p m meth c cc nL s args own (some .long)) (w : WD x s S H locs) {v : Int64} {res : Int64 × ST} (h : (v, S) = res) (hd : decode cc pc = .ok (.lreturn, 1)) : W p l e R s m args below meth c H locs kc ks (MQ below (QL x res.2 res.1 s.heap.size) args s kc ks (AA x s.heap.size)) (F0 m pc ls [.long v]) := by
  cases h
  exact W.lret F.1 F.2.1 F.2.2.2.2.2.1 (fun t ht hW => ⟨⟨v, (), rfl, rfl, w.pre ht hW⟩, w.S.F ht⟩) w.S.2.2 hd F.2.2.2.2.2.2
theorem r_vret (F : MF p m meth c cc nL s args own none) (w : WD x s S H locs) {res : ST} (h : S = res) (hd : decode cc pc = .ok (.return_, 1)) : W p l e R s m args below meth c H locs kc ks (MQ below (QV x res s.heap.size) args s kc ks (AA x s.heap.size)) (F0 m pc ls []) := by
  cases h
  exact W.vret F.1 F.2.1 F.2.2.2.2.2.1 (fun t ht hW => ⟨⟨(), rfl, trivial, w.pre ht hW⟩, w.S.F ht⟩) w.S.2.2 hd F.2.2.2.2.2.2
/-! ===== calls ===== -/
/-- what the tables say of a method that is called -/
abbrev CY (y : MethodName) (C : String) (bytes : ByteArray) (maxL : Nat) (rt : Option FieldType) (n : Nat) : Prop := Cond.initialized C ∈ GW ∧ Cond.code y bytes maxL rt ∈ GW ∧ y.cls = C ∧ y.cls ≠ "java/lang/invoke/MethodHandle" ∧ y.cls ≠ "java/lang/invoke/VarHandle" ∧ (parseMethodDescriptor y.desc).map (fun d => d.parameters.length) = some n
theorem giV {y : MethodName} {C : String} {bytes : ByteArray} {maxL : Nat} {rt : Option FieldType} {n index : Nat} (cy : CY y C bytes maxL rt n) (h1 : Cond.methodLink own index y ∈ GW) (h2 : Cond.instanceMethod y ∈ GW) (h3 : Cond.selects C y y ∈ GW) : GoodIn GW (wsV own index C y (Cond.code y bytes maxL rt :: GW)) := by
  intro v hv
  have h : v ∈ GW := by
    unfold wsV at hv
    rcases List.mem_append.mp hv with h | h
    · simp only [List.mem_cons, List.not_mem_nil, or_false] at h
      rcases h with rfl | rfl | rfl | rfl
      · exact h1
      · exact h2
      · exact h3
      · exact cy.1
    · rcases List.mem_cons.mp h with rfl | h
      · exact cy.2.1
      · exact h
  exact ⟨h, gw_good h⟩
theorem giS {y : MethodName} {C : String} {bytes : ByteArray} {maxL : Nat} {rt : Option FieldType} {n index : Nat} (cy : CY y C bytes maxL rt n) (h1 : Cond.methodLink own index y ∈ GW) (h2 : Cond.static y ∈ GW) : GoodIn GW (va_wsS own index y (Cond.code y bytes maxL rt :: GW)) := by
  intro v hv
  have h : v ∈ GW := by
    unfold va_wsS at hv
    rcases List.mem_append.mp hv with h | h
    · simp only [List.mem_cons, List.not_mem_nil, or_false] at h
      rcases h with rfl | rfl | rfl
      · exact h1
      · exact h2
      · rw [cy.2.2.1]; exact cy.1
    · rcases List.mem_cons.mp h with rfl | h
      · exact cy.2.1
      · exact h
  exact ⟨h, gw_good h⟩
section CL
variable {y : MethodName} {C : String} {bytes : ByteArray} {maxL n index mc ms : Nat} {rt : Option FieldType} {rm : Room} {S' : ST} {st0 : List Value} {As : List Value} {kb : Nat}
/-- the run of a virtual call, of a static one -/
theorem runV (F : MF p m meth c cc nL s args own ret) (w : WD x s S H locs) {Qc : Array Value → State → Outcome → State → Prop} (hM : Met l y (Cond.code y bytes maxL rt :: GW) rm (PC x S H.size (.ref (x.2.2 kb) :: As)) Qc mc ms (AA x H.size)) (cy : CY y C bytes maxL rt n) (h1 : Cond.methodLink own index y ∈ GW) (h2 : Cond.instanceMethod y ∈ GW) (h3 : Cond.selects C y y ∈ GW) (hrm : rm.cells = mc ∧ rm.slots = ms) (hR : rm.frames + 1 ≤ R.frames ∧ 8 + (maxL + 11) + rm.locals ≤ R.locals)
    {ci N : Nat} {T : u_T} {fs : List Value} (hk : kb < 88) (he : enc x S kb = .inr (ci, fs)) (hc : vwCl[ci]? = some (C, T, N)) (hn : As.length = n) (hst : st0 = As.reverse ++ .ref (x.2.2 kb) :: rest) (hsz : ls.size = nL) (hW : (rest.map fun v => v.category).sum ≤ 8) (hcap : kc + mc ≤ R.cells ∧ ks + ms ≤ R.slots) (hd : decode cc pc = .ok (.invokevirtual index, 3)) :
    va_Run p l e R s m args below meth c H locs kc ks mc ms (F0 m pc ls st0) rest (Qc (Value.ref (x.2.2 kb) :: As).toArray) (AA x H.size) :=
  va_runV F.fix hM (cwV n F.2.2.2.2.1 (giV cy h1 h2 h3) rfl hrm.1 hrm.2 cy.2.2 hR) ⟨PC.blind, va_recv w.K w.P (q := (C, T, N)) hc (by rw [cells_get x S hk, he]), fun U hU hWm => ⟨rfl, by rw [hU], w.pre hU hWm⟩⟩ rfl hn hsz hst (lv_room hW) hd hcap
theorem runS (F : MF p m meth c cc nL s args own ret) (w : WD x s S H locs) {Qc : Array Value → State → Outcome → State → Prop} (hM : Met l y (Cond.code y bytes maxL rt :: GW) rm (PC x S H.size As) Qc mc ms (AA x H.size)) (cy : CY y C bytes maxL rt n) (h1 : Cond.methodLink own index y ∈ GW) (h2 : Cond.static y ∈ GW) (hrm : rm.cells = mc ∧ rm.slots = ms) (hR : rm.frames + 1 ≤ R.frames ∧ 8 + (maxL + 11) + rm.locals ≤ R.locals)
    (hn : As.length = n) (hst : st0 = As.reverse ++ rest) (hsz : ls.size = nL) (hW : (rest.map fun v => v.category).sum ≤ 8) (hcap : kc + mc ≤ R.cells ∧ ks + ms ≤ R.slots) (hd : decode cc pc = .ok (.invokestatic index, 3)) :
    va_Run p l e R s m args below meth c H locs kc ks mc ms (F0 m pc ls st0) rest (Qc As.toArray) (AA x H.size) :=
  va_runS F.fix hM (va_cwS n F.2.2.2.2.1 (giS cy h1 h2) rfl hrm.1 hrm.2 cy.2.2.2 hR) ⟨PC.blind, fun U hU hWm => ⟨rfl, by rw [hU], w.pre hU hWm⟩⟩ rfl hn hsz hst (lv_room hW) hd hcap
theorem WD.sub {x : CX} {s : State} {S : ST} {H : Heap} {locs : List Loc} (w : WD x s S H locs) (q : Nat) (h : AA x H.size q) : AA x s.heap.size q := AA_mono w.S.1 q h
theorem k_i (w : WD x s S H locs) {r : Int32} {a : Array Value} (hr : va_Run p l e R s m args below meth c H locs kc ks mc ms (F0 m pc ls st0) rest (QI x S' r H.size a) (AA x H.size))
    (kk : ∀ (H1 : Heap) (locs1 : List Loc), WD x s S' H1 locs1 → W p l e R s m args below meth c H1 locs1 (kc + mc) (ks + ms) Q (F0 m (pc + 3) ls (.int r :: rest))) : W p l e R s m args below meth c H locs kc ks Q (F0 m pc ls st0) :=
  va_calli hr w.S (fun q _ h => w.sub q h) w.sub (fun r' u t H1 locs1 ht _ hp hB _ _ hS => by cases hp; exact kk H1 locs1 (w.to (by rw [← ht]; exact hB.1) hS))
theorem k_l (w : WD x s S H locs) {r : Int64} {a : Array Value} (hr : va_Run p l e R s m args below meth c H locs kc ks mc ms (F0 m pc ls st0) rest (QL x S' r H.size a) (AA x H.size))
    (kk : ∀ (H1 : Heap) (locs1 : List Loc), WD x s S' H1 locs1 → W p l e R s m args below meth c H1 locs1 (kc + mc) (ks + ms) Q (F0 m (pc + 3) ls (.long r :: rest))) : W p l e R s m args below meth c H locs kc ks Q (F0 m pc ls st0) :=
  va_calll hr w.S (fun q _ h => w.sub q h) w.sub (fun r' u t H1 locs1 ht _ hp hB _ _ hS => by cases hp; exact kk H1 locs1 (w.to (by rw [← ht]; exact hB.1) hS))
theorem k_v (w : WD x s S H locs) {a : Array Value} (hr : va_Run p l e R s m args below meth c H locs kc ks mc ms (F0 m pc ls st0) rest (QV x S' H.size a) (AA x H.size))
    (kk : ∀ (H1 : Heap) (locs1 : List Loc), WD x s S' H1 locs1 → W p l e R s m args below meth c H1 locs1 (kc + mc) (ks + ms) Q (F0 m (pc + 3) ls rest)) : W p l e R s m args below meth c H locs kc ks Q (F0 m pc ls st0) :=
  va_callv hr w.S (fun q _ h => w.sub q h) w.sub (fun u t H1 locs1 ht _ hp hB _ _ hS => kk H1 locs1 (w.to (by rw [← ht]; exact hB.1) hS))
theorem k_r (w : WD x s S H locs) {k : Nat} {a : Array Value} (hr : va_Run p l e R s m args below meth c H locs kc ks mc ms (F0 m pc ls st0) rest (QR x S' k H.size a) (AA x H.size))
    (kk : ∀ (H1 : Heap) (locs1 : List Loc), WD x s S' H1 locs1 → W p l e R s m args below meth c H1 locs1 (kc + mc) (ks + ms) Q (F0 m (pc + 3) ls (.ref (x.2.2 k) :: rest))) : W p l e R s m args below meth c H locs kc ks Q (F0 m pc ls st0) :=
  va_callr hr w.S (fun q _ h => w.sub q h) w.sub (fun u a t H1 locs1 ht _ hp hB _ _ hS => by obtain ⟨rfl, hB⟩ := hB; exact kk H1 locs1 (w.to (by rw [← ht]; exact hB.1) hS))
end CL
/-! ===== pure programs: what may fail ===== -/
end R1
def oG {α : Type} (b : Bool) (k : Option α) : Option α := if b = true then k else none
def oB {α β γ : Type} (o : Option (α × β)) (k : α → β → Option γ) : Option γ := match o with
  | none => none
  | some u => k u.1 u.2
def oV {β γ : Type} (o : Option β) (k : β → Option γ) : Option γ := match o with
  | none => none
  | some u => k u
def oL {α γ : Type} (a : α) (k : α → Option γ) : Option γ := k a
theorem oi_g {α : Type} {b : Bool} {k : Option α} {r : α} (h : oG b k = some r) : b = true ∧ k = some r := by
  unfold oG at h
  cases b with
  | true => exact ⟨rfl, by simpa using h⟩
  | false => simp at h
theorem oi_b {α β γ : Type} {o : Option (α × β)} {k : α → β → Option γ} {r : γ} (h : oB o k = some r) : ∃ (a : α) (b : β), o = some (a, b) ∧ k a b = some r := by
  cases o with
  | none => cases h
  | some u => exact ⟨u.1, u.2, rfl, h⟩
theorem oi_v {β γ : Type} {o : Option β} {k : β → Option γ} {r : γ} (h : oV o k = some r) : ∃ b : β, o = some b ∧ k b = some r := by
  cases o with
  | none => cases h
  | some u => exact ⟨u, rfl, h⟩
theorem oi_l {α γ : Type} {a y : α} {k : α → Option γ} {r : γ} (h : oL a k = some r) (e : y = a) : k y = some r := by
  subst e
  exact h
theorem oi_t {α : Type} {c : Prop} [Decidable c] {a b : Option α} {r : α} (h : (if c then a else b) = some r) (hc : c) : a = some r := by rw [if_pos hc] at h; exact h
theorem oi_f {α : Type} {c : Prop} [Decidable c] {a b : Option α} {r : α} (h : (if c then a else b) = some r) (hc : ¬ c) : b = some r := by rw [if_neg hc] at h; exact h
theorem oi_s {α : Type} {a r : α} (h : some a = some r) : a = r := Option.some.inj h
