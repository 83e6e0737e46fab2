/-! ===== constructors: the world grows, cell by cell ===== -/
def tysc (cy : Nat → ClassId) : List (ClassId × FieldType) := [(cy 0, .int), (cy 1, .long), (cy 2, .object RX2), (cy 3, .object RX3), (cy 4, .object RX4)]
/-- what holds of the tables wherever a constructor runs -/
def KI (D : va_G) (cy : Nat → ClassId) (U : State) : Prop := va_K D vwCl (tysc cy) U ∧ EN U ∧ va_AO RX2 U ∧ va_AO RX3 U ∧ va_AO RX4 U
theorem KI.warm {D : va_G} {cy : Nat → ClassId} {s U : State} (hW : s.WarmedH U.vm) (h : KI D cy s) : KI D cy U := ⟨va_K.moved hW.alike h.1, h.2.1.warm hW, h.2.2.1.moved hW.alike, h.2.2.2.1.moved hW.alike, h.2.2.2.2.moved hW.alike⟩
abbrev PI (D : va_G) (cy : Nat → ClassId) (ws : va_W) (sz : Nat) (av : List Value) : Array Value → State → Prop := va_Pc av (fun U => U.heap.size = sz ∧ va_P D vwCl ws U.heap ∧ KI D cy U ∧ va_D (fun _ => True) ws)
theorem PI.blind {D : va_G} {cy : Nat → ClassId} {ws : va_W} {sz : Nat} {av : List Value} : FrameBlind (PI D cy ws sz av) := fun _ U g mk q => ⟨q.1, q.2.1, q.2.2.1, KI.warm (s := U) (U := U.calling g mk _) (State.WarmedH.refl U) q.2.2.2.1, q.2.2.2.2⟩
abbrev QN (D : va_G) (ws : va_W) (sz : Nat) (cs : (Nat → Nat) → va_W) : Array Value → State → Outcome → State → Prop := va_Qv (fun (_ : Nat → Nat) => True) (fun f t => va_P D vwCl (cs f) t.heap ∧ va_D (va_A ws sz) (cs f)) (va_A ws sz)
theorem ka_0 {D : va_G} {cy : Nat → ClassId} {s : State} {cA : ClassId} (hK : va_K D vwCl (tysc cy) s) (h : va_K D vwCl (tysc cy ++ [(cA, .int)]) s) : cA = cy 0 := Option.some.inj (((h.2 5 (cA, .int) rfl).2 : s.vm.findClass ("[" ++ FieldType.int.toString) = some cA).symm.trans (hK.2 0 (cy 0, .int) rfl).2)
theorem ka_1 {D : va_G} {cy : Nat → ClassId} {s : State} {cA : ClassId} (hK : va_K D vwCl (tysc cy) s) (h : va_K D vwCl (tysc cy ++ [(cA, .long)]) s) : cA = cy 1 := Option.some.inj (((h.2 5 (cA, .long) rfl).2 : s.vm.findClass ("[" ++ FieldType.long.toString) = some cA).symm.trans (hK.2 1 (cy 1, .long) rfl).2)
theorem ka_o {D : va_G} {cy : Nat → ClassId} {s : State} {cA : ClassId} {C : String} (k : Nat) {c0 : ClassId} (hk : (tysc cy)[k]? = some (c0, .object C)) (hK : va_K D vwCl (tysc cy) s) (h : va_K D vwCl (tysc cy ++ [(cA, .object C)]) s) : cA = c0 := by
  obtain ⟨_, _, _, _, _, h1⟩ := (h.2 5 (cA, .object C) rfl).2
  obtain ⟨_, _, _, _, _, h2⟩ := (hK.2 k (c0, .object C) hk).2
  exact Option.some.inj (h1.symm.trans h2)
section IR
variable {p : Program} {l : Launch} {e : Env} {R : Room} {s : State} {m : MethodId} {args : Array Value} {below : List Frame} {meth : Method} {c : Code} {H : Heap} {locs : List Loc} {kc ks mc ms : Nat} {Q : State → Prop} {cc : ByteArray} {nL : Nat} {own : String} {ret : Option FieldType} {pc : Nat} {ls : Array Slot} {rest : List Value} {D : va_G} {cy : Nat → ClassId} {A : Nat → Prop} {ws : va_W} {st0 : List Value}
theorem n_ints (F : MF p m meth c cc nL s args own ret) (hK : KI D cy s) (hP : va_P D vwCl ws H) (hD : va_D A ws) (hS : va_S A s.heap H locs) (hA : ∀ q, s.heap.size ≤ q → A q) {n : Int32} {N : Nat} (hn : ¬ n < 0) (hN : n.toNatClampNeg = N) (hby : N * componentBytes .int ≤ 536870912) (hc : kc + 1 ≤ R.cells) (hs : ks + N ≤ R.slots) (hd : decode cc pc = .ok (.newarray .int, 2))
    (kk : ∀ (q : Nat) (H : Heap), va_P D vwCl (ws ++ [(q, .inl (cy 0, N, .inl (fun _ => 0)))]) H → va_D A (ws ++ [(q, .inl (cy 0, N, .inl (fun _ => 0)))]) → va_S A s.heap H locs → W p l e R s m args below meth c H locs (kc + 1) (ks + N) Q (F0 m (pc + 2) ls (.ref q :: rest))) : W p l e R s m args below meth c H locs kc ks Q (F0 m pc ls (.int n :: rest)) :=
  va_newa (atype := .int) (a0 := (N, .inl (fun _ => 0))) F.1 F.2.1 (F.2.2.2.2.1 _ q56) rfl hK.1 hP hD hS hA (fun _ => rfl) hn hN hby hc hs hd (fun q cA H1 h1 h2 h3 h4 => by
    have e := ka_0 hK.1 h1
    subst e
    exact kk q H1 h2 h3 h4)
theorem n_longs (F : MF p m meth c cc nL s args own ret) (hK : KI D cy s) (hP : va_P D vwCl ws H) (hD : va_D A ws) (hS : va_S A s.heap H locs) (hA : ∀ q, s.heap.size ≤ q → A q) {n : Int32} {N : Nat} (hn : ¬ n < 0) (hN : n.toNatClampNeg = N) (hby : N * componentBytes .long ≤ 536870912) (hc : kc + 1 ≤ R.cells) (hs : ks + N ≤ R.slots) (hd : decode cc pc = .ok (.newarray .long, 2))
    (kk : ∀ (q : Nat) (H : Heap), va_P D vwCl (ws ++ [(q, .inl (cy 1, N, .inr (.inl (fun _ => 0))))]) H → va_D A (ws ++ [(q, .inl (cy 1, N, .inr (.inl (fun _ => 0))))]) → va_S A s.heap H locs → W p l e R s m args below meth c H locs (kc + 1) (ks + N) Q (F0 m (pc + 2) ls (.ref q :: rest))) : W p l e R s m args below meth c H locs kc ks Q (F0 m pc ls (.int n :: rest)) :=
  va_newa (atype := .long) (a0 := (N, .inr (.inl (fun _ => 0)))) F.1 F.2.1 (F.2.2.2.2.1 _ q112) rfl hK.1 hP hD hS hA (fun _ => rfl) hn hN hby hc hs hd (fun q cA H1 h1 h2 h3 h4 => by
    have e := ka_1 hK.1 h1
    subst e
    exact kk q H1 h2 h3 h4)
theorem n_refs (F : MF p m meth c cc nL s args own ret) (hK : KI D cy s) {C : String} (hAO : va_AO C s) (k : Nat) {c0 : ClassId} (hk : (tysc cy)[k]? = some (c0, .object C)) (hP : va_P D vwCl ws H) (hD : va_D A ws) (hS : va_S A s.heap H locs) (hA : ∀ q, s.heap.size ≤ q → A q) {index : Nat} (hl : Cond.classLink own index C ∈ GW) (hc : kc + 1 ≤ R.cells) (hs : ks + 4 ≤ R.slots) (hd : decode cc pc = .ok (.anewarray index, 3))
    (kk : ∀ (q : Nat) (H : Heap), va_P D vwCl (ws ++ [(q, .inl (c0, 4, .inr (.inr (.inr (.inr (fun _ => none))))))]) H → va_D A (ws ++ [(q, .inl (c0, 4, .inr (.inr (.inr (.inr (fun _ => none))))))]) → va_S A s.heap H locs → W p l e R s m args below meth c H locs (kc + 1) (ks + 4) Q (F0 m (pc + 3) ls (.ref q :: rest))) : W p l e R s m args below meth c H locs kc ks Q (F0 m pc ls (.int 4 :: rest)) :=
  va_newq F.1 F.2.1 F.2.2.2.1 (F.2.2.2.2.1 _ hl) hAO hK.1 hP hD hS hA (n := 4) (N' := 4) (by decide) (by decide) (by decide) hc hs hd (fun q cA H1 h1 h2 h3 h4 => by
    have e := ka_o k hk hK.1 h1
    subst e
    exact kk q H1 h2 h3 h4)
theorem n_new (F : MF p m meth c cc nL s args own ret) (hK : KI D cy s) (hP : va_P D vwCl ws H) (hD : va_D A ws) (hS : va_S A s.heap H locs) (hA : ∀ q, s.heap.size ≤ q → A q) {C : String} {T : u_T} {N ci index : Nat} {ty : Nat → FieldType} {fs : List Value} (hin : ∀ w ∈ u_ws C T N, w ∈ GW) (hty : ∀ k, k < N → parseFieldDescriptor (T k).2.2.1 = some (ty k)) (hl : Cond.classLink own index C ∈ GW) (hi : Cond.instantiable C N ∈ GW) (hini : Cond.initialized C ∈ GW) (hc : vwCl[ci]? = some (C, T, N)) (hfs : ∀ j, j < N → defaultValue (ty j) = vp_V fs j) (hcc : kc + 1 ≤ R.cells) (hss : ks + N ≤ R.slots) (hd : decode cc pc = .ok (.new index, 3))
    (kk : ∀ (q : Nat) (H : Heap), va_P D vwCl (ws ++ [(q, .inr (ci, fs))]) H → va_D A (ws ++ [(q, .inr (ci, fs))]) → va_S A s.heap H locs → W p l e R s m args below meth c H locs (kc + 1) (ks + N) Q (F0 m (pc + 3) ls (.ref q :: rest))) : W p l e R s m args below meth c H locs kc ks Q (F0 m pc ls rest) :=
  va_new F.1 F.2.1 F.2.2.2.2.1 hin ty hty F.2.2.2.1 (F.2.2.2.2.1 _ hl) (F.2.2.2.2.1 _ hi) (F.2.2.2.2.1 _ hini) hK.1 hP hD hS hA hc hfs hcc hss hd kk
/-- a field of the new object is set, once for all or not -/
theorem n_putF (F : MF p m meth c cc nL s args own ret) (hK : KI D cy s) (hP : va_P D vwCl ws H) (hD : va_D A ws) (hS : va_S A s.heap H locs) (q0 : Nat) {a ci j index N : Nat} {T : u_T} {fs : List Value} {v : Value} {ty0 : Nat → FieldType} {ty : FieldType} {ws' : va_W} (he : ws[q0]? = some (a, .inr (ci, fs))) (hc : vwCl[ci]? = some (own, T, N)) (hin : ∀ w ∈ u_ws own T N, w ∈ GW) (hty : ∀ k, k < N → parseFieldDescriptor (T k).2.2.1 = some (ty0 k)) (hnm : ∀ a, a < N → ∀ b, b < N → a ≠ b → (T a).2.1 ≠ (T b).2.1) (hj : j < N) (hT : (T j).1 = own) (hl : Cond.fieldLink own index own (T j).2.1 (T j).2.2.1 ∈ GW) (hfin : (T j).2.2.2 = true) (hin2 : meth.name = "<init>") (hd0 : ty0 j = ty) (hn : narrow ty v = v) (hfit : fits ty v = true) (hlen : j < fs.length) (hw : ws.set q0 (a, .inr (ci, fs.set j v)) = ws') (hd : decode cc pc = .ok (.putfield index, 3))
    (kk : ∀ (H : Heap) (locs : List Loc), va_P D vwCl ws' H → va_D A ws' → va_S A s.heap H locs → W p l e R s m args below meth c H locs kc ks Q (F0 m (pc + 3) ls rest)) : W p l e R s m args below meth c H locs kc ks Q (F0 m pc ls (v :: .ref a :: rest)) := by
  subst hw
  exact va_putF F.1 F.2.1 F.2.2.2.2.1 hin ty0 hty hnm F.2.2.2.1 hK.1 hP hD hS q0 he hc j hj (F.2.2.2.2.1 _ hl) (fun _ h => by rw [hT] at h; exact h) hfin hin2 hT (by rw [hty j hj, hd0]) hn hfit hlen hd kk
theorem n_put (F : MF p m meth c cc nL s args own ret) (hK : KI D cy s) (hP : va_P D vwCl ws H) (hD : va_D A ws) (hS : va_S A s.heap H locs) (q0 : Nat) {a ci j index N : Nat} {T : u_T} {fs : List Value} {v : Value} {ty0 : Nat → FieldType} {ty : FieldType} {ws' : va_W} (he : ws[q0]? = some (a, .inr (ci, fs))) (hc : vwCl[ci]? = some (own, T, N)) (hin : ∀ w ∈ u_ws own T N, w ∈ GW) (hty : ∀ k, k < N → parseFieldDescriptor (T k).2.2.1 = some (ty0 k)) (hnm : ∀ a, a < N → ∀ b, b < N → a ≠ b → (T a).2.1 ≠ (T b).2.1) (hj : j < N) (hT : (T j).1 = own) (hl : Cond.fieldLink own index own (T j).2.1 (T j).2.2.1 ∈ GW) (hfin : (T j).2.2.2 = false) (hd0 : ty0 j = ty) (hn : narrow ty v = v) (hfit : fits ty v = true) (hlen : j < fs.length) (hw : ws.set q0 (a, .inr (ci, fs.set j v)) = ws') (hd : decode cc pc = .ok (.putfield index, 3))
    (kk : ∀ (H : Heap) (locs : List Loc), va_P D vwCl ws' H → va_D A ws' → va_S A s.heap H locs → W p l e R s m args below meth c H locs kc ks Q (F0 m (pc + 3) ls rest)) : W p l e R s m args below meth c H locs kc ks Q (F0 m pc ls (v :: .ref a :: rest)) := by
  subst hw
  exact va_put F.1 F.2.1 F.2.2.2.2.1 hin ty0 hty hnm F.2.2.2.1 hK.1 hP hD hS q0 he hc j hj (F.2.2.2.2.1 _ hl) (fun _ h => by rw [hT] at h; exact h) hfin (by rw [hty j hj, hd0]) hn hfit hlen hd kk
theorem n_get (F : MF p m meth c cc nL s args own ret) (hK : KI D cy s) (hP : va_P D vwCl ws H) (q0 : Nat) {a ci j index N : Nat} {T : u_T} {fs : List Value} {v : Value} (he : ws[q0]? = some (a, .inr (ci, fs))) (hc : vwCl[ci]? = some (own, T, N)) (hin : ∀ w ∈ u_ws own T N, w ∈ GW) (hj : j < N) (hT : (T j).1 = own) (hl : Cond.fieldLink own index own (T j).2.1 (T j).2.2.1 ∈ GW) (hv : fs[j]? = some v) (hd : decode cc pc = .ok (.getfield index, 3))
    (kk : W p l e R s m args below meth c H locs kc ks Q (F0 m (pc + 3) ls (v :: rest))) : W p l e R s m args below meth c H locs kc ks Q (F0 m pc ls (.ref a :: rest)) :=
  va_get F.1 F.2.1 F.2.2.2.2.1 hin F.2.2.2.1 hK.1 hP q0 he hc j hj (F.2.2.2.2.1 _ hl) (fun _ h => by rw [hT] at h; exact h) hv hd kk
theorem n_aast (F : MF p m meth c cc nL s args own ret) (hK : KI D cy s) (hP : va_P D vwCl ws H) (hD : va_D A ws) (hS : va_S A s.heap H locs) (q0 t0 qk ci : Nat) {a v N : Nat} {C : String} {T : u_T} {c0 : ClassId} {vs : List Value} {f : Nat → Option Nat} {i : Int32} {k : Nat} {ws' : va_W} (ha : ws[q0]? = some (a, .inl (c0, 4, .inr (.inr (.inr (.inr f)))))) (ht : (tysc cy)[t0]? = some (c0, .object C)) (hv : ws[qk]? = some (v, .inr (ci, vs))) (hc : vwCl[ci]? = some (C, T, N)) (hin : inB i 4 = true) (hi : i.toNatClampNeg = k) (hw : ws.set q0 (a, .inl (c0, 4, .inr (.inr (.inr (.inr (va_up f k (some v))))))) = ws') (hd : decode cc pc = .ok (.aastore, 1))
    (kk : ∀ (H : Heap) (locs : List Loc), va_P D vwCl ws' H → va_D A ws' → va_S A s.heap H locs → W p l e R s m args below meth c H locs kc ks Q (F0 m (pc + 1) ls rest)) : W p l e R s m args below meth c H locs kc ks Q (F0 m pc ls (.ref v :: .int i :: .ref a :: rest)) := by
  subst hw
  subst hi
  exact va_astq (r := (C, T, N)) F.1 F.2.1 hK.1 hP hD hS q0 t0 qk ci ha ht hv hc (inB_in hin) hd kk
theorem n_iast (F : MF p m meth c cc nL s args own ret) (hK : KI D cy s) (hP : va_P D vwCl ws H) (hD : va_D A ws) (hS : va_S A s.heap H locs) (q0 : Nat) {a n : Nat} {f : Nat → Int32} {i v : Int32} {k : Nat} {ws' : va_W} (ha : ws[q0]? = some (a, .inl (cy 0, n, .inl f))) (hin : inB i n = true) (hi : i.toNatClampNeg = k) (hw : ws.set q0 (a, .inl (cy 0, n, .inl (upd f k v))) = ws') (hd : decode cc pc = .ok (.iastore, 1))
    (kk : ∀ (H : Heap) (locs : List Loc), va_P D vwCl ws' H → va_D A ws' → va_S A s.heap H locs → W p l e R s m args below meth c H locs kc ks Q (F0 m (pc + 1) ls rest)) : W p l e R s m args below meth c H locs kc ks Q (F0 m pc ls (.int v :: .int i :: .ref a :: rest)) := by
  subst hw
  subst hi
  exact va_iast F.1 F.2.1 hK.1 hP hD hS q0 0 ha rfl (inB_in hin) hd kk
/-- Object's constructor -/
theorem n_obj (F : MF p m meth c cc nL s args own ret) {a index : Nat} (hl : Cond.methodLink own index objectInit ∈ GW) (hsz : ls.size = nL) (hf : 1 ≤ R.frames) (hlo : (rest.map fun v => v.category).sum + 12 ≤ R.locals) (hd : decode cc pc = .ok (.invokespecial index, 3))
    (kk : W p l e R s m args below meth c H locs kc ks Q (F0 m (pc + 3) ls rest)) : W p l e R s m args below meth c H locs kc ks Q (F0 m pc ls (.ref a :: rest)) :=
  W.objInit F.1 F.2.1 F.2.2.2.1 (F.2.2.2.2.1 _ hl) (F.2.2.2.2.1 _ q29) (F.2.2.2.2.1 _ q30) rfl (hsz.trans F.2.2.1.symm) rfl hd hf (by show 2 * 0 + _ + 12 ≤ _; omega) kk
/-- a constructor is called on the cell at the place k; the rest stays -/
theorem n_call {y : MethodName} {bytes : ByteArray} {maxL index : Nat} {rm : Room} {q : Nat} {el : va_E} {cs : (Nat → Nat) → va_W} (F : MF p m meth c cc nL s args own ret) (hK : KI D cy s) (hP : va_P D vwCl ws H) (hD : va_D A ws) (hS : va_S A s.heap H locs) (hA : ∀ q, s.heap.size ≤ q → A q) (k : Nat) (isR : List Nat) {wr : va_W} (hC : ws[k]? = some (q, el)) (hRr : isR.map (fun i => ws[i]?) = wr.map some) (hnd : va_nd isR = true) (hdis : ∀ i ∈ isR, i ∉ [k])
    (hM : Met l y (Cond.code y bytes maxL none :: GW) rm (PI D cy [(q, el)] H.size [.ref q]) (QN D [(q, el)] H.size cs) mc ms (va_A [(q, el)] H.size)) (hcode : Cond.code y bytes maxL none ∈ GW) (hini : Cond.initialized y.cls ∈ GW) (hlk : Cond.methodLink own index y ∈ GW ∨ (own, index, y) ∈ NM) (hin : Cond.instanceMethod y ∈ GW) (hy1 : y.name = "<init>") (hd4 : y.cls ≠ "java/lang/invoke/MethodHandle" ∧ y.cls ≠ "java/lang/invoke/VarHandle" ∧ (parseMethodDescriptor y.desc).map (fun d => d.parameters.length) = some 0) (hrm : rm.cells = mc ∧ rm.slots = ms) (hR : rm.frames + 1 ≤ R.frames ∧ 8 + (maxL + 11) + rm.locals ≤ R.locals) (hst : st0 = .ref q :: rest) (hsz : ls.size = nL) (hW : (rest.map fun v => v.category).sum ≤ 8) (hcap : kc + mc ≤ R.cells ∧ ks + ms ≤ R.slots) (hd : decode cc pc = .ok (.invokespecial index, 3))
    (kk : ∀ (f : Nat → Nat) (H : Heap) (locs : List Loc), va_P D vwCl (wr ++ cs f) H → va_D A (wr ++ cs f) → va_S A s.heap H locs → W p l e R s m args below meth c H locs (kc + mc) (ks + ms) Q (F0 m (pc + 3) ls rest)) : W p l e R s m args below meth c H locs kc ks Q (F0 m pc ls st0) := by
  have hC1 : [k].map (fun i => ws[i]?) = [(q, el)].map some := by simp [hC]
  have hFc := va_free (wc := [(q, el)]) hD hS hA [k] hC1
  have hPc : va_P D vwCl [(q, el)] H := fun i z hz => by
    have h0 : i < 1 := (List.getElem?_eq_some_iff.mp hz).1
    have h1 : i = 0 := by omega
    subst h1
    cases hz
    exact hP k _ hC
  have hDc : va_D (fun _ => True) [(q, el)] := ⟨fun i j a b h1 h2 _ => by
    have := (List.getElem?_eq_some_iff.mp h1).1
    have := (List.getElem?_eq_some_iff.mp h2).1
    simp at *
    omega, fun _ _ _ => trivial⟩
  have hG : GoodIn GW (Cond.code y bytes maxL none :: GW) := fun v hv => by
    have h9 : v ∈ GW := by
      rcases List.mem_cons.mp hv with rfl | h
      · exact hcode
      · exact h
    exact ⟨h9, gw_good h9⟩
  have hpre : PreS s H (PI D cy [(q, el)] H.size [.ref q]) [.ref q] := ⟨PI.blind, fun U hU hWm => ⟨rfl, by rw [hU], by rw [hU]; exact hPc, hK.warm hWm, hDc⟩⟩
  have hrun : va_Run p l e R s m args below meth c H locs kc ks mc ms (F0 m pc ls st0) rest (QN D [(q, el)] H.size cs #[.ref q]) (va_A [(q, el)] H.size) := by
    rcases hlk with hlk | hlk
    · exact va_runI (As := []) F.fix hM (cwI 0 F.2.2.2.2.1 hG rfl hrm.1 hrm.2 (F.2.2.2.2.1 _ hini) (F.2.2.2.2.1 _ hlk) (F.2.2.2.2.1 _ hin) hy1 hd4 hR) hpre rfl rfl hsz hst (lv_room hW) hd hcap
    · exact va_runIN (As := []) F.fix hM ⟨va_cnB 0 F.2.2.2.2.1 hG rfl hrm.1 hrm.2 (hK.2.1.2.1 _ hlk) (F.2.2.2.2.1 _ hini) hd4 hR, hy1, F.2.2.2.2.1 _ hin⟩ hpre rfl rfl hsz hst (lv_room hW) hd hcap
  refine va_callv hrun hS (fun z _ h => hFc z h) hFc (fun f t H1 locs1 ht hvm hp hB hz1 hk1 hS1 => ?_)
  obtain ⟨hP1, hD1⟩ := hB
  rw [ht] at hP1
  obtain ⟨hP2, hD2⟩ := va_join (wr := wr) (w1 := cs f) hP hD [k] isR hC1 hRr hnd hdis hk1 hFc hP1 hD1
  exact kk f H1 locs1 hP2 hD2 hS1
end IR
theorem exf (l : List Nat) : ∃ f : Nat → Nat, ∀ (k a : Nat), l[k]? = some a → f k = a := ⟨fun k => l.getD k 0, fun k a h => by simp [List.getD, h]⟩
