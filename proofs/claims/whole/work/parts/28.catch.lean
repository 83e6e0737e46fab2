/-! ===== the law's own calls: they catch ===== -/
def oY (o : Option (Nat × Int32 × ST)) (hs : List (Nat × Int32)) (k : Int32 → ST → Option (Int32 × ST)) : Option (Int32 × ST) := match o with
  | none => none
  | some u => if u.1 = 0 then k u.2.1 u.2.2 else match hs.lookup u.1 with
    | none => none
    | some c => some (c, u.2.2)
theorem oi_y {o : Option (Nat × Int32 × ST)} {hs : List (Nat × Int32)} {k : Int32 → ST → Option (Int32 × ST)} {res : Int32 × ST} (h : oY o hs k = some res) : ∃ (n : Nat) (r : Int32) (S1 : ST), o = some (n, r, S1) ∧ (n = 0 → k r S1 = some res) ∧ (n ≠ 0 → ∃ c : Int32, hs.lookup n = some c ∧ (c, S1) = res) := by
  cases o with
  | none => cases h
  | some u =>
    obtain ⟨n, r, S1⟩ := u
    refine ⟨n, r, S1, rfl, fun hn => ?_, fun hn => ?_⟩
    · unfold oY at h
      simp only [hn, if_true] at h
      exact h
    · unfold oY at h
      simp only [hn, if_false] at h
      cases hq : hs.lookup n with
      | none => rw [hq] at h; cases h
      | some c => rw [hq] at h; exact ⟨c, rfl, Option.some.inj h⟩
theorem xk_ne {n : Nat} {E : String} (h : (n, E) ∈ XK) : n ≠ 0 := by
  intro h0
  rw [h0] at h
  simp [XK] at h
section CT
variable {p : Program} {l : Launch} {e : Env} {R : Room} {s : State} {m : MethodId} {args : Array Value} {below : List Frame} {meth : Method} {c : Code} {H : Heap} {locs : List Loc} {kc ks cm sm : Nat} {Q : State → Prop} {cc : ByteArray} {nL : Nat} {own : String} {ret : Option FieldType} {pc : Nat} {ls : Array Slot} {rest : List Value} {x : CX} {S S1 : ST} {st0 : List Value}
theorem ky_i (w : WD x s S H locs) {n1 : Nat} {r : Int32} {a : Array Value} (hr : vx_Run p l e R s m args below meth c H locs kc ks cm sm (F0 m pc ls st0) rest (QXI x S1 n1 r H.size a) (XX x S1 n1 H.size) (AA x H.size))
    (kx : ∀ (E : String) (ce : Cell) (q9 : Addr) (H1 : Heap) (locs1 : List Loc), (n1, E) ∈ XK → WD x s S1 H1 locs1 → H1[q9]? = some ce → ce.vm = .none → s.vm.findClass E = some ce.cls → vx_W p l e R s m args below meth c H1 locs1 (kc + cm) (ks + sm) Q (F0 m pc ls rest) q9)
    (kk : n1 = 0 → ∀ (H1 : Heap) (locs1 : List Loc), WD x s S1 H1 locs1 → W p l e R s m args below meth c H1 locs1 (kc + cm) (ks + sm) Q (F0 m (pc + 3) ls (.int r :: rest))) : W p l e R s m args below meth c H locs kc ks Q (F0 m pc ls st0) := by
  refine vx_calli hr w.S (fun q _ h => w.sub q h) w.sub (fun q _ h => w.sub q h) ?_ ?_
  · intro E ce q9 u t H1 locs1 ht1 hvm _ hB hz hk hS hcell hv hcl
    exact kx E ce q9 H1 locs1 hB.1 (w.to (by rw [← ht1]; exact hB.2) hS) hcell hv hcl
  · intro r' u t H1 locs1 ht1 hvm hp hB hz hk hS
    obtain ⟨h0, rfl⟩ := hp
    exact kk h0 H1 locs1 (w.to (by rw [← ht1]; exact hB.1) hS)
theorem x_catch (F : MF p m meth c cc nL s args RL ret) (w : WD x s S H locs) {E : String} {ce : Cell} {q : Addr} (pre : List (Nat × Nat × Nat × Nat)) (a b hp ct : Nat) (suf : List (Nat × Nat × Nat × Nat)) (ht : c.exceptionTable.toList = tableOf (pre ++ (a, b, hp, ct) :: suf)) (hpre : ∀ z ∈ pre, z.2.2.2 ≠ 0 ∧ ∃ nm : String, Cond.classLink RL z.2.2.2 nm ∈ GW ∧ (E, nm) ∈ XP) (hcov : covers ⟨a, b, hp, ct⟩ pc = true) (h0 : ct ≠ 0) (hlink : Cond.classLink RL ct E ∈ GW) (hE : E ∈ XE) (hcell : H[q]? = some ce) (hv : ce.vm = .none) (hcl : s.vm.findClass E = some ce.cls)
    (kk : W p l e R s m args below meth c H locs kc ks Q (F0 m hp ls [.ref q])) : vx_W p l e R s m args below meth c H locs kc ks Q (F0 m pc ls rest) q :=
  vx_catch (name := E) F.2.2.2.1 (tableOf pre) ⟨a, b, hp, ct⟩ (tableOf suf) (by rw [ht]; simp [tableOf]) (fun z hz => by
    obtain ⟨y, hy, rfl⟩ := List.mem_map.mp hz
    obtain ⟨h1, nm, h2, h3⟩ := hpre y hy
    exact Or.inr ⟨h1, nm, F.2.2.2.2.1 _ h2, w.E.2.2.2.2.2 _ h3⟩) hcov h0 (F.2.2.2.2.1 _ hlink) (va_Nw.use rfl (w.E.2.2.2.1 _ hE)) hcell hv hcl kk
end CT
