/-! constructors: the heap's size is known, a new cell comes at its end -/
def nx (U : State) : Prop := (∀ w ∈ nestw, va_Nw w U) ∧ va_AO "BlockYard$Block" U
theorem nx_mv {u U : State} (h : u.WarmedH U.vm ∨ u.vm = U.vm) (q : nx u) : nx U := by
  refine ⟨fun w hw => ?_, va_AO.moved (h.elim (fun h => h.alike) (fun h => h ▸ Vm.Alike.refl _)) q.2⟩
  obtain ⟨a, i, x, k, rfl⟩ := nestw_all w hw
  rcases h with h | h
  · exact va_Nw.warmM h (q.1 _ hw)
  · exact va_Nw.same rfl h (q.1 _ hw)
def OkC (p : Program) (s : State) (m : MethodId) (args : Array Value) (c : Code) (meth : Method) (D : va_G) (cA : Nat → ClassId) (A : Nat → Prop) (own : String) (cc : ByteArray) (nL : Nat) (iname : Prop) : Prop :=
  p.tables.exec = Jvm.exec ∧ c.code = cc ∧ c.maxLocals = nL ∧ s.vm.findClass own = some m.cls ∧ (∀ w ∈ gw_tbl, w.before args s = true) ∧ va_K D vwCl (tysF cA) s ∧ (∀ q, s.heap.size ≤ q → A q) ∧ nx s ∧ iname
def VC (p : Program) (l : Launch) (e : Env) (R : Room) (s : State) (m : MethodId) (args : Array Value) (below : List Frame) (meth : Method) (c : Code) (Q : State → Prop) (D : va_G) (A : Nat → Prop) (nL : Nat) (ws : va_W) (nc ns : Nat) (pc : Nat) (lv : List (Nat × Value)) (st : List Value) : Prop :=
  ∀ (H : Heap) (locs : List Loc) (ls : Array Slot), va_P D vwCl ws H → va_D A ws → va_S A s.heap H locs → lv_has ls nL lv → W p l e R s m args below meth c H locs nc ns Q (F0 m pc ls st)
def PreC (D : va_G) (cA : Nat → ClassId) (sz : Nat) (ws : va_W) (U : State) : Prop := U.heap.size = sz ∧ va_P D vwCl ws U.heap ∧ va_K D vwCl (tysF cA) U ∧ va_D (fun _ => True) ws ∧ nx U
def QoC (D : va_G) (sz : Nat) (ws0 : va_W) (ws1 : (Nat → Nat) → va_W) : Array Value → State → Outcome → State → Prop := va_Qv (fun _ : Nat → Nat => True) (fun qa t => va_P D vwCl (ws1 qa) t.heap ∧ va_D (va_A ws0 sz) (ws1 qa)) (va_A ws0 sz)
section CT
variable {p : Program} {l : Launch} {e : Env} {R : Room} {s : State} {m : MethodId} {args : Array Value} {below : List Frame} {meth : Method} {c : Code} {Q : State → Prop} {D : va_G} {cA : Nat → ClassId} {A : Nat → Prop} {own : String} {cc : ByteArray} {nL nc ns pc : Nat} {ws : va_W} {lv : List (Nat × Value)} {st : List Value} {iname : Prop}
theorem c_iconst (C : OkC p s m args c meth D cA A own cc nL iname) {n : Int} (v : Int32) (hd : decode cc pc = .ok (.iconst n, 1)) (hv : Int32.ofInt n = v) (k : VC p l e R s m args below meth c Q D A nL ws nc ns (pc + 1) lv (.int v :: st)) : VC p l e R s m args below meth c Q D A nL ws nc ns pc lv st := fun H locs ls hP hD hS hl => lv_iconst C.1 C.2.1 hd hv (k H locs ls hP hD hS hl)
theorem c_bipush (C : OkC p s m args c meth D cA A own cc nL iname) {n : Int} (v : Int32) (hd : decode cc pc = .ok (.bipush n, 2)) (hv : (Int8.ofInt n).toInt32 = v) (k : VC p l e R s m args below meth c Q D A nL ws nc ns (pc + 2) lv (.int v :: st)) : VC p l e R s m args below meth c Q D A nL ws nc ns pc lv st := fun H locs ls hP hD hS hl => lv_bipush C.1 C.2.1 hd hv (k H locs ls hP hD hS hl)
theorem c_sipush (C : OkC p s m args c meth D cA A own cc nL iname) {n : Int} (v : Int32) (hd : decode cc pc = .ok (.sipush n, 3)) (hv : (Int16.ofInt n).toInt32 = v) (k : VC p l e R s m args below meth c Q D A nL ws nc ns (pc + 3) lv (.int v :: st)) : VC p l e R s m args below meth c Q D A nL ws nc ns pc lv st := fun H locs ls hP hD hS hl => lv_sipush C.1 C.2.1 hd hv (k H locs ls hP hD hS hl)
theorem c_lconst (C : OkC p s m args c meth D cA A own cc nL iname) {n : Fin 2} (v : Int64) (hd : decode cc pc = .ok (.lconst n, 1)) (hv : Int64.ofNat (n : Nat) = v) (k : VC p l e R s m args below meth c Q D A nL ws nc ns (pc + 1) lv (.long v :: st)) : VC p l e R s m args below meth c Q D A nL ws nc ns pc lv st := fun H locs ls hP hD hS hl => lv_lconst C.1 C.2.1 hd hv (k H locs ls hP hD hS hl)
theorem c_dup (C : OkC p s m args c meth D cA A own cc nL iname) {v : Value} (hd : decode cc pc = .ok (.dup, 1)) (hc : v.category = 1) (k : VC p l e R s m args below meth c Q D A nL ws nc ns (pc + 1) lv (v :: v :: st)) : VC p l e R s m args below meth c Q D A nL ws nc ns pc lv (v :: st) := fun H locs ls hP hD hS hl => lv_dup C.1 C.2.1 hd hc (k H locs ls hP hD hS hl)
theorem c_iload_n (C : OkC p s m args c meth D cA A own cc nL iname) {i : Fin 4} {j : Nat} (q : Nat) {x : Int32} (hd : decode cc pc = .ok (.iload_n i, 1)) (hi : (i : Nat) = j) (hq : lv[q]? = some (j, .int x)) (k : VC p l e R s m args below meth c Q D A nL ws nc ns (pc + 1) lv (.int x :: st)) : VC p l e R s m args below meth c Q D A nL ws nc ns pc lv st := fun H locs ls hP hD hS hl => lv_iload_n C.1 C.2.1 hd hi (lv_at hl q hq) (k H locs ls hP hD hS hl)
theorem c_aload_n (C : OkC p s m args c meth D cA A own cc nL iname) {i : Fin 4} {j : Nat} (q : Nat) {x : Nat} (hd : decode cc pc = .ok (.aload_n i, 1)) (hi : (i : Nat) = j) (hq : lv[q]? = some (j, .ref x)) (k : VC p l e R s m args below meth c Q D A nL ws nc ns (pc + 1) lv (.ref x :: st)) : VC p l e R s m args below meth c Q D A nL ws nc ns pc lv st := fun H locs ls hP hD hS hl => lv_aload_n C.1 C.2.1 hd hi (lv_at hl q hq) (k H locs ls hP hD hS hl)
theorem c_istore_n (C : OkC p s m args c meth D cA A own cc nL iname) {i : Fin 4} {j : Nat} {x : Int32} (lv2 : List (Nat × Value)) (hd : decode cc pc = .ok (.istore_n i, 1)) (hi : (i : Nat) = j) (hn : j < nL) (hl2 : (j, Value.int x) :: lv.filter (fun q => !(q.1 == j) && !(q.1 + 1 == j && q.2.category == 2)) = lv2) (k : VC p l e R s m args below meth c Q D A nL ws nc ns (pc + 1) lv2 st) : VC p l e R s m args below meth c Q D A nL ws nc ns pc lv (.int x :: st) := fun H locs ls hP hD hS hl => lv_istore_n C.1 C.2.1 hd hi hl hn hl2 (fun ls2 hl3 => k H locs ls2 hP hD hS hl3)
theorem c_astore_n (C : OkC p s m args c meth D cA A own cc nL iname) {i : Fin 4} {j : Nat} {x : Nat} (lv2 : List (Nat × Value)) (hd : decode cc pc = .ok (.astore_n i, 1)) (hi : (i : Nat) = j) (hn : j < nL) (hl2 : (j, Value.ref x) :: lv.filter (fun q => !(q.1 == j) && !(q.1 + 1 == j && q.2.category == 2)) = lv2) (k : VC p l e R s m args below meth c Q D A nL ws nc ns (pc + 1) lv2 st) : VC p l e R s m args below meth c Q D A nL ws nc ns pc lv (.ref x :: st) := fun H locs ls hP hD hS hl => lv_astore_n C.1 C.2.1 hd hi hl hn hl2 (fun ls2 hl3 => k H locs ls2 hP hD hS hl3)
theorem c_iinc (C : OkC p s m args c meth D cA A own cc nL iname) {j : Nat} {n : Int} {x : Int32} (v : Int32) (q : Nat) (lv2 : List (Nat × Value)) (hd : decode cc pc = .ok (.iinc j n, 3)) (hq : lv[q]? = some (j, .int x)) (hv : x + Int32.ofInt n = v) (hn : j < nL) (hl2 : (j, Value.int v) :: lv.filter (fun q => !(q.1 == j) && !(q.1 + 1 == j && q.2.category == 2)) = lv2) (k : VC p l e R s m args below meth c Q D A nL ws nc ns (pc + 3) lv2 st) : VC p l e R s m args below meth c Q D A nL ws nc ns pc lv st := fun H locs ls hP hD hS hl => lv_iinc C.1 C.2.1 hd hl hq hv hn hl2 (fun ls2 hl3 => k H locs ls2 hP hD hS hl3)
theorem c_goto (C : OkC p s m args c meth D cA A own cc nL iname) {off : Int} (tgt : Nat) (hd : decode cc pc = .ok (.goto off, 3)) (ht : (pc : Int) + off = (tgt : Int)) (k : VC p l e R s m args below meth c Q D A nL ws nc ns tgt lv st) : VC p l e R s m args below meth c Q D A nL ws nc ns pc lv st := fun H locs ls hP hD hS hl => lv_goto C.1 C.2.1 hd ht (k H locs ls hP hD hS hl)
theorem c_icmp_ge_t (C : OkC p s m args c meth D cA A own cc nL iname) {x y : Int32} {off : Int} (tgt : Nat) (hd : decode cc pc = .ok (.if_icmp .ge off, 3)) (ht : (pc : Int) + off = (tgt : Int)) (h : y ≤ x) (k : VC p l e R s m args below meth c Q D A nL ws nc ns tgt lv st) : VC p l e R s m args below meth c Q D A nL ws nc ns pc lv (.int y :: .int x :: st) := fun H locs ls hP hD hS hl => lv_icmp_ge C.1 C.2.1 hd ht (fun _ => (k H locs ls hP hD hS hl)) (fun q => absurd h q)
theorem c_icmp_ge_f (C : OkC p s m args c meth D cA A own cc nL iname) {x y : Int32} {off : Int} (tgt : Nat) (hd : decode cc pc = .ok (.if_icmp .ge off, 3)) (ht : (pc : Int) + off = (tgt : Int)) (h : ¬ y ≤ x) (k : VC p l e R s m args below meth c Q D A nL ws nc ns (pc + 3) lv st) : VC p l e R s m args below meth c Q D A nL ws nc ns pc lv (.int y :: .int x :: st) := fun H locs ls hP hD hS hl => lv_icmp_ge C.1 C.2.1 hd ht (fun q => absurd q h) (fun _ => (k H locs ls hP hD hS hl))
theorem c_get (C : OkC p s m args c meth D cA A own cc nL iname) {ref Cn : String} {T : u_T} {N ci ix a : Nat} (hin : ∀ w ∈ u_ws Cn T N, w ∈ gw_tbl) (q0 : Nat) {fs : List Value} (he : ws[q0]? = some (a, .inr (ci, fs))) (hc : vwCl[ci]? = some (Cn, T, N)) (f : Nat) (hf : f < N) (hlink : Cond.fieldLink own ix ref (T f).2.1 (T f).2.2.1 ∈ gw_tbl) (href : (T f).1 = ref) {v : Value} (hv : fs[f]? = some v) (hd : decode cc pc = .ok (.getfield ix, 3)) (k : VC p l e R s m args below meth c Q D A nL ws nc ns (pc + 3) lv (v :: st)) : VC p l e R s m args below meth c Q D A nL ws nc ns pc lv (.ref a :: st) := fun H locs ls hP hD hS hl => va_get C.1 C.2.1 C.2.2.2.2.1 hin C.2.2.2.1 C.2.2.2.2.2.1 hP q0 he hc f hf (C.2.2.2.2.1 _ hlink) (fun _ h => by rw [← href]; exact h) hv hd (k H locs ls hP hD hS hl)
theorem c_put (C : OkC p s m args c meth D cA A own cc nL iname) {ref Cn : String} {T : u_T} {N ci ix a : Nat} (hin : ∀ w ∈ u_ws Cn T N, w ∈ gw_tbl) (ty0 : Nat → FieldType) (hty : ∀ k, k < N → parseFieldDescriptor (T k).2.2.1 = some (ty0 k)) (hnm : ∀ a, a < N → ∀ b, b < N → a ≠ b → (T a).2.1 ≠ (T b).2.1) (q0 : Nat) {fs : List Value} (he : ws[q0]? = some (a, .inr (ci, fs))) (hc : vwCl[ci]? = some (Cn, T, N)) (f : Nat) (hf : f < N) (hlink : Cond.fieldLink own ix ref (T f).2.1 (T f).2.2.1 ∈ gw_tbl) (href : (T f).1 = ref) (hfin : (T f).2.2.2 = false)  {ty : FieldType} {v : Value} (hdp : ty0 f = ty) (hn : narrow ty v = v) (hfit : fits ty v = true) (hlen : f < fs.length) (ws2 : va_W) (hset : ws.set q0 (a, .inr (ci, fs.set f v)) = ws2) (hd : decode cc pc = .ok (.putfield ix, 3)) (k : VC p l e R s m args below meth c Q D A nL ws2 nc ns (pc + 3) lv st) : VC p l e R s m args below meth c Q D A nL ws nc ns pc lv (v :: .ref a :: st) := by
  intro H locs ls hP hD hS hl
  subst hset
  refine va_put C.1 C.2.1 C.2.2.2.2.1 hin ty0 hty hnm C.2.2.2.1 C.2.2.2.2.2.1 hP hD hS q0 he hc f hf (C.2.2.2.2.1 _ hlink) (fun _ h => by rw [← href]; exact h) hfin  (by rw [hty f hf, hdp]) hn hfit hlen hd (fun H1 locs1 hP1 hD1 hS1 => k H1 locs1 ls hP1 hD1 hS1 hl)
theorem c_putF (C : OkC p s m args c meth D cA A own cc nL iname) {ref Cn : String} {T : u_T} {N ci ix a : Nat} (hin : ∀ w ∈ u_ws Cn T N, w ∈ gw_tbl) (ty0 : Nat → FieldType) (hty : ∀ k, k < N → parseFieldDescriptor (T k).2.2.1 = some (ty0 k)) (hnm : ∀ a, a < N → ∀ b, b < N → a ≠ b → (T a).2.1 ≠ (T b).2.1) (q0 : Nat) {fs : List Value} (he : ws[q0]? = some (a, .inr (ci, fs))) (hc : vwCl[ci]? = some (Cn, T, N)) (f : Nat) (hf : f < N) (hlink : Cond.fieldLink own ix ref (T f).2.1 (T f).2.2.1 ∈ gw_tbl) (href : (T f).1 = ref) (hfin : (T f).2.2.2 = true) (hinm : iname → meth.name = "<init>") (hdecl : (T f).1 = own) {ty : FieldType} {v : Value} (hdp : ty0 f = ty) (hn : narrow ty v = v) (hfit : fits ty v = true) (hlen : f < fs.length) (ws2 : va_W) (hset : ws.set q0 (a, .inr (ci, fs.set f v)) = ws2) (hd : decode cc pc = .ok (.putfield ix, 3)) (k : VC p l e R s m args below meth c Q D A nL ws2 nc ns (pc + 3) lv st) : VC p l e R s m args below meth c Q D A nL ws nc ns pc lv (v :: .ref a :: st) := by
  intro H locs ls hP hD hS hl
  subst hset
  refine va_putF C.1 C.2.1 C.2.2.2.2.1 hin ty0 hty hnm C.2.2.2.1 C.2.2.2.2.2.1 hP hD hS q0 he hc f hf (C.2.2.2.2.1 _ hlink) (fun _ h => by rw [← href]; exact h) hfin (hinm C.2.2.2.2.2.2.2.2) hdecl (by rw [hty f hf, hdp]) hn hfit hlen hd (fun H1 locs1 hP1 hD1 hS1 => k H1 locs1 ls hP1 hD1 hS1 hl)
theorem c_new (C : OkC p s m args c meth D cA A own cc nL iname) {Cn : String} {T : u_T} {N ci ix : Nat} (hin : ∀ w ∈ u_ws Cn T N, w ∈ gw_tbl) (ty : Nat → FieldType) (hty : ∀ k, k < N → parseFieldDescriptor (T k).2.2.1 = some (ty k)) (hcl : Cond.classLink own ix Cn ∈ gw_tbl) (hinst : Cond.instantiable Cn N ∈ gw_tbl) (hini : Cond.initialized Cn ∈ gw_tbl) (hc : vwCl[ci]? = some (Cn, T, N)) (fs : List Value) (hfs : ∀ j, j < N → defaultValue (ty j) = vp_V fs j) {nc2 ns2 : Nat} (h1 : nc + 1 = nc2) (h2 : ns + N = ns2) (hcells : nc2 ≤ R.cells) (hslots : ns2 ≤ R.slots) (hd : decode cc pc = .ok (.new ix, 3)) (k : ∀ q : Nat, VC p l e R s m args below meth c Q D A nL (ws ++ [(q, .inr (ci, fs))]) nc2 ns2 (pc + 3) lv (.ref q :: st)) : VC p l e R s m args below meth c Q D A nL ws nc ns pc lv st := by
  subst h1; subst h2
  exact fun H locs ls hP hD hS hl => va_new C.1 C.2.1 C.2.2.2.2.1 hin ty hty C.2.2.2.1 (C.2.2.2.2.1 _ hcl) (C.2.2.2.2.1 _ hinst) (C.2.2.2.2.1 _ hini) C.2.2.2.2.2.1 hP hD hS C.2.2.2.2.2.2.1 hc hfs hcells hslots hd (fun q H1 hP1 hD1 hS1 => k q H1 locs ls hP1 hD1 hS1 hl)
theorem ra_one {U : State} {a b : ClassId} {t : FieldType} (h1 : va_RA U a t) (h2 : va_RA U b t) : a = b := by
  cases t with
  | object Cn =>
    obtain ⟨k1, c1, a1, a2, a3, a4⟩ := h1
    obtain ⟨k2, c2, b1, b2, b3, b4⟩ := h2
    exact Option.some.inj (a4.symm.trans b4)
  | _ => exact Option.some.inj (Eq.trans (Eq.symm h1) h2)
theorem c_newaI (C : OkC p s m args c meth D cA A own cc nL iname) {n : Int32} (N : Nat) (harr : Cond.arrayClass .int ∈ gw_tbl) (hn : ¬ n < 0) (hN : n.toNatClampNeg = N) (hbytes : N * componentBytes .int ≤ 536870912) {nc2 ns2 : Nat} (h1 : nc + 1 = nc2) (h2 : ns + N = ns2) (hcells : nc2 ≤ R.cells) (hslots : ns2 ≤ R.slots) (hd : decode cc pc = .ok (.newarray .int, 2)) (k : ∀ q : Nat, VC p l e R s m args below meth c Q D A nL (ws ++ [(q, .inl (cA 0, N, .inl (fun _ => 0)))]) nc2 ns2 (pc + 2) lv (.ref q :: st)) : VC p l e R s m args below meth c Q D A nL ws nc ns pc lv (.int n :: st) := by
  subst h1; subst h2
  intro H locs ls hP hD hS hl
  refine va_newa (atype := .int) (ty := .int) C.1 C.2.1 (C.2.2.2.2.1 _ harr) rfl C.2.2.2.2.2.1 hP hD hS C.2.2.2.2.2.2.1 (a0 := (N, .inl (fun _ => 0))) (fun cB => rfl) hn hN hbytes hcells hslots hd (fun q cB H1 hK1 hP1 hD1 hS1 => ?_)
  have e1 : cB = cA 0 := ra_one (hK1.2 5 (cB, .int) rfl).2 (C.2.2.2.2.2.1.2 0 (cA 0, .int) rfl).2
  subst e1
  exact k q H1 locs ls hP1 hD1 hS1 hl
theorem c_newaL (C : OkC p s m args c meth D cA A own cc nL iname) {n : Int32} (N : Nat) (harr : Cond.arrayClass .long ∈ gw_tbl) (hn : ¬ n < 0) (hN : n.toNatClampNeg = N) (hbytes : N * componentBytes .long ≤ 536870912) {nc2 ns2 : Nat} (h1 : nc + 1 = nc2) (h2 : ns + N = ns2) (hcells : nc2 ≤ R.cells) (hslots : ns2 ≤ R.slots) (hd : decode cc pc = .ok (.newarray .long, 2)) (k : ∀ q : Nat, VC p l e R s m args below meth c Q D A nL (ws ++ [(q, .inl (cA 1, N, .inr (.inl (fun _ => 0))))]) nc2 ns2 (pc + 2) lv (.ref q :: st)) : VC p l e R s m args below meth c Q D A nL ws nc ns pc lv (.int n :: st) := by
  subst h1; subst h2
  intro H locs ls hP hD hS hl
  refine va_newa (atype := .long) (ty := .long) C.1 C.2.1 (C.2.2.2.2.1 _ harr) rfl C.2.2.2.2.2.1 hP hD hS C.2.2.2.2.2.2.1 (a0 := (N, .inr (.inl (fun _ => 0)))) (fun cB => rfl) hn hN hbytes hcells hslots hd (fun q cB H1 hK1 hP1 hD1 hS1 => ?_)
  have e1 : cB = cA 1 := ra_one (hK1.2 5 (cB, .long) rfl).2 (C.2.2.2.2.2.1.2 1 (cA 1, .long) rfl).2
  subst e1
  exact k q H1 locs ls hP1 hD1 hS1 hl
theorem c_newaC (C : OkC p s m args c meth D cA A own cc nL iname) {n : Int32} (N : Nat) (harr : Cond.arrayClass .char ∈ gw_tbl) (hn : ¬ n < 0) (hN : n.toNatClampNeg = N) (hbytes : N * componentBytes .char ≤ 536870912) {nc2 ns2 : Nat} (h1 : nc + 1 = nc2) (h2 : ns + N = ns2) (hcells : nc2 ≤ R.cells) (hslots : ns2 ≤ R.slots) (hd : decode cc pc = .ok (.newarray .char, 2)) (k : ∀ q : Nat, VC p l e R s m args below meth c Q D A nL (ws ++ [(q, .inl (cA 2, N, .inl (fun _ => 0)))]) nc2 ns2 (pc + 2) lv (.ref q :: st)) : VC p l e R s m args below meth c Q D A nL ws nc ns pc lv (.int n :: st) := by
  subst h1; subst h2
  intro H locs ls hP hD hS hl
  refine va_newa (atype := .char) (ty := .char) C.1 C.2.1 (C.2.2.2.2.1 _ harr) rfl C.2.2.2.2.2.1 hP hD hS C.2.2.2.2.2.2.1 (a0 := (N, .inl (fun _ => 0))) (fun cB => rfl) hn hN hbytes hcells hslots hd (fun q cB H1 hK1 hP1 hD1 hS1 => ?_)
  have e1 : cB = cA 2 := ra_one (hK1.2 5 (cB, .char) rfl).2 (C.2.2.2.2.2.1.2 2 (cA 2, .char) rfl).2
  subst e1
  exact k q H1 locs ls hP1 hD1 hS1 hl
theorem c_newaZ (C : OkC p s m args c meth D cA A own cc nL iname) {n : Int32} (N : Nat) (harr : Cond.arrayClass .boolean ∈ gw_tbl) (hn : ¬ n < 0) (hN : n.toNatClampNeg = N) (hbytes : N * componentBytes .boolean ≤ 536870912) {nc2 ns2 : Nat} (h1 : nc + 1 = nc2) (h2 : ns + N = ns2) (hcells : nc2 ≤ R.cells) (hslots : ns2 ≤ R.slots) (hd : decode cc pc = .ok (.newarray .boolean, 2)) (k : ∀ q : Nat, VC p l e R s m args below meth c Q D A nL (ws ++ [(q, .inl (cA 3, N, .inl (fun _ => 0)))]) nc2 ns2 (pc + 2) lv (.ref q :: st)) : VC p l e R s m args below meth c Q D A nL ws nc ns pc lv (.int n :: st) := by
  subst h1; subst h2
  intro H locs ls hP hD hS hl
  refine va_newa (atype := .boolean) (ty := .boolean) C.1 C.2.1 (C.2.2.2.2.1 _ harr) rfl C.2.2.2.2.2.1 hP hD hS C.2.2.2.2.2.2.1 (a0 := (N, .inl (fun _ => 0))) (fun cB => rfl) hn hN hbytes hcells hslots hd (fun q cB H1 hK1 hP1 hD1 hS1 => ?_)
  have e1 : cB = cA 3 := ra_one (hK1.2 5 (cB, .boolean) rfl).2 (C.2.2.2.2.2.1.2 3 (cA 3, .boolean) rfl).2
  subst e1
  exact k q H1 locs ls hP1 hD1 hS1 hl
theorem c_newq (C : OkC p s m args c meth D cA A own cc nL iname) {n : Int32} {ix : Nat} (N : Nat) (hcl : Cond.classLink own ix "BlockYard$Block" ∈ gw_tbl) (hn : ¬ n < 0) (hN : n.toNatClampNeg = N) (hbytes : N * 4 ≤ 536870912) {nc2 ns2 : Nat} (h1 : nc + 1 = nc2) (h2 : ns + N = ns2) (hcells : nc2 ≤ R.cells) (hslots : ns2 ≤ R.slots) (hd : decode cc pc = .ok (.anewarray ix, 3)) (k : ∀ q : Nat, VC p l e R s m args below meth c Q D A nL (ws ++ [(q, .inl (cA 4, N, .inr (.inr (.inr (.inr (fun _ => none))))))]) nc2 ns2 (pc + 3) lv (.ref q :: st)) : VC p l e R s m args below meth c Q D A nL ws nc ns pc lv (.int n :: st) := by
  subst h1; subst h2
  intro H locs ls hP hD hS hl
  refine va_newq C.1 C.2.1 C.2.2.2.1 (C.2.2.2.2.1 _ hcl) C.2.2.2.2.2.2.2.1.2 C.2.2.2.2.2.1 hP hD hS C.2.2.2.2.2.2.1 hn hN hbytes hcells hslots hd (fun q cB H1 hK1 hP1 hD1 hS1 => ?_)
  have e1 : cB = cA 4 := ra_one (hK1.2 5 (cB, .object "BlockYard$Block") rfl).2 (C.2.2.2.2.2.1.2 4 (cA 4, .object "BlockYard$Block") rfl).2
  subst e1
  exact k q H1 locs ls hP1 hD1 hS1 hl
theorem c_aastore (C : OkC p s m args c meth D cA A own cc nL iname) (q0 qk : Nat) {a v n : Nat} {vs : List Value} {f : Nat → Option Nat} (ha : ws[q0]? = some (a, .inl (cA 4, n, .inr (.inr (.inr (.inr f)))))) (hv : ws[qk]? = some (v, .inr (0, vs))) {i : Int32} (hin : vp_in i n) (ws2 : va_W) (hset : ws.set q0 (a, .inl (cA 4, n, .inr (.inr (.inr (.inr (va_up f i.toNatClampNeg (some v))))))) = ws2) (hd : decode cc pc = .ok (.aastore, 1)) (k : VC p l e R s m args below meth c Q D A nL ws2 nc ns (pc + 1) lv st) : VC p l e R s m args below meth c Q D A nL ws nc ns pc lv (.ref v :: .int i :: .ref a :: st) := by
  intro H locs ls hP hD hS hl
  subst hset
  exact va_astq C.1 C.2.1 C.2.2.2.2.2.1 hP hD hS q0 4 qk 0 (r := (RX0, TX0, 8)) ha rfl hv rfl hin hd (fun H1 locs1 hP1 hD1 hS1 => k H1 locs1 ls hP1 hD1 hS1 hl)
theorem c_iastore (C : OkC p s m args c meth D cA A own cc nL iname) (q0 : Nat) {a n : Nat} {f : Nat → Int32} (ha : ws[q0]? = some (a, .inl (cA 0, n, .inl f))) {i x : Int32} (hin : vp_in i n) (ws2 : va_W) (hset : ws.set q0 (a, .inl (cA 0, n, .inl (upd f i.toNatClampNeg x))) = ws2) (hd : decode cc pc = .ok (.iastore, 1)) (k : VC p l e R s m args below meth c Q D A nL ws2 nc ns (pc + 1) lv st) : VC p l e R s m args below meth c Q D A nL ws nc ns pc lv (.int x :: .int i :: .ref a :: st) := by
  intro H locs ls hP hD hS hl
  subst hset
  exact va_iast C.1 C.2.1 C.2.2.2.2.2.1 hP hD hS q0 0 ha rfl hin hd (fun H1 locs1 hP1 hD1 hS1 => k H1 locs1 ls hP1 hD1 hS1 hl)
theorem c_objInit (C : OkC p s m args c meth D cA A own cc nL iname) {ix a : Nat} (hlink : Cond.methodLink own ix Lib.objectInit ∈ gw_tbl) (hinst : Cond.instanceMethod Lib.objectInit ∈ gw_tbl) (hcode : Cond.code Lib.objectInit ⟨#[0xb1]⟩ 1 none ∈ gw_tbl) (hd : decode cc pc = .ok (.invokespecial ix, 3)) (hf : 1 ≤ R.frames) (hlo : (st.map fun v => v.category).sum + 12 ≤ R.locals) (k : VC p l e R s m args below meth c Q D A nL ws nc ns (pc + 3) lv st) : VC p l e R s m args below meth c Q D A nL ws nc ns pc lv (.ref a :: st) := fun H locs ls hP hD hS hl => W.objInit C.1 C.2.1 C.2.2.2.1 (C.2.2.2.2.1 _ hlink) (C.2.2.2.2.1 _ hinst) (C.2.2.2.2.1 _ hcode) rfl (by rw [C.2.2.1]; exact hl.1) rfl hd hf (by show 2 * 0 + _ + 12 ≤ _; omega) (k H locs ls hP hD hS hl)
theorem c_ws {ws2 : va_W} (h : ws = ws2) (k : VC p l e R s m args below meth c Q D A nL ws2 nc ns pc lv st) : VC p l e R s m args below meth c Q D A nL ws nc ns pc lv st := h ▸ k
theorem c_vret (C : OkC p s m args c meth D cA A own cc nL iname) (hr : Rt meth none) {sz : Nat} {ws0 : va_W} (hA : A = va_A ws0 sz) (ws1 : (Nat → Nat) → va_W) (qa : Nat → Nat) (hw : ws = ws1 qa) (hQ : Q = MQ below (QoC D sz ws0 ws1) args s nc ns A) (hd : decode cc pc = .ok (.return_, 1)) : VC p l e R s m args below meth c Q D A nL ws nc ns pc lv [] := by
  intro H locs ls hP hD hS hl
  subst hA
  subst hQ
  subst hw
  exact W.vret C.1 C.2.1 hr.1 (fun t ht hW => ⟨⟨qa, rfl, trivial, by rw [ht]; exact hP, hD⟩, hS.F ht⟩) hS.2.2 hd hr.2
theorem preC_blind {sz : Nat} {av : List Value} {w0 : va_W} : FrameBlind (va_Pc av (PreC D cA sz w0)) := fun a U g mk q => ⟨q.1, q.2.1, q.2.2.1, va_K.moved (u := U) (U := U.calling g mk a) (Vm.Alike.refl U.vm) q.2.2.2.1, q.2.2.2.2.1, nx_mv (u := U) (Or.inr rfl) q.2.2.2.2.2⟩
theorem c_joined {A1 : Nat → Prop} {wr w1 : va_W} {q : Nat} {o : va_E} {H H1 : Heap} (hP : va_P D vwCl (wr ++ [(q, o)]) H) (hD : va_D A (wr ++ [(q, o)])) (hA1 : A1 = va_A [(q, o)] H.size) (hk : ∀ x : Nat, x < H.size → ¬ A1 x → H1[x]? = H[x]?) (hF : ∀ x, A1 x → A x) (hP1 : va_P D vwCl w1 H1) (hD1 : va_D A1 w1) : va_P D vwCl (wr ++ w1) H1 ∧ va_D A (wr ++ w1) := by
  subst hA1
  refine va_join (wc := [(q, o)]) hP hD [wr.length] (List.range wr.length) ?_ ?_ ?_ ?_ hk hF hP1 hD1
  · simp
  · apply List.ext_getElem?
    intro i
    simp only [List.getElem?_map, List.getElem?_range']
    by_cases hi : i < wr.length
    · simp [List.getElem?_range hi, List.getElem?_append_left hi, List.getElem?_eq_getElem hi]
    · have h1 : (List.range wr.length)[i]? = none := List.getElem?_eq_none (by simp; omega)
      have h2 : wr[i]? = none := List.getElem?_eq_none (by omega)
      rw [h1, h2]; rfl
  · have : ∀ l : List Nat, l.Nodup → va_nd l = true := by
      intro l
      induction l with
      | nil => intro _; rfl
      | cons x l ih => intro h; rw [List.nodup_cons] at h; simp [va_nd, h.1, ih h.2]
    exact this _ List.nodup_range
  · intro i hi
    have := List.mem_range.mp hi
    simp; omega
theorem c_callI (C : OkC p s m args c meth D cA A own cc nL iname) {ix n mL q mc ms : Nat} {y : MethodName} {by1 : ByteArray} {rm2 : Room} {As st0 : List Value} {o : va_E} {wr : va_W} {w1 : (Nat → Nat) → va_W} (hl : Cond.methodLink own ix y ∈ gw_tbl) (hI : Inf y by1 mL none n ∧ Cond.instanceMethod y ∈ gw_tbl ∧ y.name = "<init>") (hr : rm2.cells = mc ∧ rm2.slots = ms) (hfr : rm2.frames + 1 ≤ R.frames) (hlo : 8 + (mL + 11) + rm2.locals ≤ R.locals) (hM : ∀ sz, Met l y (wsm y by1 mL none) rm2 (va_Pc (.ref q :: As) (PreC D cA sz [(q, o)])) (QoC D sz [(q, o)] w1) mc ms (va_A [(q, o)] sz)) (hw : ws = wr ++ [(q, o)]) (hn : As.length = n) (hst : st0 = As.reverse ++ .ref q :: st) (hcat : (st.map fun v => v.category).sum ≤ 8) {nc2 ns2 : Nat} (h1 : nc + mc = nc2) (h2 : ns + ms = ns2) (hcells : nc2 ≤ R.cells) (hslots : ns2 ≤ R.slots) (hd : decode cc pc = .ok (.invokespecial ix, 3)) (k : ∀ qa, VC p l e R s m args below meth c Q D A nL (wr ++ w1 qa) nc2 ns2 (pc + 3) lv st) : VC p l e R s m args below meth c Q D A nL ws nc ns pc lv st0 := by
  intro H locs ls hP hD hS hl2
  subst hw; subst h1; subst h2
  have hts := C.2.2.2.2.1
  have hB : CallB R s args own ix y by1 mL none (wsm y by1 mL none) rm2 mc ms n := callB_of n hts (good_tbl hI.1.2.1) rfl hr.1 hr.2 (hts _ hI.1.1) (hts _ hl) hI.1.2.2 ⟨hfr, hlo⟩
  have hPc : va_P D vwCl [(q, o)] H := fun k x hx => hP (wr.length + k) x (by rw [List.getElem?_append_right (by omega)]; rw [show wr.length + k - wr.length = k by omega]; exact hx)
  have hDc : va_D (fun _ => True) [(q, o)] := ⟨fun i j x y2 hx hy _ => by
    have := (List.getElem?_eq_some_iff.mp hx).1
    have := (List.getElem?_eq_some_iff.mp hy).1
    simp at *; omega, fun _ _ _ => trivial⟩
  have hF : ∀ x, va_A [(q, o)] H.size x → A x := by
    intro x hx
    rcases hx with ⟨k, e2, hx⟩ | hx
    · exact hD.2 (wr.length + k) (x, e2) (by rw [List.getElem?_append_right (by omega)]; rw [show wr.length + k - wr.length = k by omega]; exact hx)
    · exact C.2.2.2.2.2.2.1 x (Nat.le_trans hS.1 hx)
  refine va_callv (va_runI (As := As) (rest := st) ⟨C.1, C.2.1, C.2.2.1, C.2.2.2.1, hts⟩ (hM H.size) ⟨hB, hI.2.2, hts _ hI.2.1⟩ ⟨preC_blind, fun U hU hW => ⟨rfl, by rw [hU], by rw [hU]; exact hPc, va_K.moved hW.alike C.2.2.2.2.2.1, hDc, nx_mv (Or.inl hW) C.2.2.2.2.2.2.2.1⟩⟩ rfl hn hl2.1 (by subst hst; rfl) (lv_room hcat) hd ⟨hcells, hslots⟩) hS (fun x _ h => hF x h) hF (fun qa t H1 locs1 ht hvm _ hB1 hz hk hS1 => ?_)
  obtain ⟨hP1, hD1⟩ := hB1
  rw [ht] at hP1
  obtain ⟨hP2, hD2⟩ := c_joined hP hD rfl hk hF hP1 hD1
  exact k qa H1 locs1 ls hP2 hD2 hS1 hl2
theorem c_callIN (C : OkC p s m args c meth D cA A own cc nL iname) {ix n mL q mc ms : Nat} {y : MethodName} {host : String} {by1 : ByteArray} {rm2 : Room} {As st0 : List Value} {o : va_E} {wr : va_W} {w1 : (Nat → Nat) → va_W} (hl : va_Nw (.methodLinkNest own ix y host) s) (hI : Inf y by1 mL none n ∧ Cond.instanceMethod y ∈ gw_tbl ∧ y.name = "<init>") (hr : rm2.cells = mc ∧ rm2.slots = ms) (hfr : rm2.frames + 1 ≤ R.frames) (hlo : 8 + (mL + 11) + rm2.locals ≤ R.locals) (hM : ∀ sz, Met l y (wsm y by1 mL none) rm2 (va_Pc (.ref q :: As) (PreC D cA sz [(q, o)])) (QoC D sz [(q, o)] w1) mc ms (va_A [(q, o)] sz)) (hw : ws = wr ++ [(q, o)]) (hn : As.length = n) (hst : st0 = As.reverse ++ .ref q :: st) (hcat : (st.map fun v => v.category).sum ≤ 8) {nc2 ns2 : Nat} (h1 : nc + mc = nc2) (h2 : ns + ms = ns2) (hcells : nc2 ≤ R.cells) (hslots : ns2 ≤ R.slots) (hd : decode cc pc = .ok (.invokespecial ix, 3)) (k : ∀ qa, VC p l e R s m args below meth c Q D A nL (wr ++ w1 qa) nc2 ns2 (pc + 3) lv st) : VC p l e R s m args below meth c Q D A nL ws nc ns pc lv st0 := by
  intro H locs ls hP hD hS hl2
  subst hw; subst h1; subst h2
  have hts := C.2.2.2.2.1
  have hB : va_CN R s args own ix y host by1 mL none (wsm y by1 mL none) rm2 mc ms n := va_cnB n hts (good_tbl hI.1.2.1) rfl hr.1 hr.2 hl (hts _ hI.1.1) hI.1.2.2 ⟨hfr, hlo⟩
  have hPc : va_P D vwCl [(q, o)] H := fun k x hx => hP (wr.length + k) x (by rw [List.getElem?_append_right (by omega)]; rw [show wr.length + k - wr.length = k by omega]; exact hx)
  have hDc : va_D (fun _ => True) [(q, o)] := ⟨fun i j x y2 hx hy _ => by
    have := (List.getElem?_eq_some_iff.mp hx).1
    have := (List.getElem?_eq_some_iff.mp hy).1
    simp at *; omega, fun _ _ _ => trivial⟩
  have hF : ∀ x, va_A [(q, o)] H.size x → A x := by
    intro x hx
    rcases hx with ⟨k, e2, hx⟩ | hx
    · exact hD.2 (wr.length + k) (x, e2) (by rw [List.getElem?_append_right (by omega)]; rw [show wr.length + k - wr.length = k by omega]; exact hx)
    · exact C.2.2.2.2.2.2.1 x (Nat.le_trans hS.1 hx)
  refine va_callv (va_runIN (As := As) (rest := st) ⟨C.1, C.2.1, C.2.2.1, C.2.2.2.1, hts⟩ (hM H.size) ⟨hB, hI.2.2, hts _ hI.2.1⟩ ⟨preC_blind, fun U hU hW => ⟨rfl, by rw [hU], by rw [hU]; exact hPc, va_K.moved hW.alike C.2.2.2.2.2.1, hDc, nx_mv (Or.inl hW) C.2.2.2.2.2.2.2.1⟩⟩ rfl hn hl2.1 (by subst hst; rfl) (lv_room hcat) hd ⟨hcells, hslots⟩) hS (fun x _ h => hF x h) hF (fun qa t H1 locs1 ht hvm _ hB1 hz hk hS1 => ?_)
  obtain ⟨hP1, hD1⟩ := hB1
  rw [ht] at hP1
  obtain ⟨hP2, hD2⟩ := c_joined hP hD rfl hk hF hP1 hD1
  exact k qa H1 locs1 ls hP2 hD2 hS1 hl2
end CT
/-- a constructor out of its body -/
theorem met_ofC {l : Launch} {y : MethodName} {cc : ByteArray} {nL mc ms : Nat} {rm : Room} (av : List Value) {D : va_G} {cA : Nat → ClassId} {ws0 : va_W} {ws1 : (Nat → Nat) → va_W} {sz : Nat} (hy : plainName y.cls = true) (hlen : (lg_sl av).length ≤ nL)
    (hV : ∀ (p : Program) (e : Env) (s : State) (m : MethodId) (below : List Frame) (meth : Method) (c : Code), s.heap.size = sz → OkC p s m av.toArray c meth D cA (va_A ws0 sz) y.cls cc nL (meth.name = y.name) → Rt meth none → VC p l e rm s m av.toArray below meth c (MQ below (QoC D sz ws0 ws1) av.toArray s mc ms (va_A ws0 sz)) D (va_A ws0 sz) nL ws0 0 0 0 (lv_args 0 av) []) : Met l y (wsm y cc nL none) rm (va_Pc av (PreC D cA sz ws0)) (QoC D sz ws0 ws1) mc ms (va_A ws0 sz) := by
  refine Met.ofW (cc := cc) (maxL := nL) (ret := none) hy rfl ?_
  intro p e s m args below meth c s₁ B hml hv
  obtain ⟨rfl, hsz, hP, hK, hD, hn⟩ := hv
  have hts := atoms_spec (ws := wsm y cc nL none) B.pre
  have C : OkC p s m av.toArray c meth D cA (va_A ws0 sz) y.cls cc nL (meth.name = y.name) := ⟨B.exec, B.bytes, hml, findClass_of_methodNamed B.named, fun w h => hts w (List.mem_cons_of_mem _ h), hK, fun q h => Or.inr (hsz ▸ h), hn, (name_of_methodNamed B.named B.method).1⟩
  have hl := lv_entry av (n := nL) hlen
  rw [lg_entry_eq]
  exact hV p e s m below meth c hsz C ⟨B.returns, B.notSynchronized⟩ s.heap [] _ hP hD.self va_S.rf hl

