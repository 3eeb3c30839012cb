def nch {β : Type} (x : Int32) (E : Option β) : Option β := if vp_nar .char x = x then E else none
theorem nch_some {β : Type} {x : Int32} {E : Option β} {r : β} (h : nch x E = some r) : vp_nar .char x = x ∧ E = some r := by
  unfold nch at h
  split at h
  · exact ⟨‹_›, h⟩
  · cases h
def fil {α : Type} (n : Nat) (x : α) (f : Nat → α) : Nat → α := fun j => if j < n then x else f j
def rmZ : Room := { frames := 0, cells := 0, slots := 0, locals := 0 }
section FILL
variable {p : Program} {l : Launch} {e : Env} {R : Room} {s : State} {m : MethodId} {args : Array Value} {below : List Frame} {meth : Method} {c : Code} {Q : State → Prop} {D : va_G} {cA : Nat → ClassId} {wf : St → va_W} {A : Nat → Prop} {sx : State → Heap → Prop}
theorem v_cretN {own : String} {cc : ByteArray} {nL : Nat} {S : St} {pc : Nat} {lv : List (Nat × Value)} (C : Ok p s m args c D cA wf A sx own cc nL) (hr : Rt meth (some .char)) {r : Int32 × St} (hQ : Q = MQ below (Qo D wf A (some (.int r.1)) r.2) args s 0 0 A) {x : Int32} (hm : nch x (some (x, S)) = some r) (hd : decode cc pc = .ok (.ireturn, 1)) : V p l e R s m args below meth c Q D wf A nL S pc lv [.int x] :=
  v_cret C hr hQ (nch_some hm).2 (by
    have h := (nch_some hm).1
    have h2 : narrow .char (.int x) = .int (vp_nar .char x) := rfl
    rw [h2, h]) hd
theorem fA_fA (S : St) (k : Nat) (f g : Nat → Int32) : fA (fA S k f) k g = fA S k g := by
  unfold fA
  congr 3
  funext j
  by_cases h : j = k <;> simp [h]
theorem fL_fL (S : St) (k : Nat) (f g : Nat → Int64) : fL (fL S k f) k g = fL S k g := by
  unfold fL
  congr 3
  funext j
  by_cases h : j = k <;> simp [h]
theorem fA_self (S : St) (k : Nat) : fA S k (S.2.2.1 k) = S := by
  unfold fA
  have : (fun j => if j = k then S.2.2.1 k else S.2.2.1 j) = S.2.2.1 := by
    funext j
    by_cases h : j = k <;> simp [h]
  rw [this]
theorem fL_self (S : St) (k : Nat) : fL S k (S.2.2.2 k) = S := by
  unfold fL
  have : (fun j => if j = k then S.2.2.2 k else S.2.2.2 j) = S.2.2.2 := by
    funext j
    by_cases h : j = k <;> simp [h]
  rw [this]
theorem fA_at (S : St) (k : Nat) (f : Nat → Int32) : (fA S k f).2.2.1 k = f := if_pos rfl
theorem fL_at (S : St) (k : Nat) (f : Nat → Int64) : (fL S k f).2.2.2 k = f := if_pos rfl
theorem fil_succ (n : Nat) (x : Int32) (f : Nat → Int32) : upd (fil n x f) n x = fil (n + 1) x f := by
  funext j
  unfold upd fil
  by_cases h : j = n
  · simp [h]
  · by_cases h2 : j < n
    · simp [h, h2, Nat.lt_succ_of_lt h2]
    · simp [h, h2, show ¬ j < n + 1 by omega]
theorem filL_succ (n : Nat) (x : Int64) (f : Nat → Int64) : vp_updL (fil n x f) n x = fil (n + 1) x f := by
  funext j
  unfold vp_updL fil
  by_cases h : j = n
  · simp [h]
  · by_cases h2 : j < n
    · simp [h, h2, Nat.lt_succ_of_lt h2]
    · simp [h, h2, show ¬ j < n + 1 by omega]
theorem fil_0 {α : Type} (x : α) (f : Nat → α) : fil 0 x f = f := by
  funext j
  simp [fil]
theorem fill_loopI (C : Ok p s m args c D cA wf A sx "java/util/Arrays" cJ7_fill_53178 4) (hr : Rt meth none) {q0 a id n : Nat} (hn : n < 2 ^ 31) (hread : ∀ S, (wf S)[q0]? = some (a, .inl (cA 0, n, .inl (S.2.2.1 id)))) (hwr : ∀ S g, (wf S).set q0 (a, .inl (cA 0, n, .inl g)) = wf (fA S id g)) (S : St) (x : Int32) (hQ : Q = MQ below (Qo D wf A none (fA S id (fil n x (S.2.2.1 id)))) args s 0 0 A) :
    ∀ k i : Nat, i + k = n → V p l e R s m args below meth c Q D wf A 4 (fA S id (fil i x (S.2.2.1 id))) 5 [(0, .ref a), (1, .int x), (2, .int (nI i)), (3, .int (nI n))] [] := by
  intro k
  induction k with
  | zero =>
    intro i hi
    have hi : i = n := by omega
    subst hi
    refine v_iload_n C (pc := 5) 2 dJ7_fill_53178_5 rfl rfl ?_
    refine v_iload_n C (pc := 6) 3 dJ7_fill_53178_6 rfl rfl ?_
    refine v_icmp_ge C (pc := 7) (res := ()) (E1 := some ()) (E2 := none) (by rw [if_pos (nI_le (Nat.le_refl _) hn)]) 20 dJ7_fill_53178_7 rfl (fun _ => ?_) (fun h => by cases h)
    exact v_vret C hr (r := ((), fA S id (fil i x (S.2.2.1 id)))) hQ (x := ()) (pc := 20) rfl dJ7_fill_53178_20
  | succ k ih =>
    intro i hi
    have hlt : i < n := by omega
    refine v_iload_n C (pc := 5) 2 dJ7_fill_53178_5 rfl rfl ?_
    refine v_iload_n C (pc := 6) 3 dJ7_fill_53178_6 rfl rfl ?_
    refine v_icmp_ge C (pc := 7) (res := ()) (E1 := none) (E2 := some ()) (by rw [if_neg (nI_ge hlt hn)]) 20 dJ7_fill_53178_7 rfl (fun h => by cases h) (fun _ => ?_)
    refine v_aload_n C (pc := 10) 0 dJ7_fill_53178_10 rfl rfl ?_
    refine v_iload_n C (pc := 11) 2 dJ7_fill_53178_11 rfl rfl ?_
    refine v_iload_n C (pc := 12) 1 dJ7_fill_53178_12 rfl rfl ?_
    have hcl : (nI i).toNatClampNeg = i := nI_clamp (by omega)
    refine v_iastore C (pc := 13) (hread _) (S2 := fA S id (fil (i + 1) x (S.2.2.1 id))) (by rw [hwr, fA_at, hcl, fil_succ, fA_fA]) (res := fA S id (fil (i + 1) x (S.2.2.1 id))) (E := some) (ck_pos (vp_in_nI hlt hn)) dJ7_fill_53178_13 (fun S2 h => ?_)
    cases h
    refine v_iinc C (pc := 14) 1 2 [(2, .int (nI i + 1)), (0, .ref a), (1, .int x), (3, .int (nI n))] dJ7_fill_53178_14 rfl rfl (by decide) rfl ?_
    refine v_goto C (pc := 17) 5 dJ7_fill_53178_17 rfl ?_
    rw [nI_1]
    exact v_sub [1, 2, 0, 3] rfl (ih (i + 1) (by omega))
theorem met_fillI {l : Launch} (hD : ∀ S, va_D A (wf S)) (hmv : ∀ (u U : State) (H : Heap), (u.WarmedH U.vm ∨ u.vm = U.vm) → sx u H → sx U H) (hkp : ∀ (U : State) (H H1 : Heap), (∀ a : Nat, a < H.size → ¬ A a → H1[a]? = H[a]?) → sx U H → sx U H1) {q0 a id n : Nat} (hn : n < 2 ^ 31) (hread : ∀ S, (wf S)[q0]? = some (a, .inl (cA 0, n, .inl (S.2.2.1 id)))) (hwr : ∀ S g, (wf S).set q0 (a, .inl (cA 0, n, .inl g)) = wf (fA S id g)) (S : St) (x : Int32) :
    Met l yJ7_fill_53178 (wsm yJ7_fill_53178 cJ7_fill_53178 4 none) rmZ (va_Pc [.ref a, .int x] (Pre D cA wf sx S)) (Qo D wf A none (fA S id (fil n x (S.2.2.1 id)))) 0 0 A := by
  refine met_of [.ref a, .int x] (by decide) (Nat.le_of_ble_eq_true rfl) hD hmv hkp (fun p e s m below meth c C hr => ?_)
  have C : Ok p s m ([.ref a, .int x] : List Value).toArray c D cA wf A sx "java/util/Arrays" cJ7_fill_53178 4 := C
  have h0 := fill_loopI (l := l) (below := below) (e := e) (R := rmZ) C hr hn hread hwr S x rfl n 0 (by omega)
  rw [fil_0, fA_self] at h0
  refine v_iconst C (pc := 0) 0 dJ7_fill_53178_0 rfl ?_
  refine v_istore_n C (pc := 1) [(2, .int 0), (0, .ref a), (1, .int x)] dJ7_fill_53178_1 rfl (by decide) rfl ?_
  refine v_aload_n C (pc := 2) 1 dJ7_fill_53178_2 rfl rfl ?_
  refine v_alenI C (pc := 3) (hread S) dJ7_fill_53178_3 ?_
  refine v_istore_n C (pc := 4) [(3, .int (Int32.ofNat n)), (2, .int 0), (0, .ref a), (1, .int x)] dJ7_fill_53178_4 rfl (by decide) rfl ?_
  exact v_sub [2, 3, 1, 0] rfl h0
theorem fill_loopL (C : Ok p s m args c D cA wf A sx "java/util/Arrays" cJ7_fill_d0a16 5) (hr : Rt meth none) {q0 a id n : Nat} (hn : n < 2 ^ 31) (hread : ∀ S, (wf S)[q0]? = some (a, .inl (cA 1, n, .inr (.inl (S.2.2.2 id))))) (hwr : ∀ S g, (wf S).set q0 (a, .inl (cA 1, n, .inr (.inl g))) = wf (fL S id g)) (S : St) (x : Int64) (hQ : Q = MQ below (Qo D wf A none (fL S id (fil n x (S.2.2.2 id)))) args s 0 0 A) :
    ∀ k i : Nat, i + k = n → V p l e R s m args below meth c Q D wf A 5 (fL S id (fil i x (S.2.2.2 id))) 6 [(0, .ref a), (1, .long x), (3, .int (nI i)), (4, .int (nI n))] [] := by
  intro k
  induction k with
  | zero =>
    intro i hi
    have hi : i = n := by omega
    subst hi
    refine v_iload_n C (pc := 6) 2 dJ7_fill_d0a16_6 rfl rfl ?_
    refine v_iload C (pc := 7) 3 dJ7_fill_d0a16_7 rfl ?_
    refine v_icmp_ge C (pc := 9) (res := ()) (E1 := some ()) (E2 := none) (by rw [if_pos (nI_le (Nat.le_refl _) hn)]) 22 dJ7_fill_d0a16_9 rfl (fun _ => ?_) (fun h => by cases h)
    exact v_vret C hr (r := ((), fL S id (fil i x (S.2.2.2 id)))) hQ (x := ()) (pc := 22) rfl dJ7_fill_d0a16_22
  | succ k ih =>
    intro i hi
    have hlt : i < n := by omega
    refine v_iload_n C (pc := 6) 2 dJ7_fill_d0a16_6 rfl rfl ?_
    refine v_iload C (pc := 7) 3 dJ7_fill_d0a16_7 rfl ?_
    refine v_icmp_ge C (pc := 9) (res := ()) (E1 := none) (E2 := some ()) (by rw [if_neg (nI_ge hlt hn)]) 22 dJ7_fill_d0a16_9 rfl (fun h => by cases h) (fun _ => ?_)
    refine v_aload_n C (pc := 12) 0 dJ7_fill_d0a16_12 rfl rfl ?_
    refine v_iload_n C (pc := 13) 2 dJ7_fill_d0a16_13 rfl rfl ?_
    refine v_lload_n C (pc := 14) 1 dJ7_fill_d0a16_14 rfl rfl ?_
    have hcl : (nI i).toNatClampNeg = i := nI_clamp (by omega)
    refine v_lastore C (pc := 15) (hread _) (S2 := fL S id (fil (i + 1) x (S.2.2.2 id))) (by rw [hwr, fL_at, hcl, filL_succ, fL_fL]) (res := fL S id (fil (i + 1) x (S.2.2.2 id))) (E := some) (ck_pos (vp_in_nI hlt hn)) dJ7_fill_d0a16_15 (fun S2 h => ?_)
    cases h
    refine v_iinc C (pc := 16) 1 2 [(3, .int (nI i + 1)), (0, .ref a), (1, .long x), (4, .int (nI n))] dJ7_fill_d0a16_16 rfl rfl (by decide) rfl ?_
    refine v_goto C (pc := 19) 6 dJ7_fill_d0a16_19 rfl ?_
    rw [nI_1]
    exact v_sub [1, 2, 0, 3] rfl (ih (i + 1) (by omega))
theorem met_fillL {l : Launch} (hD : ∀ S, va_D A (wf S)) (hmv : ∀ (u U : State) (H : Heap), (u.WarmedH U.vm ∨ u.vm = U.vm) → sx u H → sx U H) (hkp : ∀ (U : State) (H H1 : Heap), (∀ a : Nat, a < H.size → ¬ A a → H1[a]? = H[a]?) → sx U H → sx U H1) {q0 a id n : Nat} (hn : n < 2 ^ 31) (hread : ∀ S, (wf S)[q0]? = some (a, .inl (cA 1, n, .inr (.inl (S.2.2.2 id))))) (hwr : ∀ S g, (wf S).set q0 (a, .inl (cA 1, n, .inr (.inl g))) = wf (fL S id g)) (S : St) (x : Int64) :
    Met l yJ7_fill_d0a16 (wsm yJ7_fill_d0a16 cJ7_fill_d0a16 5 none) rmZ (va_Pc [.ref a, .long x] (Pre D cA wf sx S)) (Qo D wf A none (fL S id (fil n x (S.2.2.2 id)))) 0 0 A := by
  refine met_of [.ref a, .long x] (by decide) (Nat.le_of_ble_eq_true rfl) hD hmv hkp (fun p e s m below meth c C hr => ?_)
  have C : Ok p s m ([.ref a, .long x] : List Value).toArray c D cA wf A sx "java/util/Arrays" cJ7_fill_d0a16 5 := C
  have h0 := fill_loopL (l := l) (below := below) (e := e) (R := rmZ) C hr hn hread hwr S x rfl n 0 (by omega)
  rw [fil_0, fL_self] at h0
  refine v_iconst C (pc := 0) 0 dJ7_fill_d0a16_0 rfl ?_
  refine v_istore_n C (pc := 1) [(3, .int 0), (0, .ref a), (1, .long x)] dJ7_fill_d0a16_1 rfl (by decide) rfl ?_
  refine v_aload_n C (pc := 2) 1 dJ7_fill_d0a16_2 rfl rfl ?_
  refine v_alenL C (pc := 3) (hread S) dJ7_fill_d0a16_3 ?_
  refine v_istore C (pc := 4) [(4, .int (Int32.ofNat n)), (3, .int 0), (0, .ref a), (1, .long x)] dJ7_fill_d0a16_4 (by decide) rfl ?_
  exact v_sub [2, 3, 1, 0] rfl h0
end FILL
