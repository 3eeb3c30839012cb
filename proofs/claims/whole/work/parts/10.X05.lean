-- X8_possible
def rmX8_possible : Room := { frames := 4, cells := 0, slots := 0, locals := 113 }
def fX8_possible_67 (N : Nat) (k25 : Int32 → Int32 → St → Option (Int32 × St)) (k33 : Int32 → Int32 → Int32 → St → Option (Int32 × St)) (x2 : Int32) (x3 : Int32) (x4 : Int32) (S : St) : Option (Int32 × St) := k33 x2 x3 (x4 + 1) S
set_option maxRecDepth 20000 in
theorem vX8_possible_67 {p : Program} {l : Launch} {e : Env} {s : State} {m : MethodId} {args : Array Value} {below : List Frame} {meth : Method} {c : Code} {Q : State → Prop} {D : va_G} {ad : Nat → Nat} {cA : Nat → ClassId} (C : Ok p s m args c D cA (xW ad cA) (xA ad) (xS ad) RX8 cX8_possible 5) (hr : Rt meth (some .int)) {r : Int32 × St} (hQ : Q = MQ below (Qo D (xW ad cA) (xA ad) (some (.int r.1)) r.2) args s 0 0 (xA ad)) {N : Nat} {k25 : Int32 → Int32 → St → Option (Int32 × St)} (hk25 : ∀ (x2 : Int32) (x3 : Int32) (S : St), k25 x2 x3 S = some r → V p l e rmX8_possible s m args below meth c Q D (xW ad cA) (xA ad) 5 S 25 [(0, .ref (ad 0)), (2, .int x2), (3, .int x3)] []) {k33 : Int32 → Int32 → Int32 → St → Option (Int32 × St)} (hk33 : ∀ (x2 : Int32) (x3 : Int32) (x4 : Int32) (S : St), k33 x2 x3 x4 S = some r → V p l e rmX8_possible s m args below meth c Q D (xW ad cA) (xA ad) 5 S 33 [(0, .ref (ad 0)), (2, .int x2), (3, .int x3), (4, .int x4)] []) {x2 : Int32} {x3 : Int32} {x4 : Int32}  {S : St} (hm : fX8_possible_67 N k25 k33 x2 x3 x4 S = some r) : V p l e rmX8_possible s m args below meth c Q D (xW ad cA) (xA ad) 5 S 67 [(0, .ref (ad 0)), (2, .int x2), (3, .int x3), (4, .int x4)] [] := by
  unfold fX8_possible_67 at hm
  refine v_iinc C (pc := 67) 1 3 [(4, .int (x4 + 1)), (0, .ref (ad 0)), (2, .int x2), (3, .int x3)] dX8_possible_67 rfl rfl (by decide) rfl ?_
  refine v_goto C (pc := 70) 33 dX8_possible_70 rfl ?_
  exact v_sub [1, 2, 3, 0] rfl (hk33 _ _ _ _ hm)
def fX8_possible_33b (N : Nat) (k25 : Int32 → Int32 → St → Option (Int32 × St)) (k33 : Int32 → Int32 → Int32 → St → Option (Int32 × St)) (x2 : Int32) (x3 : Int32) (x4 : Int32) (S : St) : Option (Int32 × St) := if 6 ≤ x4 then (k25 x2 (x3 + 1) S) else (bd (fX4_attempt N 0 x3 x4 S) fun r9 S9 => if r9 = 0 then (fX8_possible_67 N k25 k33 x2 x3 x4 S9) else (if x2 = 0 then (bd (fX8_moveCode N x3 x4 S9) fun r10 S10 => some (r10, S10)) else (fX8_possible_67 N k25 k33 (x2 + (-1)) x3 x4 S9)))
def fX8_possible_33 (N : Nat) (k25 : Int32 → Int32 → St → Option (Int32 × St)) : Nat → Int32 → Int32 → Int32 → St → Option (Int32 × St)
  | 0 => fun _ _ _ _ => none
  | n + 1 => fun x2 x3 x4 S => fX8_possible_33b N k25 (fX8_possible_33 N k25 n) x2 x3 x4 S
set_option maxRecDepth 20000 in
theorem vX8_possible_33b {p : Program} {l : Launch} {e : Env} {s : State} {m : MethodId} {args : Array Value} {below : List Frame} {meth : Method} {c : Code} {Q : State → Prop} {D : va_G} {ad : Nat → Nat} {cA : Nat → ClassId} (C : Ok p s m args c D cA (xW ad cA) (xA ad) (xS ad) RX8 cX8_possible 5) (hr : Rt meth (some .int)) {r : Int32 × St} (hQ : Q = MQ below (Qo D (xW ad cA) (xA ad) (some (.int r.1)) r.2) args s 0 0 (xA ad)) {N : Nat} {k25 : Int32 → Int32 → St → Option (Int32 × St)} (hk25 : ∀ (x2 : Int32) (x3 : Int32) (S : St), k25 x2 x3 S = some r → V p l e rmX8_possible s m args below meth c Q D (xW ad cA) (xA ad) 5 S 25 [(0, .ref (ad 0)), (2, .int x2), (3, .int x3)] []) {k33 : Int32 → Int32 → Int32 → St → Option (Int32 × St)} (hk33 : ∀ (x2 : Int32) (x3 : Int32) (x4 : Int32) (S : St), k33 x2 x3 x4 S = some r → V p l e rmX8_possible s m args below meth c Q D (xW ad cA) (xA ad) 5 S 33 [(0, .ref (ad 0)), (2, .int x2), (3, .int x3), (4, .int x4)] []) {x2 : Int32} {x3 : Int32} {x4 : Int32}  {S : St} (hm : fX8_possible_33b N k25 k33 x2 x3 x4 S = some r) : V p l e rmX8_possible s m args below meth c Q D (xW ad cA) (xA ad) 5 S 33 [(0, .ref (ad 0)), (2, .int x2), (3, .int x3), (4, .int x4)] [] := by
  unfold fX8_possible_33b at hm
  refine v_iload C (pc := 33) 3 dX8_possible_33 rfl ?_
  refine v_bipush C (pc := 35) 6 dX8_possible_35 rfl ?_
  refine v_icmp_ge C (pc := 37) hm 73 dX8_possible_37 rfl (fun hm => ?_) (fun hm => ?_)
  · refine v_iinc C (pc := 73) 1 2 [(3, .int (x3 + 1)), (0, .ref (ad 0)), (2, .int x2), (4, .int x4)] dX8_possible_73 rfl rfl (by decide) rfl ?_
    refine v_goto C (pc := 76) 25 dX8_possible_76 rfl ?_
    exact v_sub [1, 2, 0] rfl (hk25 _ _ _ hm)
  · refine v_aload_n C (pc := 40) 0 dX8_possible_40 rfl rfl ?_
    refine gX8_37 C (pc := 41) dX8_possible_41 ?_
    refine v_iload_n C (pc := 44) 2 dX8_possible_44 rfl rfl ?_
    refine v_iload C (pc := 45) 3 dX8_possible_45 rfl ?_
    refine kX8_215 C (Nat.le_of_ble_eq_true rfl) (Nat.le_of_ble_eq_true rfl) (i := 0) (by decide) (pc := 47) hm (Nat.le_of_ble_eq_true rfl) dX8_possible_47 (fun r9 S9 hm => ?_)
    refine v_if_eq C (pc := 50) hm 67 dX8_possible_50 rfl (fun hm => ?_) (fun hm => ?_)
    · exact (vX8_possible_67 C hr hQ (N := N) hk25 hk33 hm)
    · refine v_iload_n C (pc := 53) 1 dX8_possible_53 rfl rfl ?_
      refine v_if_ne C (pc := 54) hm 64 dX8_possible_54 rfl (fun hm => ?_) (fun hm => ?_)
      · refine v_iinc C (pc := 64) (-1) 1 [(2, .int (x2 + (-1))), (0, .ref (ad 0)), (3, .int x3), (4, .int x4)] dX8_possible_64 rfl rfl (by decide) rfl ?_
        exact v_sub [1, 0, 2, 3] rfl (vX8_possible_67 C hr hQ (N := N) hk25 hk33 hm)
      · refine v_iload_n C (pc := 57) 2 dX8_possible_57 rfl rfl ?_
        refine v_iload C (pc := 58) 3 dX8_possible_58 rfl ?_
        refine kX8_216 C (Nat.le_of_ble_eq_true rfl) (Nat.le_of_ble_eq_true rfl) (pc := 60) hm (Nat.le_of_ble_eq_true rfl) dX8_possible_60 (fun r10 S10 hm => ?_)
        exact v_iret C hr hQ (pc := 63) hm dX8_possible_63
theorem vX8_possible_33 {p : Program} {l : Launch} {e : Env} {s : State} {m : MethodId} {args : Array Value} {below : List Frame} {meth : Method} {c : Code} {Q : State → Prop} {D : va_G} {ad : Nat → Nat} {cA : Nat → ClassId} (C : Ok p s m args c D cA (xW ad cA) (xA ad) (xS ad) RX8 cX8_possible 5) (hr : Rt meth (some .int)) {r : Int32 × St} (hQ : Q = MQ below (Qo D (xW ad cA) (xA ad) (some (.int r.1)) r.2) args s 0 0 (xA ad)) {N : Nat} {k25 : Int32 → Int32 → St → Option (Int32 × St)} (hk25 : ∀ (x2 : Int32) (x3 : Int32) (S : St), k25 x2 x3 S = some r → V p l e rmX8_possible s m args below meth c Q D (xW ad cA) (xA ad) 5 S 25 [(0, .ref (ad 0)), (2, .int x2), (3, .int x3)] []) (n : Nat) : ∀ (x2 : Int32) (x3 : Int32) (x4 : Int32) (S : St), fX8_possible_33 N k25 n x2 x3 x4 S = some r → V p l e rmX8_possible s m args below meth c Q D (xW ad cA) (xA ad) 5 S 33 [(0, .ref (ad 0)), (2, .int x2), (3, .int x3), (4, .int x4)] [] := by
  induction n with
  | zero => intro _ _ _ _  hm; exact absurd hm (by intro h; cases h)
  | succ n ih => intro _ _ _ _  hm; exact vX8_possible_33b C hr hQ (N := N)  hk25 ih  hm
def fX8_possible_25b (N : Nat)  (k25 : Int32 → Int32 → St → Option (Int32 × St)) (x2 : Int32) (x3 : Int32) (S : St) : Option (Int32 × St) := if 5 ≤ x3 then (some ((-7), S)) else (fX8_possible_33 N k25 N x2 x3 0 S)
def fX8_possible_25 (N : Nat)  : Nat → Int32 → Int32 → St → Option (Int32 × St)
  | 0 => fun _ _ _ => none
  | n + 1 => fun x2 x3 S => fX8_possible_25b N  (fX8_possible_25 N  n) x2 x3 S
set_option maxRecDepth 20000 in
theorem vX8_possible_25b {p : Program} {l : Launch} {e : Env} {s : State} {m : MethodId} {args : Array Value} {below : List Frame} {meth : Method} {c : Code} {Q : State → Prop} {D : va_G} {ad : Nat → Nat} {cA : Nat → ClassId} (C : Ok p s m args c D cA (xW ad cA) (xA ad) (xS ad) RX8 cX8_possible 5) (hr : Rt meth (some .int)) {r : Int32 × St} (hQ : Q = MQ below (Qo D (xW ad cA) (xA ad) (some (.int r.1)) r.2) args s 0 0 (xA ad)) {N : Nat}  {k25 : Int32 → Int32 → St → Option (Int32 × St)} (hk25 : ∀ (x2 : Int32) (x3 : Int32) (S : St), k25 x2 x3 S = some r → V p l e rmX8_possible s m args below meth c Q D (xW ad cA) (xA ad) 5 S 25 [(0, .ref (ad 0)), (2, .int x2), (3, .int x3)] []) {x2 : Int32} {x3 : Int32}  {S : St} (hm : fX8_possible_25b N  k25 x2 x3 S = some r) : V p l e rmX8_possible s m args below meth c Q D (xW ad cA) (xA ad) 5 S 25 [(0, .ref (ad 0)), (2, .int x2), (3, .int x3)] [] := by
  unfold fX8_possible_25b at hm
  refine v_iload_n C (pc := 25) 2 dX8_possible_25 rfl rfl ?_
  refine v_iconst C (pc := 26) 5 dX8_possible_26 rfl ?_
  refine v_icmp_ge C (pc := 27) hm 79 dX8_possible_27 rfl (fun hm => ?_) (fun hm => ?_)
  · refine v_bipush C (pc := 79) (-7) dX8_possible_79 rfl ?_
    exact v_iret C hr hQ (pc := 81) hm dX8_possible_81
  · refine v_iconst C (pc := 30) 0 dX8_possible_30 rfl ?_
    refine v_istore C (pc := 31) [(4, .int 0), (0, .ref (ad 0)), (2, .int x2), (3, .int x3)] dX8_possible_31 (by decide) rfl ?_
    exact v_sub [1, 2, 3, 0] rfl (vX8_possible_33 C hr hQ (N := N) hk25 N _ _ _ _ hm)
theorem vX8_possible_25 {p : Program} {l : Launch} {e : Env} {s : State} {m : MethodId} {args : Array Value} {below : List Frame} {meth : Method} {c : Code} {Q : State → Prop} {D : va_G} {ad : Nat → Nat} {cA : Nat → ClassId} (C : Ok p s m args c D cA (xW ad cA) (xA ad) (xS ad) RX8 cX8_possible 5) (hr : Rt meth (some .int)) {r : Int32 × St} (hQ : Q = MQ below (Qo D (xW ad cA) (xA ad) (some (.int r.1)) r.2) args s 0 0 (xA ad)) {N : Nat}  (n : Nat) : ∀ (x2 : Int32) (x3 : Int32) (S : St), fX8_possible_25 N  n x2 x3 S = some r → V p l e rmX8_possible s m args below meth c Q D (xW ad cA) (xA ad) 5 S 25 [(0, .ref (ad 0)), (2, .int x2), (3, .int x3)] [] := by
  induction n with
  | zero => intro _ _ _  hm; exact absurd hm (by intro h; cases h)
  | succ n ih => intro _ _ _  hm; exact vX8_possible_25b C hr hQ (N := N)   ih  hm
def fX8_possible (N : Nat) (p1 : Int32) (S : St) : Option (Int32 × St) := if 0 ≤ p1 then (bd (fX1_present N  S) fun r11 S11 => bd (fX4_stand N 0 r11 S11) fun r12 S12 => fX8_possible_25 N N p1 0 S12) else (some ((-3), S))
set_option maxRecDepth 20000 in
theorem vX8_possible {p : Program} {l : Launch} {e : Env} {s : State} {m : MethodId} {args : Array Value} {below : List Frame} {meth : Method} {c : Code} {Q : State → Prop} {D : va_G} {ad : Nat → Nat} {cA : Nat → ClassId} (C : Ok p s m args c D cA (xW ad cA) (xA ad) (xS ad) RX8 cX8_possible 5) (hr : Rt meth (some .int)) {r : Int32 × St} (hQ : Q = MQ below (Qo D (xW ad cA) (xA ad) (some (.int r.1)) r.2) args s 0 0 (xA ad)) {N : Nat} {p1 : Int32} {S : St} (hm : fX8_possible N p1 S = some r) : V p l e rmX8_possible s m args below meth c Q D (xW ad cA) (xA ad) 5 S 0 [(0, .ref (ad 0)), (1, .int p1)] [] := by
  unfold fX8_possible at hm
  refine v_iload_n C (pc := 0) 1 dX8_possible_0 rfl rfl ?_
  refine v_if_ge C (pc := 1) hm 7 dX8_possible_1 rfl (fun hm => ?_) (fun hm => ?_)
  · refine v_aload_n C (pc := 7) 0 dX8_possible_7 rfl rfl ?_
    refine gX8_37 C (pc := 8) dX8_possible_8 ?_
    refine v_aload_n C (pc := 11) 0 dX8_possible_11 rfl rfl ?_
    refine gX8_44 C (pc := 12) dX8_possible_12 ?_
    refine kX8_132 C (Nat.le_of_ble_eq_true rfl) (Nat.le_of_ble_eq_true rfl) (pc := 15) hm (Nat.le_of_ble_eq_true rfl) dX8_possible_15 (fun r11 S11 hm => ?_)
    refine kX8_136 C (Nat.le_of_ble_eq_true rfl) (Nat.le_of_ble_eq_true rfl) (i := 0) (by decide) (pc := 18) hm (Nat.le_of_ble_eq_true rfl) dX8_possible_18 (fun r12 S12 hm => ?_)
    refine v_iload_n C (pc := 21) 1 dX8_possible_21 rfl rfl ?_
    refine v_istore_n C (pc := 22) [(2, .int p1), (0, .ref (ad 0)), (1, .int p1)] dX8_possible_22 rfl (by decide) rfl ?_
    refine v_iconst C (pc := 23) 0 dX8_possible_23 rfl ?_
    refine v_istore_n C (pc := 24) [(3, .int 0), (2, .int p1), (0, .ref (ad 0)), (1, .int p1)] dX8_possible_24 rfl (by decide) rfl ?_
    exact v_sub [2, 1, 0] rfl (vX8_possible_25 C hr hQ (N := N) N _ _ _ hm)
  · refine v_bipush C (pc := 4) (-3) dX8_possible_4 rfl ?_
    exact v_iret C hr hQ (pc := 6) hm dX8_possible_6
theorem mX8_possible {l : Launch} {D : va_G} {ad : Nat → Nat} {cA : Nat → ClassId} (hD : ∀ S, va_D (xA ad) (xW ad cA S)) {N : Nat} {p1 : Int32} {S : St} {r : Int32 × St} (hm : fX8_possible N p1 S = some r) : Met l yX8_possible (wsm yX8_possible cX8_possible 5 (some .int)) rmX8_possible (va_Pc [.ref (ad 0), .int p1] (Pre D cA (xW ad cA) (xS ad) S)) (Qo D (xW ad cA) (xA ad) (some (.int r.1)) r.2) 0 0 (xA ad) := met_of [.ref (ad 0), .int p1] (by decide) (Nat.le_of_ble_eq_true rfl) hD (xS_mv ad) (xS_kp ad) (fun p e s m below meth c C hr => vX8_possible C hr rfl (N := N)  hm)
-- X8_undo
def rmX8_undo : Room := { frames := 0, cells := 0, slots := 0, locals := 0 }
def fX8_undo (N : Nat)  (S : St) : Option (Int32 × St) := if (S.1 28) = 0 then (some ((-7), S)) else (stp (sI S 28 ((S.1 28) - 1)) fun S2 => some ((S2.1 28), S2))
set_option maxRecDepth 20000 in
theorem vX8_undo {p : Program} {l : Launch} {e : Env} {s : State} {m : MethodId} {args : Array Value} {below : List Frame} {meth : Method} {c : Code} {Q : State → Prop} {D : va_G} {ad : Nat → Nat} {cA : Nat → ClassId} (C : Ok p s m args c D cA (xW ad cA) (xA ad) (xS ad) RX8 cX8_undo 1) (hr : Rt meth (some .int)) {r : Int32 × St} (hQ : Q = MQ below (Qo D (xW ad cA) (xA ad) (some (.int r.1)) r.2) args s 0 0 (xA ad)) {N : Nat}  {S : St} (hm : fX8_undo N  S = some r) : V p l e rmX8_undo s m args below meth c Q D (xW ad cA) (xA ad) 1 S 0 [(0, .ref (ad 0))] [] := by
  unfold fX8_undo at hm
  refine v_aload_n C (pc := 0) 0 dX8_undo_0 rfl rfl ?_
  refine gX8_44 C (pc := 1) dX8_undo_1 ?_
  refine gX8_91 C (pc := 4) dX8_undo_4 ?_
  refine v_if_ne C (pc := 7) hm 13 dX8_undo_7 rfl (fun hm => ?_) (fun hm => ?_)
  · refine v_aload_n C (pc := 13) 0 dX8_undo_13 rfl rfl ?_
    refine gX8_44 C (pc := 14) dX8_undo_14 ?_
    refine v_dup C (pc := 17) dX8_undo_17 rfl ?_
    refine gX8_91 C (pc := 18) dX8_undo_18 ?_
    refine v_iconst C (pc := 21) 1 dX8_undo_21 rfl ?_
    refine v_isub C (pc := 22) dX8_undo_22 ?_
    refine pX8_91 C (pc := 23) hm dX8_undo_23 (fun S2 hm => ?_)
    refine v_aload_n C (pc := 26) 0 dX8_undo_26 rfl rfl ?_
    refine gX8_44 C (pc := 27) dX8_undo_27 ?_
    refine gX8_91 C (pc := 30) dX8_undo_30 ?_
    exact v_iret C hr hQ (pc := 33) hm dX8_undo_33
  · refine v_bipush C (pc := 10) (-7) dX8_undo_10 rfl ?_
    exact v_iret C hr hQ (pc := 12) hm dX8_undo_12
theorem mX8_undo {l : Launch} {D : va_G} {ad : Nat → Nat} {cA : Nat → ClassId} (hD : ∀ S, va_D (xA ad) (xW ad cA S)) {N : Nat}  {S : St} {r : Int32 × St} (hm : fX8_undo N  S = some r) : Met l yX8_undo (wsm yX8_undo cX8_undo 1 (some .int)) rmX8_undo (va_Pc [.ref (ad 0)] (Pre D cA (xW ad cA) (xS ad) S)) (Qo D (xW ad cA) (xA ad) (some (.int r.1)) r.2) 0 0 (xA ad) := met_of [.ref (ad 0)] (by decide) (Nat.le_of_ble_eq_true rfl) hD (xS_mv ad) (xS_kp ad) (fun p e s m below meth c C hr => vX8_undo C hr rfl (N := N)  hm)
-- X8_redo
def rmX8_redo : Room := { frames := 0, cells := 0, slots := 0, locals := 0 }
def fX8_redo (N : Nat)  (S : St) : Option (Int32 × St) := if (S.1 28) = (S.1 29) then (some ((-7), S)) else (stp (sI S 28 ((S.1 28) + 1)) fun S2 => some ((S2.1 28), S2))
set_option maxRecDepth 20000 in
theorem vX8_redo {p : Program} {l : Launch} {e : Env} {s : State} {m : MethodId} {args : Array Value} {below : List Frame} {meth : Method} {c : Code} {Q : State → Prop} {D : va_G} {ad : Nat → Nat} {cA : Nat → ClassId} (C : Ok p s m args c D cA (xW ad cA) (xA ad) (xS ad) RX8 cX8_redo 1) (hr : Rt meth (some .int)) {r : Int32 × St} (hQ : Q = MQ below (Qo D (xW ad cA) (xA ad) (some (.int r.1)) r.2) args s 0 0 (xA ad)) {N : Nat}  {S : St} (hm : fX8_redo N  S = some r) : V p l e rmX8_redo s m args below meth c Q D (xW ad cA) (xA ad) 1 S 0 [(0, .ref (ad 0))] [] := by
  unfold fX8_redo at hm
  refine v_aload_n C (pc := 0) 0 dX8_redo_0 rfl rfl ?_
  refine gX8_44 C (pc := 1) dX8_redo_1 ?_
  refine gX8_91 C (pc := 4) dX8_redo_4 ?_
  refine v_aload_n C (pc := 7) 0 dX8_redo_7 rfl rfl ?_
  refine gX8_44 C (pc := 8) dX8_redo_8 ?_
  refine gX8_219 C (pc := 11) dX8_redo_11 ?_
  refine v_icmp_ne C (pc := 14) hm 20 dX8_redo_14 rfl (fun hm => ?_) (fun hm => ?_)
  · refine v_aload_n C (pc := 20) 0 dX8_redo_20 rfl rfl ?_
    refine gX8_44 C (pc := 21) dX8_redo_21 ?_
    refine v_dup C (pc := 24) dX8_redo_24 rfl ?_
    refine gX8_91 C (pc := 25) dX8_redo_25 ?_
    refine v_iconst C (pc := 28) 1 dX8_redo_28 rfl ?_
    refine v_iadd C (pc := 29) dX8_redo_29 ?_
    refine pX8_91 C (pc := 30) hm dX8_redo_30 (fun S2 hm => ?_)
    refine v_aload_n C (pc := 33) 0 dX8_redo_33 rfl rfl ?_
    refine gX8_44 C (pc := 34) dX8_redo_34 ?_
    refine gX8_91 C (pc := 37) dX8_redo_37 ?_
    exact v_iret C hr hQ (pc := 40) hm dX8_redo_40
  · refine v_bipush C (pc := 17) (-7) dX8_redo_17 rfl ?_
    exact v_iret C hr hQ (pc := 19) hm dX8_redo_19
theorem mX8_redo {l : Launch} {D : va_G} {ad : Nat → Nat} {cA : Nat → ClassId} (hD : ∀ S, va_D (xA ad) (xW ad cA S)) {N : Nat}  {S : St} {r : Int32 × St} (hm : fX8_redo N  S = some r) : Met l yX8_redo (wsm yX8_redo cX8_redo 1 (some .int)) rmX8_redo (va_Pc [.ref (ad 0)] (Pre D cA (xW ad cA) (xS ad) S)) (Qo D (xW ad cA) (xA ad) (some (.int r.1)) r.2) 0 0 (xA ad) := met_of [.ref (ad 0)] (by decide) (Nat.le_of_ble_eq_true rfl) hD (xS_mv ad) (xS_kp ad) (fun p e s m below meth c C hr => vX8_redo C hr rfl (N := N)  hm)
-- X8_moveAt
def rmX8_moveAt : Room := { frames := 0, cells := 0, slots := 0, locals := 0 }
def fX8_moveAt_32 (N : Nat)  (s0 : Int32) (S : St) : Option (Int32 × St) := some (s0, S)
set_option maxRecDepth 20000 in
theorem vX8_moveAt_32 {p : Program} {l : Launch} {e : Env} {s : State} {m : MethodId} {args : Array Value} {below : List Frame} {meth : Method} {c : Code} {Q : State → Prop} {D : va_G} {ad : Nat → Nat} {cA : Nat → ClassId} (C : Ok p s m args c D cA (xW ad cA) (xA ad) (xS ad) RX8 cX8_moveAt 2) (hr : Rt meth (some .int)) {r : Int32 × St} (hQ : Q = MQ below (Qo D (xW ad cA) (xA ad) (some (.int r.1)) r.2) args s 0 0 (xA ad)) {N : Nat}  {s0 : Int32}  {S : St} (hm : fX8_moveAt_32 N  s0 S = some r) : V p l e rmX8_moveAt s m args below meth c Q D (xW ad cA) (xA ad) 2 S 32 [] [.int s0] := by
  unfold fX8_moveAt_32 at hm
  exact v_iret C hr hQ (pc := 32) hm dX8_moveAt_32
def fX8_moveAt (N : Nat) (p1 : Int32) (S : St) : Option (Int32 × St) := if 0 ≤ p1 then (if (S.1 28) ≤ p1 then (fX8_moveAt_32 N (-7) S) else (ck p1 200 (fX8_moveAt_32 N (S.2.2.1 26 (Int32.toNatClampNeg p1)) S))) else (some ((-3), S))
set_option maxRecDepth 20000 in
theorem vX8_moveAt {p : Program} {l : Launch} {e : Env} {s : State} {m : MethodId} {args : Array Value} {below : List Frame} {meth : Method} {c : Code} {Q : State → Prop} {D : va_G} {ad : Nat → Nat} {cA : Nat → ClassId} (C : Ok p s m args c D cA (xW ad cA) (xA ad) (xS ad) RX8 cX8_moveAt 2) (hr : Rt meth (some .int)) {r : Int32 × St} (hQ : Q = MQ below (Qo D (xW ad cA) (xA ad) (some (.int r.1)) r.2) args s 0 0 (xA ad)) {N : Nat} {p1 : Int32} {S : St} (hm : fX8_moveAt N p1 S = some r) : V p l e rmX8_moveAt s m args below meth c Q D (xW ad cA) (xA ad) 2 S 0 [(0, .ref (ad 0)), (1, .int p1)] [] := by
  unfold fX8_moveAt at hm
  refine v_iload_n C (pc := 0) 1 dX8_moveAt_0 rfl rfl ?_
  refine v_if_ge C (pc := 1) hm 7 dX8_moveAt_1 rfl (fun hm => ?_) (fun hm => ?_)
  · refine v_iload_n C (pc := 7) 1 dX8_moveAt_7 rfl rfl ?_
    refine v_aload_n C (pc := 8) 0 dX8_moveAt_8 rfl rfl ?_
    refine gX8_44 C (pc := 9) dX8_moveAt_9 ?_
    refine gX8_91 C (pc := 12) dX8_moveAt_12 ?_
    refine v_icmp_ge C (pc := 15) hm 30 dX8_moveAt_15 rfl (fun hm => ?_) (fun hm => ?_)
    · refine v_bipush C (pc := 30) (-7) dX8_moveAt_30 rfl ?_
      exact v_sub [] rfl (vX8_moveAt_32 C hr hQ (N := N) hm)
    · refine v_aload_n C (pc := 18) 0 dX8_moveAt_18 rfl rfl ?_
      refine gX8_44 C (pc := 19) dX8_moveAt_19 ?_
      refine gX8_222 C (pc := 22) dX8_moveAt_22 ?_
      refine v_iload_n C (pc := 25) 1 dX8_moveAt_25 rfl rfl ?_
      refine ldX1_moves C (pc := 26) hm dX8_moveAt_26 (fun hm => ?_)
      refine v_goto C (pc := 27) 32 dX8_moveAt_27 rfl ?_
      exact v_sub [] rfl (vX8_moveAt_32 C hr hQ (N := N) hm)
  · refine v_bipush C (pc := 4) (-3) dX8_moveAt_4 rfl ?_
    exact v_iret C hr hQ (pc := 6) hm dX8_moveAt_6
theorem mX8_moveAt {l : Launch} {D : va_G} {ad : Nat → Nat} {cA : Nat → ClassId} (hD : ∀ S, va_D (xA ad) (xW ad cA S)) {N : Nat} {p1 : Int32} {S : St} {r : Int32 × St} (hm : fX8_moveAt N p1 S = some r) : Met l yX8_moveAt (wsm yX8_moveAt cX8_moveAt 2 (some .int)) rmX8_moveAt (va_Pc [.ref (ad 0), .int p1] (Pre D cA (xW ad cA) (xS ad) S)) (Qo D (xW ad cA) (xA ad) (some (.int r.1)) r.2) 0 0 (xA ad) := met_of [.ref (ad 0), .int p1] (by decide) (Nat.le_of_ble_eq_true rfl) hD (xS_mv ad) (xS_kp ad) (fun p e s m below meth c C hr => vX8_moveAt C hr rfl (N := N)  hm)
-- X8_effort
def rmX8_effort : Room := { frames := 0, cells := 0, slots := 0, locals := 0 }
def fX8_effort (N : Nat)  (S : St) : Option (Int32 × St) := ck (S.1 28) 201 (some ((S.2.2.1 27 (Int32.toNatClampNeg (S.1 28))), S))
set_option maxRecDepth 20000 in
theorem vX8_effort {p : Program} {l : Launch} {e : Env} {s : State} {m : MethodId} {args : Array Value} {below : List Frame} {meth : Method} {c : Code} {Q : State → Prop} {D : va_G} {ad : Nat → Nat} {cA : Nat → ClassId} (C : Ok p s m args c D cA (xW ad cA) (xA ad) (xS ad) RX8 cX8_effort 1) (hr : Rt meth (some .int)) {r : Int32 × St} (hQ : Q = MQ below (Qo D (xW ad cA) (xA ad) (some (.int r.1)) r.2) args s 0 0 (xA ad)) {N : Nat}  {S : St} (hm : fX8_effort N  S = some r) : V p l e rmX8_effort s m args below meth c Q D (xW ad cA) (xA ad) 1 S 0 [(0, .ref (ad 0))] [] := by
  unfold fX8_effort at hm
  refine v_aload_n C (pc := 0) 0 dX8_effort_0 rfl rfl ?_
  refine gX8_44 C (pc := 1) dX8_effort_1 ?_
  refine gX8_225 C (pc := 4) dX8_effort_4 ?_
  refine v_aload_n C (pc := 7) 0 dX8_effort_7 rfl rfl ?_
  refine gX8_44 C (pc := 8) dX8_effort_8 ?_
  refine gX8_91 C (pc := 11) dX8_effort_11 ?_
  refine ldX1_efforts C (pc := 14) hm dX8_effort_14 (fun hm => ?_)
  exact v_iret C hr hQ (pc := 15) hm dX8_effort_15
theorem mX8_effort {l : Launch} {D : va_G} {ad : Nat → Nat} {cA : Nat → ClassId} (hD : ∀ S, va_D (xA ad) (xW ad cA S)) {N : Nat}  {S : St} {r : Int32 × St} (hm : fX8_effort N  S = some r) : Met l yX8_effort (wsm yX8_effort cX8_effort 1 (some .int)) rmX8_effort (va_Pc [.ref (ad 0)] (Pre D cA (xW ad cA) (xS ad) S)) (Qo D (xW ad cA) (xA ad) (some (.int r.1)) r.2) 0 0 (xA ad) := met_of [.ref (ad 0)] (by decide) (Nat.le_of_ble_eq_true rfl) hD (xS_mv ad) (xS_kp ad) (fun p e s m below meth c C hr => vX8_effort C hr rfl (N := N)  hm)
-- X8_isSlot
def rmX8_isSlot : Room := { frames := 0, cells := 0, slots := 0, locals := 0 }
def fX8_isSlot_14 (N : Nat)  (s0 : Bool) (S : St) : Option (Bool × St) := some (s0, S)
set_option maxRecDepth 20000 in
theorem vX8_isSlot_14 {p : Program} {l : Launch} {e : Env} {s : State} {m : MethodId} {args : Array Value} {below : List Frame} {meth : Method} {c : Code} {Q : State → Prop} {D : va_G} {ad : Nat → Nat} {cA : Nat → ClassId} (C : Ok p s m args c D cA (xW ad cA) (xA ad) (xS ad) RX8 cX8_isSlot 1) (hr : Rt meth (some .boolean)) {r : Bool × St} (hQ : Q = MQ below (Qo D (xW ad cA) (xA ad) (some (.int (b2i r.1))) r.2) args s 0 0 (xA ad)) {N : Nat}  {s0 : Bool}  {S : St} (hm : fX8_isSlot_14 N  s0 S = some r) : V p l e rmX8_isSlot s m args below meth c Q D (xW ad cA) (xA ad) 1 S 14 [] [.int (b2i s0)] := by
  unfold fX8_isSlot_14 at hm
  exact v_zret C hr hQ (x := s0) (pc := 14) hm dX8_isSlot_14
def fX8_isSlot_13 (N : Nat)   (S : St) : Option (Bool × St) := fX8_isSlot_14 N false S
set_option maxRecDepth 20000 in
theorem vX8_isSlot_13 {p : Program} {l : Launch} {e : Env} {s : State} {m : MethodId} {args : Array Value} {below : List Frame} {meth : Method} {c : Code} {Q : State → Prop} {D : va_G} {ad : Nat → Nat} {cA : Nat → ClassId} (C : Ok p s m args c D cA (xW ad cA) (xA ad) (xS ad) RX8 cX8_isSlot 1) (hr : Rt meth (some .boolean)) {r : Bool × St} (hQ : Q = MQ below (Qo D (xW ad cA) (xA ad) (some (.int (b2i r.1))) r.2) args s 0 0 (xA ad)) {N : Nat}    {S : St} (hm : fX8_isSlot_13 N   S = some r) : V p l e rmX8_isSlot s m args below meth c Q D (xW ad cA) (xA ad) 1 S 13 [] [] := by
  unfold fX8_isSlot_13 at hm
  refine v_iconst C (pc := 13) 0 dX8_isSlot_13 rfl ?_
  exact (vX8_isSlot_14 C hr hQ (N := N) hm)
def fX8_isSlot (N : Nat) (p1 : Int32) (S : St) : Option (Bool × St) := if p1 < 0 then (fX8_isSlot_13 N S) else (if 4 ≤ p1 then (fX8_isSlot_13 N S) else (fX8_isSlot_14 N true S))
set_option maxRecDepth 20000 in
theorem vX8_isSlot {p : Program} {l : Launch} {e : Env} {s : State} {m : MethodId} {args : Array Value} {below : List Frame} {meth : Method} {c : Code} {Q : State → Prop} {D : va_G} {ad : Nat → Nat} {cA : Nat → ClassId} (C : Ok p s m args c D cA (xW ad cA) (xA ad) (xS ad) RX8 cX8_isSlot 1) (hr : Rt meth (some .boolean)) {r : Bool × St} (hQ : Q = MQ below (Qo D (xW ad cA) (xA ad) (some (.int (b2i r.1))) r.2) args s 0 0 (xA ad)) {N : Nat} {p1 : Int32} {S : St} (hm : fX8_isSlot N p1 S = some r) : V p l e rmX8_isSlot s m args below meth c Q D (xW ad cA) (xA ad) 1 S 0 [(0, .int p1)] [] := by
  unfold fX8_isSlot at hm
  refine v_iload_n C (pc := 0) 0 dX8_isSlot_0 rfl rfl ?_
  refine v_if_lt C (pc := 1) hm 13 dX8_isSlot_1 rfl (fun hm => ?_) (fun hm => ?_)
  · exact v_sub [] rfl (vX8_isSlot_13 C hr hQ (N := N) hm)
  · refine v_iload_n C (pc := 4) 0 dX8_isSlot_4 rfl rfl ?_
    refine v_iconst C (pc := 5) 4 dX8_isSlot_5 rfl ?_
    refine v_icmp_ge C (pc := 6) hm 13 dX8_isSlot_6 rfl (fun hm => ?_) (fun hm => ?_)
    · exact v_sub [] rfl (vX8_isSlot_13 C hr hQ (N := N) hm)
    · refine v_iconst C (pc := 9) 1 dX8_isSlot_9 rfl ?_
      refine v_goto C (pc := 10) 14 dX8_isSlot_10 rfl ?_
      exact v_sub [] rfl (vX8_isSlot_14 C hr hQ (N := N) hm)
theorem mX8_isSlot {l : Launch} {D : va_G} {ad : Nat → Nat} {cA : Nat → ClassId} (hD : ∀ S, va_D (xA ad) (xW ad cA S)) {N : Nat} {p1 : Int32} {S : St} {r : Bool × St} (hm : fX8_isSlot N p1 S = some r) : Met l yX8_isSlot (wsm yX8_isSlot cX8_isSlot 1 (some .boolean)) rmX8_isSlot (va_Pc [.int p1] (Pre D cA (xW ad cA) (xS ad) S)) (Qo D (xW ad cA) (xA ad) (some (.int (b2i r.1))) r.2) 0 0 (xA ad) := met_of [.int p1] (by decide) (Nat.le_of_ble_eq_true rfl) hD (xS_mv ad) (xS_kp ad) (fun p e s m below meth c C hr => vX8_isSlot C hr rfl (N := N)  hm)
-- X8_isEmptySlot
def rmX8_isEmptySlot : Room := { frames := 0, cells := 0, slots := 0, locals := 0 }
def fX8_isEmptySlot_16 (N : Nat)  (s0 : Bool) (S : St) : Option (Bool × St) := some (s0, S)
set_option maxRecDepth 20000 in
theorem vX8_isEmptySlot_16 {p : Program} {l : Launch} {e : Env} {s : State} {m : MethodId} {args : Array Value} {below : List Frame} {meth : Method} {c : Code} {Q : State → Prop} {D : va_G} {ad : Nat → Nat} {cA : Nat → ClassId} (C : Ok p s m args c D cA (xW ad cA) (xA ad) (xS ad) RX8 cX8_isEmptySlot 2) (hr : Rt meth (some .boolean)) {r : Bool × St} (hQ : Q = MQ below (Qo D (xW ad cA) (xA ad) (some (.int (b2i r.1))) r.2) args s 0 0 (xA ad)) {N : Nat}  {s0 : Bool}  {S : St} (hm : fX8_isEmptySlot_16 N  s0 S = some r) : V p l e rmX8_isEmptySlot s m args below meth c Q D (xW ad cA) (xA ad) 2 S 16 [] [.int (b2i s0)] := by
  unfold fX8_isEmptySlot_16 at hm
  exact v_zret C hr hQ (x := s0) (pc := 16) hm dX8_isEmptySlot_16
def fX8_isEmptySlot (N : Nat) (p1 : Int32) (S : St) : Option (Bool × St) := if (((S.1 0) >>> (p1 &&& 31)) &&& 1) = 0 then (fX8_isEmptySlot_16 N true S) else (fX8_isEmptySlot_16 N false S)
set_option maxRecDepth 20000 in
theorem vX8_isEmptySlot {p : Program} {l : Launch} {e : Env} {s : State} {m : MethodId} {args : Array Value} {below : List Frame} {meth : Method} {c : Code} {Q : State → Prop} {D : va_G} {ad : Nat → Nat} {cA : Nat → ClassId} (C : Ok p s m args c D cA (xW ad cA) (xA ad) (xS ad) RX8 cX8_isEmptySlot 2) (hr : Rt meth (some .boolean)) {r : Bool × St} (hQ : Q = MQ below (Qo D (xW ad cA) (xA ad) (some (.int (b2i r.1))) r.2) args s 0 0 (xA ad)) {N : Nat} {p1 : Int32} {S : St} (hm : fX8_isEmptySlot N p1 S = some r) : V p l e rmX8_isEmptySlot s m args below meth c Q D (xW ad cA) (xA ad) 2 S 0 [(0, .ref (ad 0)), (1, .int p1)] [] := by
  unfold fX8_isEmptySlot at hm
  refine v_aload_n C (pc := 0) 0 dX8_isEmptySlot_0 rfl rfl ?_
  refine gX8_59 C (pc := 1) dX8_isEmptySlot_1 ?_
  refine v_iload_n C (pc := 4) 1 dX8_isEmptySlot_4 rfl rfl ?_
  refine v_ishr C (pc := 5) dX8_isEmptySlot_5 ?_
  refine v_iconst C (pc := 6) 1 dX8_isEmptySlot_6 rfl ?_
  refine v_iand C (pc := 7) dX8_isEmptySlot_7 ?_
  refine v_if_ne C (pc := 8) hm 15 dX8_isEmptySlot_8 rfl (fun hm => ?_) (fun hm => ?_)
  · refine v_iconst C (pc := 15) 0 dX8_isEmptySlot_15 rfl ?_
    exact v_sub [] rfl (vX8_isEmptySlot_16 C hr hQ (N := N) hm)
  · refine v_iconst C (pc := 11) 1 dX8_isEmptySlot_11 rfl ?_
    refine v_goto C (pc := 12) 16 dX8_isEmptySlot_12 rfl ?_
    exact v_sub [] rfl (vX8_isEmptySlot_16 C hr hQ (N := N) hm)
theorem mX8_isEmptySlot {l : Launch} {D : va_G} {ad : Nat → Nat} {cA : Nat → ClassId} (hD : ∀ S, va_D (xA ad) (xW ad cA S)) {N : Nat} {p1 : Int32} {S : St} {r : Bool × St} (hm : fX8_isEmptySlot N p1 S = some r) : Met l yX8_isEmptySlot (wsm yX8_isEmptySlot cX8_isEmptySlot 2 (some .boolean)) rmX8_isEmptySlot (va_Pc [.ref (ad 0), .int p1] (Pre D cA (xW ad cA) (xS ad) S)) (Qo D (xW ad cA) (xA ad) (some (.int (b2i r.1))) r.2) 0 0 (xA ad) := met_of [.ref (ad 0), .int p1] (by decide) (Nat.le_of_ble_eq_true rfl) hD (xS_mv ad) (xS_kp ad) (fun p e s m below meth c C hr => vX8_isEmptySlot C hr rfl (N := N)  hm)
-- X8_save
theorem infX8_isSlot : InfS yX8_isSlot cX8_isSlot 1 (some .boolean) 1 := ⟨⟨gm (i := 55) (by decide +kernel) rfl, gm (i := 713) (by decide +kernel) rfl, by decide +kernel⟩, gm (i := 712) (by decide +kernel) rfl⟩
theorem kX8_228 {p : Program} {l : Launch} {e : Env} {R : Room} {s : State} {m : MethodId} {args : Array Value} {below : List Frame} {meth : Method} {c : Code} {Q : State → Prop} {D : va_G} {ad : Nat → Nat} {cA : Nat → ClassId} {cc : ByteArray} {nL : Nat} {S : St} {pc : Nat} {lv : List (Nat × Value)} {st : List Value} {ρ : Type} {res : ρ} (C : Ok p s m args c D cA (xW ad cA) (xA ad) (xS ad) RX8 cc nL) (hfr : rmX8_isSlot.frames + 1 ≤ R.frames) (hlo : 8 + (1 + 11) + rmX8_isSlot.locals ≤ R.locals) {N : Nat} {p1 : Int32} {E : Bool → St → Option ρ} (hm : bd (fX8_isSlot N p1 S) E = some res) (hcat : (st.map fun v => v.category).sum ≤ 8) (hd : decode cc pc = .ok (.invokestatic 228, 3)) (k : ∀ r S, E r S = some res → V p l e R s m args below meth c Q D (xW ad cA) (xA ad) nL S (pc + 3) lv (.int (b2i r) :: st)) : V p l e R s m args below meth c Q D (xW ad cA) (xA ad) nL S pc lv (.int p1 :: st) := by
  obtain ⟨r, S1, h1, h2⟩ := bd_some hm
  exact v_callS C (gm (i := 711) (by decide +kernel) rfl : Cond.methodLink RX8 228 yX8_isSlot ∈ gw_tbl) infX8_isSlot (rm2 := rmX8_isSlot) ⟨rfl, rfl⟩ hfr hlo (mX8_isSlot C.2.2.2.2.2.2.1 h1) (As := [.int p1]) rfl rfl hcat hd (k r S1 h2)
theorem infX8_isEmptySlot : InfV yX8_isEmptySlot cX8_isEmptySlot 2 (some .boolean) 1 := ⟨⟨gm (i := 55) (by decide +kernel) rfl, gm (i := 717) (by decide +kernel) rfl, by decide +kernel⟩, gm (i := 716) (by decide +kernel) rfl, gm (i := 11) (by decide +kernel) rfl⟩
theorem kX8_231 {p : Program} {l : Launch} {e : Env} {R : Room} {s : State} {m : MethodId} {args : Array Value} {below : List Frame} {meth : Method} {c : Code} {Q : State → Prop} {D : va_G} {ad : Nat → Nat} {cA : Nat → ClassId} {cc : ByteArray} {nL : Nat} {S : St} {pc : Nat} {lv : List (Nat × Value)} {st : List Value} {ρ : Type} {res : ρ} (C : Ok p s m args c D cA (xW ad cA) (xA ad) (xS ad) RX8 cc nL) (hfr : rmX8_isEmptySlot.frames + 1 ≤ R.frames) (hlo : 8 + (2 + 11) + rmX8_isEmptySlot.locals ≤ R.locals) {N : Nat} {p1 : Int32} {E : Bool → St → Option ρ} (hm : bd (fX8_isEmptySlot N p1 S) E = some res) (hcat : (st.map fun v => v.category).sum ≤ 8) (hd : decode cc pc = .ok (.invokevirtual 231, 3)) (k : ∀ r S, E r S = some res → V p l e R s m args below meth c Q D (xW ad cA) (xA ad) nL S (pc + 3) lv (.int (b2i r) :: st)) : V p l e R s m args below meth c Q D (xW ad cA) (xA ad) nL S pc lv (.int p1 :: .ref (ad 0) :: st) := by
  obtain ⟨r, S1, h1, h2⟩ := bd_some hm
  exact v_callV C (gm (i := 714) (by decide +kernel) rfl : Cond.methodLink RX8 231 yX8_isEmptySlot ∈ gw_tbl) infX8_isEmptySlot (rm2 := rmX8_isEmptySlot) ⟨rfl, rfl⟩ hfr hlo (mX8_isEmptySlot C.2.2.2.2.2.2.1 h1) (As := [.int p1]) (oX8 ad cA S) rfl rfl rfl rfl hcat hd (k r S1 h2)
def rmX8_save : Room := { frames := 1, cells := 0, slots := 0, locals := 21 }
def fX8_save_50 (N : Nat)  (s0 : Bool) (S : St) : Option (Int32 × St) := some ((b2i s0), S)
set_option maxRecDepth 20000 in
theorem vX8_save_50 {p : Program} {l : Launch} {e : Env} {s : State} {m : MethodId} {args : Array Value} {below : List Frame} {meth : Method} {c : Code} {Q : State → Prop} {D : va_G} {ad : Nat → Nat} {cA : Nat → ClassId} (C : Ok p s m args c D cA (xW ad cA) (xA ad) (xS ad) RX8 cX8_save 3) (hr : Rt meth (some .int)) {r : Int32 × St} (hQ : Q = MQ below (Qo D (xW ad cA) (xA ad) (some (.int r.1)) r.2) args s 0 0 (xA ad)) {N : Nat}  {s0 : Bool}  {S : St} (hm : fX8_save_50 N  s0 S = some r) : V p l e rmX8_save s m args below meth c Q D (xW ad cA) (xA ad) 3 S 50 [] [.int (b2i s0)] := by
  unfold fX8_save_50 at hm
  exact v_iret C hr hQ (pc := 50) hm dX8_save_50
def fX8_save (N : Nat) (p1 : Int32) (S : St) : Option (Int32 × St) := bd (fX8_isSlot N p1 S) fun r4 S6 => if (b2i r4) = 0 then (some ((-3), S6)) else (bd (fX8_isEmptySlot N p1 S6) fun r5 S7 => bd (fX1_present N  S7) fun r6 S8 => ck p1 4 (stp (sL S8 0 (Int32.toNatClampNeg p1) r6) fun S9 => stp (sI S9 0 ((S9.1 0) ||| (1 <<< (p1 &&& 31)))) fun S10 => if (b2i r5) = 0 then (fX8_save_50 N false S10) else (fX8_save_50 N true S10)))
set_option maxRecDepth 20000 in
theorem vX8_save {p : Program} {l : Launch} {e : Env} {s : State} {m : MethodId} {args : Array Value} {below : List Frame} {meth : Method} {c : Code} {Q : State → Prop} {D : va_G} {ad : Nat → Nat} {cA : Nat → ClassId} (C : Ok p s m args c D cA (xW ad cA) (xA ad) (xS ad) RX8 cX8_save 3) (hr : Rt meth (some .int)) {r : Int32 × St} (hQ : Q = MQ below (Qo D (xW ad cA) (xA ad) (some (.int r.1)) r.2) args s 0 0 (xA ad)) {N : Nat} {p1 : Int32} {S : St} (hm : fX8_save N p1 S = some r) : V p l e rmX8_save s m args below meth c Q D (xW ad cA) (xA ad) 3 S 0 [(0, .ref (ad 0)), (1, .int p1)] [] := by
  unfold fX8_save at hm
  refine v_iload_n C (pc := 0) 1 dX8_save_0 rfl rfl ?_
  refine kX8_228 C (Nat.le_of_ble_eq_true rfl) (Nat.le_of_ble_eq_true rfl) (pc := 1) hm (Nat.le_of_ble_eq_true rfl) dX8_save_1 (fun r4 S6 hm => ?_)
  refine v_if_ne C (pc := 4) hm 10 dX8_save_4 rfl (fun hm => ?_) (fun hm => ?_)
  · refine v_aload_n C (pc := 10) 0 dX8_save_10 rfl rfl ?_
    refine v_iload_n C (pc := 11) 1 dX8_save_11 rfl rfl ?_
    refine kX8_231 C (Nat.le_of_ble_eq_true rfl) (Nat.le_of_ble_eq_true rfl) (pc := 12) hm (Nat.le_of_ble_eq_true rfl) dX8_save_12 (fun r5 S7 hm => ?_)
    refine v_istore_n C (pc := 15) [(2, .int (b2i r5)), (0, .ref (ad 0)), (1, .int p1)] dX8_save_15 rfl (by decide) rfl ?_
    refine v_aload_n C (pc := 16) 1 dX8_save_16 rfl rfl ?_
    refine gX8_55 C (pc := 17) dX8_save_17 ?_
    refine v_iload_n C (pc := 20) 2 dX8_save_20 rfl rfl ?_
    refine v_aload_n C (pc := 21) 1 dX8_save_21 rfl rfl ?_
    refine gX8_44 C (pc := 22) dX8_save_22 ?_
    refine kX8_132 C (Nat.le_of_ble_eq_true rfl) (Nat.le_of_ble_eq_true rfl) (pc := 25) hm (Nat.le_of_ble_eq_true rfl) dX8_save_25 (fun r6 S8 hm => ?_)
    refine stX8_saved C (pc := 28) hm dX8_save_28 (fun S9 hm => ?_)
    refine v_aload_n C (pc := 29) 1 dX8_save_29 rfl rfl ?_
    refine v_dup C (pc := 30) dX8_save_30 rfl ?_
    refine gX8_59 C (pc := 31) dX8_save_31 ?_
    refine v_iconst C (pc := 34) 1 dX8_save_34 rfl ?_
    refine v_iload_n C (pc := 35) 2 dX8_save_35 rfl rfl ?_
    refine v_ishl C (pc := 36) dX8_save_36 ?_
    refine v_ior C (pc := 37) dX8_save_37 ?_
    refine pX8_59 C (pc := 38) hm dX8_save_38 (fun S10 hm => ?_)
    refine v_iload_n C (pc := 41) 0 dX8_save_41 rfl rfl ?_
    refine v_if_eq C (pc := 42) hm 49 dX8_save_42 rfl (fun hm => ?_) (fun hm => ?_)
    · refine v_iconst C (pc := 49) 0 dX8_save_49 rfl ?_
      exact v_sub [] rfl (vX8_save_50 C hr hQ (N := N) hm)
    · refine v_iconst C (pc := 45) 1 dX8_save_45 rfl ?_
      refine v_goto C (pc := 46) 50 dX8_save_46 rfl ?_
      exact v_sub [] rfl (vX8_save_50 C hr hQ (N := N) hm)
  · refine v_bipush C (pc := 7) (-3) dX8_save_7 rfl ?_
    exact v_iret C hr hQ (pc := 9) hm dX8_save_9
theorem mX8_save {l : Launch} {D : va_G} {ad : Nat → Nat} {cA : Nat → ClassId} (hD : ∀ S, va_D (xA ad) (xW ad cA S)) {N : Nat} {p1 : Int32} {S : St} {r : Int32 × St} (hm : fX8_save N p1 S = some r) : Met l yX8_save (wsm yX8_save cX8_save 3 (some .int)) rmX8_save (va_Pc [.ref (ad 0), .int p1] (Pre D cA (xW ad cA) (xS ad) S)) (Qo D (xW ad cA) (xA ad) (some (.int r.1)) r.2) 0 0 (xA ad) := met_of [.ref (ad 0), .int p1] (by decide) (Nat.le_of_ble_eq_true rfl) hD (xS_mv ad) (xS_kp ad) (fun p e s m below meth c C hr => vX8_save C hr rfl (N := N)  hm)
-- X8_restore
def rmX8_restore : Room := { frames := 1, cells := 0, slots := 0, locals := 22 }
def fX8_restore_77 (N : Nat) (k48 : Int32 → Int64 → Int32 → Int32 → St → Option (Int32 × St)) (x1 : Int32) (x2 : Int64) (x4 : Int32) (x5 : Int32) (S : St) : Option (Int32 × St) := k48 x1 x2 x4 (x5 + 1) S
set_option maxRecDepth 20000 in
theorem vX8_restore_77 {p : Program} {l : Launch} {e : Env} {s : State} {m : MethodId} {args : Array Value} {below : List Frame} {meth : Method} {c : Code} {Q : State → Prop} {D : va_G} {ad : Nat → Nat} {cA : Nat → ClassId} (C : Ok p s m args c D cA (xW ad cA) (xA ad) (xS ad) RX8 cX8_restore 6) (hr : Rt meth (some .int)) {r : Int32 × St} (hQ : Q = MQ below (Qo D (xW ad cA) (xA ad) (some (.int r.1)) r.2) args s 0 0 (xA ad)) {N : Nat} {k48 : Int32 → Int64 → Int32 → Int32 → St → Option (Int32 × St)} (hk48 : ∀ (x1 : Int32) (x2 : Int64) (x4 : Int32) (x5 : Int32) (S : St), k48 x1 x2 x4 x5 S = some r → V p l e rmX8_restore s m args below meth c Q D (xW ad cA) (xA ad) 6 S 48 [(0, .ref (ad 0)), (1, .int x1), (2, .long x2), (4, .int x4), (5, .int x5)] []) {x1 : Int32} {x2 : Int64} {x4 : Int32} {x5 : Int32}  {S : St} (hm : fX8_restore_77 N k48 x1 x2 x4 x5 S = some r) : V p l e rmX8_restore s m args below meth c Q D (xW ad cA) (xA ad) 6 S 77 [(0, .ref (ad 0)), (1, .int x1), (2, .long x2), (4, .int x4), (5, .int x5)] [] := by
  unfold fX8_restore_77 at hm
  refine v_iinc C (pc := 77) 1 4 [(5, .int (x5 + 1)), (0, .ref (ad 0)), (1, .int x1), (2, .long x2), (4, .int x4)] dX8_restore_77 rfl rfl (by decide) rfl ?_
  refine v_goto C (pc := 80) 48 dX8_restore_80 rfl ?_
  exact v_sub [1, 2, 3, 4, 0] rfl (hk48 _ _ _ _ _ hm)
def fX8_restore_48b (N : Nat)  (k48 : Int32 → Int64 → Int32 → Int32 → St → Option (Int32 × St)) (x1 : Int32) (x2 : Int64) (x4 : Int32) (x5 : Int32) (S : St) : Option (Int32 × St) := if 5 ≤ x5 then (some (x4, S)) else (bd (fX8_placementIn N x2 x5 S) fun r9 S9 => ck x1 4 (bd (fX8_placementIn N (S9.2.2.2 0 (Int32.toNatClampNeg x1)) x5 S9) fun r10 S10 => if r9 = r10 then (fX8_restore_77 N k48 x1 x2 x4 x5 S10) else (fX8_restore_77 N k48 x1 x2 (x4 + 1) x5 S10)))
def fX8_restore_48 (N : Nat)  : Nat → Int32 → Int64 → Int32 → Int32 → St → Option (Int32 × St)
  | 0 => fun _ _ _ _ _ => none
  | n + 1 => fun x1 x2 x4 x5 S => fX8_restore_48b N  (fX8_restore_48 N  n) x1 x2 x4 x5 S
set_option maxRecDepth 20000 in
theorem vX8_restore_48b {p : Program} {l : Launch} {e : Env} {s : State} {m : MethodId} {args : Array Value} {below : List Frame} {meth : Method} {c : Code} {Q : State → Prop} {D : va_G} {ad : Nat → Nat} {cA : Nat → ClassId} (C : Ok p s m args c D cA (xW ad cA) (xA ad) (xS ad) RX8 cX8_restore 6) (hr : Rt meth (some .int)) {r : Int32 × St} (hQ : Q = MQ below (Qo D (xW ad cA) (xA ad) (some (.int r.1)) r.2) args s 0 0 (xA ad)) {N : Nat}  {k48 : Int32 → Int64 → Int32 → Int32 → St → Option (Int32 × St)} (hk48 : ∀ (x1 : Int32) (x2 : Int64) (x4 : Int32) (x5 : Int32) (S : St), k48 x1 x2 x4 x5 S = some r → V p l e rmX8_restore s m args below meth c Q D (xW ad cA) (xA ad) 6 S 48 [(0, .ref (ad 0)), (1, .int x1), (2, .long x2), (4, .int x4), (5, .int x5)] []) {x1 : Int32} {x2 : Int64} {x4 : Int32} {x5 : Int32}  {S : St} (hm : fX8_restore_48b N  k48 x1 x2 x4 x5 S = some r) : V p l e rmX8_restore s m args below meth c Q D (xW ad cA) (xA ad) 6 S 48 [(0, .ref (ad 0)), (1, .int x1), (2, .long x2), (4, .int x4), (5, .int x5)] [] := by
  unfold fX8_restore_48b at hm
  refine v_iload C (pc := 48) 4 dX8_restore_48 rfl ?_
  refine v_iconst C (pc := 50) 5 dX8_restore_50 rfl ?_
  refine v_icmp_ge C (pc := 51) hm 83 dX8_restore_51 rfl (fun hm => ?_) (fun hm => ?_)
  · refine v_iload C (pc := 83) 3 dX8_restore_83 rfl ?_
    exact v_iret C hr hQ (pc := 85) hm dX8_restore_85
  · refine v_lload_n C (pc := 54) 2 dX8_restore_54 rfl rfl ?_
    refine v_iload C (pc := 55) 4 dX8_restore_55 rfl ?_
    refine kX8_160 C (Nat.le_of_ble_eq_true rfl) (Nat.le_of_ble_eq_true rfl) (pc := 57) hm (Nat.le_of_ble_eq_true rfl) dX8_restore_57 (fun r9 S9 hm => ?_)
    refine v_aload_n C (pc := 60) 0 dX8_restore_60 rfl rfl ?_
    refine gX8_55 C (pc := 61) dX8_restore_61 ?_
    refine v_iload_n C (pc := 64) 1 dX8_restore_64 rfl rfl ?_
    refine ldX8_saved C (pc := 65) hm dX8_restore_65 (fun hm => ?_)
    refine v_iload C (pc := 66) 4 dX8_restore_66 rfl ?_
    refine kX8_160 C (Nat.le_of_ble_eq_true rfl) (Nat.le_of_ble_eq_true rfl) (pc := 68) hm (Nat.le_of_ble_eq_true rfl) dX8_restore_68 (fun r10 S10 hm => ?_)
    refine v_icmp_eq C (pc := 71) hm 77 dX8_restore_71 rfl (fun hm => ?_) (fun hm => ?_)
    · exact (vX8_restore_77 C hr hQ (N := N) hk48 hm)
    · refine v_iinc C (pc := 74) 1 3 [(4, .int (x4 + 1)), (0, .ref (ad 0)), (1, .int x1), (2, .long x2), (5, .int x5)] dX8_restore_74 rfl rfl (by decide) rfl ?_
      exact v_sub [1, 2, 3, 0, 4] rfl (vX8_restore_77 C hr hQ (N := N) hk48 hm)
theorem vX8_restore_48 {p : Program} {l : Launch} {e : Env} {s : State} {m : MethodId} {args : Array Value} {below : List Frame} {meth : Method} {c : Code} {Q : State → Prop} {D : va_G} {ad : Nat → Nat} {cA : Nat → ClassId} (C : Ok p s m args c D cA (xW ad cA) (xA ad) (xS ad) RX8 cX8_restore 6) (hr : Rt meth (some .int)) {r : Int32 × St} (hQ : Q = MQ below (Qo D (xW ad cA) (xA ad) (some (.int r.1)) r.2) args s 0 0 (xA ad)) {N : Nat}  (n : Nat) : ∀ (x1 : Int32) (x2 : Int64) (x4 : Int32) (x5 : Int32) (S : St), fX8_restore_48 N  n x1 x2 x4 x5 S = some r → V p l e rmX8_restore s m args below meth c Q D (xW ad cA) (xA ad) 6 S 48 [(0, .ref (ad 0)), (1, .int x1), (2, .long x2), (4, .int x4), (5, .int x5)] [] := by
  induction n with
  | zero => intro _ _ _ _ _  hm; exact absurd hm (by intro h; cases h)
  | succ n ih => intro _ _ _ _ _  hm; exact vX8_restore_48b C hr hQ (N := N)   ih  hm
def fX8_restore (N : Nat) (p1 : Int32) (S : St) : Option (Int32 × St) := bd (fX8_isSlot N p1 S) fun r11 S11 => if (b2i r11) = 0 then (some ((-3), S11)) else (bd (fX8_isEmptySlot N p1 S11) fun r12 S12 => if (b2i r12) = 0 then (bd (fX1_present N  S12) fun r13 S13 => ck p1 4 (bd (fX1_begin N (S13.2.2.2 0 (Int32.toNatClampNeg p1)) S13) fun r14 S14 => fX8_restore_48 N N p1 r13 0 0 S14)) else (some ((-7), S12)))
set_option maxRecDepth 20000 in
theorem vX8_restore {p : Program} {l : Launch} {e : Env} {s : State} {m : MethodId} {args : Array Value} {below : List Frame} {meth : Method} {c : Code} {Q : State → Prop} {D : va_G} {ad : Nat → Nat} {cA : Nat → ClassId} (C : Ok p s m args c D cA (xW ad cA) (xA ad) (xS ad) RX8 cX8_restore 6) (hr : Rt meth (some .int)) {r : Int32 × St} (hQ : Q = MQ below (Qo D (xW ad cA) (xA ad) (some (.int r.1)) r.2) args s 0 0 (xA ad)) {N : Nat} {p1 : Int32} {S : St} (hm : fX8_restore N p1 S = some r) : V p l e rmX8_restore s m args below meth c Q D (xW ad cA) (xA ad) 6 S 0 [(0, .ref (ad 0)), (1, .int p1)] [] := by
  unfold fX8_restore at hm
  refine v_iload_n C (pc := 0) 1 dX8_restore_0 rfl rfl ?_
  refine kX8_228 C (Nat.le_of_ble_eq_true rfl) (Nat.le_of_ble_eq_true rfl) (pc := 1) hm (Nat.le_of_ble_eq_true rfl) dX8_restore_1 (fun r11 S11 hm => ?_)
  refine v_if_ne C (pc := 4) hm 10 dX8_restore_4 rfl (fun hm => ?_) (fun hm => ?_)
  · refine v_aload_n C (pc := 10) 0 dX8_restore_10 rfl rfl ?_
    refine v_iload_n C (pc := 11) 1 dX8_restore_11 rfl rfl ?_
    refine kX8_231 C (Nat.le_of_ble_eq_true rfl) (Nat.le_of_ble_eq_true rfl) (pc := 12) hm (Nat.le_of_ble_eq_true rfl) dX8_restore_12 (fun r12 S12 hm => ?_)
    refine v_if_eq C (pc := 15) hm 21 dX8_restore_15 rfl (fun hm => ?_) (fun hm => ?_)
    · refine v_aload_n C (pc := 21) 0 dX8_restore_21 rfl rfl ?_
      refine gX8_44 C (pc := 22) dX8_restore_22 ?_
      refine kX8_132 C (Nat.le_of_ble_eq_true rfl) (Nat.le_of_ble_eq_true rfl) (pc := 25) hm (Nat.le_of_ble_eq_true rfl) dX8_restore_25 (fun r13 S13 hm => ?_)
      refine v_lstore_n C (pc := 28) [(2, .long r13), (0, .ref (ad 0)), (1, .int p1)] dX8_restore_28 rfl (by decide) rfl ?_
      refine v_aload_n C (pc := 29) 1 dX8_restore_29 rfl rfl ?_
      refine gX8_44 C (pc := 30) dX8_restore_30 ?_
      refine v_aload_n C (pc := 33) 1 dX8_restore_33 rfl rfl ?_
      refine gX8_55 C (pc := 34) dX8_restore_34 ?_
      refine v_iload_n C (pc := 37) 2 dX8_restore_37 rfl rfl ?_
      refine ldX8_saved C (pc := 38) hm dX8_restore_38 (fun hm => ?_)
      refine kX8_78 C (Nat.le_of_ble_eq_true rfl) (Nat.le_of_ble_eq_true rfl) (pc := 39) hm (Nat.le_of_ble_eq_true rfl) dX8_restore_39 (fun r14 S14 hm => ?_)
      refine v_iconst C (pc := 42) 0 dX8_restore_42 rfl ?_
      refine v_istore C (pc := 43) [(4, .int 0), (2, .long r13), (0, .ref (ad 0)), (1, .int p1)] dX8_restore_43 (by decide) rfl ?_
      refine v_iconst C (pc := 45) 0 dX8_restore_45 rfl ?_
      refine v_istore C (pc := 46) [(5, .int 0), (4, .int 0), (2, .long r13), (0, .ref (ad 0)), (1, .int p1)] dX8_restore_46 (by decide) rfl ?_
      exact v_sub [3, 4, 2, 1, 0] rfl (vX8_restore_48 C hr hQ (N := N) N _ _ _ _ _ hm)
    · refine v_bipush C (pc := 18) (-7) dX8_restore_18 rfl ?_
      exact v_iret C hr hQ (pc := 20) hm dX8_restore_20
  · refine v_bipush C (pc := 7) (-3) dX8_restore_7 rfl ?_
    exact v_iret C hr hQ (pc := 9) hm dX8_restore_9
theorem mX8_restore {l : Launch} {D : va_G} {ad : Nat → Nat} {cA : Nat → ClassId} (hD : ∀ S, va_D (xA ad) (xW ad cA S)) {N : Nat} {p1 : Int32} {S : St} {r : Int32 × St} (hm : fX8_restore N p1 S = some r) : Met l yX8_restore (wsm yX8_restore cX8_restore 6 (some .int)) rmX8_restore (va_Pc [.ref (ad 0), .int p1] (Pre D cA (xW ad cA) (xS ad) S)) (Qo D (xW ad cA) (xA ad) (some (.int r.1)) r.2) 0 0 (xA ad) := met_of [.ref (ad 0), .int p1] (by decide) (Nat.le_of_ble_eq_true rfl) hD (xS_mv ad) (xS_kp ad) (fun p e s m below meth c C hr => vX8_restore C hr rfl (N := N)  hm)
-- X8_isSolved
theorem kX8_234 {p : Program} {l : Launch} {e : Env} {R : Room} {s : State} {m : MethodId} {args : Array Value} {below : List Frame} {meth : Method} {c : Code} {Q : State → Prop} {D : va_G} {ad : Nat → Nat} {cA : Nat → ClassId} {cc : ByteArray} {nL : Nat} {S : St} {pc : Nat} {lv : List (Nat × Value)} {st : List Value} {ρ : Type} {res : ρ} (C : Ok p s m args c D cA (xW ad cA) (xA ad) (xS ad) RX8 cc nL) (hfr : rmX2_boundOf.frames + 1 ≤ R.frames) (hlo : 8 + (6 + 11) + rmX2_boundOf.locals ≤ R.locals) {N : Nat} {p1 : Int64} {E : Int32 → St → Option ρ} (hm : bd (fX2_boundOf N p1 S) E = some res) (hcat : (st.map fun v => v.category).sum ≤ 8) (hd : decode cc pc = .ok (.invokevirtual 234, 3)) (k : ∀ r S, E r S = some res → V p l e R s m args below meth c Q D (xW ad cA) (xA ad) nL S (pc + 3) lv (.int r :: st)) : V p l e R s m args below meth c Q D (xW ad cA) (xA ad) nL S pc lv (.long p1 :: .ref (ad 2) :: st) := by
  obtain ⟨r, S1, h1, h2⟩ := bd_some hm
  exact v_callV C (gm (i := 726) (by decide +kernel) rfl : Cond.methodLink RX8 234 yX2_boundOf ∈ gw_tbl) infX2_boundOf (rm2 := rmX2_boundOf) ⟨rfl, rfl⟩ hfr hlo (mX2_boundOf C.2.2.2.2.2.2.1 h1) (As := [.long p1]) (oX2 ad cA S) rfl rfl rfl rfl hcat hd (k r S1 h2)
def rmX8_isSolved : Room := { frames := 2, cells := 0, slots := 0, locals := 47 }
def fX8_isSolved_22 (N : Nat)  (s0 : Bool) (S : St) : Option (Int32 × St) := some ((b2i s0), S)
set_option maxRecDepth 20000 in
theorem vX8_isSolved_22 {p : Program} {l : Launch} {e : Env} {s : State} {m : MethodId} {args : Array Value} {below : List Frame} {meth : Method} {c : Code} {Q : State → Prop} {D : va_G} {ad : Nat → Nat} {cA : Nat → ClassId} (C : Ok p s m args c D cA (xW ad cA) (xA ad) (xS ad) RX8 cX8_isSolved 1) (hr : Rt meth (some .int)) {r : Int32 × St} (hQ : Q = MQ below (Qo D (xW ad cA) (xA ad) (some (.int r.1)) r.2) args s 0 0 (xA ad)) {N : Nat}  {s0 : Bool}  {S : St} (hm : fX8_isSolved_22 N  s0 S = some r) : V p l e rmX8_isSolved s m args below meth c Q D (xW ad cA) (xA ad) 1 S 22 [] [.int (b2i s0)] := by
  unfold fX8_isSolved_22 at hm
  exact v_iret C hr hQ (pc := 22) hm dX8_isSolved_22
def fX8_isSolved (N : Nat)  (S : St) : Option (Int32 × St) := bd (fX1_present N  S) fun r3 S3 => bd (fX2_boundOf N r3 S3) fun r4 S4 => if r4 = 0 then (fX8_isSolved_22 N true S4) else (fX8_isSolved_22 N false S4)
set_option maxRecDepth 20000 in
theorem vX8_isSolved {p : Program} {l : Launch} {e : Env} {s : State} {m : MethodId} {args : Array Value} {below : List Frame} {meth : Method} {c : Code} {Q : State → Prop} {D : va_G} {ad : Nat → Nat} {cA : Nat → ClassId} (C : Ok p s m args c D cA (xW ad cA) (xA ad) (xS ad) RX8 cX8_isSolved 1) (hr : Rt meth (some .int)) {r : Int32 × St} (hQ : Q = MQ below (Qo D (xW ad cA) (xA ad) (some (.int r.1)) r.2) args s 0 0 (xA ad)) {N : Nat}  {S : St} (hm : fX8_isSolved N  S = some r) : V p l e rmX8_isSolved s m args below meth c Q D (xW ad cA) (xA ad) 1 S 0 [(0, .ref (ad 0))] [] := by
  unfold fX8_isSolved at hm
  refine v_aload_n C (pc := 0) 0 dX8_isSolved_0 rfl rfl ?_
  refine gX8_19 C (pc := 1) dX8_isSolved_1 ?_
  refine v_aload_n C (pc := 4) 0 dX8_isSolved_4 rfl rfl ?_
  refine gX8_44 C (pc := 5) dX8_isSolved_5 ?_
  refine kX8_132 C (Nat.le_of_ble_eq_true rfl) (Nat.le_of_ble_eq_true rfl) (pc := 8) hm (Nat.le_of_ble_eq_true rfl) dX8_isSolved_8 (fun r3 S3 hm => ?_)
  refine kX8_234 C (Nat.le_of_ble_eq_true rfl) (Nat.le_of_ble_eq_true rfl) (pc := 11) hm (Nat.le_of_ble_eq_true rfl) dX8_isSolved_11 (fun r4 S4 hm => ?_)
  refine v_if_ne C (pc := 14) hm 21 dX8_isSolved_14 rfl (fun hm => ?_) (fun hm => ?_)
  · refine v_iconst C (pc := 21) 0 dX8_isSolved_21 rfl ?_
    exact v_sub [] rfl (vX8_isSolved_22 C hr hQ (N := N) hm)
  · refine v_iconst C (pc := 17) 1 dX8_isSolved_17 rfl ?_
    refine v_goto C (pc := 18) 22 dX8_isSolved_18 rfl ?_
    exact v_sub [] rfl (vX8_isSolved_22 C hr hQ (N := N) hm)
theorem mX8_isSolved {l : Launch} {D : va_G} {ad : Nat → Nat} {cA : Nat → ClassId} (hD : ∀ S, va_D (xA ad) (xW ad cA S)) {N : Nat}  {S : St} {r : Int32 × St} (hm : fX8_isSolved N  S = some r) : Met l yX8_isSolved (wsm yX8_isSolved cX8_isSolved 1 (some .int)) rmX8_isSolved (va_Pc [.ref (ad 0)] (Pre D cA (xW ad cA) (xS ad) S)) (Qo D (xW ad cA) (xA ad) (some (.int r.1)) r.2) 0 0 (xA ad) := met_of [.ref (ad 0)] (by decide) (Nat.le_of_ble_eq_true rfl) hD (xS_mv ad) (xS_kp ad) (fun p e s m below meth c C hr => vX8_isSolved C hr rfl (N := N)  hm)
-- X8_isDead
theorem kX8_238 {p : Program} {l : Launch} {e : Env} {R : Room} {s : State} {m : MethodId} {args : Array Value} {below : List Frame} {meth : Method} {c : Code} {Q : State → Prop} {D : va_G} {ad : Nat → Nat} {cA : Nat → ClassId} {cc : ByteArray} {nL : Nat} {S : St} {pc : Nat} {lv : List (Nat × Value)} {st : List Value} {ρ : Type} {res : ρ} (C : Ok p s m args c D cA (xW ad cA) (xA ad) (xS ad) RX8 cc nL) (hfr : rmX0_fits.frames + 1 ≤ R.frames) (hlo : 8 + (2 + 11) + rmX0_fits.locals ≤ R.locals) {i : Nat} (hi : i < 5) {N : Nat} {p1 : Int32} {E : Bool → St → Option ρ} (hm : bd (fX0_fits N i p1 S) E = some res) (hcat : (st.map fun v => v.category).sum ≤ 8) (hd : decode cc pc = .ok (.invokevirtual 238, 3)) (k : ∀ r S, E r S = some res → V p l e R s m args below meth c Q D (xW ad cA) (xA ad) nL S (pc + 3) lv (.int (b2i r) :: st)) : V p l e R s m args below meth c Q D (xW ad cA) (xA ad) nL S pc lv (.int p1 :: .ref (ad (4 + i)) :: st) := by
  obtain ⟨r, S1, h1, h2⟩ := bd_some hm
  exact v_callV C (gm (i := 736) (by decide +kernel) rfl : Cond.methodLink RX8 238 yX0_fits ∈ gw_tbl) infX0_fits (rm2 := rmX0_fits) ⟨rfl, rfl⟩ hfr hlo (mX0_fits C.2.2.2.2.2.2.1 hi h1) (As := [.int p1]) (oX0 ad cA i hi S) rfl rfl rfl rfl hcat hd (k r S1 h2)
def rmX8_isDead : Room := { frames := 1, cells := 0, slots := 0, locals := 22 }
def fX8_isDead_46 (N : Nat)   (S : St) : Option (Int32 × St) := some ((-3), S)
set_option maxRecDepth 20000 in
theorem vX8_isDead_46 {p : Program} {l : Launch} {e : Env} {s : State} {m : MethodId} {args : Array Value} {below : List Frame} {meth : Method} {c : Code} {Q : State → Prop} {D : va_G} {ad : Nat → Nat} {cA : Nat → ClassId} (C : Ok p s m args c D cA (xW ad cA) (xA ad) (xS ad) RX8 cX8_isDead 8) (hr : Rt meth (some .int)) {r : Int32 × St} (hQ : Q = MQ below (Qo D (xW ad cA) (xA ad) (some (.int r.1)) r.2) args s 0 0 (xA ad)) {N : Nat}    {S : St} (hm : fX8_isDead_46 N   S = some r) : V p l e rmX8_isDead s m args below meth c Q D (xW ad cA) (xA ad) 8 S 46 [] [] := by
  unfold fX8_isDead_46 at hm
  refine v_bipush C (pc := 46) (-3) dX8_isDead_46 rfl ?_
  exact v_iret C hr hQ (pc := 48) hm dX8_isDead_48
def fX8_isDead_99 (N : Nat)  (s0 : Bool) (S : St) : Option (Int32 × St) := some ((b2i s0), S)
set_option maxRecDepth 20000 in
theorem vX8_isDead_99 {p : Program} {l : Launch} {e : Env} {s : State} {m : MethodId} {args : Array Value} {below : List Frame} {meth : Method} {c : Code} {Q : State → Prop} {D : va_G} {ad : Nat → Nat} {cA : Nat → ClassId} (C : Ok p s m args c D cA (xW ad cA) (xA ad) (xS ad) RX8 cX8_isDead 8) (hr : Rt meth (some .int)) {r : Int32 × St} (hQ : Q = MQ below (Qo D (xW ad cA) (xA ad) (some (.int r.1)) r.2) args s 0 0 (xA ad)) {N : Nat}  {s0 : Bool}  {S : St} (hm : fX8_isDead_99 N  s0 S = some r) : V p l e rmX8_isDead s m args below meth c Q D (xW ad cA) (xA ad) 8 S 99 [] [.int (b2i s0)] := by
  unfold fX8_isDead_99 at hm
  exact v_iret C hr hQ (pc := 99) hm dX8_isDead_99
def fX8_isDead (N : Nat) (p1 : Int32) (p2 : Int32) (p3 : Int32) (p4 : Int32) (S : St) : Option (Int32 × St) := bd (fX2_has N p1 S) fun r6 S4 => if (b2i r6) = 0 then (some ((-1), S4)) else (bd (fX7_cellAt N p2 p3 S4) fun r7 S5 => if 0 ≤ r7 then (if p4 < 0 then (fX8_isDead_46 N S5) else (if p4 < 4 then (ck p1 5 (nm ((64 * p4) + r7) fun y9 => bd (fX0_fits N (Int32.toNatClampNeg p1) y9 S5) fun r10 S6 => if (b2i r10) = 0 then (some ((-7), S6)) else (ck y9 256 (if 0 ≤ (S6.2.2.1 (14 + (Int32.toNatClampNeg p1)) (Int32.toNatClampNeg y9)) then (fX8_isDead_99 N false S6) else (fX8_isDead_99 N true S6))))) else (fX8_isDead_46 N S5))) else (some ((-2), S5)))
set_option maxRecDepth 20000 in
theorem vX8_isDead {p : Program} {l : Launch} {e : Env} {s : State} {m : MethodId} {args : Array Value} {below : List Frame} {meth : Method} {c : Code} {Q : State → Prop} {D : va_G} {ad : Nat → Nat} {cA : Nat → ClassId} (C : Ok p s m args c D cA (xW ad cA) (xA ad) (xS ad) RX8 cX8_isDead 8) (hr : Rt meth (some .int)) {r : Int32 × St} (hQ : Q = MQ below (Qo D (xW ad cA) (xA ad) (some (.int r.1)) r.2) args s 0 0 (xA ad)) {N : Nat} {p1 : Int32} {p2 : Int32} {p3 : Int32} {p4 : Int32} {S : St} (hm : fX8_isDead N p1 p2 p3 p4 S = some r) : V p l e rmX8_isDead s m args below meth c Q D (xW ad cA) (xA ad) 8 S 0 [(0, .ref (ad 0)), (1, .int p1), (2, .int p2), (3, .int p3), (4, .int p4)] [] := by
  unfold fX8_isDead at hm
  refine v_aload_n C (pc := 0) 0 dX8_isDead_0 rfl rfl ?_
  refine gX8_19 C (pc := 1) dX8_isDead_1 ?_
  refine v_iload_n C (pc := 4) 1 dX8_isDead_4 rfl rfl ?_
  refine kX8_146 C (Nat.le_of_ble_eq_true rfl) (Nat.le_of_ble_eq_true rfl) (pc := 5) hm (Nat.le_of_ble_eq_true rfl) dX8_isDead_5 (fun r6 S4 hm => ?_)
  refine v_if_ne C (pc := 8) hm 13 dX8_isDead_8 rfl (fun hm => ?_) (fun hm => ?_)
  · refine v_aload_n C (pc := 13) 0 dX8_isDead_13 rfl rfl ?_
    refine gX8_19 C (pc := 14) dX8_isDead_14 ?_
    refine gX8_110 C (pc := 17) dX8_isDead_17 ?_
    refine v_iload_n C (pc := 20) 2 dX8_isDead_20 rfl rfl ?_
    refine v_iload_n C (pc := 21) 3 dX8_isDead_21 rfl rfl ?_
    refine kX8_125 C (Nat.le_of_ble_eq_true rfl) (Nat.le_of_ble_eq_true rfl) (pc := 22) hm (Nat.le_of_ble_eq_true rfl) dX8_isDead_22 (fun r7 S5 hm => ?_)
    refine v_istore C (pc := 25) [(5, .int r7), (0, .ref (ad 0)), (1, .int p1), (2, .int p2), (3, .int p3), (4, .int p4)] dX8_isDead_25 (by decide) rfl ?_
    refine v_iload C (pc := 27) 0 dX8_isDead_27 rfl ?_
    refine v_if_ge C (pc := 29) hm 35 dX8_isDead_29 rfl (fun hm => ?_) (fun hm => ?_)
    · refine v_iload C (pc := 35) 5 dX8_isDead_35 rfl ?_
      refine v_if_lt C (pc := 37) hm 46 dX8_isDead_37 rfl (fun hm => ?_) (fun hm => ?_)
      · exact v_sub [] rfl (vX8_isDead_46 C hr hQ (N := N) hm)
      · refine v_iload C (pc := 40) 5 dX8_isDead_40 rfl ?_
        refine v_iconst C (pc := 42) 4 dX8_isDead_42 rfl ?_
        refine v_icmp_lt C (pc := 43) hm 49 dX8_isDead_43 rfl (fun hm => ?_) (fun hm => ?_)
        · refine v_aload_n C (pc := 49) 1 dX8_isDead_49 rfl rfl ?_
          refine gX8_19 C (pc := 50) dX8_isDead_50 ?_
          refine gX8_150 C (pc := 53) dX8_isDead_53 ?_
          refine v_iload_n C (pc := 56) 2 dX8_isDead_56 rfl rfl ?_
          refine ldX2_blocks C (pc := 57) hm dX8_isDead_57 (fun hb8 hm => ?_)
          refine v_astore C (pc := 58) [(6, .ref (ad (4 + (Int32.toNatClampNeg p1)))), (5, .int r7), (0, .ref (ad 0)), (1, .int p1), (2, .int p2), (3, .int p3), (4, .int p4)] dX8_isDead_58 (by decide) rfl ?_
          refine v_bipush C (pc := 60) 64 dX8_isDead_60 rfl ?_
          refine v_iload C (pc := 62) 6 dX8_isDead_62 rfl ?_
          refine v_imul C (pc := 64) dX8_isDead_64 ?_
          refine v_iload C (pc := 65) 1 dX8_isDead_65 rfl ?_
          refine v_iadd C (pc := 67) dX8_isDead_67 ?_
          refine v_istoreN C (pc := 68) [(6, .ref (ad (4 + (Int32.toNatClampNeg p1)))), (5, .int r7), (0, .ref (ad 0)), (1, .int p1), (2, .int p2), (3, .int p3), (4, .int p4)] hm dX8_isDead_68 (by decide) rfl (fun y9 hm => ?_)
          refine v_aload C (pc := 70) 1 dX8_isDead_70 rfl ?_
          refine v_iload C (pc := 72) 0 dX8_isDead_72 rfl ?_
          refine kX8_238 C (Nat.le_of_ble_eq_true rfl) (Nat.le_of_ble_eq_true rfl) hb8 (pc := 74) hm (Nat.le_of_ble_eq_true rfl) dX8_isDead_74 (fun r10 S6 hm => ?_)
          refine v_if_ne C (pc := 77) hm 83 dX8_isDead_77 rfl (fun hm => ?_) (fun hm => ?_)
          · refine v_aload C (pc := 83) 1 dX8_isDead_83 rfl ?_
            refine gX8_241 C hb8 (pc := 85) dX8_isDead_85 ?_
            refine v_iload C (pc := 88) 0 dX8_isDead_88 rfl ?_
            refine ldX0_distances C hb8 (pc := 90) hm dX8_isDead_90 (fun hm => ?_)
            refine v_if_ge C (pc := 91) hm 98 dX8_isDead_91 rfl (fun hm => ?_) (fun hm => ?_)
            · refine v_iconst C (pc := 98) 0 dX8_isDead_98 rfl ?_
              exact v_sub [] rfl (vX8_isDead_99 C hr hQ (N := N) hm)
            · refine v_iconst C (pc := 94) 1 dX8_isDead_94 rfl ?_
              refine v_goto C (pc := 95) 99 dX8_isDead_95 rfl ?_
              exact v_sub [] rfl (vX8_isDead_99 C hr hQ (N := N) hm)
          · refine v_bipush C (pc := 80) (-7) dX8_isDead_80 rfl ?_
            exact v_iret C hr hQ (pc := 82) hm dX8_isDead_82
        · exact v_sub [] rfl (vX8_isDead_46 C hr hQ (N := N) hm)
    · refine v_bipush C (pc := 32) (-2) dX8_isDead_32 rfl ?_
      exact v_iret C hr hQ (pc := 34) hm dX8_isDead_34
  · refine v_iconst C (pc := 11) (-1) dX8_isDead_11 rfl ?_
    exact v_iret C hr hQ (pc := 12) hm dX8_isDead_12
theorem mX8_isDead {l : Launch} {D : va_G} {ad : Nat → Nat} {cA : Nat → ClassId} (hD : ∀ S, va_D (xA ad) (xW ad cA S)) {N : Nat} {p1 : Int32} {p2 : Int32} {p3 : Int32} {p4 : Int32} {S : St} {r : Int32 × St} (hm : fX8_isDead N p1 p2 p3 p4 S = some r) : Met l yX8_isDead (wsm yX8_isDead cX8_isDead 8 (some .int)) rmX8_isDead (va_Pc [.ref (ad 0), .int p1, .int p2, .int p3, .int p4] (Pre D cA (xW ad cA) (xS ad) S)) (Qo D (xW ad cA) (xA ad) (some (.int r.1)) r.2) 0 0 (xA ad) := met_of [.ref (ad 0), .int p1, .int p2, .int p3, .int p4] (by decide) (Nat.le_of_ble_eq_true rfl) hD (xS_mv ad) (xS_kp ad) (fun p e s m below meth c C hr => vX8_isDead C hr rfl (N := N)  hm)
-- X8_deadCount
def rmX8_deadCount : Room := { frames := 1, cells := 0, slots := 0, locals := 21 }
def fX8_deadCount_58 (N : Nat) (k28 : Nat → Int32 → Int32 → St → Option (Int32 × St)) (x2 : Nat) (x3 : Int32) (x4 : Int32) (S : St) : Option (Int32 × St) := k28 x2 x3 (x4 + 1) S
set_option maxRecDepth 20000 in
theorem vX8_deadCount_58 {p : Program} {l : Launch} {e : Env} {s : State} {m : MethodId} {args : Array Value} {below : List Frame} {meth : Method} {c : Code} {Q : State → Prop} {D : va_G} {ad : Nat → Nat} {cA : Nat → ClassId} (C : Ok p s m args c D cA (xW ad cA) (xA ad) (xS ad) RX8 cX8_deadCount 5) (hr : Rt meth (some .int)) {r : Int32 × St} (hQ : Q = MQ below (Qo D (xW ad cA) (xA ad) (some (.int r.1)) r.2) args s 0 0 (xA ad)) {N : Nat} {k28 : Nat → Int32 → Int32 → St → Option (Int32 × St)} (hk28 : ∀ (x2 : Nat) (x3 : Int32) (x4 : Int32) (S : St), x2 < 5 → k28 x2 x3 x4 S = some r → V p l e rmX8_deadCount s m args below meth c Q D (xW ad cA) (xA ad) 5 S 28 [(2, .ref (ad (4 + x2))), (3, .int x3), (4, .int x4)] []) {x2 : Nat} {x3 : Int32} {x4 : Int32} (hx2 : x2 < 5) {S : St} (hm : fX8_deadCount_58 N k28 x2 x3 x4 S = some r) : V p l e rmX8_deadCount s m args below meth c Q D (xW ad cA) (xA ad) 5 S 58 [(2, .ref (ad (4 + x2))), (3, .int x3), (4, .int x4)] [] := by
  unfold fX8_deadCount_58 at hm
  refine v_iinc C (pc := 58) 1 2 [(4, .int (x4 + 1)), (2, .ref (ad (4 + x2))), (3, .int x3)] dX8_deadCount_58 rfl rfl (by decide) rfl ?_
  refine v_goto C (pc := 61) 28 dX8_deadCount_61 rfl ?_
  exact v_sub [1, 2, 0] rfl (hk28 _ _ _ _ hx2 hm)
def fX8_deadCount_28b (N : Nat)  (k28 : Nat → Int32 → Int32 → St → Option (Int32 × St)) (x2 : Nat) (x3 : Int32) (x4 : Int32) (S : St) : Option (Int32 × St) := if 256 ≤ x4 then (some (x3, S)) else (bd (fX0_fits N x2 x4 S) fun r5 S4 => if (b2i r5) = 0 then (fX8_deadCount_58 N k28 x2 x3 x4 S4) else (ck x4 256 (if 0 ≤ (S4.2.2.1 (14 + x2) (Int32.toNatClampNeg x4)) then (fX8_deadCount_58 N k28 x2 x3 x4 S4) else (fX8_deadCount_58 N k28 x2 (x3 + 1) x4 S4))))
def fX8_deadCount_28 (N : Nat)  : Nat → Nat → Int32 → Int32 → St → Option (Int32 × St)
  | 0 => fun _ _ _ _ => none
  | n + 1 => fun x2 x3 x4 S => fX8_deadCount_28b N  (fX8_deadCount_28 N  n) x2 x3 x4 S
set_option maxRecDepth 20000 in
theorem vX8_deadCount_28b {p : Program} {l : Launch} {e : Env} {s : State} {m : MethodId} {args : Array Value} {below : List Frame} {meth : Method} {c : Code} {Q : State → Prop} {D : va_G} {ad : Nat → Nat} {cA : Nat → ClassId} (C : Ok p s m args c D cA (xW ad cA) (xA ad) (xS ad) RX8 cX8_deadCount 5) (hr : Rt meth (some .int)) {r : Int32 × St} (hQ : Q = MQ below (Qo D (xW ad cA) (xA ad) (some (.int r.1)) r.2) args s 0 0 (xA ad)) {N : Nat}  {k28 : Nat → Int32 → Int32 → St → Option (Int32 × St)} (hk28 : ∀ (x2 : Nat) (x3 : Int32) (x4 : Int32) (S : St), x2 < 5 → k28 x2 x3 x4 S = some r → V p l e rmX8_deadCount s m args below meth c Q D (xW ad cA) (xA ad) 5 S 28 [(2, .ref (ad (4 + x2))), (3, .int x3), (4, .int x4)] []) {x2 : Nat} {x3 : Int32} {x4 : Int32} (hx2 : x2 < 5) {S : St} (hm : fX8_deadCount_28b N  k28 x2 x3 x4 S = some r) : V p l e rmX8_deadCount s m args below meth c Q D (xW ad cA) (xA ad) 5 S 28 [(2, .ref (ad (4 + x2))), (3, .int x3), (4, .int x4)] [] := by
  unfold fX8_deadCount_28b at hm
  refine v_iload C (pc := 28) 2 dX8_deadCount_28 rfl ?_
  refine v_sipush C (pc := 30) 256 dX8_deadCount_30 rfl ?_
  refine v_icmp_ge C (pc := 33) hm 64 dX8_deadCount_33 rfl (fun hm => ?_) (fun hm => ?_)
  · refine v_iload_n C (pc := 64) 1 dX8_deadCount_64 rfl rfl ?_
    exact v_iret C hr hQ (pc := 65) hm dX8_deadCount_65
  · refine v_aload_n C (pc := 36) 0 dX8_deadCount_36 rfl rfl ?_
    refine v_iload C (pc := 37) 2 dX8_deadCount_37 rfl ?_
    refine kX8_238 C (Nat.le_of_ble_eq_true rfl) (Nat.le_of_ble_eq_true rfl) hx2 (pc := 39) hm (Nat.le_of_ble_eq_true rfl) dX8_deadCount_39 (fun r5 S4 hm => ?_)
    refine v_if_eq C (pc := 42) hm 58 dX8_deadCount_42 rfl (fun hm => ?_) (fun hm => ?_)
    · exact (vX8_deadCount_58 C hr hQ (N := N) hk28 hx2 hm)
    · refine v_aload_n C (pc := 45) 0 dX8_deadCount_45 rfl rfl ?_
      refine gX8_241 C hx2 (pc := 46) dX8_deadCount_46 ?_
      refine v_iload C (pc := 49) 2 dX8_deadCount_49 rfl ?_
      refine ldX0_distances C hx2 (pc := 51) hm dX8_deadCount_51 (fun hm => ?_)
      refine v_if_ge C (pc := 52) hm 58 dX8_deadCount_52 rfl (fun hm => ?_) (fun hm => ?_)
      · exact (vX8_deadCount_58 C hr hQ (N := N) hk28 hx2 hm)
      · refine v_iinc C (pc := 55) 1 1 [(3, .int (x3 + 1)), (2, .ref (ad (4 + x2))), (4, .int x4)] dX8_deadCount_55 rfl rfl (by decide) rfl ?_
        exact v_sub [1, 0, 2] rfl (vX8_deadCount_58 C hr hQ (N := N) hk28 hx2 hm)
theorem vX8_deadCount_28 {p : Program} {l : Launch} {e : Env} {s : State} {m : MethodId} {args : Array Value} {below : List Frame} {meth : Method} {c : Code} {Q : State → Prop} {D : va_G} {ad : Nat → Nat} {cA : Nat → ClassId} (C : Ok p s m args c D cA (xW ad cA) (xA ad) (xS ad) RX8 cX8_deadCount 5) (hr : Rt meth (some .int)) {r : Int32 × St} (hQ : Q = MQ below (Qo D (xW ad cA) (xA ad) (some (.int r.1)) r.2) args s 0 0 (xA ad)) {N : Nat}  (n : Nat) : ∀ (x2 : Nat) (x3 : Int32) (x4 : Int32) (S : St), x2 < 5 → fX8_deadCount_28 N  n x2 x3 x4 S = some r → V p l e rmX8_deadCount s m args below meth c Q D (xW ad cA) (xA ad) 5 S 28 [(2, .ref (ad (4 + x2))), (3, .int x3), (4, .int x4)] [] := by
  induction n with
  | zero => intro _ _ _ _ _ hm; exact absurd hm (by intro h; cases h)
  | succ n ih => intro _ _ _ _ hx2 hm; exact vX8_deadCount_28b C hr hQ (N := N)   ih hx2 hm
def fX8_deadCount (N : Nat) (p1 : Int32) (S : St) : Option (Int32 × St) := bd (fX2_has N p1 S) fun r6 S5 => if (b2i r6) = 0 then (some ((-1), S5)) else (ck p1 5 (fX8_deadCount_28 N N (Int32.toNatClampNeg p1) 0 0 S5))
set_option maxRecDepth 20000 in
theorem vX8_deadCount {p : Program} {l : Launch} {e : Env} {s : State} {m : MethodId} {args : Array Value} {below : List Frame} {meth : Method} {c : Code} {Q : State → Prop} {D : va_G} {ad : Nat → Nat} {cA : Nat → ClassId} (C : Ok p s m args c D cA (xW ad cA) (xA ad) (xS ad) RX8 cX8_deadCount 5) (hr : Rt meth (some .int)) {r : Int32 × St} (hQ : Q = MQ below (Qo D (xW ad cA) (xA ad) (some (.int r.1)) r.2) args s 0 0 (xA ad)) {N : Nat} {p1 : Int32} {S : St} (hm : fX8_deadCount N p1 S = some r) : V p l e rmX8_deadCount s m args below meth c Q D (xW ad cA) (xA ad) 5 S 0 [(0, .ref (ad 0)), (1, .int p1)] [] := by
  unfold fX8_deadCount at hm
  refine v_aload_n C (pc := 0) 0 dX8_deadCount_0 rfl rfl ?_
  refine gX8_19 C (pc := 1) dX8_deadCount_1 ?_
  refine v_iload_n C (pc := 4) 1 dX8_deadCount_4 rfl rfl ?_
  refine kX8_146 C (Nat.le_of_ble_eq_true rfl) (Nat.le_of_ble_eq_true rfl) (pc := 5) hm (Nat.le_of_ble_eq_true rfl) dX8_deadCount_5 (fun r6 S5 hm => ?_)
  refine v_if_ne C (pc := 8) hm 13 dX8_deadCount_8 rfl (fun hm => ?_) (fun hm => ?_)
  · refine v_aload_n C (pc := 13) 0 dX8_deadCount_13 rfl rfl ?_
    refine gX8_19 C (pc := 14) dX8_deadCount_14 ?_
    refine gX8_150 C (pc := 17) dX8_deadCount_17 ?_
    refine v_iload_n C (pc := 20) 1 dX8_deadCount_20 rfl rfl ?_
    refine ldX2_blocks C (pc := 21) hm dX8_deadCount_21 (fun hb7 hm => ?_)
    refine v_astore_n C (pc := 22) [(2, .ref (ad (4 + (Int32.toNatClampNeg p1)))), (0, .ref (ad 0)), (1, .int p1)] dX8_deadCount_22 rfl (by decide) rfl ?_
    refine v_iconst C (pc := 23) 0 dX8_deadCount_23 rfl ?_
    refine v_istore_n C (pc := 24) [(3, .int 0), (2, .ref (ad (4 + (Int32.toNatClampNeg p1)))), (0, .ref (ad 0)), (1, .int p1)] dX8_deadCount_24 rfl (by decide) rfl ?_
    refine v_iconst C (pc := 25) 0 dX8_deadCount_25 rfl ?_
    refine v_istore C (pc := 26) [(4, .int 0), (3, .int 0), (2, .ref (ad (4 + (Int32.toNatClampNeg p1)))), (0, .ref (ad 0)), (1, .int p1)] dX8_deadCount_26 (by decide) rfl ?_
    exact v_sub [2, 1, 0] rfl (vX8_deadCount_28 C hr hQ (N := N) N _ _ _ _ hb7 hm)
  · refine v_iconst C (pc := 11) (-1) dX8_deadCount_11 rfl ?_
    exact v_iret C hr hQ (pc := 12) hm dX8_deadCount_12
theorem mX8_deadCount {l : Launch} {D : va_G} {ad : Nat → Nat} {cA : Nat → ClassId} (hD : ∀ S, va_D (xA ad) (xW ad cA S)) {N : Nat} {p1 : Int32} {S : St} {r : Int32 × St} (hm : fX8_deadCount N p1 S = some r) : Met l yX8_deadCount (wsm yX8_deadCount cX8_deadCount 5 (some .int)) rmX8_deadCount (va_Pc [.ref (ad 0), .int p1] (Pre D cA (xW ad cA) (xS ad) S)) (Qo D (xW ad cA) (xA ad) (some (.int r.1)) r.2) 0 0 (xA ad) := met_of [.ref (ad 0), .int p1] (by decide) (Nat.le_of_ble_eq_true rfl) hD (xS_mv ad) (xS_kp ad) (fun p e s m below meth c C hr => vX8_deadCount C hr rfl (N := N)  hm)
-- X8_distance
def rmX8_distance : Room := { frames := 1, cells := 0, slots := 0, locals := 22 }
def fX8_distance_48 (N : Nat)  (s0 : Int32) (S : St) : Option (Int32 × St) := some (s0, S)
set_option maxRecDepth 20000 in
theorem vX8_distance_48 {p : Program} {l : Launch} {e : Env} {s : State} {m : MethodId} {args : Array Value} {below : List Frame} {meth : Method} {c : Code} {Q : State → Prop} {D : va_G} {ad : Nat → Nat} {cA : Nat → ClassId} (C : Ok p s m args c D cA (xW ad cA) (xA ad) (xS ad) RX8 cX8_distance 3) (hr : Rt meth (some .int)) {r : Int32 × St} (hQ : Q = MQ below (Qo D (xW ad cA) (xA ad) (some (.int r.1)) r.2) args s 0 0 (xA ad)) {N : Nat}  {s0 : Int32}  {S : St} (hm : fX8_distance_48 N  s0 S = some r) : V p l e rmX8_distance s m args below meth c Q D (xW ad cA) (xA ad) 3 S 48 [] [.int s0] := by
  unfold fX8_distance_48 at hm
  exact v_iret C hr hQ (pc := 48) hm dX8_distance_48
def fX8_distance (N : Nat) (p1 : Int32) (S : St) : Option (Int32 × St) := bd (fX2_has N p1 S) fun r6 S4 => if (b2i r6) = 0 then (some ((-1), S4)) else (ck p1 5 (bd (fX1_present N  S4) fun r8 S5 => bd (fX8_placementIn N r8 p1 S5) fun r9 S6 => ck r9 256 (nm (S6.2.2.1 (14 + (Int32.toNatClampNeg p1)) (Int32.toNatClampNeg r9)) fun y10 => if 0 ≤ y10 then (fX8_distance_48 N y10 S6) else (fX8_distance_48 N (-7) S6))))
set_option maxRecDepth 20000 in
theorem vX8_distance {p : Program} {l : Launch} {e : Env} {s : State} {m : MethodId} {args : Array Value} {below : List Frame} {meth : Method} {c : Code} {Q : State → Prop} {D : va_G} {ad : Nat → Nat} {cA : Nat → ClassId} (C : Ok p s m args c D cA (xW ad cA) (xA ad) (xS ad) RX8 cX8_distance 3) (hr : Rt meth (some .int)) {r : Int32 × St} (hQ : Q = MQ below (Qo D (xW ad cA) (xA ad) (some (.int r.1)) r.2) args s 0 0 (xA ad)) {N : Nat} {p1 : Int32} {S : St} (hm : fX8_distance N p1 S = some r) : V p l e rmX8_distance s m args below meth c Q D (xW ad cA) (xA ad) 3 S 0 [(0, .ref (ad 0)), (1, .int p1)] [] := by
  unfold fX8_distance at hm
  refine v_aload_n C (pc := 0) 0 dX8_distance_0 rfl rfl ?_
  refine gX8_19 C (pc := 1) dX8_distance_1 ?_
  refine v_iload_n C (pc := 4) 1 dX8_distance_4 rfl rfl ?_
  refine kX8_146 C (Nat.le_of_ble_eq_true rfl) (Nat.le_of_ble_eq_true rfl) (pc := 5) hm (Nat.le_of_ble_eq_true rfl) dX8_distance_5 (fun r6 S4 hm => ?_)
  refine v_if_ne C (pc := 8) hm 13 dX8_distance_8 rfl (fun hm => ?_) (fun hm => ?_)
  · refine v_aload_n C (pc := 13) 0 dX8_distance_13 rfl rfl ?_
    refine gX8_19 C (pc := 14) dX8_distance_14 ?_
    refine gX8_150 C (pc := 17) dX8_distance_17 ?_
    refine v_iload_n C (pc := 20) 1 dX8_distance_20 rfl rfl ?_
    refine ldX2_blocks C (pc := 21) hm dX8_distance_21 (fun hb7 hm => ?_)
    refine gX8_241 C hb7 (pc := 22) dX8_distance_22 ?_
    refine v_aload_n C (pc := 25) 0 dX8_distance_25 rfl rfl ?_
    refine gX8_44 C (pc := 26) dX8_distance_26 ?_
    refine kX8_132 C (Nat.le_of_ble_eq_true rfl) (Nat.le_of_ble_eq_true rfl) (pc := 29) hm (Nat.le_of_ble_eq_true rfl) dX8_distance_29 (fun r8 S5 hm => ?_)
    refine v_iload_n C (pc := 32) 1 dX8_distance_32 rfl rfl ?_
    refine kX8_160 C (Nat.le_of_ble_eq_true rfl) (Nat.le_of_ble_eq_true rfl) (pc := 33) hm (Nat.le_of_ble_eq_true rfl) dX8_distance_33 (fun r9 S6 hm => ?_)
    refine ldX0_distances C hb7 (pc := 36) hm dX8_distance_36 (fun hm => ?_)
    refine v_istore_nN C (pc := 37) [(0, .ref (ad 0)), (1, .int p1)] hm dX8_distance_37 rfl (by decide) rfl (fun y10 hm => ?_)
    refine v_iload_n C (pc := 38) 0 dX8_distance_38 rfl rfl ?_
    refine v_if_ge C (pc := 39) hm 47 dX8_distance_39 rfl (fun hm => ?_) (fun hm => ?_)
    · refine v_iload_n C (pc := 47) 0 dX8_distance_47 rfl rfl ?_
      exact v_sub [] rfl (vX8_distance_48 C hr hQ (N := N) hm)
    · refine v_bipush C (pc := 42) (-7) dX8_distance_42 rfl ?_
      refine v_goto C (pc := 44) 48 dX8_distance_44 rfl ?_
      exact v_sub [] rfl (vX8_distance_48 C hr hQ (N := N) hm)
  · refine v_iconst C (pc := 11) (-1) dX8_distance_11 rfl ?_
    exact v_iret C hr hQ (pc := 12) hm dX8_distance_12
theorem mX8_distance {l : Launch} {D : va_G} {ad : Nat → Nat} {cA : Nat → ClassId} (hD : ∀ S, va_D (xA ad) (xW ad cA S)) {N : Nat} {p1 : Int32} {S : St} {r : Int32 × St} (hm : fX8_distance N p1 S = some r) : Met l yX8_distance (wsm yX8_distance cX8_distance 3 (some .int)) rmX8_distance (va_Pc [.ref (ad 0), .int p1] (Pre D cA (xW ad cA) (xS ad) S)) (Qo D (xW ad cA) (xA ad) (some (.int r.1)) r.2) 0 0 (xA ad) := met_of [.ref (ad 0), .int p1] (by decide) (Nat.le_of_ble_eq_true rfl) hD (xS_mv ad) (xS_kp ad) (fun p e s m below meth c C hr => vX8_distance C hr rfl (N := N)  hm)
-- X8_lowerBound
def rmX8_lowerBound : Room := { frames := 2, cells := 0, slots := 0, locals := 47 }
def fX8_lowerBound_25 (N : Nat)  (s0 : Int32) (S : St) : Option (Int32 × St) := some (s0, S)
set_option maxRecDepth 20000 in
theorem vX8_lowerBound_25 {p : Program} {l : Launch} {e : Env} {s : State} {m : MethodId} {args : Array Value} {below : List Frame} {meth : Method} {c : Code} {Q : State → Prop} {D : va_G} {ad : Nat → Nat} {cA : Nat → ClassId} (C : Ok p s m args c D cA (xW ad cA) (xA ad) (xS ad) RX8 cX8_lowerBound 2) (hr : Rt meth (some .int)) {r : Int32 × St} (hQ : Q = MQ below (Qo D (xW ad cA) (xA ad) (some (.int r.1)) r.2) args s 0 0 (xA ad)) {N : Nat}  {s0 : Int32}  {S : St} (hm : fX8_lowerBound_25 N  s0 S = some r) : V p l e rmX8_lowerBound s m args below meth c Q D (xW ad cA) (xA ad) 2 S 25 [] [.int s0] := by
  unfold fX8_lowerBound_25 at hm
  exact v_iret C hr hQ (pc := 25) hm dX8_lowerBound_25
def fX8_lowerBound (N : Nat)  (S : St) : Option (Int32 × St) := bd (fX1_present N  S) fun r3 S3 => bd (fX2_boundOf N r3 S3) fun r4 S4 => if 0 ≤ r4 then (fX8_lowerBound_25 N r4 S4) else (fX8_lowerBound_25 N (-7) S4)
set_option maxRecDepth 20000 in
theorem vX8_lowerBound {p : Program} {l : Launch} {e : Env} {s : State} {m : MethodId} {args : Array Value} {below : List Frame} {meth : Method} {c : Code} {Q : State → Prop} {D : va_G} {ad : Nat → Nat} {cA : Nat → ClassId} (C : Ok p s m args c D cA (xW ad cA) (xA ad) (xS ad) RX8 cX8_lowerBound 2) (hr : Rt meth (some .int)) {r : Int32 × St} (hQ : Q = MQ below (Qo D (xW ad cA) (xA ad) (some (.int r.1)) r.2) args s 0 0 (xA ad)) {N : Nat}  {S : St} (hm : fX8_lowerBound N  S = some r) : V p l e rmX8_lowerBound s m args below meth c Q D (xW ad cA) (xA ad) 2 S 0 [(0, .ref (ad 0))] [] := by
  unfold fX8_lowerBound at hm
  refine v_aload_n C (pc := 0) 0 dX8_lowerBound_0 rfl rfl ?_
  refine gX8_19 C (pc := 1) dX8_lowerBound_1 ?_
  refine v_aload_n C (pc := 4) 0 dX8_lowerBound_4 rfl rfl ?_
  refine gX8_44 C (pc := 5) dX8_lowerBound_5 ?_
  refine kX8_132 C (Nat.le_of_ble_eq_true rfl) (Nat.le_of_ble_eq_true rfl) (pc := 8) hm (Nat.le_of_ble_eq_true rfl) dX8_lowerBound_8 (fun r3 S3 hm => ?_)
  refine kX8_234 C (Nat.le_of_ble_eq_true rfl) (Nat.le_of_ble_eq_true rfl) (pc := 11) hm (Nat.le_of_ble_eq_true rfl) dX8_lowerBound_11 (fun r4 S4 hm => ?_)
  refine v_istore_n C (pc := 14) [(1, .int r4), (0, .ref (ad 0))] dX8_lowerBound_14 rfl (by decide) rfl ?_
  refine v_iload_n C (pc := 15) 0 dX8_lowerBound_15 rfl rfl ?_
  refine v_if_ge C (pc := 16) hm 24 dX8_lowerBound_16 rfl (fun hm => ?_) (fun hm => ?_)
  · refine v_iload_n C (pc := 24) 0 dX8_lowerBound_24 rfl rfl ?_
    exact v_sub [] rfl (vX8_lowerBound_25 C hr hQ (N := N) hm)
  · refine v_bipush C (pc := 19) (-7) dX8_lowerBound_19 rfl ?_
    refine v_goto C (pc := 21) 25 dX8_lowerBound_21 rfl ?_
    exact v_sub [] rfl (vX8_lowerBound_25 C hr hQ (N := N) hm)
theorem mX8_lowerBound {l : Launch} {D : va_G} {ad : Nat → Nat} {cA : Nat → ClassId} (hD : ∀ S, va_D (xA ad) (xW ad cA S)) {N : Nat}  {S : St} {r : Int32 × St} (hm : fX8_lowerBound N  S = some r) : Met l yX8_lowerBound (wsm yX8_lowerBound cX8_lowerBound 2 (some .int)) rmX8_lowerBound (va_Pc [.ref (ad 0)] (Pre D cA (xW ad cA) (xS ad) S)) (Qo D (xW ad cA) (xA ad) (some (.int r.1)) r.2) 0 0 (xA ad) := met_of [.ref (ad 0)] (by decide) (Nat.le_of_ble_eq_true rfl) hD (xS_mv ad) (xS_kp ad) (fun p e s m below meth c C hr => vX8_lowerBound C hr rfl (N := N)  hm)
-- X8_solve
theorem infX5_solutionLength : InfV yX5_solutionLength cX5_solutionLength 3 (some .int) 1 := ⟨⟨gm (i := 64) (by decide +kernel) rfl, gm (i := 756) (by decide +kernel) rfl, by decide +kernel⟩, gm (i := 754) (by decide +kernel) rfl, gm (i := 755) (by decide +kernel) rfl⟩
theorem kX8_244 {p : Program} {l : Launch} {e : Env} {R : Room} {s : State} {m : MethodId} {args : Array Value} {below : List Frame} {meth : Method} {c : Code} {Q : State → Prop} {D : va_G} {ad : Nat → Nat} {cA : Nat → ClassId} {cc : ByteArray} {nL : Nat} {S : St} {pc : Nat} {lv : List (Nat × Value)} {st : List Value} {ρ : Type} {res : ρ} (C : Ok p s m args c D cA (xW ad cA) (xA ad) (xS ad) RX8 cc nL) (hfr : rmX5_solutionLength.frames + 1 ≤ R.frames) (hlo : 8 + (3 + 11) + rmX5_solutionLength.locals ≤ R.locals) {N : Nat} {p1 : Int64} {E : Int32 → St → Option ρ} (hm : bd (fX5_solutionLength N p1 S) E = some res) (hcat : (st.map fun v => v.category).sum ≤ 8) (hd : decode cc pc = .ok (.invokevirtual 244, 3)) (k : ∀ r S, E r S = some res → V p l e R s m args below meth c Q D (xW ad cA) (xA ad) nL S (pc + 3) lv (.int r :: st)) : V p l e R s m args below meth c Q D (xW ad cA) (xA ad) nL S pc lv (.long p1 :: .ref (ad 13) :: st) := by
  obtain ⟨r, S1, h1, h2⟩ := bd_some hm
  exact v_callV C (gm (i := 753) (by decide +kernel) rfl : Cond.methodLink RX8 244 yX5_solutionLength ∈ gw_tbl) infX5_solutionLength (rm2 := rmX5_solutionLength) ⟨rfl, rfl⟩ hfr hlo (mX5_solutionLength C.2.2.2.2.2.2.1 h1) (As := [.long p1]) (oX5 ad cA S) rfl rfl rfl rfl hcat hd (k r S1 h2)
def rmX8_solve : Room := { frames := 7, cells := 0, slots := 0, locals := 188 }
def fX8_solve (N : Nat)  (S : St) : Option (Int32 × St) := bd (fX1_present N  S) fun r3 S3 => bd (fX5_solutionLength N r3 S3) fun r4 S4 => some (r4, S4)
set_option maxRecDepth 20000 in
theorem vX8_solve {p : Program} {l : Launch} {e : Env} {s : State} {m : MethodId} {args : Array Value} {below : List Frame} {meth : Method} {c : Code} {Q : State → Prop} {D : va_G} {ad : Nat → Nat} {cA : Nat → ClassId} (C : Ok p s m args c D cA (xW ad cA) (xA ad) (xS ad) RX8 cX8_solve 1) (hr : Rt meth (some .int)) {r : Int32 × St} (hQ : Q = MQ below (Qo D (xW ad cA) (xA ad) (some (.int r.1)) r.2) args s 0 0 (xA ad)) {N : Nat}  {S : St} (hm : fX8_solve N  S = some r) : V p l e rmX8_solve s m args below meth c Q D (xW ad cA) (xA ad) 1 S 0 [(0, .ref (ad 0))] [] := by
  unfold fX8_solve at hm
  refine v_aload_n C (pc := 0) 0 dX8_solve_0 rfl rfl ?_
  refine gX8_51 C (pc := 1) dX8_solve_1 ?_
  refine v_aload_n C (pc := 4) 0 dX8_solve_4 rfl rfl ?_
  refine gX8_44 C (pc := 5) dX8_solve_5 ?_
  refine kX8_132 C (Nat.le_of_ble_eq_true rfl) (Nat.le_of_ble_eq_true rfl) (pc := 8) hm (Nat.le_of_ble_eq_true rfl) dX8_solve_8 (fun r3 S3 hm => ?_)
  refine kX8_244 C (Nat.le_of_ble_eq_true rfl) (Nat.le_of_ble_eq_true rfl) (pc := 11) hm (Nat.le_of_ble_eq_true rfl) dX8_solve_11 (fun r4 S4 hm => ?_)
  exact v_iret C hr hQ (pc := 14) hm dX8_solve_14
theorem mX8_solve {l : Launch} {D : va_G} {ad : Nat → Nat} {cA : Nat → ClassId} (hD : ∀ S, va_D (xA ad) (xW ad cA S)) {N : Nat}  {S : St} {r : Int32 × St} (hm : fX8_solve N  S = some r) : Met l yX8_solve (wsm yX8_solve cX8_solve 1 (some .int)) rmX8_solve (va_Pc [.ref (ad 0)] (Pre D cA (xW ad cA) (xS ad) S)) (Qo D (xW ad cA) (xA ad) (some (.int r.1)) r.2) 0 0 (xA ad) := met_of [.ref (ad 0)] (by decide) (Nat.le_of_ble_eq_true rfl) hD (xS_mv ad) (xS_kp ad) (fun p e s m below meth c C hr => vX8_solve C hr rfl (N := N)  hm)
-- X8_solution
def rmX8_solution : Room := { frames := 7, cells := 0, slots := 0, locals := 188 }
def fX8_solution_50 (N : Nat)  (s0 : Int32) (S : St) : Option (Int32 × St) := some (s0, S)
set_option maxRecDepth 20000 in
theorem vX8_solution_50 {p : Program} {l : Launch} {e : Env} {s : State} {m : MethodId} {args : Array Value} {below : List Frame} {meth : Method} {c : Code} {Q : State → Prop} {D : va_G} {ad : Nat → Nat} {cA : Nat → ClassId} (C : Ok p s m args c D cA (xW ad cA) (xA ad) (xS ad) RX8 cX8_solution 3) (hr : Rt meth (some .int)) {r : Int32 × St} (hQ : Q = MQ below (Qo D (xW ad cA) (xA ad) (some (.int r.1)) r.2) args s 0 0 (xA ad)) {N : Nat}  {s0 : Int32}  {S : St} (hm : fX8_solution_50 N  s0 S = some r) : V p l e rmX8_solution s m args below meth c Q D (xW ad cA) (xA ad) 3 S 50 [] [.int s0] := by
  unfold fX8_solution_50 at hm
  exact v_iret C hr hQ (pc := 50) hm dX8_solution_50
def fX8_solution (N : Nat) (p1 : Int32) (S : St) : Option (Int32 × St) := if 0 ≤ p1 then (bd (fX1_present N  S) fun r3 S3 => bd (fX5_solutionLength N r3 S3) fun r4 S4 => if r4 = (-6) then (some ((-6), S4)) else (if r4 ≤ p1 then (fX8_solution_50 N (-7) S4) else (ck p1 1200 (fX8_solution_50 N (S4.2.2.1 31 (Int32.toNatClampNeg p1)) S4)))) else (some ((-3), S))
set_option maxRecDepth 20000 in
theorem vX8_solution {p : Program} {l : Launch} {e : Env} {s : State} {m : MethodId} {args : Array Value} {below : List Frame} {meth : Method} {c : Code} {Q : State → Prop} {D : va_G} {ad : Nat → Nat} {cA : Nat → ClassId} (C : Ok p s m args c D cA (xW ad cA) (xA ad) (xS ad) RX8 cX8_solution 3) (hr : Rt meth (some .int)) {r : Int32 × St} (hQ : Q = MQ below (Qo D (xW ad cA) (xA ad) (some (.int r.1)) r.2) args s 0 0 (xA ad)) {N : Nat} {p1 : Int32} {S : St} (hm : fX8_solution N p1 S = some r) : V p l e rmX8_solution s m args below meth c Q D (xW ad cA) (xA ad) 3 S 0 [(0, .ref (ad 0)), (1, .int p1)] [] := by
  unfold fX8_solution at hm
  refine v_iload_n C (pc := 0) 1 dX8_solution_0 rfl rfl ?_
  refine v_if_ge C (pc := 1) hm 7 dX8_solution_1 rfl (fun hm => ?_) (fun hm => ?_)
  · refine v_aload_n C (pc := 7) 0 dX8_solution_7 rfl rfl ?_
    refine gX8_51 C (pc := 8) dX8_solution_8 ?_
    refine v_aload_n C (pc := 11) 0 dX8_solution_11 rfl rfl ?_
    refine gX8_44 C (pc := 12) dX8_solution_12 ?_
    refine kX8_132 C (Nat.le_of_ble_eq_true rfl) (Nat.le_of_ble_eq_true rfl) (pc := 15) hm (Nat.le_of_ble_eq_true rfl) dX8_solution_15 (fun r3 S3 hm => ?_)
    refine kX8_244 C (Nat.le_of_ble_eq_true rfl) (Nat.le_of_ble_eq_true rfl) (pc := 18) hm (Nat.le_of_ble_eq_true rfl) dX8_solution_18 (fun r4 S4 hm => ?_)
    refine v_istore_n C (pc := 21) [(2, .int r4), (0, .ref (ad 0)), (1, .int p1)] dX8_solution_21 rfl (by decide) rfl ?_
    refine v_iload_n C (pc := 22) 0 dX8_solution_22 rfl rfl ?_
    refine v_bipush C (pc := 23) (-6) dX8_solution_23 rfl ?_
    refine v_icmp_ne C (pc := 25) hm 31 dX8_solution_25 rfl (fun hm => ?_) (fun hm => ?_)
    · refine v_iload_n C (pc := 31) 2 dX8_solution_31 rfl rfl ?_
      refine v_iload_n C (pc := 32) 0 dX8_solution_32 rfl rfl ?_
      refine v_icmp_ge C (pc := 33) hm 48 dX8_solution_33 rfl (fun hm => ?_) (fun hm => ?_)
      · refine v_bipush C (pc := 48) (-7) dX8_solution_48 rfl ?_
        exact v_sub [] rfl (vX8_solution_50 C hr hQ (N := N) hm)
      · refine v_aload_n C (pc := 36) 1 dX8_solution_36 rfl rfl ?_
        refine gX8_51 C (pc := 37) dX8_solution_37 ?_
        refine gX8_247 C (pc := 40) dX8_solution_40 ?_
        refine v_iload_n C (pc := 43) 2 dX8_solution_43 rfl rfl ?_
        refine ldX5_solutionMoves C (pc := 44) hm dX8_solution_44 (fun hm => ?_)
        refine v_goto C (pc := 45) 50 dX8_solution_45 rfl ?_
        exact v_sub [] rfl (vX8_solution_50 C hr hQ (N := N) hm)
    · refine v_bipush C (pc := 28) (-6) dX8_solution_28 rfl ?_
      exact v_iret C hr hQ (pc := 30) hm dX8_solution_30
  · refine v_bipush C (pc := 4) (-3) dX8_solution_4 rfl ?_
    exact v_iret C hr hQ (pc := 6) hm dX8_solution_6
theorem mX8_solution {l : Launch} {D : va_G} {ad : Nat → Nat} {cA : Nat → ClassId} (hD : ∀ S, va_D (xA ad) (xW ad cA S)) {N : Nat} {p1 : Int32} {S : St} {r : Int32 × St} (hm : fX8_solution N p1 S = some r) : Met l yX8_solution (wsm yX8_solution cX8_solution 3 (some .int)) rmX8_solution (va_Pc [.ref (ad 0), .int p1] (Pre D cA (xW ad cA) (xS ad) S)) (Qo D (xW ad cA) (xA ad) (some (.int r.1)) r.2) 0 0 (xA ad) := met_of [.ref (ad 0), .int p1] (by decide) (Nat.le_of_ble_eq_true rfl) hD (xS_mv ad) (xS_kp ad) (fun p e s m below meth c C hr => vX8_solution C hr rfl (N := N)  hm)
-- X8_reachable
theorem infX5_countWithin : InfV yX5_countWithin cX5_countWithin 8 (some .int) 2 := ⟨⟨gm (i := 64) (by decide +kernel) rfl, gm (i := 798) (by decide +kernel) rfl, by decide +kernel⟩, gm (i := 796) (by decide +kernel) rfl, gm (i := 797) (by decide +kernel) rfl⟩
theorem kX8_250 {p : Program} {l : Launch} {e : Env} {R : Room} {s : State} {m : MethodId} {args : Array Value} {below : List Frame} {meth : Method} {c : Code} {Q : State → Prop} {D : va_G} {ad : Nat → Nat} {cA : Nat → ClassId} {cc : ByteArray} {nL : Nat} {S : St} {pc : Nat} {lv : List (Nat × Value)} {st : List Value} {ρ : Type} {res : ρ} (C : Ok p s m args c D cA (xW ad cA) (xA ad) (xS ad) RX8 cc nL) (hfr : rmX5_countWithin.frames + 1 ≤ R.frames) (hlo : 8 + (8 + 11) + rmX5_countWithin.locals ≤ R.locals) {N : Nat} {p1 : Int64} {p2 : Int32} {E : Int32 → St → Option ρ} (hm : bd (fX5_countWithin N p1 p2 S) E = some res) (hcat : (st.map fun v => v.category).sum ≤ 8) (hd : decode cc pc = .ok (.invokevirtual 250, 3)) (k : ∀ r S, E r S = some res → V p l e R s m args below meth c Q D (xW ad cA) (xA ad) nL S (pc + 3) lv (.int r :: st)) : V p l e R s m args below meth c Q D (xW ad cA) (xA ad) nL S pc lv (.int p2 :: .long p1 :: .ref (ad 13) :: st) := by
  obtain ⟨r, S1, h1, h2⟩ := bd_some hm
  exact v_callV C (gm (i := 795) (by decide +kernel) rfl : Cond.methodLink RX8 250 yX5_countWithin ∈ gw_tbl) infX5_countWithin (rm2 := rmX5_countWithin) ⟨rfl, rfl⟩ hfr hlo (mX5_countWithin C.2.2.2.2.2.2.1 h1) (As := [.long p1, .int p2]) (oX5 ad cA S) rfl rfl rfl rfl hcat hd (k r S1 h2)
def rmX8_reachable : Room := { frames := 6, cells := 0, slots := 0, locals := 168 }
def fX8_reachable_9 (N : Nat)   (S : St) : Option (Int32 × St) := some ((-3), S)
set_option maxRecDepth 20000 in
theorem vX8_reachable_9 {p : Program} {l : Launch} {e : Env} {s : State} {m : MethodId} {args : Array Value} {below : List Frame} {meth : Method} {c : Code} {Q : State → Prop} {D : va_G} {ad : Nat → Nat} {cA : Nat → ClassId} (C : Ok p s m args c D cA (xW ad cA) (xA ad) (xS ad) RX8 cX8_reachable 2) (hr : Rt meth (some .int)) {r : Int32 × St} (hQ : Q = MQ below (Qo D (xW ad cA) (xA ad) (some (.int r.1)) r.2) args s 0 0 (xA ad)) {N : Nat}    {S : St} (hm : fX8_reachable_9 N   S = some r) : V p l e rmX8_reachable s m args below meth c Q D (xW ad cA) (xA ad) 2 S 9 [] [] := by
  unfold fX8_reachable_9 at hm
  refine v_bipush C (pc := 9) (-3) dX8_reachable_9 rfl ?_
  exact v_iret C hr hQ (pc := 11) hm dX8_reachable_11
def fX8_reachable (N : Nat) (p1 : Int32) (S : St) : Option (Int32 × St) := if p1 < 0 then (fX8_reachable_9 N S) else (if p1 ≤ 4 then (bd (fX1_present N  S) fun r3 S3 => bd (fX5_countWithin N r3 p1 S3) fun r4 S4 => some (r4, S4)) else (fX8_reachable_9 N S))
set_option maxRecDepth 20000 in
theorem vX8_reachable {p : Program} {l : Launch} {e : Env} {s : State} {m : MethodId} {args : Array Value} {below : List Frame} {meth : Method} {c : Code} {Q : State → Prop} {D : va_G} {ad : Nat → Nat} {cA : Nat → ClassId} (C : Ok p s m args c D cA (xW ad cA) (xA ad) (xS ad) RX8 cX8_reachable 2) (hr : Rt meth (some .int)) {r : Int32 × St} (hQ : Q = MQ below (Qo D (xW ad cA) (xA ad) (some (.int r.1)) r.2) args s 0 0 (xA ad)) {N : Nat} {p1 : Int32} {S : St} (hm : fX8_reachable N p1 S = some r) : V p l e rmX8_reachable s m args below meth c Q D (xW ad cA) (xA ad) 2 S 0 [(0, .ref (ad 0)), (1, .int p1)] [] := by
  unfold fX8_reachable at hm
  refine v_iload_n C (pc := 0) 1 dX8_reachable_0 rfl rfl ?_
  refine v_if_lt C (pc := 1) hm 9 dX8_reachable_1 rfl (fun hm => ?_) (fun hm => ?_)
  · exact v_sub [] rfl (vX8_reachable_9 C hr hQ (N := N) hm)
  · refine v_iload_n C (pc := 4) 1 dX8_reachable_4 rfl rfl ?_
    refine v_iconst C (pc := 5) 4 dX8_reachable_5 rfl ?_
    refine v_icmp_le C (pc := 6) hm 12 dX8_reachable_6 rfl (fun hm => ?_) (fun hm => ?_)
    · refine v_aload_n C (pc := 12) 0 dX8_reachable_12 rfl rfl ?_
      refine gX8_51 C (pc := 13) dX8_reachable_13 ?_
      refine v_aload_n C (pc := 16) 0 dX8_reachable_16 rfl rfl ?_
      refine gX8_44 C (pc := 17) dX8_reachable_17 ?_
      refine kX8_132 C (Nat.le_of_ble_eq_true rfl) (Nat.le_of_ble_eq_true rfl) (pc := 20) hm (Nat.le_of_ble_eq_true rfl) dX8_reachable_20 (fun r3 S3 hm => ?_)
      refine v_iload_n C (pc := 23) 1 dX8_reachable_23 rfl rfl ?_
      refine kX8_250 C (Nat.le_of_ble_eq_true rfl) (Nat.le_of_ble_eq_true rfl) (pc := 24) hm (Nat.le_of_ble_eq_true rfl) dX8_reachable_24 (fun r4 S4 hm => ?_)
      exact v_iret C hr hQ (pc := 27) hm dX8_reachable_27
    · exact v_sub [] rfl (vX8_reachable_9 C hr hQ (N := N) hm)
theorem mX8_reachable {l : Launch} {D : va_G} {ad : Nat → Nat} {cA : Nat → ClassId} (hD : ∀ S, va_D (xA ad) (xW ad cA S)) {N : Nat} {p1 : Int32} {S : St} {r : Int32 × St} (hm : fX8_reachable N p1 S = some r) : Met l yX8_reachable (wsm yX8_reachable cX8_reachable 2 (some .int)) rmX8_reachable (va_Pc [.ref (ad 0), .int p1] (Pre D cA (xW ad cA) (xS ad) S)) (Qo D (xW ad cA) (xA ad) (some (.int r.1)) r.2) 0 0 (xA ad) := met_of [.ref (ad 0), .int p1] (by decide) (Nat.le_of_ble_eq_true rfl) hD (xS_mv ad) (xS_kp ad) (fun p e s m below meth c C hr => vX8_reachable C hr rfl (N := N)  hm)
