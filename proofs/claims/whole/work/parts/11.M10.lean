-- X9_isOpen
def rmX9_isOpen : Room := { frames := 3, cells := 0, slots := 0, locals := 69 }
def fX9_isOpen_34 (N : Nat)  (s0 : Bool) (S : St) : Option (Int32 × St) := some ((b2i s0), S)
set_option maxRecDepth 20000 in
theorem vX9_isOpen_34 {p : Program} {l : Launch} {e : Env} {s : State} {m : MethodId} {args : Array Value} {below : List Frame} {meth : Method} {c : Code} {Q : State → Prop} {D : va_G} {ad : Nat → Nat} {cA : Nat → ClassId} (C : Ok p s m args c D cA (mW ad cA) (mA ad) mS RX9 cX9_isOpen 2) (hr : Rt meth (some .int)) {r : Int32 × St} (hQ : Q = MQ below (Qo D (mW ad cA) (mA ad) (some (.int r.1)) r.2) args s 0 0 (mA ad)) {N : Nat}  {s0 : Bool}  {S : St} (hm : fX9_isOpen_34 N  s0 S = some r) : V p l e rmX9_isOpen s m args below meth c Q D (mW ad cA) (mA ad) 2 S 34 [] [.int (b2i s0)] := by
  unfold fX9_isOpen_34 at hm
  exact v_iret C hr hQ (pc := 34) hm dX9_isOpen_34
def fX9_isOpen (N : Nat) (p1 : Int32) (S : St) : Option (Int32 × St) := bd (fX9_isGroup N p1 S) fun r3 S3 => if (b2i r3) = 0 then (some ((-3), S3)) else (bd (fX9_layOwners N  S3) fun r4 S4 => ck p1 4 (ck p1 4 (if (S4.2.2.1 19 (Int32.toNatClampNeg p1)) < (S4.2.2.1 0 (Int32.toNatClampNeg p1)) then (fX9_isOpen_34 N false S4) else (fX9_isOpen_34 N true S4))))
set_option maxRecDepth 20000 in
theorem vX9_isOpen {p : Program} {l : Launch} {e : Env} {s : State} {m : MethodId} {args : Array Value} {below : List Frame} {meth : Method} {c : Code} {Q : State → Prop} {D : va_G} {ad : Nat → Nat} {cA : Nat → ClassId} (C : Ok p s m args c D cA (mW ad cA) (mA ad) mS RX9 cX9_isOpen 2) (hr : Rt meth (some .int)) {r : Int32 × St} (hQ : Q = MQ below (Qo D (mW ad cA) (mA ad) (some (.int r.1)) r.2) args s 0 0 (mA ad)) {N : Nat} {p1 : Int32} {S : St} (hm : fX9_isOpen N p1 S = some r) : V p l e rmX9_isOpen s m args below meth c Q D (mW ad cA) (mA ad) 2 S 0 [(0, .ref (ad 0)), (1, .int p1)] [] := by
  unfold fX9_isOpen at hm
  refine v_iload_n C (pc := 0) 1 dX9_isOpen_0 rfl rfl ?_
  refine kX9_252 C (Nat.le_of_ble_eq_true rfl) (Nat.le_of_ble_eq_true rfl) (pc := 1) hm (Nat.le_of_ble_eq_true rfl) dX9_isOpen_1 (fun r3 S3 hm => ?_)
  refine v_if_ne C (pc := 4) hm 10 dX9_isOpen_4 rfl (fun hm => ?_) (fun hm => ?_)
  · refine v_aload_n C (pc := 10) 0 dX9_isOpen_10 rfl rfl ?_
    refine kX9_201 C (Nat.le_of_ble_eq_true rfl) (Nat.le_of_ble_eq_true rfl) (pc := 11) hm (Nat.le_of_ble_eq_true rfl) dX9_isOpen_11 (fun r4 S4 hm => ?_)
    refine v_aload_n C (pc := 14) 0 dX9_isOpen_14 rfl rfl ?_
    refine gX9_68 C (pc := 15) dX9_isOpen_15 ?_
    refine v_iload_n C (pc := 18) 1 dX9_isOpen_18 rfl rfl ?_
    refine ldX9_loadOf C (pc := 19) hm dX9_isOpen_19 (fun hm => ?_)
    refine v_aload_n C (pc := 20) 0 dX9_isOpen_20 rfl rfl ?_
    refine gX9_7 C (pc := 21) dX9_isOpen_21 ?_
    refine v_iload_n C (pc := 24) 1 dX9_isOpen_24 rfl rfl ?_
    refine ldX9_threshold C (pc := 25) hm dX9_isOpen_25 (fun hm => ?_)
    refine v_icmp_lt C (pc := 26) hm 33 dX9_isOpen_26 rfl (fun hm => ?_) (fun hm => ?_)
    · refine v_iconst C (pc := 33) 0 dX9_isOpen_33 rfl ?_
      exact v_sub [] rfl (vX9_isOpen_34 C hr hQ (N := N) hm)
    · refine v_iconst C (pc := 29) 1 dX9_isOpen_29 rfl ?_
      refine v_goto C (pc := 30) 34 dX9_isOpen_30 rfl ?_
      exact v_sub [] rfl (vX9_isOpen_34 C hr hQ (N := N) hm)
  · refine v_bipush C (pc := 7) (-3) dX9_isOpen_7 rfl ?_
    exact v_iret C hr hQ (pc := 9) hm dX9_isOpen_9
theorem mX9_isOpen {l : Launch} {D : va_G} {ad : Nat → Nat} {cA : Nat → ClassId} (hD : ∀ S, va_D (mA ad) (mW ad cA S)) {N : Nat} {p1 : Int32} {S : St} {r : Int32 × St} (hm : fX9_isOpen N p1 S = some r) : Met l yX9_isOpen (wsm yX9_isOpen cX9_isOpen 2 (some .int)) rmX9_isOpen (va_Pc [.ref (ad 0), .int p1] (Pre D cA (mW ad cA) mS S)) (Qo D (mW ad cA) (mA ad) (some (.int r.1)) r.2) 0 0 (mA ad) := met_of [.ref (ad 0), .int p1] (by decide) (Nat.le_of_ble_eq_true rfl) hD (fun _ _ _ _ h => h) (fun _ _ _ _ h => h) (fun p e s m below meth c C hr => vX9_isOpen C hr rfl (N := N)  hm)
-- X9_save
def rmX9_save : Room := { frames := 1, cells := 0, slots := 0, locals := 23 }
def fX9_save_26 (N : Nat)  (s0 : Bool) (x1 : Int32) (S : St) : Option (Int32 × St) := ck x1 4 (stp (sA S 22 (Int32.toNatClampNeg x1) (vp_nar .boolean 1)) fun S5 => bd (fX9_packed N  S5) fun r3 S6 => ck x1 4 (stp (sL S6 2 (Int32.toNatClampNeg x1) r3) fun S7 => some ((b2i s0), S7)))
set_option maxRecDepth 20000 in
theorem vX9_save_26 {p : Program} {l : Launch} {e : Env} {s : State} {m : MethodId} {args : Array Value} {below : List Frame} {meth : Method} {c : Code} {Q : State → Prop} {D : va_G} {ad : Nat → Nat} {cA : Nat → ClassId} (C : Ok p s m args c D cA (mW ad cA) (mA ad) mS RX9 cX9_save 3) (hr : Rt meth (some .int)) {r : Int32 × St} (hQ : Q = MQ below (Qo D (mW ad cA) (mA ad) (some (.int r.1)) r.2) args s 0 0 (mA ad)) {N : Nat}  {s0 : Bool} {x1 : Int32}  {S : St} (hm : fX9_save_26 N  s0 x1 S = some r) : V p l e rmX9_save s m args below meth c Q D (mW ad cA) (mA ad) 3 S 26 [(0, .ref (ad 0)), (1, .int x1)] [.int (b2i s0)] := by
  unfold fX9_save_26 at hm
  refine v_istore_n C (pc := 26) [(2, .int (b2i s0)), (0, .ref (ad 0)), (1, .int x1)] dX9_save_26 rfl (by decide) rfl ?_
  refine v_aload_n C (pc := 27) 1 dX9_save_27 rfl rfl ?_
  refine gX9_84 C (pc := 28) dX9_save_28 ?_
  refine v_iload_n C (pc := 31) 2 dX9_save_31 rfl rfl ?_
  refine v_iconst C (pc := 32) 1 dX9_save_32 rfl ?_
  refine stX9_isSaved C (pc := 33) hm dX9_save_33 (fun S5 hm => ?_)
  refine v_aload_n C (pc := 34) 1 dX9_save_34 rfl rfl ?_
  refine gX9_88 C (pc := 35) dX9_save_35 ?_
  refine v_iload_n C (pc := 38) 2 dX9_save_38 rfl rfl ?_
  refine v_aload_n C (pc := 39) 1 dX9_save_39 rfl rfl ?_
  refine kX9_217 C (Nat.le_of_ble_eq_true rfl) (Nat.le_of_ble_eq_true rfl) (pc := 40) hm (Nat.le_of_ble_eq_true rfl) dX9_save_40 (fun r3 S6 hm => ?_)
  refine stX9_savedOf C (pc := 43) hm dX9_save_43 (fun S7 hm => ?_)
  refine v_iload_n C (pc := 44) 0 dX9_save_44 rfl rfl ?_
  exact v_iret C hr hQ (pc := 45) hm dX9_save_45
def fX9_save (N : Nat) (p1 : Int32) (S : St) : Option (Int32 × St) := bd (fX9_in N p1 0 3 S) fun r4 S8 => if (b2i r4) = 0 then (some ((-3), S8)) else (ck p1 4 (if (S8.2.2.1 22 (Int32.toNatClampNeg p1)) = 0 then (fX9_save_26 N true p1 S8) else (fX9_save_26 N false p1 S8)))
set_option maxRecDepth 20000 in
theorem vX9_save {p : Program} {l : Launch} {e : Env} {s : State} {m : MethodId} {args : Array Value} {below : List Frame} {meth : Method} {c : Code} {Q : State → Prop} {D : va_G} {ad : Nat → Nat} {cA : Nat → ClassId} (C : Ok p s m args c D cA (mW ad cA) (mA ad) mS RX9 cX9_save 3) (hr : Rt meth (some .int)) {r : Int32 × St} (hQ : Q = MQ below (Qo D (mW ad cA) (mA ad) (some (.int r.1)) r.2) args s 0 0 (mA ad)) {N : Nat} {p1 : Int32} {S : St} (hm : fX9_save N p1 S = some r) : V p l e rmX9_save s m args below meth c Q D (mW ad cA) (mA ad) 3 S 0 [(0, .ref (ad 0)), (1, .int p1)] [] := by
  unfold fX9_save at hm
  refine v_iload_n C (pc := 0) 1 dX9_save_0 rfl rfl ?_
  refine v_iconst C (pc := 1) 0 dX9_save_1 rfl ?_
  refine v_iconst C (pc := 2) 3 dX9_save_2 rfl ?_
  refine kX9_119 C (Nat.le_of_ble_eq_true rfl) (Nat.le_of_ble_eq_true rfl) (pc := 3) hm (Nat.le_of_ble_eq_true rfl) dX9_save_3 (fun r4 S8 hm => ?_)
  refine v_if_ne C (pc := 6) hm 12 dX9_save_6 rfl (fun hm => ?_) (fun hm => ?_)
  · refine v_aload_n C (pc := 12) 0 dX9_save_12 rfl rfl ?_
    refine gX9_84 C (pc := 13) dX9_save_13 ?_
    refine v_iload_n C (pc := 16) 1 dX9_save_16 rfl rfl ?_
    refine ldX9_isSaved C (pc := 17) hm dX9_save_17 (fun hm => ?_)
    refine v_if_eq C (pc := 18) hm 25 dX9_save_18 rfl (fun hm => ?_) (fun hm => ?_)
    · refine v_iconst C (pc := 25) 1 dX9_save_25 rfl ?_
      exact (vX9_save_26 C hr hQ (N := N) hm)
    · refine v_iconst C (pc := 21) 0 dX9_save_21 rfl ?_
      refine v_goto C (pc := 22) 26 dX9_save_22 rfl ?_
      exact (vX9_save_26 C hr hQ (N := N) hm)
  · refine v_bipush C (pc := 9) (-3) dX9_save_9 rfl ?_
    exact v_iret C hr hQ (pc := 11) hm dX9_save_11
theorem mX9_save {l : Launch} {D : va_G} {ad : Nat → Nat} {cA : Nat → ClassId} (hD : ∀ S, va_D (mA ad) (mW ad cA S)) {N : Nat} {p1 : Int32} {S : St} {r : Int32 × St} (hm : fX9_save N p1 S = some r) : Met l yX9_save (wsm yX9_save cX9_save 3 (some .int)) rmX9_save (va_Pc [.ref (ad 0), .int p1] (Pre D cA (mW ad cA) mS S)) (Qo D (mW ad cA) (mA ad) (some (.int r.1)) r.2) 0 0 (mA ad) := met_of [.ref (ad 0), .int p1] (by decide) (Nat.le_of_ble_eq_true rfl) hD (fun _ _ _ _ h => h) (fun _ _ _ _ h => h) (fun p e s m below meth c C hr => vX9_save C hr rfl (N := N)  hm)
-- X9_restore
def rmX9_restore : Room := { frames := 1, cells := 0, slots := 0, locals := 25 }
def fX9_restore_75 (N : Nat) (k45 : Int64 → Int32 → Int32 → St → Option (Int32 × St)) (s0 : Bool) (s1 : Int32) (x2 : Int64) (x5 : Int32) (S : St) : Option (Int32 × St) := nm (s1 + (b2i s0)) fun y8 => nm (x2 / 256) fun y9 => k45 y9 y8 (x5 + 1) S
set_option maxRecDepth 20000 in
theorem vX9_restore_75 {p : Program} {l : Launch} {e : Env} {s : State} {m : MethodId} {args : Array Value} {below : List Frame} {meth : Method} {c : Code} {Q : State → Prop} {D : va_G} {ad : Nat → Nat} {cA : Nat → ClassId} (C : Ok p s m args c D cA (mW ad cA) (mA ad) mS RX9 cX9_restore 6) (hr : Rt meth (some .int)) {r : Int32 × St} (hQ : Q = MQ below (Qo D (mW ad cA) (mA ad) (some (.int r.1)) r.2) args s 0 0 (mA ad)) {N : Nat} {k45 : Int64 → Int32 → Int32 → St → Option (Int32 × St)} (hk45 : ∀ (x2 : Int64) (x4 : Int32) (x5 : Int32) (S : St), k45 x2 x4 x5 S = some r → V p l e rmX9_restore s m args below meth c Q D (mW ad cA) (mA ad) 6 S 45 [(0, .ref (ad 0)), (2, .long x2), (4, .int x4), (5, .int x5)] []) {s0 : Bool} {s1 : Int32} {x2 : Int64} {x5 : Int32}  {S : St} (hm : fX9_restore_75 N k45 s0 s1 x2 x5 S = some r) : V p l e rmX9_restore s m args below meth c Q D (mW ad cA) (mA ad) 6 S 75 [(0, .ref (ad 0)), (2, .long x2), (5, .int x5)] [.int (b2i s0), .int s1] := by
  unfold fX9_restore_75 at hm
  refine v_iadd C (pc := 75) dX9_restore_75 ?_
  refine v_istoreN C (pc := 76) [(0, .ref (ad 0)), (2, .long x2), (5, .int x5)] hm dX9_restore_76 (by decide) rfl (fun y8 hm => ?_)
  refine v_lload_n C (pc := 78) 2 dX9_restore_78 rfl rfl ?_
  refine v_ldc2 C (pc := 79) dX9_restore_79 clX9_159 ?_
  refine v_ldiv C (pc := 82) dX9_restore_82 (by decide) ?_
  refine v_lstore_nN C (pc := 83) [(4, .int y8), (0, .ref (ad 0)), (5, .int x5)] hm dX9_restore_83 rfl (by decide) rfl (fun y9 hm => ?_)
  refine v_iinc C (pc := 84) 1 3 [(5, .int (x5 + 1)), (2, .long y9), (4, .int y8), (0, .ref (ad 0))] dX9_restore_84 rfl rfl (by decide) rfl ?_
  refine v_goto C (pc := 87) 45 dX9_restore_87 rfl ?_
  exact v_sub [3, 1, 2, 0] rfl (hk45 _ _ _ _ hm)
def fX9_restore_45b (N : Nat)  (k45 : Int64 → Int32 → Int32 → St → Option (Int32 × St)) (x2 : Int64) (x4 : Int32) (x5 : Int32) (S : St) : Option (Int32 × St) := if 5 ≤ x5 then (stp (sI S 8 0) fun S8 => stp (sI S8 9 0) fun S9 => some (x4, S9)) else (ck x5 5 (if (lg_cmp (x2 - x2 / 256 * 256) (Int32.toInt64 (S.2.2.1 9 (Int32.toNatClampNeg x5)))) = 0 then (fX9_restore_75 N k45 false x4 x2 x5 S) else (fX9_restore_75 N k45 true x4 x2 x5 S)))
def fX9_restore_45 (N : Nat)  : Nat → Int64 → Int32 → Int32 → St → Option (Int32 × St)
  | 0 => fun _ _ _ _ => none
  | n + 1 => fun x2 x4 x5 S => fX9_restore_45b N  (fX9_restore_45 N  n) x2 x4 x5 S
set_option maxRecDepth 20000 in
theorem vX9_restore_45b {p : Program} {l : Launch} {e : Env} {s : State} {m : MethodId} {args : Array Value} {below : List Frame} {meth : Method} {c : Code} {Q : State → Prop} {D : va_G} {ad : Nat → Nat} {cA : Nat → ClassId} (C : Ok p s m args c D cA (mW ad cA) (mA ad) mS RX9 cX9_restore 6) (hr : Rt meth (some .int)) {r : Int32 × St} (hQ : Q = MQ below (Qo D (mW ad cA) (mA ad) (some (.int r.1)) r.2) args s 0 0 (mA ad)) {N : Nat}  {k45 : Int64 → Int32 → Int32 → St → Option (Int32 × St)} (hk45 : ∀ (x2 : Int64) (x4 : Int32) (x5 : Int32) (S : St), k45 x2 x4 x5 S = some r → V p l e rmX9_restore s m args below meth c Q D (mW ad cA) (mA ad) 6 S 45 [(0, .ref (ad 0)), (2, .long x2), (4, .int x4), (5, .int x5)] []) {x2 : Int64} {x4 : Int32} {x5 : Int32}  {S : St} (hm : fX9_restore_45b N  k45 x2 x4 x5 S = some r) : V p l e rmX9_restore s m args below meth c Q D (mW ad cA) (mA ad) 6 S 45 [(0, .ref (ad 0)), (2, .long x2), (4, .int x4), (5, .int x5)] [] := by
  unfold fX9_restore_45b at hm
  refine v_iload C (pc := 45) 3 dX9_restore_45 rfl ?_
  refine v_iconst C (pc := 47) 5 dX9_restore_47 rfl ?_
  refine v_icmp_ge C (pc := 48) hm 90 dX9_restore_48 rfl (fun hm => ?_) (fun hm => ?_)
  · refine v_aload_n C (pc := 90) 0 dX9_restore_90 rfl rfl ?_
    refine v_iconst C (pc := 91) 0 dX9_restore_91 rfl ?_
    refine pX9_153 C (pc := 92) hm dX9_restore_92 (fun S8 hm => ?_)
    refine v_aload_n C (pc := 95) 0 dX9_restore_95 rfl rfl ?_
    refine v_iconst C (pc := 96) 0 dX9_restore_96 rfl ?_
    refine pX9_156 C (pc := 97) hm dX9_restore_97 (fun S9 hm => ?_)
    refine v_iload C (pc := 100) 2 dX9_restore_100 rfl ?_
    exact v_iret C hr hQ (pc := 102) hm dX9_restore_102
  · refine v_iload C (pc := 51) 2 dX9_restore_51 rfl ?_
    refine v_lload_n C (pc := 53) 1 dX9_restore_53 rfl rfl ?_
    refine v_ldc2 C (pc := 54) dX9_restore_54 clX9_159 ?_
    refine v_lrem C (pc := 57) dX9_restore_57 (by decide) ?_
    refine v_aload_n C (pc := 58) 0 dX9_restore_58 rfl rfl ?_
    refine gX9_37 C (pc := 59) dX9_restore_59 ?_
    refine v_iload C (pc := 62) 3 dX9_restore_62 rfl ?_
    refine ldX9_placeOf C (pc := 64) hm dX9_restore_64 (fun hm => ?_)
    refine v_i2l C (pc := 65) dX9_restore_65 ?_
    refine v_lcmp C (pc := 66) dX9_restore_66 ?_
    refine v_if_eq C (pc := 67) hm 74 dX9_restore_67 rfl (fun hm => ?_) (fun hm => ?_)
    · refine v_iconst C (pc := 74) 0 dX9_restore_74 rfl ?_
      exact v_sub [0, 1, 3] rfl (vX9_restore_75 C hr hQ (N := N) hk45 hm)
    · refine v_iconst C (pc := 70) 1 dX9_restore_70 rfl ?_
      refine v_goto C (pc := 71) 75 dX9_restore_71 rfl ?_
      exact v_sub [0, 1, 3] rfl (vX9_restore_75 C hr hQ (N := N) hk45 hm)
theorem vX9_restore_45 {p : Program} {l : Launch} {e : Env} {s : State} {m : MethodId} {args : Array Value} {below : List Frame} {meth : Method} {c : Code} {Q : State → Prop} {D : va_G} {ad : Nat → Nat} {cA : Nat → ClassId} (C : Ok p s m args c D cA (mW ad cA) (mA ad) mS RX9 cX9_restore 6) (hr : Rt meth (some .int)) {r : Int32 × St} (hQ : Q = MQ below (Qo D (mW ad cA) (mA ad) (some (.int r.1)) r.2) args s 0 0 (mA ad)) {N : Nat}  (n : Nat) : ∀ (x2 : Int64) (x4 : Int32) (x5 : Int32) (S : St), fX9_restore_45 N  n x2 x4 x5 S = some r → V p l e rmX9_restore s m args below meth c Q D (mW ad cA) (mA ad) 6 S 45 [(0, .ref (ad 0)), (2, .long x2), (4, .int x4), (5, .int x5)] [] := by
  induction n with
  | zero => intro _ _ _ _  hm; exact absurd hm (by intro h; cases h)
  | succ n ih => intro _ _ _ _  hm; exact vX9_restore_45b C hr hQ (N := N)   ih  hm
def fX9_restore (N : Nat) (p1 : Int32) (S : St) : Option (Int32 × St) := bd (fX9_in N p1 0 3 S) fun r10 S10 => if (b2i r10) = 0 then (some ((-3), S10)) else (ck p1 4 (if (S10.2.2.1 22 (Int32.toNatClampNeg p1)) = 0 then (some ((-7), S10)) else (bd (fX9_packed N  S10) fun r11 S11 => ck p1 4 (bd (fX9_unpack N (S11.2.2.2 2 (Int32.toNatClampNeg p1)) S11) fun r12 S12 => fX9_restore_45 N N r11 0 0 S12))))
set_option maxRecDepth 20000 in
theorem vX9_restore {p : Program} {l : Launch} {e : Env} {s : State} {m : MethodId} {args : Array Value} {below : List Frame} {meth : Method} {c : Code} {Q : State → Prop} {D : va_G} {ad : Nat → Nat} {cA : Nat → ClassId} (C : Ok p s m args c D cA (mW ad cA) (mA ad) mS RX9 cX9_restore 6) (hr : Rt meth (some .int)) {r : Int32 × St} (hQ : Q = MQ below (Qo D (mW ad cA) (mA ad) (some (.int r.1)) r.2) args s 0 0 (mA ad)) {N : Nat} {p1 : Int32} {S : St} (hm : fX9_restore N p1 S = some r) : V p l e rmX9_restore s m args below meth c Q D (mW ad cA) (mA ad) 6 S 0 [(0, .ref (ad 0)), (1, .int p1)] [] := by
  unfold fX9_restore at hm
  refine v_iload_n C (pc := 0) 1 dX9_restore_0 rfl rfl ?_
  refine v_iconst C (pc := 1) 0 dX9_restore_1 rfl ?_
  refine v_iconst C (pc := 2) 3 dX9_restore_2 rfl ?_
  refine kX9_119 C (Nat.le_of_ble_eq_true rfl) (Nat.le_of_ble_eq_true rfl) (pc := 3) hm (Nat.le_of_ble_eq_true rfl) dX9_restore_3 (fun r10 S10 hm => ?_)
  refine v_if_ne C (pc := 6) hm 12 dX9_restore_6 rfl (fun hm => ?_) (fun hm => ?_)
  · refine v_aload_n C (pc := 12) 0 dX9_restore_12 rfl rfl ?_
    refine gX9_84 C (pc := 13) dX9_restore_13 ?_
    refine v_iload_n C (pc := 16) 1 dX9_restore_16 rfl rfl ?_
    refine ldX9_isSaved C (pc := 17) hm dX9_restore_17 (fun hm => ?_)
    refine v_if_ne C (pc := 18) hm 24 dX9_restore_18 rfl (fun hm => ?_) (fun hm => ?_)
    · refine v_aload_n C (pc := 24) 0 dX9_restore_24 rfl rfl ?_
      refine kX9_217 C (Nat.le_of_ble_eq_true rfl) (Nat.le_of_ble_eq_true rfl) (pc := 25) hm (Nat.le_of_ble_eq_true rfl) dX9_restore_25 (fun r11 S11 hm => ?_)
      refine v_lstore_n C (pc := 28) [(2, .long r11), (0, .ref (ad 0)), (1, .int p1)] dX9_restore_28 rfl (by decide) rfl ?_
      refine v_aload_n C (pc := 29) 1 dX9_restore_29 rfl rfl ?_
      refine v_aload_n C (pc := 30) 1 dX9_restore_30 rfl rfl ?_
      refine gX9_88 C (pc := 31) dX9_restore_31 ?_
      refine v_iload_n C (pc := 34) 2 dX9_restore_34 rfl rfl ?_
      refine ldX9_savedOf C (pc := 35) hm dX9_restore_35 (fun hm => ?_)
      refine kX9_242 C (Nat.le_of_ble_eq_true rfl) (Nat.le_of_ble_eq_true rfl) (pc := 36) hm (Nat.le_of_ble_eq_true rfl) dX9_restore_36 (fun r12 S12 hm => ?_)
      refine v_iconst C (pc := 39) 0 dX9_restore_39 rfl ?_
      refine v_istore C (pc := 40) [(4, .int 0), (2, .long r11), (0, .ref (ad 0)), (1, .int p1)] dX9_restore_40 (by decide) rfl ?_
      refine v_iconst C (pc := 42) 0 dX9_restore_42 rfl ?_
      refine v_istore C (pc := 43) [(5, .int 0), (4, .int 0), (2, .long r11), (0, .ref (ad 0)), (1, .int p1)] dX9_restore_43 (by decide) rfl ?_
      exact v_sub [3, 2, 1, 0] rfl (vX9_restore_45 C hr hQ (N := N) N _ _ _ _ hm)
    · refine v_bipush C (pc := 21) (-7) dX9_restore_21 rfl ?_
      exact v_iret C hr hQ (pc := 23) hm dX9_restore_23
  · refine v_bipush C (pc := 9) (-3) dX9_restore_9 rfl ?_
    exact v_iret C hr hQ (pc := 11) hm dX9_restore_11
theorem mX9_restore {l : Launch} {D : va_G} {ad : Nat → Nat} {cA : Nat → ClassId} (hD : ∀ S, va_D (mA ad) (mW ad cA S)) {N : Nat} {p1 : Int32} {S : St} {r : Int32 × St} (hm : fX9_restore N p1 S = some r) : Met l yX9_restore (wsm yX9_restore cX9_restore 6 (some .int)) rmX9_restore (va_Pc [.ref (ad 0), .int p1] (Pre D cA (mW ad cA) mS S)) (Qo D (mW ad cA) (mA ad) (some (.int r.1)) r.2) 0 0 (mA ad) := met_of [.ref (ad 0), .int p1] (by decide) (Nat.le_of_ble_eq_true rfl) hD (fun _ _ _ _ h => h) (fun _ _ _ _ h => h) (fun p e s m below meth c C hr => vX9_restore C hr rfl (N := N)  hm)
-- X9_isFree
def rmX9_isFree : Room := { frames := 2, cells := 0, slots := 0, locals := 44 }
def fX9_isFree_24 (N : Nat)  (s0 : Bool) (S : St) : Option (Bool × St) := some (s0, S)
set_option maxRecDepth 20000 in
theorem vX9_isFree_24 {p : Program} {l : Launch} {e : Env} {s : State} {m : MethodId} {args : Array Value} {below : List Frame} {meth : Method} {c : Code} {Q : State → Prop} {D : va_G} {ad : Nat → Nat} {cA : Nat → ClassId} (C : Ok p s m args c D cA (mW ad cA) (mA ad) mS RX9 cX9_isFree 3) (hr : Rt meth (some .boolean)) {r : Bool × St} (hQ : Q = MQ below (Qo D (mW ad cA) (mA ad) (some (.int (b2i r.1))) r.2) args s 0 0 (mA ad)) {N : Nat}  {s0 : Bool}  {S : St} (hm : fX9_isFree_24 N  s0 S = some r) : V p l e rmX9_isFree s m args below meth c Q D (mW ad cA) (mA ad) 3 S 24 [] [.int (b2i s0)] := by
  unfold fX9_isFree_24 at hm
  exact v_zret C hr hQ (x := s0) (pc := 24) hm dX9_isFree_24
def fX9_isFree_23 (N : Nat)   (S : St) : Option (Bool × St) := fX9_isFree_24 N false S
set_option maxRecDepth 20000 in
theorem vX9_isFree_23 {p : Program} {l : Launch} {e : Env} {s : State} {m : MethodId} {args : Array Value} {below : List Frame} {meth : Method} {c : Code} {Q : State → Prop} {D : va_G} {ad : Nat → Nat} {cA : Nat → ClassId} (C : Ok p s m args c D cA (mW ad cA) (mA ad) mS RX9 cX9_isFree 3) (hr : Rt meth (some .boolean)) {r : Bool × St} (hQ : Q = MQ below (Qo D (mW ad cA) (mA ad) (some (.int (b2i r.1))) r.2) args s 0 0 (mA ad)) {N : Nat}    {S : St} (hm : fX9_isFree_23 N   S = some r) : V p l e rmX9_isFree s m args below meth c Q D (mW ad cA) (mA ad) 3 S 23 [] [] := by
  unfold fX9_isFree_23 at hm
  refine v_iconst C (pc := 23) 0 dX9_isFree_23 rfl ?_
  exact (vX9_isFree_24 C hr hQ (N := N) hm)
def fX9_isFree (N : Nat) (p1 : Int32) (p2 : Int32) (S : St) : Option (Bool × St) := bd (fX9_isInYard N p1 p2 S) fun r3 S3 => if (b2i r3) = 0 then (fX9_isFree_23 N S3) else (bd (fX9_kindAt N p1 p2 S3) fun r4 S4 => if r4 = 1 then (fX9_isFree_23 N S4) else (fX9_isFree_24 N true S4))
set_option maxRecDepth 20000 in
theorem vX9_isFree {p : Program} {l : Launch} {e : Env} {s : State} {m : MethodId} {args : Array Value} {below : List Frame} {meth : Method} {c : Code} {Q : State → Prop} {D : va_G} {ad : Nat → Nat} {cA : Nat → ClassId} (C : Ok p s m args c D cA (mW ad cA) (mA ad) mS RX9 cX9_isFree 3) (hr : Rt meth (some .boolean)) {r : Bool × St} (hQ : Q = MQ below (Qo D (mW ad cA) (mA ad) (some (.int (b2i r.1))) r.2) args s 0 0 (mA ad)) {N : Nat} {p1 : Int32} {p2 : Int32} {S : St} (hm : fX9_isFree N p1 p2 S = some r) : V p l e rmX9_isFree s m args below meth c Q D (mW ad cA) (mA ad) 3 S 0 [(0, .ref (ad 0)), (1, .int p1), (2, .int p2)] [] := by
  unfold fX9_isFree at hm
  refine v_aload_n C (pc := 0) 0 dX9_isFree_0 rfl rfl ?_
  refine v_iload_n C (pc := 1) 1 dX9_isFree_1 rfl rfl ?_
  refine v_iload_n C (pc := 2) 2 dX9_isFree_2 rfl rfl ?_
  refine kX9_167 C (Nat.le_of_ble_eq_true rfl) (Nat.le_of_ble_eq_true rfl) (pc := 3) hm (Nat.le_of_ble_eq_true rfl) dX9_isFree_3 (fun r3 S3 hm => ?_)
  refine v_if_eq C (pc := 6) hm 23 dX9_isFree_6 rfl (fun hm => ?_) (fun hm => ?_)
  · exact v_sub [] rfl (vX9_isFree_23 C hr hQ (N := N) hm)
  · refine v_aload_n C (pc := 9) 0 dX9_isFree_9 rfl rfl ?_
    refine v_iload_n C (pc := 10) 1 dX9_isFree_10 rfl rfl ?_
    refine v_iload_n C (pc := 11) 2 dX9_isFree_11 rfl rfl ?_
    refine kX9_171 C (Nat.le_of_ble_eq_true rfl) (Nat.le_of_ble_eq_true rfl) (pc := 12) hm (Nat.le_of_ble_eq_true rfl) dX9_isFree_12 (fun r4 S4 hm => ?_)
    refine v_iconst C (pc := 15) 1 dX9_isFree_15 rfl ?_
    refine v_icmp_eq C (pc := 16) hm 23 dX9_isFree_16 rfl (fun hm => ?_) (fun hm => ?_)
    · exact v_sub [] rfl (vX9_isFree_23 C hr hQ (N := N) hm)
    · refine v_iconst C (pc := 19) 1 dX9_isFree_19 rfl ?_
      refine v_goto C (pc := 20) 24 dX9_isFree_20 rfl ?_
      exact v_sub [] rfl (vX9_isFree_24 C hr hQ (N := N) hm)
theorem mX9_isFree {l : Launch} {D : va_G} {ad : Nat → Nat} {cA : Nat → ClassId} (hD : ∀ S, va_D (mA ad) (mW ad cA S)) {N : Nat} {p1 : Int32} {p2 : Int32} {S : St} {r : Bool × St} (hm : fX9_isFree N p1 p2 S = some r) : Met l yX9_isFree (wsm yX9_isFree cX9_isFree 3 (some .boolean)) rmX9_isFree (va_Pc [.ref (ad 0), .int p1, .int p2] (Pre D cA (mW ad cA) mS S)) (Qo D (mW ad cA) (mA ad) (some (.int (b2i r.1))) r.2) 0 0 (mA ad) := met_of [.ref (ad 0), .int p1, .int p2] (by decide) (Nat.le_of_ble_eq_true rfl) hD (fun _ _ _ _ h => h) (fun _ _ _ _ h => h) (fun p e s m below meth c C hr => vX9_isFree C hr rfl (N := N)  hm)
-- X9_isPlacement
theorem infX9_isFree : InfV yX9_isFree cX9_isFree 3 (some .boolean) 2 := ⟨⟨gm (i := 65) (by decide +kernel) rfl, gm (i := 1172) (by decide +kernel) rfl, by decide +kernel⟩, gm (i := 1171) (by decide +kernel) rfl, gm (i := 41) (by decide +kernel) rfl⟩
theorem kX9_255 {p : Program} {l : Launch} {e : Env} {R : Room} {s : State} {m : MethodId} {args : Array Value} {below : List Frame} {meth : Method} {c : Code} {Q : State → Prop} {D : va_G} {ad : Nat → Nat} {cA : Nat → ClassId} {cc : ByteArray} {nL : Nat} {S : St} {pc : Nat} {lv : List (Nat × Value)} {st : List Value} {ρ : Type} {res : ρ} (C : Ok p s m args c D cA (mW ad cA) (mA ad) mS RX9 cc nL) (hfr : rmX9_isFree.frames + 1 ≤ R.frames) (hlo : 8 + (3 + 11) + rmX9_isFree.locals ≤ R.locals) {N : Nat} {p1 : Int32} {p2 : Int32} {E : Bool → St → Option ρ} (hm : bd (fX9_isFree N p1 p2 S) E = some res) (hcat : (st.map fun v => v.category).sum ≤ 8) (hd : decode cc pc = .ok (.invokevirtual 255, 3)) (k : ∀ r S, E r S = some res → V p l e R s m args below meth c Q D (mW ad cA) (mA ad) nL S (pc + 3) lv (.int (b2i r) :: st)) : V p l e R s m args below meth c Q D (mW ad cA) (mA ad) nL S pc lv (.int p2 :: .int p1 :: .ref (ad 0) :: st) := by
  obtain ⟨r, S1, h1, h2⟩ := bd_some hm
  exact v_callV C (gm (i := 1169) (by decide +kernel) rfl : Cond.methodLink RX9 255 yX9_isFree ∈ gw_tbl) infX9_isFree (rm2 := rmX9_isFree) ⟨rfl, rfl⟩ hfr hlo (mX9_isFree C.2.2.2.2.2.2.1 h1) (As := [.int p1, .int p2]) (oX9 ad cA S) rfl rfl rfl rfl hcat hd (k r S1 h2)
def rmX9_isPlacement : Room := { frames := 3, cells := 0, slots := 0, locals := 66 }
def fX9_isPlacement_62 (N : Nat) (k19 : Int32 → Int32 → Bool → Int32 → St → Option (Bool × St)) (s0 : Bool) (x1 : Int32) (x2 : Int32) (x4 : Int32) (S : St) : Option (Bool × St) := k19 x1 x2 s0 (x4 + 1) S
set_option maxRecDepth 20000 in
theorem vX9_isPlacement_62 {p : Program} {l : Launch} {e : Env} {s : State} {m : MethodId} {args : Array Value} {below : List Frame} {meth : Method} {c : Code} {Q : State → Prop} {D : va_G} {ad : Nat → Nat} {cA : Nat → ClassId} (C : Ok p s m args c D cA (mW ad cA) (mA ad) mS RX9 cX9_isPlacement 5) (hr : Rt meth (some .boolean)) {r : Bool × St} (hQ : Q = MQ below (Qo D (mW ad cA) (mA ad) (some (.int (b2i r.1))) r.2) args s 0 0 (mA ad)) {N : Nat} {k19 : Int32 → Int32 → Bool → Int32 → St → Option (Bool × St)} (hk19 : ∀ (x1 : Int32) (x2 : Int32) (x3 : Bool) (x4 : Int32) (S : St), k19 x1 x2 x3 x4 S = some r → V p l e rmX9_isPlacement s m args below meth c Q D (mW ad cA) (mA ad) 5 S 19 [(0, .ref (ad 0)), (1, .int x1), (2, .int x2), (3, .int (b2i x3)), (4, .int x4)] []) {s0 : Bool} {x1 : Int32} {x2 : Int32} {x4 : Int32}  {S : St} (hm : fX9_isPlacement_62 N k19 s0 x1 x2 x4 S = some r) : V p l e rmX9_isPlacement s m args below meth c Q D (mW ad cA) (mA ad) 5 S 62 [(0, .ref (ad 0)), (1, .int x1), (2, .int x2), (4, .int x4)] [.int (b2i s0)] := by
  unfold fX9_isPlacement_62 at hm
  refine v_istore_n C (pc := 62) [(3, .int (b2i s0)), (0, .ref (ad 0)), (1, .int x1), (2, .int x2), (4, .int x4)] dX9_isPlacement_62 rfl (by decide) rfl ?_
  refine v_iinc C (pc := 63) 1 4 [(4, .int (x4 + 1)), (3, .int (b2i s0)), (0, .ref (ad 0)), (1, .int x1), (2, .int x2)] dX9_isPlacement_63 rfl rfl (by decide) rfl ?_
  refine v_goto C (pc := 66) 19 dX9_isPlacement_66 rfl ?_
  exact v_sub [2, 3, 4, 1, 0] rfl (hk19 _ _ _ _ _ hm)
def fX9_isPlacement_61 (N : Nat) (k19 : Int32 → Int32 → Bool → Int32 → St → Option (Bool × St)) (x1 : Int32) (x2 : Int32) (x4 : Int32) (S : St) : Option (Bool × St) := fX9_isPlacement_62 N k19 false x1 x2 x4 S
set_option maxRecDepth 20000 in
theorem vX9_isPlacement_61 {p : Program} {l : Launch} {e : Env} {s : State} {m : MethodId} {args : Array Value} {below : List Frame} {meth : Method} {c : Code} {Q : State → Prop} {D : va_G} {ad : Nat → Nat} {cA : Nat → ClassId} (C : Ok p s m args c D cA (mW ad cA) (mA ad) mS RX9 cX9_isPlacement 5) (hr : Rt meth (some .boolean)) {r : Bool × St} (hQ : Q = MQ below (Qo D (mW ad cA) (mA ad) (some (.int (b2i r.1))) r.2) args s 0 0 (mA ad)) {N : Nat} {k19 : Int32 → Int32 → Bool → Int32 → St → Option (Bool × St)} (hk19 : ∀ (x1 : Int32) (x2 : Int32) (x3 : Bool) (x4 : Int32) (S : St), k19 x1 x2 x3 x4 S = some r → V p l e rmX9_isPlacement s m args below meth c Q D (mW ad cA) (mA ad) 5 S 19 [(0, .ref (ad 0)), (1, .int x1), (2, .int x2), (3, .int (b2i x3)), (4, .int x4)] []) {x1 : Int32} {x2 : Int32} {x4 : Int32}  {S : St} (hm : fX9_isPlacement_61 N k19 x1 x2 x4 S = some r) : V p l e rmX9_isPlacement s m args below meth c Q D (mW ad cA) (mA ad) 5 S 61 [(0, .ref (ad 0)), (1, .int x1), (2, .int x2), (4, .int x4)] [] := by
  unfold fX9_isPlacement_61 at hm
  refine v_iconst C (pc := 61) 0 dX9_isPlacement_61 rfl ?_
  exact (vX9_isPlacement_62 C hr hQ (N := N) hk19 hm)
def fX9_isPlacement_19b (N : Nat)  (k19 : Int32 → Int32 → Bool → Int32 → St → Option (Bool × St)) (x1 : Int32) (x2 : Int32) (x3 : Bool) (x4 : Int32) (S : St) : Option (Bool × St) := ck x1 5 (if (S.2.2.1 2 (Int32.toNatClampNeg x1)) ≤ x4 then (some (x3, S)) else (if (b2i x3) = 0 then (fX9_isPlacement_61 N k19 x1 x2 x4 S) else (bd (fX9_cellX N x1 x4 x2 S) fun r8 S8 => bd (fX9_cellY N x1 x4 x2 S8) fun r9 S9 => bd (fX9_isFree N r8 r9 S9) fun r10 S10 => if (b2i r10) = 0 then (fX9_isPlacement_61 N k19 x1 x2 x4 S10) else (fX9_isPlacement_62 N k19 true x1 x2 x4 S10))))
def fX9_isPlacement_19 (N : Nat)  : Nat → Int32 → Int32 → Bool → Int32 → St → Option (Bool × St)
  | 0 => fun _ _ _ _ _ => none
  | n + 1 => fun x1 x2 x3 x4 S => fX9_isPlacement_19b N  (fX9_isPlacement_19 N  n) x1 x2 x3 x4 S
set_option maxRecDepth 20000 in
theorem vX9_isPlacement_19b {p : Program} {l : Launch} {e : Env} {s : State} {m : MethodId} {args : Array Value} {below : List Frame} {meth : Method} {c : Code} {Q : State → Prop} {D : va_G} {ad : Nat → Nat} {cA : Nat → ClassId} (C : Ok p s m args c D cA (mW ad cA) (mA ad) mS RX9 cX9_isPlacement 5) (hr : Rt meth (some .boolean)) {r : Bool × St} (hQ : Q = MQ below (Qo D (mW ad cA) (mA ad) (some (.int (b2i r.1))) r.2) args s 0 0 (mA ad)) {N : Nat}  {k19 : Int32 → Int32 → Bool → Int32 → St → Option (Bool × St)} (hk19 : ∀ (x1 : Int32) (x2 : Int32) (x3 : Bool) (x4 : Int32) (S : St), k19 x1 x2 x3 x4 S = some r → V p l e rmX9_isPlacement s m args below meth c Q D (mW ad cA) (mA ad) 5 S 19 [(0, .ref (ad 0)), (1, .int x1), (2, .int x2), (3, .int (b2i x3)), (4, .int x4)] []) {x1 : Int32} {x2 : Int32} {x3 : Bool} {x4 : Int32}  {S : St} (hm : fX9_isPlacement_19b N  k19 x1 x2 x3 x4 S = some r) : V p l e rmX9_isPlacement s m args below meth c Q D (mW ad cA) (mA ad) 5 S 19 [(0, .ref (ad 0)), (1, .int x1), (2, .int x2), (3, .int (b2i x3)), (4, .int x4)] [] := by
  unfold fX9_isPlacement_19b at hm
  refine v_iload C (pc := 19) 4 dX9_isPlacement_19 rfl ?_
  refine v_aload_n C (pc := 21) 0 dX9_isPlacement_21 rfl rfl ?_
  refine gX9_16 C (pc := 22) dX9_isPlacement_22 ?_
  refine v_iload_n C (pc := 25) 1 dX9_isPlacement_25 rfl rfl ?_
  refine ldX9_cells C (pc := 26) hm dX9_isPlacement_26 (fun hm => ?_)
  refine v_icmp_ge C (pc := 27) hm 69 dX9_isPlacement_27 rfl (fun hm => ?_) (fun hm => ?_)
  · refine v_iload_n C (pc := 69) 3 dX9_isPlacement_69 rfl rfl ?_
    exact v_zret C hr hQ (x := x3) (pc := 70) hm dX9_isPlacement_70
  · refine v_iload_n C (pc := 30) 3 dX9_isPlacement_30 rfl rfl ?_
    refine v_if_eq C (pc := 31) hm 61 dX9_isPlacement_31 rfl (fun hm => ?_) (fun hm => ?_)
    · exact v_sub [0, 1, 2, 4] rfl (vX9_isPlacement_61 C hr hQ (N := N) hk19 hm)
    · refine v_aload_n C (pc := 34) 0 dX9_isPlacement_34 rfl rfl ?_
      refine v_aload_n C (pc := 35) 0 dX9_isPlacement_35 rfl rfl ?_
      refine v_iload_n C (pc := 36) 1 dX9_isPlacement_36 rfl rfl ?_
      refine v_iload C (pc := 37) 4 dX9_isPlacement_37 rfl ?_
      refine v_iload_n C (pc := 39) 2 dX9_isPlacement_39 rfl rfl ?_
      refine kX9_164 C (Nat.le_of_ble_eq_true rfl) (Nat.le_of_ble_eq_true rfl) (pc := 40) hm (Nat.le_of_ble_eq_true rfl) dX9_isPlacement_40 (fun r8 S8 hm => ?_)
      refine v_aload_n C (pc := 43) 0 dX9_isPlacement_43 rfl rfl ?_
      refine v_iload_n C (pc := 44) 1 dX9_isPlacement_44 rfl rfl ?_
      refine v_iload C (pc := 45) 4 dX9_isPlacement_45 rfl ?_
      refine v_iload_n C (pc := 47) 2 dX9_isPlacement_47 rfl rfl ?_
      refine kX9_161 C (Nat.le_of_ble_eq_true rfl) (Nat.le_of_ble_eq_true rfl) (pc := 48) hm (Nat.le_of_ble_eq_true rfl) dX9_isPlacement_48 (fun r9 S9 hm => ?_)
      refine kX9_255 C (Nat.le_of_ble_eq_true rfl) (Nat.le_of_ble_eq_true rfl) (pc := 51) hm (Nat.le_of_ble_eq_true rfl) dX9_isPlacement_51 (fun r10 S10 hm => ?_)
      refine v_if_eq C (pc := 54) hm 61 dX9_isPlacement_54 rfl (fun hm => ?_) (fun hm => ?_)
      · exact v_sub [0, 1, 2, 4] rfl (vX9_isPlacement_61 C hr hQ (N := N) hk19 hm)
      · refine v_iconst C (pc := 57) 1 dX9_isPlacement_57 rfl ?_
        refine v_goto C (pc := 58) 62 dX9_isPlacement_58 rfl ?_
        exact v_sub [0, 1, 2, 4] rfl (vX9_isPlacement_62 C hr hQ (N := N) hk19 hm)
theorem vX9_isPlacement_19 {p : Program} {l : Launch} {e : Env} {s : State} {m : MethodId} {args : Array Value} {below : List Frame} {meth : Method} {c : Code} {Q : State → Prop} {D : va_G} {ad : Nat → Nat} {cA : Nat → ClassId} (C : Ok p s m args c D cA (mW ad cA) (mA ad) mS RX9 cX9_isPlacement 5) (hr : Rt meth (some .boolean)) {r : Bool × St} (hQ : Q = MQ below (Qo D (mW ad cA) (mA ad) (some (.int (b2i r.1))) r.2) args s 0 0 (mA ad)) {N : Nat}  (n : Nat) : ∀ (x1 : Int32) (x2 : Int32) (x3 : Bool) (x4 : Int32) (S : St), fX9_isPlacement_19 N  n x1 x2 x3 x4 S = some r → V p l e rmX9_isPlacement s m args below meth c Q D (mW ad cA) (mA ad) 5 S 19 [(0, .ref (ad 0)), (1, .int x1), (2, .int x2), (3, .int (b2i x3)), (4, .int x4)] [] := by
  induction n with
  | zero => intro _ _ _ _ _  hm; exact absurd hm (by intro h; cases h)
  | succ n ih => intro _ _ _ _ _  hm; exact vX9_isPlacement_19b C hr hQ (N := N)   ih  hm
def fX9_isPlacement (N : Nat) (p1 : Int32) (p2 : Int32) (S : St) : Option (Bool × St) := bd (fX9_isFree N (p2 - p2 / 8 * 8) ((p2 / 8) - (p2 / 8) / 8 * 8) S) fun r11 S11 => fX9_isPlacement_19 N N p1 p2 r11 0 S11
set_option maxRecDepth 20000 in
theorem vX9_isPlacement {p : Program} {l : Launch} {e : Env} {s : State} {m : MethodId} {args : Array Value} {below : List Frame} {meth : Method} {c : Code} {Q : State → Prop} {D : va_G} {ad : Nat → Nat} {cA : Nat → ClassId} (C : Ok p s m args c D cA (mW ad cA) (mA ad) mS RX9 cX9_isPlacement 5) (hr : Rt meth (some .boolean)) {r : Bool × St} (hQ : Q = MQ below (Qo D (mW ad cA) (mA ad) (some (.int (b2i r.1))) r.2) args s 0 0 (mA ad)) {N : Nat} {p1 : Int32} {p2 : Int32} {S : St} (hm : fX9_isPlacement N p1 p2 S = some r) : V p l e rmX9_isPlacement s m args below meth c Q D (mW ad cA) (mA ad) 5 S 0 [(0, .ref (ad 0)), (1, .int p1), (2, .int p2)] [] := by
  unfold fX9_isPlacement at hm
  refine v_aload_n C (pc := 0) 0 dX9_isPlacement_0 rfl rfl ?_
  refine v_iload_n C (pc := 1) 2 dX9_isPlacement_1 rfl rfl ?_
  refine v_bipush C (pc := 2) 8 dX9_isPlacement_2 rfl ?_
  refine v_irem C (pc := 4) dX9_isPlacement_4 (by decide) ?_
  refine v_iload_n C (pc := 5) 2 dX9_isPlacement_5 rfl rfl ?_
  refine v_bipush C (pc := 6) 8 dX9_isPlacement_6 rfl ?_
  refine v_idiv C (pc := 8) dX9_isPlacement_8 (by decide) ?_
  refine v_bipush C (pc := 9) 8 dX9_isPlacement_9 rfl ?_
  refine v_irem C (pc := 11) dX9_isPlacement_11 (by decide) ?_
  refine kX9_255 C (Nat.le_of_ble_eq_true rfl) (Nat.le_of_ble_eq_true rfl) (pc := 12) hm (Nat.le_of_ble_eq_true rfl) dX9_isPlacement_12 (fun r11 S11 hm => ?_)
  refine v_istore_n C (pc := 15) [(3, .int (b2i r11)), (0, .ref (ad 0)), (1, .int p1), (2, .int p2)] dX9_isPlacement_15 rfl (by decide) rfl ?_
  refine v_iconst C (pc := 16) 0 dX9_isPlacement_16 rfl ?_
  refine v_istore C (pc := 17) [(4, .int 0), (3, .int (b2i r11)), (0, .ref (ad 0)), (1, .int p1), (2, .int p2)] dX9_isPlacement_17 (by decide) rfl ?_
  exact v_sub [2, 3, 4, 1, 0] rfl (vX9_isPlacement_19 C hr hQ (N := N) N _ _ _ _ _ hm)
theorem mX9_isPlacement {l : Launch} {D : va_G} {ad : Nat → Nat} {cA : Nat → ClassId} (hD : ∀ S, va_D (mA ad) (mW ad cA S)) {N : Nat} {p1 : Int32} {p2 : Int32} {S : St} {r : Bool × St} (hm : fX9_isPlacement N p1 p2 S = some r) : Met l yX9_isPlacement (wsm yX9_isPlacement cX9_isPlacement 5 (some .boolean)) rmX9_isPlacement (va_Pc [.ref (ad 0), .int p1, .int p2] (Pre D cA (mW ad cA) mS S)) (Qo D (mW ad cA) (mA ad) (some (.int (b2i r.1))) r.2) 0 0 (mA ad) := met_of [.ref (ad 0), .int p1, .int p2] (by decide) (Nat.le_of_ble_eq_true rfl) hD (fun _ _ _ _ h => h) (fun _ _ _ _ h => h) (fun p e s m below meth c C hr => vX9_isPlacement C hr rfl (N := N)  hm)
-- X9_maySlideAlone
def rmX9_maySlideAlone : Room := { frames := 3, cells := 0, slots := 0, locals := 66 }
def fX9_maySlideAlone_98 (N : Nat) (k6 : Int32 → Int32 → Int32 → Bool → Int32 → St → Option (Bool × St)) (s0 : Bool) (x1 : Int32) (x2 : Int32) (x3 : Int32) (x5 : Int32) (S : St) : Option (Bool × St) := k6 x1 x2 x3 s0 (x5 + 1) S
set_option maxRecDepth 20000 in
theorem vX9_maySlideAlone_98 {p : Program} {l : Launch} {e : Env} {s : State} {m : MethodId} {args : Array Value} {below : List Frame} {meth : Method} {c : Code} {Q : State → Prop} {D : va_G} {ad : Nat → Nat} {cA : Nat → ClassId} (C : Ok p s m args c D cA (mW ad cA) (mA ad) mS RX9 cX9_maySlideAlone 8) (hr : Rt meth (some .boolean)) {r : Bool × St} (hQ : Q = MQ below (Qo D (mW ad cA) (mA ad) (some (.int (b2i r.1))) r.2) args s 0 0 (mA ad)) {N : Nat} {k6 : Int32 → Int32 → Int32 → Bool → Int32 → St → Option (Bool × St)} (hk6 : ∀ (x1 : Int32) (x2 : Int32) (x3 : Int32) (x4 : Bool) (x5 : Int32) (S : St), k6 x1 x2 x3 x4 x5 S = some r → V p l e rmX9_maySlideAlone s m args below meth c Q D (mW ad cA) (mA ad) 8 S 6 [(0, .ref (ad 0)), (1, .int x1), (2, .int x2), (3, .int x3), (4, .int (b2i x4)), (5, .int x5)] []) {s0 : Bool} {x1 : Int32} {x2 : Int32} {x3 : Int32} {x5 : Int32}  {S : St} (hm : fX9_maySlideAlone_98 N k6 s0 x1 x2 x3 x5 S = some r) : V p l e rmX9_maySlideAlone s m args below meth c Q D (mW ad cA) (mA ad) 8 S 98 [(0, .ref (ad 0)), (1, .int x1), (2, .int x2), (3, .int x3), (5, .int x5)] [.int (b2i s0)] := by
  unfold fX9_maySlideAlone_98 at hm
  refine v_istore C (pc := 98) [(4, .int (b2i s0)), (0, .ref (ad 0)), (1, .int x1), (2, .int x2), (3, .int x3), (5, .int x5)] dX9_maySlideAlone_98 (by decide) rfl ?_
  refine v_iinc C (pc := 100) 1 5 [(5, .int (x5 + 1)), (4, .int (b2i s0)), (0, .ref (ad 0)), (1, .int x1), (2, .int x2), (3, .int x3)] dX9_maySlideAlone_100 rfl rfl (by decide) rfl ?_
  refine v_goto C (pc := 103) 6 dX9_maySlideAlone_103 rfl ?_
  exact v_sub [2, 3, 4, 5, 1, 0] rfl (hk6 _ _ _ _ _ _ hm)
def fX9_maySlideAlone_97 (N : Nat) (k6 : Int32 → Int32 → Int32 → Bool → Int32 → St → Option (Bool × St)) (x1 : Int32) (x2 : Int32) (x3 : Int32) (x5 : Int32) (S : St) : Option (Bool × St) := fX9_maySlideAlone_98 N k6 false x1 x2 x3 x5 S
set_option maxRecDepth 20000 in
theorem vX9_maySlideAlone_97 {p : Program} {l : Launch} {e : Env} {s : State} {m : MethodId} {args : Array Value} {below : List Frame} {meth : Method} {c : Code} {Q : State → Prop} {D : va_G} {ad : Nat → Nat} {cA : Nat → ClassId} (C : Ok p s m args c D cA (mW ad cA) (mA ad) mS RX9 cX9_maySlideAlone 8) (hr : Rt meth (some .boolean)) {r : Bool × St} (hQ : Q = MQ below (Qo D (mW ad cA) (mA ad) (some (.int (b2i r.1))) r.2) args s 0 0 (mA ad)) {N : Nat} {k6 : Int32 → Int32 → Int32 → Bool → Int32 → St → Option (Bool × St)} (hk6 : ∀ (x1 : Int32) (x2 : Int32) (x3 : Int32) (x4 : Bool) (x5 : Int32) (S : St), k6 x1 x2 x3 x4 x5 S = some r → V p l e rmX9_maySlideAlone s m args below meth c Q D (mW ad cA) (mA ad) 8 S 6 [(0, .ref (ad 0)), (1, .int x1), (2, .int x2), (3, .int x3), (4, .int (b2i x4)), (5, .int x5)] []) {x1 : Int32} {x2 : Int32} {x3 : Int32} {x5 : Int32}  {S : St} (hm : fX9_maySlideAlone_97 N k6 x1 x2 x3 x5 S = some r) : V p l e rmX9_maySlideAlone s m args below meth c Q D (mW ad cA) (mA ad) 8 S 97 [(0, .ref (ad 0)), (1, .int x1), (2, .int x2), (3, .int x3), (5, .int x5)] [] := by
  unfold fX9_maySlideAlone_97 at hm
  refine v_iconst C (pc := 97) 0 dX9_maySlideAlone_97 rfl ?_
  exact (vX9_maySlideAlone_98 C hr hQ (N := N) hk6 hm)
def fX9_maySlideAlone_106 (N : Nat)  (x4 : Bool) (S : St) : Option (Bool × St) := some (x4, S)
set_option maxRecDepth 20000 in
theorem vX9_maySlideAlone_106 {p : Program} {l : Launch} {e : Env} {s : State} {m : MethodId} {args : Array Value} {below : List Frame} {meth : Method} {c : Code} {Q : State → Prop} {D : va_G} {ad : Nat → Nat} {cA : Nat → ClassId} (C : Ok p s m args c D cA (mW ad cA) (mA ad) mS RX9 cX9_maySlideAlone 8) (hr : Rt meth (some .boolean)) {r : Bool × St} (hQ : Q = MQ below (Qo D (mW ad cA) (mA ad) (some (.int (b2i r.1))) r.2) args s 0 0 (mA ad)) {N : Nat}  {x4 : Bool}  {S : St} (hm : fX9_maySlideAlone_106 N  x4 S = some r) : V p l e rmX9_maySlideAlone s m args below meth c Q D (mW ad cA) (mA ad) 8 S 106 [(4, .int (b2i x4))] [] := by
  unfold fX9_maySlideAlone_106 at hm
  refine v_iload C (pc := 106) 0 dX9_maySlideAlone_106 rfl ?_
  exact v_zret C hr hQ (x := x4) (pc := 108) hm dX9_maySlideAlone_108
def fX9_maySlideAlone_93 (N : Nat) (k6 : Int32 → Int32 → Int32 → Bool → Int32 → St → Option (Bool × St)) (x1 : Int32) (x2 : Int32) (x3 : Int32) (x5 : Int32) (S : St) : Option (Bool × St) := fX9_maySlideAlone_98 N k6 true x1 x2 x3 x5 S
set_option maxRecDepth 20000 in
theorem vX9_maySlideAlone_93 {p : Program} {l : Launch} {e : Env} {s : State} {m : MethodId} {args : Array Value} {below : List Frame} {meth : Method} {c : Code} {Q : State → Prop} {D : va_G} {ad : Nat → Nat} {cA : Nat → ClassId} (C : Ok p s m args c D cA (mW ad cA) (mA ad) mS RX9 cX9_maySlideAlone 8) (hr : Rt meth (some .boolean)) {r : Bool × St} (hQ : Q = MQ below (Qo D (mW ad cA) (mA ad) (some (.int (b2i r.1))) r.2) args s 0 0 (mA ad)) {N : Nat} {k6 : Int32 → Int32 → Int32 → Bool → Int32 → St → Option (Bool × St)} (hk6 : ∀ (x1 : Int32) (x2 : Int32) (x3 : Int32) (x4 : Bool) (x5 : Int32) (S : St), k6 x1 x2 x3 x4 x5 S = some r → V p l e rmX9_maySlideAlone s m args below meth c Q D (mW ad cA) (mA ad) 8 S 6 [(0, .ref (ad 0)), (1, .int x1), (2, .int x2), (3, .int x3), (4, .int (b2i x4)), (5, .int x5)] []) {x1 : Int32} {x2 : Int32} {x3 : Int32} {x5 : Int32}  {S : St} (hm : fX9_maySlideAlone_93 N k6 x1 x2 x3 x5 S = some r) : V p l e rmX9_maySlideAlone s m args below meth c Q D (mW ad cA) (mA ad) 8 S 93 [(0, .ref (ad 0)), (1, .int x1), (2, .int x2), (3, .int x3), (5, .int x5)] [] := by
  unfold fX9_maySlideAlone_93 at hm
  refine v_iconst C (pc := 93) 1 dX9_maySlideAlone_93 rfl ?_
  refine v_goto C (pc := 94) 98 dX9_maySlideAlone_94 rfl ?_
  exact (vX9_maySlideAlone_98 C hr hQ (N := N) hk6 hm)
def fX9_maySlideAlone_6b (N : Nat)  (k6 : Int32 → Int32 → Int32 → Bool → Int32 → St → Option (Bool × St)) (x1 : Int32) (x2 : Int32) (x3 : Int32) (x4 : Bool) (x5 : Int32) (S : St) : Option (Bool × St) := ck x1 5 (if (S.2.2.1 2 (Int32.toNatClampNeg x1)) ≤ x5 then (fX9_maySlideAlone_106 N x4 S) else (if (b2i x4) = 0 then (fX9_maySlideAlone_106 N x4 S) else (bd (fX9_cellX N x1 x5 x2 S) fun r21 S17 => bd (fX9_stepX N x3 S17) fun r22 S18 => nm (r21 + r22) fun y23 => bd (fX9_cellY N x1 x5 x2 S18) fun r24 S19 => bd (fX9_stepY N x3 S19) fun r25 S20 => nm (r24 + r25) fun y26 => bd (fX9_isFree N y23 y26 S20) fun r27 S21 => if (b2i r27) = 0 then (fX9_maySlideAlone_97 N k6 x1 x2 x3 x5 S21) else (bd (fX9_kindAt N y23 y26 S21) fun r28 S22 => bd (fX9_in N r28 2 5 S22) fun r29 S23 => if (b2i r29) = 0 then (fX9_maySlideAlone_93 N k6 x1 x2 x3 x5 S23) else (bd (fX9_kindAt N y23 y26 S23) fun r30 S24 => if r30 = (2 + x3) then (fX9_maySlideAlone_93 N k6 x1 x2 x3 x5 S24) else (fX9_maySlideAlone_97 N k6 x1 x2 x3 x5 S24))))))
def fX9_maySlideAlone_6 (N : Nat)  : Nat → Int32 → Int32 → Int32 → Bool → Int32 → St → Option (Bool × St)
  | 0 => fun _ _ _ _ _ _ => none
  | n + 1 => fun x1 x2 x3 x4 x5 S => fX9_maySlideAlone_6b N  (fX9_maySlideAlone_6 N  n) x1 x2 x3 x4 x5 S
set_option maxRecDepth 20000 in
theorem vX9_maySlideAlone_6b {p : Program} {l : Launch} {e : Env} {s : State} {m : MethodId} {args : Array Value} {below : List Frame} {meth : Method} {c : Code} {Q : State → Prop} {D : va_G} {ad : Nat → Nat} {cA : Nat → ClassId} (C : Ok p s m args c D cA (mW ad cA) (mA ad) mS RX9 cX9_maySlideAlone 8) (hr : Rt meth (some .boolean)) {r : Bool × St} (hQ : Q = MQ below (Qo D (mW ad cA) (mA ad) (some (.int (b2i r.1))) r.2) args s 0 0 (mA ad)) {N : Nat}  {k6 : Int32 → Int32 → Int32 → Bool → Int32 → St → Option (Bool × St)} (hk6 : ∀ (x1 : Int32) (x2 : Int32) (x3 : Int32) (x4 : Bool) (x5 : Int32) (S : St), k6 x1 x2 x3 x4 x5 S = some r → V p l e rmX9_maySlideAlone s m args below meth c Q D (mW ad cA) (mA ad) 8 S 6 [(0, .ref (ad 0)), (1, .int x1), (2, .int x2), (3, .int x3), (4, .int (b2i x4)), (5, .int x5)] []) {x1 : Int32} {x2 : Int32} {x3 : Int32} {x4 : Bool} {x5 : Int32}  {S : St} (hm : fX9_maySlideAlone_6b N  k6 x1 x2 x3 x4 x5 S = some r) : V p l e rmX9_maySlideAlone s m args below meth c Q D (mW ad cA) (mA ad) 8 S 6 [(0, .ref (ad 0)), (1, .int x1), (2, .int x2), (3, .int x3), (4, .int (b2i x4)), (5, .int x5)] [] := by
  unfold fX9_maySlideAlone_6b at hm
  refine v_iload C (pc := 6) 5 dX9_maySlideAlone_6 rfl ?_
  refine v_aload_n C (pc := 8) 0 dX9_maySlideAlone_8 rfl rfl ?_
  refine gX9_16 C (pc := 9) dX9_maySlideAlone_9 ?_
  refine v_iload_n C (pc := 12) 1 dX9_maySlideAlone_12 rfl rfl ?_
  refine ldX9_cells C (pc := 13) hm dX9_maySlideAlone_13 (fun hm => ?_)
  refine v_icmp_ge C (pc := 14) hm 106 dX9_maySlideAlone_14 rfl (fun hm => ?_) (fun hm => ?_)
  · exact v_sub [4] rfl (vX9_maySlideAlone_106 C hr hQ (N := N) hm)
  · refine v_iload C (pc := 17) 4 dX9_maySlideAlone_17 rfl ?_
    refine v_if_eq C (pc := 19) hm 106 dX9_maySlideAlone_19 rfl (fun hm => ?_) (fun hm => ?_)
    · exact v_sub [4] rfl (vX9_maySlideAlone_106 C hr hQ (N := N) hm)
    · refine v_aload_n C (pc := 22) 0 dX9_maySlideAlone_22 rfl rfl ?_
      refine v_iload_n C (pc := 23) 1 dX9_maySlideAlone_23 rfl rfl ?_
      refine v_iload C (pc := 24) 5 dX9_maySlideAlone_24 rfl ?_
      refine v_iload_n C (pc := 26) 2 dX9_maySlideAlone_26 rfl rfl ?_
      refine kX9_164 C (Nat.le_of_ble_eq_true rfl) (Nat.le_of_ble_eq_true rfl) (pc := 27) hm (Nat.le_of_ble_eq_true rfl) dX9_maySlideAlone_27 (fun r21 S17 hm => ?_)
      refine v_iload_n C (pc := 30) 3 dX9_maySlideAlone_30 rfl rfl ?_
      refine kX9_175 C (Nat.le_of_ble_eq_true rfl) (Nat.le_of_ble_eq_true rfl) (pc := 31) hm (Nat.le_of_ble_eq_true rfl) dX9_maySlideAlone_31 (fun r22 S18 hm => ?_)
      refine v_iadd C (pc := 34) dX9_maySlideAlone_34 ?_
      refine v_istoreN C (pc := 35) [(0, .ref (ad 0)), (1, .int x1), (2, .int x2), (3, .int x3), (4, .int (b2i x4)), (5, .int x5)] hm dX9_maySlideAlone_35 (by decide) rfl (fun y23 hm => ?_)
      refine v_aload_n C (pc := 37) 1 dX9_maySlideAlone_37 rfl rfl ?_
      refine v_iload_n C (pc := 38) 2 dX9_maySlideAlone_38 rfl rfl ?_
      refine v_iload C (pc := 39) 6 dX9_maySlideAlone_39 rfl ?_
      refine v_iload_n C (pc := 41) 3 dX9_maySlideAlone_41 rfl rfl ?_
      refine kX9_161 C (Nat.le_of_ble_eq_true rfl) (Nat.le_of_ble_eq_true rfl) (pc := 42) hm (Nat.le_of_ble_eq_true rfl) dX9_maySlideAlone_42 (fun r24 S19 hm => ?_)
      refine v_iload_n C (pc := 45) 4 dX9_maySlideAlone_45 rfl rfl ?_
      refine kX9_179 C (Nat.le_of_ble_eq_true rfl) (Nat.le_of_ble_eq_true rfl) (pc := 46) hm (Nat.le_of_ble_eq_true rfl) dX9_maySlideAlone_46 (fun r25 S20 hm => ?_)
      refine v_iadd C (pc := 49) dX9_maySlideAlone_49 ?_
      refine v_istoreN C (pc := 50) [(6, .int y23), (0, .ref (ad 0)), (1, .int x1), (2, .int x2), (3, .int x3), (4, .int (b2i x4)), (5, .int x5)] hm dX9_maySlideAlone_50 (by decide) rfl (fun y26 hm => ?_)
      refine v_aload_n C (pc := 52) 2 dX9_maySlideAlone_52 rfl rfl ?_
      refine v_iload C (pc := 53) 1 dX9_maySlideAlone_53 rfl ?_
      refine v_iload C (pc := 55) 0 dX9_maySlideAlone_55 rfl ?_
      refine kX9_255 C (Nat.le_of_ble_eq_true rfl) (Nat.le_of_ble_eq_true rfl) (pc := 57) hm (Nat.le_of_ble_eq_true rfl) dX9_maySlideAlone_57 (fun r27 S21 hm => ?_)
      refine v_if_eq C (pc := 60) hm 97 dX9_maySlideAlone_60 rfl (fun hm => ?_) (fun hm => ?_)
      · exact v_sub [2, 3, 4, 5, 7] rfl (vX9_maySlideAlone_97 C hr hQ (N := N) hk6 hm)
      · refine v_aload_n C (pc := 63) 2 dX9_maySlideAlone_63 rfl rfl ?_
        refine v_iload C (pc := 64) 1 dX9_maySlideAlone_64 rfl ?_
        refine v_iload C (pc := 66) 0 dX9_maySlideAlone_66 rfl ?_
        refine kX9_171 C (Nat.le_of_ble_eq_true rfl) (Nat.le_of_ble_eq_true rfl) (pc := 68) hm (Nat.le_of_ble_eq_true rfl) dX9_maySlideAlone_68 (fun r28 S22 hm => ?_)
        refine v_iconst C (pc := 71) 2 dX9_maySlideAlone_71 rfl ?_
        refine v_iconst C (pc := 72) 5 dX9_maySlideAlone_72 rfl ?_
        refine kX9_119 C (Nat.le_of_ble_eq_true rfl) (Nat.le_of_ble_eq_true rfl) (pc := 73) hm (Nat.le_of_ble_eq_true rfl) dX9_maySlideAlone_73 (fun r29 S23 hm => ?_)
        refine v_if_eq C (pc := 76) hm 93 dX9_maySlideAlone_76 rfl (fun hm => ?_) (fun hm => ?_)
        · exact v_sub [2, 3, 4, 5, 7] rfl (vX9_maySlideAlone_93 C hr hQ (N := N) hk6 hm)
        · refine v_aload_n C (pc := 79) 2 dX9_maySlideAlone_79 rfl rfl ?_
          refine v_iload C (pc := 80) 1 dX9_maySlideAlone_80 rfl ?_
          refine v_iload C (pc := 82) 0 dX9_maySlideAlone_82 rfl ?_
          refine kX9_171 C (Nat.le_of_ble_eq_true rfl) (Nat.le_of_ble_eq_true rfl) (pc := 84) hm (Nat.le_of_ble_eq_true rfl) dX9_maySlideAlone_84 (fun r30 S24 hm => ?_)
          refine v_iconst C (pc := 87) 2 dX9_maySlideAlone_87 rfl ?_
          refine v_iload_n C (pc := 88) 5 dX9_maySlideAlone_88 rfl rfl ?_
          refine v_iadd C (pc := 89) dX9_maySlideAlone_89 ?_
          refine v_icmp_ne C (pc := 90) hm 97 dX9_maySlideAlone_90 rfl (fun hm => ?_) (fun hm => ?_)
          · exact v_sub [2, 3, 4, 5, 7] rfl (vX9_maySlideAlone_97 C hr hQ (N := N) hk6 hm)
          · exact v_sub [2, 3, 4, 5, 7] rfl (vX9_maySlideAlone_93 C hr hQ (N := N) hk6 hm)
theorem vX9_maySlideAlone_6 {p : Program} {l : Launch} {e : Env} {s : State} {m : MethodId} {args : Array Value} {below : List Frame} {meth : Method} {c : Code} {Q : State → Prop} {D : va_G} {ad : Nat → Nat} {cA : Nat → ClassId} (C : Ok p s m args c D cA (mW ad cA) (mA ad) mS RX9 cX9_maySlideAlone 8) (hr : Rt meth (some .boolean)) {r : Bool × St} (hQ : Q = MQ below (Qo D (mW ad cA) (mA ad) (some (.int (b2i r.1))) r.2) args s 0 0 (mA ad)) {N : Nat}  (n : Nat) : ∀ (x1 : Int32) (x2 : Int32) (x3 : Int32) (x4 : Bool) (x5 : Int32) (S : St), fX9_maySlideAlone_6 N  n x1 x2 x3 x4 x5 S = some r → V p l e rmX9_maySlideAlone s m args below meth c Q D (mW ad cA) (mA ad) 8 S 6 [(0, .ref (ad 0)), (1, .int x1), (2, .int x2), (3, .int x3), (4, .int (b2i x4)), (5, .int x5)] [] := by
  induction n with
  | zero => intro _ _ _ _ _ _  hm; exact absurd hm (by intro h; cases h)
  | succ n ih => intro _ _ _ _ _ _  hm; exact vX9_maySlideAlone_6b C hr hQ (N := N)   ih  hm
def fX9_maySlideAlone (N : Nat) (p1 : Int32) (p2 : Int32) (p3 : Int32) (S : St) : Option (Bool × St) := fX9_maySlideAlone_6 N N p1 p2 p3 true 0 S
set_option maxRecDepth 20000 in
theorem vX9_maySlideAlone {p : Program} {l : Launch} {e : Env} {s : State} {m : MethodId} {args : Array Value} {below : List Frame} {meth : Method} {c : Code} {Q : State → Prop} {D : va_G} {ad : Nat → Nat} {cA : Nat → ClassId} (C : Ok p s m args c D cA (mW ad cA) (mA ad) mS RX9 cX9_maySlideAlone 8) (hr : Rt meth (some .boolean)) {r : Bool × St} (hQ : Q = MQ below (Qo D (mW ad cA) (mA ad) (some (.int (b2i r.1))) r.2) args s 0 0 (mA ad)) {N : Nat} {p1 : Int32} {p2 : Int32} {p3 : Int32} {S : St} (hm : fX9_maySlideAlone N p1 p2 p3 S = some r) : V p l e rmX9_maySlideAlone s m args below meth c Q D (mW ad cA) (mA ad) 8 S 0 [(0, .ref (ad 0)), (1, .int p1), (2, .int p2), (3, .int p3)] [] := by
  unfold fX9_maySlideAlone at hm
  refine v_iconst C (pc := 0) 1 dX9_maySlideAlone_0 rfl ?_
  refine v_istore C (pc := 1) [(4, .int 1), (0, .ref (ad 0)), (1, .int p1), (2, .int p2), (3, .int p3)] dX9_maySlideAlone_1 (by decide) rfl ?_
  refine v_iconst C (pc := 3) 0 dX9_maySlideAlone_3 rfl ?_
  refine v_istore C (pc := 4) [(5, .int 0), (4, .int 1), (0, .ref (ad 0)), (1, .int p1), (2, .int p2), (3, .int p3)] dX9_maySlideAlone_4 (by decide) rfl ?_
  exact v_sub [2, 3, 4, 5, 1, 0] rfl (vX9_maySlideAlone_6 C hr hQ (N := N) N _ _ _ _ _ _ hm)
theorem mX9_maySlideAlone {l : Launch} {D : va_G} {ad : Nat → Nat} {cA : Nat → ClassId} (hD : ∀ S, va_D (mA ad) (mW ad cA S)) {N : Nat} {p1 : Int32} {p2 : Int32} {p3 : Int32} {S : St} {r : Bool × St} (hm : fX9_maySlideAlone N p1 p2 p3 S = some r) : Met l yX9_maySlideAlone (wsm yX9_maySlideAlone cX9_maySlideAlone 8 (some .boolean)) rmX9_maySlideAlone (va_Pc [.ref (ad 0), .int p1, .int p2, .int p3] (Pre D cA (mW ad cA) mS S)) (Qo D (mW ad cA) (mA ad) (some (.int (b2i r.1))) r.2) 0 0 (mA ad) := met_of [.ref (ad 0), .int p1, .int p2, .int p3] (by decide) (Nat.le_of_ble_eq_true rfl) hD (fun _ _ _ _ h => h) (fun _ _ _ _ h => h) (fun p e s m below meth c C hr => vX9_maySlideAlone C hr rfl (N := N)  hm)
-- X9_mayTurnAlone
def rmX9_mayTurnAlone : Room := { frames := 3, cells := 0, slots := 0, locals := 66 }
def fX9_mayTurnAlone_193 (N : Nat)  (x6 : Bool) (S : St) : Option (Bool × St) := some (x6, S)
set_option maxRecDepth 20000 in
theorem vX9_mayTurnAlone_193 {p : Program} {l : Launch} {e : Env} {s : State} {m : MethodId} {args : Array Value} {below : List Frame} {meth : Method} {c : Code} {Q : State → Prop} {D : va_G} {ad : Nat → Nat} {cA : Nat → ClassId} (C : Ok p s m args c D cA (mW ad cA) (mA ad) mS RX9 cX9_mayTurnAlone 10) (hr : Rt meth (some .boolean)) {r : Bool × St} (hQ : Q = MQ below (Qo D (mW ad cA) (mA ad) (some (.int (b2i r.1))) r.2) args s 0 0 (mA ad)) {N : Nat}  {x6 : Bool}  {S : St} (hm : fX9_mayTurnAlone_193 N  x6 S = some r) : V p l e rmX9_mayTurnAlone s m args below meth c Q D (mW ad cA) (mA ad) 10 S 193 [(6, .int (b2i x6))] [] := by
  unfold fX9_mayTurnAlone_193 at hm
  refine v_iload C (pc := 193) 0 dX9_mayTurnAlone_193 rfl ?_
  exact v_zret C hr hQ (x := x6) (pc := 195) hm dX9_mayTurnAlone_195
def fX9_mayTurnAlone_179 (N : Nat) (k21 : Int32 → Int32 → Int32 → Int32 → Int32 → Bool → Int32 → St → Option (Bool × St)) (k106 : Int32 → Int32 → Int32 → Int32 → Int32 → Bool → Int32 → Int32 → Int32 → St → Option (Bool × St)) (s0 : Bool) (x1 : Int32) (x2 : Int32) (x3 : Int32) (x4 : Int32) (x5 : Int32) (x7 : Int32) (x8 : Int32) (x9 : Int32) (S : St) : Option (Bool × St) := k106 x1 x2 x3 x4 x5 s0 x7 x8 (x9 + 1) S
set_option maxRecDepth 20000 in
theorem vX9_mayTurnAlone_179 {p : Program} {l : Launch} {e : Env} {s : State} {m : MethodId} {args : Array Value} {below : List Frame} {meth : Method} {c : Code} {Q : State → Prop} {D : va_G} {ad : Nat → Nat} {cA : Nat → ClassId} (C : Ok p s m args c D cA (mW ad cA) (mA ad) mS RX9 cX9_mayTurnAlone 10) (hr : Rt meth (some .boolean)) {r : Bool × St} (hQ : Q = MQ below (Qo D (mW ad cA) (mA ad) (some (.int (b2i r.1))) r.2) args s 0 0 (mA ad)) {N : Nat} {k21 : Int32 → Int32 → Int32 → Int32 → Int32 → Bool → Int32 → St → Option (Bool × St)} (hk21 : ∀ (x1 : Int32) (x2 : Int32) (x3 : Int32) (x4 : Int32) (x5 : Int32) (x6 : Bool) (x7 : Int32) (S : St), k21 x1 x2 x3 x4 x5 x6 x7 S = some r → V p l e rmX9_mayTurnAlone s m args below meth c Q D (mW ad cA) (mA ad) 10 S 21 [(0, .ref (ad 0)), (1, .int x1), (2, .int x2), (3, .int x3), (4, .int x4), (5, .int x5), (6, .int (b2i x6)), (7, .int x7)] []) {k106 : Int32 → Int32 → Int32 → Int32 → Int32 → Bool → Int32 → Int32 → Int32 → St → Option (Bool × St)} (hk106 : ∀ (x1 : Int32) (x2 : Int32) (x3 : Int32) (x4 : Int32) (x5 : Int32) (x6 : Bool) (x7 : Int32) (x8 : Int32) (x9 : Int32) (S : St), k106 x1 x2 x3 x4 x5 x6 x7 x8 x9 S = some r → V p l e rmX9_mayTurnAlone s m args below meth c Q D (mW ad cA) (mA ad) 10 S 106 [(0, .ref (ad 0)), (1, .int x1), (2, .int x2), (3, .int x3), (4, .int x4), (5, .int x5), (6, .int (b2i x6)), (7, .int x7), (8, .int x8), (9, .int x9)] []) {s0 : Bool} {x1 : Int32} {x2 : Int32} {x3 : Int32} {x4 : Int32} {x5 : Int32} {x7 : Int32} {x8 : Int32} {x9 : Int32}  {S : St} (hm : fX9_mayTurnAlone_179 N k21 k106 s0 x1 x2 x3 x4 x5 x7 x8 x9 S = some r) : V p l e rmX9_mayTurnAlone s m args below meth c Q D (mW ad cA) (mA ad) 10 S 179 [(0, .ref (ad 0)), (1, .int x1), (2, .int x2), (3, .int x3), (4, .int x4), (5, .int x5), (7, .int x7), (8, .int x8), (9, .int x9)] [.int (b2i s0)] := by
  unfold fX9_mayTurnAlone_179 at hm
  refine v_istore C (pc := 179) [(6, .int (b2i s0)), (0, .ref (ad 0)), (1, .int x1), (2, .int x2), (3, .int x3), (4, .int x4), (5, .int x5), (7, .int x7), (8, .int x8), (9, .int x9)] dX9_mayTurnAlone_179 (by decide) rfl ?_
  refine v_iinc C (pc := 181) 1 9 [(9, .int (x9 + 1)), (6, .int (b2i s0)), (0, .ref (ad 0)), (1, .int x1), (2, .int x2), (3, .int x3), (4, .int x4), (5, .int x5), (7, .int x7), (8, .int x8)] dX9_mayTurnAlone_181 rfl rfl (by decide) rfl ?_
  refine v_goto C (pc := 184) 106 dX9_mayTurnAlone_184 rfl ?_
  exact v_sub [2, 3, 4, 5, 6, 7, 1, 8, 9, 0] rfl (hk106 _ _ _ _ _ _ _ _ _ _ hm)
def fX9_mayTurnAlone_178 (N : Nat) (k21 : Int32 → Int32 → Int32 → Int32 → Int32 → Bool → Int32 → St → Option (Bool × St)) (k106 : Int32 → Int32 → Int32 → Int32 → Int32 → Bool → Int32 → Int32 → Int32 → St → Option (Bool × St)) (x1 : Int32) (x2 : Int32) (x3 : Int32) (x4 : Int32) (x5 : Int32) (x7 : Int32) (x8 : Int32) (x9 : Int32) (S : St) : Option (Bool × St) := fX9_mayTurnAlone_179 N k21 k106 false x1 x2 x3 x4 x5 x7 x8 x9 S
set_option maxRecDepth 20000 in
theorem vX9_mayTurnAlone_178 {p : Program} {l : Launch} {e : Env} {s : State} {m : MethodId} {args : Array Value} {below : List Frame} {meth : Method} {c : Code} {Q : State → Prop} {D : va_G} {ad : Nat → Nat} {cA : Nat → ClassId} (C : Ok p s m args c D cA (mW ad cA) (mA ad) mS RX9 cX9_mayTurnAlone 10) (hr : Rt meth (some .boolean)) {r : Bool × St} (hQ : Q = MQ below (Qo D (mW ad cA) (mA ad) (some (.int (b2i r.1))) r.2) args s 0 0 (mA ad)) {N : Nat} {k21 : Int32 → Int32 → Int32 → Int32 → Int32 → Bool → Int32 → St → Option (Bool × St)} (hk21 : ∀ (x1 : Int32) (x2 : Int32) (x3 : Int32) (x4 : Int32) (x5 : Int32) (x6 : Bool) (x7 : Int32) (S : St), k21 x1 x2 x3 x4 x5 x6 x7 S = some r → V p l e rmX9_mayTurnAlone s m args below meth c Q D (mW ad cA) (mA ad) 10 S 21 [(0, .ref (ad 0)), (1, .int x1), (2, .int x2), (3, .int x3), (4, .int x4), (5, .int x5), (6, .int (b2i x6)), (7, .int x7)] []) {k106 : Int32 → Int32 → Int32 → Int32 → Int32 → Bool → Int32 → Int32 → Int32 → St → Option (Bool × St)} (hk106 : ∀ (x1 : Int32) (x2 : Int32) (x3 : Int32) (x4 : Int32) (x5 : Int32) (x6 : Bool) (x7 : Int32) (x8 : Int32) (x9 : Int32) (S : St), k106 x1 x2 x3 x4 x5 x6 x7 x8 x9 S = some r → V p l e rmX9_mayTurnAlone s m args below meth c Q D (mW ad cA) (mA ad) 10 S 106 [(0, .ref (ad 0)), (1, .int x1), (2, .int x2), (3, .int x3), (4, .int x4), (5, .int x5), (6, .int (b2i x6)), (7, .int x7), (8, .int x8), (9, .int x9)] []) {x1 : Int32} {x2 : Int32} {x3 : Int32} {x4 : Int32} {x5 : Int32} {x7 : Int32} {x8 : Int32} {x9 : Int32}  {S : St} (hm : fX9_mayTurnAlone_178 N k21 k106 x1 x2 x3 x4 x5 x7 x8 x9 S = some r) : V p l e rmX9_mayTurnAlone s m args below meth c Q D (mW ad cA) (mA ad) 10 S 178 [(0, .ref (ad 0)), (1, .int x1), (2, .int x2), (3, .int x3), (4, .int x4), (5, .int x5), (7, .int x7), (8, .int x8), (9, .int x9)] [] := by
  unfold fX9_mayTurnAlone_178 at hm
  refine v_iconst C (pc := 178) 0 dX9_mayTurnAlone_178 rfl ?_
  exact (vX9_mayTurnAlone_179 C hr hQ (N := N) hk21 hk106 hm)
def fX9_mayTurnAlone_187 (N : Nat) (k21 : Int32 → Int32 → Int32 → Int32 → Int32 → Bool → Int32 → St → Option (Bool × St)) (x1 : Int32) (x2 : Int32) (x3 : Int32) (x4 : Int32) (x5 : Int32) (x6 : Bool) (x7 : Int32) (S : St) : Option (Bool × St) := k21 x1 x2 x3 x4 x5 x6 (x7 + 1) S
set_option maxRecDepth 20000 in
theorem vX9_mayTurnAlone_187 {p : Program} {l : Launch} {e : Env} {s : State} {m : MethodId} {args : Array Value} {below : List Frame} {meth : Method} {c : Code} {Q : State → Prop} {D : va_G} {ad : Nat → Nat} {cA : Nat → ClassId} (C : Ok p s m args c D cA (mW ad cA) (mA ad) mS RX9 cX9_mayTurnAlone 10) (hr : Rt meth (some .boolean)) {r : Bool × St} (hQ : Q = MQ below (Qo D (mW ad cA) (mA ad) (some (.int (b2i r.1))) r.2) args s 0 0 (mA ad)) {N : Nat} {k21 : Int32 → Int32 → Int32 → Int32 → Int32 → Bool → Int32 → St → Option (Bool × St)} (hk21 : ∀ (x1 : Int32) (x2 : Int32) (x3 : Int32) (x4 : Int32) (x5 : Int32) (x6 : Bool) (x7 : Int32) (S : St), k21 x1 x2 x3 x4 x5 x6 x7 S = some r → V p l e rmX9_mayTurnAlone s m args below meth c Q D (mW ad cA) (mA ad) 10 S 21 [(0, .ref (ad 0)), (1, .int x1), (2, .int x2), (3, .int x3), (4, .int x4), (5, .int x5), (6, .int (b2i x6)), (7, .int x7)] []) {x1 : Int32} {x2 : Int32} {x3 : Int32} {x4 : Int32} {x5 : Int32} {x6 : Bool} {x7 : Int32}  {S : St} (hm : fX9_mayTurnAlone_187 N k21 x1 x2 x3 x4 x5 x6 x7 S = some r) : V p l e rmX9_mayTurnAlone s m args below meth c Q D (mW ad cA) (mA ad) 10 S 187 [(0, .ref (ad 0)), (1, .int x1), (2, .int x2), (3, .int x3), (4, .int x4), (5, .int x5), (6, .int (b2i x6)), (7, .int x7)] [] := by
  unfold fX9_mayTurnAlone_187 at hm
  refine v_iinc C (pc := 187) 1 7 [(7, .int (x7 + 1)), (0, .ref (ad 0)), (1, .int x1), (2, .int x2), (3, .int x3), (4, .int x4), (5, .int x5), (6, .int (b2i x6))] dX9_mayTurnAlone_187 rfl rfl (by decide) rfl ?_
  refine v_goto C (pc := 190) 21 dX9_mayTurnAlone_190 rfl ?_
  exact v_sub [1, 2, 3, 4, 5, 6, 7, 0] rfl (hk21 _ _ _ _ _ _ _ _ hm)
def fX9_mayTurnAlone_106b (N : Nat) (k21 : Int32 → Int32 → Int32 → Int32 → Int32 → Bool → Int32 → St → Option (Bool × St)) (k106 : Int32 → Int32 → Int32 → Int32 → Int32 → Bool → Int32 → Int32 → Int32 → St → Option (Bool × St)) (x1 : Int32) (x2 : Int32) (x3 : Int32) (x4 : Int32) (x5 : Int32) (x6 : Bool) (x7 : Int32) (x8 : Int32) (x9 : Int32) (S : St) : Option (Bool × St) := if (2 * x8) ≤ x9 then (fX9_mayTurnAlone_187 N k21 x1 x2 x3 x4 x5 x6 x7 S) else (if (b2i x6) = 0 then (fX9_mayTurnAlone_187 N k21 x1 x2 x3 x4 x5 x6 x7 S) else (bd (fX9_goRound N x8 x3 S) fun r33 S37 => bd (fX9_isFree N (x4 + (S37.1 6)) (x5 + (S37.1 7)) S37) fun r34 S38 => if (b2i r34) = 0 then (fX9_mayTurnAlone_178 N k21 k106 x1 x2 x3 x4 x5 x7 x8 x9 S38) else (bd (fX9_kindAt N (x4 + (S38.1 6)) (x5 + (S38.1 7)) S38) fun r35 S39 => bd (fX9_in N r35 2 5 S39) fun r36 S40 => if (b2i r36) = 0 then (fX9_mayTurnAlone_179 N k21 k106 true x1 x2 x3 x4 x5 x7 x8 x9 S40) else (fX9_mayTurnAlone_178 N k21 k106 x1 x2 x3 x4 x5 x7 x8 x9 S40))))
def fX9_mayTurnAlone_106 (N : Nat) (k21 : Int32 → Int32 → Int32 → Int32 → Int32 → Bool → Int32 → St → Option (Bool × St)) : Nat → Int32 → Int32 → Int32 → Int32 → Int32 → Bool → Int32 → Int32 → Int32 → St → Option (Bool × St)
  | 0 => fun _ _ _ _ _ _ _ _ _ _ => none
  | n + 1 => fun x1 x2 x3 x4 x5 x6 x7 x8 x9 S => fX9_mayTurnAlone_106b N k21 (fX9_mayTurnAlone_106 N k21 n) x1 x2 x3 x4 x5 x6 x7 x8 x9 S
set_option maxRecDepth 20000 in
theorem vX9_mayTurnAlone_106b {p : Program} {l : Launch} {e : Env} {s : State} {m : MethodId} {args : Array Value} {below : List Frame} {meth : Method} {c : Code} {Q : State → Prop} {D : va_G} {ad : Nat → Nat} {cA : Nat → ClassId} (C : Ok p s m args c D cA (mW ad cA) (mA ad) mS RX9 cX9_mayTurnAlone 10) (hr : Rt meth (some .boolean)) {r : Bool × St} (hQ : Q = MQ below (Qo D (mW ad cA) (mA ad) (some (.int (b2i r.1))) r.2) args s 0 0 (mA ad)) {N : Nat} {k21 : Int32 → Int32 → Int32 → Int32 → Int32 → Bool → Int32 → St → Option (Bool × St)} (hk21 : ∀ (x1 : Int32) (x2 : Int32) (x3 : Int32) (x4 : Int32) (x5 : Int32) (x6 : Bool) (x7 : Int32) (S : St), k21 x1 x2 x3 x4 x5 x6 x7 S = some r → V p l e rmX9_mayTurnAlone s m args below meth c Q D (mW ad cA) (mA ad) 10 S 21 [(0, .ref (ad 0)), (1, .int x1), (2, .int x2), (3, .int x3), (4, .int x4), (5, .int x5), (6, .int (b2i x6)), (7, .int x7)] []) {k106 : Int32 → Int32 → Int32 → Int32 → Int32 → Bool → Int32 → Int32 → Int32 → St → Option (Bool × St)} (hk106 : ∀ (x1 : Int32) (x2 : Int32) (x3 : Int32) (x4 : Int32) (x5 : Int32) (x6 : Bool) (x7 : Int32) (x8 : Int32) (x9 : Int32) (S : St), k106 x1 x2 x3 x4 x5 x6 x7 x8 x9 S = some r → V p l e rmX9_mayTurnAlone s m args below meth c Q D (mW ad cA) (mA ad) 10 S 106 [(0, .ref (ad 0)), (1, .int x1), (2, .int x2), (3, .int x3), (4, .int x4), (5, .int x5), (6, .int (b2i x6)), (7, .int x7), (8, .int x8), (9, .int x9)] []) {x1 : Int32} {x2 : Int32} {x3 : Int32} {x4 : Int32} {x5 : Int32} {x6 : Bool} {x7 : Int32} {x8 : Int32} {x9 : Int32}  {S : St} (hm : fX9_mayTurnAlone_106b N k21 k106 x1 x2 x3 x4 x5 x6 x7 x8 x9 S = some r) : V p l e rmX9_mayTurnAlone s m args below meth c Q D (mW ad cA) (mA ad) 10 S 106 [(0, .ref (ad 0)), (1, .int x1), (2, .int x2), (3, .int x3), (4, .int x4), (5, .int x5), (6, .int (b2i x6)), (7, .int x7), (8, .int x8), (9, .int x9)] [] := by
  unfold fX9_mayTurnAlone_106b at hm
  refine v_iload C (pc := 106) 9 dX9_mayTurnAlone_106 rfl ?_
  refine v_iconst C (pc := 108) 2 dX9_mayTurnAlone_108 rfl ?_
  refine v_iload C (pc := 109) 8 dX9_mayTurnAlone_109 rfl ?_
  refine v_imul C (pc := 111) dX9_mayTurnAlone_111 ?_
  refine v_icmp_ge C (pc := 112) hm 187 dX9_mayTurnAlone_112 rfl (fun hm => ?_) (fun hm => ?_)
  · exact v_sub [0, 1, 2, 3, 4, 5, 6, 7] rfl (vX9_mayTurnAlone_187 C hr hQ (N := N) hk21 hm)
  · refine v_iload C (pc := 115) 6 dX9_mayTurnAlone_115 rfl ?_
    refine v_if_eq C (pc := 117) hm 187 dX9_mayTurnAlone_117 rfl (fun hm => ?_) (fun hm => ?_)
    · exact v_sub [0, 1, 2, 3, 4, 5, 6, 7] rfl (vX9_mayTurnAlone_187 C hr hQ (N := N) hk21 hm)
    · refine v_aload_n C (pc := 120) 0 dX9_mayTurnAlone_120 rfl rfl ?_
      refine v_iload C (pc := 121) 8 dX9_mayTurnAlone_121 rfl ?_
      refine v_iload_n C (pc := 123) 3 dX9_mayTurnAlone_123 rfl rfl ?_
      refine kX9_197 C (Nat.le_of_ble_eq_true rfl) (Nat.le_of_ble_eq_true rfl) (pc := 124) hm (Nat.le_of_ble_eq_true rfl) dX9_mayTurnAlone_124 (fun r33 S37 hm => ?_)
      refine v_aload_n C (pc := 127) 0 dX9_mayTurnAlone_127 rfl rfl ?_
      refine v_iload C (pc := 128) 4 dX9_mayTurnAlone_128 rfl ?_
      refine v_aload_n C (pc := 130) 0 dX9_mayTurnAlone_130 rfl rfl ?_
      refine gX9_188 C (pc := 131) dX9_mayTurnAlone_131 ?_
      refine v_iadd C (pc := 134) dX9_mayTurnAlone_134 ?_
      refine v_iload C (pc := 135) 5 dX9_mayTurnAlone_135 rfl ?_
      refine v_aload_n C (pc := 137) 0 dX9_mayTurnAlone_137 rfl rfl ?_
      refine gX9_191 C (pc := 138) dX9_mayTurnAlone_138 ?_
      refine v_iadd C (pc := 141) dX9_mayTurnAlone_141 ?_
      refine kX9_255 C (Nat.le_of_ble_eq_true rfl) (Nat.le_of_ble_eq_true rfl) (pc := 142) hm (Nat.le_of_ble_eq_true rfl) dX9_mayTurnAlone_142 (fun r34 S38 hm => ?_)
      refine v_if_eq C (pc := 145) hm 178 dX9_mayTurnAlone_145 rfl (fun hm => ?_) (fun hm => ?_)
      · exact v_sub [0, 1, 2, 3, 4, 5, 7, 8, 9] rfl (vX9_mayTurnAlone_178 C hr hQ (N := N) hk21 hk106 hm)
      · refine v_aload_n C (pc := 148) 0 dX9_mayTurnAlone_148 rfl rfl ?_
        refine v_iload C (pc := 149) 4 dX9_mayTurnAlone_149 rfl ?_
        refine v_aload_n C (pc := 151) 0 dX9_mayTurnAlone_151 rfl rfl ?_
        refine gX9_188 C (pc := 152) dX9_mayTurnAlone_152 ?_
        refine v_iadd C (pc := 155) dX9_mayTurnAlone_155 ?_
        refine v_iload C (pc := 156) 5 dX9_mayTurnAlone_156 rfl ?_
        refine v_aload_n C (pc := 158) 0 dX9_mayTurnAlone_158 rfl rfl ?_
        refine gX9_191 C (pc := 159) dX9_mayTurnAlone_159 ?_
        refine v_iadd C (pc := 162) dX9_mayTurnAlone_162 ?_
        refine kX9_171 C (Nat.le_of_ble_eq_true rfl) (Nat.le_of_ble_eq_true rfl) (pc := 163) hm (Nat.le_of_ble_eq_true rfl) dX9_mayTurnAlone_163 (fun r35 S39 hm => ?_)
        refine v_iconst C (pc := 166) 2 dX9_mayTurnAlone_166 rfl ?_
        refine v_iconst C (pc := 167) 5 dX9_mayTurnAlone_167 rfl ?_
        refine kX9_119 C (Nat.le_of_ble_eq_true rfl) (Nat.le_of_ble_eq_true rfl) (pc := 168) hm (Nat.le_of_ble_eq_true rfl) dX9_mayTurnAlone_168 (fun r36 S40 hm => ?_)
        refine v_if_ne C (pc := 171) hm 178 dX9_mayTurnAlone_171 rfl (fun hm => ?_) (fun hm => ?_)
        · exact v_sub [0, 1, 2, 3, 4, 5, 7, 8, 9] rfl (vX9_mayTurnAlone_178 C hr hQ (N := N) hk21 hk106 hm)
        · refine v_iconst C (pc := 174) 1 dX9_mayTurnAlone_174 rfl ?_
          refine v_goto C (pc := 175) 179 dX9_mayTurnAlone_175 rfl ?_
          exact v_sub [0, 1, 2, 3, 4, 5, 7, 8, 9] rfl (vX9_mayTurnAlone_179 C hr hQ (N := N) hk21 hk106 hm)
theorem vX9_mayTurnAlone_106 {p : Program} {l : Launch} {e : Env} {s : State} {m : MethodId} {args : Array Value} {below : List Frame} {meth : Method} {c : Code} {Q : State → Prop} {D : va_G} {ad : Nat → Nat} {cA : Nat → ClassId} (C : Ok p s m args c D cA (mW ad cA) (mA ad) mS RX9 cX9_mayTurnAlone 10) (hr : Rt meth (some .boolean)) {r : Bool × St} (hQ : Q = MQ below (Qo D (mW ad cA) (mA ad) (some (.int (b2i r.1))) r.2) args s 0 0 (mA ad)) {N : Nat} {k21 : Int32 → Int32 → Int32 → Int32 → Int32 → Bool → Int32 → St → Option (Bool × St)} (hk21 : ∀ (x1 : Int32) (x2 : Int32) (x3 : Int32) (x4 : Int32) (x5 : Int32) (x6 : Bool) (x7 : Int32) (S : St), k21 x1 x2 x3 x4 x5 x6 x7 S = some r → V p l e rmX9_mayTurnAlone s m args below meth c Q D (mW ad cA) (mA ad) 10 S 21 [(0, .ref (ad 0)), (1, .int x1), (2, .int x2), (3, .int x3), (4, .int x4), (5, .int x5), (6, .int (b2i x6)), (7, .int x7)] []) (n : Nat) : ∀ (x1 : Int32) (x2 : Int32) (x3 : Int32) (x4 : Int32) (x5 : Int32) (x6 : Bool) (x7 : Int32) (x8 : Int32) (x9 : Int32) (S : St), fX9_mayTurnAlone_106 N k21 n x1 x2 x3 x4 x5 x6 x7 x8 x9 S = some r → V p l e rmX9_mayTurnAlone s m args below meth c Q D (mW ad cA) (mA ad) 10 S 106 [(0, .ref (ad 0)), (1, .int x1), (2, .int x2), (3, .int x3), (4, .int x4), (5, .int x5), (6, .int (b2i x6)), (7, .int x7), (8, .int x8), (9, .int x9)] [] := by
  induction n with
  | zero => intro _ _ _ _ _ _ _ _ _ _  hm; exact absurd hm (by intro h; cases h)
  | succ n ih => intro _ _ _ _ _ _ _ _ _ _  hm; exact vX9_mayTurnAlone_106b C hr hQ (N := N)  hk21 ih  hm
def fX9_mayTurnAlone_101 (N : Nat) (k21 : Int32 → Int32 → Int32 → Int32 → Int32 → Bool → Int32 → St → Option (Bool × St)) (s0 : Int32) (x1 : Int32) (x2 : Int32) (x3 : Int32) (x4 : Int32) (x5 : Int32) (x6 : Bool) (x7 : Int32) (S : St) : Option (Bool × St) := fX9_mayTurnAlone_106 N k21 N x1 x2 x3 x4 x5 x6 x7 s0 0 S
set_option maxRecDepth 20000 in
theorem vX9_mayTurnAlone_101 {p : Program} {l : Launch} {e : Env} {s : State} {m : MethodId} {args : Array Value} {below : List Frame} {meth : Method} {c : Code} {Q : State → Prop} {D : va_G} {ad : Nat → Nat} {cA : Nat → ClassId} (C : Ok p s m args c D cA (mW ad cA) (mA ad) mS RX9 cX9_mayTurnAlone 10) (hr : Rt meth (some .boolean)) {r : Bool × St} (hQ : Q = MQ below (Qo D (mW ad cA) (mA ad) (some (.int (b2i r.1))) r.2) args s 0 0 (mA ad)) {N : Nat} {k21 : Int32 → Int32 → Int32 → Int32 → Int32 → Bool → Int32 → St → Option (Bool × St)} (hk21 : ∀ (x1 : Int32) (x2 : Int32) (x3 : Int32) (x4 : Int32) (x5 : Int32) (x6 : Bool) (x7 : Int32) (S : St), k21 x1 x2 x3 x4 x5 x6 x7 S = some r → V p l e rmX9_mayTurnAlone s m args below meth c Q D (mW ad cA) (mA ad) 10 S 21 [(0, .ref (ad 0)), (1, .int x1), (2, .int x2), (3, .int x3), (4, .int x4), (5, .int x5), (6, .int (b2i x6)), (7, .int x7)] []) {s0 : Int32} {x1 : Int32} {x2 : Int32} {x3 : Int32} {x4 : Int32} {x5 : Int32} {x6 : Bool} {x7 : Int32}  {S : St} (hm : fX9_mayTurnAlone_101 N k21 s0 x1 x2 x3 x4 x5 x6 x7 S = some r) : V p l e rmX9_mayTurnAlone s m args below meth c Q D (mW ad cA) (mA ad) 10 S 101 [(0, .ref (ad 0)), (1, .int x1), (2, .int x2), (3, .int x3), (4, .int x4), (5, .int x5), (6, .int (b2i x6)), (7, .int x7)] [.int s0] := by
  unfold fX9_mayTurnAlone_101 at hm
  refine v_istore C (pc := 101) [(8, .int s0), (0, .ref (ad 0)), (1, .int x1), (2, .int x2), (3, .int x3), (4, .int x4), (5, .int x5), (6, .int (b2i x6)), (7, .int x7)] dX9_mayTurnAlone_101 (by decide) rfl ?_
  refine v_iconst C (pc := 103) 0 dX9_mayTurnAlone_103 rfl ?_
  refine v_istore C (pc := 104) [(9, .int 0), (8, .int s0), (0, .ref (ad 0)), (1, .int x1), (2, .int x2), (3, .int x3), (4, .int x4), (5, .int x5), (6, .int (b2i x6)), (7, .int x7)] dX9_mayTurnAlone_104 (by decide) rfl ?_
  exact v_sub [2, 3, 4, 5, 6, 7, 8, 9, 1, 0] rfl (vX9_mayTurnAlone_106 C hr hQ (N := N) hk21 N _ _ _ _ _ _ _ _ _ _ hm)
def fX9_mayTurnAlone_21b (N : Nat)  (k21 : Int32 → Int32 → Int32 → Int32 → Int32 → Bool → Int32 → St → Option (Bool × St)) (x1 : Int32) (x2 : Int32) (x3 : Int32) (x4 : Int32) (x5 : Int32) (x6 : Bool) (x7 : Int32) (S : St) : Option (Bool × St) := ck x1 5 (if (S.2.2.1 2 (Int32.toNatClampNeg x1)) ≤ x7 then (fX9_mayTurnAlone_193 N x6 S) else (if (b2i x6) = 0 then (fX9_mayTurnAlone_193 N x6 S) else (bd (fX9_cellX N x1 x7 x2 S) fun r27 S29 => stp (sI S29 6 (r27 - x4)) fun S30 => bd (fX9_cellY N x1 x7 x2 S30) fun r28 S31 => stp (sI S31 7 (r28 - x5)) fun S32 => bd (fX9_absolute N (S32.1 6) S32) fun r29 S33 => bd (fX9_absolute N (S33.1 7) S33) fun r30 S34 => if r29 ≤ r30 then (bd (fX9_absolute N (S34.1 7) S34) fun r31 S35 => fX9_mayTurnAlone_101 N k21 r31 x1 x2 x3 x4 x5 x6 x7 S35) else (bd (fX9_absolute N (S34.1 6) S34) fun r32 S36 => fX9_mayTurnAlone_101 N k21 r32 x1 x2 x3 x4 x5 x6 x7 S36))))
def fX9_mayTurnAlone_21 (N : Nat)  : Nat → Int32 → Int32 → Int32 → Int32 → Int32 → Bool → Int32 → St → Option (Bool × St)
  | 0 => fun _ _ _ _ _ _ _ _ => none
  | n + 1 => fun x1 x2 x3 x4 x5 x6 x7 S => fX9_mayTurnAlone_21b N  (fX9_mayTurnAlone_21 N  n) x1 x2 x3 x4 x5 x6 x7 S
set_option maxRecDepth 20000 in
theorem vX9_mayTurnAlone_21b {p : Program} {l : Launch} {e : Env} {s : State} {m : MethodId} {args : Array Value} {below : List Frame} {meth : Method} {c : Code} {Q : State → Prop} {D : va_G} {ad : Nat → Nat} {cA : Nat → ClassId} (C : Ok p s m args c D cA (mW ad cA) (mA ad) mS RX9 cX9_mayTurnAlone 10) (hr : Rt meth (some .boolean)) {r : Bool × St} (hQ : Q = MQ below (Qo D (mW ad cA) (mA ad) (some (.int (b2i r.1))) r.2) args s 0 0 (mA ad)) {N : Nat}  {k21 : Int32 → Int32 → Int32 → Int32 → Int32 → Bool → Int32 → St → Option (Bool × St)} (hk21 : ∀ (x1 : Int32) (x2 : Int32) (x3 : Int32) (x4 : Int32) (x5 : Int32) (x6 : Bool) (x7 : Int32) (S : St), k21 x1 x2 x3 x4 x5 x6 x7 S = some r → V p l e rmX9_mayTurnAlone s m args below meth c Q D (mW ad cA) (mA ad) 10 S 21 [(0, .ref (ad 0)), (1, .int x1), (2, .int x2), (3, .int x3), (4, .int x4), (5, .int x5), (6, .int (b2i x6)), (7, .int x7)] []) {x1 : Int32} {x2 : Int32} {x3 : Int32} {x4 : Int32} {x5 : Int32} {x6 : Bool} {x7 : Int32}  {S : St} (hm : fX9_mayTurnAlone_21b N  k21 x1 x2 x3 x4 x5 x6 x7 S = some r) : V p l e rmX9_mayTurnAlone s m args below meth c Q D (mW ad cA) (mA ad) 10 S 21 [(0, .ref (ad 0)), (1, .int x1), (2, .int x2), (3, .int x3), (4, .int x4), (5, .int x5), (6, .int (b2i x6)), (7, .int x7)] [] := by
  unfold fX9_mayTurnAlone_21b at hm
  refine v_iload C (pc := 21) 7 dX9_mayTurnAlone_21 rfl ?_
  refine v_aload_n C (pc := 23) 0 dX9_mayTurnAlone_23 rfl rfl ?_
  refine gX9_16 C (pc := 24) dX9_mayTurnAlone_24 ?_
  refine v_iload_n C (pc := 27) 1 dX9_mayTurnAlone_27 rfl rfl ?_
  refine ldX9_cells C (pc := 28) hm dX9_mayTurnAlone_28 (fun hm => ?_)
  refine v_icmp_ge C (pc := 29) hm 193 dX9_mayTurnAlone_29 rfl (fun hm => ?_) (fun hm => ?_)
  · exact v_sub [6] rfl (vX9_mayTurnAlone_193 C hr hQ (N := N) hm)
  · refine v_iload C (pc := 32) 6 dX9_mayTurnAlone_32 rfl ?_
    refine v_if_eq C (pc := 34) hm 193 dX9_mayTurnAlone_34 rfl (fun hm => ?_) (fun hm => ?_)
    · exact v_sub [6] rfl (vX9_mayTurnAlone_193 C hr hQ (N := N) hm)
    · refine v_aload_n C (pc := 37) 0 dX9_mayTurnAlone_37 rfl rfl ?_
      refine v_aload_n C (pc := 38) 0 dX9_mayTurnAlone_38 rfl rfl ?_
      refine v_iload_n C (pc := 39) 1 dX9_mayTurnAlone_39 rfl rfl ?_
      refine v_iload C (pc := 40) 7 dX9_mayTurnAlone_40 rfl ?_
      refine v_iload_n C (pc := 42) 2 dX9_mayTurnAlone_42 rfl rfl ?_
      refine kX9_164 C (Nat.le_of_ble_eq_true rfl) (Nat.le_of_ble_eq_true rfl) (pc := 43) hm (Nat.le_of_ble_eq_true rfl) dX9_mayTurnAlone_43 (fun r27 S29 hm => ?_)
      refine v_iload C (pc := 46) 4 dX9_mayTurnAlone_46 rfl ?_
      refine v_isub C (pc := 48) dX9_mayTurnAlone_48 ?_
      refine pX9_188 C (pc := 49) hm dX9_mayTurnAlone_49 (fun S30 hm => ?_)
      refine v_aload_n C (pc := 52) 0 dX9_mayTurnAlone_52 rfl rfl ?_
      refine v_aload_n C (pc := 53) 0 dX9_mayTurnAlone_53 rfl rfl ?_
      refine v_iload_n C (pc := 54) 1 dX9_mayTurnAlone_54 rfl rfl ?_
      refine v_iload C (pc := 55) 7 dX9_mayTurnAlone_55 rfl ?_
      refine v_iload_n C (pc := 57) 2 dX9_mayTurnAlone_57 rfl rfl ?_
      refine kX9_161 C (Nat.le_of_ble_eq_true rfl) (Nat.le_of_ble_eq_true rfl) (pc := 58) hm (Nat.le_of_ble_eq_true rfl) dX9_mayTurnAlone_58 (fun r28 S31 hm => ?_)
      refine v_iload C (pc := 61) 5 dX9_mayTurnAlone_61 rfl ?_
      refine v_isub C (pc := 63) dX9_mayTurnAlone_63 ?_
      refine pX9_191 C (pc := 64) hm dX9_mayTurnAlone_64 (fun S32 hm => ?_)
      refine v_aload_n C (pc := 67) 0 dX9_mayTurnAlone_67 rfl rfl ?_
      refine gX9_188 C (pc := 68) dX9_mayTurnAlone_68 ?_
      refine kX9_194 C (Nat.le_of_ble_eq_true rfl) (Nat.le_of_ble_eq_true rfl) (pc := 71) hm (Nat.le_of_ble_eq_true rfl) dX9_mayTurnAlone_71 (fun r29 S33 hm => ?_)
      refine v_aload_n C (pc := 74) 0 dX9_mayTurnAlone_74 rfl rfl ?_
      refine gX9_191 C (pc := 75) dX9_mayTurnAlone_75 ?_
      refine kX9_194 C (Nat.le_of_ble_eq_true rfl) (Nat.le_of_ble_eq_true rfl) (pc := 78) hm (Nat.le_of_ble_eq_true rfl) dX9_mayTurnAlone_78 (fun r30 S34 hm => ?_)
      refine v_icmp_le C (pc := 81) hm 94 dX9_mayTurnAlone_81 rfl (fun hm => ?_) (fun hm => ?_)
      · refine v_aload_n C (pc := 94) 0 dX9_mayTurnAlone_94 rfl rfl ?_
        refine gX9_191 C (pc := 95) dX9_mayTurnAlone_95 ?_
        refine kX9_194 C (Nat.le_of_ble_eq_true rfl) (Nat.le_of_ble_eq_true rfl) (pc := 98) hm (Nat.le_of_ble_eq_true rfl) dX9_mayTurnAlone_98 (fun r31 S35 hm => ?_)
        exact (vX9_mayTurnAlone_101 C hr hQ (N := N) hk21 hm)
      · refine v_aload_n C (pc := 84) 0 dX9_mayTurnAlone_84 rfl rfl ?_
        refine gX9_188 C (pc := 85) dX9_mayTurnAlone_85 ?_
        refine kX9_194 C (Nat.le_of_ble_eq_true rfl) (Nat.le_of_ble_eq_true rfl) (pc := 88) hm (Nat.le_of_ble_eq_true rfl) dX9_mayTurnAlone_88 (fun r32 S36 hm => ?_)
        refine v_goto C (pc := 91) 101 dX9_mayTurnAlone_91 rfl ?_
        exact (vX9_mayTurnAlone_101 C hr hQ (N := N) hk21 hm)
theorem vX9_mayTurnAlone_21 {p : Program} {l : Launch} {e : Env} {s : State} {m : MethodId} {args : Array Value} {below : List Frame} {meth : Method} {c : Code} {Q : State → Prop} {D : va_G} {ad : Nat → Nat} {cA : Nat → ClassId} (C : Ok p s m args c D cA (mW ad cA) (mA ad) mS RX9 cX9_mayTurnAlone 10) (hr : Rt meth (some .boolean)) {r : Bool × St} (hQ : Q = MQ below (Qo D (mW ad cA) (mA ad) (some (.int (b2i r.1))) r.2) args s 0 0 (mA ad)) {N : Nat}  (n : Nat) : ∀ (x1 : Int32) (x2 : Int32) (x3 : Int32) (x4 : Int32) (x5 : Int32) (x6 : Bool) (x7 : Int32) (S : St), fX9_mayTurnAlone_21 N  n x1 x2 x3 x4 x5 x6 x7 S = some r → V p l e rmX9_mayTurnAlone s m args below meth c Q D (mW ad cA) (mA ad) 10 S 21 [(0, .ref (ad 0)), (1, .int x1), (2, .int x2), (3, .int x3), (4, .int x4), (5, .int x5), (6, .int (b2i x6)), (7, .int x7)] [] := by
  induction n with
  | zero => intro _ _ _ _ _ _ _ _  hm; exact absurd hm (by intro h; cases h)
  | succ n ih => intro _ _ _ _ _ _ _ _  hm; exact vX9_mayTurnAlone_21b C hr hQ (N := N)   ih  hm
def fX9_mayTurnAlone (N : Nat) (p1 : Int32) (p2 : Int32) (p3 : Int32) (S : St) : Option (Bool × St) := nm (p2 - p2 / 8 * 8) fun y37 => nm ((p2 / 8) - (p2 / 8) / 8 * 8) fun y38 => fX9_mayTurnAlone_21 N N p1 p2 p3 y37 y38 true 0 S
set_option maxRecDepth 20000 in
theorem vX9_mayTurnAlone {p : Program} {l : Launch} {e : Env} {s : State} {m : MethodId} {args : Array Value} {below : List Frame} {meth : Method} {c : Code} {Q : State → Prop} {D : va_G} {ad : Nat → Nat} {cA : Nat → ClassId} (C : Ok p s m args c D cA (mW ad cA) (mA ad) mS RX9 cX9_mayTurnAlone 10) (hr : Rt meth (some .boolean)) {r : Bool × St} (hQ : Q = MQ below (Qo D (mW ad cA) (mA ad) (some (.int (b2i r.1))) r.2) args s 0 0 (mA ad)) {N : Nat} {p1 : Int32} {p2 : Int32} {p3 : Int32} {S : St} (hm : fX9_mayTurnAlone N p1 p2 p3 S = some r) : V p l e rmX9_mayTurnAlone s m args below meth c Q D (mW ad cA) (mA ad) 10 S 0 [(0, .ref (ad 0)), (1, .int p1), (2, .int p2), (3, .int p3)] [] := by
  unfold fX9_mayTurnAlone at hm
  refine v_iload_n C (pc := 0) 2 dX9_mayTurnAlone_0 rfl rfl ?_
  refine v_bipush C (pc := 1) 8 dX9_mayTurnAlone_1 rfl ?_
  refine v_irem C (pc := 3) dX9_mayTurnAlone_3 (by decide) ?_
  refine v_istoreN C (pc := 4) [(0, .ref (ad 0)), (1, .int p1), (2, .int p2), (3, .int p3)] hm dX9_mayTurnAlone_4 (by decide) rfl (fun y37 hm => ?_)
  refine v_iload_n C (pc := 6) 3 dX9_mayTurnAlone_6 rfl rfl ?_
  refine v_bipush C (pc := 7) 8 dX9_mayTurnAlone_7 rfl ?_
  refine v_idiv C (pc := 9) dX9_mayTurnAlone_9 (by decide) ?_
  refine v_bipush C (pc := 10) 8 dX9_mayTurnAlone_10 rfl ?_
  refine v_irem C (pc := 12) dX9_mayTurnAlone_12 (by decide) ?_
  refine v_istoreN C (pc := 13) [(4, .int y37), (0, .ref (ad 0)), (1, .int p1), (2, .int p2), (3, .int p3)] hm dX9_mayTurnAlone_13 (by decide) rfl (fun y38 hm => ?_)
  refine v_iconst C (pc := 15) 1 dX9_mayTurnAlone_15 rfl ?_
  refine v_istore C (pc := 16) [(6, .int 1), (5, .int y38), (4, .int y37), (0, .ref (ad 0)), (1, .int p1), (2, .int p2), (3, .int p3)] dX9_mayTurnAlone_16 (by decide) rfl ?_
  refine v_iconst C (pc := 18) 0 dX9_mayTurnAlone_18 rfl ?_
  refine v_istore C (pc := 19) [(7, .int 0), (6, .int 1), (5, .int y38), (4, .int y37), (0, .ref (ad 0)), (1, .int p1), (2, .int p2), (3, .int p3)] dX9_mayTurnAlone_19 (by decide) rfl ?_
  exact v_sub [4, 5, 6, 7, 3, 2, 1, 0] rfl (vX9_mayTurnAlone_21 C hr hQ (N := N) N _ _ _ _ _ _ _ _ hm)
theorem mX9_mayTurnAlone {l : Launch} {D : va_G} {ad : Nat → Nat} {cA : Nat → ClassId} (hD : ∀ S, va_D (mA ad) (mW ad cA S)) {N : Nat} {p1 : Int32} {p2 : Int32} {p3 : Int32} {S : St} {r : Bool × St} (hm : fX9_mayTurnAlone N p1 p2 p3 S = some r) : Met l yX9_mayTurnAlone (wsm yX9_mayTurnAlone cX9_mayTurnAlone 10 (some .boolean)) rmX9_mayTurnAlone (va_Pc [.ref (ad 0), .int p1, .int p2, .int p3] (Pre D cA (mW ad cA) mS S)) (Qo D (mW ad cA) (mA ad) (some (.int (b2i r.1))) r.2) 0 0 (mA ad) := met_of [.ref (ad 0), .int p1, .int p2, .int p3] (by decide) (Nat.le_of_ble_eq_true rfl) hD (fun _ _ _ _ h => h) (fun _ _ _ _ h => h) (fun p e s m below meth c C hr => vX9_mayTurnAlone C hr rfl (N := N)  hm)
-- X9_isAtGoal
def rmX9_isAtGoal : Room := { frames := 0, cells := 0, slots := 0, locals := 0 }
def fX9_isAtGoal_57 (N : Nat)  (s0 : Bool) (S : St) : Option (Bool × St) := some (s0, S)
set_option maxRecDepth 20000 in
theorem vX9_isAtGoal_57 {p : Program} {l : Launch} {e : Env} {s : State} {m : MethodId} {args : Array Value} {below : List Frame} {meth : Method} {c : Code} {Q : State → Prop} {D : va_G} {ad : Nat → Nat} {cA : Nat → ClassId} (C : Ok p s m args c D cA (mW ad cA) (mA ad) mS RX9 cX9_isAtGoal 3) (hr : Rt meth (some .boolean)) {r : Bool × St} (hQ : Q = MQ below (Qo D (mW ad cA) (mA ad) (some (.int (b2i r.1))) r.2) args s 0 0 (mA ad)) {N : Nat}  {s0 : Bool}  {S : St} (hm : fX9_isAtGoal_57 N  s0 S = some r) : V p l e rmX9_isAtGoal s m args below meth c Q D (mW ad cA) (mA ad) 3 S 57 [] [.int (b2i s0)] := by
  unfold fX9_isAtGoal_57 at hm
  exact v_zret C hr hQ (x := s0) (pc := 57) hm dX9_isAtGoal_57
def fX9_isAtGoal_52 (N : Nat)   (S : St) : Option (Bool × St) := fX9_isAtGoal_57 N true S
set_option maxRecDepth 20000 in
theorem vX9_isAtGoal_52 {p : Program} {l : Launch} {e : Env} {s : State} {m : MethodId} {args : Array Value} {below : List Frame} {meth : Method} {c : Code} {Q : State → Prop} {D : va_G} {ad : Nat → Nat} {cA : Nat → ClassId} (C : Ok p s m args c D cA (mW ad cA) (mA ad) mS RX9 cX9_isAtGoal 3) (hr : Rt meth (some .boolean)) {r : Bool × St} (hQ : Q = MQ below (Qo D (mW ad cA) (mA ad) (some (.int (b2i r.1))) r.2) args s 0 0 (mA ad)) {N : Nat}    {S : St} (hm : fX9_isAtGoal_52 N   S = some r) : V p l e rmX9_isAtGoal s m args below meth c Q D (mW ad cA) (mA ad) 3 S 52 [] [] := by
  unfold fX9_isAtGoal_52 at hm
  refine v_iconst C (pc := 52) 1 dX9_isAtGoal_52 rfl ?_
  refine v_goto C (pc := 53) 57 dX9_isAtGoal_53 rfl ?_
  exact (vX9_isAtGoal_57 C hr hQ (N := N) hm)
def fX9_isAtGoal_56 (N : Nat)   (S : St) : Option (Bool × St) := fX9_isAtGoal_57 N false S
set_option maxRecDepth 20000 in
theorem vX9_isAtGoal_56 {p : Program} {l : Launch} {e : Env} {s : State} {m : MethodId} {args : Array Value} {below : List Frame} {meth : Method} {c : Code} {Q : State → Prop} {D : va_G} {ad : Nat → Nat} {cA : Nat → ClassId} (C : Ok p s m args c D cA (mW ad cA) (mA ad) mS RX9 cX9_isAtGoal 3) (hr : Rt meth (some .boolean)) {r : Bool × St} (hQ : Q = MQ below (Qo D (mW ad cA) (mA ad) (some (.int (b2i r.1))) r.2) args s 0 0 (mA ad)) {N : Nat}    {S : St} (hm : fX9_isAtGoal_56 N   S = some r) : V p l e rmX9_isAtGoal s m args below meth c Q D (mW ad cA) (mA ad) 3 S 56 [] [] := by
  unfold fX9_isAtGoal_56 at hm
  refine v_iconst C (pc := 56) 0 dX9_isAtGoal_56 rfl ?_
  exact (vX9_isAtGoal_57 C hr hQ (N := N) hm)
def fX9_isAtGoal (N : Nat) (p1 : Int32) (p2 : Int32) (S : St) : Option (Bool × St) := ck p1 5 (if (p2 - p2 / 8 * 8) = (S.2.2.1 6 (Int32.toNatClampNeg p1)) then (ck p1 5 (if ((p2 / 8) - (p2 / 8) / 8 * 8) = (S.2.2.1 7 (Int32.toNatClampNeg p1)) then (ck p1 5 (if (S.2.2.1 8 (Int32.toNatClampNeg p1)) = 4 then (fX9_isAtGoal_52 N S) else (ck p1 5 (if (S.2.2.1 8 (Int32.toNatClampNeg p1)) = (p2 / 64) then (fX9_isAtGoal_52 N S) else (fX9_isAtGoal_56 N S))))) else (fX9_isAtGoal_56 N S))) else (fX9_isAtGoal_56 N S))
set_option maxRecDepth 20000 in
theorem vX9_isAtGoal {p : Program} {l : Launch} {e : Env} {s : State} {m : MethodId} {args : Array Value} {below : List Frame} {meth : Method} {c : Code} {Q : State → Prop} {D : va_G} {ad : Nat → Nat} {cA : Nat → ClassId} (C : Ok p s m args c D cA (mW ad cA) (mA ad) mS RX9 cX9_isAtGoal 3) (hr : Rt meth (some .boolean)) {r : Bool × St} (hQ : Q = MQ below (Qo D (mW ad cA) (mA ad) (some (.int (b2i r.1))) r.2) args s 0 0 (mA ad)) {N : Nat} {p1 : Int32} {p2 : Int32} {S : St} (hm : fX9_isAtGoal N p1 p2 S = some r) : V p l e rmX9_isAtGoal s m args below meth c Q D (mW ad cA) (mA ad) 3 S 0 [(0, .ref (ad 0)), (1, .int p1), (2, .int p2)] [] := by
  unfold fX9_isAtGoal at hm
  refine v_iload_n C (pc := 0) 2 dX9_isAtGoal_0 rfl rfl ?_
  refine v_bipush C (pc := 1) 8 dX9_isAtGoal_1 rfl ?_
  refine v_irem C (pc := 3) dX9_isAtGoal_3 (by decide) ?_
  refine v_aload_n C (pc := 4) 0 dX9_isAtGoal_4 rfl rfl ?_
  refine gX9_28 C (pc := 5) dX9_isAtGoal_5 ?_
  refine v_iload_n C (pc := 8) 1 dX9_isAtGoal_8 rfl rfl ?_
  refine ldX9_goalX C (pc := 9) hm dX9_isAtGoal_9 (fun hm => ?_)
  refine v_icmp_ne C (pc := 10) hm 56 dX9_isAtGoal_10 rfl (fun hm => ?_) (fun hm => ?_)
  · exact v_sub [] rfl (vX9_isAtGoal_56 C hr hQ (N := N) hm)
  · refine v_iload_n C (pc := 13) 2 dX9_isAtGoal_13 rfl rfl ?_
    refine v_bipush C (pc := 14) 8 dX9_isAtGoal_14 rfl ?_
    refine v_idiv C (pc := 16) dX9_isAtGoal_16 (by decide) ?_
    refine v_bipush C (pc := 17) 8 dX9_isAtGoal_17 rfl ?_
    refine v_irem C (pc := 19) dX9_isAtGoal_19 (by decide) ?_
    refine v_aload_n C (pc := 20) 0 dX9_isAtGoal_20 rfl rfl ?_
    refine gX9_31 C (pc := 21) dX9_isAtGoal_21 ?_
    refine v_iload_n C (pc := 24) 1 dX9_isAtGoal_24 rfl rfl ?_
    refine ldX9_goalY C (pc := 25) hm dX9_isAtGoal_25 (fun hm => ?_)
    refine v_icmp_ne C (pc := 26) hm 56 dX9_isAtGoal_26 rfl (fun hm => ?_) (fun hm => ?_)
    · exact v_sub [] rfl (vX9_isAtGoal_56 C hr hQ (N := N) hm)
    · refine v_aload_n C (pc := 29) 0 dX9_isAtGoal_29 rfl rfl ?_
      refine gX9_34 C (pc := 30) dX9_isAtGoal_30 ?_
      refine v_iload_n C (pc := 33) 1 dX9_isAtGoal_33 rfl rfl ?_
      refine ldX9_goalTurn C (pc := 34) hm dX9_isAtGoal_34 (fun hm => ?_)
      refine v_iconst C (pc := 35) 4 dX9_isAtGoal_35 rfl ?_
      refine v_icmp_eq C (pc := 36) hm 52 dX9_isAtGoal_36 rfl (fun hm => ?_) (fun hm => ?_)
      · exact v_sub [] rfl (vX9_isAtGoal_52 C hr hQ (N := N) hm)
      · refine v_aload_n C (pc := 39) 0 dX9_isAtGoal_39 rfl rfl ?_
        refine gX9_34 C (pc := 40) dX9_isAtGoal_40 ?_
        refine v_iload_n C (pc := 43) 1 dX9_isAtGoal_43 rfl rfl ?_
        refine ldX9_goalTurn C (pc := 44) hm dX9_isAtGoal_44 (fun hm => ?_)
        refine v_iload_n C (pc := 45) 2 dX9_isAtGoal_45 rfl rfl ?_
        refine v_bipush C (pc := 46) 64 dX9_isAtGoal_46 rfl ?_
        refine v_idiv C (pc := 48) dX9_isAtGoal_48 (by decide) ?_
        refine v_icmp_ne C (pc := 49) hm 56 dX9_isAtGoal_49 rfl (fun hm => ?_) (fun hm => ?_)
        · exact v_sub [] rfl (vX9_isAtGoal_56 C hr hQ (N := N) hm)
        · exact v_sub [] rfl (vX9_isAtGoal_52 C hr hQ (N := N) hm)
theorem mX9_isAtGoal {l : Launch} {D : va_G} {ad : Nat → Nat} {cA : Nat → ClassId} (hD : ∀ S, va_D (mA ad) (mW ad cA S)) {N : Nat} {p1 : Int32} {p2 : Int32} {S : St} {r : Bool × St} (hm : fX9_isAtGoal N p1 p2 S = some r) : Met l yX9_isAtGoal (wsm yX9_isAtGoal cX9_isAtGoal 3 (some .boolean)) rmX9_isAtGoal (va_Pc [.ref (ad 0), .int p1, .int p2] (Pre D cA (mW ad cA) mS S)) (Qo D (mW ad cA) (mA ad) (some (.int (b2i r.1))) r.2) 0 0 (mA ad) := met_of [.ref (ad 0), .int p1, .int p2] (by decide) (Nat.le_of_ble_eq_true rfl) hD (fun _ _ _ _ h => h) (fun _ _ _ _ h => h) (fun p e s m below meth c C hr => vX9_isAtGoal C hr rfl (N := N)  hm)
-- X9_leadsTo
def rmX9_leadsTo : Room := { frames := 0, cells := 0, slots := 0, locals := 0 }
def fX9_leadsTo_48 (N : Nat) (k3 : Int32 → Int32 → Int32 → Int32 → St → Option (Bool × St)) (x1 : Int32) (x2 : Int32) (x3 : Int32) (x4 : Int32) (S : St) : Option (Bool × St) := k3 x1 x2 x3 (x4 + 1) S
set_option maxRecDepth 20000 in
theorem vX9_leadsTo_48 {p : Program} {l : Launch} {e : Env} {s : State} {m : MethodId} {args : Array Value} {below : List Frame} {meth : Method} {c : Code} {Q : State → Prop} {D : va_G} {ad : Nat → Nat} {cA : Nat → ClassId} (C : Ok p s m args c D cA (mW ad cA) (mA ad) mS RX9 cX9_leadsTo 6) (hr : Rt meth (some .boolean)) {r : Bool × St} (hQ : Q = MQ below (Qo D (mW ad cA) (mA ad) (some (.int (b2i r.1))) r.2) args s 0 0 (mA ad)) {N : Nat} {k3 : Int32 → Int32 → Int32 → Int32 → St → Option (Bool × St)} (hk3 : ∀ (x1 : Int32) (x2 : Int32) (x3 : Int32) (x4 : Int32) (S : St), k3 x1 x2 x3 x4 S = some r → V p l e rmX9_leadsTo s m args below meth c Q D (mW ad cA) (mA ad) 6 S 3 [(0, .ref (ad 0)), (1, .int x1), (2, .int x2), (3, .int x3), (4, .int x4)] []) {x1 : Int32} {x2 : Int32} {x3 : Int32} {x4 : Int32}  {S : St} (hm : fX9_leadsTo_48 N k3 x1 x2 x3 x4 S = some r) : V p l e rmX9_leadsTo s m args below meth c Q D (mW ad cA) (mA ad) 6 S 48 [(0, .ref (ad 0)), (1, .int x1), (2, .int x2), (3, .int x3), (4, .int x4)] [] := by
  unfold fX9_leadsTo_48 at hm
  refine v_iinc C (pc := 48) 1 4 [(4, .int (x4 + 1)), (0, .ref (ad 0)), (1, .int x1), (2, .int x2), (3, .int x3)] dX9_leadsTo_48 rfl rfl (by decide) rfl ?_
  refine v_goto C (pc := 51) 3 dX9_leadsTo_51 rfl ?_
  exact v_sub [1, 2, 3, 4, 0] rfl (hk3 _ _ _ _ _ hm)
def fX9_leadsTo_3b (N : Nat)  (k3 : Int32 → Int32 → Int32 → Int32 → St → Option (Bool × St)) (x1 : Int32) (x2 : Int32) (x3 : Int32) (x4 : Int32) (S : St) : Option (Bool × St) := if 6 ≤ x4 then (some (false, S)) else (ck ((6 * x2) + x4) 1536 (nm (S.2.2.1 23 (Int32.toNatClampNeg ((6 * x2) + x4))) fun y3 => if y3 < 0 then (fX9_leadsTo_48 N k3 x1 x2 x3 x4 S) else (ck ((256 * x1) + y3) 1280 (if (S.2.2.1 24 (Int32.toNatClampNeg ((256 * x1) + y3))) = x3 then (some (true, S)) else (fX9_leadsTo_48 N k3 x1 x2 x3 x4 S)))))
def fX9_leadsTo_3 (N : Nat)  : Nat → Int32 → Int32 → Int32 → Int32 → St → Option (Bool × St)
  | 0 => fun _ _ _ _ _ => none
  | n + 1 => fun x1 x2 x3 x4 S => fX9_leadsTo_3b N  (fX9_leadsTo_3 N  n) x1 x2 x3 x4 S
set_option maxRecDepth 20000 in
theorem vX9_leadsTo_3b {p : Program} {l : Launch} {e : Env} {s : State} {m : MethodId} {args : Array Value} {below : List Frame} {meth : Method} {c : Code} {Q : State → Prop} {D : va_G} {ad : Nat → Nat} {cA : Nat → ClassId} (C : Ok p s m args c D cA (mW ad cA) (mA ad) mS RX9 cX9_leadsTo 6) (hr : Rt meth (some .boolean)) {r : Bool × St} (hQ : Q = MQ below (Qo D (mW ad cA) (mA ad) (some (.int (b2i r.1))) r.2) args s 0 0 (mA ad)) {N : Nat}  {k3 : Int32 → Int32 → Int32 → Int32 → St → Option (Bool × St)} (hk3 : ∀ (x1 : Int32) (x2 : Int32) (x3 : Int32) (x4 : Int32) (S : St), k3 x1 x2 x3 x4 S = some r → V p l e rmX9_leadsTo s m args below meth c Q D (mW ad cA) (mA ad) 6 S 3 [(0, .ref (ad 0)), (1, .int x1), (2, .int x2), (3, .int x3), (4, .int x4)] []) {x1 : Int32} {x2 : Int32} {x3 : Int32} {x4 : Int32}  {S : St} (hm : fX9_leadsTo_3b N  k3 x1 x2 x3 x4 S = some r) : V p l e rmX9_leadsTo s m args below meth c Q D (mW ad cA) (mA ad) 6 S 3 [(0, .ref (ad 0)), (1, .int x1), (2, .int x2), (3, .int x3), (4, .int x4)] [] := by
  unfold fX9_leadsTo_3b at hm
  refine v_iload C (pc := 3) 4 dX9_leadsTo_3 rfl ?_
  refine v_bipush C (pc := 5) 6 dX9_leadsTo_5 rfl ?_
  refine v_icmp_ge C (pc := 7) hm 54 dX9_leadsTo_7 rfl (fun hm => ?_) (fun hm => ?_)
  · refine v_iconst C (pc := 54) 0 dX9_leadsTo_54 rfl ?_
    exact v_zret C hr hQ (x := false) (pc := 55) hm dX9_leadsTo_55
  · refine v_aload_n C (pc := 10) 0 dX9_leadsTo_10 rfl rfl ?_
    refine gX9_91 C (pc := 11) dX9_leadsTo_11 ?_
    refine v_bipush C (pc := 14) 6 dX9_leadsTo_14 rfl ?_
    refine v_iload_n C (pc := 16) 2 dX9_leadsTo_16 rfl rfl ?_
    refine v_imul C (pc := 17) dX9_leadsTo_17 ?_
    refine v_iload C (pc := 18) 4 dX9_leadsTo_18 rfl ?_
    refine v_iadd C (pc := 20) dX9_leadsTo_20 ?_
    refine ldX9_nextOf C (pc := 21) hm dX9_leadsTo_21 (fun hm => ?_)
    refine v_istoreN C (pc := 22) [(0, .ref (ad 0)), (1, .int x1), (2, .int x2), (3, .int x3), (4, .int x4)] hm dX9_leadsTo_22 (by decide) rfl (fun y3 hm => ?_)
    refine v_iload C (pc := 24) 0 dX9_leadsTo_24 rfl ?_
    refine v_if_lt C (pc := 26) hm 48 dX9_leadsTo_26 rfl (fun hm => ?_) (fun hm => ?_)
    · exact v_sub [1, 2, 3, 4, 5] rfl (vX9_leadsTo_48 C hr hQ (N := N) hk3 hm)
    · refine v_aload_n C (pc := 29) 1 dX9_leadsTo_29 rfl rfl ?_
      refine gX9_94 C (pc := 30) dX9_leadsTo_30 ?_
      refine v_sipush C (pc := 33) 256 dX9_leadsTo_33 rfl ?_
      refine v_iload_n C (pc := 36) 2 dX9_leadsTo_36 rfl rfl ?_
      refine v_imul C (pc := 37) dX9_leadsTo_37 ?_
      refine v_iload C (pc := 38) 0 dX9_leadsTo_38 rfl ?_
      refine v_iadd C (pc := 40) dX9_leadsTo_40 ?_
      refine ldX9_farOf C (pc := 41) hm dX9_leadsTo_41 (fun hm => ?_)
      refine v_iload_n C (pc := 42) 4 dX9_leadsTo_42 rfl rfl ?_
      refine v_icmp_ne C (pc := 43) hm 48 dX9_leadsTo_43 rfl (fun hm => ?_) (fun hm => ?_)
      · exact v_sub [1, 2, 3, 4, 5] rfl (vX9_leadsTo_48 C hr hQ (N := N) hk3 hm)
      · refine v_iconst C (pc := 46) 1 dX9_leadsTo_46 rfl ?_
        exact v_zret C hr hQ (x := true) (pc := 47) hm dX9_leadsTo_47
theorem vX9_leadsTo_3 {p : Program} {l : Launch} {e : Env} {s : State} {m : MethodId} {args : Array Value} {below : List Frame} {meth : Method} {c : Code} {Q : State → Prop} {D : va_G} {ad : Nat → Nat} {cA : Nat → ClassId} (C : Ok p s m args c D cA (mW ad cA) (mA ad) mS RX9 cX9_leadsTo 6) (hr : Rt meth (some .boolean)) {r : Bool × St} (hQ : Q = MQ below (Qo D (mW ad cA) (mA ad) (some (.int (b2i r.1))) r.2) args s 0 0 (mA ad)) {N : Nat}  (n : Nat) : ∀ (x1 : Int32) (x2 : Int32) (x3 : Int32) (x4 : Int32) (S : St), fX9_leadsTo_3 N  n x1 x2 x3 x4 S = some r → V p l e rmX9_leadsTo s m args below meth c Q D (mW ad cA) (mA ad) 6 S 3 [(0, .ref (ad 0)), (1, .int x1), (2, .int x2), (3, .int x3), (4, .int x4)] [] := by
  induction n with
  | zero => intro _ _ _ _ _  hm; exact absurd hm (by intro h; cases h)
  | succ n ih => intro _ _ _ _ _  hm; exact vX9_leadsTo_3b C hr hQ (N := N)   ih  hm
def fX9_leadsTo (N : Nat) (p1 : Int32) (p2 : Int32) (p3 : Int32) (S : St) : Option (Bool × St) := fX9_leadsTo_3 N N p1 p2 p3 0 S
set_option maxRecDepth 20000 in
theorem vX9_leadsTo {p : Program} {l : Launch} {e : Env} {s : State} {m : MethodId} {args : Array Value} {below : List Frame} {meth : Method} {c : Code} {Q : State → Prop} {D : va_G} {ad : Nat → Nat} {cA : Nat → ClassId} (C : Ok p s m args c D cA (mW ad cA) (mA ad) mS RX9 cX9_leadsTo 6) (hr : Rt meth (some .boolean)) {r : Bool × St} (hQ : Q = MQ below (Qo D (mW ad cA) (mA ad) (some (.int (b2i r.1))) r.2) args s 0 0 (mA ad)) {N : Nat} {p1 : Int32} {p2 : Int32} {p3 : Int32} {S : St} (hm : fX9_leadsTo N p1 p2 p3 S = some r) : V p l e rmX9_leadsTo s m args below meth c Q D (mW ad cA) (mA ad) 6 S 0 [(0, .ref (ad 0)), (1, .int p1), (2, .int p2), (3, .int p3)] [] := by
  unfold fX9_leadsTo at hm
  refine v_iconst C (pc := 0) 0 dX9_leadsTo_0 rfl ?_
  refine v_istore C (pc := 1) [(4, .int 0), (0, .ref (ad 0)), (1, .int p1), (2, .int p2), (3, .int p3)] dX9_leadsTo_1 (by decide) rfl ?_
  exact v_sub [1, 2, 3, 4, 0] rfl (vX9_leadsTo_3 C hr hQ (N := N) N _ _ _ _ _ hm)
theorem mX9_leadsTo {l : Launch} {D : va_G} {ad : Nat → Nat} {cA : Nat → ClassId} (hD : ∀ S, va_D (mA ad) (mW ad cA S)) {N : Nat} {p1 : Int32} {p2 : Int32} {p3 : Int32} {S : St} {r : Bool × St} (hm : fX9_leadsTo N p1 p2 p3 S = some r) : Met l yX9_leadsTo (wsm yX9_leadsTo cX9_leadsTo 6 (some .boolean)) rmX9_leadsTo (va_Pc [.ref (ad 0), .int p1, .int p2, .int p3] (Pre D cA (mW ad cA) mS S)) (Qo D (mW ad cA) (mA ad) (some (.int (b2i r.1))) r.2) 0 0 (mA ad) := met_of [.ref (ad 0), .int p1, .int p2, .int p3] (by decide) (Nat.le_of_ble_eq_true rfl) hD (fun _ _ _ _ h => h) (fun _ _ _ _ h => h) (fun p e s m below meth c C hr => vX9_leadsTo C hr rfl (N := N)  hm)
-- X9_findFar
theorem infX9_isPlacement : InfV yX9_isPlacement cX9_isPlacement 5 (some .boolean) 2 := ⟨⟨gm (i := 65) (by decide +kernel) rfl, gm (i := 1168) (by decide +kernel) rfl, by decide +kernel⟩, gm (i := 1167) (by decide +kernel) rfl, gm (i := 40) (by decide +kernel) rfl⟩
theorem kX9_258 {p : Program} {l : Launch} {e : Env} {R : Room} {s : State} {m : MethodId} {args : Array Value} {below : List Frame} {meth : Method} {c : Code} {Q : State → Prop} {D : va_G} {ad : Nat → Nat} {cA : Nat → ClassId} {cc : ByteArray} {nL : Nat} {S : St} {pc : Nat} {lv : List (Nat × Value)} {st : List Value} {ρ : Type} {res : ρ} (C : Ok p s m args c D cA (mW ad cA) (mA ad) mS RX9 cc nL) (hfr : rmX9_isPlacement.frames + 1 ≤ R.frames) (hlo : 8 + (5 + 11) + rmX9_isPlacement.locals ≤ R.locals) {N : Nat} {p1 : Int32} {p2 : Int32} {E : Bool → St → Option ρ} (hm : bd (fX9_isPlacement N p1 p2 S) E = some res) (hcat : (st.map fun v => v.category).sum ≤ 8) (hd : decode cc pc = .ok (.invokevirtual 258, 3)) (k : ∀ r S, E r S = some res → V p l e R s m args below meth c Q D (mW ad cA) (mA ad) nL S (pc + 3) lv (.int (b2i r) :: st)) : V p l e R s m args below meth c Q D (mW ad cA) (mA ad) nL S pc lv (.int p2 :: .int p1 :: .ref (ad 0) :: st) := by
  obtain ⟨r, S1, h1, h2⟩ := bd_some hm
  exact v_callV C (gm (i := 1165) (by decide +kernel) rfl : Cond.methodLink RX9 258 yX9_isPlacement ∈ gw_tbl) infX9_isPlacement (rm2 := rmX9_isPlacement) ⟨rfl, rfl⟩ hfr hlo (mX9_isPlacement C.2.2.2.2.2.2.1 h1) (As := [.int p1, .int p2]) (oX9 ad cA S) rfl rfl rfl rfl hcat hd (k r S1 h2)
theorem infX9_isAtGoal : InfV yX9_isAtGoal cX9_isAtGoal 3 (some .boolean) 2 := ⟨⟨gm (i := 65) (by decide +kernel) rfl, gm (i := 1180) (by decide +kernel) rfl, by decide +kernel⟩, gm (i := 1179) (by decide +kernel) rfl, gm (i := 43) (by decide +kernel) rfl⟩
theorem kX9_261 {p : Program} {l : Launch} {e : Env} {R : Room} {s : State} {m : MethodId} {args : Array Value} {below : List Frame} {meth : Method} {c : Code} {Q : State → Prop} {D : va_G} {ad : Nat → Nat} {cA : Nat → ClassId} {cc : ByteArray} {nL : Nat} {S : St} {pc : Nat} {lv : List (Nat × Value)} {st : List Value} {ρ : Type} {res : ρ} (C : Ok p s m args c D cA (mW ad cA) (mA ad) mS RX9 cc nL) (hfr : rmX9_isAtGoal.frames + 1 ≤ R.frames) (hlo : 8 + (3 + 11) + rmX9_isAtGoal.locals ≤ R.locals) {N : Nat} {p1 : Int32} {p2 : Int32} {E : Bool → St → Option ρ} (hm : bd (fX9_isAtGoal N p1 p2 S) E = some res) (hcat : (st.map fun v => v.category).sum ≤ 8) (hd : decode cc pc = .ok (.invokevirtual 261, 3)) (k : ∀ r S, E r S = some res → V p l e R s m args below meth c Q D (mW ad cA) (mA ad) nL S (pc + 3) lv (.int (b2i r) :: st)) : V p l e R s m args below meth c Q D (mW ad cA) (mA ad) nL S pc lv (.int p2 :: .int p1 :: .ref (ad 0) :: st) := by
  obtain ⟨r, S1, h1, h2⟩ := bd_some hm
  exact v_callV C (gm (i := 1177) (by decide +kernel) rfl : Cond.methodLink RX9 261 yX9_isAtGoal ∈ gw_tbl) infX9_isAtGoal (rm2 := rmX9_isAtGoal) ⟨rfl, rfl⟩ hfr hlo (mX9_isAtGoal C.2.2.2.2.2.2.1 h1) (As := [.int p1, .int p2]) (oX9 ad cA S) rfl rfl rfl rfl hcat hd (k r S1 h2)
theorem infX9_maySlideAlone : InfV yX9_maySlideAlone cX9_maySlideAlone 8 (some .boolean) 3 := ⟨⟨gm (i := 65) (by decide +kernel) rfl, gm (i := 1184) (by decide +kernel) rfl, by decide +kernel⟩, gm (i := 1183) (by decide +kernel) rfl, gm (i := 44) (by decide +kernel) rfl⟩
theorem kX9_264 {p : Program} {l : Launch} {e : Env} {R : Room} {s : State} {m : MethodId} {args : Array Value} {below : List Frame} {meth : Method} {c : Code} {Q : State → Prop} {D : va_G} {ad : Nat → Nat} {cA : Nat → ClassId} {cc : ByteArray} {nL : Nat} {S : St} {pc : Nat} {lv : List (Nat × Value)} {st : List Value} {ρ : Type} {res : ρ} (C : Ok p s m args c D cA (mW ad cA) (mA ad) mS RX9 cc nL) (hfr : rmX9_maySlideAlone.frames + 1 ≤ R.frames) (hlo : 8 + (8 + 11) + rmX9_maySlideAlone.locals ≤ R.locals) {N : Nat} {p1 : Int32} {p2 : Int32} {p3 : Int32} {E : Bool → St → Option ρ} (hm : bd (fX9_maySlideAlone N p1 p2 p3 S) E = some res) (hcat : (st.map fun v => v.category).sum ≤ 8) (hd : decode cc pc = .ok (.invokevirtual 264, 3)) (k : ∀ r S, E r S = some res → V p l e R s m args below meth c Q D (mW ad cA) (mA ad) nL S (pc + 3) lv (.int (b2i r) :: st)) : V p l e R s m args below meth c Q D (mW ad cA) (mA ad) nL S pc lv (.int p3 :: .int p2 :: .int p1 :: .ref (ad 0) :: st) := by
  obtain ⟨r, S1, h1, h2⟩ := bd_some hm
  exact v_callV C (gm (i := 1181) (by decide +kernel) rfl : Cond.methodLink RX9 264 yX9_maySlideAlone ∈ gw_tbl) infX9_maySlideAlone (rm2 := rmX9_maySlideAlone) ⟨rfl, rfl⟩ hfr hlo (mX9_maySlideAlone C.2.2.2.2.2.2.1 h1) (As := [.int p1, .int p2, .int p3]) (oX9 ad cA S) rfl rfl rfl rfl hcat hd (k r S1 h2)
theorem infX9_mayTurnAlone : InfV yX9_mayTurnAlone cX9_mayTurnAlone 10 (some .boolean) 3 := ⟨⟨gm (i := 65) (by decide +kernel) rfl, gm (i := 1188) (by decide +kernel) rfl, by decide +kernel⟩, gm (i := 1187) (by decide +kernel) rfl, gm (i := 45) (by decide +kernel) rfl⟩
theorem kX9_267 {p : Program} {l : Launch} {e : Env} {R : Room} {s : State} {m : MethodId} {args : Array Value} {below : List Frame} {meth : Method} {c : Code} {Q : State → Prop} {D : va_G} {ad : Nat → Nat} {cA : Nat → ClassId} {cc : ByteArray} {nL : Nat} {S : St} {pc : Nat} {lv : List (Nat × Value)} {st : List Value} {ρ : Type} {res : ρ} (C : Ok p s m args c D cA (mW ad cA) (mA ad) mS RX9 cc nL) (hfr : rmX9_mayTurnAlone.frames + 1 ≤ R.frames) (hlo : 8 + (10 + 11) + rmX9_mayTurnAlone.locals ≤ R.locals) {N : Nat} {p1 : Int32} {p2 : Int32} {p3 : Int32} {E : Bool → St → Option ρ} (hm : bd (fX9_mayTurnAlone N p1 p2 p3 S) E = some res) (hcat : (st.map fun v => v.category).sum ≤ 8) (hd : decode cc pc = .ok (.invokevirtual 267, 3)) (k : ∀ r S, E r S = some res → V p l e R s m args below meth c Q D (mW ad cA) (mA ad) nL S (pc + 3) lv (.int (b2i r) :: st)) : V p l e R s m args below meth c Q D (mW ad cA) (mA ad) nL S pc lv (.int p3 :: .int p2 :: .int p1 :: .ref (ad 0) :: st) := by
  obtain ⟨r, S1, h1, h2⟩ := bd_some hm
  exact v_callV C (gm (i := 1185) (by decide +kernel) rfl : Cond.methodLink RX9 267 yX9_mayTurnAlone ∈ gw_tbl) infX9_mayTurnAlone (rm2 := rmX9_mayTurnAlone) ⟨rfl, rfl⟩ hfr hlo (mX9_mayTurnAlone C.2.2.2.2.2.2.1 h1) (As := [.int p1, .int p2, .int p3]) (oX9 ad cA S) rfl rfl rfl rfl hcat hd (k r S1 h2)
theorem infX9_leadsTo : InfV yX9_leadsTo cX9_leadsTo 6 (some .boolean) 3 := ⟨⟨gm (i := 65) (by decide +kernel) rfl, gm (i := 1192) (by decide +kernel) rfl, by decide +kernel⟩, gm (i := 1191) (by decide +kernel) rfl, gm (i := 46) (by decide +kernel) rfl⟩
theorem kX9_271 {p : Program} {l : Launch} {e : Env} {R : Room} {s : State} {m : MethodId} {args : Array Value} {below : List Frame} {meth : Method} {c : Code} {Q : State → Prop} {D : va_G} {ad : Nat → Nat} {cA : Nat → ClassId} {cc : ByteArray} {nL : Nat} {S : St} {pc : Nat} {lv : List (Nat × Value)} {st : List Value} {ρ : Type} {res : ρ} (C : Ok p s m args c D cA (mW ad cA) (mA ad) mS RX9 cc nL) (hfr : rmX9_leadsTo.frames + 1 ≤ R.frames) (hlo : 8 + (6 + 11) + rmX9_leadsTo.locals ≤ R.locals) {N : Nat} {p1 : Int32} {p2 : Int32} {p3 : Int32} {E : Bool → St → Option ρ} (hm : bd (fX9_leadsTo N p1 p2 p3 S) E = some res) (hcat : (st.map fun v => v.category).sum ≤ 8) (hd : decode cc pc = .ok (.invokevirtual 271, 3)) (k : ∀ r S, E r S = some res → V p l e R s m args below meth c Q D (mW ad cA) (mA ad) nL S (pc + 3) lv (.int (b2i r) :: st)) : V p l e R s m args below meth c Q D (mW ad cA) (mA ad) nL S pc lv (.int p3 :: .int p2 :: .int p1 :: .ref (ad 0) :: st) := by
  obtain ⟨r, S1, h1, h2⟩ := bd_some hm
  exact v_callV C (gm (i := 1189) (by decide +kernel) rfl : Cond.methodLink RX9 271 yX9_leadsTo ∈ gw_tbl) infX9_leadsTo (rm2 := rmX9_leadsTo) ⟨rfl, rfl⟩ hfr hlo (mX9_leadsTo C.2.2.2.2.2.2.1 h1) (As := [.int p1, .int p2, .int p3]) (oX9 ad cA S) rfl rfl rfl rfl hcat hd (k r S1 h2)
def rmX9_findFar : Room := { frames := 4, cells := 0, slots := 0, locals := 95 }
def fX9_findFar_142 (N : Nat) (k2 : Int32 → Int32 → St → Option (Unit × St)) (k58 : Int32 → Int32 → Bool → Int32 → St → Option (Unit × St)) (s0 : Int32) (s1 : Int32) (x1 : Int32) (x2 : Int32) (x3 : Bool) (x4 : Int32) (S : St) : Option (Unit × St) := ck s1 1536 (stp (sA S 23 (Int32.toNatClampNeg s1) s0) fun S30 => k58 x1 x2 x3 (x4 + 1) S30)
set_option maxRecDepth 20000 in
theorem vX9_findFar_142 {p : Program} {l : Launch} {e : Env} {s : State} {m : MethodId} {args : Array Value} {below : List Frame} {meth : Method} {c : Code} {Q : State → Prop} {D : va_G} {ad : Nat → Nat} {cA : Nat → ClassId} (C : Ok p s m args c D cA (mW ad cA) (mA ad) mS RX9 cX9_findFar 6) (hr : Rt meth none) {r : Unit × St} (hQ : Q = MQ below (Qo D (mW ad cA) (mA ad) (none) r.2) args s 0 0 (mA ad)) {N : Nat} {k2 : Int32 → Int32 → St → Option (Unit × St)} (hk2 : ∀ (x1 : Int32) (x2 : Int32) (S : St), k2 x1 x2 S = some r → V p l e rmX9_findFar s m args below meth c Q D (mW ad cA) (mA ad) 6 S 2 [(0, .ref (ad 0)), (1, .int x1), (2, .int x2)] []) {k58 : Int32 → Int32 → Bool → Int32 → St → Option (Unit × St)} (hk58 : ∀ (x1 : Int32) (x2 : Int32) (x3 : Bool) (x4 : Int32) (S : St), k58 x1 x2 x3 x4 S = some r → V p l e rmX9_findFar s m args below meth c Q D (mW ad cA) (mA ad) 6 S 58 [(0, .ref (ad 0)), (1, .int x1), (2, .int x2), (3, .int (b2i x3)), (4, .int x4)] []) {s0 : Int32} {s1 : Int32} {x1 : Int32} {x2 : Int32} {x3 : Bool} {x4 : Int32}  {S : St} (hm : fX9_findFar_142 N k2 k58 s0 s1 x1 x2 x3 x4 S = some r) : V p l e rmX9_findFar s m args below meth c Q D (mW ad cA) (mA ad) 6 S 142 [(0, .ref (ad 0)), (1, .int x1), (2, .int x2), (3, .int (b2i x3)), (4, .int x4)] [.int s0, .int s1, .ref (ad 27)] := by
  unfold fX9_findFar_142 at hm
  refine stX9_nextOf C (pc := 142) hm dX9_findFar_142 (fun S30 hm => ?_)
  refine v_iinc C (pc := 143) 1 4 [(4, .int (x4 + 1)), (0, .ref (ad 0)), (1, .int x1), (2, .int x2), (3, .int (b2i x3))] dX9_findFar_143 rfl rfl (by decide) rfl ?_
  refine v_goto C (pc := 146) 58 dX9_findFar_146 rfl ?_
  exact v_sub [1, 2, 3, 4, 0] rfl (hk58 _ _ _ _ _ hm)
def fX9_findFar_114 (N : Nat) (k2 : Int32 → Int32 → St → Option (Unit × St)) (k58 : Int32 → Int32 → Bool → Int32 → St → Option (Unit × St)) (s0 : Bool) (x1 : Int32) (x2 : Int32) (x3 : Bool) (x4 : Int32) (S : St) : Option (Unit × St) := if (b2i s0) = 0 then (fX9_findFar_142 N k2 k58 (-1) ((6 * x2) + x4) x1 x2 x3 x4 S) else (bd (fX9_placeBehind N x2 x4 S) fun r19 S29 => fX9_findFar_142 N k2 k58 r19 ((6 * x2) + x4) x1 x2 x3 x4 S29)
set_option maxRecDepth 20000 in
theorem vX9_findFar_114 {p : Program} {l : Launch} {e : Env} {s : State} {m : MethodId} {args : Array Value} {below : List Frame} {meth : Method} {c : Code} {Q : State → Prop} {D : va_G} {ad : Nat → Nat} {cA : Nat → ClassId} (C : Ok p s m args c D cA (mW ad cA) (mA ad) mS RX9 cX9_findFar 6) (hr : Rt meth none) {r : Unit × St} (hQ : Q = MQ below (Qo D (mW ad cA) (mA ad) (none) r.2) args s 0 0 (mA ad)) {N : Nat} {k2 : Int32 → Int32 → St → Option (Unit × St)} (hk2 : ∀ (x1 : Int32) (x2 : Int32) (S : St), k2 x1 x2 S = some r → V p l e rmX9_findFar s m args below meth c Q D (mW ad cA) (mA ad) 6 S 2 [(0, .ref (ad 0)), (1, .int x1), (2, .int x2)] []) {k58 : Int32 → Int32 → Bool → Int32 → St → Option (Unit × St)} (hk58 : ∀ (x1 : Int32) (x2 : Int32) (x3 : Bool) (x4 : Int32) (S : St), k58 x1 x2 x3 x4 S = some r → V p l e rmX9_findFar s m args below meth c Q D (mW ad cA) (mA ad) 6 S 58 [(0, .ref (ad 0)), (1, .int x1), (2, .int x2), (3, .int (b2i x3)), (4, .int x4)] []) {s0 : Bool} {x1 : Int32} {x2 : Int32} {x3 : Bool} {x4 : Int32}  {S : St} (hm : fX9_findFar_114 N k2 k58 s0 x1 x2 x3 x4 S = some r) : V p l e rmX9_findFar s m args below meth c Q D (mW ad cA) (mA ad) 6 S 114 [(0, .ref (ad 0)), (1, .int x1), (2, .int x2), (3, .int (b2i x3)), (4, .int x4)] [.int (b2i s0)] := by
  unfold fX9_findFar_114 at hm
  refine v_istore C (pc := 114) [(5, .int (b2i s0)), (0, .ref (ad 0)), (1, .int x1), (2, .int x2), (3, .int (b2i x3)), (4, .int x4)] dX9_findFar_114 (by decide) rfl ?_
  refine v_aload_n C (pc := 116) 1 dX9_findFar_116 rfl rfl ?_
  refine gX9_91 C (pc := 117) dX9_findFar_117 ?_
  refine v_bipush C (pc := 120) 6 dX9_findFar_120 rfl ?_
  refine v_iload_n C (pc := 122) 3 dX9_findFar_122 rfl rfl ?_
  refine v_imul C (pc := 123) dX9_findFar_123 ?_
  refine v_iload C (pc := 124) 5 dX9_findFar_124 rfl ?_
  refine v_iadd C (pc := 126) dX9_findFar_126 ?_
  refine v_iload C (pc := 127) 0 dX9_findFar_127 rfl ?_
  refine v_if_eq C (pc := 129) hm 141 dX9_findFar_129 rfl (fun hm => ?_) (fun hm => ?_)
  · refine v_iconst C (pc := 141) (-1) dX9_findFar_141 rfl ?_
    exact v_sub [1, 2, 3, 4, 5] rfl (vX9_findFar_142 C hr hQ (N := N) hk2 hk58 hm)
  · refine v_iload_n C (pc := 132) 3 dX9_findFar_132 rfl rfl ?_
    refine v_iload C (pc := 133) 5 dX9_findFar_133 rfl ?_
    refine kX9_211 C (Nat.le_of_ble_eq_true rfl) (Nat.le_of_ble_eq_true rfl) (pc := 135) hm (Nat.le_of_ble_eq_true rfl) dX9_findFar_135 (fun r19 S29 hm => ?_)
    refine v_goto C (pc := 138) 142 dX9_findFar_138 rfl ?_
    exact v_sub [1, 2, 3, 4, 5] rfl (vX9_findFar_142 C hr hQ (N := N) hk2 hk58 hm)
def fX9_findFar_113 (N : Nat) (k2 : Int32 → Int32 → St → Option (Unit × St)) (k58 : Int32 → Int32 → Bool → Int32 → St → Option (Unit × St)) (x1 : Int32) (x2 : Int32) (x3 : Bool) (x4 : Int32) (S : St) : Option (Unit × St) := fX9_findFar_114 N k2 k58 false x1 x2 x3 x4 S
set_option maxRecDepth 20000 in
theorem vX9_findFar_113 {p : Program} {l : Launch} {e : Env} {s : State} {m : MethodId} {args : Array Value} {below : List Frame} {meth : Method} {c : Code} {Q : State → Prop} {D : va_G} {ad : Nat → Nat} {cA : Nat → ClassId} (C : Ok p s m args c D cA (mW ad cA) (mA ad) mS RX9 cX9_findFar 6) (hr : Rt meth none) {r : Unit × St} (hQ : Q = MQ below (Qo D (mW ad cA) (mA ad) (none) r.2) args s 0 0 (mA ad)) {N : Nat} {k2 : Int32 → Int32 → St → Option (Unit × St)} (hk2 : ∀ (x1 : Int32) (x2 : Int32) (S : St), k2 x1 x2 S = some r → V p l e rmX9_findFar s m args below meth c Q D (mW ad cA) (mA ad) 6 S 2 [(0, .ref (ad 0)), (1, .int x1), (2, .int x2)] []) {k58 : Int32 → Int32 → Bool → Int32 → St → Option (Unit × St)} (hk58 : ∀ (x1 : Int32) (x2 : Int32) (x3 : Bool) (x4 : Int32) (S : St), k58 x1 x2 x3 x4 S = some r → V p l e rmX9_findFar s m args below meth c Q D (mW ad cA) (mA ad) 6 S 58 [(0, .ref (ad 0)), (1, .int x1), (2, .int x2), (3, .int (b2i x3)), (4, .int x4)] []) {x1 : Int32} {x2 : Int32} {x3 : Bool} {x4 : Int32}  {S : St} (hm : fX9_findFar_113 N k2 k58 x1 x2 x3 x4 S = some r) : V p l e rmX9_findFar s m args below meth c Q D (mW ad cA) (mA ad) 6 S 113 [(0, .ref (ad 0)), (1, .int x1), (2, .int x2), (3, .int (b2i x3)), (4, .int x4)] [] := by
  unfold fX9_findFar_113 at hm
  refine v_iconst C (pc := 113) 0 dX9_findFar_113 rfl ?_
  exact (vX9_findFar_114 C hr hQ (N := N) hk2 hk58 hm)
def fX9_findFar_109 (N : Nat) (k2 : Int32 → Int32 → St → Option (Unit × St)) (k58 : Int32 → Int32 → Bool → Int32 → St → Option (Unit × St)) (x1 : Int32) (x2 : Int32) (x3 : Bool) (x4 : Int32) (S : St) : Option (Unit × St) := fX9_findFar_114 N k2 k58 true x1 x2 x3 x4 S
set_option maxRecDepth 20000 in
theorem vX9_findFar_109 {p : Program} {l : Launch} {e : Env} {s : State} {m : MethodId} {args : Array Value} {below : List Frame} {meth : Method} {c : Code} {Q : State → Prop} {D : va_G} {ad : Nat → Nat} {cA : Nat → ClassId} (C : Ok p s m args c D cA (mW ad cA) (mA ad) mS RX9 cX9_findFar 6) (hr : Rt meth none) {r : Unit × St} (hQ : Q = MQ below (Qo D (mW ad cA) (mA ad) (none) r.2) args s 0 0 (mA ad)) {N : Nat} {k2 : Int32 → Int32 → St → Option (Unit × St)} (hk2 : ∀ (x1 : Int32) (x2 : Int32) (S : St), k2 x1 x2 S = some r → V p l e rmX9_findFar s m args below meth c Q D (mW ad cA) (mA ad) 6 S 2 [(0, .ref (ad 0)), (1, .int x1), (2, .int x2)] []) {k58 : Int32 → Int32 → Bool → Int32 → St → Option (Unit × St)} (hk58 : ∀ (x1 : Int32) (x2 : Int32) (x3 : Bool) (x4 : Int32) (S : St), k58 x1 x2 x3 x4 S = some r → V p l e rmX9_findFar s m args below meth c Q D (mW ad cA) (mA ad) 6 S 58 [(0, .ref (ad 0)), (1, .int x1), (2, .int x2), (3, .int (b2i x3)), (4, .int x4)] []) {x1 : Int32} {x2 : Int32} {x3 : Bool} {x4 : Int32}  {S : St} (hm : fX9_findFar_109 N k2 k58 x1 x2 x3 x4 S = some r) : V p l e rmX9_findFar s m args below meth c Q D (mW ad cA) (mA ad) 6 S 109 [(0, .ref (ad 0)), (1, .int x1), (2, .int x2), (3, .int (b2i x3)), (4, .int x4)] [] := by
  unfold fX9_findFar_109 at hm
  refine v_iconst C (pc := 109) 1 dX9_findFar_109 rfl ?_
  refine v_goto C (pc := 110) 114 dX9_findFar_110 rfl ?_
  exact (vX9_findFar_114 C hr hQ (N := N) hk2 hk58 hm)
def fX9_findFar_103 (N : Nat) (k2 : Int32 → Int32 → St → Option (Unit × St)) (k58 : Int32 → Int32 → Bool → Int32 → St → Option (Unit × St)) (s0 : Bool) (s1 : Int32) (s2 : Int32) (x1 : Int32) (x2 : Int32) (x3 : Bool) (x4 : Int32) (S : St) : Option (Unit × St) := bd (fX9_mayTurnAlone N s2 s1 (b2i s0) S) fun r20 S31 => if (b2i r20) = 0 then (fX9_findFar_113 N k2 k58 x1 x2 x3 x4 S31) else (fX9_findFar_109 N k2 k58 x1 x2 x3 x4 S31)
set_option maxRecDepth 20000 in
theorem vX9_findFar_103 {p : Program} {l : Launch} {e : Env} {s : State} {m : MethodId} {args : Array Value} {below : List Frame} {meth : Method} {c : Code} {Q : State → Prop} {D : va_G} {ad : Nat → Nat} {cA : Nat → ClassId} (C : Ok p s m args c D cA (mW ad cA) (mA ad) mS RX9 cX9_findFar 6) (hr : Rt meth none) {r : Unit × St} (hQ : Q = MQ below (Qo D (mW ad cA) (mA ad) (none) r.2) args s 0 0 (mA ad)) {N : Nat} {k2 : Int32 → Int32 → St → Option (Unit × St)} (hk2 : ∀ (x1 : Int32) (x2 : Int32) (S : St), k2 x1 x2 S = some r → V p l e rmX9_findFar s m args below meth c Q D (mW ad cA) (mA ad) 6 S 2 [(0, .ref (ad 0)), (1, .int x1), (2, .int x2)] []) {k58 : Int32 → Int32 → Bool → Int32 → St → Option (Unit × St)} (hk58 : ∀ (x1 : Int32) (x2 : Int32) (x3 : Bool) (x4 : Int32) (S : St), k58 x1 x2 x3 x4 S = some r → V p l e rmX9_findFar s m args below meth c Q D (mW ad cA) (mA ad) 6 S 58 [(0, .ref (ad 0)), (1, .int x1), (2, .int x2), (3, .int (b2i x3)), (4, .int x4)] []) {s0 : Bool} {s1 : Int32} {s2 : Int32} {x1 : Int32} {x2 : Int32} {x3 : Bool} {x4 : Int32}  {S : St} (hm : fX9_findFar_103 N k2 k58 s0 s1 s2 x1 x2 x3 x4 S = some r) : V p l e rmX9_findFar s m args below meth c Q D (mW ad cA) (mA ad) 6 S 103 [(0, .ref (ad 0)), (1, .int x1), (2, .int x2), (3, .int (b2i x3)), (4, .int x4)] [.int (b2i s0), .int s1, .int s2, .ref (ad 0)] := by
  unfold fX9_findFar_103 at hm
  refine kX9_267 C (Nat.le_of_ble_eq_true rfl) (Nat.le_of_ble_eq_true rfl) (pc := 103) hm (Nat.le_of_ble_eq_true rfl) dX9_findFar_103 (fun r20 S31 hm => ?_)
  refine v_if_eq C (pc := 106) hm 113 dX9_findFar_106 rfl (fun hm => ?_) (fun hm => ?_)
  · exact (vX9_findFar_113 C hr hQ (N := N) hk2 hk58 hm)
  · exact (vX9_findFar_109 C hr hQ (N := N) hk2 hk58 hm)
def fX9_findFar_58b (N : Nat) (k2 : Int32 → Int32 → St → Option (Unit × St)) (k58 : Int32 → Int32 → Bool → Int32 → St → Option (Unit × St)) (x1 : Int32) (x2 : Int32) (x3 : Bool) (x4 : Int32) (S : St) : Option (Unit × St) := if 6 ≤ x4 then (k2 x1 (x2 + 1) S) else (if (b2i x3) = 0 then (fX9_findFar_113 N k2 k58 x1 x2 x3 x4 S) else (if 4 ≤ x4 then (if x4 = 4 then (fX9_findFar_103 N k2 k58 true x2 x1 x1 x2 x3 x4 S) else (fX9_findFar_103 N k2 k58 false x2 x1 x1 x2 x3 x4 S)) else (bd (fX9_maySlideAlone N x1 x2 x4 S) fun r18 S28 => if (b2i r18) = 0 then (fX9_findFar_113 N k2 k58 x1 x2 x3 x4 S28) else (fX9_findFar_109 N k2 k58 x1 x2 x3 x4 S28))))
def fX9_findFar_58 (N : Nat) (k2 : Int32 → Int32 → St → Option (Unit × St)) : Nat → Int32 → Int32 → Bool → Int32 → St → Option (Unit × St)
  | 0 => fun _ _ _ _ _ => none
  | n + 1 => fun x1 x2 x3 x4 S => fX9_findFar_58b N k2 (fX9_findFar_58 N k2 n) x1 x2 x3 x4 S
set_option maxRecDepth 20000 in
theorem vX9_findFar_58b {p : Program} {l : Launch} {e : Env} {s : State} {m : MethodId} {args : Array Value} {below : List Frame} {meth : Method} {c : Code} {Q : State → Prop} {D : va_G} {ad : Nat → Nat} {cA : Nat → ClassId} (C : Ok p s m args c D cA (mW ad cA) (mA ad) mS RX9 cX9_findFar 6) (hr : Rt meth none) {r : Unit × St} (hQ : Q = MQ below (Qo D (mW ad cA) (mA ad) (none) r.2) args s 0 0 (mA ad)) {N : Nat} {k2 : Int32 → Int32 → St → Option (Unit × St)} (hk2 : ∀ (x1 : Int32) (x2 : Int32) (S : St), k2 x1 x2 S = some r → V p l e rmX9_findFar s m args below meth c Q D (mW ad cA) (mA ad) 6 S 2 [(0, .ref (ad 0)), (1, .int x1), (2, .int x2)] []) {k58 : Int32 → Int32 → Bool → Int32 → St → Option (Unit × St)} (hk58 : ∀ (x1 : Int32) (x2 : Int32) (x3 : Bool) (x4 : Int32) (S : St), k58 x1 x2 x3 x4 S = some r → V p l e rmX9_findFar s m args below meth c Q D (mW ad cA) (mA ad) 6 S 58 [(0, .ref (ad 0)), (1, .int x1), (2, .int x2), (3, .int (b2i x3)), (4, .int x4)] []) {x1 : Int32} {x2 : Int32} {x3 : Bool} {x4 : Int32}  {S : St} (hm : fX9_findFar_58b N k2 k58 x1 x2 x3 x4 S = some r) : V p l e rmX9_findFar s m args below meth c Q D (mW ad cA) (mA ad) 6 S 58 [(0, .ref (ad 0)), (1, .int x1), (2, .int x2), (3, .int (b2i x3)), (4, .int x4)] [] := by
  unfold fX9_findFar_58b at hm
  refine v_iload C (pc := 58) 4 dX9_findFar_58 rfl ?_
  refine v_bipush C (pc := 60) 6 dX9_findFar_60 rfl ?_
  refine v_icmp_ge C (pc := 62) hm 149 dX9_findFar_62 rfl (fun hm => ?_) (fun hm => ?_)
  · refine v_iinc C (pc := 149) 1 2 [(2, .int (x2 + 1)), (0, .ref (ad 0)), (1, .int x1), (3, .int (b2i x3)), (4, .int x4)] dX9_findFar_149 rfl rfl (by decide) rfl ?_
    refine v_goto C (pc := 152) 2 dX9_findFar_152 rfl ?_
    exact v_sub [1, 2, 0] rfl (hk2 _ _ _ hm)
  · refine v_iload_n C (pc := 65) 3 dX9_findFar_65 rfl rfl ?_
    refine v_if_eq C (pc := 66) hm 113 dX9_findFar_66 rfl (fun hm => ?_) (fun hm => ?_)
    · exact (vX9_findFar_113 C hr hQ (N := N) hk2 hk58 hm)
    · refine v_iload C (pc := 69) 4 dX9_findFar_69 rfl ?_
      refine v_iconst C (pc := 71) 4 dX9_findFar_71 rfl ?_
      refine v_icmp_ge C (pc := 72) hm 89 dX9_findFar_72 rfl (fun hm => ?_) (fun hm => ?_)
      · refine v_aload_n C (pc := 89) 0 dX9_findFar_89 rfl rfl ?_
        refine v_iload_n C (pc := 90) 1 dX9_findFar_90 rfl rfl ?_
        refine v_iload_n C (pc := 91) 2 dX9_findFar_91 rfl rfl ?_
        refine v_iload C (pc := 92) 4 dX9_findFar_92 rfl ?_
        refine v_iconst C (pc := 94) 4 dX9_findFar_94 rfl ?_
        refine v_icmp_ne C (pc := 95) hm 102 dX9_findFar_95 rfl (fun hm => ?_) (fun hm => ?_)
        · refine v_iconst C (pc := 102) 0 dX9_findFar_102 rfl ?_
          exact (vX9_findFar_103 C hr hQ (N := N) hk2 hk58 hm)
        · refine v_iconst C (pc := 98) 1 dX9_findFar_98 rfl ?_
          refine v_goto C (pc := 99) 103 dX9_findFar_99 rfl ?_
          exact (vX9_findFar_103 C hr hQ (N := N) hk2 hk58 hm)
      · refine v_aload_n C (pc := 75) 0 dX9_findFar_75 rfl rfl ?_
        refine v_iload_n C (pc := 76) 1 dX9_findFar_76 rfl rfl ?_
        refine v_iload_n C (pc := 77) 2 dX9_findFar_77 rfl rfl ?_
        refine v_iload C (pc := 78) 4 dX9_findFar_78 rfl ?_
        refine kX9_264 C (Nat.le_of_ble_eq_true rfl) (Nat.le_of_ble_eq_true rfl) (pc := 80) hm (Nat.le_of_ble_eq_true rfl) dX9_findFar_80 (fun r18 S28 hm => ?_)
        refine v_if_eq C (pc := 83) hm 113 dX9_findFar_83 rfl (fun hm => ?_) (fun hm => ?_)
        · exact (vX9_findFar_113 C hr hQ (N := N) hk2 hk58 hm)
        · refine v_goto C (pc := 86) 109 dX9_findFar_86 rfl ?_
          exact (vX9_findFar_109 C hr hQ (N := N) hk2 hk58 hm)
theorem vX9_findFar_58 {p : Program} {l : Launch} {e : Env} {s : State} {m : MethodId} {args : Array Value} {below : List Frame} {meth : Method} {c : Code} {Q : State → Prop} {D : va_G} {ad : Nat → Nat} {cA : Nat → ClassId} (C : Ok p s m args c D cA (mW ad cA) (mA ad) mS RX9 cX9_findFar 6) (hr : Rt meth none) {r : Unit × St} (hQ : Q = MQ below (Qo D (mW ad cA) (mA ad) (none) r.2) args s 0 0 (mA ad)) {N : Nat} {k2 : Int32 → Int32 → St → Option (Unit × St)} (hk2 : ∀ (x1 : Int32) (x2 : Int32) (S : St), k2 x1 x2 S = some r → V p l e rmX9_findFar s m args below meth c Q D (mW ad cA) (mA ad) 6 S 2 [(0, .ref (ad 0)), (1, .int x1), (2, .int x2)] []) (n : Nat) : ∀ (x1 : Int32) (x2 : Int32) (x3 : Bool) (x4 : Int32) (S : St), fX9_findFar_58 N k2 n x1 x2 x3 x4 S = some r → V p l e rmX9_findFar s m args below meth c Q D (mW ad cA) (mA ad) 6 S 58 [(0, .ref (ad 0)), (1, .int x1), (2, .int x2), (3, .int (b2i x3)), (4, .int x4)] [] := by
  induction n with
  | zero => intro _ _ _ _ _  hm; exact absurd hm (by intro h; cases h)
  | succ n ih => intro _ _ _ _ _  hm; exact vX9_findFar_58b C hr hQ (N := N)  hk2 ih  hm
def fX9_findFar_54 (N : Nat) (k2 : Int32 → Int32 → St → Option (Unit × St)) (s0 : Int32) (s1 : Int32) (x1 : Int32) (x2 : Int32) (x3 : Bool) (S : St) : Option (Unit × St) := ck s1 1280 (stp (sA S 24 (Int32.toNatClampNeg s1) s0) fun S27 => fX9_findFar_58 N k2 N x1 x2 x3 0 S27)
set_option maxRecDepth 20000 in
theorem vX9_findFar_54 {p : Program} {l : Launch} {e : Env} {s : State} {m : MethodId} {args : Array Value} {below : List Frame} {meth : Method} {c : Code} {Q : State → Prop} {D : va_G} {ad : Nat → Nat} {cA : Nat → ClassId} (C : Ok p s m args c D cA (mW ad cA) (mA ad) mS RX9 cX9_findFar 6) (hr : Rt meth none) {r : Unit × St} (hQ : Q = MQ below (Qo D (mW ad cA) (mA ad) (none) r.2) args s 0 0 (mA ad)) {N : Nat} {k2 : Int32 → Int32 → St → Option (Unit × St)} (hk2 : ∀ (x1 : Int32) (x2 : Int32) (S : St), k2 x1 x2 S = some r → V p l e rmX9_findFar s m args below meth c Q D (mW ad cA) (mA ad) 6 S 2 [(0, .ref (ad 0)), (1, .int x1), (2, .int x2)] []) {s0 : Int32} {s1 : Int32} {x1 : Int32} {x2 : Int32} {x3 : Bool}  {S : St} (hm : fX9_findFar_54 N k2 s0 s1 x1 x2 x3 S = some r) : V p l e rmX9_findFar s m args below meth c Q D (mW ad cA) (mA ad) 6 S 54 [(0, .ref (ad 0)), (1, .int x1), (2, .int x2), (3, .int (b2i x3))] [.int s0, .int s1, .ref (ad 28)] := by
  unfold fX9_findFar_54 at hm
  refine stX9_farOf C (pc := 54) hm dX9_findFar_54 (fun S27 hm => ?_)
  refine v_iconst C (pc := 55) 0 dX9_findFar_55 rfl ?_
  refine v_istore C (pc := 56) [(4, .int 0), (0, .ref (ad 0)), (1, .int x1), (2, .int x2), (3, .int (b2i x3))] dX9_findFar_56 (by decide) rfl ?_
  exact v_sub [1, 2, 3, 4, 0] rfl (vX9_findFar_58 C hr hQ (N := N) hk2 N _ _ _ _ _ hm)
def fX9_findFar_49 (N : Nat) (k2 : Int32 → Int32 → St → Option (Unit × St)) (s0 : Int32) (x1 : Int32) (x2 : Int32) (x3 : Bool) (S : St) : Option (Unit × St) := fX9_findFar_54 N k2 0 s0 x1 x2 x3 S
set_option maxRecDepth 20000 in
theorem vX9_findFar_49 {p : Program} {l : Launch} {e : Env} {s : State} {m : MethodId} {args : Array Value} {below : List Frame} {meth : Method} {c : Code} {Q : State → Prop} {D : va_G} {ad : Nat → Nat} {cA : Nat → ClassId} (C : Ok p s m args c D cA (mW ad cA) (mA ad) mS RX9 cX9_findFar 6) (hr : Rt meth none) {r : Unit × St} (hQ : Q = MQ below (Qo D (mW ad cA) (mA ad) (none) r.2) args s 0 0 (mA ad)) {N : Nat} {k2 : Int32 → Int32 → St → Option (Unit × St)} (hk2 : ∀ (x1 : Int32) (x2 : Int32) (S : St), k2 x1 x2 S = some r → V p l e rmX9_findFar s m args below meth c Q D (mW ad cA) (mA ad) 6 S 2 [(0, .ref (ad 0)), (1, .int x1), (2, .int x2)] []) {s0 : Int32} {x1 : Int32} {x2 : Int32} {x3 : Bool}  {S : St} (hm : fX9_findFar_49 N k2 s0 x1 x2 x3 S = some r) : V p l e rmX9_findFar s m args below meth c Q D (mW ad cA) (mA ad) 6 S 49 [(0, .ref (ad 0)), (1, .int x1), (2, .int x2), (3, .int (b2i x3))] [.int s0, .ref (ad 28)] := by
  unfold fX9_findFar_49 at hm
  refine v_iconst C (pc := 49) 0 dX9_findFar_49 rfl ?_
  refine v_goto C (pc := 50) 54 dX9_findFar_50 rfl ?_
  exact (vX9_findFar_54 C hr hQ (N := N) hk2 hm)
def fX9_findFar_53 (N : Nat) (k2 : Int32 → Int32 → St → Option (Unit × St)) (s0 : Int32) (x1 : Int32) (x2 : Int32) (x3 : Bool) (S : St) : Option (Unit × St) := fX9_findFar_54 N k2 (-1) s0 x1 x2 x3 S
set_option maxRecDepth 20000 in
theorem vX9_findFar_53 {p : Program} {l : Launch} {e : Env} {s : State} {m : MethodId} {args : Array Value} {below : List Frame} {meth : Method} {c : Code} {Q : State → Prop} {D : va_G} {ad : Nat → Nat} {cA : Nat → ClassId} (C : Ok p s m args c D cA (mW ad cA) (mA ad) mS RX9 cX9_findFar 6) (hr : Rt meth none) {r : Unit × St} (hQ : Q = MQ below (Qo D (mW ad cA) (mA ad) (none) r.2) args s 0 0 (mA ad)) {N : Nat} {k2 : Int32 → Int32 → St → Option (Unit × St)} (hk2 : ∀ (x1 : Int32) (x2 : Int32) (S : St), k2 x1 x2 S = some r → V p l e rmX9_findFar s m args below meth c Q D (mW ad cA) (mA ad) 6 S 2 [(0, .ref (ad 0)), (1, .int x1), (2, .int x2)] []) {s0 : Int32} {x1 : Int32} {x2 : Int32} {x3 : Bool}  {S : St} (hm : fX9_findFar_53 N k2 s0 x1 x2 x3 S = some r) : V p l e rmX9_findFar s m args below meth c Q D (mW ad cA) (mA ad) 6 S 53 [(0, .ref (ad 0)), (1, .int x1), (2, .int x2), (3, .int (b2i x3))] [.int s0, .ref (ad 28)] := by
  unfold fX9_findFar_53 at hm
  refine v_iconst C (pc := 53) (-1) dX9_findFar_53 rfl ?_
  exact (vX9_findFar_54 C hr hQ (N := N) hk2 hm)
def fX9_findFar_221 (N : Nat) (k159 : Int32 → Bool → Int32 → St → Option (Unit × St)) (k168 : Int32 → Bool → Int32 → Int32 → St → Option (Unit × St)) (x1 : Int32) (x2 : Bool) (x3 : Int32) (x4 : Int32) (S : St) : Option (Unit × St) := k168 x1 x2 x3 (x4 + 1) S
set_option maxRecDepth 20000 in
theorem vX9_findFar_221 {p : Program} {l : Launch} {e : Env} {s : State} {m : MethodId} {args : Array Value} {below : List Frame} {meth : Method} {c : Code} {Q : State → Prop} {D : va_G} {ad : Nat → Nat} {cA : Nat → ClassId} (C : Ok p s m args c D cA (mW ad cA) (mA ad) mS RX9 cX9_findFar 6) (hr : Rt meth none) {r : Unit × St} (hQ : Q = MQ below (Qo D (mW ad cA) (mA ad) (none) r.2) args s 0 0 (mA ad)) {N : Nat} {k159 : Int32 → Bool → Int32 → St → Option (Unit × St)} (hk159 : ∀ (x1 : Int32) (x2 : Bool) (x3 : Int32) (S : St), k159 x1 x2 x3 S = some r → V p l e rmX9_findFar s m args below meth c Q D (mW ad cA) (mA ad) 6 S 159 [(0, .ref (ad 0)), (1, .int x1), (2, .int (b2i x2)), (3, .int x3)] []) {k168 : Int32 → Bool → Int32 → Int32 → St → Option (Unit × St)} (hk168 : ∀ (x1 : Int32) (x2 : Bool) (x3 : Int32) (x4 : Int32) (S : St), k168 x1 x2 x3 x4 S = some r → V p l e rmX9_findFar s m args below meth c Q D (mW ad cA) (mA ad) 6 S 168 [(0, .ref (ad 0)), (1, .int x1), (2, .int (b2i x2)), (3, .int x3), (4, .int x4)] []) {x1 : Int32} {x2 : Bool} {x3 : Int32} {x4 : Int32}  {S : St} (hm : fX9_findFar_221 N k159 k168 x1 x2 x3 x4 S = some r) : V p l e rmX9_findFar s m args below meth c Q D (mW ad cA) (mA ad) 6 S 221 [(0, .ref (ad 0)), (1, .int x1), (2, .int (b2i x2)), (3, .int x3), (4, .int x4)] [] := by
  unfold fX9_findFar_221 at hm
  refine v_iinc C (pc := 221) 1 4 [(4, .int (x4 + 1)), (0, .ref (ad 0)), (1, .int x1), (2, .int (b2i x2)), (3, .int x3)] dX9_findFar_221 rfl rfl (by decide) rfl ?_
  refine v_goto C (pc := 224) 168 dX9_findFar_224 rfl ?_
  exact v_sub [1, 2, 3, 4, 0] rfl (hk168 _ _ _ _ _ hm)
def fX9_findFar_168b (N : Nat) (k159 : Int32 → Bool → Int32 → St → Option (Unit × St)) (k168 : Int32 → Bool → Int32 → Int32 → St → Option (Unit × St)) (x1 : Int32) (x2 : Bool) (x3 : Int32) (x4 : Int32) (S : St) : Option (Unit × St) := if 256 ≤ x4 then (k159 x1 x2 (x3 + 1) S) else (ck ((256 * x1) + x4) 1280 (if 0 ≤ (S.2.2.1 24 (Int32.toNatClampNeg ((256 * x1) + x4))) then (fX9_findFar_221 N k159 k168 x1 x2 x3 x4 S) else (bd (fX9_leadsTo N x1 x4 x3 S) fun r21 S32 => if (b2i r21) = 0 then (fX9_findFar_221 N k159 k168 x1 x2 x3 x4 S32) else (ck ((256 * x1) + x4) 1280 (stp (sA S32 24 (Int32.toNatClampNeg ((256 * x1) + x4)) (x3 + 1)) fun S33 => fX9_findFar_221 N k159 k168 x1 true x3 x4 S33)))))
def fX9_findFar_168 (N : Nat) (k159 : Int32 → Bool → Int32 → St → Option (Unit × St)) : Nat → Int32 → Bool → Int32 → Int32 → St → Option (Unit × St)
  | 0 => fun _ _ _ _ _ => none
  | n + 1 => fun x1 x2 x3 x4 S => fX9_findFar_168b N k159 (fX9_findFar_168 N k159 n) x1 x2 x3 x4 S
set_option maxRecDepth 20000 in
theorem vX9_findFar_168b {p : Program} {l : Launch} {e : Env} {s : State} {m : MethodId} {args : Array Value} {below : List Frame} {meth : Method} {c : Code} {Q : State → Prop} {D : va_G} {ad : Nat → Nat} {cA : Nat → ClassId} (C : Ok p s m args c D cA (mW ad cA) (mA ad) mS RX9 cX9_findFar 6) (hr : Rt meth none) {r : Unit × St} (hQ : Q = MQ below (Qo D (mW ad cA) (mA ad) (none) r.2) args s 0 0 (mA ad)) {N : Nat} {k159 : Int32 → Bool → Int32 → St → Option (Unit × St)} (hk159 : ∀ (x1 : Int32) (x2 : Bool) (x3 : Int32) (S : St), k159 x1 x2 x3 S = some r → V p l e rmX9_findFar s m args below meth c Q D (mW ad cA) (mA ad) 6 S 159 [(0, .ref (ad 0)), (1, .int x1), (2, .int (b2i x2)), (3, .int x3)] []) {k168 : Int32 → Bool → Int32 → Int32 → St → Option (Unit × St)} (hk168 : ∀ (x1 : Int32) (x2 : Bool) (x3 : Int32) (x4 : Int32) (S : St), k168 x1 x2 x3 x4 S = some r → V p l e rmX9_findFar s m args below meth c Q D (mW ad cA) (mA ad) 6 S 168 [(0, .ref (ad 0)), (1, .int x1), (2, .int (b2i x2)), (3, .int x3), (4, .int x4)] []) {x1 : Int32} {x2 : Bool} {x3 : Int32} {x4 : Int32}  {S : St} (hm : fX9_findFar_168b N k159 k168 x1 x2 x3 x4 S = some r) : V p l e rmX9_findFar s m args below meth c Q D (mW ad cA) (mA ad) 6 S 168 [(0, .ref (ad 0)), (1, .int x1), (2, .int (b2i x2)), (3, .int x3), (4, .int x4)] [] := by
  unfold fX9_findFar_168b at hm
  refine v_iload C (pc := 168) 4 dX9_findFar_168 rfl ?_
  refine v_sipush C (pc := 170) 256 dX9_findFar_170 rfl ?_
  refine v_icmp_ge C (pc := 173) hm 227 dX9_findFar_173 rfl (fun hm => ?_) (fun hm => ?_)
  · refine v_iinc C (pc := 227) 1 3 [(3, .int (x3 + 1)), (0, .ref (ad 0)), (1, .int x1), (2, .int (b2i x2)), (4, .int x4)] dX9_findFar_227 rfl rfl (by decide) rfl ?_
    refine v_goto C (pc := 230) 159 dX9_findFar_230 rfl ?_
    exact v_sub [1, 2, 3, 0] rfl (hk159 _ _ _ _ hm)
  · refine v_aload_n C (pc := 176) 0 dX9_findFar_176 rfl rfl ?_
    refine gX9_94 C (pc := 177) dX9_findFar_177 ?_
    refine v_sipush C (pc := 180) 256 dX9_findFar_180 rfl ?_
    refine v_iload_n C (pc := 183) 1 dX9_findFar_183 rfl rfl ?_
    refine v_imul C (pc := 184) dX9_findFar_184 ?_
    refine v_iload C (pc := 185) 4 dX9_findFar_185 rfl ?_
    refine v_iadd C (pc := 187) dX9_findFar_187 ?_
    refine ldX9_farOf C (pc := 188) hm dX9_findFar_188 (fun hm => ?_)
    refine v_if_ge C (pc := 189) hm 221 dX9_findFar_189 rfl (fun hm => ?_) (fun hm => ?_)
    · exact (vX9_findFar_221 C hr hQ (N := N) hk159 hk168 hm)
    · refine v_aload_n C (pc := 192) 0 dX9_findFar_192 rfl rfl ?_
      refine v_iload_n C (pc := 193) 1 dX9_findFar_193 rfl rfl ?_
      refine v_iload C (pc := 194) 4 dX9_findFar_194 rfl ?_
      refine v_iload_n C (pc := 196) 3 dX9_findFar_196 rfl rfl ?_
      refine kX9_271 C (Nat.le_of_ble_eq_true rfl) (Nat.le_of_ble_eq_true rfl) (pc := 197) hm (Nat.le_of_ble_eq_true rfl) dX9_findFar_197 (fun r21 S32 hm => ?_)
      refine v_if_eq C (pc := 200) hm 221 dX9_findFar_200 rfl (fun hm => ?_) (fun hm => ?_)
      · exact (vX9_findFar_221 C hr hQ (N := N) hk159 hk168 hm)
      · refine v_aload_n C (pc := 203) 0 dX9_findFar_203 rfl rfl ?_
        refine gX9_94 C (pc := 204) dX9_findFar_204 ?_
        refine v_sipush C (pc := 207) 256 dX9_findFar_207 rfl ?_
        refine v_iload_n C (pc := 210) 1 dX9_findFar_210 rfl rfl ?_
        refine v_imul C (pc := 211) dX9_findFar_211 ?_
        refine v_iload C (pc := 212) 4 dX9_findFar_212 rfl ?_
        refine v_iadd C (pc := 214) dX9_findFar_214 ?_
        refine v_iload_n C (pc := 215) 3 dX9_findFar_215 rfl rfl ?_
        refine v_iconst C (pc := 216) 1 dX9_findFar_216 rfl ?_
        refine v_iadd C (pc := 217) dX9_findFar_217 ?_
        refine stX9_farOf C (pc := 218) hm dX9_findFar_218 (fun S33 hm => ?_)
        refine v_iconst C (pc := 219) 1 dX9_findFar_219 rfl ?_
        refine v_istore_n C (pc := 220) [(2, .int 1), (0, .ref (ad 0)), (1, .int x1), (3, .int x3), (4, .int x4)] dX9_findFar_220 rfl (by decide) rfl ?_
        exact v_sub [1, 2, 0, 3, 4] rfl (vX9_findFar_221 C hr hQ (N := N) hk159 hk168 hm)
theorem vX9_findFar_168 {p : Program} {l : Launch} {e : Env} {s : State} {m : MethodId} {args : Array Value} {below : List Frame} {meth : Method} {c : Code} {Q : State → Prop} {D : va_G} {ad : Nat → Nat} {cA : Nat → ClassId} (C : Ok p s m args c D cA (mW ad cA) (mA ad) mS RX9 cX9_findFar 6) (hr : Rt meth none) {r : Unit × St} (hQ : Q = MQ below (Qo D (mW ad cA) (mA ad) (none) r.2) args s 0 0 (mA ad)) {N : Nat} {k159 : Int32 → Bool → Int32 → St → Option (Unit × St)} (hk159 : ∀ (x1 : Int32) (x2 : Bool) (x3 : Int32) (S : St), k159 x1 x2 x3 S = some r → V p l e rmX9_findFar s m args below meth c Q D (mW ad cA) (mA ad) 6 S 159 [(0, .ref (ad 0)), (1, .int x1), (2, .int (b2i x2)), (3, .int x3)] []) (n : Nat) : ∀ (x1 : Int32) (x2 : Bool) (x3 : Int32) (x4 : Int32) (S : St), fX9_findFar_168 N k159 n x1 x2 x3 x4 S = some r → V p l e rmX9_findFar s m args below meth c Q D (mW ad cA) (mA ad) 6 S 168 [(0, .ref (ad 0)), (1, .int x1), (2, .int (b2i x2)), (3, .int x3), (4, .int x4)] [] := by
  induction n with
  | zero => intro _ _ _ _ _  hm; exact absurd hm (by intro h; cases h)
  | succ n ih => intro _ _ _ _ _  hm; exact vX9_findFar_168b C hr hQ (N := N)  hk159 ih  hm
def fX9_findFar_159b (N : Nat)  (k159 : Int32 → Bool → Int32 → St → Option (Unit × St)) (x1 : Int32) (x2 : Bool) (x3 : Int32) (S : St) : Option (Unit × St) := if (b2i x2) = 0 then (some ((), S)) else (fX9_findFar_168 N k159 N x1 false x3 0 S)
def fX9_findFar_159 (N : Nat)  : Nat → Int32 → Bool → Int32 → St → Option (Unit × St)
  | 0 => fun _ _ _ _ => none
  | n + 1 => fun x1 x2 x3 S => fX9_findFar_159b N  (fX9_findFar_159 N  n) x1 x2 x3 S
set_option maxRecDepth 20000 in
theorem vX9_findFar_159b {p : Program} {l : Launch} {e : Env} {s : State} {m : MethodId} {args : Array Value} {below : List Frame} {meth : Method} {c : Code} {Q : State → Prop} {D : va_G} {ad : Nat → Nat} {cA : Nat → ClassId} (C : Ok p s m args c D cA (mW ad cA) (mA ad) mS RX9 cX9_findFar 6) (hr : Rt meth none) {r : Unit × St} (hQ : Q = MQ below (Qo D (mW ad cA) (mA ad) (none) r.2) args s 0 0 (mA ad)) {N : Nat}  {k159 : Int32 → Bool → Int32 → St → Option (Unit × St)} (hk159 : ∀ (x1 : Int32) (x2 : Bool) (x3 : Int32) (S : St), k159 x1 x2 x3 S = some r → V p l e rmX9_findFar s m args below meth c Q D (mW ad cA) (mA ad) 6 S 159 [(0, .ref (ad 0)), (1, .int x1), (2, .int (b2i x2)), (3, .int x3)] []) {x1 : Int32} {x2 : Bool} {x3 : Int32}  {S : St} (hm : fX9_findFar_159b N  k159 x1 x2 x3 S = some r) : V p l e rmX9_findFar s m args below meth c Q D (mW ad cA) (mA ad) 6 S 159 [(0, .ref (ad 0)), (1, .int x1), (2, .int (b2i x2)), (3, .int x3)] [] := by
  unfold fX9_findFar_159b at hm
  refine v_iload_n C (pc := 159) 2 dX9_findFar_159 rfl rfl ?_
  refine v_if_eq C (pc := 160) hm 233 dX9_findFar_160 rfl (fun hm => ?_) (fun hm => ?_)
  · exact v_vret C hr hQ (x := ()) (pc := 233) hm dX9_findFar_233
  · refine v_iconst C (pc := 163) 0 dX9_findFar_163 rfl ?_
    refine v_istore_n C (pc := 164) [(2, .int 0), (0, .ref (ad 0)), (1, .int x1), (3, .int x3)] dX9_findFar_164 rfl (by decide) rfl ?_
    refine v_iconst C (pc := 165) 0 dX9_findFar_165 rfl ?_
    refine v_istore C (pc := 166) [(4, .int 0), (2, .int 0), (0, .ref (ad 0)), (1, .int x1), (3, .int x3)] dX9_findFar_166 (by decide) rfl ?_
    exact v_sub [2, 3, 1, 4, 0] rfl (vX9_findFar_168 C hr hQ (N := N) hk159 N _ _ _ _ _ hm)
theorem vX9_findFar_159 {p : Program} {l : Launch} {e : Env} {s : State} {m : MethodId} {args : Array Value} {below : List Frame} {meth : Method} {c : Code} {Q : State → Prop} {D : va_G} {ad : Nat → Nat} {cA : Nat → ClassId} (C : Ok p s m args c D cA (mW ad cA) (mA ad) mS RX9 cX9_findFar 6) (hr : Rt meth none) {r : Unit × St} (hQ : Q = MQ below (Qo D (mW ad cA) (mA ad) (none) r.2) args s 0 0 (mA ad)) {N : Nat}  (n : Nat) : ∀ (x1 : Int32) (x2 : Bool) (x3 : Int32) (S : St), fX9_findFar_159 N  n x1 x2 x3 S = some r → V p l e rmX9_findFar s m args below meth c Q D (mW ad cA) (mA ad) 6 S 159 [(0, .ref (ad 0)), (1, .int x1), (2, .int (b2i x2)), (3, .int x3)] [] := by
  induction n with
  | zero => intro _ _ _ _  hm; exact absurd hm (by intro h; cases h)
  | succ n ih => intro _ _ _ _  hm; exact vX9_findFar_159b C hr hQ (N := N)   ih  hm
def fX9_findFar_2b (N : Nat)  (k2 : Int32 → Int32 → St → Option (Unit × St)) (x1 : Int32) (x2 : Int32) (S : St) : Option (Unit × St) := if 256 ≤ x2 then (fX9_findFar_159 N N x1 true 0 S) else (bd (fX9_isPlacement N x1 x2 S) fun r16 S25 => if (b2i r16) = 0 then (fX9_findFar_53 N k2 ((256 * x1) + x2) x1 x2 r16 S25) else (ck x1 5 (if (S25.2.2.1 8 (Int32.toNatClampNeg x1)) < 0 then (fX9_findFar_49 N k2 ((256 * x1) + x2) x1 x2 r16 S25) else (bd (fX9_isAtGoal N x1 x2 S25) fun r17 S26 => if (b2i r17) = 0 then (fX9_findFar_53 N k2 ((256 * x1) + x2) x1 x2 r16 S26) else (fX9_findFar_49 N k2 ((256 * x1) + x2) x1 x2 r16 S26)))))
def fX9_findFar_2 (N : Nat)  : Nat → Int32 → Int32 → St → Option (Unit × St)
  | 0 => fun _ _ _ => none
  | n + 1 => fun x1 x2 S => fX9_findFar_2b N  (fX9_findFar_2 N  n) x1 x2 S
set_option maxRecDepth 20000 in
theorem vX9_findFar_2b {p : Program} {l : Launch} {e : Env} {s : State} {m : MethodId} {args : Array Value} {below : List Frame} {meth : Method} {c : Code} {Q : State → Prop} {D : va_G} {ad : Nat → Nat} {cA : Nat → ClassId} (C : Ok p s m args c D cA (mW ad cA) (mA ad) mS RX9 cX9_findFar 6) (hr : Rt meth none) {r : Unit × St} (hQ : Q = MQ below (Qo D (mW ad cA) (mA ad) (none) r.2) args s 0 0 (mA ad)) {N : Nat}  {k2 : Int32 → Int32 → St → Option (Unit × St)} (hk2 : ∀ (x1 : Int32) (x2 : Int32) (S : St), k2 x1 x2 S = some r → V p l e rmX9_findFar s m args below meth c Q D (mW ad cA) (mA ad) 6 S 2 [(0, .ref (ad 0)), (1, .int x1), (2, .int x2)] []) {x1 : Int32} {x2 : Int32}  {S : St} (hm : fX9_findFar_2b N  k2 x1 x2 S = some r) : V p l e rmX9_findFar s m args below meth c Q D (mW ad cA) (mA ad) 6 S 2 [(0, .ref (ad 0)), (1, .int x1), (2, .int x2)] [] := by
  unfold fX9_findFar_2b at hm
  refine v_iload_n C (pc := 2) 2 dX9_findFar_2 rfl rfl ?_
  refine v_sipush C (pc := 3) 256 dX9_findFar_3 rfl ?_
  refine v_icmp_ge C (pc := 6) hm 155 dX9_findFar_6 rfl (fun hm => ?_) (fun hm => ?_)
  · refine v_iconst C (pc := 155) 1 dX9_findFar_155 rfl ?_
    refine v_istore_n C (pc := 156) [(2, .int 1), (0, .ref (ad 0)), (1, .int x1)] dX9_findFar_156 rfl (by decide) rfl ?_
    refine v_iconst C (pc := 157) 0 dX9_findFar_157 rfl ?_
    refine v_istore_n C (pc := 158) [(3, .int 0), (2, .int 1), (0, .ref (ad 0)), (1, .int x1)] dX9_findFar_158 rfl (by decide) rfl ?_
    exact v_sub [2, 3, 1, 0] rfl (vX9_findFar_159 C hr hQ (N := N) N _ _ _ _ hm)
  · refine v_aload_n C (pc := 9) 0 dX9_findFar_9 rfl rfl ?_
    refine v_iload_n C (pc := 10) 1 dX9_findFar_10 rfl rfl ?_
    refine v_iload_n C (pc := 11) 2 dX9_findFar_11 rfl rfl ?_
    refine kX9_258 C (Nat.le_of_ble_eq_true rfl) (Nat.le_of_ble_eq_true rfl) (pc := 12) hm (Nat.le_of_ble_eq_true rfl) dX9_findFar_12 (fun r16 S25 hm => ?_)
    refine v_istore_n C (pc := 15) [(3, .int (b2i r16)), (0, .ref (ad 0)), (1, .int x1), (2, .int x2)] dX9_findFar_15 rfl (by decide) rfl ?_
    refine v_aload_n C (pc := 16) 1 dX9_findFar_16 rfl rfl ?_
    refine gX9_94 C (pc := 17) dX9_findFar_17 ?_
    refine v_sipush C (pc := 20) 256 dX9_findFar_20 rfl ?_
    refine v_iload_n C (pc := 23) 2 dX9_findFar_23 rfl rfl ?_
    refine v_imul C (pc := 24) dX9_findFar_24 ?_
    refine v_iload_n C (pc := 25) 3 dX9_findFar_25 rfl rfl ?_
    refine v_iadd C (pc := 26) dX9_findFar_26 ?_
    refine v_iload_n C (pc := 27) 0 dX9_findFar_27 rfl rfl ?_
    refine v_if_eq C (pc := 28) hm 53 dX9_findFar_28 rfl (fun hm => ?_) (fun hm => ?_)
    · exact v_sub [1, 2, 3, 0] rfl (vX9_findFar_53 C hr hQ (N := N) hk2 hm)
    · refine v_aload_n C (pc := 31) 1 dX9_findFar_31 rfl rfl ?_
      refine gX9_34 C (pc := 32) dX9_findFar_32 ?_
      refine v_iload_n C (pc := 35) 2 dX9_findFar_35 rfl rfl ?_
      refine ldX9_goalTurn C (pc := 36) hm dX9_findFar_36 (fun hm => ?_)
      refine v_if_lt C (pc := 37) hm 49 dX9_findFar_37 rfl (fun hm => ?_) (fun hm => ?_)
      · exact v_sub [1, 2, 3, 0] rfl (vX9_findFar_49 C hr hQ (N := N) hk2 hm)
      · refine v_aload_n C (pc := 40) 1 dX9_findFar_40 rfl rfl ?_
        refine v_iload_n C (pc := 41) 2 dX9_findFar_41 rfl rfl ?_
        refine v_iload_n C (pc := 42) 3 dX9_findFar_42 rfl rfl ?_
        refine kX9_261 C (Nat.le_of_ble_eq_true rfl) (Nat.le_of_ble_eq_true rfl) (pc := 43) hm (Nat.le_of_ble_eq_true rfl) dX9_findFar_43 (fun r17 S26 hm => ?_)
        refine v_if_eq C (pc := 46) hm 53 dX9_findFar_46 rfl (fun hm => ?_) (fun hm => ?_)
        · exact v_sub [1, 2, 3, 0] rfl (vX9_findFar_53 C hr hQ (N := N) hk2 hm)
        · exact v_sub [1, 2, 3, 0] rfl (vX9_findFar_49 C hr hQ (N := N) hk2 hm)
theorem vX9_findFar_2 {p : Program} {l : Launch} {e : Env} {s : State} {m : MethodId} {args : Array Value} {below : List Frame} {meth : Method} {c : Code} {Q : State → Prop} {D : va_G} {ad : Nat → Nat} {cA : Nat → ClassId} (C : Ok p s m args c D cA (mW ad cA) (mA ad) mS RX9 cX9_findFar 6) (hr : Rt meth none) {r : Unit × St} (hQ : Q = MQ below (Qo D (mW ad cA) (mA ad) (none) r.2) args s 0 0 (mA ad)) {N : Nat}  (n : Nat) : ∀ (x1 : Int32) (x2 : Int32) (S : St), fX9_findFar_2 N  n x1 x2 S = some r → V p l e rmX9_findFar s m args below meth c Q D (mW ad cA) (mA ad) 6 S 2 [(0, .ref (ad 0)), (1, .int x1), (2, .int x2)] [] := by
  induction n with
  | zero => intro _ _ _  hm; exact absurd hm (by intro h; cases h)
  | succ n ih => intro _ _ _  hm; exact vX9_findFar_2b C hr hQ (N := N)   ih  hm
def fX9_findFar (N : Nat) (p1 : Int32) (S : St) : Option (Unit × St) := fX9_findFar_2 N N p1 0 S
set_option maxRecDepth 20000 in
theorem vX9_findFar {p : Program} {l : Launch} {e : Env} {s : State} {m : MethodId} {args : Array Value} {below : List Frame} {meth : Method} {c : Code} {Q : State → Prop} {D : va_G} {ad : Nat → Nat} {cA : Nat → ClassId} (C : Ok p s m args c D cA (mW ad cA) (mA ad) mS RX9 cX9_findFar 6) (hr : Rt meth none) {r : Unit × St} (hQ : Q = MQ below (Qo D (mW ad cA) (mA ad) (none) r.2) args s 0 0 (mA ad)) {N : Nat} {p1 : Int32} {S : St} (hm : fX9_findFar N p1 S = some r) : V p l e rmX9_findFar s m args below meth c Q D (mW ad cA) (mA ad) 6 S 0 [(0, .ref (ad 0)), (1, .int p1)] [] := by
  unfold fX9_findFar at hm
  refine v_iconst C (pc := 0) 0 dX9_findFar_0 rfl ?_
  refine v_istore_n C (pc := 1) [(2, .int 0), (0, .ref (ad 0)), (1, .int p1)] dX9_findFar_1 rfl (by decide) rfl ?_
  exact v_sub [1, 2, 0] rfl (vX9_findFar_2 C hr hQ (N := N) N _ _ _ hm)
theorem mX9_findFar {l : Launch} {D : va_G} {ad : Nat → Nat} {cA : Nat → ClassId} (hD : ∀ S, va_D (mA ad) (mW ad cA S)) {N : Nat} {p1 : Int32} {S : St} {r : Unit × St} (hm : fX9_findFar N p1 S = some r) : Met l yX9_findFar (wsm yX9_findFar cX9_findFar 6 none) rmX9_findFar (va_Pc [.ref (ad 0), .int p1] (Pre D cA (mW ad cA) mS S)) (Qo D (mW ad cA) (mA ad) (none) r.2) 0 0 (mA ad) := met_of [.ref (ad 0), .int p1] (by decide) (Nat.le_of_ble_eq_true rfl) hD (fun _ _ _ _ h => h) (fun _ _ _ _ h => h) (fun p e s m below meth c C hr => vX9_findFar C hr rfl (N := N)  hm)
