-- X9_isDead
theorem infX9_findFar : InfV yX9_findFar cX9_findFar 6 none 1 := ⟨⟨gm (i := 65) (by decide +kernel) rfl, gm (i := 1176) (by decide +kernel) rfl, by decide +kernel⟩, gm (i := 1175) (by decide +kernel) rfl, gm (i := 42) (by decide +kernel) rfl⟩
theorem kX9_274 {p : Program} {l : Launch} {e : Env} {R : Room} {s : State} {m : MethodId} {args : Array Value} {below : List Frame} {meth : Method} {c : Code} {Q : State → Prop} {D : va_G} {ad : Nat → Nat} {cA : Nat → ClassId} {cc : ByteArray} {nL : Nat} {S : St} {pc : Nat} {lv : List (Nat × Value)} {st : List Value} {ρ : Type} {res : ρ} (C : Ok p s m args c D cA (mW ad cA) (mA ad) mS RX9 cc nL) (hfr : rmX9_findFar.frames + 1 ≤ R.frames) (hlo : 8 + (6 + 11) + rmX9_findFar.locals ≤ R.locals) {N : Nat} {p1 : Int32} {E : Unit → St → Option ρ} (hm : bd (fX9_findFar N p1 S) E = some res) (hcat : (st.map fun v => v.category).sum ≤ 8) (hd : decode cc pc = .ok (.invokevirtual 274, 3)) (k : ∀ r S, E r S = some res → V p l e R s m args below meth c Q D (mW ad cA) (mA ad) nL S (pc + 3) lv (st)) : V p l e R s m args below meth c Q D (mW ad cA) (mA ad) nL S pc lv (.int p1 :: .ref (ad 0) :: st) := by
  obtain ⟨r, S1, h1, h2⟩ := bd_some hm
  exact v_callV C (gm (i := 1173) (by decide +kernel) rfl : Cond.methodLink RX9 274 yX9_findFar ∈ gw_tbl) infX9_findFar (rm2 := rmX9_findFar) ⟨rfl, rfl⟩ hfr hlo (mX9_findFar C.2.2.2.2.2.2.1 h1) (As := [.int p1]) (oX9 ad cA S) rfl rfl rfl rfl hcat hd (k r S1 h2)
def rmX9_isDead : Room := { frames := 5, cells := 0, slots := 0, locals := 120 }
def fX9_isDead_88 (N : Nat)  (s0 : Bool) (S : St) : Option (Int32 × St) := some ((b2i s0), S)
set_option maxRecDepth 20000 in
theorem vX9_isDead_88 {p : Program} {l : Launch} {e : Env} {s : State} {m : MethodId} {args : Array Value} {below : List Frame} {meth : Method} {c : Code} {Q : State → Prop} {D : va_G} {ad : Nat → Nat} {cA : Nat → ClassId} (C : Ok p s m args c D cA (mW ad cA) (mA ad) mS RX9 cX9_isDead 6) (hr : Rt meth (some .int)) {r : Int32 × St} (hQ : Q = MQ below (Qo D (mW ad cA) (mA ad) (some (.int r.1)) r.2) args s 0 0 (mA ad)) {N : Nat}  {s0 : Bool}  {S : St} (hm : fX9_isDead_88 N  s0 S = some r) : V p l e rmX9_isDead s m args below meth c Q D (mW ad cA) (mA ad) 6 S 88 [] [.int (b2i s0)] := by
  unfold fX9_isDead_88 at hm
  exact v_iret C hr hQ (pc := 88) hm dX9_isDead_88
def fX9_isDead (N : Nat) (p1 : Int32) (p2 : Int32) (p3 : Int32) (p4 : Int32) (S : St) : Option (Int32 × St) := bd (fX9_noBlock N p1 S) fun r7 S6 => if (b2i r7) = 0 then (bd (fX9_isInYard N p2 p3 S6) fun r8 S7 => if (b2i r8) = 0 then (some ((-2), S7)) else (bd (fX9_in N p4 0 3 S7) fun r9 S8 => if (b2i r9) = 0 then (some ((-3), S8)) else (nm (((64 * p4) + (8 * p3)) + p2) fun y10 => bd (fX9_isPlacement N p1 y10 S8) fun r11 S9 => if (b2i r11) = 0 then (some ((-7), S9)) else (bd (fX9_findFar N p1 S9) fun r12 S10 => ck ((256 * p1) + y10) 1280 (if 0 ≤ (S10.2.2.1 24 (Int32.toNatClampNeg ((256 * p1) + y10))) then (fX9_isDead_88 N false S10) else (fX9_isDead_88 N true S10)))))) else (some ((-1), S6))
set_option maxRecDepth 20000 in
theorem vX9_isDead {p : Program} {l : Launch} {e : Env} {s : State} {m : MethodId} {args : Array Value} {below : List Frame} {meth : Method} {c : Code} {Q : State → Prop} {D : va_G} {ad : Nat → Nat} {cA : Nat → ClassId} (C : Ok p s m args c D cA (mW ad cA) (mA ad) mS RX9 cX9_isDead 6) (hr : Rt meth (some .int)) {r : Int32 × St} (hQ : Q = MQ below (Qo D (mW ad cA) (mA ad) (some (.int r.1)) r.2) args s 0 0 (mA ad)) {N : Nat} {p1 : Int32} {p2 : Int32} {p3 : Int32} {p4 : Int32} {S : St} (hm : fX9_isDead N p1 p2 p3 p4 S = some r) : V p l e rmX9_isDead s m args below meth c Q D (mW ad cA) (mA ad) 6 S 0 [(0, .ref (ad 0)), (1, .int p1), (2, .int p2), (3, .int p3), (4, .int p4)] [] := by
  unfold fX9_isDead at hm
  refine v_aload_n C (pc := 0) 0 dX9_isDead_0 rfl rfl ?_
  refine v_iload_n C (pc := 1) 1 dX9_isDead_1 rfl rfl ?_
  refine kX9_225 C (Nat.le_of_ble_eq_true rfl) (Nat.le_of_ble_eq_true rfl) (pc := 2) hm (Nat.le_of_ble_eq_true rfl) dX9_isDead_2 (fun r7 S6 hm => ?_)
  refine v_if_eq C (pc := 5) hm 10 dX9_isDead_5 rfl (fun hm => ?_) (fun hm => ?_)
  · refine v_aload_n C (pc := 10) 0 dX9_isDead_10 rfl rfl ?_
    refine v_iload_n C (pc := 11) 2 dX9_isDead_11 rfl rfl ?_
    refine v_iload_n C (pc := 12) 3 dX9_isDead_12 rfl rfl ?_
    refine kX9_167 C (Nat.le_of_ble_eq_true rfl) (Nat.le_of_ble_eq_true rfl) (pc := 13) hm (Nat.le_of_ble_eq_true rfl) dX9_isDead_13 (fun r8 S7 hm => ?_)
    refine v_if_ne C (pc := 16) hm 22 dX9_isDead_16 rfl (fun hm => ?_) (fun hm => ?_)
    · refine v_iload C (pc := 22) 4 dX9_isDead_22 rfl ?_
      refine v_iconst C (pc := 24) 0 dX9_isDead_24 rfl ?_
      refine v_iconst C (pc := 25) 3 dX9_isDead_25 rfl ?_
      refine kX9_119 C (Nat.le_of_ble_eq_true rfl) (Nat.le_of_ble_eq_true rfl) (pc := 26) hm (Nat.le_of_ble_eq_true rfl) dX9_isDead_26 (fun r9 S8 hm => ?_)
      refine v_if_ne C (pc := 29) hm 35 dX9_isDead_29 rfl (fun hm => ?_) (fun hm => ?_)
      · refine v_bipush C (pc := 35) 64 dX9_isDead_35 rfl ?_
        refine v_iload C (pc := 37) 4 dX9_isDead_37 rfl ?_
        refine v_imul C (pc := 39) dX9_isDead_39 ?_
        refine v_bipush C (pc := 40) 8 dX9_isDead_40 rfl ?_
        refine v_iload_n C (pc := 42) 3 dX9_isDead_42 rfl rfl ?_
        refine v_imul C (pc := 43) dX9_isDead_43 ?_
        refine v_iadd C (pc := 44) dX9_isDead_44 ?_
        refine v_iload_n C (pc := 45) 2 dX9_isDead_45 rfl rfl ?_
        refine v_iadd C (pc := 46) dX9_isDead_46 ?_
        refine v_istoreN C (pc := 47) [(0, .ref (ad 0)), (1, .int p1), (2, .int p2), (3, .int p3), (4, .int p4)] hm dX9_isDead_47 (by decide) rfl (fun y10 hm => ?_)
        refine v_aload_n C (pc := 49) 1 dX9_isDead_49 rfl rfl ?_
        refine v_iload_n C (pc := 50) 2 dX9_isDead_50 rfl rfl ?_
        refine v_iload C (pc := 51) 0 dX9_isDead_51 rfl ?_
        refine kX9_258 C (Nat.le_of_ble_eq_true rfl) (Nat.le_of_ble_eq_true rfl) (pc := 53) hm (Nat.le_of_ble_eq_true rfl) dX9_isDead_53 (fun r11 S9 hm => ?_)
        refine v_if_ne C (pc := 56) hm 62 dX9_isDead_56 rfl (fun hm => ?_) (fun hm => ?_)
        · refine v_aload_n C (pc := 62) 1 dX9_isDead_62 rfl rfl ?_
          refine v_iload_n C (pc := 63) 2 dX9_isDead_63 rfl rfl ?_
          refine kX9_274 C (Nat.le_of_ble_eq_true rfl) (Nat.le_of_ble_eq_true rfl) (pc := 64) hm (Nat.le_of_ble_eq_true rfl) dX9_isDead_64 (fun r12 S10 hm => ?_)
          refine v_aload_n C (pc := 67) 1 dX9_isDead_67 rfl rfl ?_
          refine gX9_94 C (pc := 68) dX9_isDead_68 ?_
          refine v_sipush C (pc := 71) 256 dX9_isDead_71 rfl ?_
          refine v_iload_n C (pc := 74) 2 dX9_isDead_74 rfl rfl ?_
          refine v_imul C (pc := 75) dX9_isDead_75 ?_
          refine v_iload C (pc := 76) 0 dX9_isDead_76 rfl ?_
          refine v_iadd C (pc := 78) dX9_isDead_78 ?_
          refine ldX9_farOf C (pc := 79) hm dX9_isDead_79 (fun hm => ?_)
          refine v_if_ge C (pc := 80) hm 87 dX9_isDead_80 rfl (fun hm => ?_) (fun hm => ?_)
          · refine v_iconst C (pc := 87) 0 dX9_isDead_87 rfl ?_
            exact v_sub [] rfl (vX9_isDead_88 C hr hQ (N := N) hm)
          · refine v_iconst C (pc := 83) 1 dX9_isDead_83 rfl ?_
            refine v_goto C (pc := 84) 88 dX9_isDead_84 rfl ?_
            exact v_sub [] rfl (vX9_isDead_88 C hr hQ (N := N) hm)
        · refine v_bipush C (pc := 59) (-7) dX9_isDead_59 rfl ?_
          exact v_iret C hr hQ (pc := 61) hm dX9_isDead_61
      · refine v_bipush C (pc := 32) (-3) dX9_isDead_32 rfl ?_
        exact v_iret C hr hQ (pc := 34) hm dX9_isDead_34
    · refine v_bipush C (pc := 19) (-2) dX9_isDead_19 rfl ?_
      exact v_iret C hr hQ (pc := 21) hm dX9_isDead_21
  · refine v_iconst C (pc := 8) (-1) dX9_isDead_8 rfl ?_
    exact v_iret C hr hQ (pc := 9) hm dX9_isDead_9
theorem mX9_isDead {l : Launch} {D : va_G} {ad : Nat → Nat} {cA : Nat → ClassId} (hD : ∀ S, va_D (mA ad) (mW ad cA S)) {N : Nat} {p1 : Int32} {p2 : Int32} {p3 : Int32} {p4 : Int32} {S : St} {r : Int32 × St} (hm : fX9_isDead N p1 p2 p3 p4 S = some r) : Met l yX9_isDead (wsm yX9_isDead cX9_isDead 6 (some .int)) rmX9_isDead (va_Pc [.ref (ad 0), .int p1, .int p2, .int p3, .int p4] (Pre D cA (mW ad cA) mS S)) (Qo D (mW ad cA) (mA ad) (some (.int r.1)) r.2) 0 0 (mA ad) := met_of [.ref (ad 0), .int p1, .int p2, .int p3, .int p4] (by decide) (Nat.le_of_ble_eq_true rfl) hD (fun _ _ _ _ h => h) (fun _ _ _ _ h => h) (fun p e s m below meth c C hr => vX9_isDead C hr rfl (N := N)  hm)
-- X9_deadCount
def rmX9_deadCount : Room := { frames := 5, cells := 0, slots := 0, locals := 120 }
def fX9_deadCount_56 (N : Nat) (k19 : Int32 → Int32 → Int32 → St → Option (Int32 × St)) (s0 : Bool) (s1 : Int32) (x1 : Int32) (x3 : Int32) (S : St) : Option (Int32 × St) := nm (s1 + (b2i s0)) fun y8 => k19 x1 y8 (x3 + 1) S
set_option maxRecDepth 20000 in
theorem vX9_deadCount_56 {p : Program} {l : Launch} {e : Env} {s : State} {m : MethodId} {args : Array Value} {below : List Frame} {meth : Method} {c : Code} {Q : State → Prop} {D : va_G} {ad : Nat → Nat} {cA : Nat → ClassId} (C : Ok p s m args c D cA (mW ad cA) (mA ad) mS RX9 cX9_deadCount 4) (hr : Rt meth (some .int)) {r : Int32 × St} (hQ : Q = MQ below (Qo D (mW ad cA) (mA ad) (some (.int r.1)) r.2) args s 0 0 (mA ad)) {N : Nat} {k19 : Int32 → Int32 → Int32 → St → Option (Int32 × St)} (hk19 : ∀ (x1 : Int32) (x2 : Int32) (x3 : Int32) (S : St), k19 x1 x2 x3 S = some r → V p l e rmX9_deadCount s m args below meth c Q D (mW ad cA) (mA ad) 4 S 19 [(0, .ref (ad 0)), (1, .int x1), (2, .int x2), (3, .int x3)] []) {s0 : Bool} {s1 : Int32} {x1 : Int32} {x3 : Int32}  {S : St} (hm : fX9_deadCount_56 N k19 s0 s1 x1 x3 S = some r) : V p l e rmX9_deadCount s m args below meth c Q D (mW ad cA) (mA ad) 4 S 56 [(0, .ref (ad 0)), (1, .int x1), (3, .int x3)] [.int (b2i s0), .int s1] := by
  unfold fX9_deadCount_56 at hm
  refine v_iadd C (pc := 56) dX9_deadCount_56 ?_
  refine v_istore_nN C (pc := 57) [(0, .ref (ad 0)), (1, .int x1), (3, .int x3)] hm dX9_deadCount_57 rfl (by decide) rfl (fun y8 hm => ?_)
  refine v_iinc C (pc := 58) 1 3 [(3, .int (x3 + 1)), (2, .int y8), (0, .ref (ad 0)), (1, .int x1)] dX9_deadCount_58 rfl rfl (by decide) rfl ?_
  refine v_goto C (pc := 61) 19 dX9_deadCount_61 rfl ?_
  exact v_sub [2, 3, 1, 0] rfl (hk19 _ _ _ _ hm)
def fX9_deadCount_55 (N : Nat) (k19 : Int32 → Int32 → Int32 → St → Option (Int32 × St)) (s0 : Int32) (x1 : Int32) (x3 : Int32) (S : St) : Option (Int32 × St) := fX9_deadCount_56 N k19 false s0 x1 x3 S
set_option maxRecDepth 20000 in
theorem vX9_deadCount_55 {p : Program} {l : Launch} {e : Env} {s : State} {m : MethodId} {args : Array Value} {below : List Frame} {meth : Method} {c : Code} {Q : State → Prop} {D : va_G} {ad : Nat → Nat} {cA : Nat → ClassId} (C : Ok p s m args c D cA (mW ad cA) (mA ad) mS RX9 cX9_deadCount 4) (hr : Rt meth (some .int)) {r : Int32 × St} (hQ : Q = MQ below (Qo D (mW ad cA) (mA ad) (some (.int r.1)) r.2) args s 0 0 (mA ad)) {N : Nat} {k19 : Int32 → Int32 → Int32 → St → Option (Int32 × St)} (hk19 : ∀ (x1 : Int32) (x2 : Int32) (x3 : Int32) (S : St), k19 x1 x2 x3 S = some r → V p l e rmX9_deadCount s m args below meth c Q D (mW ad cA) (mA ad) 4 S 19 [(0, .ref (ad 0)), (1, .int x1), (2, .int x2), (3, .int x3)] []) {s0 : Int32} {x1 : Int32} {x3 : Int32}  {S : St} (hm : fX9_deadCount_55 N k19 s0 x1 x3 S = some r) : V p l e rmX9_deadCount s m args below meth c Q D (mW ad cA) (mA ad) 4 S 55 [(0, .ref (ad 0)), (1, .int x1), (3, .int x3)] [.int s0] := by
  unfold fX9_deadCount_55 at hm
  refine v_iconst C (pc := 55) 0 dX9_deadCount_55 rfl ?_
  exact (vX9_deadCount_56 C hr hQ (N := N) hk19 hm)
def fX9_deadCount_19b (N : Nat)  (k19 : Int32 → Int32 → Int32 → St → Option (Int32 × St)) (x1 : Int32) (x2 : Int32) (x3 : Int32) (S : St) : Option (Int32 × St) := if 256 ≤ x3 then (some (x2, S)) else (bd (fX9_isPlacement N x1 x3 S) fun r7 S5 => if (b2i r7) = 0 then (fX9_deadCount_55 N k19 x2 x1 x3 S5) else (ck ((256 * x1) + x3) 1280 (if 0 ≤ (S5.2.2.1 24 (Int32.toNatClampNeg ((256 * x1) + x3))) then (fX9_deadCount_55 N k19 x2 x1 x3 S5) else (fX9_deadCount_56 N k19 true x2 x1 x3 S5))))
def fX9_deadCount_19 (N : Nat)  : Nat → Int32 → Int32 → Int32 → St → Option (Int32 × St)
  | 0 => fun _ _ _ _ => none
  | n + 1 => fun x1 x2 x3 S => fX9_deadCount_19b N  (fX9_deadCount_19 N  n) x1 x2 x3 S
set_option maxRecDepth 20000 in
theorem vX9_deadCount_19b {p : Program} {l : Launch} {e : Env} {s : State} {m : MethodId} {args : Array Value} {below : List Frame} {meth : Method} {c : Code} {Q : State → Prop} {D : va_G} {ad : Nat → Nat} {cA : Nat → ClassId} (C : Ok p s m args c D cA (mW ad cA) (mA ad) mS RX9 cX9_deadCount 4) (hr : Rt meth (some .int)) {r : Int32 × St} (hQ : Q = MQ below (Qo D (mW ad cA) (mA ad) (some (.int r.1)) r.2) args s 0 0 (mA ad)) {N : Nat}  {k19 : Int32 → Int32 → Int32 → St → Option (Int32 × St)} (hk19 : ∀ (x1 : Int32) (x2 : Int32) (x3 : Int32) (S : St), k19 x1 x2 x3 S = some r → V p l e rmX9_deadCount s m args below meth c Q D (mW ad cA) (mA ad) 4 S 19 [(0, .ref (ad 0)), (1, .int x1), (2, .int x2), (3, .int x3)] []) {x1 : Int32} {x2 : Int32} {x3 : Int32}  {S : St} (hm : fX9_deadCount_19b N  k19 x1 x2 x3 S = some r) : V p l e rmX9_deadCount s m args below meth c Q D (mW ad cA) (mA ad) 4 S 19 [(0, .ref (ad 0)), (1, .int x1), (2, .int x2), (3, .int x3)] [] := by
  unfold fX9_deadCount_19b at hm
  refine v_iload_n C (pc := 19) 3 dX9_deadCount_19 rfl rfl ?_
  refine v_sipush C (pc := 20) 256 dX9_deadCount_20 rfl ?_
  refine v_icmp_ge C (pc := 23) hm 64 dX9_deadCount_23 rfl (fun hm => ?_) (fun hm => ?_)
  · refine v_iload_n C (pc := 64) 2 dX9_deadCount_64 rfl rfl ?_
    exact v_iret C hr hQ (pc := 65) hm dX9_deadCount_65
  · refine v_iload_n C (pc := 26) 2 dX9_deadCount_26 rfl rfl ?_
    refine v_aload_n C (pc := 27) 0 dX9_deadCount_27 rfl rfl ?_
    refine v_iload_n C (pc := 28) 1 dX9_deadCount_28 rfl rfl ?_
    refine v_iload_n C (pc := 29) 3 dX9_deadCount_29 rfl rfl ?_
    refine kX9_258 C (Nat.le_of_ble_eq_true rfl) (Nat.le_of_ble_eq_true rfl) (pc := 30) hm (Nat.le_of_ble_eq_true rfl) dX9_deadCount_30 (fun r7 S5 hm => ?_)
    refine v_if_eq C (pc := 33) hm 55 dX9_deadCount_33 rfl (fun hm => ?_) (fun hm => ?_)
    · exact v_sub [0, 1, 3] rfl (vX9_deadCount_55 C hr hQ (N := N) hk19 hm)
    · refine v_aload_n C (pc := 36) 0 dX9_deadCount_36 rfl rfl ?_
      refine gX9_94 C (pc := 37) dX9_deadCount_37 ?_
      refine v_sipush C (pc := 40) 256 dX9_deadCount_40 rfl ?_
      refine v_iload_n C (pc := 43) 1 dX9_deadCount_43 rfl rfl ?_
      refine v_imul C (pc := 44) dX9_deadCount_44 ?_
      refine v_iload_n C (pc := 45) 3 dX9_deadCount_45 rfl rfl ?_
      refine v_iadd C (pc := 46) dX9_deadCount_46 ?_
      refine ldX9_farOf C (pc := 47) hm dX9_deadCount_47 (fun hm => ?_)
      refine v_if_ge C (pc := 48) hm 55 dX9_deadCount_48 rfl (fun hm => ?_) (fun hm => ?_)
      · exact v_sub [0, 1, 3] rfl (vX9_deadCount_55 C hr hQ (N := N) hk19 hm)
      · refine v_iconst C (pc := 51) 1 dX9_deadCount_51 rfl ?_
        refine v_goto C (pc := 52) 56 dX9_deadCount_52 rfl ?_
        exact v_sub [0, 1, 3] rfl (vX9_deadCount_56 C hr hQ (N := N) hk19 hm)
theorem vX9_deadCount_19 {p : Program} {l : Launch} {e : Env} {s : State} {m : MethodId} {args : Array Value} {below : List Frame} {meth : Method} {c : Code} {Q : State → Prop} {D : va_G} {ad : Nat → Nat} {cA : Nat → ClassId} (C : Ok p s m args c D cA (mW ad cA) (mA ad) mS RX9 cX9_deadCount 4) (hr : Rt meth (some .int)) {r : Int32 × St} (hQ : Q = MQ below (Qo D (mW ad cA) (mA ad) (some (.int r.1)) r.2) args s 0 0 (mA ad)) {N : Nat}  (n : Nat) : ∀ (x1 : Int32) (x2 : Int32) (x3 : Int32) (S : St), fX9_deadCount_19 N  n x1 x2 x3 S = some r → V p l e rmX9_deadCount s m args below meth c Q D (mW ad cA) (mA ad) 4 S 19 [(0, .ref (ad 0)), (1, .int x1), (2, .int x2), (3, .int x3)] [] := by
  induction n with
  | zero => intro _ _ _ _  hm; exact absurd hm (by intro h; cases h)
  | succ n ih => intro _ _ _ _  hm; exact vX9_deadCount_19b C hr hQ (N := N)   ih  hm
def fX9_deadCount (N : Nat) (p1 : Int32) (S : St) : Option (Int32 × St) := bd (fX9_noBlock N p1 S) fun r9 S6 => if (b2i r9) = 0 then (bd (fX9_findFar N p1 S6) fun r10 S7 => fX9_deadCount_19 N N p1 0 0 S7) else (some ((-1), S6))
set_option maxRecDepth 20000 in
theorem vX9_deadCount {p : Program} {l : Launch} {e : Env} {s : State} {m : MethodId} {args : Array Value} {below : List Frame} {meth : Method} {c : Code} {Q : State → Prop} {D : va_G} {ad : Nat → Nat} {cA : Nat → ClassId} (C : Ok p s m args c D cA (mW ad cA) (mA ad) mS RX9 cX9_deadCount 4) (hr : Rt meth (some .int)) {r : Int32 × St} (hQ : Q = MQ below (Qo D (mW ad cA) (mA ad) (some (.int r.1)) r.2) args s 0 0 (mA ad)) {N : Nat} {p1 : Int32} {S : St} (hm : fX9_deadCount N p1 S = some r) : V p l e rmX9_deadCount s m args below meth c Q D (mW ad cA) (mA ad) 4 S 0 [(0, .ref (ad 0)), (1, .int p1)] [] := by
  unfold fX9_deadCount at hm
  refine v_aload_n C (pc := 0) 0 dX9_deadCount_0 rfl rfl ?_
  refine v_iload_n C (pc := 1) 1 dX9_deadCount_1 rfl rfl ?_
  refine kX9_225 C (Nat.le_of_ble_eq_true rfl) (Nat.le_of_ble_eq_true rfl) (pc := 2) hm (Nat.le_of_ble_eq_true rfl) dX9_deadCount_2 (fun r9 S6 hm => ?_)
  refine v_if_eq C (pc := 5) hm 10 dX9_deadCount_5 rfl (fun hm => ?_) (fun hm => ?_)
  · refine v_aload_n C (pc := 10) 0 dX9_deadCount_10 rfl rfl ?_
    refine v_iload_n C (pc := 11) 1 dX9_deadCount_11 rfl rfl ?_
    refine kX9_274 C (Nat.le_of_ble_eq_true rfl) (Nat.le_of_ble_eq_true rfl) (pc := 12) hm (Nat.le_of_ble_eq_true rfl) dX9_deadCount_12 (fun r10 S7 hm => ?_)
    refine v_iconst C (pc := 15) 0 dX9_deadCount_15 rfl ?_
    refine v_istore_n C (pc := 16) [(2, .int 0), (0, .ref (ad 0)), (1, .int p1)] dX9_deadCount_16 rfl (by decide) rfl ?_
    refine v_iconst C (pc := 17) 0 dX9_deadCount_17 rfl ?_
    refine v_istore_n C (pc := 18) [(3, .int 0), (2, .int 0), (0, .ref (ad 0)), (1, .int p1)] dX9_deadCount_18 rfl (by decide) rfl ?_
    exact v_sub [2, 3, 1, 0] rfl (vX9_deadCount_19 C hr hQ (N := N) N _ _ _ _ hm)
  · refine v_iconst C (pc := 8) (-1) dX9_deadCount_8 rfl ?_
    exact v_iret C hr hQ (pc := 9) hm dX9_deadCount_9
theorem mX9_deadCount {l : Launch} {D : va_G} {ad : Nat → Nat} {cA : Nat → ClassId} (hD : ∀ S, va_D (mA ad) (mW ad cA S)) {N : Nat} {p1 : Int32} {S : St} {r : Int32 × St} (hm : fX9_deadCount N p1 S = some r) : Met l yX9_deadCount (wsm yX9_deadCount cX9_deadCount 4 (some .int)) rmX9_deadCount (va_Pc [.ref (ad 0), .int p1] (Pre D cA (mW ad cA) mS S)) (Qo D (mW ad cA) (mA ad) (some (.int r.1)) r.2) 0 0 (mA ad) := met_of [.ref (ad 0), .int p1] (by decide) (Nat.le_of_ble_eq_true rfl) hD (fun _ _ _ _ h => h) (fun _ _ _ _ h => h) (fun p e s m below meth c C hr => vX9_deadCount C hr rfl (N := N)  hm)
-- X9_distance
def rmX9_distance : Room := { frames := 5, cells := 0, slots := 0, locals := 120 }
def fX9_distance_43 (N : Nat)  (s0 : Int32) (S : St) : Option (Int32 × St) := some (s0, S)
set_option maxRecDepth 20000 in
theorem vX9_distance_43 {p : Program} {l : Launch} {e : Env} {s : State} {m : MethodId} {args : Array Value} {below : List Frame} {meth : Method} {c : Code} {Q : State → Prop} {D : va_G} {ad : Nat → Nat} {cA : Nat → ClassId} (C : Ok p s m args c D cA (mW ad cA) (mA ad) mS RX9 cX9_distance 3) (hr : Rt meth (some .int)) {r : Int32 × St} (hQ : Q = MQ below (Qo D (mW ad cA) (mA ad) (some (.int r.1)) r.2) args s 0 0 (mA ad)) {N : Nat}  {s0 : Int32}  {S : St} (hm : fX9_distance_43 N  s0 S = some r) : V p l e rmX9_distance s m args below meth c Q D (mW ad cA) (mA ad) 3 S 43 [] [.int s0] := by
  unfold fX9_distance_43 at hm
  exact v_iret C hr hQ (pc := 43) hm dX9_distance_43
def fX9_distance (N : Nat) (p1 : Int32) (S : St) : Option (Int32 × St) := bd (fX9_noBlock N p1 S) fun r4 S3 => if (b2i r4) = 0 then (bd (fX9_findFar N p1 S3) fun r5 S4 => ck p1 5 (ck ((256 * p1) + (S4.2.2.1 9 (Int32.toNatClampNeg p1))) 1280 (nm (S4.2.2.1 24 (Int32.toNatClampNeg ((256 * p1) + (S4.2.2.1 9 (Int32.toNatClampNeg p1))))) fun y6 => if 0 ≤ y6 then (fX9_distance_43 N y6 S4) else (fX9_distance_43 N (-7) S4)))) else (some ((-1), S3))
set_option maxRecDepth 20000 in
theorem vX9_distance {p : Program} {l : Launch} {e : Env} {s : State} {m : MethodId} {args : Array Value} {below : List Frame} {meth : Method} {c : Code} {Q : State → Prop} {D : va_G} {ad : Nat → Nat} {cA : Nat → ClassId} (C : Ok p s m args c D cA (mW ad cA) (mA ad) mS RX9 cX9_distance 3) (hr : Rt meth (some .int)) {r : Int32 × St} (hQ : Q = MQ below (Qo D (mW ad cA) (mA ad) (some (.int r.1)) r.2) args s 0 0 (mA ad)) {N : Nat} {p1 : Int32} {S : St} (hm : fX9_distance N p1 S = some r) : V p l e rmX9_distance s m args below meth c Q D (mW ad cA) (mA ad) 3 S 0 [(0, .ref (ad 0)), (1, .int p1)] [] := by
  unfold fX9_distance at hm
  refine v_aload_n C (pc := 0) 0 dX9_distance_0 rfl rfl ?_
  refine v_iload_n C (pc := 1) 1 dX9_distance_1 rfl rfl ?_
  refine kX9_225 C (Nat.le_of_ble_eq_true rfl) (Nat.le_of_ble_eq_true rfl) (pc := 2) hm (Nat.le_of_ble_eq_true rfl) dX9_distance_2 (fun r4 S3 hm => ?_)
  refine v_if_eq C (pc := 5) hm 10 dX9_distance_5 rfl (fun hm => ?_) (fun hm => ?_)
  · refine v_aload_n C (pc := 10) 0 dX9_distance_10 rfl rfl ?_
    refine v_iload_n C (pc := 11) 1 dX9_distance_11 rfl rfl ?_
    refine kX9_274 C (Nat.le_of_ble_eq_true rfl) (Nat.le_of_ble_eq_true rfl) (pc := 12) hm (Nat.le_of_ble_eq_true rfl) dX9_distance_12 (fun r5 S4 hm => ?_)
    refine v_aload_n C (pc := 15) 0 dX9_distance_15 rfl rfl ?_
    refine gX9_94 C (pc := 16) dX9_distance_16 ?_
    refine v_sipush C (pc := 19) 256 dX9_distance_19 rfl ?_
    refine v_iload_n C (pc := 22) 1 dX9_distance_22 rfl rfl ?_
    refine v_imul C (pc := 23) dX9_distance_23 ?_
    refine v_aload_n C (pc := 24) 0 dX9_distance_24 rfl rfl ?_
    refine gX9_37 C (pc := 25) dX9_distance_25 ?_
    refine v_iload_n C (pc := 28) 1 dX9_distance_28 rfl rfl ?_
    refine ldX9_placeOf C (pc := 29) hm dX9_distance_29 (fun hm => ?_)
    refine v_iadd C (pc := 30) dX9_distance_30 ?_
    refine ldX9_farOf C (pc := 31) hm dX9_distance_31 (fun hm => ?_)
    refine v_istore_nN C (pc := 32) [(0, .ref (ad 0)), (1, .int p1)] hm dX9_distance_32 rfl (by decide) rfl (fun y6 hm => ?_)
    refine v_iload_n C (pc := 33) 0 dX9_distance_33 rfl rfl ?_
    refine v_if_ge C (pc := 34) hm 42 dX9_distance_34 rfl (fun hm => ?_) (fun hm => ?_)
    · refine v_iload_n C (pc := 42) 0 dX9_distance_42 rfl rfl ?_
      exact v_sub [] rfl (vX9_distance_43 C hr hQ (N := N) hm)
    · refine v_bipush C (pc := 37) (-7) dX9_distance_37 rfl ?_
      refine v_goto C (pc := 39) 43 dX9_distance_39 rfl ?_
      exact v_sub [] rfl (vX9_distance_43 C hr hQ (N := N) hm)
  · refine v_iconst C (pc := 8) (-1) dX9_distance_8 rfl ?_
    exact v_iret C hr hQ (pc := 9) hm dX9_distance_9
theorem mX9_distance {l : Launch} {D : va_G} {ad : Nat → Nat} {cA : Nat → ClassId} (hD : ∀ S, va_D (mA ad) (mW ad cA S)) {N : Nat} {p1 : Int32} {S : St} {r : Int32 × St} (hm : fX9_distance N p1 S = some r) : Met l yX9_distance (wsm yX9_distance cX9_distance 3 (some .int)) rmX9_distance (va_Pc [.ref (ad 0), .int p1] (Pre D cA (mW ad cA) mS S)) (Qo D (mW ad cA) (mA ad) (some (.int r.1)) r.2) 0 0 (mA ad) := met_of [.ref (ad 0), .int p1] (by decide) (Nat.le_of_ble_eq_true rfl) hD (fun _ _ _ _ h => h) (fun _ _ _ _ h => h) (fun p e s m below meth c C hr => vX9_distance C hr rfl (N := N)  hm)
-- X9_findAllFar
def rmX9_findAllFar : Room := { frames := 5, cells := 0, slots := 0, locals := 120 }
def fX9_findAllFar_21 (N : Nat) (k2 : Int32 → St → Option (Unit × St)) (x1 : Int32) (S : St) : Option (Unit × St) := k2 (x1 + 1) S
set_option maxRecDepth 20000 in
theorem vX9_findAllFar_21 {p : Program} {l : Launch} {e : Env} {s : State} {m : MethodId} {args : Array Value} {below : List Frame} {meth : Method} {c : Code} {Q : State → Prop} {D : va_G} {ad : Nat → Nat} {cA : Nat → ClassId} (C : Ok p s m args c D cA (mW ad cA) (mA ad) mS RX9 cX9_findAllFar 2) (hr : Rt meth none) {r : Unit × St} (hQ : Q = MQ below (Qo D (mW ad cA) (mA ad) (none) r.2) args s 0 0 (mA ad)) {N : Nat} {k2 : Int32 → St → Option (Unit × St)} (hk2 : ∀ (x1 : Int32) (S : St), k2 x1 S = some r → V p l e rmX9_findAllFar s m args below meth c Q D (mW ad cA) (mA ad) 2 S 2 [(0, .ref (ad 0)), (1, .int x1)] []) {x1 : Int32}  {S : St} (hm : fX9_findAllFar_21 N k2 x1 S = some r) : V p l e rmX9_findAllFar s m args below meth c Q D (mW ad cA) (mA ad) 2 S 21 [(0, .ref (ad 0)), (1, .int x1)] [] := by
  unfold fX9_findAllFar_21 at hm
  refine v_iinc C (pc := 21) 1 1 [(1, .int (x1 + 1)), (0, .ref (ad 0))] dX9_findAllFar_21 rfl rfl (by decide) rfl ?_
  refine v_goto C (pc := 24) 2 dX9_findAllFar_24 rfl ?_
  exact v_sub [1, 0] rfl (hk2 _ _ hm)
def fX9_findAllFar_2b (N : Nat)  (k2 : Int32 → St → Option (Unit × St)) (x1 : Int32) (S : St) : Option (Unit × St) := if 5 ≤ x1 then (some ((), S)) else (ck x1 5 (if (S.2.2.1 2 (Int32.toNatClampNeg x1)) ≤ 0 then (fX9_findAllFar_21 N k2 x1 S) else (bd (fX9_findFar N x1 S) fun r3 S3 => fX9_findAllFar_21 N k2 x1 S3)))
def fX9_findAllFar_2 (N : Nat)  : Nat → Int32 → St → Option (Unit × St)
  | 0 => fun _ _ => none
  | n + 1 => fun x1 S => fX9_findAllFar_2b N  (fX9_findAllFar_2 N  n) x1 S
set_option maxRecDepth 20000 in
theorem vX9_findAllFar_2b {p : Program} {l : Launch} {e : Env} {s : State} {m : MethodId} {args : Array Value} {below : List Frame} {meth : Method} {c : Code} {Q : State → Prop} {D : va_G} {ad : Nat → Nat} {cA : Nat → ClassId} (C : Ok p s m args c D cA (mW ad cA) (mA ad) mS RX9 cX9_findAllFar 2) (hr : Rt meth none) {r : Unit × St} (hQ : Q = MQ below (Qo D (mW ad cA) (mA ad) (none) r.2) args s 0 0 (mA ad)) {N : Nat}  {k2 : Int32 → St → Option (Unit × St)} (hk2 : ∀ (x1 : Int32) (S : St), k2 x1 S = some r → V p l e rmX9_findAllFar s m args below meth c Q D (mW ad cA) (mA ad) 2 S 2 [(0, .ref (ad 0)), (1, .int x1)] []) {x1 : Int32}  {S : St} (hm : fX9_findAllFar_2b N  k2 x1 S = some r) : V p l e rmX9_findAllFar s m args below meth c Q D (mW ad cA) (mA ad) 2 S 2 [(0, .ref (ad 0)), (1, .int x1)] [] := by
  unfold fX9_findAllFar_2b at hm
  refine v_iload_n C (pc := 2) 1 dX9_findAllFar_2 rfl rfl ?_
  refine v_iconst C (pc := 3) 5 dX9_findAllFar_3 rfl ?_
  refine v_icmp_ge C (pc := 4) hm 27 dX9_findAllFar_4 rfl (fun hm => ?_) (fun hm => ?_)
  · exact v_vret C hr hQ (x := ()) (pc := 27) hm dX9_findAllFar_27
  · refine v_aload_n C (pc := 7) 0 dX9_findAllFar_7 rfl rfl ?_
    refine gX9_16 C (pc := 8) dX9_findAllFar_8 ?_
    refine v_iload_n C (pc := 11) 1 dX9_findAllFar_11 rfl rfl ?_
    refine ldX9_cells C (pc := 12) hm dX9_findAllFar_12 (fun hm => ?_)
    refine v_if_le C (pc := 13) hm 21 dX9_findAllFar_13 rfl (fun hm => ?_) (fun hm => ?_)
    · exact (vX9_findAllFar_21 C hr hQ (N := N) hk2 hm)
    · refine v_aload_n C (pc := 16) 0 dX9_findAllFar_16 rfl rfl ?_
      refine v_iload_n C (pc := 17) 1 dX9_findAllFar_17 rfl rfl ?_
      refine kX9_274 C (Nat.le_of_ble_eq_true rfl) (Nat.le_of_ble_eq_true rfl) (pc := 18) hm (Nat.le_of_ble_eq_true rfl) dX9_findAllFar_18 (fun r3 S3 hm => ?_)
      exact (vX9_findAllFar_21 C hr hQ (N := N) hk2 hm)
theorem vX9_findAllFar_2 {p : Program} {l : Launch} {e : Env} {s : State} {m : MethodId} {args : Array Value} {below : List Frame} {meth : Method} {c : Code} {Q : State → Prop} {D : va_G} {ad : Nat → Nat} {cA : Nat → ClassId} (C : Ok p s m args c D cA (mW ad cA) (mA ad) mS RX9 cX9_findAllFar 2) (hr : Rt meth none) {r : Unit × St} (hQ : Q = MQ below (Qo D (mW ad cA) (mA ad) (none) r.2) args s 0 0 (mA ad)) {N : Nat}  (n : Nat) : ∀ (x1 : Int32) (S : St), fX9_findAllFar_2 N  n x1 S = some r → V p l e rmX9_findAllFar s m args below meth c Q D (mW ad cA) (mA ad) 2 S 2 [(0, .ref (ad 0)), (1, .int x1)] [] := by
  induction n with
  | zero => intro _ _  hm; exact absurd hm (by intro h; cases h)
  | succ n ih => intro _ _  hm; exact vX9_findAllFar_2b C hr hQ (N := N)   ih  hm
def fX9_findAllFar (N : Nat)  (S : St) : Option (Unit × St) := fX9_findAllFar_2 N N 0 S
set_option maxRecDepth 20000 in
theorem vX9_findAllFar {p : Program} {l : Launch} {e : Env} {s : State} {m : MethodId} {args : Array Value} {below : List Frame} {meth : Method} {c : Code} {Q : State → Prop} {D : va_G} {ad : Nat → Nat} {cA : Nat → ClassId} (C : Ok p s m args c D cA (mW ad cA) (mA ad) mS RX9 cX9_findAllFar 2) (hr : Rt meth none) {r : Unit × St} (hQ : Q = MQ below (Qo D (mW ad cA) (mA ad) (none) r.2) args s 0 0 (mA ad)) {N : Nat}  {S : St} (hm : fX9_findAllFar N  S = some r) : V p l e rmX9_findAllFar s m args below meth c Q D (mW ad cA) (mA ad) 2 S 0 [(0, .ref (ad 0))] [] := by
  unfold fX9_findAllFar at hm
  refine v_iconst C (pc := 0) 0 dX9_findAllFar_0 rfl ?_
  refine v_istore_n C (pc := 1) [(1, .int 0), (0, .ref (ad 0))] dX9_findAllFar_1 rfl (by decide) rfl ?_
  exact v_sub [1, 0] rfl (vX9_findAllFar_2 C hr hQ (N := N) N _ _ hm)
theorem mX9_findAllFar {l : Launch} {D : va_G} {ad : Nat → Nat} {cA : Nat → ClassId} (hD : ∀ S, va_D (mA ad) (mW ad cA S)) {N : Nat}  {S : St} {r : Unit × St} (hm : fX9_findAllFar N  S = some r) : Met l yX9_findAllFar (wsm yX9_findAllFar cX9_findAllFar 2 none) rmX9_findAllFar (va_Pc [.ref (ad 0)] (Pre D cA (mW ad cA) mS S)) (Qo D (mW ad cA) (mA ad) (none) r.2) 0 0 (mA ad) := met_of [.ref (ad 0)] (by decide) (Nat.le_of_ble_eq_true rfl) hD (fun _ _ _ _ h => h) (fun _ _ _ _ h => h) (fun p e s m below meth c C hr => vX9_findAllFar C hr rfl (N := N)  hm)
-- X9_isDeadNow
def rmX9_isDeadNow : Room := { frames := 0, cells := 0, slots := 0, locals := 0 }
def fX9_isDeadNow_47 (N : Nat) (k4 : Bool → Int32 → St → Option (Bool × St)) (s0 : Bool) (x2 : Int32) (S : St) : Option (Bool × St) := k4 s0 (x2 + 1) S
set_option maxRecDepth 20000 in
theorem vX9_isDeadNow_47 {p : Program} {l : Launch} {e : Env} {s : State} {m : MethodId} {args : Array Value} {below : List Frame} {meth : Method} {c : Code} {Q : State → Prop} {D : va_G} {ad : Nat → Nat} {cA : Nat → ClassId} (C : Ok p s m args c D cA (mW ad cA) (mA ad) mS RX9 cX9_isDeadNow 3) (hr : Rt meth (some .boolean)) {r : Bool × St} (hQ : Q = MQ below (Qo D (mW ad cA) (mA ad) (some (.int (b2i r.1))) r.2) args s 0 0 (mA ad)) {N : Nat} {k4 : Bool → Int32 → St → Option (Bool × St)} (hk4 : ∀ (x1 : Bool) (x2 : Int32) (S : St), k4 x1 x2 S = some r → V p l e rmX9_isDeadNow s m args below meth c Q D (mW ad cA) (mA ad) 3 S 4 [(0, .ref (ad 0)), (1, .int (b2i x1)), (2, .int x2)] []) {s0 : Bool} {x2 : Int32}  {S : St} (hm : fX9_isDeadNow_47 N k4 s0 x2 S = some r) : V p l e rmX9_isDeadNow s m args below meth c Q D (mW ad cA) (mA ad) 3 S 47 [(0, .ref (ad 0)), (2, .int x2)] [.int (b2i s0)] := by
  unfold fX9_isDeadNow_47 at hm
  refine v_istore_n C (pc := 47) [(1, .int (b2i s0)), (0, .ref (ad 0)), (2, .int x2)] dX9_isDeadNow_47 rfl (by decide) rfl ?_
  refine v_iinc C (pc := 48) 1 2 [(2, .int (x2 + 1)), (1, .int (b2i s0)), (0, .ref (ad 0))] dX9_isDeadNow_48 rfl rfl (by decide) rfl ?_
  refine v_goto C (pc := 51) 4 dX9_isDeadNow_51 rfl ?_
  exact v_sub [2, 1, 0] rfl (hk4 _ _ _ hm)
def fX9_isDeadNow_42 (N : Nat) (k4 : Bool → Int32 → St → Option (Bool × St)) (x2 : Int32) (S : St) : Option (Bool × St) := fX9_isDeadNow_47 N k4 true x2 S
set_option maxRecDepth 20000 in
theorem vX9_isDeadNow_42 {p : Program} {l : Launch} {e : Env} {s : State} {m : MethodId} {args : Array Value} {below : List Frame} {meth : Method} {c : Code} {Q : State → Prop} {D : va_G} {ad : Nat → Nat} {cA : Nat → ClassId} (C : Ok p s m args c D cA (mW ad cA) (mA ad) mS RX9 cX9_isDeadNow 3) (hr : Rt meth (some .boolean)) {r : Bool × St} (hQ : Q = MQ below (Qo D (mW ad cA) (mA ad) (some (.int (b2i r.1))) r.2) args s 0 0 (mA ad)) {N : Nat} {k4 : Bool → Int32 → St → Option (Bool × St)} (hk4 : ∀ (x1 : Bool) (x2 : Int32) (S : St), k4 x1 x2 S = some r → V p l e rmX9_isDeadNow s m args below meth c Q D (mW ad cA) (mA ad) 3 S 4 [(0, .ref (ad 0)), (1, .int (b2i x1)), (2, .int x2)] []) {x2 : Int32}  {S : St} (hm : fX9_isDeadNow_42 N k4 x2 S = some r) : V p l e rmX9_isDeadNow s m args below meth c Q D (mW ad cA) (mA ad) 3 S 42 [(0, .ref (ad 0)), (2, .int x2)] [] := by
  unfold fX9_isDeadNow_42 at hm
  refine v_iconst C (pc := 42) 1 dX9_isDeadNow_42 rfl ?_
  refine v_goto C (pc := 43) 47 dX9_isDeadNow_43 rfl ?_
  exact (vX9_isDeadNow_47 C hr hQ (N := N) hk4 hm)
def fX9_isDeadNow_46 (N : Nat) (k4 : Bool → Int32 → St → Option (Bool × St)) (x2 : Int32) (S : St) : Option (Bool × St) := fX9_isDeadNow_47 N k4 false x2 S
set_option maxRecDepth 20000 in
theorem vX9_isDeadNow_46 {p : Program} {l : Launch} {e : Env} {s : State} {m : MethodId} {args : Array Value} {below : List Frame} {meth : Method} {c : Code} {Q : State → Prop} {D : va_G} {ad : Nat → Nat} {cA : Nat → ClassId} (C : Ok p s m args c D cA (mW ad cA) (mA ad) mS RX9 cX9_isDeadNow 3) (hr : Rt meth (some .boolean)) {r : Bool × St} (hQ : Q = MQ below (Qo D (mW ad cA) (mA ad) (some (.int (b2i r.1))) r.2) args s 0 0 (mA ad)) {N : Nat} {k4 : Bool → Int32 → St → Option (Bool × St)} (hk4 : ∀ (x1 : Bool) (x2 : Int32) (S : St), k4 x1 x2 S = some r → V p l e rmX9_isDeadNow s m args below meth c Q D (mW ad cA) (mA ad) 3 S 4 [(0, .ref (ad 0)), (1, .int (b2i x1)), (2, .int x2)] []) {x2 : Int32}  {S : St} (hm : fX9_isDeadNow_46 N k4 x2 S = some r) : V p l e rmX9_isDeadNow s m args below meth c Q D (mW ad cA) (mA ad) 3 S 46 [(0, .ref (ad 0)), (2, .int x2)] [] := by
  unfold fX9_isDeadNow_46 at hm
  refine v_iconst C (pc := 46) 0 dX9_isDeadNow_46 rfl ?_
  exact (vX9_isDeadNow_47 C hr hQ (N := N) hk4 hm)
def fX9_isDeadNow_4b (N : Nat)  (k4 : Bool → Int32 → St → Option (Bool × St)) (x1 : Bool) (x2 : Int32) (S : St) : Option (Bool × St) := if 5 ≤ x2 then (some (x1, S)) else (if (b2i x1) = 0 then (ck x2 5 (if (S.2.2.1 2 (Int32.toNatClampNeg x2)) ≤ 0 then (fX9_isDeadNow_46 N k4 x2 S) else (ck x2 5 (ck ((256 * x2) + (S.2.2.1 9 (Int32.toNatClampNeg x2))) 1280 (if 0 ≤ (S.2.2.1 24 (Int32.toNatClampNeg ((256 * x2) + (S.2.2.1 9 (Int32.toNatClampNeg x2))))) then (fX9_isDeadNow_46 N k4 x2 S) else (fX9_isDeadNow_42 N k4 x2 S)))))) else (fX9_isDeadNow_42 N k4 x2 S))
def fX9_isDeadNow_4 (N : Nat)  : Nat → Bool → Int32 → St → Option (Bool × St)
  | 0 => fun _ _ _ => none
  | n + 1 => fun x1 x2 S => fX9_isDeadNow_4b N  (fX9_isDeadNow_4 N  n) x1 x2 S
set_option maxRecDepth 20000 in
theorem vX9_isDeadNow_4b {p : Program} {l : Launch} {e : Env} {s : State} {m : MethodId} {args : Array Value} {below : List Frame} {meth : Method} {c : Code} {Q : State → Prop} {D : va_G} {ad : Nat → Nat} {cA : Nat → ClassId} (C : Ok p s m args c D cA (mW ad cA) (mA ad) mS RX9 cX9_isDeadNow 3) (hr : Rt meth (some .boolean)) {r : Bool × St} (hQ : Q = MQ below (Qo D (mW ad cA) (mA ad) (some (.int (b2i r.1))) r.2) args s 0 0 (mA ad)) {N : Nat}  {k4 : Bool → Int32 → St → Option (Bool × St)} (hk4 : ∀ (x1 : Bool) (x2 : Int32) (S : St), k4 x1 x2 S = some r → V p l e rmX9_isDeadNow s m args below meth c Q D (mW ad cA) (mA ad) 3 S 4 [(0, .ref (ad 0)), (1, .int (b2i x1)), (2, .int x2)] []) {x1 : Bool} {x2 : Int32}  {S : St} (hm : fX9_isDeadNow_4b N  k4 x1 x2 S = some r) : V p l e rmX9_isDeadNow s m args below meth c Q D (mW ad cA) (mA ad) 3 S 4 [(0, .ref (ad 0)), (1, .int (b2i x1)), (2, .int x2)] [] := by
  unfold fX9_isDeadNow_4b at hm
  refine v_iload_n C (pc := 4) 2 dX9_isDeadNow_4 rfl rfl ?_
  refine v_iconst C (pc := 5) 5 dX9_isDeadNow_5 rfl ?_
  refine v_icmp_ge C (pc := 6) hm 54 dX9_isDeadNow_6 rfl (fun hm => ?_) (fun hm => ?_)
  · refine v_iload_n C (pc := 54) 1 dX9_isDeadNow_54 rfl rfl ?_
    exact v_zret C hr hQ (x := x1) (pc := 55) hm dX9_isDeadNow_55
  · refine v_iload_n C (pc := 9) 1 dX9_isDeadNow_9 rfl rfl ?_
    refine v_if_ne C (pc := 10) hm 42 dX9_isDeadNow_10 rfl (fun hm => ?_) (fun hm => ?_)
    · exact v_sub [0, 2] rfl (vX9_isDeadNow_42 C hr hQ (N := N) hk4 hm)
    · refine v_aload_n C (pc := 13) 0 dX9_isDeadNow_13 rfl rfl ?_
      refine gX9_16 C (pc := 14) dX9_isDeadNow_14 ?_
      refine v_iload_n C (pc := 17) 2 dX9_isDeadNow_17 rfl rfl ?_
      refine ldX9_cells C (pc := 18) hm dX9_isDeadNow_18 (fun hm => ?_)
      refine v_if_le C (pc := 19) hm 46 dX9_isDeadNow_19 rfl (fun hm => ?_) (fun hm => ?_)
      · exact v_sub [0, 2] rfl (vX9_isDeadNow_46 C hr hQ (N := N) hk4 hm)
      · refine v_aload_n C (pc := 22) 0 dX9_isDeadNow_22 rfl rfl ?_
        refine gX9_94 C (pc := 23) dX9_isDeadNow_23 ?_
        refine v_sipush C (pc := 26) 256 dX9_isDeadNow_26 rfl ?_
        refine v_iload_n C (pc := 29) 2 dX9_isDeadNow_29 rfl rfl ?_
        refine v_imul C (pc := 30) dX9_isDeadNow_30 ?_
        refine v_aload_n C (pc := 31) 0 dX9_isDeadNow_31 rfl rfl ?_
        refine gX9_37 C (pc := 32) dX9_isDeadNow_32 ?_
        refine v_iload_n C (pc := 35) 2 dX9_isDeadNow_35 rfl rfl ?_
        refine ldX9_placeOf C (pc := 36) hm dX9_isDeadNow_36 (fun hm => ?_)
        refine v_iadd C (pc := 37) dX9_isDeadNow_37 ?_
        refine ldX9_farOf C (pc := 38) hm dX9_isDeadNow_38 (fun hm => ?_)
        refine v_if_ge C (pc := 39) hm 46 dX9_isDeadNow_39 rfl (fun hm => ?_) (fun hm => ?_)
        · exact v_sub [0, 2] rfl (vX9_isDeadNow_46 C hr hQ (N := N) hk4 hm)
        · exact v_sub [0, 2] rfl (vX9_isDeadNow_42 C hr hQ (N := N) hk4 hm)
theorem vX9_isDeadNow_4 {p : Program} {l : Launch} {e : Env} {s : State} {m : MethodId} {args : Array Value} {below : List Frame} {meth : Method} {c : Code} {Q : State → Prop} {D : va_G} {ad : Nat → Nat} {cA : Nat → ClassId} (C : Ok p s m args c D cA (mW ad cA) (mA ad) mS RX9 cX9_isDeadNow 3) (hr : Rt meth (some .boolean)) {r : Bool × St} (hQ : Q = MQ below (Qo D (mW ad cA) (mA ad) (some (.int (b2i r.1))) r.2) args s 0 0 (mA ad)) {N : Nat}  (n : Nat) : ∀ (x1 : Bool) (x2 : Int32) (S : St), fX9_isDeadNow_4 N  n x1 x2 S = some r → V p l e rmX9_isDeadNow s m args below meth c Q D (mW ad cA) (mA ad) 3 S 4 [(0, .ref (ad 0)), (1, .int (b2i x1)), (2, .int x2)] [] := by
  induction n with
  | zero => intro _ _ _  hm; exact absurd hm (by intro h; cases h)
  | succ n ih => intro _ _ _  hm; exact vX9_isDeadNow_4b C hr hQ (N := N)   ih  hm
def fX9_isDeadNow (N : Nat)  (S : St) : Option (Bool × St) := fX9_isDeadNow_4 N N false 0 S
set_option maxRecDepth 20000 in
theorem vX9_isDeadNow {p : Program} {l : Launch} {e : Env} {s : State} {m : MethodId} {args : Array Value} {below : List Frame} {meth : Method} {c : Code} {Q : State → Prop} {D : va_G} {ad : Nat → Nat} {cA : Nat → ClassId} (C : Ok p s m args c D cA (mW ad cA) (mA ad) mS RX9 cX9_isDeadNow 3) (hr : Rt meth (some .boolean)) {r : Bool × St} (hQ : Q = MQ below (Qo D (mW ad cA) (mA ad) (some (.int (b2i r.1))) r.2) args s 0 0 (mA ad)) {N : Nat}  {S : St} (hm : fX9_isDeadNow N  S = some r) : V p l e rmX9_isDeadNow s m args below meth c Q D (mW ad cA) (mA ad) 3 S 0 [(0, .ref (ad 0))] [] := by
  unfold fX9_isDeadNow at hm
  refine v_iconst C (pc := 0) 0 dX9_isDeadNow_0 rfl ?_
  refine v_istore_n C (pc := 1) [(1, .int 0), (0, .ref (ad 0))] dX9_isDeadNow_1 rfl (by decide) rfl ?_
  refine v_iconst C (pc := 2) 0 dX9_isDeadNow_2 rfl ?_
  refine v_istore_n C (pc := 3) [(2, .int 0), (1, .int 0), (0, .ref (ad 0))] dX9_isDeadNow_3 rfl (by decide) rfl ?_
  exact v_sub [2, 1, 0] rfl (vX9_isDeadNow_4 C hr hQ (N := N) N _ _ _ hm)
theorem mX9_isDeadNow {l : Launch} {D : va_G} {ad : Nat → Nat} {cA : Nat → ClassId} (hD : ∀ S, va_D (mA ad) (mW ad cA S)) {N : Nat}  {S : St} {r : Bool × St} (hm : fX9_isDeadNow N  S = some r) : Met l yX9_isDeadNow (wsm yX9_isDeadNow cX9_isDeadNow 3 (some .boolean)) rmX9_isDeadNow (va_Pc [.ref (ad 0)] (Pre D cA (mW ad cA) mS S)) (Qo D (mW ad cA) (mA ad) (some (.int (b2i r.1))) r.2) 0 0 (mA ad) := met_of [.ref (ad 0)] (by decide) (Nat.le_of_ble_eq_true rfl) hD (fun _ _ _ _ h => h) (fun _ _ _ _ h => h) (fun p e s m below meth c C hr => vX9_isDeadNow C hr rfl (N := N)  hm)
-- X9_lowerBound
theorem infX9_findAllFar : InfV yX9_findAllFar cX9_findAllFar 2 none 0 := ⟨⟨gm (i := 65) (by decide +kernel) rfl, gm (i := 1208) (by decide +kernel) rfl, by decide +kernel⟩, gm (i := 1207) (by decide +kernel) rfl, gm (i := 47) (by decide +kernel) rfl⟩
theorem kX9_278 {p : Program} {l : Launch} {e : Env} {R : Room} {s : State} {m : MethodId} {args : Array Value} {below : List Frame} {meth : Method} {c : Code} {Q : State → Prop} {D : va_G} {ad : Nat → Nat} {cA : Nat → ClassId} {cc : ByteArray} {nL : Nat} {S : St} {pc : Nat} {lv : List (Nat × Value)} {st : List Value} {ρ : Type} {res : ρ} (C : Ok p s m args c D cA (mW ad cA) (mA ad) mS RX9 cc nL) (hfr : rmX9_findAllFar.frames + 1 ≤ R.frames) (hlo : 8 + (2 + 11) + rmX9_findAllFar.locals ≤ R.locals) {N : Nat}  {E : Unit → St → Option ρ} (hm : bd (fX9_findAllFar N  S) E = some res) (hcat : (st.map fun v => v.category).sum ≤ 8) (hd : decode cc pc = .ok (.invokevirtual 278, 3)) (k : ∀ r S, E r S = some res → V p l e R s m args below meth c Q D (mW ad cA) (mA ad) nL S (pc + 3) lv (st)) : V p l e R s m args below meth c Q D (mW ad cA) (mA ad) nL S pc lv (.ref (ad 0) :: st) := by
  obtain ⟨r, S1, h1, h2⟩ := bd_some hm
  exact v_callV C (gm (i := 1205) (by decide +kernel) rfl : Cond.methodLink RX9 278 yX9_findAllFar ∈ gw_tbl) infX9_findAllFar (rm2 := rmX9_findAllFar) ⟨rfl, rfl⟩ hfr hlo (mX9_findAllFar C.2.2.2.2.2.2.1 h1) (As := []) (oX9 ad cA S) rfl rfl rfl rfl hcat hd (k r S1 h2)
theorem infX9_isDeadNow : InfV yX9_isDeadNow cX9_isDeadNow 3 (some .boolean) 0 := ⟨⟨gm (i := 65) (by decide +kernel) rfl, gm (i := 1212) (by decide +kernel) rfl, by decide +kernel⟩, gm (i := 1211) (by decide +kernel) rfl, gm (i := 48) (by decide +kernel) rfl⟩
theorem kX9_281 {p : Program} {l : Launch} {e : Env} {R : Room} {s : State} {m : MethodId} {args : Array Value} {below : List Frame} {meth : Method} {c : Code} {Q : State → Prop} {D : va_G} {ad : Nat → Nat} {cA : Nat → ClassId} {cc : ByteArray} {nL : Nat} {S : St} {pc : Nat} {lv : List (Nat × Value)} {st : List Value} {ρ : Type} {res : ρ} (C : Ok p s m args c D cA (mW ad cA) (mA ad) mS RX9 cc nL) (hfr : rmX9_isDeadNow.frames + 1 ≤ R.frames) (hlo : 8 + (3 + 11) + rmX9_isDeadNow.locals ≤ R.locals) {N : Nat}  {E : Bool → St → Option ρ} (hm : bd (fX9_isDeadNow N  S) E = some res) (hcat : (st.map fun v => v.category).sum ≤ 8) (hd : decode cc pc = .ok (.invokevirtual 281, 3)) (k : ∀ r S, E r S = some res → V p l e R s m args below meth c Q D (mW ad cA) (mA ad) nL S (pc + 3) lv (.int (b2i r) :: st)) : V p l e R s m args below meth c Q D (mW ad cA) (mA ad) nL S pc lv (.ref (ad 0) :: st) := by
  obtain ⟨r, S1, h1, h2⟩ := bd_some hm
  exact v_callV C (gm (i := 1209) (by decide +kernel) rfl : Cond.methodLink RX9 281 yX9_isDeadNow ∈ gw_tbl) infX9_isDeadNow (rm2 := rmX9_isDeadNow) ⟨rfl, rfl⟩ hfr hlo (mX9_isDeadNow C.2.2.2.2.2.2.1 h1) (As := []) (oX9 ad cA S) rfl rfl rfl rfl hcat hd (k r S1 h2)
def rmX9_lowerBound : Room := { frames := 6, cells := 0, slots := 0, locals := 141 }
def fX9_lowerBound_64 (N : Nat) (k18 : Int32 → Int32 → St → Option (Int32 × St)) (s0 : Int32) (x2 : Int32) (S : St) : Option (Int32 × St) := k18 s0 (x2 + 1) S
set_option maxRecDepth 20000 in
theorem vX9_lowerBound_64 {p : Program} {l : Launch} {e : Env} {s : State} {m : MethodId} {args : Array Value} {below : List Frame} {meth : Method} {c : Code} {Q : State → Prop} {D : va_G} {ad : Nat → Nat} {cA : Nat → ClassId} (C : Ok p s m args c D cA (mW ad cA) (mA ad) mS RX9 cX9_lowerBound 4) (hr : Rt meth (some .int)) {r : Int32 × St} (hQ : Q = MQ below (Qo D (mW ad cA) (mA ad) (some (.int r.1)) r.2) args s 0 0 (mA ad)) {N : Nat} {k18 : Int32 → Int32 → St → Option (Int32 × St)} (hk18 : ∀ (x1 : Int32) (x2 : Int32) (S : St), k18 x1 x2 S = some r → V p l e rmX9_lowerBound s m args below meth c Q D (mW ad cA) (mA ad) 4 S 18 [(0, .ref (ad 0)), (1, .int x1), (2, .int x2)] []) {s0 : Int32} {x2 : Int32}  {S : St} (hm : fX9_lowerBound_64 N k18 s0 x2 S = some r) : V p l e rmX9_lowerBound s m args below meth c Q D (mW ad cA) (mA ad) 4 S 64 [(0, .ref (ad 0)), (2, .int x2)] [.int s0] := by
  unfold fX9_lowerBound_64 at hm
  refine v_istore_n C (pc := 64) [(1, .int s0), (0, .ref (ad 0)), (2, .int x2)] dX9_lowerBound_64 rfl (by decide) rfl ?_
  refine v_iinc C (pc := 65) 1 2 [(2, .int (x2 + 1)), (1, .int s0), (0, .ref (ad 0))] dX9_lowerBound_65 rfl rfl (by decide) rfl ?_
  refine v_goto C (pc := 68) 18 dX9_lowerBound_68 rfl ?_
  exact v_sub [2, 1, 0] rfl (hk18 _ _ _ hm)
def fX9_lowerBound_53 (N : Nat) (k18 : Int32 → Int32 → St → Option (Int32 × St)) (s0 : Int32) (x1 : Int32) (x2 : Int32) (S : St) : Option (Int32 × St) := if s0 ≤ x1 then (fX9_lowerBound_64 N k18 x1 x2 S) else (fX9_lowerBound_64 N k18 s0 x2 S)
set_option maxRecDepth 20000 in
theorem vX9_lowerBound_53 {p : Program} {l : Launch} {e : Env} {s : State} {m : MethodId} {args : Array Value} {below : List Frame} {meth : Method} {c : Code} {Q : State → Prop} {D : va_G} {ad : Nat → Nat} {cA : Nat → ClassId} (C : Ok p s m args c D cA (mW ad cA) (mA ad) mS RX9 cX9_lowerBound 4) (hr : Rt meth (some .int)) {r : Int32 × St} (hQ : Q = MQ below (Qo D (mW ad cA) (mA ad) (some (.int r.1)) r.2) args s 0 0 (mA ad)) {N : Nat} {k18 : Int32 → Int32 → St → Option (Int32 × St)} (hk18 : ∀ (x1 : Int32) (x2 : Int32) (S : St), k18 x1 x2 S = some r → V p l e rmX9_lowerBound s m args below meth c Q D (mW ad cA) (mA ad) 4 S 18 [(0, .ref (ad 0)), (1, .int x1), (2, .int x2)] []) {s0 : Int32} {x1 : Int32} {x2 : Int32}  {S : St} (hm : fX9_lowerBound_53 N k18 s0 x1 x2 S = some r) : V p l e rmX9_lowerBound s m args below meth c Q D (mW ad cA) (mA ad) 4 S 53 [(0, .ref (ad 0)), (1, .int x1), (2, .int x2)] [.int s0] := by
  unfold fX9_lowerBound_53 at hm
  refine v_istore_n C (pc := 53) [(3, .int s0), (0, .ref (ad 0)), (1, .int x1), (2, .int x2)] dX9_lowerBound_53 rfl (by decide) rfl ?_
  refine v_iload_n C (pc := 54) 0 dX9_lowerBound_54 rfl rfl ?_
  refine v_iload_n C (pc := 55) 2 dX9_lowerBound_55 rfl rfl ?_
  refine v_icmp_le C (pc := 56) hm 63 dX9_lowerBound_56 rfl (fun hm => ?_) (fun hm => ?_)
  · refine v_iload_n C (pc := 63) 2 dX9_lowerBound_63 rfl rfl ?_
    exact v_sub [1, 3] rfl (vX9_lowerBound_64 C hr hQ (N := N) hk18 hm)
  · refine v_iload_n C (pc := 59) 0 dX9_lowerBound_59 rfl rfl ?_
    refine v_goto C (pc := 60) 64 dX9_lowerBound_60 rfl ?_
    exact v_sub [1, 3] rfl (vX9_lowerBound_64 C hr hQ (N := N) hk18 hm)
def fX9_lowerBound_18b (N : Nat)  (k18 : Int32 → Int32 → St → Option (Int32 × St)) (x1 : Int32) (x2 : Int32) (S : St) : Option (Int32 × St) := if 5 ≤ x2 then (some (x1, S)) else (ck x2 5 (if (S.2.2.1 2 (Int32.toNatClampNeg x2)) = 0 then (fX9_lowerBound_53 N k18 0 x1 x2 S) else (ck x2 5 (ck ((256 * x2) + (S.2.2.1 9 (Int32.toNatClampNeg x2))) 1280 (fX9_lowerBound_53 N k18 (S.2.2.1 24 (Int32.toNatClampNeg ((256 * x2) + (S.2.2.1 9 (Int32.toNatClampNeg x2))))) x1 x2 S)))))
def fX9_lowerBound_18 (N : Nat)  : Nat → Int32 → Int32 → St → Option (Int32 × St)
  | 0 => fun _ _ _ => none
  | n + 1 => fun x1 x2 S => fX9_lowerBound_18b N  (fX9_lowerBound_18 N  n) x1 x2 S
set_option maxRecDepth 20000 in
theorem vX9_lowerBound_18b {p : Program} {l : Launch} {e : Env} {s : State} {m : MethodId} {args : Array Value} {below : List Frame} {meth : Method} {c : Code} {Q : State → Prop} {D : va_G} {ad : Nat → Nat} {cA : Nat → ClassId} (C : Ok p s m args c D cA (mW ad cA) (mA ad) mS RX9 cX9_lowerBound 4) (hr : Rt meth (some .int)) {r : Int32 × St} (hQ : Q = MQ below (Qo D (mW ad cA) (mA ad) (some (.int r.1)) r.2) args s 0 0 (mA ad)) {N : Nat}  {k18 : Int32 → Int32 → St → Option (Int32 × St)} (hk18 : ∀ (x1 : Int32) (x2 : Int32) (S : St), k18 x1 x2 S = some r → V p l e rmX9_lowerBound s m args below meth c Q D (mW ad cA) (mA ad) 4 S 18 [(0, .ref (ad 0)), (1, .int x1), (2, .int x2)] []) {x1 : Int32} {x2 : Int32}  {S : St} (hm : fX9_lowerBound_18b N  k18 x1 x2 S = some r) : V p l e rmX9_lowerBound s m args below meth c Q D (mW ad cA) (mA ad) 4 S 18 [(0, .ref (ad 0)), (1, .int x1), (2, .int x2)] [] := by
  unfold fX9_lowerBound_18b at hm
  refine v_iload_n C (pc := 18) 2 dX9_lowerBound_18 rfl rfl ?_
  refine v_iconst C (pc := 19) 5 dX9_lowerBound_19 rfl ?_
  refine v_icmp_ge C (pc := 20) hm 71 dX9_lowerBound_20 rfl (fun hm => ?_) (fun hm => ?_)
  · refine v_iload_n C (pc := 71) 1 dX9_lowerBound_71 rfl rfl ?_
    exact v_iret C hr hQ (pc := 72) hm dX9_lowerBound_72
  · refine v_aload_n C (pc := 23) 0 dX9_lowerBound_23 rfl rfl ?_
    refine gX9_16 C (pc := 24) dX9_lowerBound_24 ?_
    refine v_iload_n C (pc := 27) 2 dX9_lowerBound_27 rfl rfl ?_
    refine ldX9_cells C (pc := 28) hm dX9_lowerBound_28 (fun hm => ?_)
    refine v_if_ne C (pc := 29) hm 36 dX9_lowerBound_29 rfl (fun hm => ?_) (fun hm => ?_)
    · refine v_aload_n C (pc := 36) 0 dX9_lowerBound_36 rfl rfl ?_
      refine gX9_94 C (pc := 37) dX9_lowerBound_37 ?_
      refine v_sipush C (pc := 40) 256 dX9_lowerBound_40 rfl ?_
      refine v_iload_n C (pc := 43) 2 dX9_lowerBound_43 rfl rfl ?_
      refine v_imul C (pc := 44) dX9_lowerBound_44 ?_
      refine v_aload_n C (pc := 45) 0 dX9_lowerBound_45 rfl rfl ?_
      refine gX9_37 C (pc := 46) dX9_lowerBound_46 ?_
      refine v_iload_n C (pc := 49) 2 dX9_lowerBound_49 rfl rfl ?_
      refine ldX9_placeOf C (pc := 50) hm dX9_lowerBound_50 (fun hm => ?_)
      refine v_iadd C (pc := 51) dX9_lowerBound_51 ?_
      refine ldX9_farOf C (pc := 52) hm dX9_lowerBound_52 (fun hm => ?_)
      exact (vX9_lowerBound_53 C hr hQ (N := N) hk18 hm)
    · refine v_iconst C (pc := 32) 0 dX9_lowerBound_32 rfl ?_
      refine v_goto C (pc := 33) 53 dX9_lowerBound_33 rfl ?_
      exact (vX9_lowerBound_53 C hr hQ (N := N) hk18 hm)
theorem vX9_lowerBound_18 {p : Program} {l : Launch} {e : Env} {s : State} {m : MethodId} {args : Array Value} {below : List Frame} {meth : Method} {c : Code} {Q : State → Prop} {D : va_G} {ad : Nat → Nat} {cA : Nat → ClassId} (C : Ok p s m args c D cA (mW ad cA) (mA ad) mS RX9 cX9_lowerBound 4) (hr : Rt meth (some .int)) {r : Int32 × St} (hQ : Q = MQ below (Qo D (mW ad cA) (mA ad) (some (.int r.1)) r.2) args s 0 0 (mA ad)) {N : Nat}  (n : Nat) : ∀ (x1 : Int32) (x2 : Int32) (S : St), fX9_lowerBound_18 N  n x1 x2 S = some r → V p l e rmX9_lowerBound s m args below meth c Q D (mW ad cA) (mA ad) 4 S 18 [(0, .ref (ad 0)), (1, .int x1), (2, .int x2)] [] := by
  induction n with
  | zero => intro _ _ _  hm; exact absurd hm (by intro h; cases h)
  | succ n ih => intro _ _ _  hm; exact vX9_lowerBound_18b C hr hQ (N := N)   ih  hm
def fX9_lowerBound (N : Nat)  (S : St) : Option (Int32 × St) := bd (fX9_findAllFar N  S) fun r3 S3 => bd (fX9_isDeadNow N  S3) fun r4 S4 => if (b2i r4) = 0 then (fX9_lowerBound_18 N N 0 0 S4) else (some ((-7), S4))
set_option maxRecDepth 20000 in
theorem vX9_lowerBound {p : Program} {l : Launch} {e : Env} {s : State} {m : MethodId} {args : Array Value} {below : List Frame} {meth : Method} {c : Code} {Q : State → Prop} {D : va_G} {ad : Nat → Nat} {cA : Nat → ClassId} (C : Ok p s m args c D cA (mW ad cA) (mA ad) mS RX9 cX9_lowerBound 4) (hr : Rt meth (some .int)) {r : Int32 × St} (hQ : Q = MQ below (Qo D (mW ad cA) (mA ad) (some (.int r.1)) r.2) args s 0 0 (mA ad)) {N : Nat}  {S : St} (hm : fX9_lowerBound N  S = some r) : V p l e rmX9_lowerBound s m args below meth c Q D (mW ad cA) (mA ad) 4 S 0 [(0, .ref (ad 0))] [] := by
  unfold fX9_lowerBound at hm
  refine v_aload_n C (pc := 0) 0 dX9_lowerBound_0 rfl rfl ?_
  refine kX9_278 C (Nat.le_of_ble_eq_true rfl) (Nat.le_of_ble_eq_true rfl) (pc := 1) hm (Nat.le_of_ble_eq_true rfl) dX9_lowerBound_1 (fun r3 S3 hm => ?_)
  refine v_aload_n C (pc := 4) 0 dX9_lowerBound_4 rfl rfl ?_
  refine kX9_281 C (Nat.le_of_ble_eq_true rfl) (Nat.le_of_ble_eq_true rfl) (pc := 5) hm (Nat.le_of_ble_eq_true rfl) dX9_lowerBound_5 (fun r4 S4 hm => ?_)
  refine v_if_eq C (pc := 8) hm 14 dX9_lowerBound_8 rfl (fun hm => ?_) (fun hm => ?_)
  · refine v_iconst C (pc := 14) 0 dX9_lowerBound_14 rfl ?_
    refine v_istore_n C (pc := 15) [(1, .int 0), (0, .ref (ad 0))] dX9_lowerBound_15 rfl (by decide) rfl ?_
    refine v_iconst C (pc := 16) 0 dX9_lowerBound_16 rfl ?_
    refine v_istore_n C (pc := 17) [(2, .int 0), (1, .int 0), (0, .ref (ad 0))] dX9_lowerBound_17 rfl (by decide) rfl ?_
    exact v_sub [2, 1, 0] rfl (vX9_lowerBound_18 C hr hQ (N := N) N _ _ _ hm)
  · refine v_bipush C (pc := 11) (-7) dX9_lowerBound_11 rfl ?_
    exact v_iret C hr hQ (pc := 13) hm dX9_lowerBound_13
theorem mX9_lowerBound {l : Launch} {D : va_G} {ad : Nat → Nat} {cA : Nat → ClassId} (hD : ∀ S, va_D (mA ad) (mW ad cA S)) {N : Nat}  {S : St} {r : Int32 × St} (hm : fX9_lowerBound N  S = some r) : Met l yX9_lowerBound (wsm yX9_lowerBound cX9_lowerBound 4 (some .int)) rmX9_lowerBound (va_Pc [.ref (ad 0)] (Pre D cA (mW ad cA) mS S)) (Qo D (mW ad cA) (mA ad) (some (.int r.1)) r.2) 0 0 (mA ad) := met_of [.ref (ad 0)] (by decide) (Nat.le_of_ble_eq_true rfl) hD (fun _ _ _ _ h => h) (fun _ _ _ _ h => h) (fun p e s m below meth c C hr => vX9_lowerBound C hr rfl (N := N)  hm)
-- X9_isSolvedNow
def rmX9_isSolvedNow : Room := { frames := 1, cells := 0, slots := 0, locals := 22 }
def fX9_isSolvedNow_50 (N : Nat) (k4 : Bool → Int32 → St → Option (Bool × St)) (s0 : Bool) (x2 : Int32) (S : St) : Option (Bool × St) := k4 s0 (x2 + 1) S
set_option maxRecDepth 20000 in
theorem vX9_isSolvedNow_50 {p : Program} {l : Launch} {e : Env} {s : State} {m : MethodId} {args : Array Value} {below : List Frame} {meth : Method} {c : Code} {Q : State → Prop} {D : va_G} {ad : Nat → Nat} {cA : Nat → ClassId} (C : Ok p s m args c D cA (mW ad cA) (mA ad) mS RX9 cX9_isSolvedNow 3) (hr : Rt meth (some .boolean)) {r : Bool × St} (hQ : Q = MQ below (Qo D (mW ad cA) (mA ad) (some (.int (b2i r.1))) r.2) args s 0 0 (mA ad)) {N : Nat} {k4 : Bool → Int32 → St → Option (Bool × St)} (hk4 : ∀ (x1 : Bool) (x2 : Int32) (S : St), k4 x1 x2 S = some r → V p l e rmX9_isSolvedNow s m args below meth c Q D (mW ad cA) (mA ad) 3 S 4 [(0, .ref (ad 0)), (1, .int (b2i x1)), (2, .int x2)] []) {s0 : Bool} {x2 : Int32}  {S : St} (hm : fX9_isSolvedNow_50 N k4 s0 x2 S = some r) : V p l e rmX9_isSolvedNow s m args below meth c Q D (mW ad cA) (mA ad) 3 S 50 [(0, .ref (ad 0)), (2, .int x2)] [.int (b2i s0)] := by
  unfold fX9_isSolvedNow_50 at hm
  refine v_istore_n C (pc := 50) [(1, .int (b2i s0)), (0, .ref (ad 0)), (2, .int x2)] dX9_isSolvedNow_50 rfl (by decide) rfl ?_
  refine v_iinc C (pc := 51) 1 2 [(2, .int (x2 + 1)), (1, .int (b2i s0)), (0, .ref (ad 0))] dX9_isSolvedNow_51 rfl rfl (by decide) rfl ?_
  refine v_goto C (pc := 54) 4 dX9_isSolvedNow_54 rfl ?_
  exact v_sub [2, 1, 0] rfl (hk4 _ _ _ hm)
def fX9_isSolvedNow_49 (N : Nat) (k4 : Bool → Int32 → St → Option (Bool × St)) (x2 : Int32) (S : St) : Option (Bool × St) := fX9_isSolvedNow_50 N k4 false x2 S
set_option maxRecDepth 20000 in
theorem vX9_isSolvedNow_49 {p : Program} {l : Launch} {e : Env} {s : State} {m : MethodId} {args : Array Value} {below : List Frame} {meth : Method} {c : Code} {Q : State → Prop} {D : va_G} {ad : Nat → Nat} {cA : Nat → ClassId} (C : Ok p s m args c D cA (mW ad cA) (mA ad) mS RX9 cX9_isSolvedNow 3) (hr : Rt meth (some .boolean)) {r : Bool × St} (hQ : Q = MQ below (Qo D (mW ad cA) (mA ad) (some (.int (b2i r.1))) r.2) args s 0 0 (mA ad)) {N : Nat} {k4 : Bool → Int32 → St → Option (Bool × St)} (hk4 : ∀ (x1 : Bool) (x2 : Int32) (S : St), k4 x1 x2 S = some r → V p l e rmX9_isSolvedNow s m args below meth c Q D (mW ad cA) (mA ad) 3 S 4 [(0, .ref (ad 0)), (1, .int (b2i x1)), (2, .int x2)] []) {x2 : Int32}  {S : St} (hm : fX9_isSolvedNow_49 N k4 x2 S = some r) : V p l e rmX9_isSolvedNow s m args below meth c Q D (mW ad cA) (mA ad) 3 S 49 [(0, .ref (ad 0)), (2, .int x2)] [] := by
  unfold fX9_isSolvedNow_49 at hm
  refine v_iconst C (pc := 49) 0 dX9_isSolvedNow_49 rfl ?_
  exact (vX9_isSolvedNow_50 C hr hQ (N := N) hk4 hm)
def fX9_isSolvedNow_45 (N : Nat) (k4 : Bool → Int32 → St → Option (Bool × St)) (x2 : Int32) (S : St) : Option (Bool × St) := fX9_isSolvedNow_50 N k4 true x2 S
set_option maxRecDepth 20000 in
theorem vX9_isSolvedNow_45 {p : Program} {l : Launch} {e : Env} {s : State} {m : MethodId} {args : Array Value} {below : List Frame} {meth : Method} {c : Code} {Q : State → Prop} {D : va_G} {ad : Nat → Nat} {cA : Nat → ClassId} (C : Ok p s m args c D cA (mW ad cA) (mA ad) mS RX9 cX9_isSolvedNow 3) (hr : Rt meth (some .boolean)) {r : Bool × St} (hQ : Q = MQ below (Qo D (mW ad cA) (mA ad) (some (.int (b2i r.1))) r.2) args s 0 0 (mA ad)) {N : Nat} {k4 : Bool → Int32 → St → Option (Bool × St)} (hk4 : ∀ (x1 : Bool) (x2 : Int32) (S : St), k4 x1 x2 S = some r → V p l e rmX9_isSolvedNow s m args below meth c Q D (mW ad cA) (mA ad) 3 S 4 [(0, .ref (ad 0)), (1, .int (b2i x1)), (2, .int x2)] []) {x2 : Int32}  {S : St} (hm : fX9_isSolvedNow_45 N k4 x2 S = some r) : V p l e rmX9_isSolvedNow s m args below meth c Q D (mW ad cA) (mA ad) 3 S 45 [(0, .ref (ad 0)), (2, .int x2)] [] := by
  unfold fX9_isSolvedNow_45 at hm
  refine v_iconst C (pc := 45) 1 dX9_isSolvedNow_45 rfl ?_
  refine v_goto C (pc := 46) 50 dX9_isSolvedNow_46 rfl ?_
  exact (vX9_isSolvedNow_50 C hr hQ (N := N) hk4 hm)
def fX9_isSolvedNow_4b (N : Nat)  (k4 : Bool → Int32 → St → Option (Bool × St)) (x1 : Bool) (x2 : Int32) (S : St) : Option (Bool × St) := if 5 ≤ x2 then (some (x1, S)) else (if (b2i x1) = 0 then (fX9_isSolvedNow_49 N k4 x2 S) else (ck x2 5 (if (S.2.2.1 2 (Int32.toNatClampNeg x2)) = 0 then (fX9_isSolvedNow_45 N k4 x2 S) else (ck x2 5 (if (S.2.2.1 8 (Int32.toNatClampNeg x2)) < 0 then (fX9_isSolvedNow_45 N k4 x2 S) else (ck x2 5 (bd (fX9_isAtGoal N x2 (S.2.2.1 9 (Int32.toNatClampNeg x2)) S) fun r3 S3 => if (b2i r3) = 0 then (fX9_isSolvedNow_49 N k4 x2 S3) else (fX9_isSolvedNow_45 N k4 x2 S3))))))))
def fX9_isSolvedNow_4 (N : Nat)  : Nat → Bool → Int32 → St → Option (Bool × St)
  | 0 => fun _ _ _ => none
  | n + 1 => fun x1 x2 S => fX9_isSolvedNow_4b N  (fX9_isSolvedNow_4 N  n) x1 x2 S
set_option maxRecDepth 20000 in
theorem vX9_isSolvedNow_4b {p : Program} {l : Launch} {e : Env} {s : State} {m : MethodId} {args : Array Value} {below : List Frame} {meth : Method} {c : Code} {Q : State → Prop} {D : va_G} {ad : Nat → Nat} {cA : Nat → ClassId} (C : Ok p s m args c D cA (mW ad cA) (mA ad) mS RX9 cX9_isSolvedNow 3) (hr : Rt meth (some .boolean)) {r : Bool × St} (hQ : Q = MQ below (Qo D (mW ad cA) (mA ad) (some (.int (b2i r.1))) r.2) args s 0 0 (mA ad)) {N : Nat}  {k4 : Bool → Int32 → St → Option (Bool × St)} (hk4 : ∀ (x1 : Bool) (x2 : Int32) (S : St), k4 x1 x2 S = some r → V p l e rmX9_isSolvedNow s m args below meth c Q D (mW ad cA) (mA ad) 3 S 4 [(0, .ref (ad 0)), (1, .int (b2i x1)), (2, .int x2)] []) {x1 : Bool} {x2 : Int32}  {S : St} (hm : fX9_isSolvedNow_4b N  k4 x1 x2 S = some r) : V p l e rmX9_isSolvedNow s m args below meth c Q D (mW ad cA) (mA ad) 3 S 4 [(0, .ref (ad 0)), (1, .int (b2i x1)), (2, .int x2)] [] := by
  unfold fX9_isSolvedNow_4b at hm
  refine v_iload_n C (pc := 4) 2 dX9_isSolvedNow_4 rfl rfl ?_
  refine v_iconst C (pc := 5) 5 dX9_isSolvedNow_5 rfl ?_
  refine v_icmp_ge C (pc := 6) hm 57 dX9_isSolvedNow_6 rfl (fun hm => ?_) (fun hm => ?_)
  · refine v_iload_n C (pc := 57) 1 dX9_isSolvedNow_57 rfl rfl ?_
    exact v_zret C hr hQ (x := x1) (pc := 58) hm dX9_isSolvedNow_58
  · refine v_iload_n C (pc := 9) 1 dX9_isSolvedNow_9 rfl rfl ?_
    refine v_if_eq C (pc := 10) hm 49 dX9_isSolvedNow_10 rfl (fun hm => ?_) (fun hm => ?_)
    · exact v_sub [0, 2] rfl (vX9_isSolvedNow_49 C hr hQ (N := N) hk4 hm)
    · refine v_aload_n C (pc := 13) 0 dX9_isSolvedNow_13 rfl rfl ?_
      refine gX9_16 C (pc := 14) dX9_isSolvedNow_14 ?_
      refine v_iload_n C (pc := 17) 2 dX9_isSolvedNow_17 rfl rfl ?_
      refine ldX9_cells C (pc := 18) hm dX9_isSolvedNow_18 (fun hm => ?_)
      refine v_if_eq C (pc := 19) hm 45 dX9_isSolvedNow_19 rfl (fun hm => ?_) (fun hm => ?_)
      · exact v_sub [0, 2] rfl (vX9_isSolvedNow_45 C hr hQ (N := N) hk4 hm)
      · refine v_aload_n C (pc := 22) 0 dX9_isSolvedNow_22 rfl rfl ?_
        refine gX9_34 C (pc := 23) dX9_isSolvedNow_23 ?_
        refine v_iload_n C (pc := 26) 2 dX9_isSolvedNow_26 rfl rfl ?_
        refine ldX9_goalTurn C (pc := 27) hm dX9_isSolvedNow_27 (fun hm => ?_)
        refine v_if_lt C (pc := 28) hm 45 dX9_isSolvedNow_28 rfl (fun hm => ?_) (fun hm => ?_)
        · exact v_sub [0, 2] rfl (vX9_isSolvedNow_45 C hr hQ (N := N) hk4 hm)
        · refine v_aload_n C (pc := 31) 0 dX9_isSolvedNow_31 rfl rfl ?_
          refine v_iload_n C (pc := 32) 2 dX9_isSolvedNow_32 rfl rfl ?_
          refine v_aload_n C (pc := 33) 0 dX9_isSolvedNow_33 rfl rfl ?_
          refine gX9_37 C (pc := 34) dX9_isSolvedNow_34 ?_
          refine v_iload_n C (pc := 37) 2 dX9_isSolvedNow_37 rfl rfl ?_
          refine ldX9_placeOf C (pc := 38) hm dX9_isSolvedNow_38 (fun hm => ?_)
          refine kX9_261 C (Nat.le_of_ble_eq_true rfl) (Nat.le_of_ble_eq_true rfl) (pc := 39) hm (Nat.le_of_ble_eq_true rfl) dX9_isSolvedNow_39 (fun r3 S3 hm => ?_)
          refine v_if_eq C (pc := 42) hm 49 dX9_isSolvedNow_42 rfl (fun hm => ?_) (fun hm => ?_)
          · exact v_sub [0, 2] rfl (vX9_isSolvedNow_49 C hr hQ (N := N) hk4 hm)
          · exact v_sub [0, 2] rfl (vX9_isSolvedNow_45 C hr hQ (N := N) hk4 hm)
theorem vX9_isSolvedNow_4 {p : Program} {l : Launch} {e : Env} {s : State} {m : MethodId} {args : Array Value} {below : List Frame} {meth : Method} {c : Code} {Q : State → Prop} {D : va_G} {ad : Nat → Nat} {cA : Nat → ClassId} (C : Ok p s m args c D cA (mW ad cA) (mA ad) mS RX9 cX9_isSolvedNow 3) (hr : Rt meth (some .boolean)) {r : Bool × St} (hQ : Q = MQ below (Qo D (mW ad cA) (mA ad) (some (.int (b2i r.1))) r.2) args s 0 0 (mA ad)) {N : Nat}  (n : Nat) : ∀ (x1 : Bool) (x2 : Int32) (S : St), fX9_isSolvedNow_4 N  n x1 x2 S = some r → V p l e rmX9_isSolvedNow s m args below meth c Q D (mW ad cA) (mA ad) 3 S 4 [(0, .ref (ad 0)), (1, .int (b2i x1)), (2, .int x2)] [] := by
  induction n with
  | zero => intro _ _ _  hm; exact absurd hm (by intro h; cases h)
  | succ n ih => intro _ _ _  hm; exact vX9_isSolvedNow_4b C hr hQ (N := N)   ih  hm
def fX9_isSolvedNow (N : Nat)  (S : St) : Option (Bool × St) := fX9_isSolvedNow_4 N N true 0 S
set_option maxRecDepth 20000 in
theorem vX9_isSolvedNow {p : Program} {l : Launch} {e : Env} {s : State} {m : MethodId} {args : Array Value} {below : List Frame} {meth : Method} {c : Code} {Q : State → Prop} {D : va_G} {ad : Nat → Nat} {cA : Nat → ClassId} (C : Ok p s m args c D cA (mW ad cA) (mA ad) mS RX9 cX9_isSolvedNow 3) (hr : Rt meth (some .boolean)) {r : Bool × St} (hQ : Q = MQ below (Qo D (mW ad cA) (mA ad) (some (.int (b2i r.1))) r.2) args s 0 0 (mA ad)) {N : Nat}  {S : St} (hm : fX9_isSolvedNow N  S = some r) : V p l e rmX9_isSolvedNow s m args below meth c Q D (mW ad cA) (mA ad) 3 S 0 [(0, .ref (ad 0))] [] := by
  unfold fX9_isSolvedNow at hm
  refine v_iconst C (pc := 0) 1 dX9_isSolvedNow_0 rfl ?_
  refine v_istore_n C (pc := 1) [(1, .int 1), (0, .ref (ad 0))] dX9_isSolvedNow_1 rfl (by decide) rfl ?_
  refine v_iconst C (pc := 2) 0 dX9_isSolvedNow_2 rfl ?_
  refine v_istore_n C (pc := 3) [(2, .int 0), (1, .int 1), (0, .ref (ad 0))] dX9_isSolvedNow_3 rfl (by decide) rfl ?_
  exact v_sub [2, 1, 0] rfl (vX9_isSolvedNow_4 C hr hQ (N := N) N _ _ _ hm)
theorem mX9_isSolvedNow {l : Launch} {D : va_G} {ad : Nat → Nat} {cA : Nat → ClassId} (hD : ∀ S, va_D (mA ad) (mW ad cA S)) {N : Nat}  {S : St} {r : Bool × St} (hm : fX9_isSolvedNow N  S = some r) : Met l yX9_isSolvedNow (wsm yX9_isSolvedNow cX9_isSolvedNow 3 (some .boolean)) rmX9_isSolvedNow (va_Pc [.ref (ad 0)] (Pre D cA (mW ad cA) mS S)) (Qo D (mW ad cA) (mA ad) (some (.int (b2i r.1))) r.2) 0 0 (mA ad) := met_of [.ref (ad 0)] (by decide) (Nat.le_of_ble_eq_true rfl) hD (fun _ _ _ _ h => h) (fun _ _ _ _ h => h) (fun p e s m below meth c C hr => vX9_isSolvedNow C hr rfl (N := N)  hm)
-- X9_isSolved
theorem infX9_isSolvedNow : InfV yX9_isSolvedNow cX9_isSolvedNow 3 (some .boolean) 0 := ⟨⟨gm (i := 65) (by decide +kernel) rfl, gm (i := 1220) (by decide +kernel) rfl, by decide +kernel⟩, gm (i := 1219) (by decide +kernel) rfl, gm (i := 49) (by decide +kernel) rfl⟩
theorem kX9_285 {p : Program} {l : Launch} {e : Env} {R : Room} {s : State} {m : MethodId} {args : Array Value} {below : List Frame} {meth : Method} {c : Code} {Q : State → Prop} {D : va_G} {ad : Nat → Nat} {cA : Nat → ClassId} {cc : ByteArray} {nL : Nat} {S : St} {pc : Nat} {lv : List (Nat × Value)} {st : List Value} {ρ : Type} {res : ρ} (C : Ok p s m args c D cA (mW ad cA) (mA ad) mS RX9 cc nL) (hfr : rmX9_isSolvedNow.frames + 1 ≤ R.frames) (hlo : 8 + (3 + 11) + rmX9_isSolvedNow.locals ≤ R.locals) {N : Nat}  {E : Bool → St → Option ρ} (hm : bd (fX9_isSolvedNow N  S) E = some res) (hcat : (st.map fun v => v.category).sum ≤ 8) (hd : decode cc pc = .ok (.invokevirtual 285, 3)) (k : ∀ r S, E r S = some res → V p l e R s m args below meth c Q D (mW ad cA) (mA ad) nL S (pc + 3) lv (.int (b2i r) :: st)) : V p l e R s m args below meth c Q D (mW ad cA) (mA ad) nL S pc lv (.ref (ad 0) :: st) := by
  obtain ⟨r, S1, h1, h2⟩ := bd_some hm
  exact v_callV C (gm (i := 1217) (by decide +kernel) rfl : Cond.methodLink RX9 285 yX9_isSolvedNow ∈ gw_tbl) infX9_isSolvedNow (rm2 := rmX9_isSolvedNow) ⟨rfl, rfl⟩ hfr hlo (mX9_isSolvedNow C.2.2.2.2.2.2.1 h1) (As := []) (oX9 ad cA S) rfl rfl rfl rfl hcat hd (k r S1 h2)
def rmX9_isSolved : Room := { frames := 2, cells := 0, slots := 0, locals := 44 }
def fX9_isSolved_12 (N : Nat)  (s0 : Bool) (S : St) : Option (Int32 × St) := some ((b2i s0), S)
set_option maxRecDepth 20000 in
theorem vX9_isSolved_12 {p : Program} {l : Launch} {e : Env} {s : State} {m : MethodId} {args : Array Value} {below : List Frame} {meth : Method} {c : Code} {Q : State → Prop} {D : va_G} {ad : Nat → Nat} {cA : Nat → ClassId} (C : Ok p s m args c D cA (mW ad cA) (mA ad) mS RX9 cX9_isSolved 1) (hr : Rt meth (some .int)) {r : Int32 × St} (hQ : Q = MQ below (Qo D (mW ad cA) (mA ad) (some (.int r.1)) r.2) args s 0 0 (mA ad)) {N : Nat}  {s0 : Bool}  {S : St} (hm : fX9_isSolved_12 N  s0 S = some r) : V p l e rmX9_isSolved s m args below meth c Q D (mW ad cA) (mA ad) 1 S 12 [] [.int (b2i s0)] := by
  unfold fX9_isSolved_12 at hm
  exact v_iret C hr hQ (pc := 12) hm dX9_isSolved_12
def fX9_isSolved (N : Nat)  (S : St) : Option (Int32 × St) := bd (fX9_isSolvedNow N  S) fun r2 S2 => if (b2i r2) = 0 then (fX9_isSolved_12 N false S2) else (fX9_isSolved_12 N true S2)
set_option maxRecDepth 20000 in
theorem vX9_isSolved {p : Program} {l : Launch} {e : Env} {s : State} {m : MethodId} {args : Array Value} {below : List Frame} {meth : Method} {c : Code} {Q : State → Prop} {D : va_G} {ad : Nat → Nat} {cA : Nat → ClassId} (C : Ok p s m args c D cA (mW ad cA) (mA ad) mS RX9 cX9_isSolved 1) (hr : Rt meth (some .int)) {r : Int32 × St} (hQ : Q = MQ below (Qo D (mW ad cA) (mA ad) (some (.int r.1)) r.2) args s 0 0 (mA ad)) {N : Nat}  {S : St} (hm : fX9_isSolved N  S = some r) : V p l e rmX9_isSolved s m args below meth c Q D (mW ad cA) (mA ad) 1 S 0 [(0, .ref (ad 0))] [] := by
  unfold fX9_isSolved at hm
  refine v_aload_n C (pc := 0) 0 dX9_isSolved_0 rfl rfl ?_
  refine kX9_285 C (Nat.le_of_ble_eq_true rfl) (Nat.le_of_ble_eq_true rfl) (pc := 1) hm (Nat.le_of_ble_eq_true rfl) dX9_isSolved_1 (fun r2 S2 hm => ?_)
  refine v_if_eq C (pc := 4) hm 11 dX9_isSolved_4 rfl (fun hm => ?_) (fun hm => ?_)
  · refine v_iconst C (pc := 11) 0 dX9_isSolved_11 rfl ?_
    exact v_sub [] rfl (vX9_isSolved_12 C hr hQ (N := N) hm)
  · refine v_iconst C (pc := 7) 1 dX9_isSolved_7 rfl ?_
    refine v_goto C (pc := 8) 12 dX9_isSolved_8 rfl ?_
    exact v_sub [] rfl (vX9_isSolved_12 C hr hQ (N := N) hm)
theorem mX9_isSolved {l : Launch} {D : va_G} {ad : Nat → Nat} {cA : Nat → ClassId} (hD : ∀ S, va_D (mA ad) (mW ad cA S)) {N : Nat}  {S : St} {r : Int32 × St} (hm : fX9_isSolved N  S = some r) : Met l yX9_isSolved (wsm yX9_isSolved cX9_isSolved 1 (some .int)) rmX9_isSolved (va_Pc [.ref (ad 0)] (Pre D cA (mW ad cA) mS S)) (Qo D (mW ad cA) (mA ad) (some (.int r.1)) r.2) 0 0 (mA ad) := met_of [.ref (ad 0)] (by decide) (Nat.le_of_ble_eq_true rfl) hD (fun _ _ _ _ h => h) (fun _ _ _ _ h => h) (fun p e s m below meth c C hr => vX9_isSolved C hr rfl (N := N)  hm)
-- X9_isListed
def rmX9_isListed : Room := { frames := 0, cells := 0, slots := 0, locals := 0 }
def fX9_isListed_2b (N : Nat)  (k2 : Int64 → Int32 → St → Option (Bool × St)) (x1 : Int64) (x3 : Int32) (S : St) : Option (Bool × St) := if (S.1 10) ≤ x3 then (some (false, S)) else (ck x3 1200 (if (lg_cmp (S.2.2.2 3 (Int32.toNatClampNeg x3)) x1) = 0 then (some (true, S)) else (k2 x1 (x3 + 1) S)))
def fX9_isListed_2 (N : Nat)  : Nat → Int64 → Int32 → St → Option (Bool × St)
  | 0 => fun _ _ _ => none
  | n + 1 => fun x1 x3 S => fX9_isListed_2b N  (fX9_isListed_2 N  n) x1 x3 S
set_option maxRecDepth 20000 in
theorem vX9_isListed_2b {p : Program} {l : Launch} {e : Env} {s : State} {m : MethodId} {args : Array Value} {below : List Frame} {meth : Method} {c : Code} {Q : State → Prop} {D : va_G} {ad : Nat → Nat} {cA : Nat → ClassId} (C : Ok p s m args c D cA (mW ad cA) (mA ad) mS RX9 cX9_isListed 4) (hr : Rt meth (some .boolean)) {r : Bool × St} (hQ : Q = MQ below (Qo D (mW ad cA) (mA ad) (some (.int (b2i r.1))) r.2) args s 0 0 (mA ad)) {N : Nat}  {k2 : Int64 → Int32 → St → Option (Bool × St)} (hk2 : ∀ (x1 : Int64) (x3 : Int32) (S : St), k2 x1 x3 S = some r → V p l e rmX9_isListed s m args below meth c Q D (mW ad cA) (mA ad) 4 S 2 [(0, .ref (ad 0)), (1, .long x1), (3, .int x3)] []) {x1 : Int64} {x3 : Int32}  {S : St} (hm : fX9_isListed_2b N  k2 x1 x3 S = some r) : V p l e rmX9_isListed s m args below meth c Q D (mW ad cA) (mA ad) 4 S 2 [(0, .ref (ad 0)), (1, .long x1), (3, .int x3)] [] := by
  unfold fX9_isListed_2b at hm
  refine v_iload_n C (pc := 2) 2 dX9_isListed_2 rfl rfl ?_
  refine v_aload_n C (pc := 3) 0 dX9_isListed_3 rfl rfl ?_
  refine gX9_288 C (pc := 4) dX9_isListed_4 ?_
  refine v_icmp_ge C (pc := 7) hm 29 dX9_isListed_7 rfl (fun hm => ?_) (fun hm => ?_)
  · refine v_iconst C (pc := 29) 0 dX9_isListed_29 rfl ?_
    exact v_zret C hr hQ (x := false) (pc := 30) hm dX9_isListed_30
  · refine v_aload_n C (pc := 10) 0 dX9_isListed_10 rfl rfl ?_
    refine gX9_97 C (pc := 11) dX9_isListed_11 ?_
    refine v_iload_n C (pc := 14) 2 dX9_isListed_14 rfl rfl ?_
    refine ldX9_listOf C (pc := 15) hm dX9_isListed_15 (fun hm => ?_)
    refine v_lload_n C (pc := 16) 1 dX9_isListed_16 rfl rfl ?_
    refine v_lcmp C (pc := 17) dX9_isListed_17 ?_
    refine v_if_ne C (pc := 18) hm 23 dX9_isListed_18 rfl (fun hm => ?_) (fun hm => ?_)
    · refine v_iinc C (pc := 23) 1 2 [(3, .int (x3 + 1)), (0, .ref (ad 0)), (1, .long x1)] dX9_isListed_23 rfl rfl (by decide) rfl ?_
      refine v_goto C (pc := 26) 2 dX9_isListed_26 rfl ?_
      exact v_sub [1, 2, 0] rfl (hk2 _ _ _ hm)
    · refine v_iconst C (pc := 21) 1 dX9_isListed_21 rfl ?_
      exact v_zret C hr hQ (x := true) (pc := 22) hm dX9_isListed_22
theorem vX9_isListed_2 {p : Program} {l : Launch} {e : Env} {s : State} {m : MethodId} {args : Array Value} {below : List Frame} {meth : Method} {c : Code} {Q : State → Prop} {D : va_G} {ad : Nat → Nat} {cA : Nat → ClassId} (C : Ok p s m args c D cA (mW ad cA) (mA ad) mS RX9 cX9_isListed 4) (hr : Rt meth (some .boolean)) {r : Bool × St} (hQ : Q = MQ below (Qo D (mW ad cA) (mA ad) (some (.int (b2i r.1))) r.2) args s 0 0 (mA ad)) {N : Nat}  (n : Nat) : ∀ (x1 : Int64) (x3 : Int32) (S : St), fX9_isListed_2 N  n x1 x3 S = some r → V p l e rmX9_isListed s m args below meth c Q D (mW ad cA) (mA ad) 4 S 2 [(0, .ref (ad 0)), (1, .long x1), (3, .int x3)] [] := by
  induction n with
  | zero => intro _ _ _  hm; exact absurd hm (by intro h; cases h)
  | succ n ih => intro _ _ _  hm; exact vX9_isListed_2b C hr hQ (N := N)   ih  hm
def fX9_isListed (N : Nat) (p1 : Int64) (S : St) : Option (Bool × St) := fX9_isListed_2 N N p1 0 S
set_option maxRecDepth 20000 in
theorem vX9_isListed {p : Program} {l : Launch} {e : Env} {s : State} {m : MethodId} {args : Array Value} {below : List Frame} {meth : Method} {c : Code} {Q : State → Prop} {D : va_G} {ad : Nat → Nat} {cA : Nat → ClassId} (C : Ok p s m args c D cA (mW ad cA) (mA ad) mS RX9 cX9_isListed 4) (hr : Rt meth (some .boolean)) {r : Bool × St} (hQ : Q = MQ below (Qo D (mW ad cA) (mA ad) (some (.int (b2i r.1))) r.2) args s 0 0 (mA ad)) {N : Nat} {p1 : Int64} {S : St} (hm : fX9_isListed N p1 S = some r) : V p l e rmX9_isListed s m args below meth c Q D (mW ad cA) (mA ad) 4 S 0 [(0, .ref (ad 0)), (1, .long p1)] [] := by
  unfold fX9_isListed at hm
  refine v_iconst C (pc := 0) 0 dX9_isListed_0 rfl ?_
  refine v_istore_n C (pc := 1) [(3, .int 0), (0, .ref (ad 0)), (1, .long p1)] dX9_isListed_1 rfl (by decide) rfl ?_
  exact v_sub [1, 2, 0] rfl (vX9_isListed_2 C hr hQ (N := N) N _ _ _ hm)
theorem mX9_isListed {l : Launch} {D : va_G} {ad : Nat → Nat} {cA : Nat → ClassId} (hD : ∀ S, va_D (mA ad) (mW ad cA S)) {N : Nat} {p1 : Int64} {S : St} {r : Bool × St} (hm : fX9_isListed N p1 S = some r) : Met l yX9_isListed (wsm yX9_isListed cX9_isListed 4 (some .boolean)) rmX9_isListed (va_Pc [.ref (ad 0), .long p1] (Pre D cA (mW ad cA) mS S)) (Qo D (mW ad cA) (mA ad) (some (.int (b2i r.1))) r.2) 0 0 (mA ad) := met_of [.ref (ad 0), .long p1] (by decide) (Nat.le_of_ble_eq_true rfl) hD (fun _ _ _ _ h => h) (fun _ _ _ _ h => h) (fun p e s m below meth c C hr => vX9_isListed C hr rfl (N := N)  hm)
-- X9_tries
theorem infX9_isListed : InfV yX9_isListed cX9_isListed 4 (some .boolean) 1 := ⟨⟨gm (i := 65) (by decide +kernel) rfl, gm (i := 1240) (by decide +kernel) rfl, by decide +kernel⟩, gm (i := 1239) (by decide +kernel) rfl, gm (i := 53) (by decide +kernel) rfl⟩
theorem kX9_291 {p : Program} {l : Launch} {e : Env} {R : Room} {s : State} {m : MethodId} {args : Array Value} {below : List Frame} {meth : Method} {c : Code} {Q : State → Prop} {D : va_G} {ad : Nat → Nat} {cA : Nat → ClassId} {cc : ByteArray} {nL : Nat} {S : St} {pc : Nat} {lv : List (Nat × Value)} {st : List Value} {ρ : Type} {res : ρ} (C : Ok p s m args c D cA (mW ad cA) (mA ad) mS RX9 cc nL) (hfr : rmX9_isListed.frames + 1 ≤ R.frames) (hlo : 8 + (4 + 11) + rmX9_isListed.locals ≤ R.locals) {N : Nat} {p1 : Int64} {E : Bool → St → Option ρ} (hm : bd (fX9_isListed N p1 S) E = some res) (hcat : (st.map fun v => v.category).sum ≤ 8) (hd : decode cc pc = .ok (.invokevirtual 291, 3)) (k : ∀ r S, E r S = some res → V p l e R s m args below meth c Q D (mW ad cA) (mA ad) nL S (pc + 3) lv (.int (b2i r) :: st)) : V p l e R s m args below meth c Q D (mW ad cA) (mA ad) nL S pc lv (.long p1 :: .ref (ad 0) :: st) := by
  obtain ⟨r, S1, h1, h2⟩ := bd_some hm
  exact v_callV C (gm (i := 1237) (by decide +kernel) rfl : Cond.methodLink RX9 291 yX9_isListed ∈ gw_tbl) infX9_isListed (rm2 := rmX9_isListed) ⟨rfl, rfl⟩ hfr hlo (mX9_isListed C.2.2.2.2.2.2.1 h1) (As := [.long p1]) (oX9 ad cA S) rfl rfl rfl rfl hcat hd (k r S1 h2)
def rmX9_tries : Room := { frames := 6, cells := 0, slots := 0, locals := 144 }
def fX9_tries_59 (N : Nat)   (S : St) : Option (Bool × St) := some (true, S)
set_option maxRecDepth 20000 in
theorem vX9_tries_59 {p : Program} {l : Launch} {e : Env} {s : State} {m : MethodId} {args : Array Value} {below : List Frame} {meth : Method} {c : Code} {Q : State → Prop} {D : va_G} {ad : Nat → Nat} {cA : Nat → ClassId} (C : Ok p s m args c D cA (mW ad cA) (mA ad) mS RX9 cX9_tries 8) (hr : Rt meth (some .boolean)) {r : Bool × St} (hQ : Q = MQ below (Qo D (mW ad cA) (mA ad) (some (.int (b2i r.1))) r.2) args s 0 0 (mA ad)) {N : Nat}    {S : St} (hm : fX9_tries_59 N   S = some r) : V p l e rmX9_tries s m args below meth c Q D (mW ad cA) (mA ad) 8 S 59 [] [] := by
  unfold fX9_tries_59 at hm
  refine v_iconst C (pc := 59) 1 dX9_tries_59 rfl ?_
  exact v_zret C hr hQ (x := true) (pc := 60) hm dX9_tries_60
def fX9_tries_166 (N : Nat)   (S : St) : Option (Bool × St) := some (true, S)
set_option maxRecDepth 20000 in
theorem vX9_tries_166 {p : Program} {l : Launch} {e : Env} {s : State} {m : MethodId} {args : Array Value} {below : List Frame} {meth : Method} {c : Code} {Q : State → Prop} {D : va_G} {ad : Nat → Nat} {cA : Nat → ClassId} (C : Ok p s m args c D cA (mW ad cA) (mA ad) mS RX9 cX9_tries 8) (hr : Rt meth (some .boolean)) {r : Bool × St} (hQ : Q = MQ below (Qo D (mW ad cA) (mA ad) (some (.int (b2i r.1))) r.2) args s 0 0 (mA ad)) {N : Nat}    {S : St} (hm : fX9_tries_166 N   S = some r) : V p l e rmX9_tries s m args below meth c Q D (mW ad cA) (mA ad) 8 S 166 [] [] := by
  unfold fX9_tries_166 at hm
  refine v_iconst C (pc := 166) 1 dX9_tries_166 rfl ?_
  exact v_zret C hr hQ (x := true) (pc := 167) hm dX9_tries_167
def fX9_tries_50 (N : Nat)  (x1 : Int32) (x2 : Int32) (x3 : Int32) (x4 : Int32) (x6 : Int64) (S : St) : Option (Bool × St) := bd (fX9_isListed N x6 S) fun r8 S15 => if (b2i r8) = 0 then (if (S15.1 10) = 1200 then (stp (sI S15 11 (-6)) fun S23 => some (false, S23)) else (ck (S15.1 10) 1200 (stp (sL S15 3 (Int32.toNatClampNeg (S15.1 10)) x6) fun S16 => ck (S16.1 10) 1200 (stp (sA S16 25 (Int32.toNatClampNeg (S16.1 10)) x1) fun S17 => ck (S17.1 10) 1200 (stp (sA S17 26 (Int32.toNatClampNeg (S17.1 10)) ((10 * x2) + x3)) fun S18 => ck x1 1200 (ck (S18.1 10) 1200 (stp (sA S18 27 (Int32.toNatClampNeg (S18.1 10)) ((S18.2.2.1 27 (Int32.toNatClampNeg x1)) + 1)) fun S19 => stp (sI S19 10 ((S19.1 10) + 1)) fun S20 => if x4 = 0 then (fX9_tries_166 N S20) else (bd (fX9_isSolvedNow N  S20) fun r9 S21 => if (b2i r9) = 0 then (fX9_tries_166 N S21) else (stp (sI S21 11 ((S21.1 10) - 1)) fun S22 => some (false, S22)))))))))) else (fX9_tries_59 N S15)
set_option maxRecDepth 20000 in
theorem vX9_tries_50 {p : Program} {l : Launch} {e : Env} {s : State} {m : MethodId} {args : Array Value} {below : List Frame} {meth : Method} {c : Code} {Q : State → Prop} {D : va_G} {ad : Nat → Nat} {cA : Nat → ClassId} (C : Ok p s m args c D cA (mW ad cA) (mA ad) mS RX9 cX9_tries 8) (hr : Rt meth (some .boolean)) {r : Bool × St} (hQ : Q = MQ below (Qo D (mW ad cA) (mA ad) (some (.int (b2i r.1))) r.2) args s 0 0 (mA ad)) {N : Nat}  {x1 : Int32} {x2 : Int32} {x3 : Int32} {x4 : Int32} {x6 : Int64}  {S : St} (hm : fX9_tries_50 N  x1 x2 x3 x4 x6 S = some r) : V p l e rmX9_tries s m args below meth c Q D (mW ad cA) (mA ad) 8 S 50 [(0, .ref (ad 0)), (1, .int x1), (2, .int x2), (3, .int x3), (4, .int x4), (6, .long x6)] [] := by
  unfold fX9_tries_50 at hm
  refine v_aload_n C (pc := 50) 0 dX9_tries_50 rfl rfl ?_
  refine v_lload C (pc := 51) 5 dX9_tries_51 rfl ?_
  refine kX9_291 C (Nat.le_of_ble_eq_true rfl) (Nat.le_of_ble_eq_true rfl) (pc := 53) hm (Nat.le_of_ble_eq_true rfl) dX9_tries_53 (fun r8 S15 hm => ?_)
  refine v_if_eq C (pc := 56) hm 61 dX9_tries_56 rfl (fun hm => ?_) (fun hm => ?_)
  · refine v_aload_n C (pc := 61) 0 dX9_tries_61 rfl rfl ?_
    refine gX9_288 C (pc := 62) dX9_tries_62 ?_
    refine v_sipush C (pc := 65) 1200 dX9_tries_65 rfl ?_
    refine v_icmp_ne C (pc := 68) hm 79 dX9_tries_68 rfl (fun hm => ?_) (fun hm => ?_)
    · refine v_aload_n C (pc := 79) 0 dX9_tries_79 rfl rfl ?_
      refine gX9_97 C (pc := 80) dX9_tries_80 ?_
      refine v_aload_n C (pc := 83) 0 dX9_tries_83 rfl rfl ?_
      refine gX9_288 C (pc := 84) dX9_tries_84 ?_
      refine v_lload C (pc := 87) 5 dX9_tries_87 rfl ?_
      refine stX9_listOf C (pc := 89) hm dX9_tries_89 (fun S16 hm => ?_)
      refine v_aload_n C (pc := 90) 0 dX9_tries_90 rfl rfl ?_
      refine gX9_100 C (pc := 91) dX9_tries_91 ?_
      refine v_aload_n C (pc := 94) 0 dX9_tries_94 rfl rfl ?_
      refine gX9_288 C (pc := 95) dX9_tries_95 ?_
      refine v_iload_n C (pc := 98) 1 dX9_tries_98 rfl rfl ?_
      refine stX9_cameFrom C (pc := 99) hm dX9_tries_99 (fun S17 hm => ?_)
      refine v_aload_n C (pc := 100) 0 dX9_tries_100 rfl rfl ?_
      refine gX9_103 C (pc := 101) dX9_tries_101 ?_
      refine v_aload_n C (pc := 104) 0 dX9_tries_104 rfl rfl ?_
      refine gX9_288 C (pc := 105) dX9_tries_105 ?_
      refine v_bipush C (pc := 108) 10 dX9_tries_108 rfl ?_
      refine v_iload_n C (pc := 110) 2 dX9_tries_110 rfl rfl ?_
      refine v_imul C (pc := 111) dX9_tries_111 ?_
      refine v_iload_n C (pc := 112) 3 dX9_tries_112 rfl rfl ?_
      refine v_iadd C (pc := 113) dX9_tries_113 ?_
      refine stX9_cameBy C (pc := 114) hm dX9_tries_114 (fun S18 hm => ?_)
      refine v_aload_n C (pc := 115) 0 dX9_tries_115 rfl rfl ?_
      refine gX9_106 C (pc := 116) dX9_tries_116 ?_
      refine v_aload_n C (pc := 119) 0 dX9_tries_119 rfl rfl ?_
      refine gX9_288 C (pc := 120) dX9_tries_120 ?_
      refine v_aload_n C (pc := 123) 0 dX9_tries_123 rfl rfl ?_
      refine gX9_106 C (pc := 124) dX9_tries_124 ?_
      refine v_iload_n C (pc := 127) 1 dX9_tries_127 rfl rfl ?_
      refine ldX9_stepsTo C (pc := 128) hm dX9_tries_128 (fun hm => ?_)
      refine v_iconst C (pc := 129) 1 dX9_tries_129 rfl ?_
      refine v_iadd C (pc := 130) dX9_tries_130 ?_
      refine stX9_stepsTo C (pc := 131) hm dX9_tries_131 (fun S19 hm => ?_)
      refine v_aload_n C (pc := 132) 0 dX9_tries_132 rfl rfl ?_
      refine v_dup C (pc := 133) dX9_tries_133 rfl ?_
      refine gX9_288 C (pc := 134) dX9_tries_134 ?_
      refine v_iconst C (pc := 137) 1 dX9_tries_137 rfl ?_
      refine v_iadd C (pc := 138) dX9_tries_138 ?_
      refine pX9_288 C (pc := 139) hm dX9_tries_139 (fun S20 hm => ?_)
      refine v_iload C (pc := 142) 4 dX9_tries_142 rfl ?_
      refine v_if_eq C (pc := 144) hm 166 dX9_tries_144 rfl (fun hm => ?_) (fun hm => ?_)
      · exact v_sub [] rfl (vX9_tries_166 C hr hQ (N := N) hm)
      · refine v_aload_n C (pc := 147) 0 dX9_tries_147 rfl rfl ?_
        refine kX9_285 C (Nat.le_of_ble_eq_true rfl) (Nat.le_of_ble_eq_true rfl) (pc := 148) hm (Nat.le_of_ble_eq_true rfl) dX9_tries_148 (fun r9 S21 hm => ?_)
        refine v_if_eq C (pc := 151) hm 166 dX9_tries_151 rfl (fun hm => ?_) (fun hm => ?_)
        · exact v_sub [] rfl (vX9_tries_166 C hr hQ (N := N) hm)
        · refine v_aload_n C (pc := 154) 0 dX9_tries_154 rfl rfl ?_
          refine v_aload_n C (pc := 155) 0 dX9_tries_155 rfl rfl ?_
          refine gX9_288 C (pc := 156) dX9_tries_156 ?_
          refine v_iconst C (pc := 159) 1 dX9_tries_159 rfl ?_
          refine v_isub C (pc := 160) dX9_tries_160 ?_
          refine pX9_295 C (pc := 161) hm dX9_tries_161 (fun S22 hm => ?_)
          refine v_iconst C (pc := 164) 0 dX9_tries_164 rfl ?_
          exact v_zret C hr hQ (x := false) (pc := 165) hm dX9_tries_165
    · refine v_aload_n C (pc := 71) 0 dX9_tries_71 rfl rfl ?_
      refine v_bipush C (pc := 72) (-6) dX9_tries_72 rfl ?_
      refine pX9_295 C (pc := 74) hm dX9_tries_74 (fun S23 hm => ?_)
      refine v_iconst C (pc := 77) 0 dX9_tries_77 rfl ?_
      exact v_zret C hr hQ (x := false) (pc := 78) hm dX9_tries_78
  · exact v_sub [] rfl (vX9_tries_59 C hr hQ (N := N) hm)
def fX9_tries (N : Nat) (p1 : Int32) (p2 : Int32) (p3 : Int32) (p4 : Int32) (S : St) : Option (Bool × St) := ck p1 1200 (bd (fX9_unpack N (S.2.2.2 3 (Int32.toNatClampNeg p1)) S) fun r10 S24 => bd (fX9_movedBy N p2 p3 S24) fun r11 S25 => if r11 = 0 then (some (true, S25)) else (bd (fX9_carryOut N r11 p3 S25) fun r12 S26 => bd (fX9_packed N  S26) fun r13 S27 => if p4 = 0 then (fX9_tries_50 N p1 p2 p3 p4 r13 S27) else (bd (fX9_isDeadNow N  S27) fun r14 S28 => if (b2i r14) = 0 then (fX9_tries_50 N p1 p2 p3 p4 r13 S28) else (fX9_tries_59 N S28))))
set_option maxRecDepth 20000 in
theorem vX9_tries {p : Program} {l : Launch} {e : Env} {s : State} {m : MethodId} {args : Array Value} {below : List Frame} {meth : Method} {c : Code} {Q : State → Prop} {D : va_G} {ad : Nat → Nat} {cA : Nat → ClassId} (C : Ok p s m args c D cA (mW ad cA) (mA ad) mS RX9 cX9_tries 8) (hr : Rt meth (some .boolean)) {r : Bool × St} (hQ : Q = MQ below (Qo D (mW ad cA) (mA ad) (some (.int (b2i r.1))) r.2) args s 0 0 (mA ad)) {N : Nat} {p1 : Int32} {p2 : Int32} {p3 : Int32} {p4 : Int32} {S : St} (hm : fX9_tries N p1 p2 p3 p4 S = some r) : V p l e rmX9_tries s m args below meth c Q D (mW ad cA) (mA ad) 8 S 0 [(0, .ref (ad 0)), (1, .int p1), (2, .int p2), (3, .int p3), (4, .int p4)] [] := by
  unfold fX9_tries at hm
  refine v_aload_n C (pc := 0) 0 dX9_tries_0 rfl rfl ?_
  refine v_aload_n C (pc := 1) 0 dX9_tries_1 rfl rfl ?_
  refine gX9_97 C (pc := 2) dX9_tries_2 ?_
  refine v_iload_n C (pc := 5) 1 dX9_tries_5 rfl rfl ?_
  refine ldX9_listOf C (pc := 6) hm dX9_tries_6 (fun hm => ?_)
  refine kX9_242 C (Nat.le_of_ble_eq_true rfl) (Nat.le_of_ble_eq_true rfl) (pc := 7) hm (Nat.le_of_ble_eq_true rfl) dX9_tries_7 (fun r10 S24 hm => ?_)
  refine v_aload_n C (pc := 10) 0 dX9_tries_10 rfl rfl ?_
  refine v_iload_n C (pc := 11) 2 dX9_tries_11 rfl rfl ?_
  refine v_iload_n C (pc := 12) 3 dX9_tries_12 rfl rfl ?_
  refine kX9_232 C (Nat.le_of_ble_eq_true rfl) (Nat.le_of_ble_eq_true rfl) (pc := 13) hm (Nat.le_of_ble_eq_true rfl) dX9_tries_13 (fun r11 S25 hm => ?_)
  refine v_istore C (pc := 16) [(5, .int r11), (0, .ref (ad 0)), (1, .int p1), (2, .int p2), (3, .int p3), (4, .int p4)] dX9_tries_16 (by decide) rfl ?_
  refine v_iload C (pc := 18) 0 dX9_tries_18 rfl ?_
  refine v_if_ne C (pc := 20) hm 25 dX9_tries_20 rfl (fun hm => ?_) (fun hm => ?_)
  · refine v_aload_n C (pc := 25) 1 dX9_tries_25 rfl rfl ?_
    refine v_iload C (pc := 26) 0 dX9_tries_26 rfl ?_
    refine v_iload_n C (pc := 28) 4 dX9_tries_28 rfl rfl ?_
    refine kX9_221 C (Nat.le_of_ble_eq_true rfl) (Nat.le_of_ble_eq_true rfl) (pc := 29) hm (Nat.le_of_ble_eq_true rfl) dX9_tries_29 (fun r12 S26 hm => ?_)
    refine v_aload_n C (pc := 32) 1 dX9_tries_32 rfl rfl ?_
    refine kX9_217 C (Nat.le_of_ble_eq_true rfl) (Nat.le_of_ble_eq_true rfl) (pc := 33) hm (Nat.le_of_ble_eq_true rfl) dX9_tries_33 (fun r13 S27 hm => ?_)
    refine v_lstore C (pc := 36) [(6, .long r13), (5, .int r11), (0, .ref (ad 0)), (1, .int p1), (2, .int p2), (3, .int p3), (4, .int p4)] dX9_tries_36 (by decide) rfl ?_
    refine v_iload C (pc := 38) 6 dX9_tries_38 rfl ?_
    refine v_if_eq C (pc := 40) hm 50 dX9_tries_40 rfl (fun hm => ?_) (fun hm => ?_)
    · exact v_sub [2, 3, 4, 5, 6, 0] rfl (vX9_tries_50 C hr hQ (N := N) hm)
    · refine v_aload_n C (pc := 43) 2 dX9_tries_43 rfl rfl ?_
      refine kX9_281 C (Nat.le_of_ble_eq_true rfl) (Nat.le_of_ble_eq_true rfl) (pc := 44) hm (Nat.le_of_ble_eq_true rfl) dX9_tries_44 (fun r14 S28 hm => ?_)
      refine v_if_ne C (pc := 47) hm 59 dX9_tries_47 rfl (fun hm => ?_) (fun hm => ?_)
      · exact v_sub [] rfl (vX9_tries_59 C hr hQ (N := N) hm)
      · exact v_sub [2, 3, 4, 5, 6, 0] rfl (vX9_tries_50 C hr hQ (N := N) hm)
  · refine v_iconst C (pc := 23) 1 dX9_tries_23 rfl ?_
    exact v_zret C hr hQ (x := true) (pc := 24) hm dX9_tries_24
theorem mX9_tries {l : Launch} {D : va_G} {ad : Nat → Nat} {cA : Nat → ClassId} (hD : ∀ S, va_D (mA ad) (mW ad cA S)) {N : Nat} {p1 : Int32} {p2 : Int32} {p3 : Int32} {p4 : Int32} {S : St} {r : Bool × St} (hm : fX9_tries N p1 p2 p3 p4 S = some r) : Met l yX9_tries (wsm yX9_tries cX9_tries 8 (some .boolean)) rmX9_tries (va_Pc [.ref (ad 0), .int p1, .int p2, .int p3, .int p4] (Pre D cA (mW ad cA) mS S)) (Qo D (mW ad cA) (mA ad) (some (.int (b2i r.1))) r.2) 0 0 (mA ad) := met_of [.ref (ad 0), .int p1, .int p2, .int p3, .int p4] (by decide) (Nat.le_of_ble_eq_true rfl) hD (fun _ _ _ _ h => h) (fun _ _ _ _ h => h) (fun p e s m below meth c C hr => vX9_tries C hr rfl (N := N)  hm)
-- X9_search
theorem infX9_tries : InfV yX9_tries cX9_tries 8 (some .boolean) 4 := ⟨⟨gm (i := 65) (by decide +kernel) rfl, gm (i := 1236) (by decide +kernel) rfl, by decide +kernel⟩, gm (i := 1235) (by decide +kernel) rfl, gm (i := 52) (by decide +kernel) rfl⟩
theorem kX9_298 {p : Program} {l : Launch} {e : Env} {R : Room} {s : State} {m : MethodId} {args : Array Value} {below : List Frame} {meth : Method} {c : Code} {Q : State → Prop} {D : va_G} {ad : Nat → Nat} {cA : Nat → ClassId} {cc : ByteArray} {nL : Nat} {S : St} {pc : Nat} {lv : List (Nat × Value)} {st : List Value} {ρ : Type} {res : ρ} (C : Ok p s m args c D cA (mW ad cA) (mA ad) mS RX9 cc nL) (hfr : rmX9_tries.frames + 1 ≤ R.frames) (hlo : 8 + (8 + 11) + rmX9_tries.locals ≤ R.locals) {N : Nat} {p1 : Int32} {p2 : Int32} {p3 : Int32} {p4 : Int32} {E : Bool → St → Option ρ} (hm : bd (fX9_tries N p1 p2 p3 p4 S) E = some res) (hcat : (st.map fun v => v.category).sum ≤ 8) (hd : decode cc pc = .ok (.invokevirtual 298, 3)) (k : ∀ r S, E r S = some res → V p l e R s m args below meth c Q D (mW ad cA) (mA ad) nL S (pc + 3) lv (.int (b2i r) :: st)) : V p l e R s m args below meth c Q D (mW ad cA) (mA ad) nL S pc lv (.int p4 :: .int p3 :: .int p2 :: .int p1 :: .ref (ad 0) :: st) := by
  obtain ⟨r, S1, h1, h2⟩ := bd_some hm
  exact v_callV C (gm (i := 1233) (by decide +kernel) rfl : Cond.methodLink RX9 298 yX9_tries ∈ gw_tbl) infX9_tries (rm2 := rmX9_tries) ⟨rfl, rfl⟩ hfr hlo (mX9_tries C.2.2.2.2.2.2.1 h1) (As := [.int p1, .int p2, .int p3, .int p4]) (oX9 ad cA S) rfl rfl rfl rfl hcat hd (k r S1 h2)
def rmX9_search : Room := { frames := 7, cells := 0, slots := 0, locals := 171 }
def fX9_search_114 (N : Nat) (k36 : Int32 → Int32 → Int64 → Bool → Int32 → St → Option (Unit × St)) (k64 : Int32 → Int32 → Int64 → Bool → Int32 → Int32 → St → Option (Unit × St)) (x1 : Int32) (x2 : Int32) (x3 : Int64) (x5 : Bool) (x6 : Int32) (x7 : Int32) (S : St) : Option (Unit × St) := k64 x1 x2 x3 x5 x6 (x7 + 1) S
set_option maxRecDepth 20000 in
theorem vX9_search_114 {p : Program} {l : Launch} {e : Env} {s : State} {m : MethodId} {args : Array Value} {below : List Frame} {meth : Method} {c : Code} {Q : State → Prop} {D : va_G} {ad : Nat → Nat} {cA : Nat → ClassId} (C : Ok p s m args c D cA (mW ad cA) (mA ad) mS RX9 cX9_search 9) (hr : Rt meth none) {r : Unit × St} (hQ : Q = MQ below (Qo D (mW ad cA) (mA ad) (none) r.2) args s 0 0 (mA ad)) {N : Nat} {k36 : Int32 → Int32 → Int64 → Bool → Int32 → St → Option (Unit × St)} (hk36 : ∀ (x1 : Int32) (x2 : Int32) (x3 : Int64) (x5 : Bool) (x6 : Int32) (S : St), k36 x1 x2 x3 x5 x6 S = some r → V p l e rmX9_search s m args below meth c Q D (mW ad cA) (mA ad) 9 S 36 [(0, .ref (ad 0)), (1, .int x1), (2, .int x2), (3, .long x3), (5, .int (b2i x5)), (6, .int x6)] []) {k64 : Int32 → Int32 → Int64 → Bool → Int32 → Int32 → St → Option (Unit × St)} (hk64 : ∀ (x1 : Int32) (x2 : Int32) (x3 : Int64) (x5 : Bool) (x6 : Int32) (x7 : Int32) (S : St), k64 x1 x2 x3 x5 x6 x7 S = some r → V p l e rmX9_search s m args below meth c Q D (mW ad cA) (mA ad) 9 S 64 [(0, .ref (ad 0)), (1, .int x1), (2, .int x2), (3, .long x3), (5, .int (b2i x5)), (6, .int x6), (7, .int x7)] []) {x1 : Int32} {x2 : Int32} {x3 : Int64} {x5 : Bool} {x6 : Int32} {x7 : Int32}  {S : St} (hm : fX9_search_114 N k36 k64 x1 x2 x3 x5 x6 x7 S = some r) : V p l e rmX9_search s m args below meth c Q D (mW ad cA) (mA ad) 9 S 114 [(0, .ref (ad 0)), (1, .int x1), (2, .int x2), (3, .long x3), (5, .int (b2i x5)), (6, .int x6), (7, .int x7)] [] := by
  unfold fX9_search_114 at hm
  refine v_iinc C (pc := 114) 1 6 [(7, .int (x7 + 1)), (0, .ref (ad 0)), (1, .int x1), (2, .int x2), (3, .long x3), (5, .int (b2i x5)), (6, .int x6)] dX9_search_114 rfl rfl (by decide) rfl ?_
  refine v_goto C (pc := 117) 64 dX9_search_117 rfl ?_
  exact v_sub [1, 2, 3, 4, 5, 6, 0] rfl (hk64 _ _ _ _ _ _ _ hm)
def fX9_search_73b (N : Nat) (k36 : Int32 → Int32 → Int64 → Bool → Int32 → St → Option (Unit × St)) (k64 : Int32 → Int32 → Int64 → Bool → Int32 → Int32 → St → Option (Unit × St)) (k73 : Int32 → Int32 → Int64 → Bool → Int32 → Int32 → Int32 → St → Option (Unit × St)) (x1 : Int32) (x2 : Int32) (x3 : Int64) (x5 : Bool) (x6 : Int32) (x7 : Int32) (x8 : Int32) (S : St) : Option (Unit × St) := if 6 ≤ x8 then (fX9_search_114 N k36 k64 x1 x2 x3 x5 x6 x7 S) else (ck x7 5 (if (S.2.2.1 2 (Int32.toNatClampNeg x7)) ≤ 0 then (fX9_search_114 N k36 k64 x1 x2 x3 x5 x6 x7 S) else (if (b2i x5) = 0 then (fX9_search_114 N k36 k64 x1 x2 x3 x5 x6 x7 S) else (bd (fX9_tries N x6 x7 x8 x1 S) fun r7 S11 => k73 x1 x2 x3 r7 x6 x7 (x8 + 1) S11))))
def fX9_search_73 (N : Nat) (k36 : Int32 → Int32 → Int64 → Bool → Int32 → St → Option (Unit × St)) (k64 : Int32 → Int32 → Int64 → Bool → Int32 → Int32 → St → Option (Unit × St)) : Nat → Int32 → Int32 → Int64 → Bool → Int32 → Int32 → Int32 → St → Option (Unit × St)
  | 0 => fun _ _ _ _ _ _ _ _ => none
  | n + 1 => fun x1 x2 x3 x5 x6 x7 x8 S => fX9_search_73b N k36 k64 (fX9_search_73 N k36 k64 n) x1 x2 x3 x5 x6 x7 x8 S
set_option maxRecDepth 20000 in
theorem vX9_search_73b {p : Program} {l : Launch} {e : Env} {s : State} {m : MethodId} {args : Array Value} {below : List Frame} {meth : Method} {c : Code} {Q : State → Prop} {D : va_G} {ad : Nat → Nat} {cA : Nat → ClassId} (C : Ok p s m args c D cA (mW ad cA) (mA ad) mS RX9 cX9_search 9) (hr : Rt meth none) {r : Unit × St} (hQ : Q = MQ below (Qo D (mW ad cA) (mA ad) (none) r.2) args s 0 0 (mA ad)) {N : Nat} {k36 : Int32 → Int32 → Int64 → Bool → Int32 → St → Option (Unit × St)} (hk36 : ∀ (x1 : Int32) (x2 : Int32) (x3 : Int64) (x5 : Bool) (x6 : Int32) (S : St), k36 x1 x2 x3 x5 x6 S = some r → V p l e rmX9_search s m args below meth c Q D (mW ad cA) (mA ad) 9 S 36 [(0, .ref (ad 0)), (1, .int x1), (2, .int x2), (3, .long x3), (5, .int (b2i x5)), (6, .int x6)] []) {k64 : Int32 → Int32 → Int64 → Bool → Int32 → Int32 → St → Option (Unit × St)} (hk64 : ∀ (x1 : Int32) (x2 : Int32) (x3 : Int64) (x5 : Bool) (x6 : Int32) (x7 : Int32) (S : St), k64 x1 x2 x3 x5 x6 x7 S = some r → V p l e rmX9_search s m args below meth c Q D (mW ad cA) (mA ad) 9 S 64 [(0, .ref (ad 0)), (1, .int x1), (2, .int x2), (3, .long x3), (5, .int (b2i x5)), (6, .int x6), (7, .int x7)] []) {k73 : Int32 → Int32 → Int64 → Bool → Int32 → Int32 → Int32 → St → Option (Unit × St)} (hk73 : ∀ (x1 : Int32) (x2 : Int32) (x3 : Int64) (x5 : Bool) (x6 : Int32) (x7 : Int32) (x8 : Int32) (S : St), k73 x1 x2 x3 x5 x6 x7 x8 S = some r → V p l e rmX9_search s m args below meth c Q D (mW ad cA) (mA ad) 9 S 73 [(0, .ref (ad 0)), (1, .int x1), (2, .int x2), (3, .long x3), (5, .int (b2i x5)), (6, .int x6), (7, .int x7), (8, .int x8)] []) {x1 : Int32} {x2 : Int32} {x3 : Int64} {x5 : Bool} {x6 : Int32} {x7 : Int32} {x8 : Int32}  {S : St} (hm : fX9_search_73b N k36 k64 k73 x1 x2 x3 x5 x6 x7 x8 S = some r) : V p l e rmX9_search s m args below meth c Q D (mW ad cA) (mA ad) 9 S 73 [(0, .ref (ad 0)), (1, .int x1), (2, .int x2), (3, .long x3), (5, .int (b2i x5)), (6, .int x6), (7, .int x7), (8, .int x8)] [] := by
  unfold fX9_search_73b at hm
  refine v_iload C (pc := 73) 7 dX9_search_73 rfl ?_
  refine v_bipush C (pc := 75) 6 dX9_search_75 rfl ?_
  refine v_icmp_ge C (pc := 77) hm 114 dX9_search_77 rfl (fun hm => ?_) (fun hm => ?_)
  · exact v_sub [0, 1, 2, 3, 4, 5, 6] rfl (vX9_search_114 C hr hQ (N := N) hk36 hk64 hm)
  · refine v_aload_n C (pc := 80) 0 dX9_search_80 rfl rfl ?_
    refine gX9_16 C (pc := 81) dX9_search_81 ?_
    refine v_iload C (pc := 84) 6 dX9_search_84 rfl ?_
    refine ldX9_cells C (pc := 86) hm dX9_search_86 (fun hm => ?_)
    refine v_if_le C (pc := 87) hm 114 dX9_search_87 rfl (fun hm => ?_) (fun hm => ?_)
    · exact v_sub [0, 1, 2, 3, 4, 5, 6] rfl (vX9_search_114 C hr hQ (N := N) hk36 hk64 hm)
    · refine v_iload C (pc := 90) 4 dX9_search_90 rfl ?_
      refine v_if_eq C (pc := 92) hm 114 dX9_search_92 rfl (fun hm => ?_) (fun hm => ?_)
      · exact v_sub [0, 1, 2, 3, 4, 5, 6] rfl (vX9_search_114 C hr hQ (N := N) hk36 hk64 hm)
      · refine v_aload_n C (pc := 95) 0 dX9_search_95 rfl rfl ?_
        refine v_iload C (pc := 96) 5 dX9_search_96 rfl ?_
        refine v_iload C (pc := 98) 6 dX9_search_98 rfl ?_
        refine v_iload C (pc := 100) 7 dX9_search_100 rfl ?_
        refine v_iload_n C (pc := 102) 1 dX9_search_102 rfl rfl ?_
        refine kX9_298 C (Nat.le_of_ble_eq_true rfl) (Nat.le_of_ble_eq_true rfl) (pc := 103) hm (Nat.le_of_ble_eq_true rfl) dX9_search_103 (fun r7 S11 hm => ?_)
        refine v_istore C (pc := 106) [(5, .int (b2i r7)), (0, .ref (ad 0)), (1, .int x1), (2, .int x2), (3, .long x3), (6, .int x6), (7, .int x7), (8, .int x8)] dX9_search_106 (by decide) rfl ?_
        refine v_iinc C (pc := 108) 1 7 [(8, .int (x8 + 1)), (5, .int (b2i r7)), (0, .ref (ad 0)), (1, .int x1), (2, .int x2), (3, .long x3), (6, .int x6), (7, .int x7)] dX9_search_108 rfl rfl (by decide) rfl ?_
        refine v_goto C (pc := 111) 73 dX9_search_111 rfl ?_
        exact v_sub [2, 3, 4, 5, 1, 6, 7, 0] rfl (hk73 _ _ _ _ _ _ _ _ hm)
theorem vX9_search_73 {p : Program} {l : Launch} {e : Env} {s : State} {m : MethodId} {args : Array Value} {below : List Frame} {meth : Method} {c : Code} {Q : State → Prop} {D : va_G} {ad : Nat → Nat} {cA : Nat → ClassId} (C : Ok p s m args c D cA (mW ad cA) (mA ad) mS RX9 cX9_search 9) (hr : Rt meth none) {r : Unit × St} (hQ : Q = MQ below (Qo D (mW ad cA) (mA ad) (none) r.2) args s 0 0 (mA ad)) {N : Nat} {k36 : Int32 → Int32 → Int64 → Bool → Int32 → St → Option (Unit × St)} (hk36 : ∀ (x1 : Int32) (x2 : Int32) (x3 : Int64) (x5 : Bool) (x6 : Int32) (S : St), k36 x1 x2 x3 x5 x6 S = some r → V p l e rmX9_search s m args below meth c Q D (mW ad cA) (mA ad) 9 S 36 [(0, .ref (ad 0)), (1, .int x1), (2, .int x2), (3, .long x3), (5, .int (b2i x5)), (6, .int x6)] []) {k64 : Int32 → Int32 → Int64 → Bool → Int32 → Int32 → St → Option (Unit × St)} (hk64 : ∀ (x1 : Int32) (x2 : Int32) (x3 : Int64) (x5 : Bool) (x6 : Int32) (x7 : Int32) (S : St), k64 x1 x2 x3 x5 x6 x7 S = some r → V p l e rmX9_search s m args below meth c Q D (mW ad cA) (mA ad) 9 S 64 [(0, .ref (ad 0)), (1, .int x1), (2, .int x2), (3, .long x3), (5, .int (b2i x5)), (6, .int x6), (7, .int x7)] []) (n : Nat) : ∀ (x1 : Int32) (x2 : Int32) (x3 : Int64) (x5 : Bool) (x6 : Int32) (x7 : Int32) (x8 : Int32) (S : St), fX9_search_73 N k36 k64 n x1 x2 x3 x5 x6 x7 x8 S = some r → V p l e rmX9_search s m args below meth c Q D (mW ad cA) (mA ad) 9 S 73 [(0, .ref (ad 0)), (1, .int x1), (2, .int x2), (3, .long x3), (5, .int (b2i x5)), (6, .int x6), (7, .int x7), (8, .int x8)] [] := by
  induction n with
  | zero => intro _ _ _ _ _ _ _ _  hm; exact absurd hm (by intro h; cases h)
  | succ n ih => intro _ _ _ _ _ _ _ _  hm; exact vX9_search_73b C hr hQ (N := N)  hk36 hk64 ih  hm
def fX9_search_64b (N : Nat) (k36 : Int32 → Int32 → Int64 → Bool → Int32 → St → Option (Unit × St)) (k64 : Int32 → Int32 → Int64 → Bool → Int32 → Int32 → St → Option (Unit × St)) (x1 : Int32) (x2 : Int32) (x3 : Int64) (x5 : Bool) (x6 : Int32) (x7 : Int32) (S : St) : Option (Unit × St) := if 5 ≤ x7 then (k36 x1 x2 x3 x5 (x6 + 1) S) else (fX9_search_73 N k36 k64 N x1 x2 x3 x5 x6 x7 0 S)
def fX9_search_64 (N : Nat) (k36 : Int32 → Int32 → Int64 → Bool → Int32 → St → Option (Unit × St)) : Nat → Int32 → Int32 → Int64 → Bool → Int32 → Int32 → St → Option (Unit × St)
  | 0 => fun _ _ _ _ _ _ _ => none
  | n + 1 => fun x1 x2 x3 x5 x6 x7 S => fX9_search_64b N k36 (fX9_search_64 N k36 n) x1 x2 x3 x5 x6 x7 S
set_option maxRecDepth 20000 in
theorem vX9_search_64b {p : Program} {l : Launch} {e : Env} {s : State} {m : MethodId} {args : Array Value} {below : List Frame} {meth : Method} {c : Code} {Q : State → Prop} {D : va_G} {ad : Nat → Nat} {cA : Nat → ClassId} (C : Ok p s m args c D cA (mW ad cA) (mA ad) mS RX9 cX9_search 9) (hr : Rt meth none) {r : Unit × St} (hQ : Q = MQ below (Qo D (mW ad cA) (mA ad) (none) r.2) args s 0 0 (mA ad)) {N : Nat} {k36 : Int32 → Int32 → Int64 → Bool → Int32 → St → Option (Unit × St)} (hk36 : ∀ (x1 : Int32) (x2 : Int32) (x3 : Int64) (x5 : Bool) (x6 : Int32) (S : St), k36 x1 x2 x3 x5 x6 S = some r → V p l e rmX9_search s m args below meth c Q D (mW ad cA) (mA ad) 9 S 36 [(0, .ref (ad 0)), (1, .int x1), (2, .int x2), (3, .long x3), (5, .int (b2i x5)), (6, .int x6)] []) {k64 : Int32 → Int32 → Int64 → Bool → Int32 → Int32 → St → Option (Unit × St)} (hk64 : ∀ (x1 : Int32) (x2 : Int32) (x3 : Int64) (x5 : Bool) (x6 : Int32) (x7 : Int32) (S : St), k64 x1 x2 x3 x5 x6 x7 S = some r → V p l e rmX9_search s m args below meth c Q D (mW ad cA) (mA ad) 9 S 64 [(0, .ref (ad 0)), (1, .int x1), (2, .int x2), (3, .long x3), (5, .int (b2i x5)), (6, .int x6), (7, .int x7)] []) {x1 : Int32} {x2 : Int32} {x3 : Int64} {x5 : Bool} {x6 : Int32} {x7 : Int32}  {S : St} (hm : fX9_search_64b N k36 k64 x1 x2 x3 x5 x6 x7 S = some r) : V p l e rmX9_search s m args below meth c Q D (mW ad cA) (mA ad) 9 S 64 [(0, .ref (ad 0)), (1, .int x1), (2, .int x2), (3, .long x3), (5, .int (b2i x5)), (6, .int x6), (7, .int x7)] [] := by
  unfold fX9_search_64b at hm
  refine v_iload C (pc := 64) 6 dX9_search_64 rfl ?_
  refine v_iconst C (pc := 66) 5 dX9_search_66 rfl ?_
  refine v_icmp_ge C (pc := 67) hm 120 dX9_search_67 rfl (fun hm => ?_) (fun hm => ?_)
  · refine v_iinc C (pc := 120) 1 5 [(6, .int (x6 + 1)), (0, .ref (ad 0)), (1, .int x1), (2, .int x2), (3, .long x3), (5, .int (b2i x5)), (7, .int x7)] dX9_search_120 rfl rfl (by decide) rfl ?_
    refine v_goto C (pc := 123) 36 dX9_search_123 rfl ?_
    exact v_sub [1, 2, 3, 4, 5, 0] rfl (hk36 _ _ _ _ _ _ hm)
  · refine v_iconst C (pc := 70) 0 dX9_search_70 rfl ?_
    refine v_istore C (pc := 71) [(8, .int 0), (0, .ref (ad 0)), (1, .int x1), (2, .int x2), (3, .long x3), (5, .int (b2i x5)), (6, .int x6), (7, .int x7)] dX9_search_71 (by decide) rfl ?_
    exact v_sub [1, 2, 3, 4, 5, 6, 7, 0] rfl (vX9_search_73 C hr hQ (N := N) hk36 hk64 N _ _ _ _ _ _ _ _ hm)
theorem vX9_search_64 {p : Program} {l : Launch} {e : Env} {s : State} {m : MethodId} {args : Array Value} {below : List Frame} {meth : Method} {c : Code} {Q : State → Prop} {D : va_G} {ad : Nat → Nat} {cA : Nat → ClassId} (C : Ok p s m args c D cA (mW ad cA) (mA ad) mS RX9 cX9_search 9) (hr : Rt meth none) {r : Unit × St} (hQ : Q = MQ below (Qo D (mW ad cA) (mA ad) (none) r.2) args s 0 0 (mA ad)) {N : Nat} {k36 : Int32 → Int32 → Int64 → Bool → Int32 → St → Option (Unit × St)} (hk36 : ∀ (x1 : Int32) (x2 : Int32) (x3 : Int64) (x5 : Bool) (x6 : Int32) (S : St), k36 x1 x2 x3 x5 x6 S = some r → V p l e rmX9_search s m args below meth c Q D (mW ad cA) (mA ad) 9 S 36 [(0, .ref (ad 0)), (1, .int x1), (2, .int x2), (3, .long x3), (5, .int (b2i x5)), (6, .int x6)] []) (n : Nat) : ∀ (x1 : Int32) (x2 : Int32) (x3 : Int64) (x5 : Bool) (x6 : Int32) (x7 : Int32) (S : St), fX9_search_64 N k36 n x1 x2 x3 x5 x6 x7 S = some r → V p l e rmX9_search s m args below meth c Q D (mW ad cA) (mA ad) 9 S 64 [(0, .ref (ad 0)), (1, .int x1), (2, .int x2), (3, .long x3), (5, .int (b2i x5)), (6, .int x6), (7, .int x7)] [] := by
  induction n with
  | zero => intro _ _ _ _ _ _ _  hm; exact absurd hm (by intro h; cases h)
  | succ n ih => intro _ _ _ _ _ _ _  hm; exact vX9_search_64b C hr hQ (N := N)  hk36 ih  hm
def fX9_search_126 (N : Nat)  (x3 : Int64) (S : St) : Option (Unit × St) := bd (fX9_unpack N x3 S) fun r8 S12 => some ((), S12)
set_option maxRecDepth 20000 in
theorem vX9_search_126 {p : Program} {l : Launch} {e : Env} {s : State} {m : MethodId} {args : Array Value} {below : List Frame} {meth : Method} {c : Code} {Q : State → Prop} {D : va_G} {ad : Nat → Nat} {cA : Nat → ClassId} (C : Ok p s m args c D cA (mW ad cA) (mA ad) mS RX9 cX9_search 9) (hr : Rt meth none) {r : Unit × St} (hQ : Q = MQ below (Qo D (mW ad cA) (mA ad) (none) r.2) args s 0 0 (mA ad)) {N : Nat}  {x3 : Int64}  {S : St} (hm : fX9_search_126 N  x3 S = some r) : V p l e rmX9_search s m args below meth c Q D (mW ad cA) (mA ad) 9 S 126 [(0, .ref (ad 0)), (3, .long x3)] [] := by
  unfold fX9_search_126 at hm
  refine v_aload_n C (pc := 126) 0 dX9_search_126 rfl rfl ?_
  refine v_lload_n C (pc := 127) 1 dX9_search_127 rfl rfl ?_
  refine kX9_242 C (Nat.le_of_ble_eq_true rfl) (Nat.le_of_ble_eq_true rfl) (pc := 128) hm (Nat.le_of_ble_eq_true rfl) dX9_search_128 (fun r8 S12 hm => ?_)
  exact v_vret C hr hQ (x := ()) (pc := 131) hm dX9_search_131
def fX9_search_36b (N : Nat)  (k36 : Int32 → Int32 → Int64 → Bool → Int32 → St → Option (Unit × St)) (x1 : Int32) (x2 : Int32) (x3 : Int64) (x5 : Bool) (x6 : Int32) (S : St) : Option (Unit × St) := if (S.1 10) ≤ x6 then (fX9_search_126 N x3 S) else (if (b2i x5) = 0 then (fX9_search_126 N x3 S) else (ck x6 1200 (if x2 ≤ (S.2.2.1 27 (Int32.toNatClampNeg x6)) then (fX9_search_126 N x3 S) else (fX9_search_64 N k36 N x1 x2 x3 x5 x6 0 S))))
def fX9_search_36 (N : Nat)  : Nat → Int32 → Int32 → Int64 → Bool → Int32 → St → Option (Unit × St)
  | 0 => fun _ _ _ _ _ _ => none
  | n + 1 => fun x1 x2 x3 x5 x6 S => fX9_search_36b N  (fX9_search_36 N  n) x1 x2 x3 x5 x6 S
set_option maxRecDepth 20000 in
theorem vX9_search_36b {p : Program} {l : Launch} {e : Env} {s : State} {m : MethodId} {args : Array Value} {below : List Frame} {meth : Method} {c : Code} {Q : State → Prop} {D : va_G} {ad : Nat → Nat} {cA : Nat → ClassId} (C : Ok p s m args c D cA (mW ad cA) (mA ad) mS RX9 cX9_search 9) (hr : Rt meth none) {r : Unit × St} (hQ : Q = MQ below (Qo D (mW ad cA) (mA ad) (none) r.2) args s 0 0 (mA ad)) {N : Nat}  {k36 : Int32 → Int32 → Int64 → Bool → Int32 → St → Option (Unit × St)} (hk36 : ∀ (x1 : Int32) (x2 : Int32) (x3 : Int64) (x5 : Bool) (x6 : Int32) (S : St), k36 x1 x2 x3 x5 x6 S = some r → V p l e rmX9_search s m args below meth c Q D (mW ad cA) (mA ad) 9 S 36 [(0, .ref (ad 0)), (1, .int x1), (2, .int x2), (3, .long x3), (5, .int (b2i x5)), (6, .int x6)] []) {x1 : Int32} {x2 : Int32} {x3 : Int64} {x5 : Bool} {x6 : Int32}  {S : St} (hm : fX9_search_36b N  k36 x1 x2 x3 x5 x6 S = some r) : V p l e rmX9_search s m args below meth c Q D (mW ad cA) (mA ad) 9 S 36 [(0, .ref (ad 0)), (1, .int x1), (2, .int x2), (3, .long x3), (5, .int (b2i x5)), (6, .int x6)] [] := by
  unfold fX9_search_36b at hm
  refine v_iload C (pc := 36) 5 dX9_search_36 rfl ?_
  refine v_aload_n C (pc := 38) 0 dX9_search_38 rfl rfl ?_
  refine gX9_288 C (pc := 39) dX9_search_39 ?_
  refine v_icmp_ge C (pc := 42) hm 126 dX9_search_42 rfl (fun hm => ?_) (fun hm => ?_)
  · exact v_sub [0, 3] rfl (vX9_search_126 C hr hQ (N := N) hm)
  · refine v_iload C (pc := 45) 4 dX9_search_45 rfl ?_
    refine v_if_eq C (pc := 47) hm 126 dX9_search_47 rfl (fun hm => ?_) (fun hm => ?_)
    · exact v_sub [0, 3] rfl (vX9_search_126 C hr hQ (N := N) hm)
    · refine v_aload_n C (pc := 50) 0 dX9_search_50 rfl rfl ?_
      refine gX9_106 C (pc := 51) dX9_search_51 ?_
      refine v_iload C (pc := 54) 5 dX9_search_54 rfl ?_
      refine ldX9_stepsTo C (pc := 56) hm dX9_search_56 (fun hm => ?_)
      refine v_iload_n C (pc := 57) 2 dX9_search_57 rfl rfl ?_
      refine v_icmp_ge C (pc := 58) hm 126 dX9_search_58 rfl (fun hm => ?_) (fun hm => ?_)
      · exact v_sub [0, 3] rfl (vX9_search_126 C hr hQ (N := N) hm)
      · refine v_iconst C (pc := 61) 0 dX9_search_61 rfl ?_
        refine v_istore C (pc := 62) [(7, .int 0), (0, .ref (ad 0)), (1, .int x1), (2, .int x2), (3, .long x3), (5, .int (b2i x5)), (6, .int x6)] dX9_search_62 (by decide) rfl ?_
        exact v_sub [1, 2, 3, 4, 5, 6, 0] rfl (vX9_search_64 C hr hQ (N := N) hk36 N _ _ _ _ _ _ _ hm)
theorem vX9_search_36 {p : Program} {l : Launch} {e : Env} {s : State} {m : MethodId} {args : Array Value} {below : List Frame} {meth : Method} {c : Code} {Q : State → Prop} {D : va_G} {ad : Nat → Nat} {cA : Nat → ClassId} (C : Ok p s m args c D cA (mW ad cA) (mA ad) mS RX9 cX9_search 9) (hr : Rt meth none) {r : Unit × St} (hQ : Q = MQ below (Qo D (mW ad cA) (mA ad) (none) r.2) args s 0 0 (mA ad)) {N : Nat}  (n : Nat) : ∀ (x1 : Int32) (x2 : Int32) (x3 : Int64) (x5 : Bool) (x6 : Int32) (S : St), fX9_search_36 N  n x1 x2 x3 x5 x6 S = some r → V p l e rmX9_search s m args below meth c Q D (mW ad cA) (mA ad) 9 S 36 [(0, .ref (ad 0)), (1, .int x1), (2, .int x2), (3, .long x3), (5, .int (b2i x5)), (6, .int x6)] [] := by
  induction n with
  | zero => intro _ _ _ _ _ _  hm; exact absurd hm (by intro h; cases h)
  | succ n ih => intro _ _ _ _ _ _  hm; exact vX9_search_36b C hr hQ (N := N)   ih  hm
def fX9_search (N : Nat) (p1 : Int32) (p2 : Int32) (S : St) : Option (Unit × St) := bd (fX9_packed N  S) fun r9 S13 => ck 0 1200 (stp (sL S13 3 (Int32.toNatClampNeg 0) r9) fun S14 => ck 0 1200 (stp (sA S14 27 (Int32.toNatClampNeg 0) 0) fun S15 => stp (sI S15 10 1) fun S16 => stp (sI S16 11 (-7)) fun S17 => fX9_search_36 N N p1 p2 r9 true 0 S17))
set_option maxRecDepth 20000 in
theorem vX9_search {p : Program} {l : Launch} {e : Env} {s : State} {m : MethodId} {args : Array Value} {below : List Frame} {meth : Method} {c : Code} {Q : State → Prop} {D : va_G} {ad : Nat → Nat} {cA : Nat → ClassId} (C : Ok p s m args c D cA (mW ad cA) (mA ad) mS RX9 cX9_search 9) (hr : Rt meth none) {r : Unit × St} (hQ : Q = MQ below (Qo D (mW ad cA) (mA ad) (none) r.2) args s 0 0 (mA ad)) {N : Nat} {p1 : Int32} {p2 : Int32} {S : St} (hm : fX9_search N p1 p2 S = some r) : V p l e rmX9_search s m args below meth c Q D (mW ad cA) (mA ad) 9 S 0 [(0, .ref (ad 0)), (1, .int p1), (2, .int p2)] [] := by
  unfold fX9_search at hm
  refine v_aload_n C (pc := 0) 0 dX9_search_0 rfl rfl ?_
  refine kX9_217 C (Nat.le_of_ble_eq_true rfl) (Nat.le_of_ble_eq_true rfl) (pc := 1) hm (Nat.le_of_ble_eq_true rfl) dX9_search_1 (fun r9 S13 hm => ?_)
  refine v_lstore_n C (pc := 4) [(3, .long r9), (0, .ref (ad 0)), (1, .int p1), (2, .int p2)] dX9_search_4 rfl (by decide) rfl ?_
  refine v_aload_n C (pc := 5) 1 dX9_search_5 rfl rfl ?_
  refine gX9_97 C (pc := 6) dX9_search_6 ?_
  refine v_iconst C (pc := 9) 0 dX9_search_9 rfl ?_
  refine v_lload_n C (pc := 10) 0 dX9_search_10 rfl rfl ?_
  refine stX9_listOf C (pc := 11) hm dX9_search_11 (fun S14 hm => ?_)
  refine v_aload_n C (pc := 12) 1 dX9_search_12 rfl rfl ?_
  refine gX9_106 C (pc := 13) dX9_search_13 ?_
  refine v_iconst C (pc := 16) 0 dX9_search_16 rfl ?_
  refine v_iconst C (pc := 17) 0 dX9_search_17 rfl ?_
  refine stX9_stepsTo C (pc := 18) hm dX9_search_18 (fun S15 hm => ?_)
  refine v_aload_n C (pc := 19) 1 dX9_search_19 rfl rfl ?_
  refine v_iconst C (pc := 20) 1 dX9_search_20 rfl ?_
  refine pX9_288 C (pc := 21) hm dX9_search_21 (fun S16 hm => ?_)
  refine v_aload_n C (pc := 24) 1 dX9_search_24 rfl rfl ?_
  refine v_bipush C (pc := 25) (-7) dX9_search_25 rfl ?_
  refine pX9_295 C (pc := 27) hm dX9_search_27 (fun S17 hm => ?_)
  refine v_iconst C (pc := 30) 1 dX9_search_30 rfl ?_
  refine v_istore C (pc := 31) [(5, .int 1), (3, .long r9), (0, .ref (ad 0)), (1, .int p1), (2, .int p2)] dX9_search_31 (by decide) rfl ?_
  refine v_iconst C (pc := 33) 0 dX9_search_33 rfl ?_
  refine v_istore C (pc := 34) [(6, .int 0), (5, .int 1), (3, .long r9), (0, .ref (ad 0)), (1, .int p1), (2, .int p2)] dX9_search_34 (by decide) rfl ?_
  exact v_sub [3, 4, 5, 2, 1, 0] rfl (vX9_search_36 C hr hQ (N := N) N _ _ _ _ _ _ hm)
theorem mX9_search {l : Launch} {D : va_G} {ad : Nat → Nat} {cA : Nat → ClassId} (hD : ∀ S, va_D (mA ad) (mW ad cA S)) {N : Nat} {p1 : Int32} {p2 : Int32} {S : St} {r : Unit × St} (hm : fX9_search N p1 p2 S = some r) : Met l yX9_search (wsm yX9_search cX9_search 9 none) rmX9_search (va_Pc [.ref (ad 0), .int p1, .int p2] (Pre D cA (mW ad cA) mS S)) (Qo D (mW ad cA) (mA ad) (none) r.2) 0 0 (mA ad) := met_of [.ref (ad 0), .int p1, .int p2] (by decide) (Nat.le_of_ble_eq_true rfl) hD (fun _ _ _ _ h => h) (fun _ _ _ _ h => h) (fun p e s m below meth c C hr => vX9_search C hr rfl (N := N)  hm)
-- X9_findSolution
theorem infX9_search : InfV yX9_search cX9_search 9 none 2 := ⟨⟨gm (i := 65) (by decide +kernel) rfl, gm (i := 1232) (by decide +kernel) rfl, by decide +kernel⟩, gm (i := 1231) (by decide +kernel) rfl, gm (i := 51) (by decide +kernel) rfl⟩
theorem kX9_302 {p : Program} {l : Launch} {e : Env} {R : Room} {s : State} {m : MethodId} {args : Array Value} {below : List Frame} {meth : Method} {c : Code} {Q : State → Prop} {D : va_G} {ad : Nat → Nat} {cA : Nat → ClassId} {cc : ByteArray} {nL : Nat} {S : St} {pc : Nat} {lv : List (Nat × Value)} {st : List Value} {ρ : Type} {res : ρ} (C : Ok p s m args c D cA (mW ad cA) (mA ad) mS RX9 cc nL) (hfr : rmX9_search.frames + 1 ≤ R.frames) (hlo : 8 + (9 + 11) + rmX9_search.locals ≤ R.locals) {N : Nat} {p1 : Int32} {p2 : Int32} {E : Unit → St → Option ρ} (hm : bd (fX9_search N p1 p2 S) E = some res) (hcat : (st.map fun v => v.category).sum ≤ 8) (hd : decode cc pc = .ok (.invokevirtual 302, 3)) (k : ∀ r S, E r S = some res → V p l e R s m args below meth c Q D (mW ad cA) (mA ad) nL S (pc + 3) lv (st)) : V p l e R s m args below meth c Q D (mW ad cA) (mA ad) nL S pc lv (.int p2 :: .int p1 :: .ref (ad 0) :: st) := by
  obtain ⟨r, S1, h1, h2⟩ := bd_some hm
  exact v_callV C (gm (i := 1229) (by decide +kernel) rfl : Cond.methodLink RX9 302 yX9_search ∈ gw_tbl) infX9_search (rm2 := rmX9_search) ⟨rfl, rfl⟩ hfr hlo (mX9_search C.2.2.2.2.2.2.1 h1) (As := [.int p1, .int p2]) (oX9 ad cA S) rfl rfl rfl rfl hcat hd (k r S1 h2)
def rmX9_findSolution : Room := { frames := 8, cells := 0, slots := 0, locals := 199 }
def fX9_findSolution (N : Nat)  (S : St) : Option (Unit × St) := bd (fX9_findAllFar N  S) fun r5 S8 => stp (sI S8 11 (-7)) fun S9 => bd (fX9_isDeadNow N  S9) fun r6 S10 => if (b2i r6) = 0 then (bd (fX9_isSolvedNow N  S10) fun r7 S11 => if (b2i r7) = 0 then (bd (fX9_search N 1 2000 S11) fun r8 S12 => some ((), S12)) else (ck 0 1200 (stp (sA S11 27 (Int32.toNatClampNeg 0) 0) fun S13 => stp (sI S13 11 0) fun S14 => some ((), S14)))) else (some ((), S10))
set_option maxRecDepth 20000 in
theorem vX9_findSolution {p : Program} {l : Launch} {e : Env} {s : State} {m : MethodId} {args : Array Value} {below : List Frame} {meth : Method} {c : Code} {Q : State → Prop} {D : va_G} {ad : Nat → Nat} {cA : Nat → ClassId} (C : Ok p s m args c D cA (mW ad cA) (mA ad) mS RX9 cX9_findSolution 1) (hr : Rt meth none) {r : Unit × St} (hQ : Q = MQ below (Qo D (mW ad cA) (mA ad) (none) r.2) args s 0 0 (mA ad)) {N : Nat}  {S : St} (hm : fX9_findSolution N  S = some r) : V p l e rmX9_findSolution s m args below meth c Q D (mW ad cA) (mA ad) 1 S 0 [(0, .ref (ad 0))] [] := by
  unfold fX9_findSolution at hm
  refine v_aload_n C (pc := 0) 0 dX9_findSolution_0 rfl rfl ?_
  refine kX9_278 C (Nat.le_of_ble_eq_true rfl) (Nat.le_of_ble_eq_true rfl) (pc := 1) hm (Nat.le_of_ble_eq_true rfl) dX9_findSolution_1 (fun r5 S8 hm => ?_)
  refine v_aload_n C (pc := 4) 0 dX9_findSolution_4 rfl rfl ?_
  refine v_bipush C (pc := 5) (-7) dX9_findSolution_5 rfl ?_
  refine pX9_295 C (pc := 7) hm dX9_findSolution_7 (fun S9 hm => ?_)
  refine v_aload_n C (pc := 10) 0 dX9_findSolution_10 rfl rfl ?_
  refine kX9_281 C (Nat.le_of_ble_eq_true rfl) (Nat.le_of_ble_eq_true rfl) (pc := 11) hm (Nat.le_of_ble_eq_true rfl) dX9_findSolution_11 (fun r6 S10 hm => ?_)
  refine v_if_eq C (pc := 14) hm 18 dX9_findSolution_14 rfl (fun hm => ?_) (fun hm => ?_)
  · refine v_aload_n C (pc := 18) 0 dX9_findSolution_18 rfl rfl ?_
    refine kX9_285 C (Nat.le_of_ble_eq_true rfl) (Nat.le_of_ble_eq_true rfl) (pc := 19) hm (Nat.le_of_ble_eq_true rfl) dX9_findSolution_19 (fun r7 S11 hm => ?_)
    refine v_if_eq C (pc := 22) hm 38 dX9_findSolution_22 rfl (fun hm => ?_) (fun hm => ?_)
    · refine v_aload_n C (pc := 38) 0 dX9_findSolution_38 rfl rfl ?_
      refine v_iconst C (pc := 39) 1 dX9_findSolution_39 rfl ?_
      refine v_sipush C (pc := 40) 2000 dX9_findSolution_40 rfl ?_
      refine kX9_302 C (Nat.le_of_ble_eq_true rfl) (Nat.le_of_ble_eq_true rfl) (pc := 43) hm (Nat.le_of_ble_eq_true rfl) dX9_findSolution_43 (fun r8 S12 hm => ?_)
      exact v_vret C hr hQ (x := ()) (pc := 46) hm dX9_findSolution_46
    · refine v_aload_n C (pc := 25) 0 dX9_findSolution_25 rfl rfl ?_
      refine gX9_106 C (pc := 26) dX9_findSolution_26 ?_
      refine v_iconst C (pc := 29) 0 dX9_findSolution_29 rfl ?_
      refine v_iconst C (pc := 30) 0 dX9_findSolution_30 rfl ?_
      refine stX9_stepsTo C (pc := 31) hm dX9_findSolution_31 (fun S13 hm => ?_)
      refine v_aload_n C (pc := 32) 0 dX9_findSolution_32 rfl rfl ?_
      refine v_iconst C (pc := 33) 0 dX9_findSolution_33 rfl ?_
      refine pX9_295 C (pc := 34) hm dX9_findSolution_34 (fun S14 hm => ?_)
      exact v_vret C hr hQ (x := ()) (pc := 37) hm dX9_findSolution_37
  · exact v_vret C hr hQ (x := ()) (pc := 17) hm dX9_findSolution_17
theorem mX9_findSolution {l : Launch} {D : va_G} {ad : Nat → Nat} {cA : Nat → ClassId} (hD : ∀ S, va_D (mA ad) (mW ad cA S)) {N : Nat}  {S : St} {r : Unit × St} (hm : fX9_findSolution N  S = some r) : Met l yX9_findSolution (wsm yX9_findSolution cX9_findSolution 1 none) rmX9_findSolution (va_Pc [.ref (ad 0)] (Pre D cA (mW ad cA) mS S)) (Qo D (mW ad cA) (mA ad) (none) r.2) 0 0 (mA ad) := met_of [.ref (ad 0)] (by decide) (Nat.le_of_ble_eq_true rfl) hD (fun _ _ _ _ h => h) (fun _ _ _ _ h => h) (fun p e s m below meth c C hr => vX9_findSolution C hr rfl (N := N)  hm)
-- X9_solve
theorem infX9_findSolution : InfV yX9_findSolution cX9_findSolution 1 none 0 := ⟨⟨gm (i := 65) (by decide +kernel) rfl, gm (i := 1228) (by decide +kernel) rfl, by decide +kernel⟩, gm (i := 1227) (by decide +kernel) rfl, gm (i := 50) (by decide +kernel) rfl⟩
theorem kX9_306 {p : Program} {l : Launch} {e : Env} {R : Room} {s : State} {m : MethodId} {args : Array Value} {below : List Frame} {meth : Method} {c : Code} {Q : State → Prop} {D : va_G} {ad : Nat → Nat} {cA : Nat → ClassId} {cc : ByteArray} {nL : Nat} {S : St} {pc : Nat} {lv : List (Nat × Value)} {st : List Value} {ρ : Type} {res : ρ} (C : Ok p s m args c D cA (mW ad cA) (mA ad) mS RX9 cc nL) (hfr : rmX9_findSolution.frames + 1 ≤ R.frames) (hlo : 8 + (1 + 11) + rmX9_findSolution.locals ≤ R.locals) {N : Nat}  {E : Unit → St → Option ρ} (hm : bd (fX9_findSolution N  S) E = some res) (hcat : (st.map fun v => v.category).sum ≤ 8) (hd : decode cc pc = .ok (.invokevirtual 306, 3)) (k : ∀ r S, E r S = some res → V p l e R s m args below meth c Q D (mW ad cA) (mA ad) nL S (pc + 3) lv (st)) : V p l e R s m args below meth c Q D (mW ad cA) (mA ad) nL S pc lv (.ref (ad 0) :: st) := by
  obtain ⟨r, S1, h1, h2⟩ := bd_some hm
  exact v_callV C (gm (i := 1225) (by decide +kernel) rfl : Cond.methodLink RX9 306 yX9_findSolution ∈ gw_tbl) infX9_findSolution (rm2 := rmX9_findSolution) ⟨rfl, rfl⟩ hfr hlo (mX9_findSolution C.2.2.2.2.2.2.1 h1) (As := []) (oX9 ad cA S) rfl rfl rfl rfl hcat hd (k r S1 h2)
def rmX9_solve : Room := { frames := 9, cells := 0, slots := 0, locals := 219 }
def fX9_solve_27 (N : Nat)  (s0 : Int32) (S : St) : Option (Int32 × St) := some (s0, S)
set_option maxRecDepth 20000 in
theorem vX9_solve_27 {p : Program} {l : Launch} {e : Env} {s : State} {m : MethodId} {args : Array Value} {below : List Frame} {meth : Method} {c : Code} {Q : State → Prop} {D : va_G} {ad : Nat → Nat} {cA : Nat → ClassId} (C : Ok p s m args c D cA (mW ad cA) (mA ad) mS RX9 cX9_solve 1) (hr : Rt meth (some .int)) {r : Int32 × St} (hQ : Q = MQ below (Qo D (mW ad cA) (mA ad) (some (.int r.1)) r.2) args s 0 0 (mA ad)) {N : Nat}  {s0 : Int32}  {S : St} (hm : fX9_solve_27 N  s0 S = some r) : V p l e rmX9_solve s m args below meth c Q D (mW ad cA) (mA ad) 1 S 27 [] [.int s0] := by
  unfold fX9_solve_27 at hm
  exact v_iret C hr hQ (pc := 27) hm dX9_solve_27
def fX9_solve (N : Nat)  (S : St) : Option (Int32 × St) := bd (fX9_findSolution N  S) fun r2 S2 => if 0 ≤ (S2.1 11) then (ck (S2.1 11) 1200 (fX9_solve_27 N (S2.2.2.1 27 (Int32.toNatClampNeg (S2.1 11))) S2)) else (fX9_solve_27 N (S2.1 11) S2)
set_option maxRecDepth 20000 in
theorem vX9_solve {p : Program} {l : Launch} {e : Env} {s : State} {m : MethodId} {args : Array Value} {below : List Frame} {meth : Method} {c : Code} {Q : State → Prop} {D : va_G} {ad : Nat → Nat} {cA : Nat → ClassId} (C : Ok p s m args c D cA (mW ad cA) (mA ad) mS RX9 cX9_solve 1) (hr : Rt meth (some .int)) {r : Int32 × St} (hQ : Q = MQ below (Qo D (mW ad cA) (mA ad) (some (.int r.1)) r.2) args s 0 0 (mA ad)) {N : Nat}  {S : St} (hm : fX9_solve N  S = some r) : V p l e rmX9_solve s m args below meth c Q D (mW ad cA) (mA ad) 1 S 0 [(0, .ref (ad 0))] [] := by
  unfold fX9_solve at hm
  refine v_aload_n C (pc := 0) 0 dX9_solve_0 rfl rfl ?_
  refine kX9_306 C (Nat.le_of_ble_eq_true rfl) (Nat.le_of_ble_eq_true rfl) (pc := 1) hm (Nat.le_of_ble_eq_true rfl) dX9_solve_1 (fun r2 S2 hm => ?_)
  refine v_aload_n C (pc := 4) 0 dX9_solve_4 rfl rfl ?_
  refine gX9_295 C (pc := 5) dX9_solve_5 ?_
  refine v_if_ge C (pc := 8) hm 18 dX9_solve_8 rfl (fun hm => ?_) (fun hm => ?_)
  · refine v_aload_n C (pc := 18) 0 dX9_solve_18 rfl rfl ?_
    refine gX9_106 C (pc := 19) dX9_solve_19 ?_
    refine v_aload_n C (pc := 22) 0 dX9_solve_22 rfl rfl ?_
    refine gX9_295 C (pc := 23) dX9_solve_23 ?_
    refine ldX9_stepsTo C (pc := 26) hm dX9_solve_26 (fun hm => ?_)
    exact v_sub [] rfl (vX9_solve_27 C hr hQ (N := N) hm)
  · refine v_aload_n C (pc := 11) 0 dX9_solve_11 rfl rfl ?_
    refine gX9_295 C (pc := 12) dX9_solve_12 ?_
    refine v_goto C (pc := 15) 27 dX9_solve_15 rfl ?_
    exact v_sub [] rfl (vX9_solve_27 C hr hQ (N := N) hm)
theorem mX9_solve {l : Launch} {D : va_G} {ad : Nat → Nat} {cA : Nat → ClassId} (hD : ∀ S, va_D (mA ad) (mW ad cA S)) {N : Nat}  {S : St} {r : Int32 × St} (hm : fX9_solve N  S = some r) : Met l yX9_solve (wsm yX9_solve cX9_solve 1 (some .int)) rmX9_solve (va_Pc [.ref (ad 0)] (Pre D cA (mW ad cA) mS S)) (Qo D (mW ad cA) (mA ad) (some (.int r.1)) r.2) 0 0 (mA ad) := met_of [.ref (ad 0)] (by decide) (Nat.le_of_ble_eq_true rfl) hD (fun _ _ _ _ h => h) (fun _ _ _ _ h => h) (fun p e s m below meth c C hr => vX9_solve C hr rfl (N := N)  hm)
-- X9_solution
def rmX9_solution : Room := { frames := 9, cells := 0, slots := 0, locals := 219 }
def fX9_solution_44b (N : Nat)  (k44 : Int32 → Int32 → St → Option (Int32 × St)) (x1 : Int32) (x2 : Int32) (S : St) : Option (Int32 × St) := ck x2 1200 (if (S.2.2.1 27 (Int32.toNatClampNeg x2)) ≤ (x1 + 1) then (ck x2 1200 (some ((S.2.2.1 26 (Int32.toNatClampNeg x2)), S))) else (ck x2 1200 (nm (S.2.2.1 25 (Int32.toNatClampNeg x2)) fun y4 => k44 x1 y4 S)))
def fX9_solution_44 (N : Nat)  : Nat → Int32 → Int32 → St → Option (Int32 × St)
  | 0 => fun _ _ _ => none
  | n + 1 => fun x1 x2 S => fX9_solution_44b N  (fX9_solution_44 N  n) x1 x2 S
set_option maxRecDepth 20000 in
theorem vX9_solution_44b {p : Program} {l : Launch} {e : Env} {s : State} {m : MethodId} {args : Array Value} {below : List Frame} {meth : Method} {c : Code} {Q : State → Prop} {D : va_G} {ad : Nat → Nat} {cA : Nat → ClassId} (C : Ok p s m args c D cA (mW ad cA) (mA ad) mS RX9 cX9_solution 3) (hr : Rt meth (some .int)) {r : Int32 × St} (hQ : Q = MQ below (Qo D (mW ad cA) (mA ad) (some (.int r.1)) r.2) args s 0 0 (mA ad)) {N : Nat}  {k44 : Int32 → Int32 → St → Option (Int32 × St)} (hk44 : ∀ (x1 : Int32) (x2 : Int32) (S : St), k44 x1 x2 S = some r → V p l e rmX9_solution s m args below meth c Q D (mW ad cA) (mA ad) 3 S 44 [(0, .ref (ad 0)), (1, .int x1), (2, .int x2)] []) {x1 : Int32} {x2 : Int32}  {S : St} (hm : fX9_solution_44b N  k44 x1 x2 S = some r) : V p l e rmX9_solution s m args below meth c Q D (mW ad cA) (mA ad) 3 S 44 [(0, .ref (ad 0)), (1, .int x1), (2, .int x2)] [] := by
  unfold fX9_solution_44b at hm
  refine v_aload_n C (pc := 44) 0 dX9_solution_44 rfl rfl ?_
  refine gX9_106 C (pc := 45) dX9_solution_45 ?_
  refine v_iload_n C (pc := 48) 2 dX9_solution_48 rfl rfl ?_
  refine ldX9_stepsTo C (pc := 49) hm dX9_solution_49 (fun hm => ?_)
  refine v_iload_n C (pc := 50) 1 dX9_solution_50 rfl rfl ?_
  refine v_iconst C (pc := 51) 1 dX9_solution_51 rfl ?_
  refine v_iadd C (pc := 52) dX9_solution_52 ?_
  refine v_icmp_le C (pc := 53) hm 66 dX9_solution_53 rfl (fun hm => ?_) (fun hm => ?_)
  · refine v_aload_n C (pc := 66) 0 dX9_solution_66 rfl rfl ?_
    refine gX9_103 C (pc := 67) dX9_solution_67 ?_
    refine v_iload_n C (pc := 70) 2 dX9_solution_70 rfl rfl ?_
    refine ldX9_cameBy C (pc := 71) hm dX9_solution_71 (fun hm => ?_)
    exact v_iret C hr hQ (pc := 72) hm dX9_solution_72
  · refine v_aload_n C (pc := 56) 0 dX9_solution_56 rfl rfl ?_
    refine gX9_100 C (pc := 57) dX9_solution_57 ?_
    refine v_iload_n C (pc := 60) 2 dX9_solution_60 rfl rfl ?_
    refine ldX9_cameFrom C (pc := 61) hm dX9_solution_61 (fun hm => ?_)
    refine v_istore_nN C (pc := 62) [(0, .ref (ad 0)), (1, .int x1)] hm dX9_solution_62 rfl (by decide) rfl (fun y4 hm => ?_)
    refine v_goto C (pc := 63) 44 dX9_solution_63 rfl ?_
    exact v_sub [1, 2, 0] rfl (hk44 _ _ _ hm)
theorem vX9_solution_44 {p : Program} {l : Launch} {e : Env} {s : State} {m : MethodId} {args : Array Value} {below : List Frame} {meth : Method} {c : Code} {Q : State → Prop} {D : va_G} {ad : Nat → Nat} {cA : Nat → ClassId} (C : Ok p s m args c D cA (mW ad cA) (mA ad) mS RX9 cX9_solution 3) (hr : Rt meth (some .int)) {r : Int32 × St} (hQ : Q = MQ below (Qo D (mW ad cA) (mA ad) (some (.int r.1)) r.2) args s 0 0 (mA ad)) {N : Nat}  (n : Nat) : ∀ (x1 : Int32) (x2 : Int32) (S : St), fX9_solution_44 N  n x1 x2 S = some r → V p l e rmX9_solution s m args below meth c Q D (mW ad cA) (mA ad) 3 S 44 [(0, .ref (ad 0)), (1, .int x1), (2, .int x2)] [] := by
  induction n with
  | zero => intro _ _ _  hm; exact absurd hm (by intro h; cases h)
  | succ n ih => intro _ _ _  hm; exact vX9_solution_44b C hr hQ (N := N)   ih  hm
def fX9_solution (N : Nat) (p1 : Int32) (S : St) : Option (Int32 × St) := if 0 ≤ p1 then (bd (fX9_findSolution N  S) fun r5 S2 => if 0 ≤ (S2.1 11) then (ck (S2.1 11) 1200 (if p1 < (S2.2.2.1 27 (Int32.toNatClampNeg (S2.1 11))) then (nm (S2.1 11) fun y6 => fX9_solution_44 N N p1 y6 S2) else (some ((-7), S2)))) else (some ((S2.1 11), S2))) else (some ((-3), S))
set_option maxRecDepth 20000 in
theorem vX9_solution {p : Program} {l : Launch} {e : Env} {s : State} {m : MethodId} {args : Array Value} {below : List Frame} {meth : Method} {c : Code} {Q : State → Prop} {D : va_G} {ad : Nat → Nat} {cA : Nat → ClassId} (C : Ok p s m args c D cA (mW ad cA) (mA ad) mS RX9 cX9_solution 3) (hr : Rt meth (some .int)) {r : Int32 × St} (hQ : Q = MQ below (Qo D (mW ad cA) (mA ad) (some (.int r.1)) r.2) args s 0 0 (mA ad)) {N : Nat} {p1 : Int32} {S : St} (hm : fX9_solution N p1 S = some r) : V p l e rmX9_solution s m args below meth c Q D (mW ad cA) (mA ad) 3 S 0 [(0, .ref (ad 0)), (1, .int p1)] [] := by
  unfold fX9_solution at hm
  refine v_iload_n C (pc := 0) 1 dX9_solution_0 rfl rfl ?_
  refine v_if_ge C (pc := 1) hm 7 dX9_solution_1 rfl (fun hm => ?_) (fun hm => ?_)
  · refine v_aload_n C (pc := 7) 0 dX9_solution_7 rfl rfl ?_
    refine kX9_306 C (Nat.le_of_ble_eq_true rfl) (Nat.le_of_ble_eq_true rfl) (pc := 8) hm (Nat.le_of_ble_eq_true rfl) dX9_solution_8 (fun r5 S2 hm => ?_)
    refine v_aload_n C (pc := 11) 0 dX9_solution_11 rfl rfl ?_
    refine gX9_295 C (pc := 12) dX9_solution_12 ?_
    refine v_if_ge C (pc := 15) hm 23 dX9_solution_15 rfl (fun hm => ?_) (fun hm => ?_)
    · refine v_iload_n C (pc := 23) 1 dX9_solution_23 rfl rfl ?_
      refine v_aload_n C (pc := 24) 0 dX9_solution_24 rfl rfl ?_
      refine gX9_106 C (pc := 25) dX9_solution_25 ?_
      refine v_aload_n C (pc := 28) 0 dX9_solution_28 rfl rfl ?_
      refine gX9_295 C (pc := 29) dX9_solution_29 ?_
      refine ldX9_stepsTo C (pc := 32) hm dX9_solution_32 (fun hm => ?_)
      refine v_icmp_lt C (pc := 33) hm 39 dX9_solution_33 rfl (fun hm => ?_) (fun hm => ?_)
      · refine v_aload_n C (pc := 39) 0 dX9_solution_39 rfl rfl ?_
        refine gX9_295 C (pc := 40) dX9_solution_40 ?_
        refine v_istore_nN C (pc := 43) [(0, .ref (ad 0)), (1, .int p1)] hm dX9_solution_43 rfl (by decide) rfl (fun y6 hm => ?_)
        exact v_sub [1, 2, 0] rfl (vX9_solution_44 C hr hQ (N := N) N _ _ _ hm)
      · refine v_bipush C (pc := 36) (-7) dX9_solution_36 rfl ?_
        exact v_iret C hr hQ (pc := 38) hm dX9_solution_38
    · refine v_aload_n C (pc := 18) 0 dX9_solution_18 rfl rfl ?_
      refine gX9_295 C (pc := 19) dX9_solution_19 ?_
      exact v_iret C hr hQ (pc := 22) hm dX9_solution_22
  · refine v_bipush C (pc := 4) (-3) dX9_solution_4 rfl ?_
    exact v_iret C hr hQ (pc := 6) hm dX9_solution_6
theorem mX9_solution {l : Launch} {D : va_G} {ad : Nat → Nat} {cA : Nat → ClassId} (hD : ∀ S, va_D (mA ad) (mW ad cA S)) {N : Nat} {p1 : Int32} {S : St} {r : Int32 × St} (hm : fX9_solution N p1 S = some r) : Met l yX9_solution (wsm yX9_solution cX9_solution 3 (some .int)) rmX9_solution (va_Pc [.ref (ad 0), .int p1] (Pre D cA (mW ad cA) mS S)) (Qo D (mW ad cA) (mA ad) (some (.int r.1)) r.2) 0 0 (mA ad) := met_of [.ref (ad 0), .int p1] (by decide) (Nat.le_of_ble_eq_true rfl) hD (fun _ _ _ _ h => h) (fun _ _ _ _ h => h) (fun p e s m below meth c C hr => vX9_solution C hr rfl (N := N)  hm)
