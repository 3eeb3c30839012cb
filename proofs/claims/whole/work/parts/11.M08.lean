-- X9_goRound
def rmX9_goRound : Room := { frames := 0, cells := 0, slots := 0, locals := 0 }
def fX9_goRound_104 (N : Nat)  (s0 : Int32) (S : St) : Option (Unit × St) := stp (sI S 6 s0) fun S4 => some ((), S4)
set_option maxRecDepth 20000 in
theorem vX9_goRound_104 {p : Program} {l : Launch} {e : Env} {s : State} {m : MethodId} {args : Array Value} {below : List Frame} {meth : Method} {c : Code} {Q : State → Prop} {D : va_G} {ad : Nat → Nat} {cA : Nat → ClassId} (C : Ok p s m args c D cA (mW ad cA) (mA ad) mS RX9 cX9_goRound 4) (hr : Rt meth none) {r : Unit × St} (hQ : Q = MQ below (Qo D (mW ad cA) (mA ad) (none) r.2) args s 0 0 (mA ad)) {N : Nat}  {s0 : Int32}  {S : St} (hm : fX9_goRound_104 N  s0 S = some r) : V p l e rmX9_goRound s m args below meth c Q D (mW ad cA) (mA ad) 4 S 104 [] [.int s0, .ref (ad 0)] := by
  unfold fX9_goRound_104 at hm
  refine pX9_188 C (pc := 104) hm dX9_goRound_104 (fun S4 hm => ?_)
  exact v_vret C hr hQ (x := ()) (pc := 107) hm dX9_goRound_107
def fX9_goRound_93 (N : Nat)  (x2 : Int32) (x3 : Int32) (S : St) : Option (Unit × St) := if x2 = 0 then (fX9_goRound_104 N (-x3) S) else (fX9_goRound_104 N x3 S)
set_option maxRecDepth 20000 in
theorem vX9_goRound_93 {p : Program} {l : Launch} {e : Env} {s : State} {m : MethodId} {args : Array Value} {below : List Frame} {meth : Method} {c : Code} {Q : State → Prop} {D : va_G} {ad : Nat → Nat} {cA : Nat → ClassId} (C : Ok p s m args c D cA (mW ad cA) (mA ad) mS RX9 cX9_goRound 4) (hr : Rt meth none) {r : Unit × St} (hQ : Q = MQ below (Qo D (mW ad cA) (mA ad) (none) r.2) args s 0 0 (mA ad)) {N : Nat}  {x2 : Int32} {x3 : Int32}  {S : St} (hm : fX9_goRound_93 N  x2 x3 S = some r) : V p l e rmX9_goRound s m args below meth c Q D (mW ad cA) (mA ad) 4 S 93 [(0, .ref (ad 0)), (2, .int x2), (3, .int x3)] [] := by
  unfold fX9_goRound_93 at hm
  refine v_aload_n C (pc := 93) 0 dX9_goRound_93 rfl rfl ?_
  refine v_iload_n C (pc := 94) 1 dX9_goRound_94 rfl rfl ?_
  refine v_if_eq C (pc := 95) hm 102 dX9_goRound_95 rfl (fun hm => ?_) (fun hm => ?_)
  · refine v_iload_n C (pc := 102) 2 dX9_goRound_102 rfl rfl ?_
    refine v_ineg C (pc := 103) dX9_goRound_103 ?_
    exact v_sub [] rfl (vX9_goRound_104 C hr hQ (N := N) hm)
  · refine v_iload_n C (pc := 98) 2 dX9_goRound_98 rfl rfl ?_
    refine v_goto C (pc := 99) 104 dX9_goRound_99 rfl ?_
    exact v_sub [] rfl (vX9_goRound_104 C hr hQ (N := N) hm)
def fX9_goRound_83 (N : Nat)  (x2 : Int32) (x3 : Int32) (S : St) : Option (Unit × St) := stp (sI S 7 ((S.1 7) - 1)) fun S6 => fX9_goRound_93 N x2 x3 S6
set_option maxRecDepth 20000 in
theorem vX9_goRound_83 {p : Program} {l : Launch} {e : Env} {s : State} {m : MethodId} {args : Array Value} {below : List Frame} {meth : Method} {c : Code} {Q : State → Prop} {D : va_G} {ad : Nat → Nat} {cA : Nat → ClassId} (C : Ok p s m args c D cA (mW ad cA) (mA ad) mS RX9 cX9_goRound 4) (hr : Rt meth none) {r : Unit × St} (hQ : Q = MQ below (Qo D (mW ad cA) (mA ad) (none) r.2) args s 0 0 (mA ad)) {N : Nat}  {x2 : Int32} {x3 : Int32}  {S : St} (hm : fX9_goRound_83 N  x2 x3 S = some r) : V p l e rmX9_goRound s m args below meth c Q D (mW ad cA) (mA ad) 4 S 83 [(0, .ref (ad 0)), (2, .int x2), (3, .int x3)] [] := by
  unfold fX9_goRound_83 at hm
  refine v_aload_n C (pc := 83) 0 dX9_goRound_83 rfl rfl ?_
  refine v_dup C (pc := 84) dX9_goRound_84 rfl ?_
  refine gX9_191 C (pc := 85) dX9_goRound_85 ?_
  refine v_iconst C (pc := 88) 1 dX9_goRound_88 rfl ?_
  refine v_isub C (pc := 89) dX9_goRound_89 ?_
  refine pX9_191 C (pc := 90) hm dX9_goRound_90 (fun S6 hm => ?_)
  exact (vX9_goRound_93 C hr hQ (N := N) hm)
def fX9_goRound_63 (N : Nat)  (x1 : Int32) (x2 : Int32) (x3 : Int32) (S : St) : Option (Unit × St) := if (S.1 7) = x1 then (if x3 ≤ (-x1) then (fX9_goRound_83 N x2 x3 S) else (fX9_goRound_93 N x2 (x3 + (-1)) S)) else (fX9_goRound_83 N x2 x3 S)
set_option maxRecDepth 20000 in
theorem vX9_goRound_63 {p : Program} {l : Launch} {e : Env} {s : State} {m : MethodId} {args : Array Value} {below : List Frame} {meth : Method} {c : Code} {Q : State → Prop} {D : va_G} {ad : Nat → Nat} {cA : Nat → ClassId} (C : Ok p s m args c D cA (mW ad cA) (mA ad) mS RX9 cX9_goRound 4) (hr : Rt meth none) {r : Unit × St} (hQ : Q = MQ below (Qo D (mW ad cA) (mA ad) (none) r.2) args s 0 0 (mA ad)) {N : Nat}  {x1 : Int32} {x2 : Int32} {x3 : Int32}  {S : St} (hm : fX9_goRound_63 N  x1 x2 x3 S = some r) : V p l e rmX9_goRound s m args below meth c Q D (mW ad cA) (mA ad) 4 S 63 [(0, .ref (ad 0)), (1, .int x1), (2, .int x2), (3, .int x3)] [] := by
  unfold fX9_goRound_63 at hm
  refine v_aload_n C (pc := 63) 0 dX9_goRound_63 rfl rfl ?_
  refine gX9_191 C (pc := 64) dX9_goRound_64 ?_
  refine v_iload_n C (pc := 67) 1 dX9_goRound_67 rfl rfl ?_
  refine v_icmp_ne C (pc := 68) hm 83 dX9_goRound_68 rfl (fun hm => ?_) (fun hm => ?_)
  · exact v_sub [0, 2, 3] rfl (vX9_goRound_83 C hr hQ (N := N) hm)
  · refine v_iload_n C (pc := 71) 3 dX9_goRound_71 rfl rfl ?_
    refine v_iload_n C (pc := 72) 1 dX9_goRound_72 rfl rfl ?_
    refine v_ineg C (pc := 73) dX9_goRound_73 ?_
    refine v_icmp_le C (pc := 74) hm 83 dX9_goRound_74 rfl (fun hm => ?_) (fun hm => ?_)
    · exact v_sub [0, 2, 3] rfl (vX9_goRound_83 C hr hQ (N := N) hm)
    · refine v_iinc C (pc := 77) (-1) 3 [(3, .int (x3 + (-1))), (0, .ref (ad 0)), (1, .int x1), (2, .int x2)] dX9_goRound_77 rfl rfl (by decide) rfl ?_
      refine v_goto C (pc := 80) 93 dX9_goRound_80 rfl ?_
      exact v_sub [1, 3, 0] rfl (vX9_goRound_93 C hr hQ (N := N) hm)
def fX9_goRound_37 (N : Nat)  (x1 : Int32) (x2 : Int32) (x3 : Int32) (S : St) : Option (Unit × St) := if x3 = x1 then (if x1 ≤ (S.1 7) then (fX9_goRound_63 N x1 x2 x3 S) else (stp (sI S 7 ((S.1 7) + 1)) fun S5 => fX9_goRound_93 N x2 x3 S5)) else (fX9_goRound_63 N x1 x2 x3 S)
set_option maxRecDepth 20000 in
theorem vX9_goRound_37 {p : Program} {l : Launch} {e : Env} {s : State} {m : MethodId} {args : Array Value} {below : List Frame} {meth : Method} {c : Code} {Q : State → Prop} {D : va_G} {ad : Nat → Nat} {cA : Nat → ClassId} (C : Ok p s m args c D cA (mW ad cA) (mA ad) mS RX9 cX9_goRound 4) (hr : Rt meth none) {r : Unit × St} (hQ : Q = MQ below (Qo D (mW ad cA) (mA ad) (none) r.2) args s 0 0 (mA ad)) {N : Nat}  {x1 : Int32} {x2 : Int32} {x3 : Int32}  {S : St} (hm : fX9_goRound_37 N  x1 x2 x3 S = some r) : V p l e rmX9_goRound s m args below meth c Q D (mW ad cA) (mA ad) 4 S 37 [(0, .ref (ad 0)), (1, .int x1), (2, .int x2), (3, .int x3)] [] := by
  unfold fX9_goRound_37 at hm
  refine v_iload_n C (pc := 37) 3 dX9_goRound_37 rfl rfl ?_
  refine v_iload_n C (pc := 38) 1 dX9_goRound_38 rfl rfl ?_
  refine v_icmp_ne C (pc := 39) hm 63 dX9_goRound_39 rfl (fun hm => ?_) (fun hm => ?_)
  · exact (vX9_goRound_63 C hr hQ (N := N) hm)
  · refine v_aload_n C (pc := 42) 0 dX9_goRound_42 rfl rfl ?_
    refine gX9_191 C (pc := 43) dX9_goRound_43 ?_
    refine v_iload_n C (pc := 46) 1 dX9_goRound_46 rfl rfl ?_
    refine v_icmp_ge C (pc := 47) hm 63 dX9_goRound_47 rfl (fun hm => ?_) (fun hm => ?_)
    · exact (vX9_goRound_63 C hr hQ (N := N) hm)
    · refine v_aload_n C (pc := 50) 0 dX9_goRound_50 rfl rfl ?_
      refine v_dup C (pc := 51) dX9_goRound_51 rfl ?_
      refine gX9_191 C (pc := 52) dX9_goRound_52 ?_
      refine v_iconst C (pc := 55) 1 dX9_goRound_55 rfl ?_
      refine v_iadd C (pc := 56) dX9_goRound_56 ?_
      refine pX9_191 C (pc := 57) hm dX9_goRound_57 (fun S5 hm => ?_)
      refine v_goto C (pc := 60) 93 dX9_goRound_60 rfl ?_
      exact v_sub [0, 2, 3] rfl (vX9_goRound_93 C hr hQ (N := N) hm)
def fX9_goRound_16 (N : Nat)  (s0 : Int32) (x1 : Int32) (x2 : Int32) (S : St) : Option (Unit × St) := if (S.1 7) = (-x1) then (if x1 ≤ s0 then (fX9_goRound_37 N x1 x2 s0 S) else (fX9_goRound_93 N x2 (s0 + 1) S)) else (fX9_goRound_37 N x1 x2 s0 S)
set_option maxRecDepth 20000 in
theorem vX9_goRound_16 {p : Program} {l : Launch} {e : Env} {s : State} {m : MethodId} {args : Array Value} {below : List Frame} {meth : Method} {c : Code} {Q : State → Prop} {D : va_G} {ad : Nat → Nat} {cA : Nat → ClassId} (C : Ok p s m args c D cA (mW ad cA) (mA ad) mS RX9 cX9_goRound 4) (hr : Rt meth none) {r : Unit × St} (hQ : Q = MQ below (Qo D (mW ad cA) (mA ad) (none) r.2) args s 0 0 (mA ad)) {N : Nat}  {s0 : Int32} {x1 : Int32} {x2 : Int32}  {S : St} (hm : fX9_goRound_16 N  s0 x1 x2 S = some r) : V p l e rmX9_goRound s m args below meth c Q D (mW ad cA) (mA ad) 4 S 16 [(0, .ref (ad 0)), (1, .int x1), (2, .int x2)] [.int s0] := by
  unfold fX9_goRound_16 at hm
  refine v_istore_n C (pc := 16) [(3, .int s0), (0, .ref (ad 0)), (1, .int x1), (2, .int x2)] dX9_goRound_16 rfl (by decide) rfl ?_
  refine v_aload_n C (pc := 17) 1 dX9_goRound_17 rfl rfl ?_
  refine gX9_191 C (pc := 18) dX9_goRound_18 ?_
  refine v_iload_n C (pc := 21) 2 dX9_goRound_21 rfl rfl ?_
  refine v_ineg C (pc := 22) dX9_goRound_22 ?_
  refine v_icmp_ne C (pc := 23) hm 37 dX9_goRound_23 rfl (fun hm => ?_) (fun hm => ?_)
  · exact v_sub [1, 2, 3, 0] rfl (vX9_goRound_37 C hr hQ (N := N) hm)
  · refine v_iload_n C (pc := 26) 0 dX9_goRound_26 rfl rfl ?_
    refine v_iload_n C (pc := 27) 2 dX9_goRound_27 rfl rfl ?_
    refine v_icmp_ge C (pc := 28) hm 37 dX9_goRound_28 rfl (fun hm => ?_) (fun hm => ?_)
    · exact v_sub [1, 2, 3, 0] rfl (vX9_goRound_37 C hr hQ (N := N) hm)
    · refine v_iinc C (pc := 31) 1 0 [(3, .int (s0 + 1)), (0, .ref (ad 0)), (1, .int x1), (2, .int x2)] dX9_goRound_31 rfl rfl (by decide) rfl ?_
      refine v_goto C (pc := 34) 93 dX9_goRound_34 rfl ?_
      exact v_sub [1, 3, 0] rfl (vX9_goRound_93 C hr hQ (N := N) hm)
def fX9_goRound (N : Nat) (p1 : Int32) (p2 : Int32) (S : St) : Option (Unit × St) := if p2 = 0 then (fX9_goRound_16 N (-(S.1 6)) p1 p2 S) else (fX9_goRound_16 N (S.1 6) p1 p2 S)
set_option maxRecDepth 20000 in
theorem vX9_goRound {p : Program} {l : Launch} {e : Env} {s : State} {m : MethodId} {args : Array Value} {below : List Frame} {meth : Method} {c : Code} {Q : State → Prop} {D : va_G} {ad : Nat → Nat} {cA : Nat → ClassId} (C : Ok p s m args c D cA (mW ad cA) (mA ad) mS RX9 cX9_goRound 4) (hr : Rt meth none) {r : Unit × St} (hQ : Q = MQ below (Qo D (mW ad cA) (mA ad) (none) r.2) args s 0 0 (mA ad)) {N : Nat} {p1 : Int32} {p2 : Int32} {S : St} (hm : fX9_goRound N p1 p2 S = some r) : V p l e rmX9_goRound s m args below meth c Q D (mW ad cA) (mA ad) 4 S 0 [(0, .ref (ad 0)), (1, .int p1), (2, .int p2)] [] := by
  unfold fX9_goRound at hm
  refine v_iload_n C (pc := 0) 2 dX9_goRound_0 rfl rfl ?_
  refine v_if_eq C (pc := 1) hm 11 dX9_goRound_1 rfl (fun hm => ?_) (fun hm => ?_)
  · refine v_aload_n C (pc := 11) 0 dX9_goRound_11 rfl rfl ?_
    refine gX9_188 C (pc := 12) dX9_goRound_12 ?_
    refine v_ineg C (pc := 15) dX9_goRound_15 ?_
    exact (vX9_goRound_16 C hr hQ (N := N) hm)
  · refine v_aload_n C (pc := 4) 0 dX9_goRound_4 rfl rfl ?_
    refine gX9_188 C (pc := 5) dX9_goRound_5 ?_
    refine v_goto C (pc := 8) 16 dX9_goRound_8 rfl ?_
    exact (vX9_goRound_16 C hr hQ (N := N) hm)
theorem mX9_goRound {l : Launch} {D : va_G} {ad : Nat → Nat} {cA : Nat → ClassId} (hD : ∀ S, va_D (mA ad) (mW ad cA S)) {N : Nat} {p1 : Int32} {p2 : Int32} {S : St} {r : Unit × St} (hm : fX9_goRound N p1 p2 S = some r) : Met l yX9_goRound (wsm yX9_goRound cX9_goRound 4 none) rmX9_goRound (va_Pc [.ref (ad 0), .int p1, .int p2] (Pre D cA (mW ad cA) mS S)) (Qo D (mW ad cA) (mA ad) (none) r.2) 0 0 (mA ad) := met_of [.ref (ad 0), .int p1, .int p2] (by decide) (Nat.le_of_ble_eq_true rfl) hD (fun _ _ _ _ h => h) (fun _ _ _ _ h => h) (fun p e s m below meth c C hr => vX9_goRound C hr rfl (N := N)  hm)
-- X9_absolute
def rmX9_absolute : Room := { frames := 0, cells := 0, slots := 0, locals := 0 }
def fX9_absolute_10 (N : Nat)  (s0 : Int32) (S : St) : Option (Int32 × St) := some (s0, S)
set_option maxRecDepth 20000 in
theorem vX9_absolute_10 {p : Program} {l : Launch} {e : Env} {s : State} {m : MethodId} {args : Array Value} {below : List Frame} {meth : Method} {c : Code} {Q : State → Prop} {D : va_G} {ad : Nat → Nat} {cA : Nat → ClassId} (C : Ok p s m args c D cA (mW ad cA) (mA ad) mS RX9 cX9_absolute 1) (hr : Rt meth (some .int)) {r : Int32 × St} (hQ : Q = MQ below (Qo D (mW ad cA) (mA ad) (some (.int r.1)) r.2) args s 0 0 (mA ad)) {N : Nat}  {s0 : Int32}  {S : St} (hm : fX9_absolute_10 N  s0 S = some r) : V p l e rmX9_absolute s m args below meth c Q D (mW ad cA) (mA ad) 1 S 10 [] [.int s0] := by
  unfold fX9_absolute_10 at hm
  exact v_iret C hr hQ (pc := 10) hm dX9_absolute_10
def fX9_absolute (N : Nat) (p1 : Int32) (S : St) : Option (Int32 × St) := if 0 ≤ p1 then (fX9_absolute_10 N p1 S) else (fX9_absolute_10 N (-p1) S)
set_option maxRecDepth 20000 in
theorem vX9_absolute {p : Program} {l : Launch} {e : Env} {s : State} {m : MethodId} {args : Array Value} {below : List Frame} {meth : Method} {c : Code} {Q : State → Prop} {D : va_G} {ad : Nat → Nat} {cA : Nat → ClassId} (C : Ok p s m args c D cA (mW ad cA) (mA ad) mS RX9 cX9_absolute 1) (hr : Rt meth (some .int)) {r : Int32 × St} (hQ : Q = MQ below (Qo D (mW ad cA) (mA ad) (some (.int r.1)) r.2) args s 0 0 (mA ad)) {N : Nat} {p1 : Int32} {S : St} (hm : fX9_absolute N p1 S = some r) : V p l e rmX9_absolute s m args below meth c Q D (mW ad cA) (mA ad) 1 S 0 [(0, .int p1)] [] := by
  unfold fX9_absolute at hm
  refine v_iload_n C (pc := 0) 0 dX9_absolute_0 rfl rfl ?_
  refine v_if_ge C (pc := 1) hm 9 dX9_absolute_1 rfl (fun hm => ?_) (fun hm => ?_)
  · refine v_iload_n C (pc := 9) 0 dX9_absolute_9 rfl rfl ?_
    exact v_sub [] rfl (vX9_absolute_10 C hr hQ (N := N) hm)
  · refine v_iload_n C (pc := 4) 0 dX9_absolute_4 rfl rfl ?_
    refine v_ineg C (pc := 5) dX9_absolute_5 ?_
    refine v_goto C (pc := 6) 10 dX9_absolute_6 rfl ?_
    exact v_sub [] rfl (vX9_absolute_10 C hr hQ (N := N) hm)
theorem mX9_absolute {l : Launch} {D : va_G} {ad : Nat → Nat} {cA : Nat → ClassId} (hD : ∀ S, va_D (mA ad) (mW ad cA S)) {N : Nat} {p1 : Int32} {S : St} {r : Int32 × St} (hm : fX9_absolute N p1 S = some r) : Met l yX9_absolute (wsm yX9_absolute cX9_absolute 1 (some .int)) rmX9_absolute (va_Pc [.int p1] (Pre D cA (mW ad cA) mS S)) (Qo D (mW ad cA) (mA ad) (some (.int r.1)) r.2) 0 0 (mA ad) := met_of [.int p1] (by decide) (Nat.le_of_ble_eq_true rfl) hD (fun _ _ _ _ h => h) (fun _ _ _ _ h => h) (fun p e s m below meth c C hr => vX9_absolute C hr rfl (N := N)  hm)
-- X9_mayTurn
theorem infX9_absolute : InfS yX9_absolute cX9_absolute 1 (some .int) 1 := ⟨⟨gm (i := 65) (by decide +kernel) rfl, gm (i := 1034) (by decide +kernel) rfl, by decide +kernel⟩, gm (i := 1033) (by decide +kernel) rfl⟩
theorem kX9_194 {p : Program} {l : Launch} {e : Env} {R : Room} {s : State} {m : MethodId} {args : Array Value} {below : List Frame} {meth : Method} {c : Code} {Q : State → Prop} {D : va_G} {ad : Nat → Nat} {cA : Nat → ClassId} {cc : ByteArray} {nL : Nat} {S : St} {pc : Nat} {lv : List (Nat × Value)} {st : List Value} {ρ : Type} {res : ρ} (C : Ok p s m args c D cA (mW ad cA) (mA ad) mS RX9 cc nL) (hfr : rmX9_absolute.frames + 1 ≤ R.frames) (hlo : 8 + (1 + 11) + rmX9_absolute.locals ≤ R.locals) {N : Nat} {p1 : Int32} {E : Int32 → St → Option ρ} (hm : bd (fX9_absolute N p1 S) E = some res) (hcat : (st.map fun v => v.category).sum ≤ 8) (hd : decode cc pc = .ok (.invokestatic 194, 3)) (k : ∀ r S, E r S = some res → V p l e R s m args below meth c Q D (mW ad cA) (mA ad) nL S (pc + 3) lv (.int r :: st)) : V p l e R s m args below meth c Q D (mW ad cA) (mA ad) nL S pc lv (.int p1 :: st) := by
  obtain ⟨r, S1, h1, h2⟩ := bd_some hm
  exact v_callS C (gm (i := 1032) (by decide +kernel) rfl : Cond.methodLink RX9 194 yX9_absolute ∈ gw_tbl) infX9_absolute (rm2 := rmX9_absolute) ⟨rfl, rfl⟩ hfr hlo (mX9_absolute C.2.2.2.2.2.2.1 h1) (As := [.int p1]) rfl rfl hcat hd (k r S1 h2)
theorem infX9_goRound : InfV yX9_goRound cX9_goRound 4 none 2 := ⟨⟨gm (i := 65) (by decide +kernel) rfl, gm (i := 1038) (by decide +kernel) rfl, by decide +kernel⟩, gm (i := 1037) (by decide +kernel) rfl, gm (i := 32) (by decide +kernel) rfl⟩
theorem kX9_197 {p : Program} {l : Launch} {e : Env} {R : Room} {s : State} {m : MethodId} {args : Array Value} {below : List Frame} {meth : Method} {c : Code} {Q : State → Prop} {D : va_G} {ad : Nat → Nat} {cA : Nat → ClassId} {cc : ByteArray} {nL : Nat} {S : St} {pc : Nat} {lv : List (Nat × Value)} {st : List Value} {ρ : Type} {res : ρ} (C : Ok p s m args c D cA (mW ad cA) (mA ad) mS RX9 cc nL) (hfr : rmX9_goRound.frames + 1 ≤ R.frames) (hlo : 8 + (4 + 11) + rmX9_goRound.locals ≤ R.locals) {N : Nat} {p1 : Int32} {p2 : Int32} {E : Unit → St → Option ρ} (hm : bd (fX9_goRound N p1 p2 S) E = some res) (hcat : (st.map fun v => v.category).sum ≤ 8) (hd : decode cc pc = .ok (.invokevirtual 197, 3)) (k : ∀ r S, E r S = some res → V p l e R s m args below meth c Q D (mW ad cA) (mA ad) nL S (pc + 3) lv (st)) : V p l e R s m args below meth c Q D (mW ad cA) (mA ad) nL S pc lv (.int p2 :: .int p1 :: .ref (ad 0) :: st) := by
  obtain ⟨r, S1, h1, h2⟩ := bd_some hm
  exact v_callV C (gm (i := 1035) (by decide +kernel) rfl : Cond.methodLink RX9 197 yX9_goRound ∈ gw_tbl) infX9_goRound (rm2 := rmX9_goRound) ⟨rfl, rfl⟩ hfr hlo (mX9_goRound C.2.2.2.2.2.2.1 h1) (As := [.int p1, .int p2]) (oX9 ad cA S) rfl rfl rfl rfl hcat hd (k r S1 h2)
def rmX9_mayTurn : Room := { frames := 3, cells := 0, slots := 0, locals := 68 }
def fX9_mayTurn_210 (N : Nat)   (S : St) : Option (Bool × St) := some (false, S)
set_option maxRecDepth 20000 in
theorem vX9_mayTurn_210 {p : Program} {l : Launch} {e : Env} {s : State} {m : MethodId} {args : Array Value} {below : List Frame} {meth : Method} {c : Code} {Q : State → Prop} {D : va_G} {ad : Nat → Nat} {cA : Nat → ClassId} (C : Ok p s m args c D cA (mW ad cA) (mA ad) mS RX9 cX9_mayTurn 10) (hr : Rt meth (some .boolean)) {r : Bool × St} (hQ : Q = MQ below (Qo D (mW ad cA) (mA ad) (some (.int (b2i r.1))) r.2) args s 0 0 (mA ad)) {N : Nat}    {S : St} (hm : fX9_mayTurn_210 N   S = some r) : V p l e rmX9_mayTurn s m args below meth c Q D (mW ad cA) (mA ad) 10 S 210 [] [] := by
  unfold fX9_mayTurn_210 at hm
  refine v_iconst C (pc := 210) 0 dX9_mayTurn_210 rfl ?_
  exact v_zret C hr hQ (x := false) (pc := 211) hm dX9_mayTurn_211
def fX9_mayTurn_212 (N : Nat) (k27 : Int32 → Int32 → Int32 → Int32 → Int32 → St → Option (Bool × St)) (k116 : Int32 → Int32 → Int32 → Int32 → Int32 → Int32 → Int32 → St → Option (Bool × St)) (x1 : Int32) (x2 : Int32) (x3 : Int32) (x4 : Int32) (x5 : Int32) (x6 : Int32) (x7 : Int32) (S : St) : Option (Bool × St) := k116 x1 x2 x3 x4 x5 x6 (x7 + 1) S
set_option maxRecDepth 20000 in
theorem vX9_mayTurn_212 {p : Program} {l : Launch} {e : Env} {s : State} {m : MethodId} {args : Array Value} {below : List Frame} {meth : Method} {c : Code} {Q : State → Prop} {D : va_G} {ad : Nat → Nat} {cA : Nat → ClassId} (C : Ok p s m args c D cA (mW ad cA) (mA ad) mS RX9 cX9_mayTurn 10) (hr : Rt meth (some .boolean)) {r : Bool × St} (hQ : Q = MQ below (Qo D (mW ad cA) (mA ad) (some (.int (b2i r.1))) r.2) args s 0 0 (mA ad)) {N : Nat} {k27 : Int32 → Int32 → Int32 → Int32 → Int32 → St → Option (Bool × St)} (hk27 : ∀ (x1 : Int32) (x2 : Int32) (x3 : Int32) (x4 : Int32) (x5 : Int32) (S : St), k27 x1 x2 x3 x4 x5 S = some r → V p l e rmX9_mayTurn s m args below meth c Q D (mW ad cA) (mA ad) 10 S 27 [(0, .ref (ad 0)), (1, .int x1), (2, .int x2), (3, .int x3), (4, .int x4), (5, .int x5)] []) {k116 : Int32 → Int32 → Int32 → Int32 → Int32 → Int32 → Int32 → St → Option (Bool × St)} (hk116 : ∀ (x1 : Int32) (x2 : Int32) (x3 : Int32) (x4 : Int32) (x5 : Int32) (x6 : Int32) (x7 : Int32) (S : St), k116 x1 x2 x3 x4 x5 x6 x7 S = some r → V p l e rmX9_mayTurn s m args below meth c Q D (mW ad cA) (mA ad) 10 S 116 [(0, .ref (ad 0)), (1, .int x1), (2, .int x2), (3, .int x3), (4, .int x4), (5, .int x5), (6, .int x6), (7, .int x7)] []) {x1 : Int32} {x2 : Int32} {x3 : Int32} {x4 : Int32} {x5 : Int32} {x6 : Int32} {x7 : Int32}  {S : St} (hm : fX9_mayTurn_212 N k27 k116 x1 x2 x3 x4 x5 x6 x7 S = some r) : V p l e rmX9_mayTurn s m args below meth c Q D (mW ad cA) (mA ad) 10 S 212 [(0, .ref (ad 0)), (1, .int x1), (2, .int x2), (3, .int x3), (4, .int x4), (5, .int x5), (6, .int x6), (7, .int x7)] [] := by
  unfold fX9_mayTurn_212 at hm
  refine v_iinc C (pc := 212) 1 7 [(7, .int (x7 + 1)), (0, .ref (ad 0)), (1, .int x1), (2, .int x2), (3, .int x3), (4, .int x4), (5, .int x5), (6, .int x6)] dX9_mayTurn_212 rfl rfl (by decide) rfl ?_
  refine v_goto C (pc := 215) 116 dX9_mayTurn_215 rfl ?_
  exact v_sub [1, 2, 3, 4, 5, 6, 7, 0] rfl (hk116 _ _ _ _ _ _ _ _ hm)
def fX9_mayTurn_116b (N : Nat) (k27 : Int32 → Int32 → Int32 → Int32 → Int32 → St → Option (Bool × St)) (k116 : Int32 → Int32 → Int32 → Int32 → Int32 → Int32 → Int32 → St → Option (Bool × St)) (x1 : Int32) (x2 : Int32) (x3 : Int32) (x4 : Int32) (x5 : Int32) (x6 : Int32) (x7 : Int32) (S : St) : Option (Bool × St) := if (2 * x6) ≤ x7 then (k27 x1 x2 x3 x4 (x5 + 1) S) else (bd (fX9_goRound N x6 x2 S) fun r39 S37 => nm (x3 + (S37.1 6)) fun y40 => nm (x4 + (S37.1 7)) fun y41 => bd (fX9_isPassable N x1 y40 y41 S37) fun r42 S38 => if (b2i r42) = 0 then (fX9_mayTurn_210 N S38) else (bd (fX9_kindAt N y40 y41 S38) fun r43 S39 => bd (fX9_in N r43 2 5 S39) fun r44 S40 => if (b2i r44) = 0 then (ck ((8 * y41) + y40) 64 (if (S40.2.2.1 18 (Int32.toNatClampNeg ((8 * y41) + y40))) < 0 then (fX9_mayTurn_212 N k27 k116 x1 x2 x3 x4 x5 x6 x7 S40) else (ck ((8 * y41) + y40) 64 (if (S40.2.2.1 18 (Int32.toNatClampNeg ((8 * y41) + y40))) = x1 then (fX9_mayTurn_212 N k27 k116 x1 x2 x3 x4 x5 x6 x7 S40) else (fX9_mayTurn_210 N S40))))) else (fX9_mayTurn_210 N S40)))
def fX9_mayTurn_116 (N : Nat) (k27 : Int32 → Int32 → Int32 → Int32 → Int32 → St → Option (Bool × St)) : Nat → Int32 → Int32 → Int32 → Int32 → Int32 → Int32 → Int32 → St → Option (Bool × St)
  | 0 => fun _ _ _ _ _ _ _ _ => none
  | n + 1 => fun x1 x2 x3 x4 x5 x6 x7 S => fX9_mayTurn_116b N k27 (fX9_mayTurn_116 N k27 n) x1 x2 x3 x4 x5 x6 x7 S
set_option maxRecDepth 20000 in
theorem vX9_mayTurn_116b {p : Program} {l : Launch} {e : Env} {s : State} {m : MethodId} {args : Array Value} {below : List Frame} {meth : Method} {c : Code} {Q : State → Prop} {D : va_G} {ad : Nat → Nat} {cA : Nat → ClassId} (C : Ok p s m args c D cA (mW ad cA) (mA ad) mS RX9 cX9_mayTurn 10) (hr : Rt meth (some .boolean)) {r : Bool × St} (hQ : Q = MQ below (Qo D (mW ad cA) (mA ad) (some (.int (b2i r.1))) r.2) args s 0 0 (mA ad)) {N : Nat} {k27 : Int32 → Int32 → Int32 → Int32 → Int32 → St → Option (Bool × St)} (hk27 : ∀ (x1 : Int32) (x2 : Int32) (x3 : Int32) (x4 : Int32) (x5 : Int32) (S : St), k27 x1 x2 x3 x4 x5 S = some r → V p l e rmX9_mayTurn s m args below meth c Q D (mW ad cA) (mA ad) 10 S 27 [(0, .ref (ad 0)), (1, .int x1), (2, .int x2), (3, .int x3), (4, .int x4), (5, .int x5)] []) {k116 : Int32 → Int32 → Int32 → Int32 → Int32 → Int32 → Int32 → St → Option (Bool × St)} (hk116 : ∀ (x1 : Int32) (x2 : Int32) (x3 : Int32) (x4 : Int32) (x5 : Int32) (x6 : Int32) (x7 : Int32) (S : St), k116 x1 x2 x3 x4 x5 x6 x7 S = some r → V p l e rmX9_mayTurn s m args below meth c Q D (mW ad cA) (mA ad) 10 S 116 [(0, .ref (ad 0)), (1, .int x1), (2, .int x2), (3, .int x3), (4, .int x4), (5, .int x5), (6, .int x6), (7, .int x7)] []) {x1 : Int32} {x2 : Int32} {x3 : Int32} {x4 : Int32} {x5 : Int32} {x6 : Int32} {x7 : Int32}  {S : St} (hm : fX9_mayTurn_116b N k27 k116 x1 x2 x3 x4 x5 x6 x7 S = some r) : V p l e rmX9_mayTurn s m args below meth c Q D (mW ad cA) (mA ad) 10 S 116 [(0, .ref (ad 0)), (1, .int x1), (2, .int x2), (3, .int x3), (4, .int x4), (5, .int x5), (6, .int x6), (7, .int x7)] [] := by
  unfold fX9_mayTurn_116b at hm
  refine v_iload C (pc := 116) 7 dX9_mayTurn_116 rfl ?_
  refine v_iconst C (pc := 118) 2 dX9_mayTurn_118 rfl ?_
  refine v_iload C (pc := 119) 6 dX9_mayTurn_119 rfl ?_
  refine v_imul C (pc := 121) dX9_mayTurn_121 ?_
  refine v_icmp_ge C (pc := 122) hm 218 dX9_mayTurn_122 rfl (fun hm => ?_) (fun hm => ?_)
  · refine v_iinc C (pc := 218) 1 5 [(5, .int (x5 + 1)), (0, .ref (ad 0)), (1, .int x1), (2, .int x2), (3, .int x3), (4, .int x4), (6, .int x6), (7, .int x7)] dX9_mayTurn_218 rfl rfl (by decide) rfl ?_
    refine v_goto C (pc := 221) 27 dX9_mayTurn_221 rfl ?_
    exact v_sub [1, 2, 3, 4, 5, 0] rfl (hk27 _ _ _ _ _ _ hm)
  · refine v_aload_n C (pc := 125) 0 dX9_mayTurn_125 rfl rfl ?_
    refine v_iload C (pc := 126) 6 dX9_mayTurn_126 rfl ?_
    refine v_iload_n C (pc := 128) 2 dX9_mayTurn_128 rfl rfl ?_
    refine kX9_197 C (Nat.le_of_ble_eq_true rfl) (Nat.le_of_ble_eq_true rfl) (pc := 129) hm (Nat.le_of_ble_eq_true rfl) dX9_mayTurn_129 (fun r39 S37 hm => ?_)
    refine v_iload_n C (pc := 132) 3 dX9_mayTurn_132 rfl rfl ?_
    refine v_aload_n C (pc := 133) 0 dX9_mayTurn_133 rfl rfl ?_
    refine gX9_188 C (pc := 134) dX9_mayTurn_134 ?_
    refine v_iadd C (pc := 137) dX9_mayTurn_137 ?_
    refine v_istoreN C (pc := 138) [(0, .ref (ad 0)), (1, .int x1), (2, .int x2), (3, .int x3), (4, .int x4), (5, .int x5), (6, .int x6), (7, .int x7)] hm dX9_mayTurn_138 (by decide) rfl (fun y40 hm => ?_)
    refine v_iload C (pc := 140) 5 dX9_mayTurn_140 rfl ?_
    refine v_aload_n C (pc := 142) 1 dX9_mayTurn_142 rfl rfl ?_
    refine gX9_191 C (pc := 143) dX9_mayTurn_143 ?_
    refine v_iadd C (pc := 146) dX9_mayTurn_146 ?_
    refine v_istoreN C (pc := 147) [(8, .int y40), (0, .ref (ad 0)), (1, .int x1), (2, .int x2), (3, .int x3), (4, .int x4), (5, .int x5), (6, .int x6), (7, .int x7)] hm dX9_mayTurn_147 (by decide) rfl (fun y41 hm => ?_)
    refine v_aload_n C (pc := 149) 2 dX9_mayTurn_149 rfl rfl ?_
    refine v_iload_n C (pc := 150) 3 dX9_mayTurn_150 rfl rfl ?_
    refine v_iload C (pc := 151) 1 dX9_mayTurn_151 rfl ?_
    refine v_iload C (pc := 153) 0 dX9_mayTurn_153 rfl ?_
    refine kX9_185 C (Nat.le_of_ble_eq_true rfl) (Nat.le_of_ble_eq_true rfl) (pc := 155) hm (Nat.le_of_ble_eq_true rfl) dX9_mayTurn_155 (fun r42 S38 hm => ?_)
    refine v_if_eq C (pc := 158) hm 210 dX9_mayTurn_158 rfl (fun hm => ?_) (fun hm => ?_)
    · exact v_sub [] rfl (vX9_mayTurn_210 C hr hQ (N := N) hm)
    · refine v_aload_n C (pc := 161) 2 dX9_mayTurn_161 rfl rfl ?_
      refine v_iload C (pc := 162) 1 dX9_mayTurn_162 rfl ?_
      refine v_iload C (pc := 164) 0 dX9_mayTurn_164 rfl ?_
      refine kX9_171 C (Nat.le_of_ble_eq_true rfl) (Nat.le_of_ble_eq_true rfl) (pc := 166) hm (Nat.le_of_ble_eq_true rfl) dX9_mayTurn_166 (fun r43 S39 hm => ?_)
      refine v_iconst C (pc := 169) 2 dX9_mayTurn_169 rfl ?_
      refine v_iconst C (pc := 170) 5 dX9_mayTurn_170 rfl ?_
      refine kX9_119 C (Nat.le_of_ble_eq_true rfl) (Nat.le_of_ble_eq_true rfl) (pc := 171) hm (Nat.le_of_ble_eq_true rfl) dX9_mayTurn_171 (fun r44 S40 hm => ?_)
      refine v_if_ne C (pc := 174) hm 210 dX9_mayTurn_174 rfl (fun hm => ?_) (fun hm => ?_)
      · exact v_sub [] rfl (vX9_mayTurn_210 C hr hQ (N := N) hm)
      · refine v_aload_n C (pc := 177) 2 dX9_mayTurn_177 rfl rfl ?_
        refine gX9_65 C (pc := 178) dX9_mayTurn_178 ?_
        refine v_bipush C (pc := 181) 8 dX9_mayTurn_181 rfl ?_
        refine v_iload C (pc := 183) 0 dX9_mayTurn_183 rfl ?_
        refine v_imul C (pc := 185) dX9_mayTurn_185 ?_
        refine v_iload C (pc := 186) 1 dX9_mayTurn_186 rfl ?_
        refine v_iadd C (pc := 188) dX9_mayTurn_188 ?_
        refine ldX9_ownerOf C (pc := 189) hm dX9_mayTurn_189 (fun hm => ?_)
        refine v_if_lt C (pc := 190) hm 212 dX9_mayTurn_190 rfl (fun hm => ?_) (fun hm => ?_)
        · exact v_sub [2, 3, 4, 5, 6, 7, 8, 9] rfl (vX9_mayTurn_212 C hr hQ (N := N) hk27 hk116 hm)
        · refine v_aload_n C (pc := 193) 2 dX9_mayTurn_193 rfl rfl ?_
          refine gX9_65 C (pc := 194) dX9_mayTurn_194 ?_
          refine v_bipush C (pc := 197) 8 dX9_mayTurn_197 rfl ?_
          refine v_iload C (pc := 199) 0 dX9_mayTurn_199 rfl ?_
          refine v_imul C (pc := 201) dX9_mayTurn_201 ?_
          refine v_iload C (pc := 202) 1 dX9_mayTurn_202 rfl ?_
          refine v_iadd C (pc := 204) dX9_mayTurn_204 ?_
          refine ldX9_ownerOf C (pc := 205) hm dX9_mayTurn_205 (fun hm => ?_)
          refine v_iload_n C (pc := 206) 3 dX9_mayTurn_206 rfl rfl ?_
          refine v_icmp_eq C (pc := 207) hm 212 dX9_mayTurn_207 rfl (fun hm => ?_) (fun hm => ?_)
          · exact v_sub [2, 3, 4, 5, 6, 7, 8, 9] rfl (vX9_mayTurn_212 C hr hQ (N := N) hk27 hk116 hm)
          · exact v_sub [] rfl (vX9_mayTurn_210 C hr hQ (N := N) hm)
theorem vX9_mayTurn_116 {p : Program} {l : Launch} {e : Env} {s : State} {m : MethodId} {args : Array Value} {below : List Frame} {meth : Method} {c : Code} {Q : State → Prop} {D : va_G} {ad : Nat → Nat} {cA : Nat → ClassId} (C : Ok p s m args c D cA (mW ad cA) (mA ad) mS RX9 cX9_mayTurn 10) (hr : Rt meth (some .boolean)) {r : Bool × St} (hQ : Q = MQ below (Qo D (mW ad cA) (mA ad) (some (.int (b2i r.1))) r.2) args s 0 0 (mA ad)) {N : Nat} {k27 : Int32 → Int32 → Int32 → Int32 → Int32 → St → Option (Bool × St)} (hk27 : ∀ (x1 : Int32) (x2 : Int32) (x3 : Int32) (x4 : Int32) (x5 : Int32) (S : St), k27 x1 x2 x3 x4 x5 S = some r → V p l e rmX9_mayTurn s m args below meth c Q D (mW ad cA) (mA ad) 10 S 27 [(0, .ref (ad 0)), (1, .int x1), (2, .int x2), (3, .int x3), (4, .int x4), (5, .int x5)] []) (n : Nat) : ∀ (x1 : Int32) (x2 : Int32) (x3 : Int32) (x4 : Int32) (x5 : Int32) (x6 : Int32) (x7 : Int32) (S : St), fX9_mayTurn_116 N k27 n x1 x2 x3 x4 x5 x6 x7 S = some r → V p l e rmX9_mayTurn s m args below meth c Q D (mW ad cA) (mA ad) 10 S 116 [(0, .ref (ad 0)), (1, .int x1), (2, .int x2), (3, .int x3), (4, .int x4), (5, .int x5), (6, .int x6), (7, .int x7)] [] := by
  induction n with
  | zero => intro _ _ _ _ _ _ _ _  hm; exact absurd hm (by intro h; cases h)
  | succ n ih => intro _ _ _ _ _ _ _ _  hm; exact vX9_mayTurn_116b C hr hQ (N := N)  hk27 ih  hm
def fX9_mayTurn_111 (N : Nat) (k27 : Int32 → Int32 → Int32 → Int32 → Int32 → St → Option (Bool × St)) (s0 : Int32) (x1 : Int32) (x2 : Int32) (x3 : Int32) (x4 : Int32) (x5 : Int32) (S : St) : Option (Bool × St) := fX9_mayTurn_116 N k27 N x1 x2 x3 x4 x5 s0 0 S
set_option maxRecDepth 20000 in
theorem vX9_mayTurn_111 {p : Program} {l : Launch} {e : Env} {s : State} {m : MethodId} {args : Array Value} {below : List Frame} {meth : Method} {c : Code} {Q : State → Prop} {D : va_G} {ad : Nat → Nat} {cA : Nat → ClassId} (C : Ok p s m args c D cA (mW ad cA) (mA ad) mS RX9 cX9_mayTurn 10) (hr : Rt meth (some .boolean)) {r : Bool × St} (hQ : Q = MQ below (Qo D (mW ad cA) (mA ad) (some (.int (b2i r.1))) r.2) args s 0 0 (mA ad)) {N : Nat} {k27 : Int32 → Int32 → Int32 → Int32 → Int32 → St → Option (Bool × St)} (hk27 : ∀ (x1 : Int32) (x2 : Int32) (x3 : Int32) (x4 : Int32) (x5 : Int32) (S : St), k27 x1 x2 x3 x4 x5 S = some r → V p l e rmX9_mayTurn s m args below meth c Q D (mW ad cA) (mA ad) 10 S 27 [(0, .ref (ad 0)), (1, .int x1), (2, .int x2), (3, .int x3), (4, .int x4), (5, .int x5)] []) {s0 : Int32} {x1 : Int32} {x2 : Int32} {x3 : Int32} {x4 : Int32} {x5 : Int32}  {S : St} (hm : fX9_mayTurn_111 N k27 s0 x1 x2 x3 x4 x5 S = some r) : V p l e rmX9_mayTurn s m args below meth c Q D (mW ad cA) (mA ad) 10 S 111 [(0, .ref (ad 0)), (1, .int x1), (2, .int x2), (3, .int x3), (4, .int x4), (5, .int x5)] [.int s0] := by
  unfold fX9_mayTurn_111 at hm
  refine v_istore C (pc := 111) [(6, .int s0), (0, .ref (ad 0)), (1, .int x1), (2, .int x2), (3, .int x3), (4, .int x4), (5, .int x5)] dX9_mayTurn_111 (by decide) rfl ?_
  refine v_iconst C (pc := 113) 0 dX9_mayTurn_113 rfl ?_
  refine v_istore C (pc := 114) [(7, .int 0), (6, .int s0), (0, .ref (ad 0)), (1, .int x1), (2, .int x2), (3, .int x3), (4, .int x4), (5, .int x5)] dX9_mayTurn_114 (by decide) rfl ?_
  exact v_sub [2, 3, 4, 5, 6, 7, 1, 0] rfl (vX9_mayTurn_116 C hr hQ (N := N) hk27 N _ _ _ _ _ _ _ _ hm)
def fX9_mayTurn_27b (N : Nat)  (k27 : Int32 → Int32 → Int32 → Int32 → Int32 → St → Option (Bool × St)) (x1 : Int32) (x2 : Int32) (x3 : Int32) (x4 : Int32) (x5 : Int32) (S : St) : Option (Bool × St) := ck x1 5 (if (S.2.2.1 2 (Int32.toNatClampNeg x1)) ≤ x5 then (some (true, S)) else (ck x1 5 (bd (fX9_cellX N x1 x5 (S.2.2.1 9 (Int32.toNatClampNeg x1)) S) fun r33 S29 => stp (sI S29 6 (r33 - x3)) fun S30 => ck x1 5 (bd (fX9_cellY N x1 x5 (S30.2.2.1 9 (Int32.toNatClampNeg x1)) S30) fun r34 S31 => stp (sI S31 7 (r34 - x4)) fun S32 => bd (fX9_absolute N (S32.1 6) S32) fun r35 S33 => bd (fX9_absolute N (S33.1 7) S33) fun r36 S34 => if r35 ≤ r36 then (bd (fX9_absolute N (S34.1 7) S34) fun r37 S35 => fX9_mayTurn_111 N k27 r37 x1 x2 x3 x4 x5 S35) else (bd (fX9_absolute N (S34.1 6) S34) fun r38 S36 => fX9_mayTurn_111 N k27 r38 x1 x2 x3 x4 x5 S36)))))
def fX9_mayTurn_27 (N : Nat)  : Nat → Int32 → Int32 → Int32 → Int32 → Int32 → St → Option (Bool × St)
  | 0 => fun _ _ _ _ _ _ => none
  | n + 1 => fun x1 x2 x3 x4 x5 S => fX9_mayTurn_27b N  (fX9_mayTurn_27 N  n) x1 x2 x3 x4 x5 S
set_option maxRecDepth 20000 in
theorem vX9_mayTurn_27b {p : Program} {l : Launch} {e : Env} {s : State} {m : MethodId} {args : Array Value} {below : List Frame} {meth : Method} {c : Code} {Q : State → Prop} {D : va_G} {ad : Nat → Nat} {cA : Nat → ClassId} (C : Ok p s m args c D cA (mW ad cA) (mA ad) mS RX9 cX9_mayTurn 10) (hr : Rt meth (some .boolean)) {r : Bool × St} (hQ : Q = MQ below (Qo D (mW ad cA) (mA ad) (some (.int (b2i r.1))) r.2) args s 0 0 (mA ad)) {N : Nat}  {k27 : Int32 → Int32 → Int32 → Int32 → Int32 → St → Option (Bool × St)} (hk27 : ∀ (x1 : Int32) (x2 : Int32) (x3 : Int32) (x4 : Int32) (x5 : Int32) (S : St), k27 x1 x2 x3 x4 x5 S = some r → V p l e rmX9_mayTurn s m args below meth c Q D (mW ad cA) (mA ad) 10 S 27 [(0, .ref (ad 0)), (1, .int x1), (2, .int x2), (3, .int x3), (4, .int x4), (5, .int x5)] []) {x1 : Int32} {x2 : Int32} {x3 : Int32} {x4 : Int32} {x5 : Int32}  {S : St} (hm : fX9_mayTurn_27b N  k27 x1 x2 x3 x4 x5 S = some r) : V p l e rmX9_mayTurn s m args below meth c Q D (mW ad cA) (mA ad) 10 S 27 [(0, .ref (ad 0)), (1, .int x1), (2, .int x2), (3, .int x3), (4, .int x4), (5, .int x5)] [] := by
  unfold fX9_mayTurn_27b at hm
  refine v_iload C (pc := 27) 5 dX9_mayTurn_27 rfl ?_
  refine v_aload_n C (pc := 29) 0 dX9_mayTurn_29 rfl rfl ?_
  refine gX9_16 C (pc := 30) dX9_mayTurn_30 ?_
  refine v_iload_n C (pc := 33) 1 dX9_mayTurn_33 rfl rfl ?_
  refine ldX9_cells C (pc := 34) hm dX9_mayTurn_34 (fun hm => ?_)
  refine v_icmp_ge C (pc := 35) hm 224 dX9_mayTurn_35 rfl (fun hm => ?_) (fun hm => ?_)
  · refine v_iconst C (pc := 224) 1 dX9_mayTurn_224 rfl ?_
    exact v_zret C hr hQ (x := true) (pc := 225) hm dX9_mayTurn_225
  · refine v_aload_n C (pc := 38) 0 dX9_mayTurn_38 rfl rfl ?_
    refine v_aload_n C (pc := 39) 0 dX9_mayTurn_39 rfl rfl ?_
    refine v_iload_n C (pc := 40) 1 dX9_mayTurn_40 rfl rfl ?_
    refine v_iload C (pc := 41) 5 dX9_mayTurn_41 rfl ?_
    refine v_aload_n C (pc := 43) 0 dX9_mayTurn_43 rfl rfl ?_
    refine gX9_37 C (pc := 44) dX9_mayTurn_44 ?_
    refine v_iload_n C (pc := 47) 1 dX9_mayTurn_47 rfl rfl ?_
    refine ldX9_placeOf C (pc := 48) hm dX9_mayTurn_48 (fun hm => ?_)
    refine kX9_164 C (Nat.le_of_ble_eq_true rfl) (Nat.le_of_ble_eq_true rfl) (pc := 49) hm (Nat.le_of_ble_eq_true rfl) dX9_mayTurn_49 (fun r33 S29 hm => ?_)
    refine v_iload_n C (pc := 52) 3 dX9_mayTurn_52 rfl rfl ?_
    refine v_isub C (pc := 53) dX9_mayTurn_53 ?_
    refine pX9_188 C (pc := 54) hm dX9_mayTurn_54 (fun S30 hm => ?_)
    refine v_aload_n C (pc := 57) 0 dX9_mayTurn_57 rfl rfl ?_
    refine v_aload_n C (pc := 58) 0 dX9_mayTurn_58 rfl rfl ?_
    refine v_iload_n C (pc := 59) 1 dX9_mayTurn_59 rfl rfl ?_
    refine v_iload C (pc := 60) 5 dX9_mayTurn_60 rfl ?_
    refine v_aload_n C (pc := 62) 0 dX9_mayTurn_62 rfl rfl ?_
    refine gX9_37 C (pc := 63) dX9_mayTurn_63 ?_
    refine v_iload_n C (pc := 66) 1 dX9_mayTurn_66 rfl rfl ?_
    refine ldX9_placeOf C (pc := 67) hm dX9_mayTurn_67 (fun hm => ?_)
    refine kX9_161 C (Nat.le_of_ble_eq_true rfl) (Nat.le_of_ble_eq_true rfl) (pc := 68) hm (Nat.le_of_ble_eq_true rfl) dX9_mayTurn_68 (fun r34 S31 hm => ?_)
    refine v_iload C (pc := 71) 4 dX9_mayTurn_71 rfl ?_
    refine v_isub C (pc := 73) dX9_mayTurn_73 ?_
    refine pX9_191 C (pc := 74) hm dX9_mayTurn_74 (fun S32 hm => ?_)
    refine v_aload_n C (pc := 77) 0 dX9_mayTurn_77 rfl rfl ?_
    refine gX9_188 C (pc := 78) dX9_mayTurn_78 ?_
    refine kX9_194 C (Nat.le_of_ble_eq_true rfl) (Nat.le_of_ble_eq_true rfl) (pc := 81) hm (Nat.le_of_ble_eq_true rfl) dX9_mayTurn_81 (fun r35 S33 hm => ?_)
    refine v_aload_n C (pc := 84) 0 dX9_mayTurn_84 rfl rfl ?_
    refine gX9_191 C (pc := 85) dX9_mayTurn_85 ?_
    refine kX9_194 C (Nat.le_of_ble_eq_true rfl) (Nat.le_of_ble_eq_true rfl) (pc := 88) hm (Nat.le_of_ble_eq_true rfl) dX9_mayTurn_88 (fun r36 S34 hm => ?_)
    refine v_icmp_le C (pc := 91) hm 104 dX9_mayTurn_91 rfl (fun hm => ?_) (fun hm => ?_)
    · refine v_aload_n C (pc := 104) 0 dX9_mayTurn_104 rfl rfl ?_
      refine gX9_191 C (pc := 105) dX9_mayTurn_105 ?_
      refine kX9_194 C (Nat.le_of_ble_eq_true rfl) (Nat.le_of_ble_eq_true rfl) (pc := 108) hm (Nat.le_of_ble_eq_true rfl) dX9_mayTurn_108 (fun r37 S35 hm => ?_)
      exact (vX9_mayTurn_111 C hr hQ (N := N) hk27 hm)
    · refine v_aload_n C (pc := 94) 0 dX9_mayTurn_94 rfl rfl ?_
      refine gX9_188 C (pc := 95) dX9_mayTurn_95 ?_
      refine kX9_194 C (Nat.le_of_ble_eq_true rfl) (Nat.le_of_ble_eq_true rfl) (pc := 98) hm (Nat.le_of_ble_eq_true rfl) dX9_mayTurn_98 (fun r38 S36 hm => ?_)
      refine v_goto C (pc := 101) 111 dX9_mayTurn_101 rfl ?_
      exact (vX9_mayTurn_111 C hr hQ (N := N) hk27 hm)
theorem vX9_mayTurn_27 {p : Program} {l : Launch} {e : Env} {s : State} {m : MethodId} {args : Array Value} {below : List Frame} {meth : Method} {c : Code} {Q : State → Prop} {D : va_G} {ad : Nat → Nat} {cA : Nat → ClassId} (C : Ok p s m args c D cA (mW ad cA) (mA ad) mS RX9 cX9_mayTurn 10) (hr : Rt meth (some .boolean)) {r : Bool × St} (hQ : Q = MQ below (Qo D (mW ad cA) (mA ad) (some (.int (b2i r.1))) r.2) args s 0 0 (mA ad)) {N : Nat}  (n : Nat) : ∀ (x1 : Int32) (x2 : Int32) (x3 : Int32) (x4 : Int32) (x5 : Int32) (S : St), fX9_mayTurn_27 N  n x1 x2 x3 x4 x5 S = some r → V p l e rmX9_mayTurn s m args below meth c Q D (mW ad cA) (mA ad) 10 S 27 [(0, .ref (ad 0)), (1, .int x1), (2, .int x2), (3, .int x3), (4, .int x4), (5, .int x5)] [] := by
  induction n with
  | zero => intro _ _ _ _ _ _  hm; exact absurd hm (by intro h; cases h)
  | succ n ih => intro _ _ _ _ _ _  hm; exact vX9_mayTurn_27b C hr hQ (N := N)   ih  hm
def fX9_mayTurn (N : Nat) (p1 : Int32) (p2 : Int32) (S : St) : Option (Bool × St) := ck p1 5 (nm ((S.2.2.1 9 (Int32.toNatClampNeg p1)) - (S.2.2.1 9 (Int32.toNatClampNeg p1)) / 8 * 8) fun y45 => ck p1 5 (nm (((S.2.2.1 9 (Int32.toNatClampNeg p1)) / 8) - ((S.2.2.1 9 (Int32.toNatClampNeg p1)) / 8) / 8 * 8) fun y46 => fX9_mayTurn_27 N N p1 p2 y45 y46 0 S))
set_option maxRecDepth 20000 in
theorem vX9_mayTurn {p : Program} {l : Launch} {e : Env} {s : State} {m : MethodId} {args : Array Value} {below : List Frame} {meth : Method} {c : Code} {Q : State → Prop} {D : va_G} {ad : Nat → Nat} {cA : Nat → ClassId} (C : Ok p s m args c D cA (mW ad cA) (mA ad) mS RX9 cX9_mayTurn 10) (hr : Rt meth (some .boolean)) {r : Bool × St} (hQ : Q = MQ below (Qo D (mW ad cA) (mA ad) (some (.int (b2i r.1))) r.2) args s 0 0 (mA ad)) {N : Nat} {p1 : Int32} {p2 : Int32} {S : St} (hm : fX9_mayTurn N p1 p2 S = some r) : V p l e rmX9_mayTurn s m args below meth c Q D (mW ad cA) (mA ad) 10 S 0 [(0, .ref (ad 0)), (1, .int p1), (2, .int p2)] [] := by
  unfold fX9_mayTurn at hm
  refine v_aload_n C (pc := 0) 0 dX9_mayTurn_0 rfl rfl ?_
  refine gX9_37 C (pc := 1) dX9_mayTurn_1 ?_
  refine v_iload_n C (pc := 4) 1 dX9_mayTurn_4 rfl rfl ?_
  refine ldX9_placeOf C (pc := 5) hm dX9_mayTurn_5 (fun hm => ?_)
  refine v_bipush C (pc := 6) 8 dX9_mayTurn_6 rfl ?_
  refine v_irem C (pc := 8) dX9_mayTurn_8 (by decide) ?_
  refine v_istore_nN C (pc := 9) [(0, .ref (ad 0)), (1, .int p1), (2, .int p2)] hm dX9_mayTurn_9 rfl (by decide) rfl (fun y45 hm => ?_)
  refine v_aload_n C (pc := 10) 1 dX9_mayTurn_10 rfl rfl ?_
  refine gX9_37 C (pc := 11) dX9_mayTurn_11 ?_
  refine v_iload_n C (pc := 14) 2 dX9_mayTurn_14 rfl rfl ?_
  refine ldX9_placeOf C (pc := 15) hm dX9_mayTurn_15 (fun hm => ?_)
  refine v_bipush C (pc := 16) 8 dX9_mayTurn_16 rfl ?_
  refine v_idiv C (pc := 18) dX9_mayTurn_18 (by decide) ?_
  refine v_bipush C (pc := 19) 8 dX9_mayTurn_19 rfl ?_
  refine v_irem C (pc := 21) dX9_mayTurn_21 (by decide) ?_
  refine v_istoreN C (pc := 22) [(3, .int y45), (0, .ref (ad 0)), (1, .int p1), (2, .int p2)] hm dX9_mayTurn_22 (by decide) rfl (fun y46 hm => ?_)
  refine v_iconst C (pc := 24) 0 dX9_mayTurn_24 rfl ?_
  refine v_istore C (pc := 25) [(5, .int 0), (4, .int y46), (3, .int y45), (0, .ref (ad 0)), (1, .int p1), (2, .int p2)] dX9_mayTurn_25 (by decide) rfl ?_
  exact v_sub [3, 4, 5, 2, 1, 0] rfl (vX9_mayTurn_27 C hr hQ (N := N) N _ _ _ _ _ _ hm)
theorem mX9_mayTurn {l : Launch} {D : va_G} {ad : Nat → Nat} {cA : Nat → ClassId} (hD : ∀ S, va_D (mA ad) (mW ad cA S)) {N : Nat} {p1 : Int32} {p2 : Int32} {S : St} {r : Bool × St} (hm : fX9_mayTurn N p1 p2 S = some r) : Met l yX9_mayTurn (wsm yX9_mayTurn cX9_mayTurn 10 (some .boolean)) rmX9_mayTurn (va_Pc [.ref (ad 0), .int p1, .int p2] (Pre D cA (mW ad cA) mS S)) (Qo D (mW ad cA) (mA ad) (some (.int (b2i r.1))) r.2) 0 0 (mA ad) := met_of [.ref (ad 0), .int p1, .int p2] (by decide) (Nat.le_of_ble_eq_true rfl) hD (fun _ _ _ _ h => h) (fun _ _ _ _ h => h) (fun p e s m below meth c C hr => vX9_mayTurn C hr rfl (N := N)  hm)
-- X9_movedBy
theorem infX9_mayTurn : InfV yX9_mayTurn cX9_mayTurn 10 (some .boolean) 2 := ⟨⟨gm (i := 65) (by decide +kernel) rfl, gm (i := 1031) (by decide +kernel) rfl, by decide +kernel⟩, gm (i := 1030) (by decide +kernel) rfl, gm (i := 31) (by decide +kernel) rfl⟩
theorem kX9_207 {p : Program} {l : Launch} {e : Env} {R : Room} {s : State} {m : MethodId} {args : Array Value} {below : List Frame} {meth : Method} {c : Code} {Q : State → Prop} {D : va_G} {ad : Nat → Nat} {cA : Nat → ClassId} {cc : ByteArray} {nL : Nat} {S : St} {pc : Nat} {lv : List (Nat × Value)} {st : List Value} {ρ : Type} {res : ρ} (C : Ok p s m args c D cA (mW ad cA) (mA ad) mS RX9 cc nL) (hfr : rmX9_mayTurn.frames + 1 ≤ R.frames) (hlo : 8 + (10 + 11) + rmX9_mayTurn.locals ≤ R.locals) {N : Nat} {p1 : Int32} {p2 : Int32} {E : Bool → St → Option ρ} (hm : bd (fX9_mayTurn N p1 p2 S) E = some res) (hcat : (st.map fun v => v.category).sum ≤ 8) (hd : decode cc pc = .ok (.invokevirtual 207, 3)) (k : ∀ r S, E r S = some res → V p l e R s m args below meth c Q D (mW ad cA) (mA ad) nL S (pc + 3) lv (.int (b2i r) :: st)) : V p l e R s m args below meth c Q D (mW ad cA) (mA ad) nL S pc lv (.int p2 :: .int p1 :: .ref (ad 0) :: st) := by
  obtain ⟨r, S1, h1, h2⟩ := bd_some hm
  exact v_callV C (gm (i := 1028) (by decide +kernel) rfl : Cond.methodLink RX9 207 yX9_mayTurn ∈ gw_tbl) infX9_mayTurn (rm2 := rmX9_mayTurn) ⟨rfl, rfl⟩ hfr hlo (mX9_mayTurn C.2.2.2.2.2.2.1 h1) (As := [.int p1, .int p2]) (oX9 ad cA S) rfl rfl rfl rfl hcat hd (k r S1 h2)
theorem infX9_layOwners : InfV yX9_layOwners cX9_layOwners 5 none 0 := ⟨⟨gm (i := 65) (by decide +kernel) rfl, gm (i := 987) (by decide +kernel) rfl, by decide +kernel⟩, gm (i := 986) (by decide +kernel) rfl, gm (i := 23) (by decide +kernel) rfl⟩
theorem kX9_201 {p : Program} {l : Launch} {e : Env} {R : Room} {s : State} {m : MethodId} {args : Array Value} {below : List Frame} {meth : Method} {c : Code} {Q : State → Prop} {D : va_G} {ad : Nat → Nat} {cA : Nat → ClassId} {cc : ByteArray} {nL : Nat} {S : St} {pc : Nat} {lv : List (Nat × Value)} {st : List Value} {ρ : Type} {res : ρ} (C : Ok p s m args c D cA (mW ad cA) (mA ad) mS RX9 cc nL) (hfr : rmX9_layOwners.frames + 1 ≤ R.frames) (hlo : 8 + (5 + 11) + rmX9_layOwners.locals ≤ R.locals) {N : Nat}  {E : Unit → St → Option ρ} (hm : bd (fX9_layOwners N  S) E = some res) (hcat : (st.map fun v => v.category).sum ≤ 8) (hd : decode cc pc = .ok (.invokevirtual 201, 3)) (k : ∀ r S, E r S = some res → V p l e R s m args below meth c Q D (mW ad cA) (mA ad) nL S (pc + 3) lv (st)) : V p l e R s m args below meth c Q D (mW ad cA) (mA ad) nL S pc lv (.ref (ad 0) :: st) := by
  obtain ⟨r, S1, h1, h2⟩ := bd_some hm
  exact v_callV C (gm (i := 984) (by decide +kernel) rfl : Cond.methodLink RX9 201 yX9_layOwners ∈ gw_tbl) infX9_layOwners (rm2 := rmX9_layOwners) ⟨rfl, rfl⟩ hfr hlo (mX9_layOwners C.2.2.2.2.2.2.1 h1) (As := []) (oX9 ad cA S) rfl rfl rfl rfl hcat hd (k r S1 h2)
theorem infX9_pushed : InfV yX9_pushed cX9_pushed 10 (some .int) 2 := ⟨⟨gm (i := 65) (by decide +kernel) rfl, gm (i := 1005) (by decide +kernel) rfl, by decide +kernel⟩, gm (i := 1004) (by decide +kernel) rfl, gm (i := 26) (by decide +kernel) rfl⟩
theorem kX9_204 {p : Program} {l : Launch} {e : Env} {R : Room} {s : State} {m : MethodId} {args : Array Value} {below : List Frame} {meth : Method} {c : Code} {Q : State → Prop} {D : va_G} {ad : Nat → Nat} {cA : Nat → ClassId} {cc : ByteArray} {nL : Nat} {S : St} {pc : Nat} {lv : List (Nat × Value)} {st : List Value} {ρ : Type} {res : ρ} (C : Ok p s m args c D cA (mW ad cA) (mA ad) mS RX9 cc nL) (hfr : rmX9_pushed.frames + 1 ≤ R.frames) (hlo : 8 + (10 + 11) + rmX9_pushed.locals ≤ R.locals) {N : Nat} {p1 : Int32} {p2 : Int32} {E : Int32 → St → Option ρ} (hm : bd (fX9_pushed N p1 p2 S) E = some res) (hcat : (st.map fun v => v.category).sum ≤ 8) (hd : decode cc pc = .ok (.invokevirtual 204, 3)) (k : ∀ r S, E r S = some res → V p l e R s m args below meth c Q D (mW ad cA) (mA ad) nL S (pc + 3) lv (.int r :: st)) : V p l e R s m args below meth c Q D (mW ad cA) (mA ad) nL S pc lv (.int p2 :: .int p1 :: .ref (ad 0) :: st) := by
  obtain ⟨r, S1, h1, h2⟩ := bd_some hm
  exact v_callV C (gm (i := 1002) (by decide +kernel) rfl : Cond.methodLink RX9 204 yX9_pushed ∈ gw_tbl) infX9_pushed (rm2 := rmX9_pushed) ⟨rfl, rfl⟩ hfr hlo (mX9_pushed C.2.2.2.2.2.2.1 h1) (As := [.int p1, .int p2]) (oX9 ad cA S) rfl rfl rfl rfl hcat hd (k r S1 h2)
def rmX9_movedBy : Room := { frames := 5, cells := 0, slots := 0, locals := 122 }
def fX9_movedBy_43 (N : Nat)  (s0 : Int32) (S : St) : Option (Int32 × St) := some (s0, S)
set_option maxRecDepth 20000 in
theorem vX9_movedBy_43 {p : Program} {l : Launch} {e : Env} {s : State} {m : MethodId} {args : Array Value} {below : List Frame} {meth : Method} {c : Code} {Q : State → Prop} {D : va_G} {ad : Nat → Nat} {cA : Nat → ClassId} (C : Ok p s m args c D cA (mW ad cA) (mA ad) mS RX9 cX9_movedBy 3) (hr : Rt meth (some .int)) {r : Int32 × St} (hQ : Q = MQ below (Qo D (mW ad cA) (mA ad) (some (.int r.1)) r.2) args s 0 0 (mA ad)) {N : Nat}  {s0 : Int32}  {S : St} (hm : fX9_movedBy_43 N  s0 S = some r) : V p l e rmX9_movedBy s m args below meth c Q D (mW ad cA) (mA ad) 3 S 43 [] [.int s0] := by
  unfold fX9_movedBy_43 at hm
  exact v_iret C hr hQ (pc := 43) hm dX9_movedBy_43
def fX9_movedBy_30 (N : Nat)  (s0 : Bool) (s1 : Int32) (x1 : Int32) (S : St) : Option (Int32 × St) := bd (fX9_mayTurn N s1 (b2i s0) S) fun r4 S4 => if (b2i r4) = 0 then (fX9_movedBy_43 N 0 S4) else (fX9_movedBy_43 N (1 <<< (x1 &&& 31)) S4)
set_option maxRecDepth 20000 in
theorem vX9_movedBy_30 {p : Program} {l : Launch} {e : Env} {s : State} {m : MethodId} {args : Array Value} {below : List Frame} {meth : Method} {c : Code} {Q : State → Prop} {D : va_G} {ad : Nat → Nat} {cA : Nat → ClassId} (C : Ok p s m args c D cA (mW ad cA) (mA ad) mS RX9 cX9_movedBy 3) (hr : Rt meth (some .int)) {r : Int32 × St} (hQ : Q = MQ below (Qo D (mW ad cA) (mA ad) (some (.int r.1)) r.2) args s 0 0 (mA ad)) {N : Nat}  {s0 : Bool} {s1 : Int32} {x1 : Int32}  {S : St} (hm : fX9_movedBy_30 N  s0 s1 x1 S = some r) : V p l e rmX9_movedBy s m args below meth c Q D (mW ad cA) (mA ad) 3 S 30 [(1, .int x1)] [.int (b2i s0), .int s1, .ref (ad 0)] := by
  unfold fX9_movedBy_30 at hm
  refine kX9_207 C (Nat.le_of_ble_eq_true rfl) (Nat.le_of_ble_eq_true rfl) (pc := 30) hm (Nat.le_of_ble_eq_true rfl) dX9_movedBy_30 (fun r4 S4 hm => ?_)
  refine v_if_eq C (pc := 33) hm 42 dX9_movedBy_33 rfl (fun hm => ?_) (fun hm => ?_)
  · refine v_iconst C (pc := 42) 0 dX9_movedBy_42 rfl ?_
    exact v_sub [] rfl (vX9_movedBy_43 C hr hQ (N := N) hm)
  · refine v_iconst C (pc := 36) 1 dX9_movedBy_36 rfl ?_
    refine v_iload_n C (pc := 37) 0 dX9_movedBy_37 rfl rfl ?_
    refine v_ishl C (pc := 38) dX9_movedBy_38 ?_
    refine v_goto C (pc := 39) 43 dX9_movedBy_39 rfl ?_
    exact v_sub [] rfl (vX9_movedBy_43 C hr hQ (N := N) hm)
def fX9_movedBy (N : Nat) (p1 : Int32) (p2 : Int32) (S : St) : Option (Int32 × St) := bd (fX9_layOwners N  S) fun r5 S5 => if 4 ≤ p2 then (if p2 = 4 then (fX9_movedBy_30 N true p1 p1 S5) else (fX9_movedBy_30 N false p1 p1 S5)) else (bd (fX9_pushed N p1 p2 S5) fun r6 S6 => fX9_movedBy_43 N r6 S6)
set_option maxRecDepth 20000 in
theorem vX9_movedBy {p : Program} {l : Launch} {e : Env} {s : State} {m : MethodId} {args : Array Value} {below : List Frame} {meth : Method} {c : Code} {Q : State → Prop} {D : va_G} {ad : Nat → Nat} {cA : Nat → ClassId} (C : Ok p s m args c D cA (mW ad cA) (mA ad) mS RX9 cX9_movedBy 3) (hr : Rt meth (some .int)) {r : Int32 × St} (hQ : Q = MQ below (Qo D (mW ad cA) (mA ad) (some (.int r.1)) r.2) args s 0 0 (mA ad)) {N : Nat} {p1 : Int32} {p2 : Int32} {S : St} (hm : fX9_movedBy N p1 p2 S = some r) : V p l e rmX9_movedBy s m args below meth c Q D (mW ad cA) (mA ad) 3 S 0 [(0, .ref (ad 0)), (1, .int p1), (2, .int p2)] [] := by
  unfold fX9_movedBy at hm
  refine v_aload_n C (pc := 0) 0 dX9_movedBy_0 rfl rfl ?_
  refine kX9_201 C (Nat.le_of_ble_eq_true rfl) (Nat.le_of_ble_eq_true rfl) (pc := 1) hm (Nat.le_of_ble_eq_true rfl) dX9_movedBy_1 (fun r5 S5 hm => ?_)
  refine v_iload_n C (pc := 4) 2 dX9_movedBy_4 rfl rfl ?_
  refine v_iconst C (pc := 5) 4 dX9_movedBy_5 rfl ?_
  refine v_icmp_ge C (pc := 6) hm 18 dX9_movedBy_6 rfl (fun hm => ?_) (fun hm => ?_)
  · refine v_aload_n C (pc := 18) 0 dX9_movedBy_18 rfl rfl ?_
    refine v_iload_n C (pc := 19) 1 dX9_movedBy_19 rfl rfl ?_
    refine v_iload_n C (pc := 20) 2 dX9_movedBy_20 rfl rfl ?_
    refine v_iconst C (pc := 21) 4 dX9_movedBy_21 rfl ?_
    refine v_icmp_ne C (pc := 22) hm 29 dX9_movedBy_22 rfl (fun hm => ?_) (fun hm => ?_)
    · refine v_iconst C (pc := 29) 0 dX9_movedBy_29 rfl ?_
      exact v_sub [1] rfl (vX9_movedBy_30 C hr hQ (N := N) hm)
    · refine v_iconst C (pc := 25) 1 dX9_movedBy_25 rfl ?_
      refine v_goto C (pc := 26) 30 dX9_movedBy_26 rfl ?_
      exact v_sub [1] rfl (vX9_movedBy_30 C hr hQ (N := N) hm)
  · refine v_aload_n C (pc := 9) 0 dX9_movedBy_9 rfl rfl ?_
    refine v_iload_n C (pc := 10) 1 dX9_movedBy_10 rfl rfl ?_
    refine v_iload_n C (pc := 11) 2 dX9_movedBy_11 rfl rfl ?_
    refine kX9_204 C (Nat.le_of_ble_eq_true rfl) (Nat.le_of_ble_eq_true rfl) (pc := 12) hm (Nat.le_of_ble_eq_true rfl) dX9_movedBy_12 (fun r6 S6 hm => ?_)
    refine v_goto C (pc := 15) 43 dX9_movedBy_15 rfl ?_
    exact v_sub [] rfl (vX9_movedBy_43 C hr hQ (N := N) hm)
theorem mX9_movedBy {l : Launch} {D : va_G} {ad : Nat → Nat} {cA : Nat → ClassId} (hD : ∀ S, va_D (mA ad) (mW ad cA S)) {N : Nat} {p1 : Int32} {p2 : Int32} {S : St} {r : Int32 × St} (hm : fX9_movedBy N p1 p2 S = some r) : Met l yX9_movedBy (wsm yX9_movedBy cX9_movedBy 3 (some .int)) rmX9_movedBy (va_Pc [.ref (ad 0), .int p1, .int p2] (Pre D cA (mW ad cA) mS S)) (Qo D (mW ad cA) (mA ad) (some (.int r.1)) r.2) 0 0 (mA ad) := met_of [.ref (ad 0), .int p1, .int p2] (by decide) (Nat.le_of_ble_eq_true rfl) hD (fun _ _ _ _ h => h) (fun _ _ _ _ h => h) (fun p e s m below meth c C hr => vX9_movedBy C hr rfl (N := N)  hm)
-- X9_placeBehind
def rmX9_placeBehind : Room := { frames := 1, cells := 0, slots := 0, locals := 20 }
def fX9_placeBehind_41 (N : Nat)  (s0 : Int32) (S : St) : Option (Int32 × St) := some (s0, S)
set_option maxRecDepth 20000 in
theorem vX9_placeBehind_41 {p : Program} {l : Launch} {e : Env} {s : State} {m : MethodId} {args : Array Value} {below : List Frame} {meth : Method} {c : Code} {Q : State → Prop} {D : va_G} {ad : Nat → Nat} {cA : Nat → ClassId} (C : Ok p s m args c D cA (mW ad cA) (mA ad) mS RX9 cX9_placeBehind 2) (hr : Rt meth (some .int)) {r : Int32 × St} (hQ : Q = MQ below (Qo D (mW ad cA) (mA ad) (some (.int r.1)) r.2) args s 0 0 (mA ad)) {N : Nat}  {s0 : Int32}  {S : St} (hm : fX9_placeBehind_41 N  s0 S = some r) : V p l e rmX9_placeBehind s m args below meth c Q D (mW ad cA) (mA ad) 2 S 41 [] [.int s0] := by
  unfold fX9_placeBehind_41 at hm
  exact v_iret C hr hQ (pc := 41) hm dX9_placeBehind_41
def fX9_placeBehind_36 (N : Nat)  (s0 : Int32) (s1 : Int32) (S : St) : Option (Int32 × St) := fX9_placeBehind_41 N ((s1 + s0) - (s1 + s0) / 256 * 256) S
set_option maxRecDepth 20000 in
theorem vX9_placeBehind_36 {p : Program} {l : Launch} {e : Env} {s : State} {m : MethodId} {args : Array Value} {below : List Frame} {meth : Method} {c : Code} {Q : State → Prop} {D : va_G} {ad : Nat → Nat} {cA : Nat → ClassId} (C : Ok p s m args c D cA (mW ad cA) (mA ad) mS RX9 cX9_placeBehind 2) (hr : Rt meth (some .int)) {r : Int32 × St} (hQ : Q = MQ below (Qo D (mW ad cA) (mA ad) (some (.int r.1)) r.2) args s 0 0 (mA ad)) {N : Nat}  {s0 : Int32} {s1 : Int32}  {S : St} (hm : fX9_placeBehind_36 N  s0 s1 S = some r) : V p l e rmX9_placeBehind s m args below meth c Q D (mW ad cA) (mA ad) 2 S 36 [] [.int s0, .int s1] := by
  unfold fX9_placeBehind_36 at hm
  refine v_iadd C (pc := 36) dX9_placeBehind_36 ?_
  refine v_sipush C (pc := 37) 256 dX9_placeBehind_37 rfl ?_
  refine v_irem C (pc := 40) dX9_placeBehind_40 (by decide) ?_
  exact (vX9_placeBehind_41 C hr hQ (N := N) hm)
def fX9_placeBehind (N : Nat) (p1 : Int32) (p2 : Int32) (S : St) : Option (Int32 × St) := if 4 ≤ p2 then (if p2 = 4 then (fX9_placeBehind_36 N 64 p1 S) else (fX9_placeBehind_36 N 192 p1 S)) else (bd (fX9_stepX N p2 S) fun r3 S3 => bd (fX9_stepY N p2 S3) fun r4 S4 => fX9_placeBehind_41 N ((p1 + r3) + (8 * r4)) S4)
set_option maxRecDepth 20000 in
theorem vX9_placeBehind {p : Program} {l : Launch} {e : Env} {s : State} {m : MethodId} {args : Array Value} {below : List Frame} {meth : Method} {c : Code} {Q : State → Prop} {D : va_G} {ad : Nat → Nat} {cA : Nat → ClassId} (C : Ok p s m args c D cA (mW ad cA) (mA ad) mS RX9 cX9_placeBehind 2) (hr : Rt meth (some .int)) {r : Int32 × St} (hQ : Q = MQ below (Qo D (mW ad cA) (mA ad) (some (.int r.1)) r.2) args s 0 0 (mA ad)) {N : Nat} {p1 : Int32} {p2 : Int32} {S : St} (hm : fX9_placeBehind N p1 p2 S = some r) : V p l e rmX9_placeBehind s m args below meth c Q D (mW ad cA) (mA ad) 2 S 0 [(0, .int p1), (1, .int p2)] [] := by
  unfold fX9_placeBehind at hm
  refine v_iload_n C (pc := 0) 1 dX9_placeBehind_0 rfl rfl ?_
  refine v_iconst C (pc := 1) 4 dX9_placeBehind_1 rfl ?_
  refine v_icmp_ge C (pc := 2) hm 22 dX9_placeBehind_2 rfl (fun hm => ?_) (fun hm => ?_)
  · refine v_iload_n C (pc := 22) 0 dX9_placeBehind_22 rfl rfl ?_
    refine v_iload_n C (pc := 23) 1 dX9_placeBehind_23 rfl rfl ?_
    refine v_iconst C (pc := 24) 4 dX9_placeBehind_24 rfl ?_
    refine v_icmp_ne C (pc := 25) hm 33 dX9_placeBehind_25 rfl (fun hm => ?_) (fun hm => ?_)
    · refine v_sipush C (pc := 33) 192 dX9_placeBehind_33 rfl ?_
      exact v_sub [] rfl (vX9_placeBehind_36 C hr hQ (N := N) hm)
    · refine v_bipush C (pc := 28) 64 dX9_placeBehind_28 rfl ?_
      refine v_goto C (pc := 30) 36 dX9_placeBehind_30 rfl ?_
      exact v_sub [] rfl (vX9_placeBehind_36 C hr hQ (N := N) hm)
  · refine v_iload_n C (pc := 5) 0 dX9_placeBehind_5 rfl rfl ?_
    refine v_iload_n C (pc := 6) 1 dX9_placeBehind_6 rfl rfl ?_
    refine kX9_175 C (Nat.le_of_ble_eq_true rfl) (Nat.le_of_ble_eq_true rfl) (pc := 7) hm (Nat.le_of_ble_eq_true rfl) dX9_placeBehind_7 (fun r3 S3 hm => ?_)
    refine v_iadd C (pc := 10) dX9_placeBehind_10 ?_
    refine v_bipush C (pc := 11) 8 dX9_placeBehind_11 rfl ?_
    refine v_iload_n C (pc := 13) 1 dX9_placeBehind_13 rfl rfl ?_
    refine kX9_179 C (Nat.le_of_ble_eq_true rfl) (Nat.le_of_ble_eq_true rfl) (pc := 14) hm (Nat.le_of_ble_eq_true rfl) dX9_placeBehind_14 (fun r4 S4 hm => ?_)
    refine v_imul C (pc := 17) dX9_placeBehind_17 ?_
    refine v_iadd C (pc := 18) dX9_placeBehind_18 ?_
    refine v_goto C (pc := 19) 41 dX9_placeBehind_19 rfl ?_
    exact v_sub [] rfl (vX9_placeBehind_41 C hr hQ (N := N) hm)
theorem mX9_placeBehind {l : Launch} {D : va_G} {ad : Nat → Nat} {cA : Nat → ClassId} (hD : ∀ S, va_D (mA ad) (mW ad cA S)) {N : Nat} {p1 : Int32} {p2 : Int32} {S : St} {r : Int32 × St} (hm : fX9_placeBehind N p1 p2 S = some r) : Met l yX9_placeBehind (wsm yX9_placeBehind cX9_placeBehind 2 (some .int)) rmX9_placeBehind (va_Pc [.int p1, .int p2] (Pre D cA (mW ad cA) mS S)) (Qo D (mW ad cA) (mA ad) (some (.int r.1)) r.2) 0 0 (mA ad) := met_of [.int p1, .int p2] (by decide) (Nat.le_of_ble_eq_true rfl) hD (fun _ _ _ _ h => h) (fun _ _ _ _ h => h) (fun p e s m below meth c C hr => vX9_placeBehind C hr rfl (N := N)  hm)
-- X9_carryOut
theorem infX9_placeBehind : InfS yX9_placeBehind cX9_placeBehind 2 (some .int) 2 := ⟨⟨gm (i := 65) (by decide +kernel) rfl, gm (i := 1062) (by decide +kernel) rfl, by decide +kernel⟩, gm (i := 1061) (by decide +kernel) rfl⟩
theorem kX9_211 {p : Program} {l : Launch} {e : Env} {R : Room} {s : State} {m : MethodId} {args : Array Value} {below : List Frame} {meth : Method} {c : Code} {Q : State → Prop} {D : va_G} {ad : Nat → Nat} {cA : Nat → ClassId} {cc : ByteArray} {nL : Nat} {S : St} {pc : Nat} {lv : List (Nat × Value)} {st : List Value} {ρ : Type} {res : ρ} (C : Ok p s m args c D cA (mW ad cA) (mA ad) mS RX9 cc nL) (hfr : rmX9_placeBehind.frames + 1 ≤ R.frames) (hlo : 8 + (2 + 11) + rmX9_placeBehind.locals ≤ R.locals) {N : Nat} {p1 : Int32} {p2 : Int32} {E : Int32 → St → Option ρ} (hm : bd (fX9_placeBehind N p1 p2 S) E = some res) (hcat : (st.map fun v => v.category).sum ≤ 8) (hd : decode cc pc = .ok (.invokestatic 211, 3)) (k : ∀ r S, E r S = some res → V p l e R s m args below meth c Q D (mW ad cA) (mA ad) nL S (pc + 3) lv (.int r :: st)) : V p l e R s m args below meth c Q D (mW ad cA) (mA ad) nL S pc lv (.int p2 :: .int p1 :: st) := by
  obtain ⟨r, S1, h1, h2⟩ := bd_some hm
  exact v_callS C (gm (i := 1060) (by decide +kernel) rfl : Cond.methodLink RX9 211 yX9_placeBehind ∈ gw_tbl) infX9_placeBehind (rm2 := rmX9_placeBehind) ⟨rfl, rfl⟩ hfr hlo (mX9_placeBehind C.2.2.2.2.2.2.1 h1) (As := [.int p1, .int p2]) rfl rfl hcat hd (k r S1 h2)
def rmX9_carryOut : Room := { frames := 2, cells := 0, slots := 0, locals := 41 }
def fX9_carryOut_40 (N : Nat) (k2 : Int32 → Int32 → Int32 → St → Option (Unit × St)) (s0 : Int32) (s1 : Int32) (x1 : Int32) (x2 : Int32) (x3 : Int32) (S : St) : Option (Unit × St) := ck s1 5 (stp (sA S 9 (Int32.toNatClampNeg s1) s0) fun S6 => k2 x1 x2 (x3 + 1) S6)
set_option maxRecDepth 20000 in
theorem vX9_carryOut_40 {p : Program} {l : Launch} {e : Env} {s : State} {m : MethodId} {args : Array Value} {below : List Frame} {meth : Method} {c : Code} {Q : State → Prop} {D : va_G} {ad : Nat → Nat} {cA : Nat → ClassId} (C : Ok p s m args c D cA (mW ad cA) (mA ad) mS RX9 cX9_carryOut 4) (hr : Rt meth none) {r : Unit × St} (hQ : Q = MQ below (Qo D (mW ad cA) (mA ad) (none) r.2) args s 0 0 (mA ad)) {N : Nat} {k2 : Int32 → Int32 → Int32 → St → Option (Unit × St)} (hk2 : ∀ (x1 : Int32) (x2 : Int32) (x3 : Int32) (S : St), k2 x1 x2 x3 S = some r → V p l e rmX9_carryOut s m args below meth c Q D (mW ad cA) (mA ad) 4 S 2 [(0, .ref (ad 0)), (1, .int x1), (2, .int x2), (3, .int x3)] []) {s0 : Int32} {s1 : Int32} {x1 : Int32} {x2 : Int32} {x3 : Int32}  {S : St} (hm : fX9_carryOut_40 N k2 s0 s1 x1 x2 x3 S = some r) : V p l e rmX9_carryOut s m args below meth c Q D (mW ad cA) (mA ad) 4 S 40 [(0, .ref (ad 0)), (1, .int x1), (2, .int x2), (3, .int x3)] [.int s0, .int s1, .ref (ad 10)] := by
  unfold fX9_carryOut_40 at hm
  refine stX9_placeOf C (pc := 40) hm dX9_carryOut_40 (fun S6 hm => ?_)
  refine v_iinc C (pc := 41) 1 3 [(3, .int (x3 + 1)), (0, .ref (ad 0)), (1, .int x1), (2, .int x2)] dX9_carryOut_41 rfl rfl (by decide) rfl ?_
  refine v_goto C (pc := 44) 2 dX9_carryOut_44 rfl ?_
  exact v_sub [1, 2, 3, 0] rfl (hk2 _ _ _ _ hm)
def fX9_carryOut_2b (N : Nat)  (k2 : Int32 → Int32 → Int32 → St → Option (Unit × St)) (x1 : Int32) (x2 : Int32) (x3 : Int32) (S : St) : Option (Unit × St) := if 5 ≤ x3 then (some ((), S)) else (if ((x1 >>> (x3 &&& 31)) &&& 1) = 1 then (ck x3 5 (bd (fX9_placeBehind N (S.2.2.1 9 (Int32.toNatClampNeg x3)) x2 S) fun r3 S5 => fX9_carryOut_40 N k2 r3 x3 x1 x2 x3 S5)) else (ck x3 5 (fX9_carryOut_40 N k2 (S.2.2.1 9 (Int32.toNatClampNeg x3)) x3 x1 x2 x3 S)))
def fX9_carryOut_2 (N : Nat)  : Nat → Int32 → Int32 → Int32 → St → Option (Unit × St)
  | 0 => fun _ _ _ _ => none
  | n + 1 => fun x1 x2 x3 S => fX9_carryOut_2b N  (fX9_carryOut_2 N  n) x1 x2 x3 S
set_option maxRecDepth 20000 in
theorem vX9_carryOut_2b {p : Program} {l : Launch} {e : Env} {s : State} {m : MethodId} {args : Array Value} {below : List Frame} {meth : Method} {c : Code} {Q : State → Prop} {D : va_G} {ad : Nat → Nat} {cA : Nat → ClassId} (C : Ok p s m args c D cA (mW ad cA) (mA ad) mS RX9 cX9_carryOut 4) (hr : Rt meth none) {r : Unit × St} (hQ : Q = MQ below (Qo D (mW ad cA) (mA ad) (none) r.2) args s 0 0 (mA ad)) {N : Nat}  {k2 : Int32 → Int32 → Int32 → St → Option (Unit × St)} (hk2 : ∀ (x1 : Int32) (x2 : Int32) (x3 : Int32) (S : St), k2 x1 x2 x3 S = some r → V p l e rmX9_carryOut s m args below meth c Q D (mW ad cA) (mA ad) 4 S 2 [(0, .ref (ad 0)), (1, .int x1), (2, .int x2), (3, .int x3)] []) {x1 : Int32} {x2 : Int32} {x3 : Int32}  {S : St} (hm : fX9_carryOut_2b N  k2 x1 x2 x3 S = some r) : V p l e rmX9_carryOut s m args below meth c Q D (mW ad cA) (mA ad) 4 S 2 [(0, .ref (ad 0)), (1, .int x1), (2, .int x2), (3, .int x3)] [] := by
  unfold fX9_carryOut_2b at hm
  refine v_iload_n C (pc := 2) 3 dX9_carryOut_2 rfl rfl ?_
  refine v_iconst C (pc := 3) 5 dX9_carryOut_3 rfl ?_
  refine v_icmp_ge C (pc := 4) hm 47 dX9_carryOut_4 rfl (fun hm => ?_) (fun hm => ?_)
  · exact v_vret C hr hQ (x := ()) (pc := 47) hm dX9_carryOut_47
  · refine v_aload_n C (pc := 7) 0 dX9_carryOut_7 rfl rfl ?_
    refine gX9_37 C (pc := 8) dX9_carryOut_8 ?_
    refine v_iload_n C (pc := 11) 3 dX9_carryOut_11 rfl rfl ?_
    refine v_iload_n C (pc := 12) 1 dX9_carryOut_12 rfl rfl ?_
    refine v_iload_n C (pc := 13) 3 dX9_carryOut_13 rfl rfl ?_
    refine v_ishr C (pc := 14) dX9_carryOut_14 ?_
    refine v_iconst C (pc := 15) 1 dX9_carryOut_15 rfl ?_
    refine v_iand C (pc := 16) dX9_carryOut_16 ?_
    refine v_iconst C (pc := 17) 1 dX9_carryOut_17 rfl ?_
    refine v_icmp_ne C (pc := 18) hm 34 dX9_carryOut_18 rfl (fun hm => ?_) (fun hm => ?_)
    · refine v_aload_n C (pc := 34) 0 dX9_carryOut_34 rfl rfl ?_
      refine gX9_37 C (pc := 35) dX9_carryOut_35 ?_
      refine v_iload_n C (pc := 38) 3 dX9_carryOut_38 rfl rfl ?_
      refine ldX9_placeOf C (pc := 39) hm dX9_carryOut_39 (fun hm => ?_)
      exact (vX9_carryOut_40 C hr hQ (N := N) hk2 hm)
    · refine v_aload_n C (pc := 21) 0 dX9_carryOut_21 rfl rfl ?_
      refine gX9_37 C (pc := 22) dX9_carryOut_22 ?_
      refine v_iload_n C (pc := 25) 3 dX9_carryOut_25 rfl rfl ?_
      refine ldX9_placeOf C (pc := 26) hm dX9_carryOut_26 (fun hm => ?_)
      refine v_iload_n C (pc := 27) 2 dX9_carryOut_27 rfl rfl ?_
      refine kX9_211 C (Nat.le_of_ble_eq_true rfl) (Nat.le_of_ble_eq_true rfl) (pc := 28) hm (Nat.le_of_ble_eq_true rfl) dX9_carryOut_28 (fun r3 S5 hm => ?_)
      refine v_goto C (pc := 31) 40 dX9_carryOut_31 rfl ?_
      exact (vX9_carryOut_40 C hr hQ (N := N) hk2 hm)
theorem vX9_carryOut_2 {p : Program} {l : Launch} {e : Env} {s : State} {m : MethodId} {args : Array Value} {below : List Frame} {meth : Method} {c : Code} {Q : State → Prop} {D : va_G} {ad : Nat → Nat} {cA : Nat → ClassId} (C : Ok p s m args c D cA (mW ad cA) (mA ad) mS RX9 cX9_carryOut 4) (hr : Rt meth none) {r : Unit × St} (hQ : Q = MQ below (Qo D (mW ad cA) (mA ad) (none) r.2) args s 0 0 (mA ad)) {N : Nat}  (n : Nat) : ∀ (x1 : Int32) (x2 : Int32) (x3 : Int32) (S : St), fX9_carryOut_2 N  n x1 x2 x3 S = some r → V p l e rmX9_carryOut s m args below meth c Q D (mW ad cA) (mA ad) 4 S 2 [(0, .ref (ad 0)), (1, .int x1), (2, .int x2), (3, .int x3)] [] := by
  induction n with
  | zero => intro _ _ _ _  hm; exact absurd hm (by intro h; cases h)
  | succ n ih => intro _ _ _ _  hm; exact vX9_carryOut_2b C hr hQ (N := N)   ih  hm
def fX9_carryOut (N : Nat) (p1 : Int32) (p2 : Int32) (S : St) : Option (Unit × St) := fX9_carryOut_2 N N p1 p2 0 S
set_option maxRecDepth 20000 in
theorem vX9_carryOut {p : Program} {l : Launch} {e : Env} {s : State} {m : MethodId} {args : Array Value} {below : List Frame} {meth : Method} {c : Code} {Q : State → Prop} {D : va_G} {ad : Nat → Nat} {cA : Nat → ClassId} (C : Ok p s m args c D cA (mW ad cA) (mA ad) mS RX9 cX9_carryOut 4) (hr : Rt meth none) {r : Unit × St} (hQ : Q = MQ below (Qo D (mW ad cA) (mA ad) (none) r.2) args s 0 0 (mA ad)) {N : Nat} {p1 : Int32} {p2 : Int32} {S : St} (hm : fX9_carryOut N p1 p2 S = some r) : V p l e rmX9_carryOut s m args below meth c Q D (mW ad cA) (mA ad) 4 S 0 [(0, .ref (ad 0)), (1, .int p1), (2, .int p2)] [] := by
  unfold fX9_carryOut at hm
  refine v_iconst C (pc := 0) 0 dX9_carryOut_0 rfl ?_
  refine v_istore_n C (pc := 1) [(3, .int 0), (0, .ref (ad 0)), (1, .int p1), (2, .int p2)] dX9_carryOut_1 rfl (by decide) rfl ?_
  exact v_sub [1, 2, 3, 0] rfl (vX9_carryOut_2 C hr hQ (N := N) N _ _ _ _ hm)
theorem mX9_carryOut {l : Launch} {D : va_G} {ad : Nat → Nat} {cA : Nat → ClassId} (hD : ∀ S, va_D (mA ad) (mW ad cA S)) {N : Nat} {p1 : Int32} {p2 : Int32} {S : St} {r : Unit × St} (hm : fX9_carryOut N p1 p2 S = some r) : Met l yX9_carryOut (wsm yX9_carryOut cX9_carryOut 4 none) rmX9_carryOut (va_Pc [.ref (ad 0), .int p1, .int p2] (Pre D cA (mW ad cA) mS S)) (Qo D (mW ad cA) (mA ad) (none) r.2) 0 0 (mA ad) := met_of [.ref (ad 0), .int p1, .int p2] (by decide) (Nat.le_of_ble_eq_true rfl) hD (fun _ _ _ _ h => h) (fun _ _ _ _ h => h) (fun p e s m below meth c C hr => vX9_carryOut C hr rfl (N := N)  hm)
-- X9_weightBy
def rmX9_weightBy : Room := { frames := 0, cells := 0, slots := 0, locals := 0 }
def fX9_weightBy_4b (N : Nat)  (k4 : Int32 → Int32 → Int32 → St → Option (Int32 × St)) (x1 : Int32) (x2 : Int32) (x3 : Int32) (S : St) : Option (Int32 × St) := if 5 ≤ x3 then (some (x2, S)) else (ck x3 5 (nm (x2 + (((x1 >>> (x3 &&& 31)) &&& 1) * (S.2.2.1 5 (Int32.toNatClampNeg x3)))) fun y3 => k4 x1 y3 (x3 + 1) S))
def fX9_weightBy_4 (N : Nat)  : Nat → Int32 → Int32 → Int32 → St → Option (Int32 × St)
  | 0 => fun _ _ _ _ => none
  | n + 1 => fun x1 x2 x3 S => fX9_weightBy_4b N  (fX9_weightBy_4 N  n) x1 x2 x3 S
set_option maxRecDepth 20000 in
theorem vX9_weightBy_4b {p : Program} {l : Launch} {e : Env} {s : State} {m : MethodId} {args : Array Value} {below : List Frame} {meth : Method} {c : Code} {Q : State → Prop} {D : va_G} {ad : Nat → Nat} {cA : Nat → ClassId} (C : Ok p s m args c D cA (mW ad cA) (mA ad) mS RX9 cX9_weightBy 4) (hr : Rt meth (some .int)) {r : Int32 × St} (hQ : Q = MQ below (Qo D (mW ad cA) (mA ad) (some (.int r.1)) r.2) args s 0 0 (mA ad)) {N : Nat}  {k4 : Int32 → Int32 → Int32 → St → Option (Int32 × St)} (hk4 : ∀ (x1 : Int32) (x2 : Int32) (x3 : Int32) (S : St), k4 x1 x2 x3 S = some r → V p l e rmX9_weightBy s m args below meth c Q D (mW ad cA) (mA ad) 4 S 4 [(0, .ref (ad 0)), (1, .int x1), (2, .int x2), (3, .int x3)] []) {x1 : Int32} {x2 : Int32} {x3 : Int32}  {S : St} (hm : fX9_weightBy_4b N  k4 x1 x2 x3 S = some r) : V p l e rmX9_weightBy s m args below meth c Q D (mW ad cA) (mA ad) 4 S 4 [(0, .ref (ad 0)), (1, .int x1), (2, .int x2), (3, .int x3)] [] := by
  unfold fX9_weightBy_4b at hm
  refine v_iload_n C (pc := 4) 3 dX9_weightBy_4 rfl rfl ?_
  refine v_iconst C (pc := 5) 5 dX9_weightBy_5 rfl ?_
  refine v_icmp_ge C (pc := 6) hm 30 dX9_weightBy_6 rfl (fun hm => ?_) (fun hm => ?_)
  · refine v_iload_n C (pc := 30) 2 dX9_weightBy_30 rfl rfl ?_
    exact v_iret C hr hQ (pc := 31) hm dX9_weightBy_31
  · refine v_iload_n C (pc := 9) 2 dX9_weightBy_9 rfl rfl ?_
    refine v_iload_n C (pc := 10) 1 dX9_weightBy_10 rfl rfl ?_
    refine v_iload_n C (pc := 11) 3 dX9_weightBy_11 rfl rfl ?_
    refine v_ishr C (pc := 12) dX9_weightBy_12 ?_
    refine v_iconst C (pc := 13) 1 dX9_weightBy_13 rfl ?_
    refine v_iand C (pc := 14) dX9_weightBy_14 ?_
    refine v_aload_n C (pc := 15) 0 dX9_weightBy_15 rfl rfl ?_
    refine gX9_25 C (pc := 16) dX9_weightBy_16 ?_
    refine v_iload_n C (pc := 19) 3 dX9_weightBy_19 rfl rfl ?_
    refine ldX9_weightOf C (pc := 20) hm dX9_weightBy_20 (fun hm => ?_)
    refine v_imul C (pc := 21) dX9_weightBy_21 ?_
    refine v_iadd C (pc := 22) dX9_weightBy_22 ?_
    refine v_istore_nN C (pc := 23) [(0, .ref (ad 0)), (1, .int x1), (3, .int x3)] hm dX9_weightBy_23 rfl (by decide) rfl (fun y3 hm => ?_)
    refine v_iinc C (pc := 24) 1 3 [(3, .int (x3 + 1)), (2, .int y3), (0, .ref (ad 0)), (1, .int x1)] dX9_weightBy_24 rfl rfl (by decide) rfl ?_
    refine v_goto C (pc := 27) 4 dX9_weightBy_27 rfl ?_
    exact v_sub [2, 3, 1, 0] rfl (hk4 _ _ _ _ hm)
theorem vX9_weightBy_4 {p : Program} {l : Launch} {e : Env} {s : State} {m : MethodId} {args : Array Value} {below : List Frame} {meth : Method} {c : Code} {Q : State → Prop} {D : va_G} {ad : Nat → Nat} {cA : Nat → ClassId} (C : Ok p s m args c D cA (mW ad cA) (mA ad) mS RX9 cX9_weightBy 4) (hr : Rt meth (some .int)) {r : Int32 × St} (hQ : Q = MQ below (Qo D (mW ad cA) (mA ad) (some (.int r.1)) r.2) args s 0 0 (mA ad)) {N : Nat}  (n : Nat) : ∀ (x1 : Int32) (x2 : Int32) (x3 : Int32) (S : St), fX9_weightBy_4 N  n x1 x2 x3 S = some r → V p l e rmX9_weightBy s m args below meth c Q D (mW ad cA) (mA ad) 4 S 4 [(0, .ref (ad 0)), (1, .int x1), (2, .int x2), (3, .int x3)] [] := by
  induction n with
  | zero => intro _ _ _ _  hm; exact absurd hm (by intro h; cases h)
  | succ n ih => intro _ _ _ _  hm; exact vX9_weightBy_4b C hr hQ (N := N)   ih  hm
def fX9_weightBy (N : Nat) (p1 : Int32) (S : St) : Option (Int32 × St) := fX9_weightBy_4 N N p1 0 0 S
set_option maxRecDepth 20000 in
theorem vX9_weightBy {p : Program} {l : Launch} {e : Env} {s : State} {m : MethodId} {args : Array Value} {below : List Frame} {meth : Method} {c : Code} {Q : State → Prop} {D : va_G} {ad : Nat → Nat} {cA : Nat → ClassId} (C : Ok p s m args c D cA (mW ad cA) (mA ad) mS RX9 cX9_weightBy 4) (hr : Rt meth (some .int)) {r : Int32 × St} (hQ : Q = MQ below (Qo D (mW ad cA) (mA ad) (some (.int r.1)) r.2) args s 0 0 (mA ad)) {N : Nat} {p1 : Int32} {S : St} (hm : fX9_weightBy N p1 S = some r) : V p l e rmX9_weightBy s m args below meth c Q D (mW ad cA) (mA ad) 4 S 0 [(0, .ref (ad 0)), (1, .int p1)] [] := by
  unfold fX9_weightBy at hm
  refine v_iconst C (pc := 0) 0 dX9_weightBy_0 rfl ?_
  refine v_istore_n C (pc := 1) [(2, .int 0), (0, .ref (ad 0)), (1, .int p1)] dX9_weightBy_1 rfl (by decide) rfl ?_
  refine v_iconst C (pc := 2) 0 dX9_weightBy_2 rfl ?_
  refine v_istore_n C (pc := 3) [(3, .int 0), (2, .int 0), (0, .ref (ad 0)), (1, .int p1)] dX9_weightBy_3 rfl (by decide) rfl ?_
  exact v_sub [2, 3, 1, 0] rfl (vX9_weightBy_4 C hr hQ (N := N) N _ _ _ _ hm)
theorem mX9_weightBy {l : Launch} {D : va_G} {ad : Nat → Nat} {cA : Nat → ClassId} (hD : ∀ S, va_D (mA ad) (mW ad cA S)) {N : Nat} {p1 : Int32} {S : St} {r : Int32 × St} (hm : fX9_weightBy N p1 S = some r) : Met l yX9_weightBy (wsm yX9_weightBy cX9_weightBy 4 (some .int)) rmX9_weightBy (va_Pc [.ref (ad 0), .int p1] (Pre D cA (mW ad cA) mS S)) (Qo D (mW ad cA) (mA ad) (some (.int r.1)) r.2) 0 0 (mA ad) := met_of [.ref (ad 0), .int p1] (by decide) (Nat.le_of_ble_eq_true rfl) hD (fun _ _ _ _ h => h) (fun _ _ _ _ h => h) (fun p e s m below meth c C hr => vX9_weightBy C hr rfl (N := N)  hm)
-- X9_makes
theorem infX9_weightBy : InfV yX9_weightBy cX9_weightBy 4 (some .int) 1 := ⟨⟨gm (i := 65) (by decide +kernel) rfl, gm (i := 1050) (by decide +kernel) rfl, by decide +kernel⟩, gm (i := 1049) (by decide +kernel) rfl, gm (i := 34) (by decide +kernel) rfl⟩
theorem kX9_214 {p : Program} {l : Launch} {e : Env} {R : Room} {s : State} {m : MethodId} {args : Array Value} {below : List Frame} {meth : Method} {c : Code} {Q : State → Prop} {D : va_G} {ad : Nat → Nat} {cA : Nat → ClassId} {cc : ByteArray} {nL : Nat} {S : St} {pc : Nat} {lv : List (Nat × Value)} {st : List Value} {ρ : Type} {res : ρ} (C : Ok p s m args c D cA (mW ad cA) (mA ad) mS RX9 cc nL) (hfr : rmX9_weightBy.frames + 1 ≤ R.frames) (hlo : 8 + (4 + 11) + rmX9_weightBy.locals ≤ R.locals) {N : Nat} {p1 : Int32} {E : Int32 → St → Option ρ} (hm : bd (fX9_weightBy N p1 S) E = some res) (hcat : (st.map fun v => v.category).sum ≤ 8) (hd : decode cc pc = .ok (.invokevirtual 214, 3)) (k : ∀ r S, E r S = some res → V p l e R s m args below meth c Q D (mW ad cA) (mA ad) nL S (pc + 3) lv (.int r :: st)) : V p l e R s m args below meth c Q D (mW ad cA) (mA ad) nL S pc lv (.int p1 :: .ref (ad 0) :: st) := by
  obtain ⟨r, S1, h1, h2⟩ := bd_some hm
  exact v_callV C (gm (i := 1047) (by decide +kernel) rfl : Cond.methodLink RX9 214 yX9_weightBy ∈ gw_tbl) infX9_weightBy (rm2 := rmX9_weightBy) ⟨rfl, rfl⟩ hfr hlo (mX9_weightBy C.2.2.2.2.2.2.1 h1) (As := [.int p1]) (oX9 ad cA S) rfl rfl rfl rfl hcat hd (k r S1 h2)
theorem infX9_packed : InfV yX9_packed cX9_packed 4 (some .long) 0 := ⟨⟨gm (i := 65) (by decide +kernel) rfl, gm (i := 1054) (by decide +kernel) rfl, by decide +kernel⟩, gm (i := 1053) (by decide +kernel) rfl, gm (i := 35) (by decide +kernel) rfl⟩
theorem kX9_217 {p : Program} {l : Launch} {e : Env} {R : Room} {s : State} {m : MethodId} {args : Array Value} {below : List Frame} {meth : Method} {c : Code} {Q : State → Prop} {D : va_G} {ad : Nat → Nat} {cA : Nat → ClassId} {cc : ByteArray} {nL : Nat} {S : St} {pc : Nat} {lv : List (Nat × Value)} {st : List Value} {ρ : Type} {res : ρ} (C : Ok p s m args c D cA (mW ad cA) (mA ad) mS RX9 cc nL) (hfr : rmX9_packed.frames + 1 ≤ R.frames) (hlo : 8 + (4 + 11) + rmX9_packed.locals ≤ R.locals) {N : Nat}  {E : Int64 → St → Option ρ} (hm : bd (fX9_packed N  S) E = some res) (hcat : (st.map fun v => v.category).sum ≤ 8) (hd : decode cc pc = .ok (.invokevirtual 217, 3)) (k : ∀ r S, E r S = some res → V p l e R s m args below meth c Q D (mW ad cA) (mA ad) nL S (pc + 3) lv (.long r :: st)) : V p l e R s m args below meth c Q D (mW ad cA) (mA ad) nL S pc lv (.ref (ad 0) :: st) := by
  obtain ⟨r, S1, h1, h2⟩ := bd_some hm
  exact v_callV C (gm (i := 1051) (by decide +kernel) rfl : Cond.methodLink RX9 217 yX9_packed ∈ gw_tbl) infX9_packed (rm2 := rmX9_packed) ⟨rfl, rfl⟩ hfr hlo (mX9_packed C.2.2.2.2.2.2.1 h1) (As := []) (oX9 ad cA S) rfl rfl rfl rfl hcat hd (k r S1 h2)
theorem infX9_carryOut : InfV yX9_carryOut cX9_carryOut 4 none 2 := ⟨⟨gm (i := 65) (by decide +kernel) rfl, gm (i := 1059) (by decide +kernel) rfl, by decide +kernel⟩, gm (i := 1058) (by decide +kernel) rfl, gm (i := 36) (by decide +kernel) rfl⟩
theorem kX9_221 {p : Program} {l : Launch} {e : Env} {R : Room} {s : State} {m : MethodId} {args : Array Value} {below : List Frame} {meth : Method} {c : Code} {Q : State → Prop} {D : va_G} {ad : Nat → Nat} {cA : Nat → ClassId} {cc : ByteArray} {nL : Nat} {S : St} {pc : Nat} {lv : List (Nat × Value)} {st : List Value} {ρ : Type} {res : ρ} (C : Ok p s m args c D cA (mW ad cA) (mA ad) mS RX9 cc nL) (hfr : rmX9_carryOut.frames + 1 ≤ R.frames) (hlo : 8 + (4 + 11) + rmX9_carryOut.locals ≤ R.locals) {N : Nat} {p1 : Int32} {p2 : Int32} {E : Unit → St → Option ρ} (hm : bd (fX9_carryOut N p1 p2 S) E = some res) (hcat : (st.map fun v => v.category).sum ≤ 8) (hd : decode cc pc = .ok (.invokevirtual 221, 3)) (k : ∀ r S, E r S = some res → V p l e R s m args below meth c Q D (mW ad cA) (mA ad) nL S (pc + 3) lv (st)) : V p l e R s m args below meth c Q D (mW ad cA) (mA ad) nL S pc lv (.int p2 :: .int p1 :: .ref (ad 0) :: st) := by
  obtain ⟨r, S1, h1, h2⟩ := bd_some hm
  exact v_callV C (gm (i := 1056) (by decide +kernel) rfl : Cond.methodLink RX9 221 yX9_carryOut ∈ gw_tbl) infX9_carryOut (rm2 := rmX9_carryOut) ⟨rfl, rfl⟩ hfr hlo (mX9_carryOut C.2.2.2.2.2.2.1 h1) (As := [.int p1, .int p2]) (oX9 ad cA S) rfl rfl rfl rfl hcat hd (k r S1 h2)
def rmX9_makes : Room := { frames := 3, cells := 0, slots := 0, locals := 64 }
def fX9_makes (N : Nat) (p1 : Int32) (p2 : Int32) (p3 : Int32) (S : St) : Option (Unit × St) := ck (S.1 8) 200 (stp (sA S 20 (Int32.toNatClampNeg (S.1 8)) ((10 * p1) + p2)) fun S11 => bd (fX9_weightBy N p3 S11) fun r5 S12 => ck (S11.1 8) 200 (stp (sA S12 21 (Int32.toNatClampNeg (S11.1 8)) r5) fun S13 => bd (fX9_packed N  S13) fun r6 S14 => ck (S13.1 8) 200 (stp (sL S14 0 (Int32.toNatClampNeg (S13.1 8)) r6) fun S15 => bd (fX9_carryOut N p3 p2 S15) fun r7 S16 => bd (fX9_packed N  S16) fun r8 S17 => ck (S16.1 8) 200 (stp (sL S17 1 (Int32.toNatClampNeg (S16.1 8)) r8) fun S18 => stp (sI S18 8 ((S18.1 8) + 1)) fun S19 => stp (sI S19 9 (S19.1 8)) fun S20 => some ((), S20)))))
set_option maxRecDepth 20000 in
theorem vX9_makes {p : Program} {l : Launch} {e : Env} {s : State} {m : MethodId} {args : Array Value} {below : List Frame} {meth : Method} {c : Code} {Q : State → Prop} {D : va_G} {ad : Nat → Nat} {cA : Nat → ClassId} (C : Ok p s m args c D cA (mW ad cA) (mA ad) mS RX9 cX9_makes 4) (hr : Rt meth none) {r : Unit × St} (hQ : Q = MQ below (Qo D (mW ad cA) (mA ad) (none) r.2) args s 0 0 (mA ad)) {N : Nat} {p1 : Int32} {p2 : Int32} {p3 : Int32} {S : St} (hm : fX9_makes N p1 p2 p3 S = some r) : V p l e rmX9_makes s m args below meth c Q D (mW ad cA) (mA ad) 4 S 0 [(0, .ref (ad 0)), (1, .int p1), (2, .int p2), (3, .int p3)] [] := by
  unfold fX9_makes at hm
  refine v_aload_n C (pc := 0) 0 dX9_makes_0 rfl rfl ?_
  refine gX9_71 C (pc := 1) dX9_makes_1 ?_
  refine v_aload_n C (pc := 4) 0 dX9_makes_4 rfl rfl ?_
  refine gX9_153 C (pc := 5) dX9_makes_5 ?_
  refine v_bipush C (pc := 8) 10 dX9_makes_8 rfl ?_
  refine v_iload_n C (pc := 10) 1 dX9_makes_10 rfl rfl ?_
  refine v_imul C (pc := 11) dX9_makes_11 ?_
  refine v_iload_n C (pc := 12) 2 dX9_makes_12 rfl rfl ?_
  refine v_iadd C (pc := 13) dX9_makes_13 ?_
  refine stX9_moveOf C (pc := 14) hm dX9_makes_14 (fun S11 hm => ?_)
  refine v_aload_n C (pc := 15) 0 dX9_makes_15 rfl rfl ?_
  refine gX9_74 C (pc := 16) dX9_makes_16 ?_
  refine v_aload_n C (pc := 19) 0 dX9_makes_19 rfl rfl ?_
  refine gX9_153 C (pc := 20) dX9_makes_20 ?_
  refine v_aload_n C (pc := 23) 0 dX9_makes_23 rfl rfl ?_
  refine v_iload_n C (pc := 24) 3 dX9_makes_24 rfl rfl ?_
  refine kX9_214 C (Nat.le_of_ble_eq_true rfl) (Nat.le_of_ble_eq_true rfl) (pc := 25) hm (Nat.le_of_ble_eq_true rfl) dX9_makes_25 (fun r5 S12 hm => ?_)
  refine stX9_effortOf C (pc := 28) hm dX9_makes_28 (fun S13 hm => ?_)
  refine v_aload_n C (pc := 29) 0 dX9_makes_29 rfl rfl ?_
  refine gX9_77 C (pc := 30) dX9_makes_30 ?_
  refine v_aload_n C (pc := 33) 0 dX9_makes_33 rfl rfl ?_
  refine gX9_153 C (pc := 34) dX9_makes_34 ?_
  refine v_aload_n C (pc := 37) 0 dX9_makes_37 rfl rfl ?_
  refine kX9_217 C (Nat.le_of_ble_eq_true rfl) (Nat.le_of_ble_eq_true rfl) (pc := 38) hm (Nat.le_of_ble_eq_true rfl) dX9_makes_38 (fun r6 S14 hm => ?_)
  refine stX9_beforeOf C (pc := 41) hm dX9_makes_41 (fun S15 hm => ?_)
  refine v_aload_n C (pc := 42) 0 dX9_makes_42 rfl rfl ?_
  refine v_iload_n C (pc := 43) 3 dX9_makes_43 rfl rfl ?_
  refine v_iload_n C (pc := 44) 2 dX9_makes_44 rfl rfl ?_
  refine kX9_221 C (Nat.le_of_ble_eq_true rfl) (Nat.le_of_ble_eq_true rfl) (pc := 45) hm (Nat.le_of_ble_eq_true rfl) dX9_makes_45 (fun r7 S16 hm => ?_)
  refine v_aload_n C (pc := 48) 0 dX9_makes_48 rfl rfl ?_
  refine gX9_81 C (pc := 49) dX9_makes_49 ?_
  refine v_aload_n C (pc := 52) 0 dX9_makes_52 rfl rfl ?_
  refine gX9_153 C (pc := 53) dX9_makes_53 ?_
  refine v_aload_n C (pc := 56) 0 dX9_makes_56 rfl rfl ?_
  refine kX9_217 C (Nat.le_of_ble_eq_true rfl) (Nat.le_of_ble_eq_true rfl) (pc := 57) hm (Nat.le_of_ble_eq_true rfl) dX9_makes_57 (fun r8 S17 hm => ?_)
  refine stX9_afterOf C (pc := 60) hm dX9_makes_60 (fun S18 hm => ?_)
  refine v_aload_n C (pc := 61) 0 dX9_makes_61 rfl rfl ?_
  refine v_dup C (pc := 62) dX9_makes_62 rfl ?_
  refine gX9_153 C (pc := 63) dX9_makes_63 ?_
  refine v_iconst C (pc := 66) 1 dX9_makes_66 rfl ?_
  refine v_iadd C (pc := 67) dX9_makes_67 ?_
  refine pX9_153 C (pc := 68) hm dX9_makes_68 (fun S19 hm => ?_)
  refine v_aload_n C (pc := 71) 0 dX9_makes_71 rfl rfl ?_
  refine v_aload_n C (pc := 72) 0 dX9_makes_72 rfl rfl ?_
  refine gX9_153 C (pc := 73) dX9_makes_73 ?_
  refine pX9_156 C (pc := 76) hm dX9_makes_76 (fun S20 hm => ?_)
  exact v_vret C hr hQ (x := ()) (pc := 79) hm dX9_makes_79
theorem mX9_makes {l : Launch} {D : va_G} {ad : Nat → Nat} {cA : Nat → ClassId} (hD : ∀ S, va_D (mA ad) (mW ad cA S)) {N : Nat} {p1 : Int32} {p2 : Int32} {p3 : Int32} {S : St} {r : Unit × St} (hm : fX9_makes N p1 p2 p3 S = some r) : Met l yX9_makes (wsm yX9_makes cX9_makes 4 none) rmX9_makes (va_Pc [.ref (ad 0), .int p1, .int p2, .int p3] (Pre D cA (mW ad cA) mS S)) (Qo D (mW ad cA) (mA ad) (none) r.2) 0 0 (mA ad) := met_of [.ref (ad 0), .int p1, .int p2, .int p3] (by decide) (Nat.le_of_ble_eq_true rfl) hD (fun _ _ _ _ h => h) (fun _ _ _ _ h => h) (fun p e s m below meth c C hr => vX9_makes C hr rfl (N := N)  hm)
-- X9_moveBarred
theorem infX9_noBlock : InfV yX9_noBlock cX9_noBlock 2 (some .boolean) 1 := ⟨⟨gm (i := 65) (by decide +kernel) rfl, gm (i := 976) (by decide +kernel) rfl, by decide +kernel⟩, gm (i := 975) (by decide +kernel) rfl, gm (i := 21) (by decide +kernel) rfl⟩
theorem kX9_225 {p : Program} {l : Launch} {e : Env} {R : Room} {s : State} {m : MethodId} {args : Array Value} {below : List Frame} {meth : Method} {c : Code} {Q : State → Prop} {D : va_G} {ad : Nat → Nat} {cA : Nat → ClassId} {cc : ByteArray} {nL : Nat} {S : St} {pc : Nat} {lv : List (Nat × Value)} {st : List Value} {ρ : Type} {res : ρ} (C : Ok p s m args c D cA (mW ad cA) (mA ad) mS RX9 cc nL) (hfr : rmX9_noBlock.frames + 1 ≤ R.frames) (hlo : 8 + (2 + 11) + rmX9_noBlock.locals ≤ R.locals) {N : Nat} {p1 : Int32} {E : Bool → St → Option ρ} (hm : bd (fX9_noBlock N p1 S) E = some res) (hcat : (st.map fun v => v.category).sum ≤ 8) (hd : decode cc pc = .ok (.invokevirtual 225, 3)) (k : ∀ r S, E r S = some res → V p l e R s m args below meth c Q D (mW ad cA) (mA ad) nL S (pc + 3) lv (.int (b2i r) :: st)) : V p l e R s m args below meth c Q D (mW ad cA) (mA ad) nL S pc lv (.int p1 :: .ref (ad 0) :: st) := by
  obtain ⟨r, S1, h1, h2⟩ := bd_some hm
  exact v_callV C (gm (i := 973) (by decide +kernel) rfl : Cond.methodLink RX9 225 yX9_noBlock ∈ gw_tbl) infX9_noBlock (rm2 := rmX9_noBlock) ⟨rfl, rfl⟩ hfr hlo (mX9_noBlock C.2.2.2.2.2.2.1 h1) (As := [.int p1]) (oX9 ad cA S) rfl rfl rfl rfl hcat hd (k r S1 h2)
def rmX9_moveBarred : Room := { frames := 2, cells := 0, slots := 0, locals := 43 }
def fX9_moveBarred_27 (N : Nat)  (s0 : Int32) (S : St) : Option (Int32 × St) := some (s0, S)
set_option maxRecDepth 20000 in
theorem vX9_moveBarred_27 {p : Program} {l : Launch} {e : Env} {s : State} {m : MethodId} {args : Array Value} {below : List Frame} {meth : Method} {c : Code} {Q : State → Prop} {D : va_G} {ad : Nat → Nat} {cA : Nat → ClassId} (C : Ok p s m args c D cA (mW ad cA) (mA ad) mS RX9 cX9_moveBarred 3) (hr : Rt meth (some .int)) {r : Int32 × St} (hQ : Q = MQ below (Qo D (mW ad cA) (mA ad) (some (.int r.1)) r.2) args s 0 0 (mA ad)) {N : Nat}  {s0 : Int32}  {S : St} (hm : fX9_moveBarred_27 N  s0 S = some r) : V p l e rmX9_moveBarred s m args below meth c Q D (mW ad cA) (mA ad) 3 S 27 [] [.int s0] := by
  unfold fX9_moveBarred_27 at hm
  exact v_iret C hr hQ (pc := 27) hm dX9_moveBarred_27
def fX9_moveBarred (N : Nat) (p1 : Int32) (p2 : Int32) (S : St) : Option (Int32 × St) := bd (fX9_noBlock N p1 S) fun r3 S3 => if (b2i r3) = 0 then (bd (fX9_in N p2 0 5 S3) fun r4 S4 => if (b2i r4) = 0 then (fX9_moveBarred_27 N (-3) S4) else (fX9_moveBarred_27 N 0 S4)) else (fX9_moveBarred_27 N (-1) S3)
set_option maxRecDepth 20000 in
theorem vX9_moveBarred {p : Program} {l : Launch} {e : Env} {s : State} {m : MethodId} {args : Array Value} {below : List Frame} {meth : Method} {c : Code} {Q : State → Prop} {D : va_G} {ad : Nat → Nat} {cA : Nat → ClassId} (C : Ok p s m args c D cA (mW ad cA) (mA ad) mS RX9 cX9_moveBarred 3) (hr : Rt meth (some .int)) {r : Int32 × St} (hQ : Q = MQ below (Qo D (mW ad cA) (mA ad) (some (.int r.1)) r.2) args s 0 0 (mA ad)) {N : Nat} {p1 : Int32} {p2 : Int32} {S : St} (hm : fX9_moveBarred N p1 p2 S = some r) : V p l e rmX9_moveBarred s m args below meth c Q D (mW ad cA) (mA ad) 3 S 0 [(0, .ref (ad 0)), (1, .int p1), (2, .int p2)] [] := by
  unfold fX9_moveBarred at hm
  refine v_aload_n C (pc := 0) 0 dX9_moveBarred_0 rfl rfl ?_
  refine v_iload_n C (pc := 1) 1 dX9_moveBarred_1 rfl rfl ?_
  refine kX9_225 C (Nat.le_of_ble_eq_true rfl) (Nat.le_of_ble_eq_true rfl) (pc := 2) hm (Nat.le_of_ble_eq_true rfl) dX9_moveBarred_2 (fun r3 S3 hm => ?_)
  refine v_if_eq C (pc := 5) hm 12 dX9_moveBarred_5 rfl (fun hm => ?_) (fun hm => ?_)
  · refine v_iload_n C (pc := 12) 2 dX9_moveBarred_12 rfl rfl ?_
    refine v_iconst C (pc := 13) 0 dX9_moveBarred_13 rfl ?_
    refine v_iconst C (pc := 14) 5 dX9_moveBarred_14 rfl ?_
    refine kX9_119 C (Nat.le_of_ble_eq_true rfl) (Nat.le_of_ble_eq_true rfl) (pc := 15) hm (Nat.le_of_ble_eq_true rfl) dX9_moveBarred_15 (fun r4 S4 hm => ?_)
    refine v_if_eq C (pc := 18) hm 25 dX9_moveBarred_18 rfl (fun hm => ?_) (fun hm => ?_)
    · refine v_bipush C (pc := 25) (-3) dX9_moveBarred_25 rfl ?_
      exact v_sub [] rfl (vX9_moveBarred_27 C hr hQ (N := N) hm)
    · refine v_iconst C (pc := 21) 0 dX9_moveBarred_21 rfl ?_
      refine v_goto C (pc := 22) 27 dX9_moveBarred_22 rfl ?_
      exact v_sub [] rfl (vX9_moveBarred_27 C hr hQ (N := N) hm)
  · refine v_iconst C (pc := 8) (-1) dX9_moveBarred_8 rfl ?_
    refine v_goto C (pc := 9) 27 dX9_moveBarred_9 rfl ?_
    exact v_sub [] rfl (vX9_moveBarred_27 C hr hQ (N := N) hm)
theorem mX9_moveBarred {l : Launch} {D : va_G} {ad : Nat → Nat} {cA : Nat → ClassId} (hD : ∀ S, va_D (mA ad) (mW ad cA S)) {N : Nat} {p1 : Int32} {p2 : Int32} {S : St} {r : Int32 × St} (hm : fX9_moveBarred N p1 p2 S = some r) : Met l yX9_moveBarred (wsm yX9_moveBarred cX9_moveBarred 3 (some .int)) rmX9_moveBarred (va_Pc [.ref (ad 0), .int p1, .int p2] (Pre D cA (mW ad cA) mS S)) (Qo D (mW ad cA) (mA ad) (some (.int r.1)) r.2) 0 0 (mA ad) := met_of [.ref (ad 0), .int p1, .int p2] (by decide) (Nat.le_of_ble_eq_true rfl) hD (fun _ _ _ _ h => h) (fun _ _ _ _ h => h) (fun p e s m below meth c C hr => vX9_moveBarred C hr rfl (N := N)  hm)
-- X9_moved
theorem infX9_moveBarred : InfV yX9_moveBarred cX9_moveBarred 3 (some .int) 2 := ⟨⟨gm (i := 65) (by decide +kernel) rfl, gm (i := 972) (by decide +kernel) rfl, by decide +kernel⟩, gm (i := 971) (by decide +kernel) rfl, gm (i := 20) (by decide +kernel) rfl⟩
theorem kX9_229 {p : Program} {l : Launch} {e : Env} {R : Room} {s : State} {m : MethodId} {args : Array Value} {below : List Frame} {meth : Method} {c : Code} {Q : State → Prop} {D : va_G} {ad : Nat → Nat} {cA : Nat → ClassId} {cc : ByteArray} {nL : Nat} {S : St} {pc : Nat} {lv : List (Nat × Value)} {st : List Value} {ρ : Type} {res : ρ} (C : Ok p s m args c D cA (mW ad cA) (mA ad) mS RX9 cc nL) (hfr : rmX9_moveBarred.frames + 1 ≤ R.frames) (hlo : 8 + (3 + 11) + rmX9_moveBarred.locals ≤ R.locals) {N : Nat} {p1 : Int32} {p2 : Int32} {E : Int32 → St → Option ρ} (hm : bd (fX9_moveBarred N p1 p2 S) E = some res) (hcat : (st.map fun v => v.category).sum ≤ 8) (hd : decode cc pc = .ok (.invokevirtual 229, 3)) (k : ∀ r S, E r S = some res → V p l e R s m args below meth c Q D (mW ad cA) (mA ad) nL S (pc + 3) lv (.int r :: st)) : V p l e R s m args below meth c Q D (mW ad cA) (mA ad) nL S pc lv (.int p2 :: .int p1 :: .ref (ad 0) :: st) := by
  obtain ⟨r, S1, h1, h2⟩ := bd_some hm
  exact v_callV C (gm (i := 969) (by decide +kernel) rfl : Cond.methodLink RX9 229 yX9_moveBarred ∈ gw_tbl) infX9_moveBarred (rm2 := rmX9_moveBarred) ⟨rfl, rfl⟩ hfr hlo (mX9_moveBarred C.2.2.2.2.2.2.1 h1) (As := [.int p1, .int p2]) (oX9 ad cA S) rfl rfl rfl rfl hcat hd (k r S1 h2)
theorem infX9_movedBy : InfV yX9_movedBy cX9_movedBy 3 (some .int) 2 := ⟨⟨gm (i := 65) (by decide +kernel) rfl, gm (i := 983) (by decide +kernel) rfl, by decide +kernel⟩, gm (i := 982) (by decide +kernel) rfl, gm (i := 22) (by decide +kernel) rfl⟩
theorem kX9_232 {p : Program} {l : Launch} {e : Env} {R : Room} {s : State} {m : MethodId} {args : Array Value} {below : List Frame} {meth : Method} {c : Code} {Q : State → Prop} {D : va_G} {ad : Nat → Nat} {cA : Nat → ClassId} {cc : ByteArray} {nL : Nat} {S : St} {pc : Nat} {lv : List (Nat × Value)} {st : List Value} {ρ : Type} {res : ρ} (C : Ok p s m args c D cA (mW ad cA) (mA ad) mS RX9 cc nL) (hfr : rmX9_movedBy.frames + 1 ≤ R.frames) (hlo : 8 + (3 + 11) + rmX9_movedBy.locals ≤ R.locals) {N : Nat} {p1 : Int32} {p2 : Int32} {E : Int32 → St → Option ρ} (hm : bd (fX9_movedBy N p1 p2 S) E = some res) (hcat : (st.map fun v => v.category).sum ≤ 8) (hd : decode cc pc = .ok (.invokevirtual 232, 3)) (k : ∀ r S, E r S = some res → V p l e R s m args below meth c Q D (mW ad cA) (mA ad) nL S (pc + 3) lv (.int r :: st)) : V p l e R s m args below meth c Q D (mW ad cA) (mA ad) nL S pc lv (.int p2 :: .int p1 :: .ref (ad 0) :: st) := by
  obtain ⟨r, S1, h1, h2⟩ := bd_some hm
  exact v_callV C (gm (i := 980) (by decide +kernel) rfl : Cond.methodLink RX9 232 yX9_movedBy ∈ gw_tbl) infX9_movedBy (rm2 := rmX9_movedBy) ⟨rfl, rfl⟩ hfr hlo (mX9_movedBy C.2.2.2.2.2.2.1 h1) (As := [.int p1, .int p2]) (oX9 ad cA S) rfl rfl rfl rfl hcat hd (k r S1 h2)
def rmX9_moved : Room := { frames := 6, cells := 0, slots := 0, locals := 144 }
def fX9_moved_33 (N : Nat)  (s0 : Int32) (S : St) : Option (Int32 × St) := some (s0, S)
set_option maxRecDepth 20000 in
theorem vX9_moved_33 {p : Program} {l : Launch} {e : Env} {s : State} {m : MethodId} {args : Array Value} {below : List Frame} {meth : Method} {c : Code} {Q : State → Prop} {D : va_G} {ad : Nat → Nat} {cA : Nat → ClassId} (C : Ok p s m args c D cA (mW ad cA) (mA ad) mS RX9 cX9_moved 5) (hr : Rt meth (some .int)) {r : Int32 × St} (hQ : Q = MQ below (Qo D (mW ad cA) (mA ad) (some (.int r.1)) r.2) args s 0 0 (mA ad)) {N : Nat}  {s0 : Int32}  {S : St} (hm : fX9_moved_33 N  s0 S = some r) : V p l e rmX9_moved s m args below meth c Q D (mW ad cA) (mA ad) 5 S 33 [] [.int s0] := by
  unfold fX9_moved_33 at hm
  exact v_iret C hr hQ (pc := 33) hm dX9_moved_33
def fX9_moved (N : Nat) (p1 : Int32) (p2 : Int32) (S : St) : Option (Int32 × St) := bd (fX9_moveBarred N p1 p2 S) fun r3 S3 => if 0 ≤ r3 then (bd (fX9_movedBy N p1 p2 S3) fun r4 S4 => if r4 = 0 then (fX9_moved_33 N (-4) S4) else (fX9_moved_33 N r4 S4)) else (some (r3, S3))
set_option maxRecDepth 20000 in
theorem vX9_moved {p : Program} {l : Launch} {e : Env} {s : State} {m : MethodId} {args : Array Value} {below : List Frame} {meth : Method} {c : Code} {Q : State → Prop} {D : va_G} {ad : Nat → Nat} {cA : Nat → ClassId} (C : Ok p s m args c D cA (mW ad cA) (mA ad) mS RX9 cX9_moved 5) (hr : Rt meth (some .int)) {r : Int32 × St} (hQ : Q = MQ below (Qo D (mW ad cA) (mA ad) (some (.int r.1)) r.2) args s 0 0 (mA ad)) {N : Nat} {p1 : Int32} {p2 : Int32} {S : St} (hm : fX9_moved N p1 p2 S = some r) : V p l e rmX9_moved s m args below meth c Q D (mW ad cA) (mA ad) 5 S 0 [(0, .ref (ad 0)), (1, .int p1), (2, .int p2)] [] := by
  unfold fX9_moved at hm
  refine v_aload_n C (pc := 0) 0 dX9_moved_0 rfl rfl ?_
  refine v_iload_n C (pc := 1) 1 dX9_moved_1 rfl rfl ?_
  refine v_iload_n C (pc := 2) 2 dX9_moved_2 rfl rfl ?_
  refine kX9_229 C (Nat.le_of_ble_eq_true rfl) (Nat.le_of_ble_eq_true rfl) (pc := 3) hm (Nat.le_of_ble_eq_true rfl) dX9_moved_3 (fun r3 S3 hm => ?_)
  refine v_istore_n C (pc := 6) [(3, .int r3), (0, .ref (ad 0)), (1, .int p1), (2, .int p2)] dX9_moved_6 rfl (by decide) rfl ?_
  refine v_iload_n C (pc := 7) 0 dX9_moved_7 rfl rfl ?_
  refine v_if_ge C (pc := 8) hm 13 dX9_moved_8 rfl (fun hm => ?_) (fun hm => ?_)
  · refine v_aload_n C (pc := 13) 1 dX9_moved_13 rfl rfl ?_
    refine v_iload_n C (pc := 14) 2 dX9_moved_14 rfl rfl ?_
    refine v_iload_n C (pc := 15) 3 dX9_moved_15 rfl rfl ?_
    refine kX9_232 C (Nat.le_of_ble_eq_true rfl) (Nat.le_of_ble_eq_true rfl) (pc := 16) hm (Nat.le_of_ble_eq_true rfl) dX9_moved_16 (fun r4 S4 hm => ?_)
    refine v_istore C (pc := 19) [(4, .int r4), (3, .int r3), (0, .ref (ad 0)), (1, .int p1), (2, .int p2)] dX9_moved_19 (by decide) rfl ?_
    refine v_iload C (pc := 21) 0 dX9_moved_21 rfl ?_
    refine v_if_ne C (pc := 23) hm 31 dX9_moved_23 rfl (fun hm => ?_) (fun hm => ?_)
    · refine v_iload C (pc := 31) 0 dX9_moved_31 rfl ?_
      exact v_sub [] rfl (vX9_moved_33 C hr hQ (N := N) hm)
    · refine v_bipush C (pc := 26) (-4) dX9_moved_26 rfl ?_
      refine v_goto C (pc := 28) 33 dX9_moved_28 rfl ?_
      exact v_sub [] rfl (vX9_moved_33 C hr hQ (N := N) hm)
  · refine v_iload_n C (pc := 11) 0 dX9_moved_11 rfl rfl ?_
    exact v_iret C hr hQ (pc := 12) hm dX9_moved_12
theorem mX9_moved {l : Launch} {D : va_G} {ad : Nat → Nat} {cA : Nat → ClassId} (hD : ∀ S, va_D (mA ad) (mW ad cA S)) {N : Nat} {p1 : Int32} {p2 : Int32} {S : St} {r : Int32 × St} (hm : fX9_moved N p1 p2 S = some r) : Met l yX9_moved (wsm yX9_moved cX9_moved 5 (some .int)) rmX9_moved (va_Pc [.ref (ad 0), .int p1, .int p2] (Pre D cA (mW ad cA) mS S)) (Qo D (mW ad cA) (mA ad) (some (.int r.1)) r.2) 0 0 (mA ad) := met_of [.ref (ad 0), .int p1, .int p2] (by decide) (Nat.le_of_ble_eq_true rfl) hD (fun _ _ _ _ h => h) (fun _ _ _ _ h => h) (fun p e s m below meth c C hr => vX9_moved C hr rfl (N := N)  hm)
-- X9_move
theorem infX9_makes : InfV yX9_makes cX9_makes 4 none 3 := ⟨⟨gm (i := 65) (by decide +kernel) rfl, gm (i := 1046) (by decide +kernel) rfl, by decide +kernel⟩, gm (i := 1045) (by decide +kernel) rfl, gm (i := 33) (by decide +kernel) rfl⟩
theorem kX9_235 {p : Program} {l : Launch} {e : Env} {R : Room} {s : State} {m : MethodId} {args : Array Value} {below : List Frame} {meth : Method} {c : Code} {Q : State → Prop} {D : va_G} {ad : Nat → Nat} {cA : Nat → ClassId} {cc : ByteArray} {nL : Nat} {S : St} {pc : Nat} {lv : List (Nat × Value)} {st : List Value} {ρ : Type} {res : ρ} (C : Ok p s m args c D cA (mW ad cA) (mA ad) mS RX9 cc nL) (hfr : rmX9_makes.frames + 1 ≤ R.frames) (hlo : 8 + (4 + 11) + rmX9_makes.locals ≤ R.locals) {N : Nat} {p1 : Int32} {p2 : Int32} {p3 : Int32} {E : Unit → St → Option ρ} (hm : bd (fX9_makes N p1 p2 p3 S) E = some res) (hcat : (st.map fun v => v.category).sum ≤ 8) (hd : decode cc pc = .ok (.invokevirtual 235, 3)) (k : ∀ r S, E r S = some res → V p l e R s m args below meth c Q D (mW ad cA) (mA ad) nL S (pc + 3) lv (st)) : V p l e R s m args below meth c Q D (mW ad cA) (mA ad) nL S pc lv (.int p3 :: .int p2 :: .int p1 :: .ref (ad 0) :: st) := by
  obtain ⟨r, S1, h1, h2⟩ := bd_some hm
  exact v_callV C (gm (i := 1043) (by decide +kernel) rfl : Cond.methodLink RX9 235 yX9_makes ∈ gw_tbl) infX9_makes (rm2 := rmX9_makes) ⟨rfl, rfl⟩ hfr hlo (mX9_makes C.2.2.2.2.2.2.1 h1) (As := [.int p1, .int p2, .int p3]) (oX9 ad cA S) rfl rfl rfl rfl hcat hd (k r S1 h2)
def rmX9_move : Room := { frames := 6, cells := 0, slots := 0, locals := 144 }
def fX9_move (N : Nat) (p1 : Int32) (p2 : Int32) (S : St) : Option (Int32 × St) := bd (fX9_moveBarred N p1 p2 S) fun r4 S4 => if 0 ≤ r4 then (bd (fX9_movedBy N p1 p2 S4) fun r5 S5 => if r5 = 0 then (some ((-4), S5)) else (if (S5.1 8) = 200 then (some ((-5), S5)) else (bd (fX9_makes N p1 p2 r5 S5) fun r6 S6 => some ((S6.1 8), S6)))) else (some (r4, S4))
set_option maxRecDepth 20000 in
theorem vX9_move {p : Program} {l : Launch} {e : Env} {s : State} {m : MethodId} {args : Array Value} {below : List Frame} {meth : Method} {c : Code} {Q : State → Prop} {D : va_G} {ad : Nat → Nat} {cA : Nat → ClassId} (C : Ok p s m args c D cA (mW ad cA) (mA ad) mS RX9 cX9_move 5) (hr : Rt meth (some .int)) {r : Int32 × St} (hQ : Q = MQ below (Qo D (mW ad cA) (mA ad) (some (.int r.1)) r.2) args s 0 0 (mA ad)) {N : Nat} {p1 : Int32} {p2 : Int32} {S : St} (hm : fX9_move N p1 p2 S = some r) : V p l e rmX9_move s m args below meth c Q D (mW ad cA) (mA ad) 5 S 0 [(0, .ref (ad 0)), (1, .int p1), (2, .int p2)] [] := by
  unfold fX9_move at hm
  refine v_aload_n C (pc := 0) 0 dX9_move_0 rfl rfl ?_
  refine v_iload_n C (pc := 1) 1 dX9_move_1 rfl rfl ?_
  refine v_iload_n C (pc := 2) 2 dX9_move_2 rfl rfl ?_
  refine kX9_229 C (Nat.le_of_ble_eq_true rfl) (Nat.le_of_ble_eq_true rfl) (pc := 3) hm (Nat.le_of_ble_eq_true rfl) dX9_move_3 (fun r4 S4 hm => ?_)
  refine v_istore_n C (pc := 6) [(3, .int r4), (0, .ref (ad 0)), (1, .int p1), (2, .int p2)] dX9_move_6 rfl (by decide) rfl ?_
  refine v_iload_n C (pc := 7) 0 dX9_move_7 rfl rfl ?_
  refine v_if_ge C (pc := 8) hm 13 dX9_move_8 rfl (fun hm => ?_) (fun hm => ?_)
  · refine v_aload_n C (pc := 13) 1 dX9_move_13 rfl rfl ?_
    refine v_iload_n C (pc := 14) 2 dX9_move_14 rfl rfl ?_
    refine v_iload_n C (pc := 15) 3 dX9_move_15 rfl rfl ?_
    refine kX9_232 C (Nat.le_of_ble_eq_true rfl) (Nat.le_of_ble_eq_true rfl) (pc := 16) hm (Nat.le_of_ble_eq_true rfl) dX9_move_16 (fun r5 S5 hm => ?_)
    refine v_istore C (pc := 19) [(4, .int r5), (3, .int r4), (0, .ref (ad 0)), (1, .int p1), (2, .int p2)] dX9_move_19 (by decide) rfl ?_
    refine v_iload C (pc := 21) 0 dX9_move_21 rfl ?_
    refine v_if_ne C (pc := 23) hm 29 dX9_move_23 rfl (fun hm => ?_) (fun hm => ?_)
    · refine v_aload_n C (pc := 29) 2 dX9_move_29 rfl rfl ?_
      refine gX9_153 C (pc := 30) dX9_move_30 ?_
      refine v_sipush C (pc := 33) 200 dX9_move_33 rfl ?_
      refine v_icmp_ne C (pc := 36) hm 42 dX9_move_36 rfl (fun hm => ?_) (fun hm => ?_)
      · refine v_aload_n C (pc := 42) 2 dX9_move_42 rfl rfl ?_
        refine v_iload_n C (pc := 43) 3 dX9_move_43 rfl rfl ?_
        refine v_iload_n C (pc := 44) 4 dX9_move_44 rfl rfl ?_
        refine v_iload C (pc := 45) 0 dX9_move_45 rfl ?_
        refine kX9_235 C (Nat.le_of_ble_eq_true rfl) (Nat.le_of_ble_eq_true rfl) (pc := 47) hm (Nat.le_of_ble_eq_true rfl) dX9_move_47 (fun r6 S6 hm => ?_)
        refine v_aload_n C (pc := 50) 2 dX9_move_50 rfl rfl ?_
        refine gX9_153 C (pc := 51) dX9_move_51 ?_
        exact v_iret C hr hQ (pc := 54) hm dX9_move_54
      · refine v_bipush C (pc := 39) (-5) dX9_move_39 rfl ?_
        exact v_iret C hr hQ (pc := 41) hm dX9_move_41
    · refine v_bipush C (pc := 26) (-4) dX9_move_26 rfl ?_
      exact v_iret C hr hQ (pc := 28) hm dX9_move_28
  · refine v_iload_n C (pc := 11) 0 dX9_move_11 rfl rfl ?_
    exact v_iret C hr hQ (pc := 12) hm dX9_move_12
theorem mX9_move {l : Launch} {D : va_G} {ad : Nat → Nat} {cA : Nat → ClassId} (hD : ∀ S, va_D (mA ad) (mW ad cA S)) {N : Nat} {p1 : Int32} {p2 : Int32} {S : St} {r : Int32 × St} (hm : fX9_move N p1 p2 S = some r) : Met l yX9_move (wsm yX9_move cX9_move 5 (some .int)) rmX9_move (va_Pc [.ref (ad 0), .int p1, .int p2] (Pre D cA (mW ad cA) mS S)) (Qo D (mW ad cA) (mA ad) (some (.int r.1)) r.2) 0 0 (mA ad) := met_of [.ref (ad 0), .int p1, .int p2] (by decide) (Nat.le_of_ble_eq_true rfl) hD (fun _ _ _ _ h => h) (fun _ _ _ _ h => h) (fun p e s m below meth c C hr => vX9_move C hr rfl (N := N)  hm)
-- X9_possibleAt
def rmX9_possibleAt : Room := { frames := 6, cells := 0, slots := 0, locals := 144 }
def fX9_possibleAt_60 (N : Nat) (k4 : Int32 → Int32 → Int32 → St → Option (Int32 × St)) (x1 : Int32) (x2 : Int32) (x3 : Int32) (S : St) : Option (Int32 × St) := k4 x1 x2 (x3 + 1) S
set_option maxRecDepth 20000 in
theorem vX9_possibleAt_60 {p : Program} {l : Launch} {e : Env} {s : State} {m : MethodId} {args : Array Value} {below : List Frame} {meth : Method} {c : Code} {Q : State → Prop} {D : va_G} {ad : Nat → Nat} {cA : Nat → ClassId} (C : Ok p s m args c D cA (mW ad cA) (mA ad) mS RX9 cX9_possibleAt 5) (hr : Rt meth (some .int)) {r : Int32 × St} (hQ : Q = MQ below (Qo D (mW ad cA) (mA ad) (some (.int r.1)) r.2) args s 0 0 (mA ad)) {N : Nat} {k4 : Int32 → Int32 → Int32 → St → Option (Int32 × St)} (hk4 : ∀ (x1 : Int32) (x2 : Int32) (x3 : Int32) (S : St), k4 x1 x2 x3 S = some r → V p l e rmX9_possibleAt s m args below meth c Q D (mW ad cA) (mA ad) 5 S 4 [(0, .ref (ad 0)), (1, .int x1), (2, .int x2), (3, .int x3)] []) {x1 : Int32} {x2 : Int32} {x3 : Int32}  {S : St} (hm : fX9_possibleAt_60 N k4 x1 x2 x3 S = some r) : V p l e rmX9_possibleAt s m args below meth c Q D (mW ad cA) (mA ad) 5 S 60 [(0, .ref (ad 0)), (1, .int x1), (2, .int x2), (3, .int x3)] [] := by
  unfold fX9_possibleAt_60 at hm
  refine v_iinc C (pc := 60) 1 3 [(3, .int (x3 + 1)), (0, .ref (ad 0)), (1, .int x1), (2, .int x2)] dX9_possibleAt_60 rfl rfl (by decide) rfl ?_
  refine v_goto C (pc := 63) 4 dX9_possibleAt_63 rfl ?_
  exact v_sub [1, 2, 3, 0] rfl (hk4 _ _ _ _ hm)
def fX9_possibleAt_54 (N : Nat) (k4 : Int32 → Int32 → Int32 → St → Option (Int32 × St)) (k12 : Int32 → Int32 → Int32 → Int32 → St → Option (Int32 × St)) (x1 : Int32) (x2 : Int32) (x3 : Int32) (x4 : Int32) (S : St) : Option (Int32 × St) := k12 x1 x2 x3 (x4 + 1) S
set_option maxRecDepth 20000 in
theorem vX9_possibleAt_54 {p : Program} {l : Launch} {e : Env} {s : State} {m : MethodId} {args : Array Value} {below : List Frame} {meth : Method} {c : Code} {Q : State → Prop} {D : va_G} {ad : Nat → Nat} {cA : Nat → ClassId} (C : Ok p s m args c D cA (mW ad cA) (mA ad) mS RX9 cX9_possibleAt 5) (hr : Rt meth (some .int)) {r : Int32 × St} (hQ : Q = MQ below (Qo D (mW ad cA) (mA ad) (some (.int r.1)) r.2) args s 0 0 (mA ad)) {N : Nat} {k4 : Int32 → Int32 → Int32 → St → Option (Int32 × St)} (hk4 : ∀ (x1 : Int32) (x2 : Int32) (x3 : Int32) (S : St), k4 x1 x2 x3 S = some r → V p l e rmX9_possibleAt s m args below meth c Q D (mW ad cA) (mA ad) 5 S 4 [(0, .ref (ad 0)), (1, .int x1), (2, .int x2), (3, .int x3)] []) {k12 : Int32 → Int32 → Int32 → Int32 → St → Option (Int32 × St)} (hk12 : ∀ (x1 : Int32) (x2 : Int32) (x3 : Int32) (x4 : Int32) (S : St), k12 x1 x2 x3 x4 S = some r → V p l e rmX9_possibleAt s m args below meth c Q D (mW ad cA) (mA ad) 5 S 12 [(0, .ref (ad 0)), (1, .int x1), (2, .int x2), (3, .int x3), (4, .int x4)] []) {x1 : Int32} {x2 : Int32} {x3 : Int32} {x4 : Int32}  {S : St} (hm : fX9_possibleAt_54 N k4 k12 x1 x2 x3 x4 S = some r) : V p l e rmX9_possibleAt s m args below meth c Q D (mW ad cA) (mA ad) 5 S 54 [(0, .ref (ad 0)), (1, .int x1), (2, .int x2), (3, .int x3), (4, .int x4)] [] := by
  unfold fX9_possibleAt_54 at hm
  refine v_iinc C (pc := 54) 1 4 [(4, .int (x4 + 1)), (0, .ref (ad 0)), (1, .int x1), (2, .int x2), (3, .int x3)] dX9_possibleAt_54 rfl rfl (by decide) rfl ?_
  refine v_goto C (pc := 57) 12 dX9_possibleAt_57 rfl ?_
  exact v_sub [1, 2, 3, 4, 0] rfl (hk12 _ _ _ _ _ hm)
def fX9_possibleAt_12b (N : Nat) (k4 : Int32 → Int32 → Int32 → St → Option (Int32 × St)) (k12 : Int32 → Int32 → Int32 → Int32 → St → Option (Int32 × St)) (x1 : Int32) (x2 : Int32) (x3 : Int32) (x4 : Int32) (S : St) : Option (Int32 × St) := if 6 ≤ x4 then (fX9_possibleAt_60 N k4 x1 x2 x3 S) else (ck x3 5 (if (S.2.2.1 2 (Int32.toNatClampNeg x3)) ≤ 0 then (fX9_possibleAt_60 N k4 x1 x2 x3 S) else (bd (fX9_movedBy N x3 x4 S) fun r4 S4 => if r4 ≤ 0 then (fX9_possibleAt_54 N k4 k12 x1 x2 x3 x4 S4) else (if x2 = x1 then (some (((10 * x3) + x4), S4)) else (fX9_possibleAt_54 N k4 k12 x1 (x2 + 1) x3 x4 S4)))))
def fX9_possibleAt_12 (N : Nat) (k4 : Int32 → Int32 → Int32 → St → Option (Int32 × St)) : Nat → Int32 → Int32 → Int32 → Int32 → St → Option (Int32 × St)
  | 0 => fun _ _ _ _ _ => none
  | n + 1 => fun x1 x2 x3 x4 S => fX9_possibleAt_12b N k4 (fX9_possibleAt_12 N k4 n) x1 x2 x3 x4 S
set_option maxRecDepth 20000 in
theorem vX9_possibleAt_12b {p : Program} {l : Launch} {e : Env} {s : State} {m : MethodId} {args : Array Value} {below : List Frame} {meth : Method} {c : Code} {Q : State → Prop} {D : va_G} {ad : Nat → Nat} {cA : Nat → ClassId} (C : Ok p s m args c D cA (mW ad cA) (mA ad) mS RX9 cX9_possibleAt 5) (hr : Rt meth (some .int)) {r : Int32 × St} (hQ : Q = MQ below (Qo D (mW ad cA) (mA ad) (some (.int r.1)) r.2) args s 0 0 (mA ad)) {N : Nat} {k4 : Int32 → Int32 → Int32 → St → Option (Int32 × St)} (hk4 : ∀ (x1 : Int32) (x2 : Int32) (x3 : Int32) (S : St), k4 x1 x2 x3 S = some r → V p l e rmX9_possibleAt s m args below meth c Q D (mW ad cA) (mA ad) 5 S 4 [(0, .ref (ad 0)), (1, .int x1), (2, .int x2), (3, .int x3)] []) {k12 : Int32 → Int32 → Int32 → Int32 → St → Option (Int32 × St)} (hk12 : ∀ (x1 : Int32) (x2 : Int32) (x3 : Int32) (x4 : Int32) (S : St), k12 x1 x2 x3 x4 S = some r → V p l e rmX9_possibleAt s m args below meth c Q D (mW ad cA) (mA ad) 5 S 12 [(0, .ref (ad 0)), (1, .int x1), (2, .int x2), (3, .int x3), (4, .int x4)] []) {x1 : Int32} {x2 : Int32} {x3 : Int32} {x4 : Int32}  {S : St} (hm : fX9_possibleAt_12b N k4 k12 x1 x2 x3 x4 S = some r) : V p l e rmX9_possibleAt s m args below meth c Q D (mW ad cA) (mA ad) 5 S 12 [(0, .ref (ad 0)), (1, .int x1), (2, .int x2), (3, .int x3), (4, .int x4)] [] := by
  unfold fX9_possibleAt_12b at hm
  refine v_iload C (pc := 12) 4 dX9_possibleAt_12 rfl ?_
  refine v_bipush C (pc := 14) 6 dX9_possibleAt_14 rfl ?_
  refine v_icmp_ge C (pc := 16) hm 60 dX9_possibleAt_16 rfl (fun hm => ?_) (fun hm => ?_)
  · exact v_sub [0, 1, 2, 3] rfl (vX9_possibleAt_60 C hr hQ (N := N) hk4 hm)
  · refine v_aload_n C (pc := 19) 0 dX9_possibleAt_19 rfl rfl ?_
    refine gX9_16 C (pc := 20) dX9_possibleAt_20 ?_
    refine v_iload_n C (pc := 23) 3 dX9_possibleAt_23 rfl rfl ?_
    refine ldX9_cells C (pc := 24) hm dX9_possibleAt_24 (fun hm => ?_)
    refine v_if_le C (pc := 25) hm 60 dX9_possibleAt_25 rfl (fun hm => ?_) (fun hm => ?_)
    · exact v_sub [0, 1, 2, 3] rfl (vX9_possibleAt_60 C hr hQ (N := N) hk4 hm)
    · refine v_aload_n C (pc := 28) 0 dX9_possibleAt_28 rfl rfl ?_
      refine v_iload_n C (pc := 29) 3 dX9_possibleAt_29 rfl rfl ?_
      refine v_iload C (pc := 30) 4 dX9_possibleAt_30 rfl ?_
      refine kX9_232 C (Nat.le_of_ble_eq_true rfl) (Nat.le_of_ble_eq_true rfl) (pc := 32) hm (Nat.le_of_ble_eq_true rfl) dX9_possibleAt_32 (fun r4 S4 hm => ?_)
      refine v_if_le C (pc := 35) hm 54 dX9_possibleAt_35 rfl (fun hm => ?_) (fun hm => ?_)
      · exact (vX9_possibleAt_54 C hr hQ (N := N) hk4 hk12 hm)
      · refine v_iload_n C (pc := 38) 2 dX9_possibleAt_38 rfl rfl ?_
        refine v_iload_n C (pc := 39) 1 dX9_possibleAt_39 rfl rfl ?_
        refine v_icmp_ne C (pc := 40) hm 51 dX9_possibleAt_40 rfl (fun hm => ?_) (fun hm => ?_)
        · refine v_iinc C (pc := 51) 1 2 [(2, .int (x2 + 1)), (0, .ref (ad 0)), (1, .int x1), (3, .int x3), (4, .int x4)] dX9_possibleAt_51 rfl rfl (by decide) rfl ?_
          exact v_sub [1, 2, 0, 3, 4] rfl (vX9_possibleAt_54 C hr hQ (N := N) hk4 hk12 hm)
        · refine v_bipush C (pc := 43) 10 dX9_possibleAt_43 rfl ?_
          refine v_iload_n C (pc := 45) 3 dX9_possibleAt_45 rfl rfl ?_
          refine v_imul C (pc := 46) dX9_possibleAt_46 ?_
          refine v_iload C (pc := 47) 4 dX9_possibleAt_47 rfl ?_
          refine v_iadd C (pc := 49) dX9_possibleAt_49 ?_
          exact v_iret C hr hQ (pc := 50) hm dX9_possibleAt_50
theorem vX9_possibleAt_12 {p : Program} {l : Launch} {e : Env} {s : State} {m : MethodId} {args : Array Value} {below : List Frame} {meth : Method} {c : Code} {Q : State → Prop} {D : va_G} {ad : Nat → Nat} {cA : Nat → ClassId} (C : Ok p s m args c D cA (mW ad cA) (mA ad) mS RX9 cX9_possibleAt 5) (hr : Rt meth (some .int)) {r : Int32 × St} (hQ : Q = MQ below (Qo D (mW ad cA) (mA ad) (some (.int r.1)) r.2) args s 0 0 (mA ad)) {N : Nat} {k4 : Int32 → Int32 → Int32 → St → Option (Int32 × St)} (hk4 : ∀ (x1 : Int32) (x2 : Int32) (x3 : Int32) (S : St), k4 x1 x2 x3 S = some r → V p l e rmX9_possibleAt s m args below meth c Q D (mW ad cA) (mA ad) 5 S 4 [(0, .ref (ad 0)), (1, .int x1), (2, .int x2), (3, .int x3)] []) (n : Nat) : ∀ (x1 : Int32) (x2 : Int32) (x3 : Int32) (x4 : Int32) (S : St), fX9_possibleAt_12 N k4 n x1 x2 x3 x4 S = some r → V p l e rmX9_possibleAt s m args below meth c Q D (mW ad cA) (mA ad) 5 S 12 [(0, .ref (ad 0)), (1, .int x1), (2, .int x2), (3, .int x3), (4, .int x4)] [] := by
  induction n with
  | zero => intro _ _ _ _ _  hm; exact absurd hm (by intro h; cases h)
  | succ n ih => intro _ _ _ _ _  hm; exact vX9_possibleAt_12b C hr hQ (N := N)  hk4 ih  hm
def fX9_possibleAt_4b (N : Nat)  (k4 : Int32 → Int32 → Int32 → St → Option (Int32 × St)) (x1 : Int32) (x2 : Int32) (x3 : Int32) (S : St) : Option (Int32 × St) := if 5 ≤ x3 then (some (((-x2) - 1), S)) else (fX9_possibleAt_12 N k4 N x1 x2 x3 0 S)
def fX9_possibleAt_4 (N : Nat)  : Nat → Int32 → Int32 → Int32 → St → Option (Int32 × St)
  | 0 => fun _ _ _ _ => none
  | n + 1 => fun x1 x2 x3 S => fX9_possibleAt_4b N  (fX9_possibleAt_4 N  n) x1 x2 x3 S
set_option maxRecDepth 20000 in
theorem vX9_possibleAt_4b {p : Program} {l : Launch} {e : Env} {s : State} {m : MethodId} {args : Array Value} {below : List Frame} {meth : Method} {c : Code} {Q : State → Prop} {D : va_G} {ad : Nat → Nat} {cA : Nat → ClassId} (C : Ok p s m args c D cA (mW ad cA) (mA ad) mS RX9 cX9_possibleAt 5) (hr : Rt meth (some .int)) {r : Int32 × St} (hQ : Q = MQ below (Qo D (mW ad cA) (mA ad) (some (.int r.1)) r.2) args s 0 0 (mA ad)) {N : Nat}  {k4 : Int32 → Int32 → Int32 → St → Option (Int32 × St)} (hk4 : ∀ (x1 : Int32) (x2 : Int32) (x3 : Int32) (S : St), k4 x1 x2 x3 S = some r → V p l e rmX9_possibleAt s m args below meth c Q D (mW ad cA) (mA ad) 5 S 4 [(0, .ref (ad 0)), (1, .int x1), (2, .int x2), (3, .int x3)] []) {x1 : Int32} {x2 : Int32} {x3 : Int32}  {S : St} (hm : fX9_possibleAt_4b N  k4 x1 x2 x3 S = some r) : V p l e rmX9_possibleAt s m args below meth c Q D (mW ad cA) (mA ad) 5 S 4 [(0, .ref (ad 0)), (1, .int x1), (2, .int x2), (3, .int x3)] [] := by
  unfold fX9_possibleAt_4b at hm
  refine v_iload_n C (pc := 4) 3 dX9_possibleAt_4 rfl rfl ?_
  refine v_iconst C (pc := 5) 5 dX9_possibleAt_5 rfl ?_
  refine v_icmp_ge C (pc := 6) hm 66 dX9_possibleAt_6 rfl (fun hm => ?_) (fun hm => ?_)
  · refine v_iload_n C (pc := 66) 2 dX9_possibleAt_66 rfl rfl ?_
    refine v_ineg C (pc := 67) dX9_possibleAt_67 ?_
    refine v_iconst C (pc := 68) 1 dX9_possibleAt_68 rfl ?_
    refine v_isub C (pc := 69) dX9_possibleAt_69 ?_
    exact v_iret C hr hQ (pc := 70) hm dX9_possibleAt_70
  · refine v_iconst C (pc := 9) 0 dX9_possibleAt_9 rfl ?_
    refine v_istore C (pc := 10) [(4, .int 0), (0, .ref (ad 0)), (1, .int x1), (2, .int x2), (3, .int x3)] dX9_possibleAt_10 (by decide) rfl ?_
    exact v_sub [1, 2, 3, 4, 0] rfl (vX9_possibleAt_12 C hr hQ (N := N) hk4 N _ _ _ _ _ hm)
theorem vX9_possibleAt_4 {p : Program} {l : Launch} {e : Env} {s : State} {m : MethodId} {args : Array Value} {below : List Frame} {meth : Method} {c : Code} {Q : State → Prop} {D : va_G} {ad : Nat → Nat} {cA : Nat → ClassId} (C : Ok p s m args c D cA (mW ad cA) (mA ad) mS RX9 cX9_possibleAt 5) (hr : Rt meth (some .int)) {r : Int32 × St} (hQ : Q = MQ below (Qo D (mW ad cA) (mA ad) (some (.int r.1)) r.2) args s 0 0 (mA ad)) {N : Nat}  (n : Nat) : ∀ (x1 : Int32) (x2 : Int32) (x3 : Int32) (S : St), fX9_possibleAt_4 N  n x1 x2 x3 S = some r → V p l e rmX9_possibleAt s m args below meth c Q D (mW ad cA) (mA ad) 5 S 4 [(0, .ref (ad 0)), (1, .int x1), (2, .int x2), (3, .int x3)] [] := by
  induction n with
  | zero => intro _ _ _ _  hm; exact absurd hm (by intro h; cases h)
  | succ n ih => intro _ _ _ _  hm; exact vX9_possibleAt_4b C hr hQ (N := N)   ih  hm
def fX9_possibleAt (N : Nat) (p1 : Int32) (S : St) : Option (Int32 × St) := fX9_possibleAt_4 N N p1 0 0 S
set_option maxRecDepth 20000 in
theorem vX9_possibleAt {p : Program} {l : Launch} {e : Env} {s : State} {m : MethodId} {args : Array Value} {below : List Frame} {meth : Method} {c : Code} {Q : State → Prop} {D : va_G} {ad : Nat → Nat} {cA : Nat → ClassId} (C : Ok p s m args c D cA (mW ad cA) (mA ad) mS RX9 cX9_possibleAt 5) (hr : Rt meth (some .int)) {r : Int32 × St} (hQ : Q = MQ below (Qo D (mW ad cA) (mA ad) (some (.int r.1)) r.2) args s 0 0 (mA ad)) {N : Nat} {p1 : Int32} {S : St} (hm : fX9_possibleAt N p1 S = some r) : V p l e rmX9_possibleAt s m args below meth c Q D (mW ad cA) (mA ad) 5 S 0 [(0, .ref (ad 0)), (1, .int p1)] [] := by
  unfold fX9_possibleAt at hm
  refine v_iconst C (pc := 0) 0 dX9_possibleAt_0 rfl ?_
  refine v_istore_n C (pc := 1) [(2, .int 0), (0, .ref (ad 0)), (1, .int p1)] dX9_possibleAt_1 rfl (by decide) rfl ?_
  refine v_iconst C (pc := 2) 0 dX9_possibleAt_2 rfl ?_
  refine v_istore_n C (pc := 3) [(3, .int 0), (2, .int 0), (0, .ref (ad 0)), (1, .int p1)] dX9_possibleAt_3 rfl (by decide) rfl ?_
  exact v_sub [2, 3, 1, 0] rfl (vX9_possibleAt_4 C hr hQ (N := N) N _ _ _ _ hm)
theorem mX9_possibleAt {l : Launch} {D : va_G} {ad : Nat → Nat} {cA : Nat → ClassId} (hD : ∀ S, va_D (mA ad) (mW ad cA S)) {N : Nat} {p1 : Int32} {S : St} {r : Int32 × St} (hm : fX9_possibleAt N p1 S = some r) : Met l yX9_possibleAt (wsm yX9_possibleAt cX9_possibleAt 5 (some .int)) rmX9_possibleAt (va_Pc [.ref (ad 0), .int p1] (Pre D cA (mW ad cA) mS S)) (Qo D (mW ad cA) (mA ad) (some (.int r.1)) r.2) 0 0 (mA ad) := met_of [.ref (ad 0), .int p1] (by decide) (Nat.le_of_ble_eq_true rfl) hD (fun _ _ _ _ h => h) (fun _ _ _ _ h => h) (fun p e s m below meth c C hr => vX9_possibleAt C hr rfl (N := N)  hm)
-- X9_possibleCount
theorem infX9_possibleAt : InfV yX9_possibleAt cX9_possibleAt 5 (some .int) 1 := ⟨⟨gm (i := 65) (by decide +kernel) rfl, gm (i := 1070) (by decide +kernel) rfl, by decide +kernel⟩, gm (i := 1069) (by decide +kernel) rfl, gm (i := 37) (by decide +kernel) rfl⟩
theorem kX9_239 {p : Program} {l : Launch} {e : Env} {R : Room} {s : State} {m : MethodId} {args : Array Value} {below : List Frame} {meth : Method} {c : Code} {Q : State → Prop} {D : va_G} {ad : Nat → Nat} {cA : Nat → ClassId} {cc : ByteArray} {nL : Nat} {S : St} {pc : Nat} {lv : List (Nat × Value)} {st : List Value} {ρ : Type} {res : ρ} (C : Ok p s m args c D cA (mW ad cA) (mA ad) mS RX9 cc nL) (hfr : rmX9_possibleAt.frames + 1 ≤ R.frames) (hlo : 8 + (5 + 11) + rmX9_possibleAt.locals ≤ R.locals) {N : Nat} {p1 : Int32} {E : Int32 → St → Option ρ} (hm : bd (fX9_possibleAt N p1 S) E = some res) (hcat : (st.map fun v => v.category).sum ≤ 8) (hd : decode cc pc = .ok (.invokevirtual 239, 3)) (k : ∀ r S, E r S = some res → V p l e R s m args below meth c Q D (mW ad cA) (mA ad) nL S (pc + 3) lv (.int r :: st)) : V p l e R s m args below meth c Q D (mW ad cA) (mA ad) nL S pc lv (.int p1 :: .ref (ad 0) :: st) := by
  obtain ⟨r, S1, h1, h2⟩ := bd_some hm
  exact v_callV C (gm (i := 1067) (by decide +kernel) rfl : Cond.methodLink RX9 239 yX9_possibleAt ∈ gw_tbl) infX9_possibleAt (rm2 := rmX9_possibleAt) ⟨rfl, rfl⟩ hfr hlo (mX9_possibleAt C.2.2.2.2.2.2.1 h1) (As := [.int p1]) (oX9 ad cA S) rfl rfl rfl rfl hcat hd (k r S1 h2)
def rmX9_possibleCount : Room := { frames := 7, cells := 0, slots := 0, locals := 168 }
def fX9_possibleCount (N : Nat)  (S : St) : Option (Int32 × St) := bd (fX9_possibleAt N (-1) S) fun r2 S2 => some (((-r2) - 1), S2)
set_option maxRecDepth 20000 in
theorem vX9_possibleCount {p : Program} {l : Launch} {e : Env} {s : State} {m : MethodId} {args : Array Value} {below : List Frame} {meth : Method} {c : Code} {Q : State → Prop} {D : va_G} {ad : Nat → Nat} {cA : Nat → ClassId} (C : Ok p s m args c D cA (mW ad cA) (mA ad) mS RX9 cX9_possibleCount 1) (hr : Rt meth (some .int)) {r : Int32 × St} (hQ : Q = MQ below (Qo D (mW ad cA) (mA ad) (some (.int r.1)) r.2) args s 0 0 (mA ad)) {N : Nat}  {S : St} (hm : fX9_possibleCount N  S = some r) : V p l e rmX9_possibleCount s m args below meth c Q D (mW ad cA) (mA ad) 1 S 0 [(0, .ref (ad 0))] [] := by
  unfold fX9_possibleCount at hm
  refine v_aload_n C (pc := 0) 0 dX9_possibleCount_0 rfl rfl ?_
  refine v_iconst C (pc := 1) (-1) dX9_possibleCount_1 rfl ?_
  refine kX9_239 C (Nat.le_of_ble_eq_true rfl) (Nat.le_of_ble_eq_true rfl) (pc := 2) hm (Nat.le_of_ble_eq_true rfl) dX9_possibleCount_2 (fun r2 S2 hm => ?_)
  refine v_ineg C (pc := 5) dX9_possibleCount_5 ?_
  refine v_iconst C (pc := 6) 1 dX9_possibleCount_6 rfl ?_
  refine v_isub C (pc := 7) dX9_possibleCount_7 ?_
  exact v_iret C hr hQ (pc := 8) hm dX9_possibleCount_8
theorem mX9_possibleCount {l : Launch} {D : va_G} {ad : Nat → Nat} {cA : Nat → ClassId} (hD : ∀ S, va_D (mA ad) (mW ad cA S)) {N : Nat}  {S : St} {r : Int32 × St} (hm : fX9_possibleCount N  S = some r) : Met l yX9_possibleCount (wsm yX9_possibleCount cX9_possibleCount 1 (some .int)) rmX9_possibleCount (va_Pc [.ref (ad 0)] (Pre D cA (mW ad cA) mS S)) (Qo D (mW ad cA) (mA ad) (some (.int r.1)) r.2) 0 0 (mA ad) := met_of [.ref (ad 0)] (by decide) (Nat.le_of_ble_eq_true rfl) hD (fun _ _ _ _ h => h) (fun _ _ _ _ h => h) (fun p e s m below meth c C hr => vX9_possibleCount C hr rfl (N := N)  hm)
-- X9_possible
def rmX9_possible : Room := { frames := 7, cells := 0, slots := 0, locals := 168 }
def fX9_possible_23 (N : Nat)  (s0 : Int32) (S : St) : Option (Int32 × St) := some (s0, S)
set_option maxRecDepth 20000 in
theorem vX9_possible_23 {p : Program} {l : Launch} {e : Env} {s : State} {m : MethodId} {args : Array Value} {below : List Frame} {meth : Method} {c : Code} {Q : State → Prop} {D : va_G} {ad : Nat → Nat} {cA : Nat → ClassId} (C : Ok p s m args c D cA (mW ad cA) (mA ad) mS RX9 cX9_possible 3) (hr : Rt meth (some .int)) {r : Int32 × St} (hQ : Q = MQ below (Qo D (mW ad cA) (mA ad) (some (.int r.1)) r.2) args s 0 0 (mA ad)) {N : Nat}  {s0 : Int32}  {S : St} (hm : fX9_possible_23 N  s0 S = some r) : V p l e rmX9_possible s m args below meth c Q D (mW ad cA) (mA ad) 3 S 23 [] [.int s0] := by
  unfold fX9_possible_23 at hm
  exact v_iret C hr hQ (pc := 23) hm dX9_possible_23
def fX9_possible (N : Nat) (p1 : Int32) (S : St) : Option (Int32 × St) := if 0 ≤ p1 then (bd (fX9_possibleAt N p1 S) fun r2 S2 => if 0 ≤ r2 then (fX9_possible_23 N r2 S2) else (fX9_possible_23 N (-7) S2)) else (some ((-3), S))
set_option maxRecDepth 20000 in
theorem vX9_possible {p : Program} {l : Launch} {e : Env} {s : State} {m : MethodId} {args : Array Value} {below : List Frame} {meth : Method} {c : Code} {Q : State → Prop} {D : va_G} {ad : Nat → Nat} {cA : Nat → ClassId} (C : Ok p s m args c D cA (mW ad cA) (mA ad) mS RX9 cX9_possible 3) (hr : Rt meth (some .int)) {r : Int32 × St} (hQ : Q = MQ below (Qo D (mW ad cA) (mA ad) (some (.int r.1)) r.2) args s 0 0 (mA ad)) {N : Nat} {p1 : Int32} {S : St} (hm : fX9_possible N p1 S = some r) : V p l e rmX9_possible s m args below meth c Q D (mW ad cA) (mA ad) 3 S 0 [(0, .ref (ad 0)), (1, .int p1)] [] := by
  unfold fX9_possible at hm
  refine v_iload_n C (pc := 0) 1 dX9_possible_0 rfl rfl ?_
  refine v_if_ge C (pc := 1) hm 7 dX9_possible_1 rfl (fun hm => ?_) (fun hm => ?_)
  · refine v_aload_n C (pc := 7) 0 dX9_possible_7 rfl rfl ?_
    refine v_iload_n C (pc := 8) 1 dX9_possible_8 rfl rfl ?_
    refine kX9_239 C (Nat.le_of_ble_eq_true rfl) (Nat.le_of_ble_eq_true rfl) (pc := 9) hm (Nat.le_of_ble_eq_true rfl) dX9_possible_9 (fun r2 S2 hm => ?_)
    refine v_istore_n C (pc := 12) [(2, .int r2), (0, .ref (ad 0)), (1, .int p1)] dX9_possible_12 rfl (by decide) rfl ?_
    refine v_iload_n C (pc := 13) 0 dX9_possible_13 rfl rfl ?_
    refine v_if_ge C (pc := 14) hm 22 dX9_possible_14 rfl (fun hm => ?_) (fun hm => ?_)
    · refine v_iload_n C (pc := 22) 0 dX9_possible_22 rfl rfl ?_
      exact v_sub [] rfl (vX9_possible_23 C hr hQ (N := N) hm)
    · refine v_bipush C (pc := 17) (-7) dX9_possible_17 rfl ?_
      refine v_goto C (pc := 19) 23 dX9_possible_19 rfl ?_
      exact v_sub [] rfl (vX9_possible_23 C hr hQ (N := N) hm)
  · refine v_bipush C (pc := 4) (-3) dX9_possible_4 rfl ?_
    exact v_iret C hr hQ (pc := 6) hm dX9_possible_6
theorem mX9_possible {l : Launch} {D : va_G} {ad : Nat → Nat} {cA : Nat → ClassId} (hD : ∀ S, va_D (mA ad) (mW ad cA S)) {N : Nat} {p1 : Int32} {S : St} {r : Int32 × St} (hm : fX9_possible N p1 S = some r) : Met l yX9_possible (wsm yX9_possible cX9_possible 3 (some .int)) rmX9_possible (va_Pc [.ref (ad 0), .int p1] (Pre D cA (mW ad cA) mS S)) (Qo D (mW ad cA) (mA ad) (some (.int r.1)) r.2) 0 0 (mA ad) := met_of [.ref (ad 0), .int p1] (by decide) (Nat.le_of_ble_eq_true rfl) hD (fun _ _ _ _ h => h) (fun _ _ _ _ h => h) (fun p e s m below meth c C hr => vX9_possible C hr rfl (N := N)  hm)
-- X9_undo
theorem infX9_unpack : InfV yX9_unpack cX9_unpack 6 none 1 := ⟨⟨gm (i := 65) (by decide +kernel) rfl, gm (i := 1082) (by decide +kernel) rfl, by decide +kernel⟩, gm (i := 1081) (by decide +kernel) rfl, gm (i := 38) (by decide +kernel) rfl⟩
theorem kX9_242 {p : Program} {l : Launch} {e : Env} {R : Room} {s : State} {m : MethodId} {args : Array Value} {below : List Frame} {meth : Method} {c : Code} {Q : State → Prop} {D : va_G} {ad : Nat → Nat} {cA : Nat → ClassId} {cc : ByteArray} {nL : Nat} {S : St} {pc : Nat} {lv : List (Nat × Value)} {st : List Value} {ρ : Type} {res : ρ} (C : Ok p s m args c D cA (mW ad cA) (mA ad) mS RX9 cc nL) (hfr : rmX9_unpack.frames + 1 ≤ R.frames) (hlo : 8 + (6 + 11) + rmX9_unpack.locals ≤ R.locals) {N : Nat} {p1 : Int64} {E : Unit → St → Option ρ} (hm : bd (fX9_unpack N p1 S) E = some res) (hcat : (st.map fun v => v.category).sum ≤ 8) (hd : decode cc pc = .ok (.invokevirtual 242, 3)) (k : ∀ r S, E r S = some res → V p l e R s m args below meth c Q D (mW ad cA) (mA ad) nL S (pc + 3) lv (st)) : V p l e R s m args below meth c Q D (mW ad cA) (mA ad) nL S pc lv (.long p1 :: .ref (ad 0) :: st) := by
  obtain ⟨r, S1, h1, h2⟩ := bd_some hm
  exact v_callV C (gm (i := 1079) (by decide +kernel) rfl : Cond.methodLink RX9 242 yX9_unpack ∈ gw_tbl) infX9_unpack (rm2 := rmX9_unpack) ⟨rfl, rfl⟩ hfr hlo (mX9_unpack C.2.2.2.2.2.2.1 h1) (As := [.long p1]) (oX9 ad cA S) rfl rfl rfl rfl hcat hd (k r S1 h2)
def rmX9_undo : Room := { frames := 1, cells := 0, slots := 0, locals := 25 }
def fX9_undo (N : Nat)  (S : St) : Option (Int32 × St) := if (S.1 8) = 0 then (some ((-7), S)) else (stp (sI S 8 ((S.1 8) - 1)) fun S3 => ck (S3.1 8) 200 (bd (fX9_unpack N (S3.2.2.2 0 (Int32.toNatClampNeg (S3.1 8))) S3) fun r2 S4 => some ((S4.1 8), S4)))
set_option maxRecDepth 20000 in
theorem vX9_undo {p : Program} {l : Launch} {e : Env} {s : State} {m : MethodId} {args : Array Value} {below : List Frame} {meth : Method} {c : Code} {Q : State → Prop} {D : va_G} {ad : Nat → Nat} {cA : Nat → ClassId} (C : Ok p s m args c D cA (mW ad cA) (mA ad) mS RX9 cX9_undo 1) (hr : Rt meth (some .int)) {r : Int32 × St} (hQ : Q = MQ below (Qo D (mW ad cA) (mA ad) (some (.int r.1)) r.2) args s 0 0 (mA ad)) {N : Nat}  {S : St} (hm : fX9_undo N  S = some r) : V p l e rmX9_undo s m args below meth c Q D (mW ad cA) (mA ad) 1 S 0 [(0, .ref (ad 0))] [] := by
  unfold fX9_undo at hm
  refine v_aload_n C (pc := 0) 0 dX9_undo_0 rfl rfl ?_
  refine gX9_153 C (pc := 1) dX9_undo_1 ?_
  refine v_if_ne C (pc := 4) hm 10 dX9_undo_4 rfl (fun hm => ?_) (fun hm => ?_)
  · refine v_aload_n C (pc := 10) 0 dX9_undo_10 rfl rfl ?_
    refine v_dup C (pc := 11) dX9_undo_11 rfl ?_
    refine gX9_153 C (pc := 12) dX9_undo_12 ?_
    refine v_iconst C (pc := 15) 1 dX9_undo_15 rfl ?_
    refine v_isub C (pc := 16) dX9_undo_16 ?_
    refine pX9_153 C (pc := 17) hm dX9_undo_17 (fun S3 hm => ?_)
    refine v_aload_n C (pc := 20) 0 dX9_undo_20 rfl rfl ?_
    refine v_aload_n C (pc := 21) 0 dX9_undo_21 rfl rfl ?_
    refine gX9_77 C (pc := 22) dX9_undo_22 ?_
    refine v_aload_n C (pc := 25) 0 dX9_undo_25 rfl rfl ?_
    refine gX9_153 C (pc := 26) dX9_undo_26 ?_
    refine ldX9_beforeOf C (pc := 29) hm dX9_undo_29 (fun hm => ?_)
    refine kX9_242 C (Nat.le_of_ble_eq_true rfl) (Nat.le_of_ble_eq_true rfl) (pc := 30) hm (Nat.le_of_ble_eq_true rfl) dX9_undo_30 (fun r2 S4 hm => ?_)
    refine v_aload_n C (pc := 33) 0 dX9_undo_33 rfl rfl ?_
    refine gX9_153 C (pc := 34) dX9_undo_34 ?_
    exact v_iret C hr hQ (pc := 37) hm dX9_undo_37
  · refine v_bipush C (pc := 7) (-7) dX9_undo_7 rfl ?_
    exact v_iret C hr hQ (pc := 9) hm dX9_undo_9
theorem mX9_undo {l : Launch} {D : va_G} {ad : Nat → Nat} {cA : Nat → ClassId} (hD : ∀ S, va_D (mA ad) (mW ad cA S)) {N : Nat}  {S : St} {r : Int32 × St} (hm : fX9_undo N  S = some r) : Met l yX9_undo (wsm yX9_undo cX9_undo 1 (some .int)) rmX9_undo (va_Pc [.ref (ad 0)] (Pre D cA (mW ad cA) mS S)) (Qo D (mW ad cA) (mA ad) (some (.int r.1)) r.2) 0 0 (mA ad) := met_of [.ref (ad 0)] (by decide) (Nat.le_of_ble_eq_true rfl) hD (fun _ _ _ _ h => h) (fun _ _ _ _ h => h) (fun p e s m below meth c C hr => vX9_undo C hr rfl (N := N)  hm)
-- X9_redo
def rmX9_redo : Room := { frames := 1, cells := 0, slots := 0, locals := 25 }
def fX9_redo (N : Nat)  (S : St) : Option (Int32 × St) := if (S.1 8) = (S.1 9) then (some ((-7), S)) else (ck (S.1 8) 200 (bd (fX9_unpack N (S.2.2.2 1 (Int32.toNatClampNeg (S.1 8))) S) fun r2 S3 => stp (sI S3 8 ((S3.1 8) + 1)) fun S4 => some ((S4.1 8), S4)))
set_option maxRecDepth 20000 in
theorem vX9_redo {p : Program} {l : Launch} {e : Env} {s : State} {m : MethodId} {args : Array Value} {below : List Frame} {meth : Method} {c : Code} {Q : State → Prop} {D : va_G} {ad : Nat → Nat} {cA : Nat → ClassId} (C : Ok p s m args c D cA (mW ad cA) (mA ad) mS RX9 cX9_redo 1) (hr : Rt meth (some .int)) {r : Int32 × St} (hQ : Q = MQ below (Qo D (mW ad cA) (mA ad) (some (.int r.1)) r.2) args s 0 0 (mA ad)) {N : Nat}  {S : St} (hm : fX9_redo N  S = some r) : V p l e rmX9_redo s m args below meth c Q D (mW ad cA) (mA ad) 1 S 0 [(0, .ref (ad 0))] [] := by
  unfold fX9_redo at hm
  refine v_aload_n C (pc := 0) 0 dX9_redo_0 rfl rfl ?_
  refine gX9_153 C (pc := 1) dX9_redo_1 ?_
  refine v_aload_n C (pc := 4) 0 dX9_redo_4 rfl rfl ?_
  refine gX9_156 C (pc := 5) dX9_redo_5 ?_
  refine v_icmp_ne C (pc := 8) hm 14 dX9_redo_8 rfl (fun hm => ?_) (fun hm => ?_)
  · refine v_aload_n C (pc := 14) 0 dX9_redo_14 rfl rfl ?_
    refine v_aload_n C (pc := 15) 0 dX9_redo_15 rfl rfl ?_
    refine gX9_81 C (pc := 16) dX9_redo_16 ?_
    refine v_aload_n C (pc := 19) 0 dX9_redo_19 rfl rfl ?_
    refine gX9_153 C (pc := 20) dX9_redo_20 ?_
    refine ldX9_afterOf C (pc := 23) hm dX9_redo_23 (fun hm => ?_)
    refine kX9_242 C (Nat.le_of_ble_eq_true rfl) (Nat.le_of_ble_eq_true rfl) (pc := 24) hm (Nat.le_of_ble_eq_true rfl) dX9_redo_24 (fun r2 S3 hm => ?_)
    refine v_aload_n C (pc := 27) 0 dX9_redo_27 rfl rfl ?_
    refine v_dup C (pc := 28) dX9_redo_28 rfl ?_
    refine gX9_153 C (pc := 29) dX9_redo_29 ?_
    refine v_iconst C (pc := 32) 1 dX9_redo_32 rfl ?_
    refine v_iadd C (pc := 33) dX9_redo_33 ?_
    refine pX9_153 C (pc := 34) hm dX9_redo_34 (fun S4 hm => ?_)
    refine v_aload_n C (pc := 37) 0 dX9_redo_37 rfl rfl ?_
    refine gX9_153 C (pc := 38) dX9_redo_38 ?_
    exact v_iret C hr hQ (pc := 41) hm dX9_redo_41
  · refine v_bipush C (pc := 11) (-7) dX9_redo_11 rfl ?_
    exact v_iret C hr hQ (pc := 13) hm dX9_redo_13
theorem mX9_redo {l : Launch} {D : va_G} {ad : Nat → Nat} {cA : Nat → ClassId} (hD : ∀ S, va_D (mA ad) (mW ad cA S)) {N : Nat}  {S : St} {r : Int32 × St} (hm : fX9_redo N  S = some r) : Met l yX9_redo (wsm yX9_redo cX9_redo 1 (some .int)) rmX9_redo (va_Pc [.ref (ad 0)] (Pre D cA (mW ad cA) mS S)) (Qo D (mW ad cA) (mA ad) (some (.int r.1)) r.2) 0 0 (mA ad) := met_of [.ref (ad 0)] (by decide) (Nat.le_of_ble_eq_true rfl) hD (fun _ _ _ _ h => h) (fun _ _ _ _ h => h) (fun p e s m below meth c C hr => vX9_redo C hr rfl (N := N)  hm)
