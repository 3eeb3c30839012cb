-- X9_moveAt
def rmX9_moveAt : Room := { frames := 0, cells := 0, slots := 0, locals := 0 }
def fX9_moveAt_28 (N : Nat)  (s0 : Int32) (S : St) : Option (Int32 × St) := some (s0, S)
set_option maxRecDepth 20000 in
theorem vX9_moveAt_28 {p : Program} {l : Launch} {e : Env} {s : State} {m : MethodId} {args : Array Value} {below : List Frame} {meth : Method} {c : Code} {Q : State → Prop} {D : va_G} {ad : Nat → Nat} {cA : Nat → ClassId} (C : Ok p s m args c D cA (mW ad cA) (mA ad) mS RX9 cX9_moveAt 2) (hr : Rt meth (some .int)) {r : Int32 × St} (hQ : Q = MQ below (Qo D (mW ad cA) (mA ad) (some (.int r.1)) r.2) args s 0 0 (mA ad)) {N : Nat}  {s0 : Int32}  {S : St} (hm : fX9_moveAt_28 N  s0 S = some r) : V p l e rmX9_moveAt s m args below meth c Q D (mW ad cA) (mA ad) 2 S 28 [] [.int s0] := by
  unfold fX9_moveAt_28 at hm
  exact v_iret C hr hQ (pc := 28) hm dX9_moveAt_28
def fX9_moveAt (N : Nat) (p1 : Int32) (S : St) : Option (Int32 × St) := if 0 ≤ p1 then (if (S.1 8) ≤ p1 then (fX9_moveAt_28 N (-7) S) else (ck p1 200 (fX9_moveAt_28 N (S.2.2.1 20 (Int32.toNatClampNeg p1)) S))) else (fX9_moveAt_28 N (-3) S)
set_option maxRecDepth 20000 in
theorem vX9_moveAt {p : Program} {l : Launch} {e : Env} {s : State} {m : MethodId} {args : Array Value} {below : List Frame} {meth : Method} {c : Code} {Q : State → Prop} {D : va_G} {ad : Nat → Nat} {cA : Nat → ClassId} (C : Ok p s m args c D cA (mW ad cA) (mA ad) mS RX9 cX9_moveAt 2) (hr : Rt meth (some .int)) {r : Int32 × St} (hQ : Q = MQ below (Qo D (mW ad cA) (mA ad) (some (.int r.1)) r.2) args s 0 0 (mA ad)) {N : Nat} {p1 : Int32} {S : St} (hm : fX9_moveAt N p1 S = some r) : V p l e rmX9_moveAt s m args below meth c Q D (mW ad cA) (mA ad) 2 S 0 [(0, .ref (ad 0)), (1, .int p1)] [] := by
  unfold fX9_moveAt at hm
  refine v_iload_n C (pc := 0) 1 dX9_moveAt_0 rfl rfl ?_
  refine v_if_ge C (pc := 1) hm 9 dX9_moveAt_1 rfl (fun hm => ?_) (fun hm => ?_)
  · refine v_iload_n C (pc := 9) 1 dX9_moveAt_9 rfl rfl ?_
    refine v_aload_n C (pc := 10) 0 dX9_moveAt_10 rfl rfl ?_
    refine gX9_153 C (pc := 11) dX9_moveAt_11 ?_
    refine v_icmp_ge C (pc := 14) hm 26 dX9_moveAt_14 rfl (fun hm => ?_) (fun hm => ?_)
    · refine v_bipush C (pc := 26) (-7) dX9_moveAt_26 rfl ?_
      exact v_sub [] rfl (vX9_moveAt_28 C hr hQ (N := N) hm)
    · refine v_aload_n C (pc := 17) 0 dX9_moveAt_17 rfl rfl ?_
      refine gX9_71 C (pc := 18) dX9_moveAt_18 ?_
      refine v_iload_n C (pc := 21) 1 dX9_moveAt_21 rfl rfl ?_
      refine ldX9_moveOf C (pc := 22) hm dX9_moveAt_22 (fun hm => ?_)
      refine v_goto C (pc := 23) 28 dX9_moveAt_23 rfl ?_
      exact v_sub [] rfl (vX9_moveAt_28 C hr hQ (N := N) hm)
  · refine v_bipush C (pc := 4) (-3) dX9_moveAt_4 rfl ?_
    refine v_goto C (pc := 6) 28 dX9_moveAt_6 rfl ?_
    exact v_sub [] rfl (vX9_moveAt_28 C hr hQ (N := N) hm)
theorem mX9_moveAt {l : Launch} {D : va_G} {ad : Nat → Nat} {cA : Nat → ClassId} (hD : ∀ S, va_D (mA ad) (mW ad cA S)) {N : Nat} {p1 : Int32} {S : St} {r : Int32 × St} (hm : fX9_moveAt N p1 S = some r) : Met l yX9_moveAt (wsm yX9_moveAt cX9_moveAt 2 (some .int)) rmX9_moveAt (va_Pc [.ref (ad 0), .int p1] (Pre D cA (mW ad cA) mS S)) (Qo D (mW ad cA) (mA ad) (some (.int r.1)) r.2) 0 0 (mA ad) := met_of [.ref (ad 0), .int p1] (by decide) (Nat.le_of_ble_eq_true rfl) hD (fun _ _ _ _ h => h) (fun _ _ _ _ h => h) (fun p e s m below meth c C hr => vX9_moveAt C hr rfl (N := N)  hm)
-- X9_effort
def rmX9_effort : Room := { frames := 0, cells := 0, slots := 0, locals := 0 }
def fX9_effort_4b (N : Nat)  (k4 : Int32 → Int32 → St → Option (Int32 × St)) (x1 : Int32) (x2 : Int32) (S : St) : Option (Int32 × St) := if (S.1 8) ≤ x2 then (some (x1, S)) else (ck x2 200 (nm (x1 + (S.2.2.1 21 (Int32.toNatClampNeg x2))) fun y3 => k4 y3 (x2 + 1) S))
def fX9_effort_4 (N : Nat)  : Nat → Int32 → Int32 → St → Option (Int32 × St)
  | 0 => fun _ _ _ => none
  | n + 1 => fun x1 x2 S => fX9_effort_4b N  (fX9_effort_4 N  n) x1 x2 S
set_option maxRecDepth 20000 in
theorem vX9_effort_4b {p : Program} {l : Launch} {e : Env} {s : State} {m : MethodId} {args : Array Value} {below : List Frame} {meth : Method} {c : Code} {Q : State → Prop} {D : va_G} {ad : Nat → Nat} {cA : Nat → ClassId} (C : Ok p s m args c D cA (mW ad cA) (mA ad) mS RX9 cX9_effort 3) (hr : Rt meth (some .int)) {r : Int32 × St} (hQ : Q = MQ below (Qo D (mW ad cA) (mA ad) (some (.int r.1)) r.2) args s 0 0 (mA ad)) {N : Nat}  {k4 : Int32 → Int32 → St → Option (Int32 × St)} (hk4 : ∀ (x1 : Int32) (x2 : Int32) (S : St), k4 x1 x2 S = some r → V p l e rmX9_effort s m args below meth c Q D (mW ad cA) (mA ad) 3 S 4 [(0, .ref (ad 0)), (1, .int x1), (2, .int x2)] []) {x1 : Int32} {x2 : Int32}  {S : St} (hm : fX9_effort_4b N  k4 x1 x2 S = some r) : V p l e rmX9_effort s m args below meth c Q D (mW ad cA) (mA ad) 3 S 4 [(0, .ref (ad 0)), (1, .int x1), (2, .int x2)] [] := by
  unfold fX9_effort_4b at hm
  refine v_iload_n C (pc := 4) 2 dX9_effort_4 rfl rfl ?_
  refine v_aload_n C (pc := 5) 0 dX9_effort_5 rfl rfl ?_
  refine gX9_153 C (pc := 6) dX9_effort_6 ?_
  refine v_icmp_ge C (pc := 9) hm 27 dX9_effort_9 rfl (fun hm => ?_) (fun hm => ?_)
  · refine v_iload_n C (pc := 27) 1 dX9_effort_27 rfl rfl ?_
    exact v_iret C hr hQ (pc := 28) hm dX9_effort_28
  · refine v_iload_n C (pc := 12) 1 dX9_effort_12 rfl rfl ?_
    refine v_aload_n C (pc := 13) 0 dX9_effort_13 rfl rfl ?_
    refine gX9_74 C (pc := 14) dX9_effort_14 ?_
    refine v_iload_n C (pc := 17) 2 dX9_effort_17 rfl rfl ?_
    refine ldX9_effortOf C (pc := 18) hm dX9_effort_18 (fun hm => ?_)
    refine v_iadd C (pc := 19) dX9_effort_19 ?_
    refine v_istore_nN C (pc := 20) [(0, .ref (ad 0)), (2, .int x2)] hm dX9_effort_20 rfl (by decide) rfl (fun y3 hm => ?_)
    refine v_iinc C (pc := 21) 1 2 [(2, .int (x2 + 1)), (1, .int y3), (0, .ref (ad 0))] dX9_effort_21 rfl rfl (by decide) rfl ?_
    refine v_goto C (pc := 24) 4 dX9_effort_24 rfl ?_
    exact v_sub [2, 1, 0] rfl (hk4 _ _ _ hm)
theorem vX9_effort_4 {p : Program} {l : Launch} {e : Env} {s : State} {m : MethodId} {args : Array Value} {below : List Frame} {meth : Method} {c : Code} {Q : State → Prop} {D : va_G} {ad : Nat → Nat} {cA : Nat → ClassId} (C : Ok p s m args c D cA (mW ad cA) (mA ad) mS RX9 cX9_effort 3) (hr : Rt meth (some .int)) {r : Int32 × St} (hQ : Q = MQ below (Qo D (mW ad cA) (mA ad) (some (.int r.1)) r.2) args s 0 0 (mA ad)) {N : Nat}  (n : Nat) : ∀ (x1 : Int32) (x2 : Int32) (S : St), fX9_effort_4 N  n x1 x2 S = some r → V p l e rmX9_effort s m args below meth c Q D (mW ad cA) (mA ad) 3 S 4 [(0, .ref (ad 0)), (1, .int x1), (2, .int x2)] [] := by
  induction n with
  | zero => intro _ _ _  hm; exact absurd hm (by intro h; cases h)
  | succ n ih => intro _ _ _  hm; exact vX9_effort_4b C hr hQ (N := N)   ih  hm
def fX9_effort (N : Nat)  (S : St) : Option (Int32 × St) := fX9_effort_4 N N 0 0 S
set_option maxRecDepth 20000 in
theorem vX9_effort {p : Program} {l : Launch} {e : Env} {s : State} {m : MethodId} {args : Array Value} {below : List Frame} {meth : Method} {c : Code} {Q : State → Prop} {D : va_G} {ad : Nat → Nat} {cA : Nat → ClassId} (C : Ok p s m args c D cA (mW ad cA) (mA ad) mS RX9 cX9_effort 3) (hr : Rt meth (some .int)) {r : Int32 × St} (hQ : Q = MQ below (Qo D (mW ad cA) (mA ad) (some (.int r.1)) r.2) args s 0 0 (mA ad)) {N : Nat}  {S : St} (hm : fX9_effort N  S = some r) : V p l e rmX9_effort s m args below meth c Q D (mW ad cA) (mA ad) 3 S 0 [(0, .ref (ad 0))] [] := by
  unfold fX9_effort at hm
  refine v_iconst C (pc := 0) 0 dX9_effort_0 rfl ?_
  refine v_istore_n C (pc := 1) [(1, .int 0), (0, .ref (ad 0))] dX9_effort_1 rfl (by decide) rfl ?_
  refine v_iconst C (pc := 2) 0 dX9_effort_2 rfl ?_
  refine v_istore_n C (pc := 3) [(2, .int 0), (1, .int 0), (0, .ref (ad 0))] dX9_effort_3 rfl (by decide) rfl ?_
  exact v_sub [2, 1, 0] rfl (vX9_effort_4 C hr hQ (N := N) N _ _ _ hm)
theorem mX9_effort {l : Launch} {D : va_G} {ad : Nat → Nat} {cA : Nat → ClassId} (hD : ∀ S, va_D (mA ad) (mW ad cA S)) {N : Nat}  {S : St} {r : Int32 × St} (hm : fX9_effort N  S = some r) : Met l yX9_effort (wsm yX9_effort cX9_effort 3 (some .int)) rmX9_effort (va_Pc [.ref (ad 0)] (Pre D cA (mW ad cA) mS S)) (Qo D (mW ad cA) (mA ad) (some (.int r.1)) r.2) 0 0 (mA ad) := met_of [.ref (ad 0)] (by decide) (Nat.le_of_ble_eq_true rfl) hD (fun _ _ _ _ h => h) (fun _ _ _ _ h => h) (fun p e s m below meth c C hr => vX9_effort C hr rfl (N := N)  hm)
-- X9_kindOfMove
def rmX9_kindOfMove : Room := { frames := 0, cells := 0, slots := 0, locals := 0 }
def fX9_kindOfMove_61 (N : Nat)  (s0 : Int32) (S : St) : Option (Int32 × St) := some (s0, S)
set_option maxRecDepth 20000 in
theorem vX9_kindOfMove_61 {p : Program} {l : Launch} {e : Env} {s : State} {m : MethodId} {args : Array Value} {below : List Frame} {meth : Method} {c : Code} {Q : State → Prop} {D : va_G} {ad : Nat → Nat} {cA : Nat → ClassId} (C : Ok p s m args c D cA (mW ad cA) (mA ad) mS RX9 cX9_kindOfMove 1) (hr : Rt meth (some .int)) {r : Int32 × St} (hQ : Q = MQ below (Qo D (mW ad cA) (mA ad) (some (.int r.1)) r.2) args s 0 0 (mA ad)) {N : Nat}  {s0 : Int32}  {S : St} (hm : fX9_kindOfMove_61 N  s0 S = some r) : V p l e rmX9_kindOfMove s m args below meth c Q D (mW ad cA) (mA ad) 1 S 61 [] [.int s0] := by
  unfold fX9_kindOfMove_61 at hm
  exact v_iret C hr hQ (pc := 61) hm dX9_kindOfMove_61
def fX9_kindOfMove (N : Nat) (p1 : Int32) (S : St) : Option (Int32 × St) := if p1 = 114 then (fX9_kindOfMove_61 N 0 S) else (if p1 = 100 then (fX9_kindOfMove_61 N 1 S) else (if p1 = 108 then (fX9_kindOfMove_61 N 2 S) else (if p1 = 117 then (fX9_kindOfMove_61 N 3 S) else (if p1 = 116 then (fX9_kindOfMove_61 N 4 S) else (if p1 = 115 then (fX9_kindOfMove_61 N 5 S) else (fX9_kindOfMove_61 N (-1) S))))))
set_option maxRecDepth 20000 in
theorem vX9_kindOfMove {p : Program} {l : Launch} {e : Env} {s : State} {m : MethodId} {args : Array Value} {below : List Frame} {meth : Method} {c : Code} {Q : State → Prop} {D : va_G} {ad : Nat → Nat} {cA : Nat → ClassId} (C : Ok p s m args c D cA (mW ad cA) (mA ad) mS RX9 cX9_kindOfMove 1) (hr : Rt meth (some .int)) {r : Int32 × St} (hQ : Q = MQ below (Qo D (mW ad cA) (mA ad) (some (.int r.1)) r.2) args s 0 0 (mA ad)) {N : Nat} {p1 : Int32} {S : St} (hm : fX9_kindOfMove N p1 S = some r) : V p l e rmX9_kindOfMove s m args below meth c Q D (mW ad cA) (mA ad) 1 S 0 [(0, .int p1)] [] := by
  unfold fX9_kindOfMove at hm
  refine v_iload_n C (pc := 0) 0 dX9_kindOfMove_0 rfl rfl ?_
  refine v_bipush C (pc := 1) 114 dX9_kindOfMove_1 rfl ?_
  refine v_icmp_ne C (pc := 3) hm 10 dX9_kindOfMove_3 rfl (fun hm => ?_) (fun hm => ?_)
  · refine v_iload_n C (pc := 10) 0 dX9_kindOfMove_10 rfl rfl ?_
    refine v_bipush C (pc := 11) 100 dX9_kindOfMove_11 rfl ?_
    refine v_icmp_ne C (pc := 13) hm 20 dX9_kindOfMove_13 rfl (fun hm => ?_) (fun hm => ?_)
    · refine v_iload_n C (pc := 20) 0 dX9_kindOfMove_20 rfl rfl ?_
      refine v_bipush C (pc := 21) 108 dX9_kindOfMove_21 rfl ?_
      refine v_icmp_ne C (pc := 23) hm 30 dX9_kindOfMove_23 rfl (fun hm => ?_) (fun hm => ?_)
      · refine v_iload_n C (pc := 30) 0 dX9_kindOfMove_30 rfl rfl ?_
        refine v_bipush C (pc := 31) 117 dX9_kindOfMove_31 rfl ?_
        refine v_icmp_ne C (pc := 33) hm 40 dX9_kindOfMove_33 rfl (fun hm => ?_) (fun hm => ?_)
        · refine v_iload_n C (pc := 40) 0 dX9_kindOfMove_40 rfl rfl ?_
          refine v_bipush C (pc := 41) 116 dX9_kindOfMove_41 rfl ?_
          refine v_icmp_ne C (pc := 43) hm 50 dX9_kindOfMove_43 rfl (fun hm => ?_) (fun hm => ?_)
          · refine v_iload_n C (pc := 50) 0 dX9_kindOfMove_50 rfl rfl ?_
            refine v_bipush C (pc := 51) 115 dX9_kindOfMove_51 rfl ?_
            refine v_icmp_ne C (pc := 53) hm 60 dX9_kindOfMove_53 rfl (fun hm => ?_) (fun hm => ?_)
            · refine v_iconst C (pc := 60) (-1) dX9_kindOfMove_60 rfl ?_
              exact v_sub [] rfl (vX9_kindOfMove_61 C hr hQ (N := N) hm)
            · refine v_iconst C (pc := 56) 5 dX9_kindOfMove_56 rfl ?_
              refine v_goto C (pc := 57) 61 dX9_kindOfMove_57 rfl ?_
              exact v_sub [] rfl (vX9_kindOfMove_61 C hr hQ (N := N) hm)
          · refine v_iconst C (pc := 46) 4 dX9_kindOfMove_46 rfl ?_
            refine v_goto C (pc := 47) 61 dX9_kindOfMove_47 rfl ?_
            exact v_sub [] rfl (vX9_kindOfMove_61 C hr hQ (N := N) hm)
        · refine v_iconst C (pc := 36) 3 dX9_kindOfMove_36 rfl ?_
          refine v_goto C (pc := 37) 61 dX9_kindOfMove_37 rfl ?_
          exact v_sub [] rfl (vX9_kindOfMove_61 C hr hQ (N := N) hm)
      · refine v_iconst C (pc := 26) 2 dX9_kindOfMove_26 rfl ?_
        refine v_goto C (pc := 27) 61 dX9_kindOfMove_27 rfl ?_
        exact v_sub [] rfl (vX9_kindOfMove_61 C hr hQ (N := N) hm)
    · refine v_iconst C (pc := 16) 1 dX9_kindOfMove_16 rfl ?_
      refine v_goto C (pc := 17) 61 dX9_kindOfMove_17 rfl ?_
      exact v_sub [] rfl (vX9_kindOfMove_61 C hr hQ (N := N) hm)
  · refine v_iconst C (pc := 6) 0 dX9_kindOfMove_6 rfl ?_
    refine v_goto C (pc := 7) 61 dX9_kindOfMove_7 rfl ?_
    exact v_sub [] rfl (vX9_kindOfMove_61 C hr hQ (N := N) hm)
theorem mX9_kindOfMove {l : Launch} {D : va_G} {ad : Nat → Nat} {cA : Nat → ClassId} (hD : ∀ S, va_D (mA ad) (mW ad cA S)) {N : Nat} {p1 : Int32} {S : St} {r : Int32 × St} (hm : fX9_kindOfMove N p1 S = some r) : Met l yX9_kindOfMove (wsm yX9_kindOfMove cX9_kindOfMove 1 (some .int)) rmX9_kindOfMove (va_Pc [.int p1] (Pre D cA (mW ad cA) mS S)) (Qo D (mW ad cA) (mA ad) (some (.int r.1)) r.2) 0 0 (mA ad) := met_of [.int p1] (by decide) (Nat.le_of_ble_eq_true rfl) hD (fun _ _ _ _ h => h) (fun _ _ _ _ h => h) (fun p e s m below meth c C hr => vX9_kindOfMove C hr rfl (N := N)  hm)
-- X9_goThrough
theorem infX9_kindOfMove : InfS yX9_kindOfMove cX9_kindOfMove 1 (some .int) 1 := ⟨⟨gm (i := 65) (by decide +kernel) rfl, gm (i := 1105) (by decide +kernel) rfl, by decide +kernel⟩, gm (i := 1104) (by decide +kernel) rfl⟩
theorem kX9_246 {p : Program} {l : Launch} {e : Env} {R : Room} {s : State} {m : MethodId} {args : Array Value} {below : List Frame} {meth : Method} {c : Code} {Q : State → Prop} {D : va_G} {ad : Nat → Nat} {cA : Nat → ClassId} {cc : ByteArray} {nL : Nat} {S : St} {pc : Nat} {lv : List (Nat × Value)} {st : List Value} {ρ : Type} {res : ρ} (C : Ok p s m args c D cA (mW ad cA) (mA ad) mS RX9 cc nL) (hfr : rmX9_kindOfMove.frames + 1 ≤ R.frames) (hlo : 8 + (1 + 11) + rmX9_kindOfMove.locals ≤ R.locals) {N : Nat} {p1 : Int32} {E : Int32 → St → Option ρ} (hm : bd (fX9_kindOfMove N p1 S) E = some res) (hcat : (st.map fun v => v.category).sum ≤ 8) (hd : decode cc pc = .ok (.invokestatic 246, 3)) (k : ∀ r S, E r S = some res → V p l e R s m args below meth c Q D (mW ad cA) (mA ad) nL S (pc + 3) lv (.int r :: st)) : V p l e R s m args below meth c Q D (mW ad cA) (mA ad) nL S pc lv (.int p1 :: st) := by
  obtain ⟨r, S1, h1, h2⟩ := bd_some hm
  exact v_callS C (gm (i := 1103) (by decide +kernel) rfl : Cond.methodLink RX9 246 yX9_kindOfMove ∈ gw_tbl) infX9_kindOfMove (rm2 := rmX9_kindOfMove) ⟨rfl, rfl⟩ hfr hlo (mX9_kindOfMove C.2.2.2.2.2.2.1 h1) (As := [.int p1]) rfl rfl hcat hd (k r S1 h2)
def rmX9_goThrough : Room := { frames := 6, cells := 0, slots := 0, locals := 144 }
def fX9_goThrough_71 (N : Nat) (k2 : Int32 → St → Option (Int32 × St)) (s0 : Int32) (x1 : Int32) (x3 : Int32) (S : St) : Option (Int32 × St) := if s0 = 0 then (some ((x1 + 1), S)) else (bd (fX9_carryOut N s0 x3 S) fun r16 S13 => k2 (x1 + 2) S13)
set_option maxRecDepth 20000 in
theorem vX9_goThrough_71 {p : Program} {l : Launch} {e : Env} {s : State} {m : MethodId} {args : Array Value} {below : List Frame} {meth : Method} {c : Code} {Q : State → Prop} {D : va_G} {ad : Nat → Nat} {cA : Nat → ClassId} (C : Ok p s m args c D cA (mW ad cA) (mA ad) mS RX9 cX9_goThrough 5) (hr : Rt meth (some .int)) {r : Int32 × St} (hQ : Q = MQ below (Qo D (mW ad cA) (mA ad) (some (.int r.1)) r.2) args s 0 0 (mA ad)) {N : Nat} {k2 : Int32 → St → Option (Int32 × St)} (hk2 : ∀ (x1 : Int32) (S : St), k2 x1 S = some r → V p l e rmX9_goThrough s m args below meth c Q D (mW ad cA) (mA ad) 5 S 2 [(0, .ref (ad 0)), (1, .int x1)] []) {s0 : Int32} {x1 : Int32} {x3 : Int32}  {S : St} (hm : fX9_goThrough_71 N k2 s0 x1 x3 S = some r) : V p l e rmX9_goThrough s m args below meth c Q D (mW ad cA) (mA ad) 5 S 71 [(0, .ref (ad 0)), (1, .int x1), (3, .int x3)] [.int s0] := by
  unfold fX9_goThrough_71 at hm
  refine v_istore C (pc := 71) [(4, .int s0), (0, .ref (ad 0)), (1, .int x1), (3, .int x3)] dX9_goThrough_71 (by decide) rfl ?_
  refine v_iload C (pc := 73) 0 dX9_goThrough_73 rfl ?_
  refine v_if_ne C (pc := 75) hm 82 dX9_goThrough_75 rfl (fun hm => ?_) (fun hm => ?_)
  · refine v_aload_n C (pc := 82) 1 dX9_goThrough_82 rfl rfl ?_
    refine v_iload C (pc := 83) 0 dX9_goThrough_83 rfl ?_
    refine v_iload_n C (pc := 85) 3 dX9_goThrough_85 rfl rfl ?_
    refine kX9_221 C (Nat.le_of_ble_eq_true rfl) (Nat.le_of_ble_eq_true rfl) (pc := 86) hm (Nat.le_of_ble_eq_true rfl) dX9_goThrough_86 (fun r16 S13 hm => ?_)
    refine v_iinc C (pc := 89) 2 2 [(1, .int (x1 + 2)), (4, .int s0), (0, .ref (ad 0)), (3, .int x3)] dX9_goThrough_89 rfl rfl (by decide) rfl ?_
    refine v_goto C (pc := 92) 2 dX9_goThrough_92 rfl ?_
    exact v_sub [2, 0] rfl (hk2 _ _ hm)
  · refine v_iload_n C (pc := 78) 2 dX9_goThrough_78 rfl rfl ?_
    refine v_iconst C (pc := 79) 1 dX9_goThrough_79 rfl ?_
    refine v_iadd C (pc := 80) dX9_goThrough_80 ?_
    exact v_iret C hr hQ (pc := 81) hm dX9_goThrough_81
def fX9_goThrough_2b (N : Nat)  (k2 : Int32 → St → Option (Int32 × St)) (x1 : Int32) (S : St) : Option (Int32 × St) := if (S.1 3) ≤ x1 then (some ((-1), S)) else (ck x1 80 (nm ((S.2.2.1 10 (Int32.toNatClampNeg x1)) - 97) fun y12 => bd (fX9_noBlock N y12 S) fun r13 S10 => if (b2i r13) = 0 then (if (x1 + 1) = (S10.1 3) then (some ((S10.1 3), S10)) else (ck (x1 + 1) 80 (bd (fX9_kindOfMove N (S10.2.2.1 10 (Int32.toNatClampNeg (x1 + 1))) S10) fun r14 S11 => if 0 ≤ r14 then (bd (fX9_movedBy N y12 r14 S11) fun r15 S12 => fX9_goThrough_71 N k2 r15 x1 r14 S12) else (fX9_goThrough_71 N k2 0 x1 r14 S11)))) else (some (x1, S10))))
def fX9_goThrough_2 (N : Nat)  : Nat → Int32 → St → Option (Int32 × St)
  | 0 => fun _ _ => none
  | n + 1 => fun x1 S => fX9_goThrough_2b N  (fX9_goThrough_2 N  n) x1 S
set_option maxRecDepth 20000 in
theorem vX9_goThrough_2b {p : Program} {l : Launch} {e : Env} {s : State} {m : MethodId} {args : Array Value} {below : List Frame} {meth : Method} {c : Code} {Q : State → Prop} {D : va_G} {ad : Nat → Nat} {cA : Nat → ClassId} (C : Ok p s m args c D cA (mW ad cA) (mA ad) mS RX9 cX9_goThrough 5) (hr : Rt meth (some .int)) {r : Int32 × St} (hQ : Q = MQ below (Qo D (mW ad cA) (mA ad) (some (.int r.1)) r.2) args s 0 0 (mA ad)) {N : Nat}  {k2 : Int32 → St → Option (Int32 × St)} (hk2 : ∀ (x1 : Int32) (S : St), k2 x1 S = some r → V p l e rmX9_goThrough s m args below meth c Q D (mW ad cA) (mA ad) 5 S 2 [(0, .ref (ad 0)), (1, .int x1)] []) {x1 : Int32}  {S : St} (hm : fX9_goThrough_2b N  k2 x1 S = some r) : V p l e rmX9_goThrough s m args below meth c Q D (mW ad cA) (mA ad) 5 S 2 [(0, .ref (ad 0)), (1, .int x1)] [] := by
  unfold fX9_goThrough_2b at hm
  refine v_iload_n C (pc := 2) 1 dX9_goThrough_2 rfl rfl ?_
  refine v_aload_n C (pc := 3) 0 dX9_goThrough_3 rfl rfl ?_
  refine gX9_130 C (pc := 4) dX9_goThrough_4 ?_
  refine v_icmp_ge C (pc := 7) hm 95 dX9_goThrough_7 rfl (fun hm => ?_) (fun hm => ?_)
  · refine v_iconst C (pc := 95) (-1) dX9_goThrough_95 rfl ?_
    exact v_iret C hr hQ (pc := 96) hm dX9_goThrough_96
  · refine v_aload_n C (pc := 10) 0 dX9_goThrough_10 rfl rfl ?_
    refine gX9_40 C (pc := 11) dX9_goThrough_11 ?_
    refine v_iload_n C (pc := 14) 1 dX9_goThrough_14 rfl rfl ?_
    refine ldX9_text C (pc := 15) hm dX9_goThrough_15 (fun hm => ?_)
    refine v_bipush C (pc := 16) 97 dX9_goThrough_16 rfl ?_
    refine v_isub C (pc := 18) dX9_goThrough_18 ?_
    refine v_istore_nN C (pc := 19) [(0, .ref (ad 0)), (1, .int x1)] hm dX9_goThrough_19 rfl (by decide) rfl (fun y12 hm => ?_)
    refine v_aload_n C (pc := 20) 1 dX9_goThrough_20 rfl rfl ?_
    refine v_iload_n C (pc := 21) 0 dX9_goThrough_21 rfl rfl ?_
    refine kX9_225 C (Nat.le_of_ble_eq_true rfl) (Nat.le_of_ble_eq_true rfl) (pc := 22) hm (Nat.le_of_ble_eq_true rfl) dX9_goThrough_22 (fun r13 S10 hm => ?_)
    refine v_if_eq C (pc := 25) hm 30 dX9_goThrough_25 rfl (fun hm => ?_) (fun hm => ?_)
    · refine v_iload_n C (pc := 30) 2 dX9_goThrough_30 rfl rfl ?_
      refine v_iconst C (pc := 31) 1 dX9_goThrough_31 rfl ?_
      refine v_iadd C (pc := 32) dX9_goThrough_32 ?_
      refine v_aload_n C (pc := 33) 1 dX9_goThrough_33 rfl rfl ?_
      refine gX9_130 C (pc := 34) dX9_goThrough_34 ?_
      refine v_icmp_ne C (pc := 37) hm 45 dX9_goThrough_37 rfl (fun hm => ?_) (fun hm => ?_)
      · refine v_aload_n C (pc := 45) 1 dX9_goThrough_45 rfl rfl ?_
        refine gX9_40 C (pc := 46) dX9_goThrough_46 ?_
        refine v_iload_n C (pc := 49) 2 dX9_goThrough_49 rfl rfl ?_
        refine v_iconst C (pc := 50) 1 dX9_goThrough_50 rfl ?_
        refine v_iadd C (pc := 51) dX9_goThrough_51 ?_
        refine ldX9_text C (pc := 52) hm dX9_goThrough_52 (fun hm => ?_)
        refine kX9_246 C (Nat.le_of_ble_eq_true rfl) (Nat.le_of_ble_eq_true rfl) (pc := 53) hm (Nat.le_of_ble_eq_true rfl) dX9_goThrough_53 (fun r14 S11 hm => ?_)
        refine v_istore_n C (pc := 56) [(3, .int r14), (2, .int y12), (0, .ref (ad 0)), (1, .int x1)] dX9_goThrough_56 rfl (by decide) rfl ?_
        refine v_iload_n C (pc := 57) 0 dX9_goThrough_57 rfl rfl ?_
        refine v_if_ge C (pc := 58) hm 65 dX9_goThrough_58 rfl (fun hm => ?_) (fun hm => ?_)
        · refine v_aload_n C (pc := 65) 2 dX9_goThrough_65 rfl rfl ?_
          refine v_iload_n C (pc := 66) 1 dX9_goThrough_66 rfl rfl ?_
          refine v_iload_n C (pc := 67) 0 dX9_goThrough_67 rfl rfl ?_
          refine kX9_232 C (Nat.le_of_ble_eq_true rfl) (Nat.le_of_ble_eq_true rfl) (pc := 68) hm (Nat.le_of_ble_eq_true rfl) dX9_goThrough_68 (fun r15 S12 hm => ?_)
          exact v_sub [2, 3, 0] rfl (vX9_goThrough_71 C hr hQ (N := N) hk2 hm)
        · refine v_iconst C (pc := 61) 0 dX9_goThrough_61 rfl ?_
          refine v_goto C (pc := 62) 71 dX9_goThrough_62 rfl ?_
          exact v_sub [2, 3, 0] rfl (vX9_goThrough_71 C hr hQ (N := N) hk2 hm)
      · refine v_aload_n C (pc := 40) 1 dX9_goThrough_40 rfl rfl ?_
        refine gX9_130 C (pc := 41) dX9_goThrough_41 ?_
        exact v_iret C hr hQ (pc := 44) hm dX9_goThrough_44
    · refine v_iload_n C (pc := 28) 2 dX9_goThrough_28 rfl rfl ?_
      exact v_iret C hr hQ (pc := 29) hm dX9_goThrough_29
theorem vX9_goThrough_2 {p : Program} {l : Launch} {e : Env} {s : State} {m : MethodId} {args : Array Value} {below : List Frame} {meth : Method} {c : Code} {Q : State → Prop} {D : va_G} {ad : Nat → Nat} {cA : Nat → ClassId} (C : Ok p s m args c D cA (mW ad cA) (mA ad) mS RX9 cX9_goThrough 5) (hr : Rt meth (some .int)) {r : Int32 × St} (hQ : Q = MQ below (Qo D (mW ad cA) (mA ad) (some (.int r.1)) r.2) args s 0 0 (mA ad)) {N : Nat}  (n : Nat) : ∀ (x1 : Int32) (S : St), fX9_goThrough_2 N  n x1 S = some r → V p l e rmX9_goThrough s m args below meth c Q D (mW ad cA) (mA ad) 5 S 2 [(0, .ref (ad 0)), (1, .int x1)] [] := by
  induction n with
  | zero => intro _ _  hm; exact absurd hm (by intro h; cases h)
  | succ n ih => intro _ _  hm; exact vX9_goThrough_2b C hr hQ (N := N)   ih  hm
def fX9_goThrough (N : Nat)  (S : St) : Option (Int32 × St) := fX9_goThrough_2 N N 0 S
set_option maxRecDepth 20000 in
theorem vX9_goThrough {p : Program} {l : Launch} {e : Env} {s : State} {m : MethodId} {args : Array Value} {below : List Frame} {meth : Method} {c : Code} {Q : State → Prop} {D : va_G} {ad : Nat → Nat} {cA : Nat → ClassId} (C : Ok p s m args c D cA (mW ad cA) (mA ad) mS RX9 cX9_goThrough 5) (hr : Rt meth (some .int)) {r : Int32 × St} (hQ : Q = MQ below (Qo D (mW ad cA) (mA ad) (some (.int r.1)) r.2) args s 0 0 (mA ad)) {N : Nat}  {S : St} (hm : fX9_goThrough N  S = some r) : V p l e rmX9_goThrough s m args below meth c Q D (mW ad cA) (mA ad) 5 S 0 [(0, .ref (ad 0))] [] := by
  unfold fX9_goThrough at hm
  refine v_iconst C (pc := 0) 0 dX9_goThrough_0 rfl ?_
  refine v_istore_n C (pc := 1) [(1, .int 0), (0, .ref (ad 0))] dX9_goThrough_1 rfl (by decide) rfl ?_
  exact v_sub [1, 0] rfl (vX9_goThrough_2 C hr hQ (N := N) N _ _ hm)
theorem mX9_goThrough {l : Launch} {D : va_G} {ad : Nat → Nat} {cA : Nat → ClassId} (hD : ∀ S, va_D (mA ad) (mW ad cA S)) {N : Nat}  {S : St} {r : Int32 × St} (hm : fX9_goThrough N  S = some r) : Met l yX9_goThrough (wsm yX9_goThrough cX9_goThrough 5 (some .int)) rmX9_goThrough (va_Pc [.ref (ad 0)] (Pre D cA (mW ad cA) mS S)) (Qo D (mW ad cA) (mA ad) (some (.int r.1)) r.2) 0 0 (mA ad) := met_of [.ref (ad 0)] (by decide) (Nat.le_of_ble_eq_true rfl) hD (fun _ _ _ _ h => h) (fun _ _ _ _ h => h) (fun p e s m below meth c C hr => vX9_goThrough C hr rfl (N := N)  hm)
-- X9_readMoves
theorem infX9_goThrough : InfV yX9_goThrough cX9_goThrough 5 (some .int) 0 := ⟨⟨gm (i := 65) (by decide +kernel) rfl, gm (i := 1102) (by decide +kernel) rfl, by decide +kernel⟩, gm (i := 1101) (by decide +kernel) rfl, gm (i := 39) (by decide +kernel) rfl⟩
theorem kX9_249 {p : Program} {l : Launch} {e : Env} {R : Room} {s : State} {m : MethodId} {args : Array Value} {below : List Frame} {meth : Method} {c : Code} {Q : State → Prop} {D : va_G} {ad : Nat → Nat} {cA : Nat → ClassId} {cc : ByteArray} {nL : Nat} {S : St} {pc : Nat} {lv : List (Nat × Value)} {st : List Value} {ρ : Type} {res : ρ} (C : Ok p s m args c D cA (mW ad cA) (mA ad) mS RX9 cc nL) (hfr : rmX9_goThrough.frames + 1 ≤ R.frames) (hlo : 8 + (5 + 11) + rmX9_goThrough.locals ≤ R.locals) {N : Nat}  {E : Int32 → St → Option ρ} (hm : bd (fX9_goThrough N  S) E = some res) (hcat : (st.map fun v => v.category).sum ≤ 8) (hd : decode cc pc = .ok (.invokevirtual 249, 3)) (k : ∀ r S, E r S = some res → V p l e R s m args below meth c Q D (mW ad cA) (mA ad) nL S (pc + 3) lv (.int r :: st)) : V p l e R s m args below meth c Q D (mW ad cA) (mA ad) nL S pc lv (.ref (ad 0) :: st) := by
  obtain ⟨r, S1, h1, h2⟩ := bd_some hm
  exact v_callV C (gm (i := 1099) (by decide +kernel) rfl : Cond.methodLink RX9 249 yX9_goThrough ∈ gw_tbl) infX9_goThrough (rm2 := rmX9_goThrough) ⟨rfl, rfl⟩ hfr hlo (mX9_goThrough C.2.2.2.2.2.2.1 h1) (As := []) (oX9 ad cA S) rfl rfl rfl rfl hcat hd (k r S1 h2)
def rmX9_readMoves : Room := { frames := 7, cells := 0, slots := 0, locals := 168 }
def fX9_readMoves_47b (N : Nat)  (k47 : Int32 → St → Option (Int32 × St)) (x4 : Int32) (S : St) : Option (Int32 × St) := if (S.1 3) ≤ x4 then (some (((S.1 3) / 2), S)) else (ck x4 80 (nm ((S.2.2.1 10 (Int32.toNatClampNeg x4)) - 97) fun y12 => ck (x4 + 1) 80 (bd (fX9_kindOfMove N (S.2.2.1 10 (Int32.toNatClampNeg (x4 + 1))) S) fun r13 S10 => bd (fX9_movedBy N y12 r13 S10) fun r14 S11 => bd (fX9_makes N y12 r13 r14 S11) fun r15 S12 => k47 (x4 + 2) S12)))
def fX9_readMoves_47 (N : Nat)  : Nat → Int32 → St → Option (Int32 × St)
  | 0 => fun _ _ => none
  | n + 1 => fun x4 S => fX9_readMoves_47b N  (fX9_readMoves_47 N  n) x4 S
set_option maxRecDepth 20000 in
theorem vX9_readMoves_47b {p : Program} {l : Launch} {e : Env} {s : State} {m : MethodId} {args : Array Value} {below : List Frame} {meth : Method} {c : Code} {Q : State → Prop} {D : va_G} {ad : Nat → Nat} {cA : Nat → ClassId} (C : Ok p s m args c D cA (mW ad cA) (mA ad) mS RX9 cX9_readMoves 7) (hr : Rt meth (some .int)) {r : Int32 × St} (hQ : Q = MQ below (Qo D (mW ad cA) (mA ad) (some (.int r.1)) r.2) args s 0 0 (mA ad)) {N : Nat}  {k47 : Int32 → St → Option (Int32 × St)} (hk47 : ∀ (x4 : Int32) (S : St), k47 x4 S = some r → V p l e rmX9_readMoves s m args below meth c Q D (mW ad cA) (mA ad) 7 S 47 [(0, .ref (ad 0)), (4, .int x4)] []) {x4 : Int32}  {S : St} (hm : fX9_readMoves_47b N  k47 x4 S = some r) : V p l e rmX9_readMoves s m args below meth c Q D (mW ad cA) (mA ad) 7 S 47 [(0, .ref (ad 0)), (4, .int x4)] [] := by
  unfold fX9_readMoves_47b at hm
  refine v_iload C (pc := 47) 1 dX9_readMoves_47 rfl ?_
  refine v_aload_n C (pc := 49) 0 dX9_readMoves_49 rfl rfl ?_
  refine gX9_130 C (pc := 50) dX9_readMoves_50 ?_
  refine v_icmp_ge C (pc := 53) hm 104 dX9_readMoves_53 rfl (fun hm => ?_) (fun hm => ?_)
  · refine v_aload_n C (pc := 104) 0 dX9_readMoves_104 rfl rfl ?_
    refine gX9_130 C (pc := 105) dX9_readMoves_105 ?_
    refine v_iconst C (pc := 108) 2 dX9_readMoves_108 rfl ?_
    refine v_idiv C (pc := 109) dX9_readMoves_109 (by decide) ?_
    exact v_iret C hr hQ (pc := 110) hm dX9_readMoves_110
  · refine v_aload_n C (pc := 56) 0 dX9_readMoves_56 rfl rfl ?_
    refine gX9_40 C (pc := 57) dX9_readMoves_57 ?_
    refine v_iload C (pc := 60) 1 dX9_readMoves_60 rfl ?_
    refine ldX9_text C (pc := 62) hm dX9_readMoves_62 (fun hm => ?_)
    refine v_bipush C (pc := 63) 97 dX9_readMoves_63 rfl ?_
    refine v_isub C (pc := 65) dX9_readMoves_65 ?_
    refine v_istoreN C (pc := 66) [(0, .ref (ad 0)), (4, .int x4)] hm dX9_readMoves_66 (by decide) rfl (fun y12 hm => ?_)
    refine v_aload_n C (pc := 68) 1 dX9_readMoves_68 rfl rfl ?_
    refine gX9_40 C (pc := 69) dX9_readMoves_69 ?_
    refine v_iload C (pc := 72) 2 dX9_readMoves_72 rfl ?_
    refine v_iconst C (pc := 74) 1 dX9_readMoves_74 rfl ?_
    refine v_iadd C (pc := 75) dX9_readMoves_75 ?_
    refine ldX9_text C (pc := 76) hm dX9_readMoves_76 (fun hm => ?_)
    refine kX9_246 C (Nat.le_of_ble_eq_true rfl) (Nat.le_of_ble_eq_true rfl) (pc := 77) hm (Nat.le_of_ble_eq_true rfl) dX9_readMoves_77 (fun r13 S10 hm => ?_)
    refine v_istore C (pc := 80) [(6, .int r13), (5, .int y12), (0, .ref (ad 0)), (4, .int x4)] dX9_readMoves_80 (by decide) rfl ?_
    refine v_aload_n C (pc := 82) 2 dX9_readMoves_82 rfl rfl ?_
    refine v_iload C (pc := 83) 1 dX9_readMoves_83 rfl ?_
    refine v_iload C (pc := 85) 0 dX9_readMoves_85 rfl ?_
    refine v_aload_n C (pc := 87) 2 dX9_readMoves_87 rfl rfl ?_
    refine v_iload C (pc := 88) 1 dX9_readMoves_88 rfl ?_
    refine v_iload C (pc := 90) 0 dX9_readMoves_90 rfl ?_
    refine kX9_232 C (Nat.le_of_ble_eq_true rfl) (Nat.le_of_ble_eq_true rfl) (pc := 92) hm (Nat.le_of_ble_eq_true rfl) dX9_readMoves_92 (fun r14 S11 hm => ?_)
    refine kX9_235 C (Nat.le_of_ble_eq_true rfl) (Nat.le_of_ble_eq_true rfl) (pc := 95) hm (Nat.le_of_ble_eq_true rfl) dX9_readMoves_95 (fun r15 S12 hm => ?_)
    refine v_iinc C (pc := 98) 2 3 [(4, .int (x4 + 2)), (6, .int r13), (5, .int y12), (0, .ref (ad 0))] dX9_readMoves_98 rfl rfl (by decide) rfl ?_
    refine v_goto C (pc := 101) 47 dX9_readMoves_101 rfl ?_
    exact v_sub [3, 0] rfl (hk47 _ _ hm)
theorem vX9_readMoves_47 {p : Program} {l : Launch} {e : Env} {s : State} {m : MethodId} {args : Array Value} {below : List Frame} {meth : Method} {c : Code} {Q : State → Prop} {D : va_G} {ad : Nat → Nat} {cA : Nat → ClassId} (C : Ok p s m args c D cA (mW ad cA) (mA ad) mS RX9 cX9_readMoves 7) (hr : Rt meth (some .int)) {r : Int32 × St} (hQ : Q = MQ below (Qo D (mW ad cA) (mA ad) (some (.int r.1)) r.2) args s 0 0 (mA ad)) {N : Nat}  (n : Nat) : ∀ (x4 : Int32) (S : St), fX9_readMoves_47 N  n x4 S = some r → V p l e rmX9_readMoves s m args below meth c Q D (mW ad cA) (mA ad) 7 S 47 [(0, .ref (ad 0)), (4, .int x4)] [] := by
  induction n with
  | zero => intro _ _  hm; exact absurd hm (by intro h; cases h)
  | succ n ih => intro _ _  hm; exact vX9_readMoves_47b C hr hQ (N := N)   ih  hm
def fX9_readMoves (N : Nat)  (S : St) : Option (Int32 × St) := bd (fX9_packed N  S) fun r16 S13 => bd (fX9_goThrough N  S13) fun r17 S14 => bd (fX9_unpack N r16 S14) fun r18 S15 => if r17 < 0 then (if ((S15.1 8) + ((S15.1 3) / 2)) ≤ 200 then (fX9_readMoves_47 N N 0 S15) else (some ((-5), S15))) else (some (((-100) - r17), S15))
set_option maxRecDepth 20000 in
theorem vX9_readMoves {p : Program} {l : Launch} {e : Env} {s : State} {m : MethodId} {args : Array Value} {below : List Frame} {meth : Method} {c : Code} {Q : State → Prop} {D : va_G} {ad : Nat → Nat} {cA : Nat → ClassId} (C : Ok p s m args c D cA (mW ad cA) (mA ad) mS RX9 cX9_readMoves 7) (hr : Rt meth (some .int)) {r : Int32 × St} (hQ : Q = MQ below (Qo D (mW ad cA) (mA ad) (some (.int r.1)) r.2) args s 0 0 (mA ad)) {N : Nat}  {S : St} (hm : fX9_readMoves N  S = some r) : V p l e rmX9_readMoves s m args below meth c Q D (mW ad cA) (mA ad) 7 S 0 [(0, .ref (ad 0))] [] := by
  unfold fX9_readMoves at hm
  refine v_aload_n C (pc := 0) 0 dX9_readMoves_0 rfl rfl ?_
  refine kX9_217 C (Nat.le_of_ble_eq_true rfl) (Nat.le_of_ble_eq_true rfl) (pc := 1) hm (Nat.le_of_ble_eq_true rfl) dX9_readMoves_1 (fun r16 S13 hm => ?_)
  refine v_lstore_n C (pc := 4) [(1, .long r16), (0, .ref (ad 0))] dX9_readMoves_4 rfl (by decide) rfl ?_
  refine v_aload_n C (pc := 5) 1 dX9_readMoves_5 rfl rfl ?_
  refine kX9_249 C (Nat.le_of_ble_eq_true rfl) (Nat.le_of_ble_eq_true rfl) (pc := 6) hm (Nat.le_of_ble_eq_true rfl) dX9_readMoves_6 (fun r17 S14 hm => ?_)
  refine v_istore_n C (pc := 9) [(3, .int r17), (1, .long r16), (0, .ref (ad 0))] dX9_readMoves_9 rfl (by decide) rfl ?_
  refine v_aload_n C (pc := 10) 2 dX9_readMoves_10 rfl rfl ?_
  refine v_lload_n C (pc := 11) 1 dX9_readMoves_11 rfl rfl ?_
  refine kX9_242 C (Nat.le_of_ble_eq_true rfl) (Nat.le_of_ble_eq_true rfl) (pc := 12) hm (Nat.le_of_ble_eq_true rfl) dX9_readMoves_12 (fun r18 S15 hm => ?_)
  refine v_iload_n C (pc := 15) 0 dX9_readMoves_15 rfl rfl ?_
  refine v_if_lt C (pc := 16) hm 24 dX9_readMoves_16 rfl (fun hm => ?_) (fun hm => ?_)
  · refine v_aload_n C (pc := 24) 2 dX9_readMoves_24 rfl rfl ?_
    refine gX9_153 C (pc := 25) dX9_readMoves_25 ?_
    refine v_aload_n C (pc := 28) 2 dX9_readMoves_28 rfl rfl ?_
    refine gX9_130 C (pc := 29) dX9_readMoves_29 ?_
    refine v_iconst C (pc := 32) 2 dX9_readMoves_32 rfl ?_
    refine v_idiv C (pc := 33) dX9_readMoves_33 (by decide) ?_
    refine v_iadd C (pc := 34) dX9_readMoves_34 ?_
    refine v_sipush C (pc := 35) 200 dX9_readMoves_35 rfl ?_
    refine v_icmp_le C (pc := 38) hm 44 dX9_readMoves_38 rfl (fun hm => ?_) (fun hm => ?_)
    · refine v_iconst C (pc := 44) 0 dX9_readMoves_44 rfl ?_
      refine v_istore C (pc := 45) [(4, .int 0), (3, .int r17), (1, .long r16), (0, .ref (ad 0))] dX9_readMoves_45 (by decide) rfl ?_
      exact v_sub [3, 0] rfl (vX9_readMoves_47 C hr hQ (N := N) N _ _ hm)
    · refine v_bipush C (pc := 41) (-5) dX9_readMoves_41 rfl ?_
      exact v_iret C hr hQ (pc := 43) hm dX9_readMoves_43
  · refine v_bipush C (pc := 19) (-100) dX9_readMoves_19 rfl ?_
    refine v_iload_n C (pc := 21) 0 dX9_readMoves_21 rfl rfl ?_
    refine v_isub C (pc := 22) dX9_readMoves_22 ?_
    exact v_iret C hr hQ (pc := 23) hm dX9_readMoves_23
theorem mX9_readMoves {l : Launch} {D : va_G} {ad : Nat → Nat} {cA : Nat → ClassId} (hD : ∀ S, va_D (mA ad) (mW ad cA S)) {N : Nat}  {S : St} {r : Int32 × St} (hm : fX9_readMoves N  S = some r) : Met l yX9_readMoves (wsm yX9_readMoves cX9_readMoves 7 (some .int)) rmX9_readMoves (va_Pc [.ref (ad 0)] (Pre D cA (mW ad cA) mS S)) (Qo D (mW ad cA) (mA ad) (some (.int r.1)) r.2) 0 0 (mA ad) := met_of [.ref (ad 0)] (by decide) (Nat.le_of_ble_eq_true rfl) hD (fun _ _ _ _ h => h) (fun _ _ _ _ h => h) (fun p e s m below meth c C hr => vX9_readMoves C hr rfl (N := N)  hm)
-- X9_size
def rmX9_size : Room := { frames := 0, cells := 0, slots := 0, locals := 0 }
def fX9_size_24 (N : Nat) (k4 : Int32 → Int32 → Int32 → St → Option (Int32 × St)) (s0 : Bool) (s1 : Int32) (x1 : Int32) (x3 : Int32) (S : St) : Option (Int32 × St) := nm (s1 + (b2i s0)) fun y3 => k4 x1 y3 (x3 + 1) S
set_option maxRecDepth 20000 in
theorem vX9_size_24 {p : Program} {l : Launch} {e : Env} {s : State} {m : MethodId} {args : Array Value} {below : List Frame} {meth : Method} {c : Code} {Q : State → Prop} {D : va_G} {ad : Nat → Nat} {cA : Nat → ClassId} (C : Ok p s m args c D cA (mW ad cA) (mA ad) mS RX9 cX9_size 4) (hr : Rt meth (some .int)) {r : Int32 × St} (hQ : Q = MQ below (Qo D (mW ad cA) (mA ad) (some (.int r.1)) r.2) args s 0 0 (mA ad)) {N : Nat} {k4 : Int32 → Int32 → Int32 → St → Option (Int32 × St)} (hk4 : ∀ (x1 : Int32) (x2 : Int32) (x3 : Int32) (S : St), k4 x1 x2 x3 S = some r → V p l e rmX9_size s m args below meth c Q D (mW ad cA) (mA ad) 4 S 4 [(0, .ref (ad 0)), (1, .int x1), (2, .int x2), (3, .int x3)] []) {s0 : Bool} {s1 : Int32} {x1 : Int32} {x3 : Int32}  {S : St} (hm : fX9_size_24 N k4 s0 s1 x1 x3 S = some r) : V p l e rmX9_size s m args below meth c Q D (mW ad cA) (mA ad) 4 S 24 [(0, .ref (ad 0)), (1, .int x1), (3, .int x3)] [.int (b2i s0), .int s1] := by
  unfold fX9_size_24 at hm
  refine v_iadd C (pc := 24) dX9_size_24 ?_
  refine v_istore_nN C (pc := 25) [(0, .ref (ad 0)), (1, .int x1), (3, .int x3)] hm dX9_size_25 rfl (by decide) rfl (fun y3 hm => ?_)
  refine v_iinc C (pc := 26) 1 3 [(3, .int (x3 + 1)), (2, .int y3), (0, .ref (ad 0)), (1, .int x1)] dX9_size_26 rfl rfl (by decide) rfl ?_
  refine v_goto C (pc := 29) 4 dX9_size_29 rfl ?_
  exact v_sub [2, 3, 1, 0] rfl (hk4 _ _ _ _ hm)
def fX9_size_78 (N : Nat)  (s0 : Int32) (S : St) : Option (Int32 × St) := some (s0, S)
set_option maxRecDepth 20000 in
theorem vX9_size_78 {p : Program} {l : Launch} {e : Env} {s : State} {m : MethodId} {args : Array Value} {below : List Frame} {meth : Method} {c : Code} {Q : State → Prop} {D : va_G} {ad : Nat → Nat} {cA : Nat → ClassId} (C : Ok p s m args c D cA (mW ad cA) (mA ad) mS RX9 cX9_size 4) (hr : Rt meth (some .int)) {r : Int32 × St} (hQ : Q = MQ below (Qo D (mW ad cA) (mA ad) (some (.int r.1)) r.2) args s 0 0 (mA ad)) {N : Nat}  {s0 : Int32}  {S : St} (hm : fX9_size_78 N  s0 S = some r) : V p l e rmX9_size s m args below meth c Q D (mW ad cA) (mA ad) 4 S 78 [] [.int s0] := by
  unfold fX9_size_78 at hm
  exact v_iret C hr hQ (pc := 78) hm dX9_size_78
def fX9_size_4b (N : Nat)  (k4 : Int32 → Int32 → Int32 → St → Option (Int32 × St)) (x1 : Int32) (x2 : Int32) (x3 : Int32) (S : St) : Option (Int32 × St) := if 5 ≤ x3 then (if x1 = 0 then (fX9_size_78 N (S.1 0) S) else (if x1 = 1 then (fX9_size_78 N (S.1 1) S) else (if x1 = 2 then (fX9_size_78 N x2 S) else (if x1 = 3 then (fX9_size_78 N (S.1 2) S) else (fX9_size_78 N (-3) S))))) else (ck x3 5 (if (S.2.2.1 2 (Int32.toNatClampNeg x3)) = 0 then (fX9_size_24 N k4 false x2 x1 x3 S) else (fX9_size_24 N k4 true x2 x1 x3 S)))
def fX9_size_4 (N : Nat)  : Nat → Int32 → Int32 → Int32 → St → Option (Int32 × St)
  | 0 => fun _ _ _ _ => none
  | n + 1 => fun x1 x2 x3 S => fX9_size_4b N  (fX9_size_4 N  n) x1 x2 x3 S
set_option maxRecDepth 20000 in
theorem vX9_size_4b {p : Program} {l : Launch} {e : Env} {s : State} {m : MethodId} {args : Array Value} {below : List Frame} {meth : Method} {c : Code} {Q : State → Prop} {D : va_G} {ad : Nat → Nat} {cA : Nat → ClassId} (C : Ok p s m args c D cA (mW ad cA) (mA ad) mS RX9 cX9_size 4) (hr : Rt meth (some .int)) {r : Int32 × St} (hQ : Q = MQ below (Qo D (mW ad cA) (mA ad) (some (.int r.1)) r.2) args s 0 0 (mA ad)) {N : Nat}  {k4 : Int32 → Int32 → Int32 → St → Option (Int32 × St)} (hk4 : ∀ (x1 : Int32) (x2 : Int32) (x3 : Int32) (S : St), k4 x1 x2 x3 S = some r → V p l e rmX9_size s m args below meth c Q D (mW ad cA) (mA ad) 4 S 4 [(0, .ref (ad 0)), (1, .int x1), (2, .int x2), (3, .int x3)] []) {x1 : Int32} {x2 : Int32} {x3 : Int32}  {S : St} (hm : fX9_size_4b N  k4 x1 x2 x3 S = some r) : V p l e rmX9_size s m args below meth c Q D (mW ad cA) (mA ad) 4 S 4 [(0, .ref (ad 0)), (1, .int x1), (2, .int x2), (3, .int x3)] [] := by
  unfold fX9_size_4b at hm
  refine v_iload_n C (pc := 4) 3 dX9_size_4 rfl rfl ?_
  refine v_iconst C (pc := 5) 5 dX9_size_5 rfl ?_
  refine v_icmp_ge C (pc := 6) hm 32 dX9_size_6 rfl (fun hm => ?_) (fun hm => ?_)
  · refine v_iload_n C (pc := 32) 1 dX9_size_32 rfl rfl ?_
    refine v_if_ne C (pc := 33) hm 43 dX9_size_33 rfl (fun hm => ?_) (fun hm => ?_)
    · refine v_iload_n C (pc := 43) 1 dX9_size_43 rfl rfl ?_
      refine v_iconst C (pc := 44) 1 dX9_size_44 rfl ?_
      refine v_icmp_ne C (pc := 45) hm 55 dX9_size_45 rfl (fun hm => ?_) (fun hm => ?_)
      · refine v_iload_n C (pc := 55) 1 dX9_size_55 rfl rfl ?_
        refine v_iconst C (pc := 56) 2 dX9_size_56 rfl ?_
        refine v_icmp_ne C (pc := 57) hm 64 dX9_size_57 rfl (fun hm => ?_) (fun hm => ?_)
        · refine v_iload_n C (pc := 64) 1 dX9_size_64 rfl rfl ?_
          refine v_iconst C (pc := 65) 3 dX9_size_65 rfl ?_
          refine v_icmp_ne C (pc := 66) hm 76 dX9_size_66 rfl (fun hm => ?_) (fun hm => ?_)
          · refine v_bipush C (pc := 76) (-3) dX9_size_76 rfl ?_
            exact v_sub [] rfl (vX9_size_78 C hr hQ (N := N) hm)
          · refine v_aload_n C (pc := 69) 0 dX9_size_69 rfl rfl ?_
            refine gX9_116 C (pc := 70) dX9_size_70 ?_
            refine v_goto C (pc := 73) 78 dX9_size_73 rfl ?_
            exact v_sub [] rfl (vX9_size_78 C hr hQ (N := N) hm)
        · refine v_iload_n C (pc := 60) 2 dX9_size_60 rfl rfl ?_
          refine v_goto C (pc := 61) 78 dX9_size_61 rfl ?_
          exact v_sub [] rfl (vX9_size_78 C hr hQ (N := N) hm)
      · refine v_aload_n C (pc := 48) 0 dX9_size_48 rfl rfl ?_
        refine gX9_113 C (pc := 49) dX9_size_49 ?_
        refine v_goto C (pc := 52) 78 dX9_size_52 rfl ?_
        exact v_sub [] rfl (vX9_size_78 C hr hQ (N := N) hm)
    · refine v_aload_n C (pc := 36) 0 dX9_size_36 rfl rfl ?_
      refine gX9_109 C (pc := 37) dX9_size_37 ?_
      refine v_goto C (pc := 40) 78 dX9_size_40 rfl ?_
      exact v_sub [] rfl (vX9_size_78 C hr hQ (N := N) hm)
  · refine v_iload_n C (pc := 9) 2 dX9_size_9 rfl rfl ?_
    refine v_aload_n C (pc := 10) 0 dX9_size_10 rfl rfl ?_
    refine gX9_16 C (pc := 11) dX9_size_11 ?_
    refine v_iload_n C (pc := 14) 3 dX9_size_14 rfl rfl ?_
    refine ldX9_cells C (pc := 15) hm dX9_size_15 (fun hm => ?_)
    refine v_if_ne C (pc := 16) hm 23 dX9_size_16 rfl (fun hm => ?_) (fun hm => ?_)
    · refine v_iconst C (pc := 23) 1 dX9_size_23 rfl ?_
      exact v_sub [0, 1, 3] rfl (vX9_size_24 C hr hQ (N := N) hk4 hm)
    · refine v_iconst C (pc := 19) 0 dX9_size_19 rfl ?_
      refine v_goto C (pc := 20) 24 dX9_size_20 rfl ?_
      exact v_sub [0, 1, 3] rfl (vX9_size_24 C hr hQ (N := N) hk4 hm)
theorem vX9_size_4 {p : Program} {l : Launch} {e : Env} {s : State} {m : MethodId} {args : Array Value} {below : List Frame} {meth : Method} {c : Code} {Q : State → Prop} {D : va_G} {ad : Nat → Nat} {cA : Nat → ClassId} (C : Ok p s m args c D cA (mW ad cA) (mA ad) mS RX9 cX9_size 4) (hr : Rt meth (some .int)) {r : Int32 × St} (hQ : Q = MQ below (Qo D (mW ad cA) (mA ad) (some (.int r.1)) r.2) args s 0 0 (mA ad)) {N : Nat}  (n : Nat) : ∀ (x1 : Int32) (x2 : Int32) (x3 : Int32) (S : St), fX9_size_4 N  n x1 x2 x3 S = some r → V p l e rmX9_size s m args below meth c Q D (mW ad cA) (mA ad) 4 S 4 [(0, .ref (ad 0)), (1, .int x1), (2, .int x2), (3, .int x3)] [] := by
  induction n with
  | zero => intro _ _ _ _  hm; exact absurd hm (by intro h; cases h)
  | succ n ih => intro _ _ _ _  hm; exact vX9_size_4b C hr hQ (N := N)   ih  hm
def fX9_size (N : Nat) (p1 : Int32) (S : St) : Option (Int32 × St) := fX9_size_4 N N p1 0 0 S
set_option maxRecDepth 20000 in
theorem vX9_size {p : Program} {l : Launch} {e : Env} {s : State} {m : MethodId} {args : Array Value} {below : List Frame} {meth : Method} {c : Code} {Q : State → Prop} {D : va_G} {ad : Nat → Nat} {cA : Nat → ClassId} (C : Ok p s m args c D cA (mW ad cA) (mA ad) mS RX9 cX9_size 4) (hr : Rt meth (some .int)) {r : Int32 × St} (hQ : Q = MQ below (Qo D (mW ad cA) (mA ad) (some (.int r.1)) r.2) args s 0 0 (mA ad)) {N : Nat} {p1 : Int32} {S : St} (hm : fX9_size N p1 S = some r) : V p l e rmX9_size s m args below meth c Q D (mW ad cA) (mA ad) 4 S 0 [(0, .ref (ad 0)), (1, .int p1)] [] := by
  unfold fX9_size at hm
  refine v_iconst C (pc := 0) 0 dX9_size_0 rfl ?_
  refine v_istore_n C (pc := 1) [(2, .int 0), (0, .ref (ad 0)), (1, .int p1)] dX9_size_1 rfl (by decide) rfl ?_
  refine v_iconst C (pc := 2) 0 dX9_size_2 rfl ?_
  refine v_istore_n C (pc := 3) [(3, .int 0), (2, .int 0), (0, .ref (ad 0)), (1, .int p1)] dX9_size_3 rfl (by decide) rfl ?_
  exact v_sub [2, 3, 1, 0] rfl (vX9_size_4 C hr hQ (N := N) N _ _ _ _ hm)
theorem mX9_size {l : Launch} {D : va_G} {ad : Nat → Nat} {cA : Nat → ClassId} (hD : ∀ S, va_D (mA ad) (mW ad cA S)) {N : Nat} {p1 : Int32} {S : St} {r : Int32 × St} (hm : fX9_size N p1 S = some r) : Met l yX9_size (wsm yX9_size cX9_size 4 (some .int)) rmX9_size (va_Pc [.ref (ad 0), .int p1] (Pre D cA (mW ad cA) mS S)) (Qo D (mW ad cA) (mA ad) (some (.int r.1)) r.2) 0 0 (mA ad) := met_of [.ref (ad 0), .int p1] (by decide) (Nat.le_of_ble_eq_true rfl) hD (fun _ _ _ _ h => h) (fun _ _ _ _ h => h) (fun p e s m below meth c C hr => vX9_size C hr rfl (N := N)  hm)
-- X9_cell
def rmX9_cell : Room := { frames := 2, cells := 0, slots := 0, locals := 44 }
def fX9_cell_20 (N : Nat)  (s0 : Int32) (S : St) : Option (Int32 × St) := some (s0, S)
set_option maxRecDepth 20000 in
theorem vX9_cell_20 {p : Program} {l : Launch} {e : Env} {s : State} {m : MethodId} {args : Array Value} {below : List Frame} {meth : Method} {c : Code} {Q : State → Prop} {D : va_G} {ad : Nat → Nat} {cA : Nat → ClassId} (C : Ok p s m args c D cA (mW ad cA) (mA ad) mS RX9 cX9_cell 3) (hr : Rt meth (some .int)) {r : Int32 × St} (hQ : Q = MQ below (Qo D (mW ad cA) (mA ad) (some (.int r.1)) r.2) args s 0 0 (mA ad)) {N : Nat}  {s0 : Int32}  {S : St} (hm : fX9_cell_20 N  s0 S = some r) : V p l e rmX9_cell s m args below meth c Q D (mW ad cA) (mA ad) 3 S 20 [] [.int s0] := by
  unfold fX9_cell_20 at hm
  exact v_iret C hr hQ (pc := 20) hm dX9_cell_20
def fX9_cell (N : Nat) (p1 : Int32) (p2 : Int32) (S : St) : Option (Int32 × St) := bd (fX9_isInYard N p1 p2 S) fun r3 S3 => if (b2i r3) = 0 then (fX9_cell_20 N (-2) S3) else (bd (fX9_kindAt N p1 p2 S3) fun r4 S4 => fX9_cell_20 N r4 S4)
set_option maxRecDepth 20000 in
theorem vX9_cell {p : Program} {l : Launch} {e : Env} {s : State} {m : MethodId} {args : Array Value} {below : List Frame} {meth : Method} {c : Code} {Q : State → Prop} {D : va_G} {ad : Nat → Nat} {cA : Nat → ClassId} (C : Ok p s m args c D cA (mW ad cA) (mA ad) mS RX9 cX9_cell 3) (hr : Rt meth (some .int)) {r : Int32 × St} (hQ : Q = MQ below (Qo D (mW ad cA) (mA ad) (some (.int r.1)) r.2) args s 0 0 (mA ad)) {N : Nat} {p1 : Int32} {p2 : Int32} {S : St} (hm : fX9_cell N p1 p2 S = some r) : V p l e rmX9_cell s m args below meth c Q D (mW ad cA) (mA ad) 3 S 0 [(0, .ref (ad 0)), (1, .int p1), (2, .int p2)] [] := by
  unfold fX9_cell at hm
  refine v_aload_n C (pc := 0) 0 dX9_cell_0 rfl rfl ?_
  refine v_iload_n C (pc := 1) 1 dX9_cell_1 rfl rfl ?_
  refine v_iload_n C (pc := 2) 2 dX9_cell_2 rfl rfl ?_
  refine kX9_167 C (Nat.le_of_ble_eq_true rfl) (Nat.le_of_ble_eq_true rfl) (pc := 3) hm (Nat.le_of_ble_eq_true rfl) dX9_cell_3 (fun r3 S3 hm => ?_)
  refine v_if_eq C (pc := 6) hm 18 dX9_cell_6 rfl (fun hm => ?_) (fun hm => ?_)
  · refine v_bipush C (pc := 18) (-2) dX9_cell_18 rfl ?_
    exact v_sub [] rfl (vX9_cell_20 C hr hQ (N := N) hm)
  · refine v_aload_n C (pc := 9) 0 dX9_cell_9 rfl rfl ?_
    refine v_iload_n C (pc := 10) 1 dX9_cell_10 rfl rfl ?_
    refine v_iload_n C (pc := 11) 2 dX9_cell_11 rfl rfl ?_
    refine kX9_171 C (Nat.le_of_ble_eq_true rfl) (Nat.le_of_ble_eq_true rfl) (pc := 12) hm (Nat.le_of_ble_eq_true rfl) dX9_cell_12 (fun r4 S4 hm => ?_)
    refine v_goto C (pc := 15) 20 dX9_cell_15 rfl ?_
    exact v_sub [] rfl (vX9_cell_20 C hr hQ (N := N) hm)
theorem mX9_cell {l : Launch} {D : va_G} {ad : Nat → Nat} {cA : Nat → ClassId} (hD : ∀ S, va_D (mA ad) (mW ad cA S)) {N : Nat} {p1 : Int32} {p2 : Int32} {S : St} {r : Int32 × St} (hm : fX9_cell N p1 p2 S = some r) : Met l yX9_cell (wsm yX9_cell cX9_cell 3 (some .int)) rmX9_cell (va_Pc [.ref (ad 0), .int p1, .int p2] (Pre D cA (mW ad cA) mS S)) (Qo D (mW ad cA) (mA ad) (some (.int r.1)) r.2) 0 0 (mA ad) := met_of [.ref (ad 0), .int p1, .int p2] (by decide) (Nat.le_of_ble_eq_true rfl) hD (fun _ _ _ _ h => h) (fun _ _ _ _ h => h) (fun p e s m below meth c C hr => vX9_cell C hr rfl (N := N)  hm)
-- X9_blockAt
def rmX9_blockAt : Room := { frames := 3, cells := 0, slots := 0, locals := 69 }
def fX9_blockAt_46 (N : Nat)  (s0 : Int32) (S : St) : Option (Int32 × St) := some (s0, S)
set_option maxRecDepth 20000 in
theorem vX9_blockAt_46 {p : Program} {l : Launch} {e : Env} {s : State} {m : MethodId} {args : Array Value} {below : List Frame} {meth : Method} {c : Code} {Q : State → Prop} {D : va_G} {ad : Nat → Nat} {cA : Nat → ClassId} (C : Ok p s m args c D cA (mW ad cA) (mA ad) mS RX9 cX9_blockAt 3) (hr : Rt meth (some .int)) {r : Int32 × St} (hQ : Q = MQ below (Qo D (mW ad cA) (mA ad) (some (.int r.1)) r.2) args s 0 0 (mA ad)) {N : Nat}  {s0 : Int32}  {S : St} (hm : fX9_blockAt_46 N  s0 S = some r) : V p l e rmX9_blockAt s m args below meth c Q D (mW ad cA) (mA ad) 3 S 46 [] [.int s0] := by
  unfold fX9_blockAt_46 at hm
  exact v_iret C hr hQ (pc := 46) hm dX9_blockAt_46
def fX9_blockAt (N : Nat) (p1 : Int32) (p2 : Int32) (S : St) : Option (Int32 × St) := bd (fX9_isInYard N p1 p2 S) fun r3 S3 => if (b2i r3) = 0 then (some ((-2), S3)) else (bd (fX9_layOwners N  S3) fun r4 S4 => ck ((8 * p2) + p1) 64 (if 0 ≤ (S4.2.2.1 18 (Int32.toNatClampNeg ((8 * p2) + p1))) then (ck ((8 * p2) + p1) 64 (fX9_blockAt_46 N (S4.2.2.1 18 (Int32.toNatClampNeg ((8 * p2) + p1))) S4)) else (fX9_blockAt_46 N (-7) S4)))
set_option maxRecDepth 20000 in
theorem vX9_blockAt {p : Program} {l : Launch} {e : Env} {s : State} {m : MethodId} {args : Array Value} {below : List Frame} {meth : Method} {c : Code} {Q : State → Prop} {D : va_G} {ad : Nat → Nat} {cA : Nat → ClassId} (C : Ok p s m args c D cA (mW ad cA) (mA ad) mS RX9 cX9_blockAt 3) (hr : Rt meth (some .int)) {r : Int32 × St} (hQ : Q = MQ below (Qo D (mW ad cA) (mA ad) (some (.int r.1)) r.2) args s 0 0 (mA ad)) {N : Nat} {p1 : Int32} {p2 : Int32} {S : St} (hm : fX9_blockAt N p1 p2 S = some r) : V p l e rmX9_blockAt s m args below meth c Q D (mW ad cA) (mA ad) 3 S 0 [(0, .ref (ad 0)), (1, .int p1), (2, .int p2)] [] := by
  unfold fX9_blockAt at hm
  refine v_aload_n C (pc := 0) 0 dX9_blockAt_0 rfl rfl ?_
  refine v_iload_n C (pc := 1) 1 dX9_blockAt_1 rfl rfl ?_
  refine v_iload_n C (pc := 2) 2 dX9_blockAt_2 rfl rfl ?_
  refine kX9_167 C (Nat.le_of_ble_eq_true rfl) (Nat.le_of_ble_eq_true rfl) (pc := 3) hm (Nat.le_of_ble_eq_true rfl) dX9_blockAt_3 (fun r3 S3 hm => ?_)
  refine v_if_ne C (pc := 6) hm 12 dX9_blockAt_6 rfl (fun hm => ?_) (fun hm => ?_)
  · refine v_aload_n C (pc := 12) 0 dX9_blockAt_12 rfl rfl ?_
    refine kX9_201 C (Nat.le_of_ble_eq_true rfl) (Nat.le_of_ble_eq_true rfl) (pc := 13) hm (Nat.le_of_ble_eq_true rfl) dX9_blockAt_13 (fun r4 S4 hm => ?_)
    refine v_aload_n C (pc := 16) 0 dX9_blockAt_16 rfl rfl ?_
    refine gX9_65 C (pc := 17) dX9_blockAt_17 ?_
    refine v_bipush C (pc := 20) 8 dX9_blockAt_20 rfl ?_
    refine v_iload_n C (pc := 22) 2 dX9_blockAt_22 rfl rfl ?_
    refine v_imul C (pc := 23) dX9_blockAt_23 ?_
    refine v_iload_n C (pc := 24) 1 dX9_blockAt_24 rfl rfl ?_
    refine v_iadd C (pc := 25) dX9_blockAt_25 ?_
    refine ldX9_ownerOf C (pc := 26) hm dX9_blockAt_26 (fun hm => ?_)
    refine v_if_ge C (pc := 27) hm 35 dX9_blockAt_27 rfl (fun hm => ?_) (fun hm => ?_)
    · refine v_aload_n C (pc := 35) 0 dX9_blockAt_35 rfl rfl ?_
      refine gX9_65 C (pc := 36) dX9_blockAt_36 ?_
      refine v_bipush C (pc := 39) 8 dX9_blockAt_39 rfl ?_
      refine v_iload_n C (pc := 41) 2 dX9_blockAt_41 rfl rfl ?_
      refine v_imul C (pc := 42) dX9_blockAt_42 ?_
      refine v_iload_n C (pc := 43) 1 dX9_blockAt_43 rfl rfl ?_
      refine v_iadd C (pc := 44) dX9_blockAt_44 ?_
      refine ldX9_ownerOf C (pc := 45) hm dX9_blockAt_45 (fun hm => ?_)
      exact v_sub [] rfl (vX9_blockAt_46 C hr hQ (N := N) hm)
    · refine v_bipush C (pc := 30) (-7) dX9_blockAt_30 rfl ?_
      refine v_goto C (pc := 32) 46 dX9_blockAt_32 rfl ?_
      exact v_sub [] rfl (vX9_blockAt_46 C hr hQ (N := N) hm)
  · refine v_bipush C (pc := 9) (-2) dX9_blockAt_9 rfl ?_
    exact v_iret C hr hQ (pc := 11) hm dX9_blockAt_11
theorem mX9_blockAt {l : Launch} {D : va_G} {ad : Nat → Nat} {cA : Nat → ClassId} (hD : ∀ S, va_D (mA ad) (mW ad cA S)) {N : Nat} {p1 : Int32} {p2 : Int32} {S : St} {r : Int32 × St} (hm : fX9_blockAt N p1 p2 S = some r) : Met l yX9_blockAt (wsm yX9_blockAt cX9_blockAt 3 (some .int)) rmX9_blockAt (va_Pc [.ref (ad 0), .int p1, .int p2] (Pre D cA (mW ad cA) mS S)) (Qo D (mW ad cA) (mA ad) (some (.int r.1)) r.2) 0 0 (mA ad) := met_of [.ref (ad 0), .int p1, .int p2] (by decide) (Nat.le_of_ble_eq_true rfl) hD (fun _ _ _ _ h => h) (fun _ _ _ _ h => h) (fun p e s m below meth c C hr => vX9_blockAt C hr rfl (N := N)  hm)
-- X9_block
def rmX9_block : Room := { frames := 2, cells := 0, slots := 0, locals := 43 }
def fX9_block_32 (N : Nat)  (x1 : Int32) (x2 : Int32) (S : St) : Option (Int32 × St) := if x2 = 0 then (ck x1 5 (some (((S.2.2.1 9 (Int32.toNatClampNeg x1)) - (S.2.2.1 9 (Int32.toNatClampNeg x1)) / 8 * 8), S))) else if x2 = 1 then (ck x1 5 (some ((((S.2.2.1 9 (Int32.toNatClampNeg x1)) / 8) - ((S.2.2.1 9 (Int32.toNatClampNeg x1)) / 8) / 8 * 8), S))) else if x2 = 2 then (ck x1 5 (some (((S.2.2.1 9 (Int32.toNatClampNeg x1)) / 64), S))) else if x2 = 3 then (ck x1 5 (some ((S.2.2.1 5 (Int32.toNatClampNeg x1)), S))) else if x2 = 4 then (ck x1 5 (some ((S.2.2.1 2 (Int32.toNatClampNeg x1)), S))) else if x2 = 5 then (ck x1 5 (some ((S.2.2.1 6 (Int32.toNatClampNeg x1)), S))) else if x2 = 6 then (ck x1 5 (some ((S.2.2.1 7 (Int32.toNatClampNeg x1)), S))) else if x2 = 7 then (ck x1 5 (some ((S.2.2.1 8 (Int32.toNatClampNeg x1)), S))) else (some ((-3), S))
set_option maxRecDepth 20000 in
theorem vX9_block_32 {p : Program} {l : Launch} {e : Env} {s : State} {m : MethodId} {args : Array Value} {below : List Frame} {meth : Method} {c : Code} {Q : State → Prop} {D : va_G} {ad : Nat → Nat} {cA : Nat → ClassId} (C : Ok p s m args c D cA (mW ad cA) (mA ad) mS RX9 cX9_block 3) (hr : Rt meth (some .int)) {r : Int32 × St} (hQ : Q = MQ below (Qo D (mW ad cA) (mA ad) (some (.int r.1)) r.2) args s 0 0 (mA ad)) {N : Nat}  {x1 : Int32} {x2 : Int32}  {S : St} (hm : fX9_block_32 N  x1 x2 S = some r) : V p l e rmX9_block s m args below meth c Q D (mW ad cA) (mA ad) 3 S 32 [(0, .ref (ad 0)), (1, .int x1), (2, .int x2)] [] := by
  unfold fX9_block_32 at hm
  refine v_iload_n C (pc := 32) 2 dX9_block_32 rfl rfl ?_
  by_cases h0 : x2 = 0
  · rw [if_pos h0] at hm
    refine v_tsin C (pc := 33) 0 80 dX9_block_33 h0 (by decide) (by decide) rfl rfl ?_
    refine v_aload_n C (pc := 80) 0 dX9_block_80 rfl rfl ?_
    refine gX9_37 C (pc := 81) dX9_block_81 ?_
    refine v_iload_n C (pc := 84) 1 dX9_block_84 rfl rfl ?_
    refine ldX9_placeOf C (pc := 85) hm dX9_block_85 (fun hm => ?_)
    refine v_bipush C (pc := 86) 8 dX9_block_86 rfl ?_
    refine v_irem C (pc := 88) dX9_block_88 (by decide) ?_
    exact v_iret C hr hQ (pc := 89) hm dX9_block_89
  rw [if_neg h0] at hm
  by_cases h1 : x2 = 1
  · rw [if_pos h1] at hm
    refine v_tsin C (pc := 33) 1 90 dX9_block_33 h1 (by decide) (by decide) rfl rfl ?_
    refine v_aload_n C (pc := 90) 0 dX9_block_90 rfl rfl ?_
    refine gX9_37 C (pc := 91) dX9_block_91 ?_
    refine v_iload_n C (pc := 94) 1 dX9_block_94 rfl rfl ?_
    refine ldX9_placeOf C (pc := 95) hm dX9_block_95 (fun hm => ?_)
    refine v_bipush C (pc := 96) 8 dX9_block_96 rfl ?_
    refine v_idiv C (pc := 98) dX9_block_98 (by decide) ?_
    refine v_bipush C (pc := 99) 8 dX9_block_99 rfl ?_
    refine v_irem C (pc := 101) dX9_block_101 (by decide) ?_
    exact v_iret C hr hQ (pc := 102) hm dX9_block_102
  rw [if_neg h1] at hm
  by_cases h2 : x2 = 2
  · rw [if_pos h2] at hm
    refine v_tsin C (pc := 33) 2 103 dX9_block_33 h2 (by decide) (by decide) rfl rfl ?_
    refine v_aload_n C (pc := 103) 0 dX9_block_103 rfl rfl ?_
    refine gX9_37 C (pc := 104) dX9_block_104 ?_
    refine v_iload_n C (pc := 107) 1 dX9_block_107 rfl rfl ?_
    refine ldX9_placeOf C (pc := 108) hm dX9_block_108 (fun hm => ?_)
    refine v_bipush C (pc := 109) 64 dX9_block_109 rfl ?_
    refine v_idiv C (pc := 111) dX9_block_111 (by decide) ?_
    exact v_iret C hr hQ (pc := 112) hm dX9_block_112
  rw [if_neg h2] at hm
  by_cases h3 : x2 = 3
  · rw [if_pos h3] at hm
    refine v_tsin C (pc := 33) 3 113 dX9_block_33 h3 (by decide) (by decide) rfl rfl ?_
    refine v_aload_n C (pc := 113) 0 dX9_block_113 rfl rfl ?_
    refine gX9_25 C (pc := 114) dX9_block_114 ?_
    refine v_iload_n C (pc := 117) 1 dX9_block_117 rfl rfl ?_
    refine ldX9_weightOf C (pc := 118) hm dX9_block_118 (fun hm => ?_)
    exact v_iret C hr hQ (pc := 119) hm dX9_block_119
  rw [if_neg h3] at hm
  by_cases h4 : x2 = 4
  · rw [if_pos h4] at hm
    refine v_tsin C (pc := 33) 4 120 dX9_block_33 h4 (by decide) (by decide) rfl rfl ?_
    refine v_aload_n C (pc := 120) 0 dX9_block_120 rfl rfl ?_
    refine gX9_16 C (pc := 121) dX9_block_121 ?_
    refine v_iload_n C (pc := 124) 1 dX9_block_124 rfl rfl ?_
    refine ldX9_cells C (pc := 125) hm dX9_block_125 (fun hm => ?_)
    exact v_iret C hr hQ (pc := 126) hm dX9_block_126
  rw [if_neg h4] at hm
  by_cases h5 : x2 = 5
  · rw [if_pos h5] at hm
    refine v_tsin C (pc := 33) 5 127 dX9_block_33 h5 (by decide) (by decide) rfl rfl ?_
    refine v_aload_n C (pc := 127) 0 dX9_block_127 rfl rfl ?_
    refine gX9_28 C (pc := 128) dX9_block_128 ?_
    refine v_iload_n C (pc := 131) 1 dX9_block_131 rfl rfl ?_
    refine ldX9_goalX C (pc := 132) hm dX9_block_132 (fun hm => ?_)
    exact v_iret C hr hQ (pc := 133) hm dX9_block_133
  rw [if_neg h5] at hm
  by_cases h6 : x2 = 6
  · rw [if_pos h6] at hm
    refine v_tsin C (pc := 33) 6 134 dX9_block_33 h6 (by decide) (by decide) rfl rfl ?_
    refine v_aload_n C (pc := 134) 0 dX9_block_134 rfl rfl ?_
    refine gX9_31 C (pc := 135) dX9_block_135 ?_
    refine v_iload_n C (pc := 138) 1 dX9_block_138 rfl rfl ?_
    refine ldX9_goalY C (pc := 139) hm dX9_block_139 (fun hm => ?_)
    exact v_iret C hr hQ (pc := 140) hm dX9_block_140
  rw [if_neg h6] at hm
  by_cases h7 : x2 = 7
  · rw [if_pos h7] at hm
    refine v_tsin C (pc := 33) 7 141 dX9_block_33 h7 (by decide) (by decide) rfl rfl ?_
    refine v_aload_n C (pc := 141) 0 dX9_block_141 rfl rfl ?_
    refine gX9_34 C (pc := 142) dX9_block_142 ?_
    refine v_iload_n C (pc := 145) 1 dX9_block_145 rfl rfl ?_
    refine ldX9_goalTurn C (pc := 146) hm dX9_block_146 (fun hm => ?_)
    exact v_iret C hr hQ (pc := 147) hm dX9_block_147
  rw [if_neg h7] at hm
  have hout : (x2).toInt < 0 ∨ 7 < (x2).toInt := by
    have hh0 := i32_ne h0
    have hh1 := i32_ne h1
    have hh2 := i32_ne h2
    have hh3 := i32_ne h3
    have hh4 := i32_ne h4
    have hh5 := i32_ne h5
    have hh6 := i32_ne h6
    have hh7 := i32_ne h7
    simp only [show (0 : Int32).toInt = 0 from rfl, show (1 : Int32).toInt = 1 from rfl, show (2 : Int32).toInt = 2 from rfl, show (3 : Int32).toInt = 3 from rfl, show (4 : Int32).toInt = 4 from rfl, show (5 : Int32).toInt = 5 from rfl, show (6 : Int32).toInt = 6 from rfl, show (7 : Int32).toInt = 7 from rfl] at hh0 hh1 hh2 hh3 hh4 hh5 hh6 hh7
    omega
  refine v_tsout C (pc := 33) 148 dX9_block_33 hout rfl ?_
  refine v_bipush C (pc := 148) (-3) dX9_block_148 rfl ?_
  exact v_iret C hr hQ (pc := 150) hm dX9_block_150
def fX9_block (N : Nat) (p1 : Int32) (p2 : Int32) (S : St) : Option (Int32 × St) := bd (fX9_noBlock N p1 S) fun r3 S3 => if (b2i r3) = 0 then (bd (fX9_in N p2 5 7 S3) fun r4 S4 => if (b2i r4) = 0 then (fX9_block_32 N p1 p2 S4) else (ck p1 5 (if 0 ≤ (S4.2.2.1 8 (Int32.toNatClampNeg p1)) then (fX9_block_32 N p1 p2 S4) else (some ((-7), S4))))) else (some ((-1), S3))
set_option maxRecDepth 20000 in
theorem vX9_block {p : Program} {l : Launch} {e : Env} {s : State} {m : MethodId} {args : Array Value} {below : List Frame} {meth : Method} {c : Code} {Q : State → Prop} {D : va_G} {ad : Nat → Nat} {cA : Nat → ClassId} (C : Ok p s m args c D cA (mW ad cA) (mA ad) mS RX9 cX9_block 3) (hr : Rt meth (some .int)) {r : Int32 × St} (hQ : Q = MQ below (Qo D (mW ad cA) (mA ad) (some (.int r.1)) r.2) args s 0 0 (mA ad)) {N : Nat} {p1 : Int32} {p2 : Int32} {S : St} (hm : fX9_block N p1 p2 S = some r) : V p l e rmX9_block s m args below meth c Q D (mW ad cA) (mA ad) 3 S 0 [(0, .ref (ad 0)), (1, .int p1), (2, .int p2)] [] := by
  unfold fX9_block at hm
  refine v_aload_n C (pc := 0) 0 dX9_block_0 rfl rfl ?_
  refine v_iload_n C (pc := 1) 1 dX9_block_1 rfl rfl ?_
  refine kX9_225 C (Nat.le_of_ble_eq_true rfl) (Nat.le_of_ble_eq_true rfl) (pc := 2) hm (Nat.le_of_ble_eq_true rfl) dX9_block_2 (fun r3 S3 hm => ?_)
  refine v_if_eq C (pc := 5) hm 10 dX9_block_5 rfl (fun hm => ?_) (fun hm => ?_)
  · refine v_iload_n C (pc := 10) 2 dX9_block_10 rfl rfl ?_
    refine v_iconst C (pc := 11) 5 dX9_block_11 rfl ?_
    refine v_bipush C (pc := 12) 7 dX9_block_12 rfl ?_
    refine kX9_119 C (Nat.le_of_ble_eq_true rfl) (Nat.le_of_ble_eq_true rfl) (pc := 14) hm (Nat.le_of_ble_eq_true rfl) dX9_block_14 (fun r4 S4 hm => ?_)
    refine v_if_eq C (pc := 17) hm 32 dX9_block_17 rfl (fun hm => ?_) (fun hm => ?_)
    · exact (vX9_block_32 C hr hQ (N := N) hm)
    · refine v_aload_n C (pc := 20) 0 dX9_block_20 rfl rfl ?_
      refine gX9_34 C (pc := 21) dX9_block_21 ?_
      refine v_iload_n C (pc := 24) 1 dX9_block_24 rfl rfl ?_
      refine ldX9_goalTurn C (pc := 25) hm dX9_block_25 (fun hm => ?_)
      refine v_if_ge C (pc := 26) hm 32 dX9_block_26 rfl (fun hm => ?_) (fun hm => ?_)
      · exact (vX9_block_32 C hr hQ (N := N) hm)
      · refine v_bipush C (pc := 29) (-7) dX9_block_29 rfl ?_
        exact v_iret C hr hQ (pc := 31) hm dX9_block_31
  · refine v_iconst C (pc := 8) (-1) dX9_block_8 rfl ?_
    exact v_iret C hr hQ (pc := 9) hm dX9_block_9
theorem mX9_block {l : Launch} {D : va_G} {ad : Nat → Nat} {cA : Nat → ClassId} (hD : ∀ S, va_D (mA ad) (mW ad cA S)) {N : Nat} {p1 : Int32} {p2 : Int32} {S : St} {r : Int32 × St} (hm : fX9_block N p1 p2 S = some r) : Met l yX9_block (wsm yX9_block cX9_block 3 (some .int)) rmX9_block (va_Pc [.ref (ad 0), .int p1, .int p2] (Pre D cA (mW ad cA) mS S)) (Qo D (mW ad cA) (mA ad) (some (.int r.1)) r.2) 0 0 (mA ad) := met_of [.ref (ad 0), .int p1, .int p2] (by decide) (Nat.le_of_ble_eq_true rfl) hD (fun _ _ _ _ h => h) (fun _ _ _ _ h => h) (fun p e s m below meth c C hr => vX9_block C hr rfl (N := N)  hm)
-- X9_setWeight
def rmX9_setWeight : Room := { frames := 2, cells := 0, slots := 0, locals := 43 }
def fX9_setWeight (N : Nat) (p1 : Int32) (p2 : Int32) (S : St) : Option (Int32 × St) := bd (fX9_noBlock N p1 S) fun r4 S4 => if (b2i r4) = 0 then (bd (fX9_in N p2 1 9 S4) fun r5 S5 => if (b2i r5) = 0 then (some ((-3), S5)) else (ck p1 5 (nm (S5.2.2.1 5 (Int32.toNatClampNeg p1)) fun y6 => ck p1 5 (stp (sA S5 5 (Int32.toNatClampNeg p1) p2) fun S6 => some (y6, S6))))) else (some ((-1), S4))
set_option maxRecDepth 20000 in
theorem vX9_setWeight {p : Program} {l : Launch} {e : Env} {s : State} {m : MethodId} {args : Array Value} {below : List Frame} {meth : Method} {c : Code} {Q : State → Prop} {D : va_G} {ad : Nat → Nat} {cA : Nat → ClassId} (C : Ok p s m args c D cA (mW ad cA) (mA ad) mS RX9 cX9_setWeight 4) (hr : Rt meth (some .int)) {r : Int32 × St} (hQ : Q = MQ below (Qo D (mW ad cA) (mA ad) (some (.int r.1)) r.2) args s 0 0 (mA ad)) {N : Nat} {p1 : Int32} {p2 : Int32} {S : St} (hm : fX9_setWeight N p1 p2 S = some r) : V p l e rmX9_setWeight s m args below meth c Q D (mW ad cA) (mA ad) 4 S 0 [(0, .ref (ad 0)), (1, .int p1), (2, .int p2)] [] := by
  unfold fX9_setWeight at hm
  refine v_aload_n C (pc := 0) 0 dX9_setWeight_0 rfl rfl ?_
  refine v_iload_n C (pc := 1) 1 dX9_setWeight_1 rfl rfl ?_
  refine kX9_225 C (Nat.le_of_ble_eq_true rfl) (Nat.le_of_ble_eq_true rfl) (pc := 2) hm (Nat.le_of_ble_eq_true rfl) dX9_setWeight_2 (fun r4 S4 hm => ?_)
  refine v_if_eq C (pc := 5) hm 10 dX9_setWeight_5 rfl (fun hm => ?_) (fun hm => ?_)
  · refine v_iload_n C (pc := 10) 2 dX9_setWeight_10 rfl rfl ?_
    refine v_iconst C (pc := 11) 1 dX9_setWeight_11 rfl ?_
    refine v_bipush C (pc := 12) 9 dX9_setWeight_12 rfl ?_
    refine kX9_119 C (Nat.le_of_ble_eq_true rfl) (Nat.le_of_ble_eq_true rfl) (pc := 14) hm (Nat.le_of_ble_eq_true rfl) dX9_setWeight_14 (fun r5 S5 hm => ?_)
    refine v_if_ne C (pc := 17) hm 23 dX9_setWeight_17 rfl (fun hm => ?_) (fun hm => ?_)
    · refine v_aload_n C (pc := 23) 0 dX9_setWeight_23 rfl rfl ?_
      refine gX9_25 C (pc := 24) dX9_setWeight_24 ?_
      refine v_iload_n C (pc := 27) 1 dX9_setWeight_27 rfl rfl ?_
      refine ldX9_weightOf C (pc := 28) hm dX9_setWeight_28 (fun hm => ?_)
      refine v_istore_nN C (pc := 29) [(0, .ref (ad 0)), (1, .int p1), (2, .int p2)] hm dX9_setWeight_29 rfl (by decide) rfl (fun y6 hm => ?_)
      refine v_aload_n C (pc := 30) 1 dX9_setWeight_30 rfl rfl ?_
      refine gX9_25 C (pc := 31) dX9_setWeight_31 ?_
      refine v_iload_n C (pc := 34) 2 dX9_setWeight_34 rfl rfl ?_
      refine v_iload_n C (pc := 35) 3 dX9_setWeight_35 rfl rfl ?_
      refine stX9_weightOf C (pc := 36) hm dX9_setWeight_36 (fun S6 hm => ?_)
      refine v_iload_n C (pc := 37) 0 dX9_setWeight_37 rfl rfl ?_
      exact v_iret C hr hQ (pc := 38) hm dX9_setWeight_38
    · refine v_bipush C (pc := 20) (-3) dX9_setWeight_20 rfl ?_
      exact v_iret C hr hQ (pc := 22) hm dX9_setWeight_22
  · refine v_iconst C (pc := 8) (-1) dX9_setWeight_8 rfl ?_
    exact v_iret C hr hQ (pc := 9) hm dX9_setWeight_9
theorem mX9_setWeight {l : Launch} {D : va_G} {ad : Nat → Nat} {cA : Nat → ClassId} (hD : ∀ S, va_D (mA ad) (mW ad cA S)) {N : Nat} {p1 : Int32} {p2 : Int32} {S : St} {r : Int32 × St} (hm : fX9_setWeight N p1 p2 S = some r) : Met l yX9_setWeight (wsm yX9_setWeight cX9_setWeight 4 (some .int)) rmX9_setWeight (va_Pc [.ref (ad 0), .int p1, .int p2] (Pre D cA (mW ad cA) mS S)) (Qo D (mW ad cA) (mA ad) (some (.int r.1)) r.2) 0 0 (mA ad) := met_of [.ref (ad 0), .int p1, .int p2] (by decide) (Nat.le_of_ble_eq_true rfl) hD (fun _ _ _ _ h => h) (fun _ _ _ _ h => h) (fun p e s m below meth c C hr => vX9_setWeight C hr rfl (N := N)  hm)
-- X9_setGoal
def rmX9_setGoal : Room := { frames := 2, cells := 0, slots := 0, locals := 44 }
def fX9_setGoal_105 (N : Nat)  (s0 : Bool) (S : St) : Option (Int32 × St) := some ((b2i s0), S)
set_option maxRecDepth 20000 in
theorem vX9_setGoal_105 {p : Program} {l : Launch} {e : Env} {s : State} {m : MethodId} {args : Array Value} {below : List Frame} {meth : Method} {c : Code} {Q : State → Prop} {D : va_G} {ad : Nat → Nat} {cA : Nat → ClassId} (C : Ok p s m args c D cA (mW ad cA) (mA ad) mS RX9 cX9_setGoal 6) (hr : Rt meth (some .int)) {r : Int32 × St} (hQ : Q = MQ below (Qo D (mW ad cA) (mA ad) (some (.int r.1)) r.2) args s 0 0 (mA ad)) {N : Nat}  {s0 : Bool}  {S : St} (hm : fX9_setGoal_105 N  s0 S = some r) : V p l e rmX9_setGoal s m args below meth c Q D (mW ad cA) (mA ad) 6 S 105 [] [.int (b2i s0)] := by
  unfold fX9_setGoal_105 at hm
  exact v_iret C hr hQ (pc := 105) hm dX9_setGoal_105
def fX9_setGoal_71 (N : Nat)  (s0 : Bool) (x1 : Int32) (x2 : Int32) (x3 : Int32) (x4 : Int32) (S : St) : Option (Int32 × St) := ck x1 5 (stp (sA S 6 (Int32.toNatClampNeg x1) x2) fun S7 => ck x1 5 (stp (sA S7 7 (Int32.toNatClampNeg x1) x3) fun S8 => ck x1 5 (stp (sA S8 8 (Int32.toNatClampNeg x1) x4) fun S9 => if (b2i s0) = 0 then (fX9_setGoal_105 N true S9) else (fX9_setGoal_105 N false S9))))
set_option maxRecDepth 20000 in
theorem vX9_setGoal_71 {p : Program} {l : Launch} {e : Env} {s : State} {m : MethodId} {args : Array Value} {below : List Frame} {meth : Method} {c : Code} {Q : State → Prop} {D : va_G} {ad : Nat → Nat} {cA : Nat → ClassId} (C : Ok p s m args c D cA (mW ad cA) (mA ad) mS RX9 cX9_setGoal 6) (hr : Rt meth (some .int)) {r : Int32 × St} (hQ : Q = MQ below (Qo D (mW ad cA) (mA ad) (some (.int r.1)) r.2) args s 0 0 (mA ad)) {N : Nat}  {s0 : Bool} {x1 : Int32} {x2 : Int32} {x3 : Int32} {x4 : Int32}  {S : St} (hm : fX9_setGoal_71 N  s0 x1 x2 x3 x4 S = some r) : V p l e rmX9_setGoal s m args below meth c Q D (mW ad cA) (mA ad) 6 S 71 [(0, .ref (ad 0)), (1, .int x1), (2, .int x2), (3, .int x3), (4, .int x4)] [.int (b2i s0)] := by
  unfold fX9_setGoal_71 at hm
  refine v_istore C (pc := 71) [(5, .int (b2i s0)), (0, .ref (ad 0)), (1, .int x1), (2, .int x2), (3, .int x3), (4, .int x4)] dX9_setGoal_71 (by decide) rfl ?_
  refine v_aload_n C (pc := 73) 1 dX9_setGoal_73 rfl rfl ?_
  refine gX9_28 C (pc := 74) dX9_setGoal_74 ?_
  refine v_iload_n C (pc := 77) 2 dX9_setGoal_77 rfl rfl ?_
  refine v_iload_n C (pc := 78) 3 dX9_setGoal_78 rfl rfl ?_
  refine stX9_goalX C (pc := 79) hm dX9_setGoal_79 (fun S7 hm => ?_)
  refine v_aload_n C (pc := 80) 1 dX9_setGoal_80 rfl rfl ?_
  refine gX9_31 C (pc := 81) dX9_setGoal_81 ?_
  refine v_iload_n C (pc := 84) 2 dX9_setGoal_84 rfl rfl ?_
  refine v_iload_n C (pc := 85) 4 dX9_setGoal_85 rfl rfl ?_
  refine stX9_goalY C (pc := 86) hm dX9_setGoal_86 (fun S8 hm => ?_)
  refine v_aload_n C (pc := 87) 1 dX9_setGoal_87 rfl rfl ?_
  refine gX9_34 C (pc := 88) dX9_setGoal_88 ?_
  refine v_iload_n C (pc := 91) 2 dX9_setGoal_91 rfl rfl ?_
  refine v_iload C (pc := 92) 5 dX9_setGoal_92 rfl ?_
  refine stX9_goalTurn C (pc := 94) hm dX9_setGoal_94 (fun S9 hm => ?_)
  refine v_iload C (pc := 95) 0 dX9_setGoal_95 rfl ?_
  refine v_if_eq C (pc := 97) hm 104 dX9_setGoal_97 rfl (fun hm => ?_) (fun hm => ?_)
  · refine v_iconst C (pc := 104) 1 dX9_setGoal_104 rfl ?_
    exact v_sub [] rfl (vX9_setGoal_105 C hr hQ (N := N) hm)
  · refine v_iconst C (pc := 100) 0 dX9_setGoal_100 rfl ?_
    refine v_goto C (pc := 101) 105 dX9_setGoal_101 rfl ?_
    exact v_sub [] rfl (vX9_setGoal_105 C hr hQ (N := N) hm)
def fX9_setGoal_70 (N : Nat)  (x1 : Int32) (x2 : Int32) (x3 : Int32) (x4 : Int32) (S : St) : Option (Int32 × St) := fX9_setGoal_71 N false x1 x2 x3 x4 S
set_option maxRecDepth 20000 in
theorem vX9_setGoal_70 {p : Program} {l : Launch} {e : Env} {s : State} {m : MethodId} {args : Array Value} {below : List Frame} {meth : Method} {c : Code} {Q : State → Prop} {D : va_G} {ad : Nat → Nat} {cA : Nat → ClassId} (C : Ok p s m args c D cA (mW ad cA) (mA ad) mS RX9 cX9_setGoal 6) (hr : Rt meth (some .int)) {r : Int32 × St} (hQ : Q = MQ below (Qo D (mW ad cA) (mA ad) (some (.int r.1)) r.2) args s 0 0 (mA ad)) {N : Nat}  {x1 : Int32} {x2 : Int32} {x3 : Int32} {x4 : Int32}  {S : St} (hm : fX9_setGoal_70 N  x1 x2 x3 x4 S = some r) : V p l e rmX9_setGoal s m args below meth c Q D (mW ad cA) (mA ad) 6 S 70 [(0, .ref (ad 0)), (1, .int x1), (2, .int x2), (3, .int x3), (4, .int x4)] [] := by
  unfold fX9_setGoal_70 at hm
  refine v_iconst C (pc := 70) 0 dX9_setGoal_70 rfl ?_
  exact (vX9_setGoal_71 C hr hQ (N := N) hm)
def fX9_setGoal (N : Nat) (p1 : Int32) (p2 : Int32) (p3 : Int32) (p4 : Int32) (S : St) : Option (Int32 × St) := bd (fX9_noBlock N p1 S) fun r4 S10 => if (b2i r4) = 0 then (bd (fX9_isInYard N p2 p3 S10) fun r5 S11 => if (b2i r5) = 0 then (some ((-2), S11)) else (bd (fX9_in N p4 0 4 S11) fun r6 S12 => if (b2i r6) = 0 then (some ((-3), S12)) else (ck p1 5 (if (S12.2.2.1 8 (Int32.toNatClampNeg p1)) = p4 then (ck p1 5 (if (S12.2.2.1 6 (Int32.toNatClampNeg p1)) = p2 then (ck p1 5 (if (S12.2.2.1 7 (Int32.toNatClampNeg p1)) = p3 then (fX9_setGoal_71 N true p1 p2 p3 p4 S12) else (fX9_setGoal_70 N p1 p2 p3 p4 S12))) else (fX9_setGoal_70 N p1 p2 p3 p4 S12))) else (fX9_setGoal_70 N p1 p2 p3 p4 S12))))) else (some ((-1), S10))
set_option maxRecDepth 20000 in
theorem vX9_setGoal {p : Program} {l : Launch} {e : Env} {s : State} {m : MethodId} {args : Array Value} {below : List Frame} {meth : Method} {c : Code} {Q : State → Prop} {D : va_G} {ad : Nat → Nat} {cA : Nat → ClassId} (C : Ok p s m args c D cA (mW ad cA) (mA ad) mS RX9 cX9_setGoal 6) (hr : Rt meth (some .int)) {r : Int32 × St} (hQ : Q = MQ below (Qo D (mW ad cA) (mA ad) (some (.int r.1)) r.2) args s 0 0 (mA ad)) {N : Nat} {p1 : Int32} {p2 : Int32} {p3 : Int32} {p4 : Int32} {S : St} (hm : fX9_setGoal N p1 p2 p3 p4 S = some r) : V p l e rmX9_setGoal s m args below meth c Q D (mW ad cA) (mA ad) 6 S 0 [(0, .ref (ad 0)), (1, .int p1), (2, .int p2), (3, .int p3), (4, .int p4)] [] := by
  unfold fX9_setGoal at hm
  refine v_aload_n C (pc := 0) 0 dX9_setGoal_0 rfl rfl ?_
  refine v_iload_n C (pc := 1) 1 dX9_setGoal_1 rfl rfl ?_
  refine kX9_225 C (Nat.le_of_ble_eq_true rfl) (Nat.le_of_ble_eq_true rfl) (pc := 2) hm (Nat.le_of_ble_eq_true rfl) dX9_setGoal_2 (fun r4 S10 hm => ?_)
  refine v_if_eq C (pc := 5) hm 10 dX9_setGoal_5 rfl (fun hm => ?_) (fun hm => ?_)
  · refine v_aload_n C (pc := 10) 0 dX9_setGoal_10 rfl rfl ?_
    refine v_iload_n C (pc := 11) 2 dX9_setGoal_11 rfl rfl ?_
    refine v_iload_n C (pc := 12) 3 dX9_setGoal_12 rfl rfl ?_
    refine kX9_167 C (Nat.le_of_ble_eq_true rfl) (Nat.le_of_ble_eq_true rfl) (pc := 13) hm (Nat.le_of_ble_eq_true rfl) dX9_setGoal_13 (fun r5 S11 hm => ?_)
    refine v_if_ne C (pc := 16) hm 22 dX9_setGoal_16 rfl (fun hm => ?_) (fun hm => ?_)
    · refine v_iload C (pc := 22) 4 dX9_setGoal_22 rfl ?_
      refine v_iconst C (pc := 24) 0 dX9_setGoal_24 rfl ?_
      refine v_iconst C (pc := 25) 4 dX9_setGoal_25 rfl ?_
      refine kX9_119 C (Nat.le_of_ble_eq_true rfl) (Nat.le_of_ble_eq_true rfl) (pc := 26) hm (Nat.le_of_ble_eq_true rfl) dX9_setGoal_26 (fun r6 S12 hm => ?_)
      refine v_if_ne C (pc := 29) hm 35 dX9_setGoal_29 rfl (fun hm => ?_) (fun hm => ?_)
      · refine v_aload_n C (pc := 35) 0 dX9_setGoal_35 rfl rfl ?_
        refine gX9_34 C (pc := 36) dX9_setGoal_36 ?_
        refine v_iload_n C (pc := 39) 1 dX9_setGoal_39 rfl rfl ?_
        refine ldX9_goalTurn C (pc := 40) hm dX9_setGoal_40 (fun hm => ?_)
        refine v_iload C (pc := 41) 4 dX9_setGoal_41 rfl ?_
        refine v_icmp_ne C (pc := 43) hm 70 dX9_setGoal_43 rfl (fun hm => ?_) (fun hm => ?_)
        · exact (vX9_setGoal_70 C hr hQ (N := N) hm)
        · refine v_aload_n C (pc := 46) 0 dX9_setGoal_46 rfl rfl ?_
          refine gX9_28 C (pc := 47) dX9_setGoal_47 ?_
          refine v_iload_n C (pc := 50) 1 dX9_setGoal_50 rfl rfl ?_
          refine ldX9_goalX C (pc := 51) hm dX9_setGoal_51 (fun hm => ?_)
          refine v_iload_n C (pc := 52) 2 dX9_setGoal_52 rfl rfl ?_
          refine v_icmp_ne C (pc := 53) hm 70 dX9_setGoal_53 rfl (fun hm => ?_) (fun hm => ?_)
          · exact (vX9_setGoal_70 C hr hQ (N := N) hm)
          · refine v_aload_n C (pc := 56) 0 dX9_setGoal_56 rfl rfl ?_
            refine gX9_31 C (pc := 57) dX9_setGoal_57 ?_
            refine v_iload_n C (pc := 60) 1 dX9_setGoal_60 rfl rfl ?_
            refine ldX9_goalY C (pc := 61) hm dX9_setGoal_61 (fun hm => ?_)
            refine v_iload_n C (pc := 62) 3 dX9_setGoal_62 rfl rfl ?_
            refine v_icmp_ne C (pc := 63) hm 70 dX9_setGoal_63 rfl (fun hm => ?_) (fun hm => ?_)
            · exact (vX9_setGoal_70 C hr hQ (N := N) hm)
            · refine v_iconst C (pc := 66) 1 dX9_setGoal_66 rfl ?_
              refine v_goto C (pc := 67) 71 dX9_setGoal_67 rfl ?_
              exact (vX9_setGoal_71 C hr hQ (N := N) hm)
      · refine v_bipush C (pc := 32) (-3) dX9_setGoal_32 rfl ?_
        exact v_iret C hr hQ (pc := 34) hm dX9_setGoal_34
    · refine v_bipush C (pc := 19) (-2) dX9_setGoal_19 rfl ?_
      exact v_iret C hr hQ (pc := 21) hm dX9_setGoal_21
  · refine v_iconst C (pc := 8) (-1) dX9_setGoal_8 rfl ?_
    exact v_iret C hr hQ (pc := 9) hm dX9_setGoal_9
theorem mX9_setGoal {l : Launch} {D : va_G} {ad : Nat → Nat} {cA : Nat → ClassId} (hD : ∀ S, va_D (mA ad) (mW ad cA S)) {N : Nat} {p1 : Int32} {p2 : Int32} {p3 : Int32} {p4 : Int32} {S : St} {r : Int32 × St} (hm : fX9_setGoal N p1 p2 p3 p4 S = some r) : Met l yX9_setGoal (wsm yX9_setGoal cX9_setGoal 6 (some .int)) rmX9_setGoal (va_Pc [.ref (ad 0), .int p1, .int p2, .int p3, .int p4] (Pre D cA (mW ad cA) mS S)) (Qo D (mW ad cA) (mA ad) (some (.int r.1)) r.2) 0 0 (mA ad) := met_of [.ref (ad 0), .int p1, .int p2, .int p3, .int p4] (by decide) (Nat.le_of_ble_eq_true rfl) hD (fun _ _ _ _ h => h) (fun _ _ _ _ h => h) (fun p e s m below meth c C hr => vX9_setGoal C hr rfl (N := N)  hm)
-- X9_clearGoal
def rmX9_clearGoal : Room := { frames := 2, cells := 0, slots := 0, locals := 43 }
def fX9_clearGoal_24 (N : Nat)  (s0 : Bool) (x1 : Int32) (S : St) : Option (Int32 × St) := ck x1 5 (stp (sA S 8 (Int32.toNatClampNeg x1) (-1)) fun S3 => some ((b2i s0), S3))
set_option maxRecDepth 20000 in
theorem vX9_clearGoal_24 {p : Program} {l : Launch} {e : Env} {s : State} {m : MethodId} {args : Array Value} {below : List Frame} {meth : Method} {c : Code} {Q : State → Prop} {D : va_G} {ad : Nat → Nat} {cA : Nat → ClassId} (C : Ok p s m args c D cA (mW ad cA) (mA ad) mS RX9 cX9_clearGoal 3) (hr : Rt meth (some .int)) {r : Int32 × St} (hQ : Q = MQ below (Qo D (mW ad cA) (mA ad) (some (.int r.1)) r.2) args s 0 0 (mA ad)) {N : Nat}  {s0 : Bool} {x1 : Int32}  {S : St} (hm : fX9_clearGoal_24 N  s0 x1 S = some r) : V p l e rmX9_clearGoal s m args below meth c Q D (mW ad cA) (mA ad) 3 S 24 [(0, .ref (ad 0)), (1, .int x1)] [.int (b2i s0)] := by
  unfold fX9_clearGoal_24 at hm
  refine v_istore_n C (pc := 24) [(2, .int (b2i s0)), (0, .ref (ad 0)), (1, .int x1)] dX9_clearGoal_24 rfl (by decide) rfl ?_
  refine v_aload_n C (pc := 25) 1 dX9_clearGoal_25 rfl rfl ?_
  refine gX9_34 C (pc := 26) dX9_clearGoal_26 ?_
  refine v_iload_n C (pc := 29) 2 dX9_clearGoal_29 rfl rfl ?_
  refine v_iconst C (pc := 30) (-1) dX9_clearGoal_30 rfl ?_
  refine stX9_goalTurn C (pc := 31) hm dX9_clearGoal_31 (fun S3 hm => ?_)
  refine v_iload_n C (pc := 32) 0 dX9_clearGoal_32 rfl rfl ?_
  exact v_iret C hr hQ (pc := 33) hm dX9_clearGoal_33
def fX9_clearGoal (N : Nat) (p1 : Int32) (S : St) : Option (Int32 × St) := bd (fX9_noBlock N p1 S) fun r2 S4 => if (b2i r2) = 0 then (ck p1 5 (if 0 ≤ (S4.2.2.1 8 (Int32.toNatClampNeg p1)) then (fX9_clearGoal_24 N true p1 S4) else (fX9_clearGoal_24 N false p1 S4))) else (some ((-1), S4))
set_option maxRecDepth 20000 in
theorem vX9_clearGoal {p : Program} {l : Launch} {e : Env} {s : State} {m : MethodId} {args : Array Value} {below : List Frame} {meth : Method} {c : Code} {Q : State → Prop} {D : va_G} {ad : Nat → Nat} {cA : Nat → ClassId} (C : Ok p s m args c D cA (mW ad cA) (mA ad) mS RX9 cX9_clearGoal 3) (hr : Rt meth (some .int)) {r : Int32 × St} (hQ : Q = MQ below (Qo D (mW ad cA) (mA ad) (some (.int r.1)) r.2) args s 0 0 (mA ad)) {N : Nat} {p1 : Int32} {S : St} (hm : fX9_clearGoal N p1 S = some r) : V p l e rmX9_clearGoal s m args below meth c Q D (mW ad cA) (mA ad) 3 S 0 [(0, .ref (ad 0)), (1, .int p1)] [] := by
  unfold fX9_clearGoal at hm
  refine v_aload_n C (pc := 0) 0 dX9_clearGoal_0 rfl rfl ?_
  refine v_iload_n C (pc := 1) 1 dX9_clearGoal_1 rfl rfl ?_
  refine kX9_225 C (Nat.le_of_ble_eq_true rfl) (Nat.le_of_ble_eq_true rfl) (pc := 2) hm (Nat.le_of_ble_eq_true rfl) dX9_clearGoal_2 (fun r2 S4 hm => ?_)
  refine v_if_eq C (pc := 5) hm 10 dX9_clearGoal_5 rfl (fun hm => ?_) (fun hm => ?_)
  · refine v_aload_n C (pc := 10) 0 dX9_clearGoal_10 rfl rfl ?_
    refine gX9_34 C (pc := 11) dX9_clearGoal_11 ?_
    refine v_iload_n C (pc := 14) 1 dX9_clearGoal_14 rfl rfl ?_
    refine ldX9_goalTurn C (pc := 15) hm dX9_clearGoal_15 (fun hm => ?_)
    refine v_if_ge C (pc := 16) hm 23 dX9_clearGoal_16 rfl (fun hm => ?_) (fun hm => ?_)
    · refine v_iconst C (pc := 23) 1 dX9_clearGoal_23 rfl ?_
      exact (vX9_clearGoal_24 C hr hQ (N := N) hm)
    · refine v_iconst C (pc := 19) 0 dX9_clearGoal_19 rfl ?_
      refine v_goto C (pc := 20) 24 dX9_clearGoal_20 rfl ?_
      exact (vX9_clearGoal_24 C hr hQ (N := N) hm)
  · refine v_iconst C (pc := 8) (-1) dX9_clearGoal_8 rfl ?_
    exact v_iret C hr hQ (pc := 9) hm dX9_clearGoal_9
theorem mX9_clearGoal {l : Launch} {D : va_G} {ad : Nat → Nat} {cA : Nat → ClassId} (hD : ∀ S, va_D (mA ad) (mW ad cA S)) {N : Nat} {p1 : Int32} {S : St} {r : Int32 × St} (hm : fX9_clearGoal N p1 S = some r) : Met l yX9_clearGoal (wsm yX9_clearGoal cX9_clearGoal 3 (some .int)) rmX9_clearGoal (va_Pc [.ref (ad 0), .int p1] (Pre D cA (mW ad cA) mS S)) (Qo D (mW ad cA) (mA ad) (some (.int r.1)) r.2) 0 0 (mA ad) := met_of [.ref (ad 0), .int p1] (by decide) (Nat.le_of_ble_eq_true rfl) hD (fun _ _ _ _ h => h) (fun _ _ _ _ h => h) (fun p e s m below meth c C hr => vX9_clearGoal C hr rfl (N := N)  hm)
-- X9_isGroup
def rmX9_isGroup : Room := { frames := 1, cells := 0, slots := 0, locals := 22 }
def fX9_isGroup (N : Nat) (p1 : Int32) (S : St) : Option (Bool × St) := bd (fX9_in N p1 0 3 S) fun r2 S2 => some (r2, S2)
set_option maxRecDepth 20000 in
theorem vX9_isGroup {p : Program} {l : Launch} {e : Env} {s : State} {m : MethodId} {args : Array Value} {below : List Frame} {meth : Method} {c : Code} {Q : State → Prop} {D : va_G} {ad : Nat → Nat} {cA : Nat → ClassId} (C : Ok p s m args c D cA (mW ad cA) (mA ad) mS RX9 cX9_isGroup 1) (hr : Rt meth (some .boolean)) {r : Bool × St} (hQ : Q = MQ below (Qo D (mW ad cA) (mA ad) (some (.int (b2i r.1))) r.2) args s 0 0 (mA ad)) {N : Nat} {p1 : Int32} {S : St} (hm : fX9_isGroup N p1 S = some r) : V p l e rmX9_isGroup s m args below meth c Q D (mW ad cA) (mA ad) 1 S 0 [(0, .int p1)] [] := by
  unfold fX9_isGroup at hm
  refine v_iload_n C (pc := 0) 0 dX9_isGroup_0 rfl rfl ?_
  refine v_iconst C (pc := 1) 0 dX9_isGroup_1 rfl ?_
  refine v_iconst C (pc := 2) 3 dX9_isGroup_2 rfl ?_
  refine kX9_119 C (Nat.le_of_ble_eq_true rfl) (Nat.le_of_ble_eq_true rfl) (pc := 3) hm (Nat.le_of_ble_eq_true rfl) dX9_isGroup_3 (fun r2 S2 hm => ?_)
  exact v_zret C hr hQ (x := r2) (pc := 6) hm dX9_isGroup_6
theorem mX9_isGroup {l : Launch} {D : va_G} {ad : Nat → Nat} {cA : Nat → ClassId} (hD : ∀ S, va_D (mA ad) (mW ad cA S)) {N : Nat} {p1 : Int32} {S : St} {r : Bool × St} (hm : fX9_isGroup N p1 S = some r) : Met l yX9_isGroup (wsm yX9_isGroup cX9_isGroup 1 (some .boolean)) rmX9_isGroup (va_Pc [.int p1] (Pre D cA (mW ad cA) mS S)) (Qo D (mW ad cA) (mA ad) (some (.int (b2i r.1))) r.2) 0 0 (mA ad) := met_of [.int p1] (by decide) (Nat.le_of_ble_eq_true rfl) hD (fun _ _ _ _ h => h) (fun _ _ _ _ h => h) (fun p e s m below meth c C hr => vX9_isGroup C hr rfl (N := N)  hm)
-- X9_setThreshold
theorem infX9_isGroup : InfS yX9_isGroup cX9_isGroup 1 (some .boolean) 1 := ⟨⟨gm (i := 65) (by decide +kernel) rfl, gm (i := 1140) (by decide +kernel) rfl, by decide +kernel⟩, gm (i := 1139) (by decide +kernel) rfl⟩
theorem kX9_252 {p : Program} {l : Launch} {e : Env} {R : Room} {s : State} {m : MethodId} {args : Array Value} {below : List Frame} {meth : Method} {c : Code} {Q : State → Prop} {D : va_G} {ad : Nat → Nat} {cA : Nat → ClassId} {cc : ByteArray} {nL : Nat} {S : St} {pc : Nat} {lv : List (Nat × Value)} {st : List Value} {ρ : Type} {res : ρ} (C : Ok p s m args c D cA (mW ad cA) (mA ad) mS RX9 cc nL) (hfr : rmX9_isGroup.frames + 1 ≤ R.frames) (hlo : 8 + (1 + 11) + rmX9_isGroup.locals ≤ R.locals) {N : Nat} {p1 : Int32} {E : Bool → St → Option ρ} (hm : bd (fX9_isGroup N p1 S) E = some res) (hcat : (st.map fun v => v.category).sum ≤ 8) (hd : decode cc pc = .ok (.invokestatic 252, 3)) (k : ∀ r S, E r S = some res → V p l e R s m args below meth c Q D (mW ad cA) (mA ad) nL S (pc + 3) lv (.int (b2i r) :: st)) : V p l e R s m args below meth c Q D (mW ad cA) (mA ad) nL S pc lv (.int p1 :: st) := by
  obtain ⟨r, S1, h1, h2⟩ := bd_some hm
  exact v_callS C (gm (i := 1138) (by decide +kernel) rfl : Cond.methodLink RX9 252 yX9_isGroup ∈ gw_tbl) infX9_isGroup (rm2 := rmX9_isGroup) ⟨rfl, rfl⟩ hfr hlo (mX9_isGroup C.2.2.2.2.2.2.1 h1) (As := [.int p1]) rfl rfl hcat hd (k r S1 h2)
def rmX9_setThreshold : Room := { frames := 2, cells := 0, slots := 0, locals := 42 }
def fX9_setThreshold_17 (N : Nat)   (S : St) : Option (Int32 × St) := some ((-3), S)
set_option maxRecDepth 20000 in
theorem vX9_setThreshold_17 {p : Program} {l : Launch} {e : Env} {s : State} {m : MethodId} {args : Array Value} {below : List Frame} {meth : Method} {c : Code} {Q : State → Prop} {D : va_G} {ad : Nat → Nat} {cA : Nat → ClassId} (C : Ok p s m args c D cA (mW ad cA) (mA ad) mS RX9 cX9_setThreshold 4) (hr : Rt meth (some .int)) {r : Int32 × St} (hQ : Q = MQ below (Qo D (mW ad cA) (mA ad) (some (.int r.1)) r.2) args s 0 0 (mA ad)) {N : Nat}    {S : St} (hm : fX9_setThreshold_17 N   S = some r) : V p l e rmX9_setThreshold s m args below meth c Q D (mW ad cA) (mA ad) 4 S 17 [] [] := by
  unfold fX9_setThreshold_17 at hm
  refine v_bipush C (pc := 17) (-3) dX9_setThreshold_17 rfl ?_
  exact v_iret C hr hQ (pc := 19) hm dX9_setThreshold_19
def fX9_setThreshold (N : Nat) (p1 : Int32) (p2 : Int32) (S : St) : Option (Int32 × St) := bd (fX9_isGroup N p1 S) fun r4 S4 => if (b2i r4) = 0 then (fX9_setThreshold_17 N S4) else (bd (fX9_in N p2 1 45 S4) fun r5 S5 => if (b2i r5) = 0 then (fX9_setThreshold_17 N S5) else (ck p1 4 (nm (S5.2.2.1 0 (Int32.toNatClampNeg p1)) fun y6 => ck p1 4 (stp (sA S5 0 (Int32.toNatClampNeg p1) p2) fun S6 => some (y6, S6)))))
set_option maxRecDepth 20000 in
theorem vX9_setThreshold {p : Program} {l : Launch} {e : Env} {s : State} {m : MethodId} {args : Array Value} {below : List Frame} {meth : Method} {c : Code} {Q : State → Prop} {D : va_G} {ad : Nat → Nat} {cA : Nat → ClassId} (C : Ok p s m args c D cA (mW ad cA) (mA ad) mS RX9 cX9_setThreshold 4) (hr : Rt meth (some .int)) {r : Int32 × St} (hQ : Q = MQ below (Qo D (mW ad cA) (mA ad) (some (.int r.1)) r.2) args s 0 0 (mA ad)) {N : Nat} {p1 : Int32} {p2 : Int32} {S : St} (hm : fX9_setThreshold N p1 p2 S = some r) : V p l e rmX9_setThreshold s m args below meth c Q D (mW ad cA) (mA ad) 4 S 0 [(0, .ref (ad 0)), (1, .int p1), (2, .int p2)] [] := by
  unfold fX9_setThreshold at hm
  refine v_iload_n C (pc := 0) 1 dX9_setThreshold_0 rfl rfl ?_
  refine kX9_252 C (Nat.le_of_ble_eq_true rfl) (Nat.le_of_ble_eq_true rfl) (pc := 1) hm (Nat.le_of_ble_eq_true rfl) dX9_setThreshold_1 (fun r4 S4 hm => ?_)
  refine v_if_eq C (pc := 4) hm 17 dX9_setThreshold_4 rfl (fun hm => ?_) (fun hm => ?_)
  · exact v_sub [] rfl (vX9_setThreshold_17 C hr hQ (N := N) hm)
  · refine v_iload_n C (pc := 7) 2 dX9_setThreshold_7 rfl rfl ?_
    refine v_iconst C (pc := 8) 1 dX9_setThreshold_8 rfl ?_
    refine v_bipush C (pc := 9) 45 dX9_setThreshold_9 rfl ?_
    refine kX9_119 C (Nat.le_of_ble_eq_true rfl) (Nat.le_of_ble_eq_true rfl) (pc := 11) hm (Nat.le_of_ble_eq_true rfl) dX9_setThreshold_11 (fun r5 S5 hm => ?_)
    refine v_if_ne C (pc := 14) hm 20 dX9_setThreshold_14 rfl (fun hm => ?_) (fun hm => ?_)
    · refine v_aload_n C (pc := 20) 0 dX9_setThreshold_20 rfl rfl ?_
      refine gX9_7 C (pc := 21) dX9_setThreshold_21 ?_
      refine v_iload_n C (pc := 24) 1 dX9_setThreshold_24 rfl rfl ?_
      refine ldX9_threshold C (pc := 25) hm dX9_setThreshold_25 (fun hm => ?_)
      refine v_istore_nN C (pc := 26) [(0, .ref (ad 0)), (1, .int p1), (2, .int p2)] hm dX9_setThreshold_26 rfl (by decide) rfl (fun y6 hm => ?_)
      refine v_aload_n C (pc := 27) 1 dX9_setThreshold_27 rfl rfl ?_
      refine gX9_7 C (pc := 28) dX9_setThreshold_28 ?_
      refine v_iload_n C (pc := 31) 2 dX9_setThreshold_31 rfl rfl ?_
      refine v_iload_n C (pc := 32) 3 dX9_setThreshold_32 rfl rfl ?_
      refine stX9_threshold C (pc := 33) hm dX9_setThreshold_33 (fun S6 hm => ?_)
      refine v_iload_n C (pc := 34) 0 dX9_setThreshold_34 rfl rfl ?_
      exact v_iret C hr hQ (pc := 35) hm dX9_setThreshold_35
    · exact v_sub [] rfl (vX9_setThreshold_17 C hr hQ (N := N) hm)
theorem mX9_setThreshold {l : Launch} {D : va_G} {ad : Nat → Nat} {cA : Nat → ClassId} (hD : ∀ S, va_D (mA ad) (mW ad cA S)) {N : Nat} {p1 : Int32} {p2 : Int32} {S : St} {r : Int32 × St} (hm : fX9_setThreshold N p1 p2 S = some r) : Met l yX9_setThreshold (wsm yX9_setThreshold cX9_setThreshold 4 (some .int)) rmX9_setThreshold (va_Pc [.ref (ad 0), .int p1, .int p2] (Pre D cA (mW ad cA) mS S)) (Qo D (mW ad cA) (mA ad) (some (.int r.1)) r.2) 0 0 (mA ad) := met_of [.ref (ad 0), .int p1, .int p2] (by decide) (Nat.le_of_ble_eq_true rfl) hD (fun _ _ _ _ h => h) (fun _ _ _ _ h => h) (fun p e s m below meth c C hr => vX9_setThreshold C hr rfl (N := N)  hm)
-- X9_setStrength
def rmX9_setStrength : Room := { frames := 1, cells := 0, slots := 0, locals := 22 }
def fX9_setStrength (N : Nat) (p1 : Int32) (S : St) : Option (Int32 × St) := bd (fX9_in N p1 1 45 S) fun r3 S3 => if (b2i r3) = 0 then (some ((-3), S3)) else (nm (S3.1 2) fun y4 => stp (sI S3 2 p1) fun S4 => some (y4, S4))
set_option maxRecDepth 20000 in
theorem vX9_setStrength {p : Program} {l : Launch} {e : Env} {s : State} {m : MethodId} {args : Array Value} {below : List Frame} {meth : Method} {c : Code} {Q : State → Prop} {D : va_G} {ad : Nat → Nat} {cA : Nat → ClassId} (C : Ok p s m args c D cA (mW ad cA) (mA ad) mS RX9 cX9_setStrength 3) (hr : Rt meth (some .int)) {r : Int32 × St} (hQ : Q = MQ below (Qo D (mW ad cA) (mA ad) (some (.int r.1)) r.2) args s 0 0 (mA ad)) {N : Nat} {p1 : Int32} {S : St} (hm : fX9_setStrength N p1 S = some r) : V p l e rmX9_setStrength s m args below meth c Q D (mW ad cA) (mA ad) 3 S 0 [(0, .ref (ad 0)), (1, .int p1)] [] := by
  unfold fX9_setStrength at hm
  refine v_iload_n C (pc := 0) 1 dX9_setStrength_0 rfl rfl ?_
  refine v_iconst C (pc := 1) 1 dX9_setStrength_1 rfl ?_
  refine v_bipush C (pc := 2) 45 dX9_setStrength_2 rfl ?_
  refine kX9_119 C (Nat.le_of_ble_eq_true rfl) (Nat.le_of_ble_eq_true rfl) (pc := 4) hm (Nat.le_of_ble_eq_true rfl) dX9_setStrength_4 (fun r3 S3 hm => ?_)
  refine v_if_ne C (pc := 7) hm 13 dX9_setStrength_7 rfl (fun hm => ?_) (fun hm => ?_)
  · refine v_aload_n C (pc := 13) 0 dX9_setStrength_13 rfl rfl ?_
    refine gX9_116 C (pc := 14) dX9_setStrength_14 ?_
    refine v_istore_nN C (pc := 17) [(0, .ref (ad 0)), (1, .int p1)] hm dX9_setStrength_17 rfl (by decide) rfl (fun y4 hm => ?_)
    refine v_aload_n C (pc := 18) 1 dX9_setStrength_18 rfl rfl ?_
    refine v_iload_n C (pc := 19) 2 dX9_setStrength_19 rfl rfl ?_
    refine pX9_116 C (pc := 20) hm dX9_setStrength_20 (fun S4 hm => ?_)
    refine v_iload_n C (pc := 23) 0 dX9_setStrength_23 rfl rfl ?_
    exact v_iret C hr hQ (pc := 24) hm dX9_setStrength_24
  · refine v_bipush C (pc := 10) (-3) dX9_setStrength_10 rfl ?_
    exact v_iret C hr hQ (pc := 12) hm dX9_setStrength_12
theorem mX9_setStrength {l : Launch} {D : va_G} {ad : Nat → Nat} {cA : Nat → ClassId} (hD : ∀ S, va_D (mA ad) (mW ad cA S)) {N : Nat} {p1 : Int32} {S : St} {r : Int32 × St} (hm : fX9_setStrength N p1 S = some r) : Met l yX9_setStrength (wsm yX9_setStrength cX9_setStrength 3 (some .int)) rmX9_setStrength (va_Pc [.ref (ad 0), .int p1] (Pre D cA (mW ad cA) mS S)) (Qo D (mW ad cA) (mA ad) (some (.int r.1)) r.2) 0 0 (mA ad) := met_of [.ref (ad 0), .int p1] (by decide) (Nat.le_of_ble_eq_true rfl) hD (fun _ _ _ _ h => h) (fun _ _ _ _ h => h) (fun p e s m below meth c C hr => vX9_setStrength C hr rfl (N := N)  hm)
-- X9_load
def rmX9_load : Room := { frames := 3, cells := 0, slots := 0, locals := 69 }
def fX9_load (N : Nat) (p1 : Int32) (S : St) : Option (Int32 × St) := bd (fX9_isGroup N p1 S) fun r3 S3 => if (b2i r3) = 0 then (some ((-3), S3)) else (bd (fX9_layOwners N  S3) fun r4 S4 => ck p1 4 (some ((S4.2.2.1 19 (Int32.toNatClampNeg p1)), S4)))
set_option maxRecDepth 20000 in
theorem vX9_load {p : Program} {l : Launch} {e : Env} {s : State} {m : MethodId} {args : Array Value} {below : List Frame} {meth : Method} {c : Code} {Q : State → Prop} {D : va_G} {ad : Nat → Nat} {cA : Nat → ClassId} (C : Ok p s m args c D cA (mW ad cA) (mA ad) mS RX9 cX9_load 2) (hr : Rt meth (some .int)) {r : Int32 × St} (hQ : Q = MQ below (Qo D (mW ad cA) (mA ad) (some (.int r.1)) r.2) args s 0 0 (mA ad)) {N : Nat} {p1 : Int32} {S : St} (hm : fX9_load N p1 S = some r) : V p l e rmX9_load s m args below meth c Q D (mW ad cA) (mA ad) 2 S 0 [(0, .ref (ad 0)), (1, .int p1)] [] := by
  unfold fX9_load at hm
  refine v_iload_n C (pc := 0) 1 dX9_load_0 rfl rfl ?_
  refine kX9_252 C (Nat.le_of_ble_eq_true rfl) (Nat.le_of_ble_eq_true rfl) (pc := 1) hm (Nat.le_of_ble_eq_true rfl) dX9_load_1 (fun r3 S3 hm => ?_)
  refine v_if_ne C (pc := 4) hm 10 dX9_load_4 rfl (fun hm => ?_) (fun hm => ?_)
  · refine v_aload_n C (pc := 10) 0 dX9_load_10 rfl rfl ?_
    refine kX9_201 C (Nat.le_of_ble_eq_true rfl) (Nat.le_of_ble_eq_true rfl) (pc := 11) hm (Nat.le_of_ble_eq_true rfl) dX9_load_11 (fun r4 S4 hm => ?_)
    refine v_aload_n C (pc := 14) 0 dX9_load_14 rfl rfl ?_
    refine gX9_68 C (pc := 15) dX9_load_15 ?_
    refine v_iload_n C (pc := 18) 1 dX9_load_18 rfl rfl ?_
    refine ldX9_loadOf C (pc := 19) hm dX9_load_19 (fun hm => ?_)
    exact v_iret C hr hQ (pc := 20) hm dX9_load_20
  · refine v_bipush C (pc := 7) (-3) dX9_load_7 rfl ?_
    exact v_iret C hr hQ (pc := 9) hm dX9_load_9
theorem mX9_load {l : Launch} {D : va_G} {ad : Nat → Nat} {cA : Nat → ClassId} (hD : ∀ S, va_D (mA ad) (mW ad cA S)) {N : Nat} {p1 : Int32} {S : St} {r : Int32 × St} (hm : fX9_load N p1 S = some r) : Met l yX9_load (wsm yX9_load cX9_load 2 (some .int)) rmX9_load (va_Pc [.ref (ad 0), .int p1] (Pre D cA (mW ad cA) mS S)) (Qo D (mW ad cA) (mA ad) (some (.int r.1)) r.2) 0 0 (mA ad) := met_of [.ref (ad 0), .int p1] (by decide) (Nat.le_of_ble_eq_true rfl) hD (fun _ _ _ _ h => h) (fun _ _ _ _ h => h) (fun p e s m below meth c C hr => vX9_load C hr rfl (N := N)  hm)
