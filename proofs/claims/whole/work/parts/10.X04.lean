-- X8_attempt
def rmX8_attempt : Room := { frames := 4, cells := 0, slots := 0, locals := 113 }
def fX8_attempt (N : Nat) (p1 : Int32) (p2 : Int32) (S : St) : Option (Int32 × St) := bd (fX1_present N  S) fun r4 S4 => bd (fX4_stand N 0 r4 S4) fun r5 S5 => bd (fX4_attempt N 0 p1 p2 S5) fun r6 S6 => some (r6, S6)
set_option maxRecDepth 20000 in
theorem vX8_attempt {p : Program} {l : Launch} {e : Env} {s : State} {m : MethodId} {args : Array Value} {below : List Frame} {meth : Method} {c : Code} {Q : State → Prop} {D : va_G} {ad : Nat → Nat} {cA : Nat → ClassId} (C : Ok p s m args c D cA (xW ad cA) (xA ad) (xS ad) RX8 cX8_attempt 3) (hr : Rt meth (some .int)) {r : Int32 × St} (hQ : Q = MQ below (Qo D (xW ad cA) (xA ad) (some (.int r.1)) r.2) args s 0 0 (xA ad)) {N : Nat} {p1 : Int32} {p2 : Int32} {S : St} (hm : fX8_attempt N p1 p2 S = some r) : V p l e rmX8_attempt s m args below meth c Q D (xW ad cA) (xA ad) 3 S 0 [(0, .ref (ad 0)), (1, .int p1), (2, .int p2)] [] := by
  unfold fX8_attempt at hm
  refine v_aload_n C (pc := 0) 0 dX8_attempt_0 rfl rfl ?_
  refine gX8_37 C (pc := 1) dX8_attempt_1 ?_
  refine v_aload_n C (pc := 4) 0 dX8_attempt_4 rfl rfl ?_
  refine gX8_44 C (pc := 5) dX8_attempt_5 ?_
  refine kX8_132 C (Nat.le_of_ble_eq_true rfl) (Nat.le_of_ble_eq_true rfl) (pc := 8) hm (Nat.le_of_ble_eq_true rfl) dX8_attempt_8 (fun r4 S4 hm => ?_)
  refine kX8_136 C (Nat.le_of_ble_eq_true rfl) (Nat.le_of_ble_eq_true rfl) (i := 0) (by decide) (pc := 11) hm (Nat.le_of_ble_eq_true rfl) dX8_attempt_11 (fun r5 S5 hm => ?_)
  refine v_aload_n C (pc := 14) 0 dX8_attempt_14 rfl rfl ?_
  refine gX8_37 C (pc := 15) dX8_attempt_15 ?_
  refine v_iload_n C (pc := 18) 1 dX8_attempt_18 rfl rfl ?_
  refine v_iload_n C (pc := 19) 2 dX8_attempt_19 rfl rfl ?_
  refine kX8_215 C (Nat.le_of_ble_eq_true rfl) (Nat.le_of_ble_eq_true rfl) (i := 0) (by decide) (pc := 20) hm (Nat.le_of_ble_eq_true rfl) dX8_attempt_20 (fun r6 S6 hm => ?_)
  exact v_iret C hr hQ (pc := 23) hm dX8_attempt_23
theorem mX8_attempt {l : Launch} {D : va_G} {ad : Nat → Nat} {cA : Nat → ClassId} (hD : ∀ S, va_D (xA ad) (xW ad cA S)) {N : Nat} {p1 : Int32} {p2 : Int32} {S : St} {r : Int32 × St} (hm : fX8_attempt N p1 p2 S = some r) : Met l yX8_attempt (wsm yX8_attempt cX8_attempt 3 (some .int)) rmX8_attempt (va_Pc [.ref (ad 0), .int p1, .int p2] (Pre D cA (xW ad cA) (xS ad) S)) (Qo D (xW ad cA) (xA ad) (some (.int r.1)) r.2) 0 0 (xA ad) := met_of [.ref (ad 0), .int p1, .int p2] (by decide) (Nat.le_of_ble_eq_true rfl) hD (xS_mv ad) (xS_kp ad) (fun p e s m below meth c C hr => vX8_attempt C hr rfl (N := N)  hm)
-- X8_makeMove
theorem kX8_216 {p : Program} {l : Launch} {e : Env} {R : Room} {s : State} {m : MethodId} {args : Array Value} {below : List Frame} {meth : Method} {c : Code} {Q : State → Prop} {D : va_G} {ad : Nat → Nat} {cA : Nat → ClassId} {cc : ByteArray} {nL : Nat} {S : St} {pc : Nat} {lv : List (Nat × Value)} {st : List Value} {ρ : Type} {res : ρ} (C : Ok p s m args c D cA (xW ad cA) (xA ad) (xS ad) RX8 cc nL) (hfr : rmX8_moveCode.frames + 1 ≤ R.frames) (hlo : 8 + (2 + 11) + rmX8_moveCode.locals ≤ R.locals) {N : Nat} {p1 : Int32} {p2 : Int32} {E : Int32 → St → Option ρ} (hm : bd (fX8_moveCode N p1 p2 S) E = some res) (hcat : (st.map fun v => v.category).sum ≤ 8) (hd : decode cc pc = .ok (.invokestatic 216, 3)) (k : ∀ r S, E r S = some res → V p l e R s m args below meth c Q D (xW ad cA) (xA ad) nL S (pc + 3) lv (.int r :: st)) : V p l e R s m args below meth c Q D (xW ad cA) (xA ad) nL S pc lv (.int p2 :: .int p1 :: st) := by
  obtain ⟨r, S1, h1, h2⟩ := bd_some hm
  exact v_callS C (gm (i := 585) (by decide +kernel) rfl : Cond.methodLink RX8 216 yX8_moveCode ∈ gw_tbl) infX8_moveCode (rm2 := rmX8_moveCode) ⟨rfl, rfl⟩ hfr hlo (mX8_moveCode C.2.2.2.2.2.2.1 h1) (As := [.int p1, .int p2]) rfl rfl hcat hd (k r S1 h2)
theorem infX2_weightOf : InfV yX2_weightOf cX2_weightOf 4 (some .int) 1 := ⟨⟨gm (i := 57) (by decide +kernel) rfl, gm (i := 591) (by decide +kernel) rfl, by decide +kernel⟩, gm (i := 589) (by decide +kernel) rfl, gm (i := 590) (by decide +kernel) rfl⟩
theorem kX8_253 {p : Program} {l : Launch} {e : Env} {R : Room} {s : State} {m : MethodId} {args : Array Value} {below : List Frame} {meth : Method} {c : Code} {Q : State → Prop} {D : va_G} {ad : Nat → Nat} {cA : Nat → ClassId} {cc : ByteArray} {nL : Nat} {S : St} {pc : Nat} {lv : List (Nat × Value)} {st : List Value} {ρ : Type} {res : ρ} (C : Ok p s m args c D cA (xW ad cA) (xA ad) (xS ad) RX8 cc nL) (hfr : rmX2_weightOf.frames + 1 ≤ R.frames) (hlo : 8 + (4 + 11) + rmX2_weightOf.locals ≤ R.locals) {N : Nat} {p1 : Int32} {E : Int32 → St → Option ρ} (hm : bd (fX2_weightOf N p1 S) E = some res) (hcat : (st.map fun v => v.category).sum ≤ 8) (hd : decode cc pc = .ok (.invokevirtual 253, 3)) (k : ∀ r S, E r S = some res → V p l e R s m args below meth c Q D (xW ad cA) (xA ad) nL S (pc + 3) lv (.int r :: st)) : V p l e R s m args below meth c Q D (xW ad cA) (xA ad) nL S pc lv (.int p1 :: .ref (ad 2) :: st) := by
  obtain ⟨r, S1, h1, h2⟩ := bd_some hm
  exact v_callV C (gm (i := 588) (by decide +kernel) rfl : Cond.methodLink RX8 253 yX2_weightOf ∈ gw_tbl) infX2_weightOf (rm2 := rmX2_weightOf) ⟨rfl, rfl⟩ hfr hlo (mX2_weightOf C.2.2.2.2.2.2.1 h1) (As := [.int p1]) (oX2 ad cA S) rfl rfl rfl rfl hcat hd (k r S1 h2)
theorem infX1_add : InfV yX1_add cX1_add 5 none 3 := ⟨⟨gm (i := 63) (by decide +kernel) rfl, gm (i := 595) (by decide +kernel) rfl, by decide +kernel⟩, gm (i := 593) (by decide +kernel) rfl, gm (i := 594) (by decide +kernel) rfl⟩
theorem kX8_260 {p : Program} {l : Launch} {e : Env} {R : Room} {s : State} {m : MethodId} {args : Array Value} {below : List Frame} {meth : Method} {c : Code} {Q : State → Prop} {D : va_G} {ad : Nat → Nat} {cA : Nat → ClassId} {cc : ByteArray} {nL : Nat} {S : St} {pc : Nat} {lv : List (Nat × Value)} {st : List Value} {ρ : Type} {res : ρ} (C : Ok p s m args c D cA (xW ad cA) (xA ad) (xS ad) RX8 cc nL) (hfr : rmX1_add.frames + 1 ≤ R.frames) (hlo : 8 + (5 + 11) + rmX1_add.locals ≤ R.locals) {N : Nat} {p1 : Int32} {p2 : Int32} {p3 : Int64} {E : Unit → St → Option ρ} (hm : bd (fX1_add N p1 p2 p3 S) E = some res) (hcat : (st.map fun v => v.category).sum ≤ 8) (hd : decode cc pc = .ok (.invokevirtual 260, 3)) (k : ∀ r S, E r S = some res → V p l e R s m args below meth c Q D (xW ad cA) (xA ad) nL S (pc + 3) lv (st)) : V p l e R s m args below meth c Q D (xW ad cA) (xA ad) nL S pc lv (.long p3 :: .int p2 :: .int p1 :: .ref (ad 12) :: st) := by
  obtain ⟨r, S1, h1, h2⟩ := bd_some hm
  exact v_callV C (gm (i := 592) (by decide +kernel) rfl : Cond.methodLink RX8 260 yX1_add ∈ gw_tbl) infX1_add (rm2 := rmX1_add) ⟨rfl, rfl⟩ hfr hlo (mX1_add C.2.2.2.2.2.2.1 h1) (As := [.int p1, .int p2, .long p3]) (oX1 ad cA S) rfl rfl rfl rfl hcat hd (k r S1 h2)
def rmX8_makeMove : Room := { frames := 1, cells := 0, slots := 0, locals := 24 }
def fX8_makeMove (N : Nat) (p1 : Int32) (p2 : Int32) (p3 : Int32) (S : St) : Option (Unit × St) := bd (fX8_moveCode N p1 p2 S) fun r4 S4 => bd (fX2_weightOf N p3 S4) fun r5 S5 => bd (fX1_add N r4 r5 (S5.2.1 8) S5) fun r6 S6 => some ((), S6)
set_option maxRecDepth 20000 in
theorem vX8_makeMove {p : Program} {l : Launch} {e : Env} {s : State} {m : MethodId} {args : Array Value} {below : List Frame} {meth : Method} {c : Code} {Q : State → Prop} {D : va_G} {ad : Nat → Nat} {cA : Nat → ClassId} (C : Ok p s m args c D cA (xW ad cA) (xA ad) (xS ad) RX8 cX8_makeMove 4) (hr : Rt meth none) {r : Unit × St} (hQ : Q = MQ below (Qo D (xW ad cA) (xA ad) (none) r.2) args s 0 0 (xA ad)) {N : Nat} {p1 : Int32} {p2 : Int32} {p3 : Int32} {S : St} (hm : fX8_makeMove N p1 p2 p3 S = some r) : V p l e rmX8_makeMove s m args below meth c Q D (xW ad cA) (xA ad) 4 S 0 [(0, .ref (ad 0)), (1, .int p1), (2, .int p2), (3, .int p3)] [] := by
  unfold fX8_makeMove at hm
  refine v_aload_n C (pc := 0) 0 dX8_makeMove_0 rfl rfl ?_
  refine gX8_44 C (pc := 1) dX8_makeMove_1 ?_
  refine v_iload_n C (pc := 4) 1 dX8_makeMove_4 rfl rfl ?_
  refine v_iload_n C (pc := 5) 2 dX8_makeMove_5 rfl rfl ?_
  refine kX8_216 C (Nat.le_of_ble_eq_true rfl) (Nat.le_of_ble_eq_true rfl) (pc := 6) hm (Nat.le_of_ble_eq_true rfl) dX8_makeMove_6 (fun r4 S4 hm => ?_)
  refine v_aload_n C (pc := 9) 0 dX8_makeMove_9 rfl rfl ?_
  refine gX8_19 C (pc := 10) dX8_makeMove_10 ?_
  refine v_iload_n C (pc := 13) 3 dX8_makeMove_13 rfl rfl ?_
  refine kX8_253 C (Nat.le_of_ble_eq_true rfl) (Nat.le_of_ble_eq_true rfl) (pc := 14) hm (Nat.le_of_ble_eq_true rfl) dX8_makeMove_14 (fun r5 S5 hm => ?_)
  refine v_aload_n C (pc := 17) 0 dX8_makeMove_17 rfl rfl ?_
  refine gX8_37 C (pc := 18) dX8_makeMove_18 ?_
  refine gX8_256 C (i := 0) (by decide) (pc := 21) dX8_makeMove_21 ?_
  refine kX8_260 C (Nat.le_of_ble_eq_true rfl) (Nat.le_of_ble_eq_true rfl) (pc := 24) hm (Nat.le_of_ble_eq_true rfl) dX8_makeMove_24 (fun r6 S6 hm => ?_)
  exact v_vret C hr hQ (x := ()) (pc := 27) hm dX8_makeMove_27
theorem mX8_makeMove {l : Launch} {D : va_G} {ad : Nat → Nat} {cA : Nat → ClassId} (hD : ∀ S, va_D (xA ad) (xW ad cA S)) {N : Nat} {p1 : Int32} {p2 : Int32} {p3 : Int32} {S : St} {r : Unit × St} (hm : fX8_makeMove N p1 p2 p3 S = some r) : Met l yX8_makeMove (wsm yX8_makeMove cX8_makeMove 4 none) rmX8_makeMove (va_Pc [.ref (ad 0), .int p1, .int p2, .int p3] (Pre D cA (xW ad cA) (xS ad) S)) (Qo D (xW ad cA) (xA ad) (none) r.2) 0 0 (xA ad) := met_of [.ref (ad 0), .int p1, .int p2, .int p3] (by decide) (Nat.le_of_ble_eq_true rfl) hD (xS_mv ad) (xS_kp ad) (fun p e s m below meth c C hr => vX8_makeMove C hr rfl (N := N)  hm)
-- X8_readMoves
theorem infX8_attempt : InfV yX8_attempt cX8_attempt 3 (some .int) 2 := ⟨⟨gm (i := 55) (by decide +kernel) rfl, gm (i := 580) (by decide +kernel) rfl, by decide +kernel⟩, gm (i := 579) (by decide +kernel) rfl, gm (i := 8) (by decide +kernel) rfl⟩
theorem kX8_102 {p : Program} {l : Launch} {e : Env} {R : Room} {s : State} {m : MethodId} {args : Array Value} {below : List Frame} {meth : Method} {c : Code} {Q : State → Prop} {D : va_G} {ad : Nat → Nat} {cA : Nat → ClassId} {cc : ByteArray} {nL : Nat} {S : St} {pc : Nat} {lv : List (Nat × Value)} {st : List Value} {ρ : Type} {res : ρ} (C : Ok p s m args c D cA (xW ad cA) (xA ad) (xS ad) RX8 cc nL) (hfr : rmX8_attempt.frames + 1 ≤ R.frames) (hlo : 8 + (3 + 11) + rmX8_attempt.locals ≤ R.locals) {N : Nat} {p1 : Int32} {p2 : Int32} {E : Int32 → St → Option ρ} (hm : bd (fX8_attempt N p1 p2 S) E = some res) (hcat : (st.map fun v => v.category).sum ≤ 8) (hd : decode cc pc = .ok (.invokevirtual 102, 3)) (k : ∀ r S, E r S = some res → V p l e R s m args below meth c Q D (xW ad cA) (xA ad) nL S (pc + 3) lv (.int r :: st)) : V p l e R s m args below meth c Q D (xW ad cA) (xA ad) nL S pc lv (.int p2 :: .int p1 :: .ref (ad 0) :: st) := by
  obtain ⟨r, S1, h1, h2⟩ := bd_some hm
  exact v_callV C (gm (i := 577) (by decide +kernel) rfl : Cond.methodLink RX8 102 yX8_attempt ∈ gw_tbl) infX8_attempt (rm2 := rmX8_attempt) ⟨rfl, rfl⟩ hfr hlo (mX8_attempt C.2.2.2.2.2.2.1 h1) (As := [.int p1, .int p2]) (oX8 ad cA S) rfl rfl rfl rfl hcat hd (k r S1 h2)
theorem infX8_makeMove : InfV yX8_makeMove cX8_makeMove 4 none 3 := ⟨⟨gm (i := 55) (by decide +kernel) rfl, gm (i := 584) (by decide +kernel) rfl, by decide +kernel⟩, gm (i := 583) (by decide +kernel) rfl, gm (i := 9) (by decide +kernel) rfl⟩
theorem kX8_106 {p : Program} {l : Launch} {e : Env} {R : Room} {s : State} {m : MethodId} {args : Array Value} {below : List Frame} {meth : Method} {c : Code} {Q : State → Prop} {D : va_G} {ad : Nat → Nat} {cA : Nat → ClassId} {cc : ByteArray} {nL : Nat} {S : St} {pc : Nat} {lv : List (Nat × Value)} {st : List Value} {ρ : Type} {res : ρ} (C : Ok p s m args c D cA (xW ad cA) (xA ad) (xS ad) RX8 cc nL) (hfr : rmX8_makeMove.frames + 1 ≤ R.frames) (hlo : 8 + (4 + 11) + rmX8_makeMove.locals ≤ R.locals) {N : Nat} {p1 : Int32} {p2 : Int32} {p3 : Int32} {E : Unit → St → Option ρ} (hm : bd (fX8_makeMove N p1 p2 p3 S) E = some res) (hcat : (st.map fun v => v.category).sum ≤ 8) (hd : decode cc pc = .ok (.invokevirtual 106, 3)) (k : ∀ r S, E r S = some res → V p l e R s m args below meth c Q D (xW ad cA) (xA ad) nL S (pc + 3) lv (st)) : V p l e R s m args below meth c Q D (xW ad cA) (xA ad) nL S pc lv (.int p3 :: .int p2 :: .int p1 :: .ref (ad 0) :: st) := by
  obtain ⟨r, S1, h1, h2⟩ := bd_some hm
  exact v_callV C (gm (i := 581) (by decide +kernel) rfl : Cond.methodLink RX8 106 yX8_makeMove ∈ gw_tbl) infX8_makeMove (rm2 := rmX8_makeMove) ⟨rfl, rfl⟩ hfr hlo (mX8_makeMove C.2.2.2.2.2.2.1 h1) (As := [.int p1, .int p2, .int p3]) (oX8 ad cA S) rfl rfl rfl rfl hcat hd (k r S1 h2)
theorem infX8_faultOfMoves : InfV yX8_faultOfMoves cX8_faultOfMoves 4 (some .int) 0 := ⟨⟨gm (i := 55) (by decide +kernel) rfl, gm (i := 512) (by decide +kernel) rfl, by decide +kernel⟩, gm (i := 511) (by decide +kernel) rfl, gm (i := 6) (by decide +kernel) rfl⟩
theorem kX8_88 {p : Program} {l : Launch} {e : Env} {R : Room} {s : State} {m : MethodId} {args : Array Value} {below : List Frame} {meth : Method} {c : Code} {Q : State → Prop} {D : va_G} {ad : Nat → Nat} {cA : Nat → ClassId} {cc : ByteArray} {nL : Nat} {S : St} {pc : Nat} {lv : List (Nat × Value)} {st : List Value} {ρ : Type} {res : ρ} (C : Ok p s m args c D cA (xW ad cA) (xA ad) (xS ad) RX8 cc nL) (hfr : rmX8_faultOfMoves.frames + 1 ≤ R.frames) (hlo : 8 + (4 + 11) + rmX8_faultOfMoves.locals ≤ R.locals) {N : Nat}  {E : Int32 → St → Option ρ} (hm : bd (fX8_faultOfMoves N  S) E = some res) (hcat : (st.map fun v => v.category).sum ≤ 8) (hd : decode cc pc = .ok (.invokevirtual 88, 3)) (k : ∀ r S, E r S = some res → V p l e R s m args below meth c Q D (xW ad cA) (xA ad) nL S (pc + 3) lv (.int r :: st)) : V p l e R s m args below meth c Q D (xW ad cA) (xA ad) nL S pc lv (.ref (ad 0) :: st) := by
  obtain ⟨r, S1, h1, h2⟩ := bd_some hm
  exact v_callV C (gm (i := 509) (by decide +kernel) rfl : Cond.methodLink RX8 88 yX8_faultOfMoves ∈ gw_tbl) infX8_faultOfMoves (rm2 := rmX8_faultOfMoves) ⟨rfl, rfl⟩ hfr hlo (mX8_faultOfMoves C.2.2.2.2.2.2.1 h1) (As := []) (oX8 ad cA S) rfl rfl rfl rfl hcat hd (k r S1 h2)
def rmX8_readMoves : Room := { frames := 5, cells := 0, slots := 0, locals := 136 }
def fX8_readMoves_45b (N : Nat)  (k45 : Int32 → Int32 → St → Option (Int32 × St)) (x2 : Int32) (x3 : Int32) (S : St) : Option (Int32 × St) := if x2 ≤ x3 then (some (x2, S)) else (bd (fX6_at N (2 * x3) S) fun r15 S12 => nm (r15 - 97) fun y16 => bd (fX6_at N ((2 * x3) + 1) S12) fun r17 S13 => bd (fX8_kindOfLetter N r17 S13) fun r18 S14 => bd (fX8_attempt N y16 r18 S14) fun r19 S15 => bd (fX8_makeMove N y16 r18 r19 S15) fun r20 S16 => k45 x2 (x3 + 1) S16)
def fX8_readMoves_45 (N : Nat)  : Nat → Int32 → Int32 → St → Option (Int32 × St)
  | 0 => fun _ _ _ => none
  | n + 1 => fun x2 x3 S => fX8_readMoves_45b N  (fX8_readMoves_45 N  n) x2 x3 S
set_option maxRecDepth 20000 in
theorem vX8_readMoves_45b {p : Program} {l : Launch} {e : Env} {s : State} {m : MethodId} {args : Array Value} {below : List Frame} {meth : Method} {c : Code} {Q : State → Prop} {D : va_G} {ad : Nat → Nat} {cA : Nat → ClassId} (C : Ok p s m args c D cA (xW ad cA) (xA ad) (xS ad) RX8 cX8_readMoves 6) (hr : Rt meth (some .int)) {r : Int32 × St} (hQ : Q = MQ below (Qo D (xW ad cA) (xA ad) (some (.int r.1)) r.2) args s 0 0 (xA ad)) {N : Nat}  {k45 : Int32 → Int32 → St → Option (Int32 × St)} (hk45 : ∀ (x2 : Int32) (x3 : Int32) (S : St), k45 x2 x3 S = some r → V p l e rmX8_readMoves s m args below meth c Q D (xW ad cA) (xA ad) 6 S 45 [(0, .ref (ad 0)), (2, .int x2), (3, .int x3)] []) {x2 : Int32} {x3 : Int32}  {S : St} (hm : fX8_readMoves_45b N  k45 x2 x3 S = some r) : V p l e rmX8_readMoves s m args below meth c Q D (xW ad cA) (xA ad) 6 S 45 [(0, .ref (ad 0)), (2, .int x2), (3, .int x3)] [] := by
  unfold fX8_readMoves_45b at hm
  refine v_iload_n C (pc := 45) 2 dX8_readMoves_45 rfl rfl ?_
  refine v_iload_n C (pc := 46) 1 dX8_readMoves_46 rfl rfl ?_
  refine v_icmp_ge C (pc := 47) hm 104 dX8_readMoves_47 rfl (fun hm => ?_) (fun hm => ?_)
  · refine v_iload_n C (pc := 104) 1 dX8_readMoves_104 rfl rfl ?_
    exact v_iret C hr hQ (pc := 105) hm dX8_readMoves_105
  · refine v_aload_n C (pc := 50) 0 dX8_readMoves_50 rfl rfl ?_
    refine gX8_10 C (pc := 51) dX8_readMoves_51 ?_
    refine v_iconst C (pc := 54) 2 dX8_readMoves_54 rfl ?_
    refine v_iload_n C (pc := 55) 2 dX8_readMoves_55 rfl rfl ?_
    refine v_imul C (pc := 56) dX8_readMoves_56 ?_
    refine kX8_94 C (Nat.le_of_ble_eq_true rfl) (Nat.le_of_ble_eq_true rfl) (pc := 57) hm (Nat.le_of_ble_eq_true rfl) dX8_readMoves_57 (fun r15 S12 hm => ?_)
    refine v_bipush C (pc := 60) 97 dX8_readMoves_60 rfl ?_
    refine v_isub C (pc := 62) dX8_readMoves_62 ?_
    refine v_istoreN C (pc := 63) [(0, .ref (ad 0)), (2, .int x2), (3, .int x3)] hm dX8_readMoves_63 (by decide) rfl (fun y16 hm => ?_)
    refine v_aload_n C (pc := 65) 1 dX8_readMoves_65 rfl rfl ?_
    refine gX8_10 C (pc := 66) dX8_readMoves_66 ?_
    refine v_iconst C (pc := 69) 2 dX8_readMoves_69 rfl ?_
    refine v_iload_n C (pc := 70) 3 dX8_readMoves_70 rfl rfl ?_
    refine v_imul C (pc := 71) dX8_readMoves_71 ?_
    refine v_iconst C (pc := 72) 1 dX8_readMoves_72 rfl ?_
    refine v_iadd C (pc := 73) dX8_readMoves_73 ?_
    refine kX8_94 C (Nat.le_of_ble_eq_true rfl) (Nat.le_of_ble_eq_true rfl) (pc := 74) hm (Nat.le_of_ble_eq_true rfl) dX8_readMoves_74 (fun r17 S13 hm => ?_)
    refine kX8_98 C (Nat.le_of_ble_eq_true rfl) (Nat.le_of_ble_eq_true rfl) (pc := 77) hm (Nat.le_of_ble_eq_true rfl) dX8_readMoves_77 (fun r18 S14 hm => ?_)
    refine v_istore C (pc := 80) [(5, .int r18), (4, .int y16), (0, .ref (ad 0)), (2, .int x2), (3, .int x3)] dX8_readMoves_80 (by decide) rfl ?_
    refine v_aload_n C (pc := 82) 2 dX8_readMoves_82 rfl rfl ?_
    refine v_iload C (pc := 83) 1 dX8_readMoves_83 rfl ?_
    refine v_iload C (pc := 85) 0 dX8_readMoves_85 rfl ?_
    refine v_aload_n C (pc := 87) 2 dX8_readMoves_87 rfl rfl ?_
    refine v_iload C (pc := 88) 1 dX8_readMoves_88 rfl ?_
    refine v_iload C (pc := 90) 0 dX8_readMoves_90 rfl ?_
    refine kX8_102 C (Nat.le_of_ble_eq_true rfl) (Nat.le_of_ble_eq_true rfl) (pc := 92) hm (Nat.le_of_ble_eq_true rfl) dX8_readMoves_92 (fun r19 S15 hm => ?_)
    refine kX8_106 C (Nat.le_of_ble_eq_true rfl) (Nat.le_of_ble_eq_true rfl) (pc := 95) hm (Nat.le_of_ble_eq_true rfl) dX8_readMoves_95 (fun r20 S16 hm => ?_)
    refine v_iinc C (pc := 98) 1 4 [(3, .int (x3 + 1)), (5, .int r18), (4, .int y16), (0, .ref (ad 0)), (2, .int x2)] dX8_readMoves_98 rfl rfl (by decide) rfl ?_
    refine v_goto C (pc := 101) 45 dX8_readMoves_101 rfl ?_
    exact v_sub [3, 4, 0] rfl (hk45 _ _ _ hm)
theorem vX8_readMoves_45 {p : Program} {l : Launch} {e : Env} {s : State} {m : MethodId} {args : Array Value} {below : List Frame} {meth : Method} {c : Code} {Q : State → Prop} {D : va_G} {ad : Nat → Nat} {cA : Nat → ClassId} (C : Ok p s m args c D cA (xW ad cA) (xA ad) (xS ad) RX8 cX8_readMoves 6) (hr : Rt meth (some .int)) {r : Int32 × St} (hQ : Q = MQ below (Qo D (xW ad cA) (xA ad) (some (.int r.1)) r.2) args s 0 0 (xA ad)) {N : Nat}  (n : Nat) : ∀ (x2 : Int32) (x3 : Int32) (S : St), fX8_readMoves_45 N  n x2 x3 S = some r → V p l e rmX8_readMoves s m args below meth c Q D (xW ad cA) (xA ad) 6 S 45 [(0, .ref (ad 0)), (2, .int x2), (3, .int x3)] [] := by
  induction n with
  | zero => intro _ _ _  hm; exact absurd hm (by intro h; cases h)
  | succ n ih => intro _ _ _  hm; exact vX8_readMoves_45b C hr hQ (N := N)   ih  hm
def fX8_readMoves (N : Nat)  (S : St) : Option (Int32 × St) := bd (fX8_faultOfMoves N  S) fun r21 S17 => if r21 = (-1) then (nm ((S17.1 1) / 2) fun y22 => if ((S17.1 28) + y22) ≤ 200 then (fX8_readMoves_45 N N y22 0 S17) else (some ((-5), S17))) else (some (((-100) - r21), S17))
set_option maxRecDepth 20000 in
theorem vX8_readMoves {p : Program} {l : Launch} {e : Env} {s : State} {m : MethodId} {args : Array Value} {below : List Frame} {meth : Method} {c : Code} {Q : State → Prop} {D : va_G} {ad : Nat → Nat} {cA : Nat → ClassId} (C : Ok p s m args c D cA (xW ad cA) (xA ad) (xS ad) RX8 cX8_readMoves 6) (hr : Rt meth (some .int)) {r : Int32 × St} (hQ : Q = MQ below (Qo D (xW ad cA) (xA ad) (some (.int r.1)) r.2) args s 0 0 (xA ad)) {N : Nat}  {S : St} (hm : fX8_readMoves N  S = some r) : V p l e rmX8_readMoves s m args below meth c Q D (xW ad cA) (xA ad) 6 S 0 [(0, .ref (ad 0))] [] := by
  unfold fX8_readMoves at hm
  refine v_aload_n C (pc := 0) 0 dX8_readMoves_0 rfl rfl ?_
  refine kX8_88 C (Nat.le_of_ble_eq_true rfl) (Nat.le_of_ble_eq_true rfl) (pc := 1) hm (Nat.le_of_ble_eq_true rfl) dX8_readMoves_1 (fun r21 S17 hm => ?_)
  refine v_istore_n C (pc := 4) [(1, .int r21), (0, .ref (ad 0))] dX8_readMoves_4 rfl (by decide) rfl ?_
  refine v_iload_n C (pc := 5) 0 dX8_readMoves_5 rfl rfl ?_
  refine v_iconst C (pc := 6) (-1) dX8_readMoves_6 rfl ?_
  refine v_icmp_eq C (pc := 7) hm 15 dX8_readMoves_7 rfl (fun hm => ?_) (fun hm => ?_)
  · refine v_aload_n C (pc := 15) 1 dX8_readMoves_15 rfl rfl ?_
    refine gX8_10 C (pc := 16) dX8_readMoves_16 ?_
    refine gX8_67 C (pc := 19) dX8_readMoves_19 ?_
    refine v_iconst C (pc := 22) 2 dX8_readMoves_22 rfl ?_
    refine v_idiv C (pc := 23) dX8_readMoves_23 (by decide) ?_
    refine v_istore_nN C (pc := 24) [(1, .int r21), (0, .ref (ad 0))] hm dX8_readMoves_24 rfl (by decide) rfl (fun y22 hm => ?_)
    refine v_aload_n C (pc := 25) 2 dX8_readMoves_25 rfl rfl ?_
    refine gX8_44 C (pc := 26) dX8_readMoves_26 ?_
    refine gX8_91 C (pc := 29) dX8_readMoves_29 ?_
    refine v_iload_n C (pc := 32) 0 dX8_readMoves_32 rfl rfl ?_
    refine v_iadd C (pc := 33) dX8_readMoves_33 ?_
    refine v_sipush C (pc := 34) 200 dX8_readMoves_34 rfl ?_
    refine v_icmp_le C (pc := 37) hm 43 dX8_readMoves_37 rfl (fun hm => ?_) (fun hm => ?_)
    · refine v_iconst C (pc := 43) 0 dX8_readMoves_43 rfl ?_
      refine v_istore_n C (pc := 44) [(3, .int 0), (2, .int y22), (1, .int r21), (0, .ref (ad 0))] dX8_readMoves_44 rfl (by decide) rfl ?_
      exact v_sub [3, 1, 0] rfl (vX8_readMoves_45 C hr hQ (N := N) N _ _ _ hm)
    · refine v_bipush C (pc := 40) (-5) dX8_readMoves_40 rfl ?_
      exact v_iret C hr hQ (pc := 42) hm dX8_readMoves_42
  · refine v_bipush C (pc := 10) (-100) dX8_readMoves_10 rfl ?_
    refine v_iload_n C (pc := 12) 0 dX8_readMoves_12 rfl rfl ?_
    refine v_isub C (pc := 13) dX8_readMoves_13 ?_
    exact v_iret C hr hQ (pc := 14) hm dX8_readMoves_14
theorem mX8_readMoves {l : Launch} {D : va_G} {ad : Nat → Nat} {cA : Nat → ClassId} (hD : ∀ S, va_D (xA ad) (xW ad cA S)) {N : Nat}  {S : St} {r : Int32 × St} (hm : fX8_readMoves N  S = some r) : Met l yX8_readMoves (wsm yX8_readMoves cX8_readMoves 6 (some .int)) rmX8_readMoves (va_Pc [.ref (ad 0)] (Pre D cA (xW ad cA) (xS ad) S)) (Qo D (xW ad cA) (xA ad) (some (.int r.1)) r.2) 0 0 (xA ad) := met_of [.ref (ad 0)] (by decide) (Nat.le_of_ble_eq_true rfl) hD (xS_mv ad) (xS_kp ad) (fun p e s m below meth c C hr => vX8_readMoves C hr rfl (N := N)  hm)
-- X8_size
def rmX8_size : Room := { frames := 2, cells := 0, slots := 0, locals := 43 }
def fX8_size (N : Nat) (p1 : Int32) (S : St) : Option (Int32 × St) := if p1 = 0 then (some ((S.1 3), S)) else if p1 = 1 then (some ((S.1 4), S)) else if p1 = 2 then (bd (fX2_blockCount N  S) fun r2 S2 => some (r2, S2)) else if p1 = 3 then (some ((S.1 2), S)) else (some ((-3), S))
set_option maxRecDepth 20000 in
theorem vX8_size {p : Program} {l : Launch} {e : Env} {s : State} {m : MethodId} {args : Array Value} {below : List Frame} {meth : Method} {c : Code} {Q : State → Prop} {D : va_G} {ad : Nat → Nat} {cA : Nat → ClassId} (C : Ok p s m args c D cA (xW ad cA) (xA ad) (xS ad) RX8 cX8_size 2) (hr : Rt meth (some .int)) {r : Int32 × St} (hQ : Q = MQ below (Qo D (xW ad cA) (xA ad) (some (.int r.1)) r.2) args s 0 0 (xA ad)) {N : Nat} {p1 : Int32} {S : St} (hm : fX8_size N p1 S = some r) : V p l e rmX8_size s m args below meth c Q D (xW ad cA) (xA ad) 2 S 0 [(0, .ref (ad 0)), (1, .int p1)] [] := by
  unfold fX8_size at hm
  refine v_iload_n C (pc := 0) 1 dX8_size_0 rfl rfl ?_
  by_cases h0 : p1 = 0
  · rw [if_pos h0] at hm
    refine v_tsin C (pc := 1) 0 32 dX8_size_1 h0 (by decide) (by decide) rfl rfl ?_
    refine v_aload_n C (pc := 32) 0 dX8_size_32 rfl rfl ?_
    refine gX8_19 C (pc := 33) dX8_size_33 ?_
    refine gX8_110 C (pc := 36) dX8_size_36 ?_
    refine gX8_114 C (pc := 39) dX8_size_39 ?_
    exact v_iret C hr hQ (pc := 42) hm dX8_size_42
  rw [if_neg h0] at hm
  by_cases h1 : p1 = 1
  · rw [if_pos h1] at hm
    refine v_tsin C (pc := 1) 1 43 dX8_size_1 h1 (by decide) (by decide) rfl rfl ?_
    refine v_aload_n C (pc := 43) 0 dX8_size_43 rfl rfl ?_
    refine gX8_19 C (pc := 44) dX8_size_44 ?_
    refine gX8_110 C (pc := 47) dX8_size_47 ?_
    refine gX8_119 C (pc := 50) dX8_size_50 ?_
    exact v_iret C hr hQ (pc := 53) hm dX8_size_53
  rw [if_neg h1] at hm
  by_cases h2 : p1 = 2
  · rw [if_pos h2] at hm
    refine v_tsin C (pc := 1) 2 54 dX8_size_1 h2 (by decide) (by decide) rfl rfl ?_
    refine v_aload_n C (pc := 54) 0 dX8_size_54 rfl rfl ?_
    refine gX8_19 C (pc := 55) dX8_size_55 ?_
    refine kX8_85 C (Nat.le_of_ble_eq_true rfl) (Nat.le_of_ble_eq_true rfl) (pc := 58) hm (Nat.le_of_ble_eq_true rfl) dX8_size_58 (fun r2 S2 hm => ?_)
    exact v_iret C hr hQ (pc := 61) hm dX8_size_61
  rw [if_neg h2] at hm
  by_cases h3 : p1 = 3
  · rw [if_pos h3] at hm
    refine v_tsin C (pc := 1) 3 62 dX8_size_1 h3 (by decide) (by decide) rfl rfl ?_
    refine v_aload_n C (pc := 62) 0 dX8_size_62 rfl rfl ?_
    refine gX8_19 C (pc := 63) dX8_size_63 ?_
    refine gX8_122 C (pc := 66) dX8_size_66 ?_
    exact v_iret C hr hQ (pc := 69) hm dX8_size_69
  rw [if_neg h3] at hm
  have hout : (p1).toInt < 0 ∨ 3 < (p1).toInt := by
    have hh0 := i32_ne h0
    have hh1 := i32_ne h1
    have hh2 := i32_ne h2
    have hh3 := i32_ne h3
    simp only [show (0 : Int32).toInt = 0 from rfl, show (1 : Int32).toInt = 1 from rfl, show (2 : Int32).toInt = 2 from rfl, show (3 : Int32).toInt = 3 from rfl] at hh0 hh1 hh2 hh3
    omega
  refine v_tsout C (pc := 1) 70 dX8_size_1 hout rfl ?_
  refine v_bipush C (pc := 70) (-3) dX8_size_70 rfl ?_
  exact v_iret C hr hQ (pc := 72) hm dX8_size_72
theorem mX8_size {l : Launch} {D : va_G} {ad : Nat → Nat} {cA : Nat → ClassId} (hD : ∀ S, va_D (xA ad) (xW ad cA S)) {N : Nat} {p1 : Int32} {S : St} {r : Int32 × St} (hm : fX8_size N p1 S = some r) : Met l yX8_size (wsm yX8_size cX8_size 2 (some .int)) rmX8_size (va_Pc [.ref (ad 0), .int p1] (Pre D cA (xW ad cA) (xS ad) S)) (Qo D (xW ad cA) (xA ad) (some (.int r.1)) r.2) 0 0 (xA ad) := met_of [.ref (ad 0), .int p1] (by decide) (Nat.le_of_ble_eq_true rfl) hD (xS_mv ad) (xS_kp ad) (fun p e s m below meth c C hr => vX8_size C hr rfl (N := N)  hm)
-- X8_cell
theorem kX8_125 {p : Program} {l : Launch} {e : Env} {R : Room} {s : State} {m : MethodId} {args : Array Value} {below : List Frame} {meth : Method} {c : Code} {Q : State → Prop} {D : va_G} {ad : Nat → Nat} {cA : Nat → ClassId} {cc : ByteArray} {nL : Nat} {S : St} {pc : Nat} {lv : List (Nat × Value)} {st : List Value} {ρ : Type} {res : ρ} (C : Ok p s m args c D cA (xW ad cA) (xA ad) (xS ad) RX8 cc nL) (hfr : rmX7_cellAt.frames + 1 ≤ R.frames) (hlo : 8 + (3 + 11) + rmX7_cellAt.locals ≤ R.locals) {N : Nat} {p1 : Int32} {p2 : Int32} {E : Int32 → St → Option ρ} (hm : bd (fX7_cellAt N p1 p2 S) E = some res) (hcat : (st.map fun v => v.category).sum ≤ 8) (hd : decode cc pc = .ok (.invokevirtual 125, 3)) (k : ∀ r S, E r S = some res → V p l e R s m args below meth c Q D (xW ad cA) (xA ad) nL S (pc + 3) lv (.int r :: st)) : V p l e R s m args below meth c Q D (xW ad cA) (xA ad) nL S pc lv (.int p2 :: .int p1 :: .ref (ad 3) :: st) := by
  obtain ⟨r, S1, h1, h2⟩ := bd_some hm
  exact v_callV C (gm (i := 604) (by decide +kernel) rfl : Cond.methodLink RX8 125 yX7_cellAt ∈ gw_tbl) infX7_cellAt (rm2 := rmX7_cellAt) ⟨rfl, rfl⟩ hfr hlo (mX7_cellAt C.2.2.2.2.2.2.1 h1) (As := [.int p1, .int p2]) (oX7 ad cA S) rfl rfl rfl rfl hcat hd (k r S1 h2)
def rmX8_cell : Room := { frames := 1, cells := 0, slots := 0, locals := 22 }
def fX8_cell_34 (N : Nat)  (s0 : Int32) (S : St) : Option (Int32 × St) := some (s0, S)
set_option maxRecDepth 20000 in
theorem vX8_cell_34 {p : Program} {l : Launch} {e : Env} {s : State} {m : MethodId} {args : Array Value} {below : List Frame} {meth : Method} {c : Code} {Q : State → Prop} {D : va_G} {ad : Nat → Nat} {cA : Nat → ClassId} (C : Ok p s m args c D cA (xW ad cA) (xA ad) (xS ad) RX8 cX8_cell 4) (hr : Rt meth (some .int)) {r : Int32 × St} (hQ : Q = MQ below (Qo D (xW ad cA) (xA ad) (some (.int r.1)) r.2) args s 0 0 (xA ad)) {N : Nat}  {s0 : Int32}  {S : St} (hm : fX8_cell_34 N  s0 S = some r) : V p l e rmX8_cell s m args below meth c Q D (xW ad cA) (xA ad) 4 S 34 [] [.int s0] := by
  unfold fX8_cell_34 at hm
  exact v_iret C hr hQ (pc := 34) hm dX8_cell_34
def fX8_cell (N : Nat) (p1 : Int32) (p2 : Int32) (S : St) : Option (Int32 × St) := bd (fX7_cellAt N p1 p2 S) fun r2 S2 => if 0 ≤ r2 then (ck r2 64 (fX8_cell_34 N (S2.2.2.1 3 (Int32.toNatClampNeg r2)) S2)) else (fX8_cell_34 N (-2) S2)
set_option maxRecDepth 20000 in
theorem vX8_cell {p : Program} {l : Launch} {e : Env} {s : State} {m : MethodId} {args : Array Value} {below : List Frame} {meth : Method} {c : Code} {Q : State → Prop} {D : va_G} {ad : Nat → Nat} {cA : Nat → ClassId} (C : Ok p s m args c D cA (xW ad cA) (xA ad) (xS ad) RX8 cX8_cell 4) (hr : Rt meth (some .int)) {r : Int32 × St} (hQ : Q = MQ below (Qo D (xW ad cA) (xA ad) (some (.int r.1)) r.2) args s 0 0 (xA ad)) {N : Nat} {p1 : Int32} {p2 : Int32} {S : St} (hm : fX8_cell N p1 p2 S = some r) : V p l e rmX8_cell s m args below meth c Q D (xW ad cA) (xA ad) 4 S 0 [(0, .ref (ad 0)), (1, .int p1), (2, .int p2)] [] := by
  unfold fX8_cell at hm
  refine v_aload_n C (pc := 0) 0 dX8_cell_0 rfl rfl ?_
  refine gX8_19 C (pc := 1) dX8_cell_1 ?_
  refine gX8_110 C (pc := 4) dX8_cell_4 ?_
  refine v_iload_n C (pc := 7) 1 dX8_cell_7 rfl rfl ?_
  refine v_iload_n C (pc := 8) 2 dX8_cell_8 rfl rfl ?_
  refine kX8_125 C (Nat.le_of_ble_eq_true rfl) (Nat.le_of_ble_eq_true rfl) (pc := 9) hm (Nat.le_of_ble_eq_true rfl) dX8_cell_9 (fun r2 S2 hm => ?_)
  refine v_istore_n C (pc := 12) [(3, .int r2), (0, .ref (ad 0)), (1, .int p1), (2, .int p2)] dX8_cell_12 rfl (by decide) rfl ?_
  refine v_iload_n C (pc := 13) 0 dX8_cell_13 rfl rfl ?_
  refine v_if_ge C (pc := 14) hm 22 dX8_cell_14 rfl (fun hm => ?_) (fun hm => ?_)
  · refine v_aload_n C (pc := 22) 1 dX8_cell_22 rfl rfl ?_
    refine gX8_19 C (pc := 23) dX8_cell_23 ?_
    refine gX8_110 C (pc := 26) dX8_cell_26 ?_
    refine gX8_128 C (pc := 29) dX8_cell_29 ?_
    refine v_iload_n C (pc := 32) 0 dX8_cell_32 rfl rfl ?_
    refine ldX7_kinds C (pc := 33) hm dX8_cell_33 (fun hm => ?_)
    exact v_sub [] rfl (vX8_cell_34 C hr hQ (N := N) hm)
  · refine v_bipush C (pc := 17) (-2) dX8_cell_17 rfl ?_
    refine v_goto C (pc := 19) 34 dX8_cell_19 rfl ?_
    exact v_sub [] rfl (vX8_cell_34 C hr hQ (N := N) hm)
theorem mX8_cell {l : Launch} {D : va_G} {ad : Nat → Nat} {cA : Nat → ClassId} (hD : ∀ S, va_D (xA ad) (xW ad cA S)) {N : Nat} {p1 : Int32} {p2 : Int32} {S : St} {r : Int32 × St} (hm : fX8_cell N p1 p2 S = some r) : Met l yX8_cell (wsm yX8_cell cX8_cell 4 (some .int)) rmX8_cell (va_Pc [.ref (ad 0), .int p1, .int p2] (Pre D cA (xW ad cA) (xS ad) S)) (Qo D (xW ad cA) (xA ad) (some (.int r.1)) r.2) 0 0 (xA ad) := met_of [.ref (ad 0), .int p1, .int p2] (by decide) (Nat.le_of_ble_eq_true rfl) hD (xS_mv ad) (xS_kp ad) (fun p e s m below meth c C hr => vX8_cell C hr rfl (N := N)  hm)
-- X8_blockAt
theorem kX8_142 {p : Program} {l : Launch} {e : Env} {R : Room} {s : State} {m : MethodId} {args : Array Value} {below : List Frame} {meth : Method} {c : Code} {Q : State → Prop} {D : va_G} {ad : Nat → Nat} {cA : Nat → ClassId} {cc : ByteArray} {nL : Nat} {S : St} {pc : Nat} {lv : List (Nat × Value)} {st : List Value} {ρ : Type} {res : ρ} (C : Ok p s m args c D cA (xW ad cA) (xA ad) (xS ad) RX8 cc nL) (hfr : rmX8_holds.frames + 1 ≤ R.frames) (hlo : 8 + (3 + 11) + rmX8_holds.locals ≤ R.locals) {N : Nat} {p1 : Int64} {p2 : Int32} {E : Bool → St → Option ρ} (hm : bd (fX8_holds N p1 p2 S) E = some res) (hcat : (st.map fun v => v.category).sum ≤ 8) (hd : decode cc pc = .ok (.invokestatic 142, 3)) (k : ∀ r S, E r S = some res → V p l e R s m args below meth c Q D (xW ad cA) (xA ad) nL S (pc + 3) lv (.int (b2i r) :: st)) : V p l e R s m args below meth c Q D (xW ad cA) (xA ad) nL S pc lv (.int p2 :: .long p1 :: st) := by
  obtain ⟨r, S1, h1, h2⟩ := bd_some hm
  exact v_callS C (gm (i := 609) (by decide +kernel) rfl : Cond.methodLink RX8 142 yX8_holds ∈ gw_tbl) infX8_holds (rm2 := rmX8_holds) ⟨rfl, rfl⟩ hfr hlo (mX8_holds C.2.2.2.2.2.2.1 h1) (As := [.long p1, .int p2]) rfl rfl hcat hd (k r S1 h2)
def rmX8_blockAt : Room := { frames := 2, cells := 0, slots := 0, locals := 46 }
def fX8_blockAt_37b (N : Nat)  (k37 : Int32 → Int32 → St → Option (Int32 × St)) (x3 : Int32) (x4 : Int32) (S : St) : Option (Int32 × St) := if 5 ≤ x4 then (some ((-7), S)) else (ck x4 5 (bd (fX8_holds N (S.2.2.2 9 (Int32.toNatClampNeg x4)) x3 S) fun r6 S6 => if (b2i r6) = 0 then (k37 x3 (x4 + 1) S6) else (some (x4, S6))))
def fX8_blockAt_37 (N : Nat)  : Nat → Int32 → Int32 → St → Option (Int32 × St)
  | 0 => fun _ _ _ => none
  | n + 1 => fun x3 x4 S => fX8_blockAt_37b N  (fX8_blockAt_37 N  n) x3 x4 S
set_option maxRecDepth 20000 in
theorem vX8_blockAt_37b {p : Program} {l : Launch} {e : Env} {s : State} {m : MethodId} {args : Array Value} {below : List Frame} {meth : Method} {c : Code} {Q : State → Prop} {D : va_G} {ad : Nat → Nat} {cA : Nat → ClassId} (C : Ok p s m args c D cA (xW ad cA) (xA ad) (xS ad) RX8 cX8_blockAt 5) (hr : Rt meth (some .int)) {r : Int32 × St} (hQ : Q = MQ below (Qo D (xW ad cA) (xA ad) (some (.int r.1)) r.2) args s 0 0 (xA ad)) {N : Nat}  {k37 : Int32 → Int32 → St → Option (Int32 × St)} (hk37 : ∀ (x3 : Int32) (x4 : Int32) (S : St), k37 x3 x4 S = some r → V p l e rmX8_blockAt s m args below meth c Q D (xW ad cA) (xA ad) 5 S 37 [(0, .ref (ad 0)), (3, .int x3), (4, .int x4)] []) {x3 : Int32} {x4 : Int32}  {S : St} (hm : fX8_blockAt_37b N  k37 x3 x4 S = some r) : V p l e rmX8_blockAt s m args below meth c Q D (xW ad cA) (xA ad) 5 S 37 [(0, .ref (ad 0)), (3, .int x3), (4, .int x4)] [] := by
  unfold fX8_blockAt_37b at hm
  refine v_iload C (pc := 37) 2 dX8_blockAt_37 rfl ?_
  refine v_iconst C (pc := 39) 5 dX8_blockAt_39 rfl ?_
  refine v_icmp_ge C (pc := 40) hm 69 dX8_blockAt_40 rfl (fun hm => ?_) (fun hm => ?_)
  · refine v_bipush C (pc := 69) (-7) dX8_blockAt_69 rfl ?_
    exact v_iret C hr hQ (pc := 71) hm dX8_blockAt_71
  · refine v_aload_n C (pc := 43) 0 dX8_blockAt_43 rfl rfl ?_
    refine gX8_37 C (pc := 44) dX8_blockAt_44 ?_
    refine gX8_139 C (i := 0) (by decide) (pc := 47) dX8_blockAt_47 ?_
    refine v_iload C (pc := 50) 2 dX8_blockAt_50 rfl ?_
    refine ldX4_masks C (i := 0) (by decide) (pc := 52) hm dX8_blockAt_52 (fun hm => ?_)
    refine v_iload_n C (pc := 53) 1 dX8_blockAt_53 rfl rfl ?_
    refine kX8_142 C (Nat.le_of_ble_eq_true rfl) (Nat.le_of_ble_eq_true rfl) (pc := 54) hm (Nat.le_of_ble_eq_true rfl) dX8_blockAt_54 (fun r6 S6 hm => ?_)
    refine v_if_eq C (pc := 57) hm 63 dX8_blockAt_57 rfl (fun hm => ?_) (fun hm => ?_)
    · refine v_iinc C (pc := 63) 1 2 [(4, .int (x4 + 1)), (0, .ref (ad 0)), (3, .int x3)] dX8_blockAt_63 rfl rfl (by decide) rfl ?_
      refine v_goto C (pc := 66) 37 dX8_blockAt_66 rfl ?_
      exact v_sub [1, 2, 0] rfl (hk37 _ _ _ hm)
    · refine v_iload C (pc := 60) 2 dX8_blockAt_60 rfl ?_
      exact v_iret C hr hQ (pc := 62) hm dX8_blockAt_62
theorem vX8_blockAt_37 {p : Program} {l : Launch} {e : Env} {s : State} {m : MethodId} {args : Array Value} {below : List Frame} {meth : Method} {c : Code} {Q : State → Prop} {D : va_G} {ad : Nat → Nat} {cA : Nat → ClassId} (C : Ok p s m args c D cA (xW ad cA) (xA ad) (xS ad) RX8 cX8_blockAt 5) (hr : Rt meth (some .int)) {r : Int32 × St} (hQ : Q = MQ below (Qo D (xW ad cA) (xA ad) (some (.int r.1)) r.2) args s 0 0 (xA ad)) {N : Nat}  (n : Nat) : ∀ (x3 : Int32) (x4 : Int32) (S : St), fX8_blockAt_37 N  n x3 x4 S = some r → V p l e rmX8_blockAt s m args below meth c Q D (xW ad cA) (xA ad) 5 S 37 [(0, .ref (ad 0)), (3, .int x3), (4, .int x4)] [] := by
  induction n with
  | zero => intro _ _ _  hm; exact absurd hm (by intro h; cases h)
  | succ n ih => intro _ _ _  hm; exact vX8_blockAt_37b C hr hQ (N := N)   ih  hm
def fX8_blockAt (N : Nat) (p1 : Int32) (p2 : Int32) (S : St) : Option (Int32 × St) := bd (fX7_cellAt N p1 p2 S) fun r7 S7 => if 0 ≤ r7 then (bd (fX1_present N  S7) fun r8 S8 => bd (fX4_stand N 0 r8 S8) fun r9 S9 => fX8_blockAt_37 N N r7 0 S9) else (some ((-2), S7))
set_option maxRecDepth 20000 in
theorem vX8_blockAt {p : Program} {l : Launch} {e : Env} {s : State} {m : MethodId} {args : Array Value} {below : List Frame} {meth : Method} {c : Code} {Q : State → Prop} {D : va_G} {ad : Nat → Nat} {cA : Nat → ClassId} (C : Ok p s m args c D cA (xW ad cA) (xA ad) (xS ad) RX8 cX8_blockAt 5) (hr : Rt meth (some .int)) {r : Int32 × St} (hQ : Q = MQ below (Qo D (xW ad cA) (xA ad) (some (.int r.1)) r.2) args s 0 0 (xA ad)) {N : Nat} {p1 : Int32} {p2 : Int32} {S : St} (hm : fX8_blockAt N p1 p2 S = some r) : V p l e rmX8_blockAt s m args below meth c Q D (xW ad cA) (xA ad) 5 S 0 [(0, .ref (ad 0)), (1, .int p1), (2, .int p2)] [] := by
  unfold fX8_blockAt at hm
  refine v_aload_n C (pc := 0) 0 dX8_blockAt_0 rfl rfl ?_
  refine gX8_19 C (pc := 1) dX8_blockAt_1 ?_
  refine gX8_110 C (pc := 4) dX8_blockAt_4 ?_
  refine v_iload_n C (pc := 7) 1 dX8_blockAt_7 rfl rfl ?_
  refine v_iload_n C (pc := 8) 2 dX8_blockAt_8 rfl rfl ?_
  refine kX8_125 C (Nat.le_of_ble_eq_true rfl) (Nat.le_of_ble_eq_true rfl) (pc := 9) hm (Nat.le_of_ble_eq_true rfl) dX8_blockAt_9 (fun r7 S7 hm => ?_)
  refine v_istore_n C (pc := 12) [(3, .int r7), (0, .ref (ad 0)), (1, .int p1), (2, .int p2)] dX8_blockAt_12 rfl (by decide) rfl ?_
  refine v_iload_n C (pc := 13) 0 dX8_blockAt_13 rfl rfl ?_
  refine v_if_ge C (pc := 14) hm 20 dX8_blockAt_14 rfl (fun hm => ?_) (fun hm => ?_)
  · refine v_aload_n C (pc := 20) 1 dX8_blockAt_20 rfl rfl ?_
    refine gX8_37 C (pc := 21) dX8_blockAt_21 ?_
    refine v_aload_n C (pc := 24) 1 dX8_blockAt_24 rfl rfl ?_
    refine gX8_44 C (pc := 25) dX8_blockAt_25 ?_
    refine kX8_132 C (Nat.le_of_ble_eq_true rfl) (Nat.le_of_ble_eq_true rfl) (pc := 28) hm (Nat.le_of_ble_eq_true rfl) dX8_blockAt_28 (fun r8 S8 hm => ?_)
    refine kX8_136 C (Nat.le_of_ble_eq_true rfl) (Nat.le_of_ble_eq_true rfl) (i := 0) (by decide) (pc := 31) hm (Nat.le_of_ble_eq_true rfl) dX8_blockAt_31 (fun r9 S9 hm => ?_)
    refine v_iconst C (pc := 34) 0 dX8_blockAt_34 rfl ?_
    refine v_istore C (pc := 35) [(4, .int 0), (3, .int r7), (0, .ref (ad 0)), (1, .int p1), (2, .int p2)] dX8_blockAt_35 (by decide) rfl ?_
    exact v_sub [2, 1, 0] rfl (vX8_blockAt_37 C hr hQ (N := N) N _ _ _ hm)
  · refine v_bipush C (pc := 17) (-2) dX8_blockAt_17 rfl ?_
    exact v_iret C hr hQ (pc := 19) hm dX8_blockAt_19
theorem mX8_blockAt {l : Launch} {D : va_G} {ad : Nat → Nat} {cA : Nat → ClassId} (hD : ∀ S, va_D (xA ad) (xW ad cA S)) {N : Nat} {p1 : Int32} {p2 : Int32} {S : St} {r : Int32 × St} (hm : fX8_blockAt N p1 p2 S = some r) : Met l yX8_blockAt (wsm yX8_blockAt cX8_blockAt 5 (some .int)) rmX8_blockAt (va_Pc [.ref (ad 0), .int p1, .int p2] (Pre D cA (xW ad cA) (xS ad) S)) (Qo D (xW ad cA) (xA ad) (some (.int r.1)) r.2) 0 0 (xA ad) := met_of [.ref (ad 0), .int p1, .int p2] (by decide) (Nat.le_of_ble_eq_true rfl) hD (xS_mv ad) (xS_kp ad) (fun p e s m below meth c C hr => vX8_blockAt C hr rfl (N := N)  hm)
-- X8_block
theorem kX8_160 {p : Program} {l : Launch} {e : Env} {R : Room} {s : State} {m : MethodId} {args : Array Value} {below : List Frame} {meth : Method} {c : Code} {Q : State → Prop} {D : va_G} {ad : Nat → Nat} {cA : Nat → ClassId} {cc : ByteArray} {nL : Nat} {S : St} {pc : Nat} {lv : List (Nat × Value)} {st : List Value} {ρ : Type} {res : ρ} (C : Ok p s m args c D cA (xW ad cA) (xA ad) (xS ad) RX8 cc nL) (hfr : rmX8_placementIn.frames + 1 ≤ R.frames) (hlo : 8 + (3 + 11) + rmX8_placementIn.locals ≤ R.locals) {N : Nat} {p1 : Int64} {p2 : Int32} {E : Int32 → St → Option ρ} (hm : bd (fX8_placementIn N p1 p2 S) E = some res) (hcat : (st.map fun v => v.category).sum ≤ 8) (hd : decode cc pc = .ok (.invokestatic 160, 3)) (k : ∀ r S, E r S = some res → V p l e R s m args below meth c Q D (xW ad cA) (xA ad) nL S (pc + 3) lv (.int r :: st)) : V p l e R s m args below meth c Q D (xW ad cA) (xA ad) nL S pc lv (.int p2 :: .long p1 :: st) := by
  obtain ⟨r, S1, h1, h2⟩ := bd_some hm
  exact v_callS C (gm (i := 622) (by decide +kernel) rfl : Cond.methodLink RX8 160 yX8_placementIn ∈ gw_tbl) infX8_placementIn (rm2 := rmX8_placementIn) ⟨rfl, rfl⟩ hfr hlo (mX8_placementIn C.2.2.2.2.2.2.1 h1) (As := [.long p1, .int p2]) rfl rfl hcat hd (k r S1 h2)
theorem kX8_164 {p : Program} {l : Launch} {e : Env} {R : Room} {s : State} {m : MethodId} {args : Array Value} {below : List Frame} {meth : Method} {c : Code} {Q : State → Prop} {D : va_G} {ad : Nat → Nat} {cA : Nat → ClassId} {cc : ByteArray} {nL : Nat} {S : St} {pc : Nat} {lv : List (Nat × Value)} {st : List Value} {ρ : Type} {res : ρ} (C : Ok p s m args c D cA (xW ad cA) (xA ad) (xS ad) RX8 cc nL) (hfr : rmX8_columnOf.frames + 1 ≤ R.frames) (hlo : 8 + (1 + 11) + rmX8_columnOf.locals ≤ R.locals) {N : Nat} {p1 : Int32} {E : Int32 → St → Option ρ} (hm : bd (fX8_columnOf N p1 S) E = some res) (hcat : (st.map fun v => v.category).sum ≤ 8) (hd : decode cc pc = .ok (.invokestatic 164, 3)) (k : ∀ r S, E r S = some res → V p l e R s m args below meth c Q D (xW ad cA) (xA ad) nL S (pc + 3) lv (.int r :: st)) : V p l e R s m args below meth c Q D (xW ad cA) (xA ad) nL S pc lv (.int p1 :: st) := by
  obtain ⟨r, S1, h1, h2⟩ := bd_some hm
  exact v_callS C (gm (i := 623) (by decide +kernel) rfl : Cond.methodLink RX8 164 yX8_columnOf ∈ gw_tbl) infX8_columnOf (rm2 := rmX8_columnOf) ⟨rfl, rfl⟩ hfr hlo (mX8_columnOf C.2.2.2.2.2.2.1 h1) (As := [.int p1]) rfl rfl hcat hd (k r S1 h2)
theorem kX8_167 {p : Program} {l : Launch} {e : Env} {R : Room} {s : State} {m : MethodId} {args : Array Value} {below : List Frame} {meth : Method} {c : Code} {Q : State → Prop} {D : va_G} {ad : Nat → Nat} {cA : Nat → ClassId} {cc : ByteArray} {nL : Nat} {S : St} {pc : Nat} {lv : List (Nat × Value)} {st : List Value} {ρ : Type} {res : ρ} (C : Ok p s m args c D cA (xW ad cA) (xA ad) (xS ad) RX8 cc nL) (hfr : rmX8_rowOf.frames + 1 ≤ R.frames) (hlo : 8 + (1 + 11) + rmX8_rowOf.locals ≤ R.locals) {N : Nat} {p1 : Int32} {E : Int32 → St → Option ρ} (hm : bd (fX8_rowOf N p1 S) E = some res) (hcat : (st.map fun v => v.category).sum ≤ 8) (hd : decode cc pc = .ok (.invokestatic 167, 3)) (k : ∀ r S, E r S = some res → V p l e R s m args below meth c Q D (xW ad cA) (xA ad) nL S (pc + 3) lv (.int r :: st)) : V p l e R s m args below meth c Q D (xW ad cA) (xA ad) nL S pc lv (.int p1 :: st) := by
  obtain ⟨r, S1, h1, h2⟩ := bd_some hm
  exact v_callS C (gm (i := 624) (by decide +kernel) rfl : Cond.methodLink RX8 167 yX8_rowOf ∈ gw_tbl) infX8_rowOf (rm2 := rmX8_rowOf) ⟨rfl, rfl⟩ hfr hlo (mX8_rowOf C.2.2.2.2.2.2.1 h1) (As := [.int p1]) rfl rfl hcat hd (k r S1 h2)
theorem kX8_170 {p : Program} {l : Launch} {e : Env} {R : Room} {s : State} {m : MethodId} {args : Array Value} {below : List Frame} {meth : Method} {c : Code} {Q : State → Prop} {D : va_G} {ad : Nat → Nat} {cA : Nat → ClassId} {cc : ByteArray} {nL : Nat} {S : St} {pc : Nat} {lv : List (Nat × Value)} {st : List Value} {ρ : Type} {res : ρ} (C : Ok p s m args c D cA (xW ad cA) (xA ad) (xS ad) RX8 cc nL) (hfr : rmX8_orientationOf.frames + 1 ≤ R.frames) (hlo : 8 + (1 + 11) + rmX8_orientationOf.locals ≤ R.locals) {N : Nat} {p1 : Int32} {E : Int32 → St → Option ρ} (hm : bd (fX8_orientationOf N p1 S) E = some res) (hcat : (st.map fun v => v.category).sum ≤ 8) (hd : decode cc pc = .ok (.invokestatic 170, 3)) (k : ∀ r S, E r S = some res → V p l e R s m args below meth c Q D (xW ad cA) (xA ad) nL S (pc + 3) lv (.int r :: st)) : V p l e R s m args below meth c Q D (xW ad cA) (xA ad) nL S pc lv (.int p1 :: st) := by
  obtain ⟨r, S1, h1, h2⟩ := bd_some hm
  exact v_callS C (gm (i := 625) (by decide +kernel) rfl : Cond.methodLink RX8 170 yX8_orientationOf ∈ gw_tbl) infX8_orientationOf (rm2 := rmX8_orientationOf) ⟨rfl, rfl⟩ hfr hlo (mX8_orientationOf C.2.2.2.2.2.2.1 h1) (As := [.int p1]) rfl rfl hcat hd (k r S1 h2)
theorem infX0_goalProperty : InfV yX0_goalProperty cX0_goalProperty 2 (some .int) 1 := ⟨⟨gm (i := 59) (by decide +kernel) rfl, gm (i := 617) (by decide +kernel) rfl, by decide +kernel⟩, gm (i := 615) (by decide +kernel) rfl, gm (i := 616) (by decide +kernel) rfl⟩
theorem kX8_154 {p : Program} {l : Launch} {e : Env} {R : Room} {s : State} {m : MethodId} {args : Array Value} {below : List Frame} {meth : Method} {c : Code} {Q : State → Prop} {D : va_G} {ad : Nat → Nat} {cA : Nat → ClassId} {cc : ByteArray} {nL : Nat} {S : St} {pc : Nat} {lv : List (Nat × Value)} {st : List Value} {ρ : Type} {res : ρ} (C : Ok p s m args c D cA (xW ad cA) (xA ad) (xS ad) RX8 cc nL) (hfr : rmX0_goalProperty.frames + 1 ≤ R.frames) (hlo : 8 + (2 + 11) + rmX0_goalProperty.locals ≤ R.locals) {i : Nat} (hi : i < 5) {N : Nat} {p1 : Int32} {E : Int32 → St → Option ρ} (hm : bd (fX0_goalProperty N i p1 S) E = some res) (hcat : (st.map fun v => v.category).sum ≤ 8) (hd : decode cc pc = .ok (.invokevirtual 154, 3)) (k : ∀ r S, E r S = some res → V p l e R s m args below meth c Q D (xW ad cA) (xA ad) nL S (pc + 3) lv (.int r :: st)) : V p l e R s m args below meth c Q D (xW ad cA) (xA ad) nL S pc lv (.int p1 :: .ref (ad (4 + i)) :: st) := by
  obtain ⟨r, S1, h1, h2⟩ := bd_some hm
  exact v_callV C (gm (i := 614) (by decide +kernel) rfl : Cond.methodLink RX8 154 yX0_goalProperty ∈ gw_tbl) infX0_goalProperty (rm2 := rmX0_goalProperty) ⟨rfl, rfl⟩ hfr hlo (mX0_goalProperty C.2.2.2.2.2.2.1 hi h1) (As := [.int p1]) (oX0 ad cA i hi S) rfl rfl rfl rfl hcat hd (k r S1 h2)
def rmX8_block : Room := { frames := 2, cells := 0, slots := 0, locals := 41 }
def fX8_block_23 (N : Nat)   (S : St) : Option (Int32 × St) := some ((-3), S)
set_option maxRecDepth 20000 in
theorem vX8_block_23 {p : Program} {l : Launch} {e : Env} {s : State} {m : MethodId} {args : Array Value} {below : List Frame} {meth : Method} {c : Code} {Q : State → Prop} {D : va_G} {ad : Nat → Nat} {cA : Nat → ClassId} (C : Ok p s m args c D cA (xW ad cA) (xA ad) (xS ad) RX8 cX8_block 5) (hr : Rt meth (some .int)) {r : Int32 × St} (hQ : Q = MQ below (Qo D (xW ad cA) (xA ad) (some (.int r.1)) r.2) args s 0 0 (xA ad)) {N : Nat}    {S : St} (hm : fX8_block_23 N   S = some r) : V p l e rmX8_block s m args below meth c Q D (xW ad cA) (xA ad) 5 S 23 [] [] := by
  unfold fX8_block_23 at hm
  refine v_bipush C (pc := 23) (-3) dX8_block_23 rfl ?_
  exact v_iret C hr hQ (pc := 25) hm dX8_block_25
def fX8_block (N : Nat) (p1 : Int32) (p2 : Int32) (S : St) : Option (Int32 × St) := bd (fX2_has N p1 S) fun r9 S8 => if (b2i r9) = 0 then (some ((-1), S8)) else (if p2 < 0 then (fX8_block_23 N S8) else (if p2 ≤ 7 then (ck p1 5 (if p2 < 5 then (bd (fX1_present N  S8) fun r11 S9 => bd (fX8_placementIn N r11 p1 S9) fun r12 S10 => if p2 = 0 then (bd (fX8_columnOf N r12 S10) fun r13 S11 => some (r13, S11)) else if p2 = 1 then (bd (fX8_rowOf N r12 S10) fun r14 S12 => some (r14, S12)) else if p2 = 2 then (bd (fX8_orientationOf N r12 S10) fun r15 S13 => some (r15, S13)) else if p2 = 3 then (some ((S10.1 (10 + (Int32.toNatClampNeg p1))), S10)) else (some ((S10.1 (5 + (Int32.toNatClampNeg p1))), S10))) else (bd (fX0_goalProperty N (Int32.toNatClampNeg p1) (p2 - 5) S8) fun r16 S14 => some (r16, S14)))) else (fX8_block_23 N S8)))
set_option maxRecDepth 20000 in
theorem vX8_block {p : Program} {l : Launch} {e : Env} {s : State} {m : MethodId} {args : Array Value} {below : List Frame} {meth : Method} {c : Code} {Q : State → Prop} {D : va_G} {ad : Nat → Nat} {cA : Nat → ClassId} (C : Ok p s m args c D cA (xW ad cA) (xA ad) (xS ad) RX8 cX8_block 5) (hr : Rt meth (some .int)) {r : Int32 × St} (hQ : Q = MQ below (Qo D (xW ad cA) (xA ad) (some (.int r.1)) r.2) args s 0 0 (xA ad)) {N : Nat} {p1 : Int32} {p2 : Int32} {S : St} (hm : fX8_block N p1 p2 S = some r) : V p l e rmX8_block s m args below meth c Q D (xW ad cA) (xA ad) 5 S 0 [(0, .ref (ad 0)), (1, .int p1), (2, .int p2)] [] := by
  unfold fX8_block at hm
  refine v_aload_n C (pc := 0) 0 dX8_block_0 rfl rfl ?_
  refine gX8_19 C (pc := 1) dX8_block_1 ?_
  refine v_iload_n C (pc := 4) 1 dX8_block_4 rfl rfl ?_
  refine kX8_146 C (Nat.le_of_ble_eq_true rfl) (Nat.le_of_ble_eq_true rfl) (pc := 5) hm (Nat.le_of_ble_eq_true rfl) dX8_block_5 (fun r9 S8 hm => ?_)
  refine v_if_ne C (pc := 8) hm 13 dX8_block_8 rfl (fun hm => ?_) (fun hm => ?_)
  · refine v_iload_n C (pc := 13) 2 dX8_block_13 rfl rfl ?_
    refine v_if_lt C (pc := 14) hm 23 dX8_block_14 rfl (fun hm => ?_) (fun hm => ?_)
    · exact v_sub [] rfl (vX8_block_23 C hr hQ (N := N) hm)
    · refine v_iload_n C (pc := 17) 2 dX8_block_17 rfl rfl ?_
      refine v_bipush C (pc := 18) 7 dX8_block_18 rfl ?_
      refine v_icmp_le C (pc := 20) hm 26 dX8_block_20 rfl (fun hm => ?_) (fun hm => ?_)
      · refine v_aload_n C (pc := 26) 0 dX8_block_26 rfl rfl ?_
        refine gX8_19 C (pc := 27) dX8_block_27 ?_
        refine gX8_150 C (pc := 30) dX8_block_30 ?_
        refine v_iload_n C (pc := 33) 1 dX8_block_33 rfl rfl ?_
        refine ldX2_blocks C (pc := 34) hm dX8_block_34 (fun hb10 hm => ?_)
        refine v_astore_n C (pc := 35) [(3, .ref (ad (4 + (Int32.toNatClampNeg p1)))), (0, .ref (ad 0)), (1, .int p1), (2, .int p2)] dX8_block_35 rfl (by decide) rfl ?_
        refine v_iload_n C (pc := 36) 3 dX8_block_36 rfl rfl ?_
        refine v_iconst C (pc := 37) 5 dX8_block_37 rfl ?_
        refine v_icmp_lt C (pc := 38) hm 49 dX8_block_38 rfl (fun hm => ?_) (fun hm => ?_)
        · refine v_aload_n C (pc := 49) 1 dX8_block_49 rfl rfl ?_
          refine gX8_44 C (pc := 50) dX8_block_50 ?_
          refine kX8_132 C (Nat.le_of_ble_eq_true rfl) (Nat.le_of_ble_eq_true rfl) (pc := 53) hm (Nat.le_of_ble_eq_true rfl) dX8_block_53 (fun r11 S9 hm => ?_)
          refine v_iload_n C (pc := 56) 2 dX8_block_56 rfl rfl ?_
          refine kX8_160 C (Nat.le_of_ble_eq_true rfl) (Nat.le_of_ble_eq_true rfl) (pc := 57) hm (Nat.le_of_ble_eq_true rfl) dX8_block_57 (fun r12 S10 hm => ?_)
          refine v_istore C (pc := 60) [(4, .int r12), (3, .ref (ad (4 + (Int32.toNatClampNeg p1)))), (0, .ref (ad 0)), (1, .int p1), (2, .int p2)] dX8_block_60 (by decide) rfl ?_
          refine v_iload_n C (pc := 62) 4 dX8_block_62 rfl rfl ?_
          by_cases h0 : p2 = 0
          · rw [if_pos h0] at hm
            refine v_tsin C (pc := 63) 0 92 dX8_block_63 h0 (by decide) (by decide) rfl rfl ?_
            refine v_iload C (pc := 92) 0 dX8_block_92 rfl ?_
            refine kX8_164 C (Nat.le_of_ble_eq_true rfl) (Nat.le_of_ble_eq_true rfl) (pc := 94) hm (Nat.le_of_ble_eq_true rfl) dX8_block_94 (fun r13 S11 hm => ?_)
            exact v_iret C hr hQ (pc := 97) hm dX8_block_97
          rw [if_neg h0] at hm
          by_cases h1 : p2 = 1
          · rw [if_pos h1] at hm
            refine v_tsin C (pc := 63) 1 98 dX8_block_63 h1 (by decide) (by decide) rfl rfl ?_
            refine v_iload C (pc := 98) 0 dX8_block_98 rfl ?_
            refine kX8_167 C (Nat.le_of_ble_eq_true rfl) (Nat.le_of_ble_eq_true rfl) (pc := 100) hm (Nat.le_of_ble_eq_true rfl) dX8_block_100 (fun r14 S12 hm => ?_)
            exact v_iret C hr hQ (pc := 103) hm dX8_block_103
          rw [if_neg h1] at hm
          by_cases h2 : p2 = 2
          · rw [if_pos h2] at hm
            refine v_tsin C (pc := 63) 2 104 dX8_block_63 h2 (by decide) (by decide) rfl rfl ?_
            refine v_iload C (pc := 104) 0 dX8_block_104 rfl ?_
            refine kX8_170 C (Nat.le_of_ble_eq_true rfl) (Nat.le_of_ble_eq_true rfl) (pc := 106) hm (Nat.le_of_ble_eq_true rfl) dX8_block_106 (fun r15 S13 hm => ?_)
            exact v_iret C hr hQ (pc := 109) hm dX8_block_109
          rw [if_neg h2] at hm
          by_cases h3 : p2 = 3
          · rw [if_pos h3] at hm
            refine v_tsin C (pc := 63) 3 110 dX8_block_63 h3 (by decide) (by decide) rfl rfl ?_
            refine v_aload_n C (pc := 110) 1 dX8_block_110 rfl rfl ?_
            refine gX8_173 C hb10 (pc := 111) dX8_block_111 ?_
            exact v_iret C hr hQ (pc := 114) hm dX8_block_114
          rw [if_neg h3] at hm
          have hout : (p2).toInt < 0 ∨ 3 < (p2).toInt := by
            have hh0 := i32_ne h0
            have hh1 := i32_ne h1
            have hh2 := i32_ne h2
            have hh3 := i32_ne h3
            simp only [show (0 : Int32).toInt = 0 from rfl, show (1 : Int32).toInt = 1 from rfl, show (2 : Int32).toInt = 2 from rfl, show (3 : Int32).toInt = 3 from rfl] at hh0 hh1 hh2 hh3
            omega
          refine v_tsout C (pc := 63) 115 dX8_block_63 hout rfl ?_
          refine v_aload_n C (pc := 115) 1 dX8_block_115 rfl rfl ?_
          refine gX8_176 C hb10 (pc := 116) dX8_block_116 ?_
          exact v_iret C hr hQ (pc := 119) hm dX8_block_119
        · refine v_aload_n C (pc := 41) 0 dX8_block_41 rfl rfl ?_
          refine v_iload_n C (pc := 42) 3 dX8_block_42 rfl rfl ?_
          refine v_iconst C (pc := 43) 5 dX8_block_43 rfl ?_
          refine v_isub C (pc := 44) dX8_block_44 ?_
          refine kX8_154 C (Nat.le_of_ble_eq_true rfl) (Nat.le_of_ble_eq_true rfl) hb10 (pc := 45) hm (Nat.le_of_ble_eq_true rfl) dX8_block_45 (fun r16 S14 hm => ?_)
          exact v_iret C hr hQ (pc := 48) hm dX8_block_48
      · exact v_sub [] rfl (vX8_block_23 C hr hQ (N := N) hm)
  · refine v_iconst C (pc := 11) (-1) dX8_block_11 rfl ?_
    exact v_iret C hr hQ (pc := 12) hm dX8_block_12
theorem mX8_block {l : Launch} {D : va_G} {ad : Nat → Nat} {cA : Nat → ClassId} (hD : ∀ S, va_D (xA ad) (xW ad cA S)) {N : Nat} {p1 : Int32} {p2 : Int32} {S : St} {r : Int32 × St} (hm : fX8_block N p1 p2 S = some r) : Met l yX8_block (wsm yX8_block cX8_block 5 (some .int)) rmX8_block (va_Pc [.ref (ad 0), .int p1, .int p2] (Pre D cA (xW ad cA) (xS ad) S)) (Qo D (xW ad cA) (xA ad) (some (.int r.1)) r.2) 0 0 (xA ad) := met_of [.ref (ad 0), .int p1, .int p2] (by decide) (Nat.le_of_ble_eq_true rfl) hD (xS_mv ad) (xS_kp ad) (fun p e s m below meth c C hr => vX8_block C hr rfl (N := N)  hm)
-- X8_setWeight
def rmX8_setWeight : Room := { frames := 1, cells := 0, slots := 0, locals := 21 }
def fX8_setWeight_24 (N : Nat)   (S : St) : Option (Int32 × St) := some ((-3), S)
set_option maxRecDepth 20000 in
theorem vX8_setWeight_24 {p : Program} {l : Launch} {e : Env} {s : State} {m : MethodId} {args : Array Value} {below : List Frame} {meth : Method} {c : Code} {Q : State → Prop} {D : va_G} {ad : Nat → Nat} {cA : Nat → ClassId} (C : Ok p s m args c D cA (xW ad cA) (xA ad) (xS ad) RX8 cX8_setWeight 4) (hr : Rt meth (some .int)) {r : Int32 × St} (hQ : Q = MQ below (Qo D (xW ad cA) (xA ad) (some (.int r.1)) r.2) args s 0 0 (xA ad)) {N : Nat}    {S : St} (hm : fX8_setWeight_24 N   S = some r) : V p l e rmX8_setWeight s m args below meth c Q D (xW ad cA) (xA ad) 4 S 24 [] [] := by
  unfold fX8_setWeight_24 at hm
  refine v_bipush C (pc := 24) (-3) dX8_setWeight_24 rfl ?_
  exact v_iret C hr hQ (pc := 26) hm dX8_setWeight_26
def fX8_setWeight (N : Nat) (p1 : Int32) (p2 : Int32) (S : St) : Option (Int32 × St) := bd (fX2_has N p1 S) fun r6 S4 => if (b2i r6) = 0 then (some ((-1), S4)) else (if p2 < 1 then (fX8_setWeight_24 N S4) else (if p2 ≤ 9 then (ck p1 5 (nm (S4.1 (10 + (Int32.toNatClampNeg p1))) fun y8 => ck p1 5 (stp (sI S4 (10 + (Int32.toNatClampNeg p1)) p2) fun S5 => bd (fX5_forget N  S5) fun r10 S6 => some (y8, S6)))) else (fX8_setWeight_24 N S4)))
set_option maxRecDepth 20000 in
theorem vX8_setWeight {p : Program} {l : Launch} {e : Env} {s : State} {m : MethodId} {args : Array Value} {below : List Frame} {meth : Method} {c : Code} {Q : State → Prop} {D : va_G} {ad : Nat → Nat} {cA : Nat → ClassId} (C : Ok p s m args c D cA (xW ad cA) (xA ad) (xS ad) RX8 cX8_setWeight 4) (hr : Rt meth (some .int)) {r : Int32 × St} (hQ : Q = MQ below (Qo D (xW ad cA) (xA ad) (some (.int r.1)) r.2) args s 0 0 (xA ad)) {N : Nat} {p1 : Int32} {p2 : Int32} {S : St} (hm : fX8_setWeight N p1 p2 S = some r) : V p l e rmX8_setWeight s m args below meth c Q D (xW ad cA) (xA ad) 4 S 0 [(0, .ref (ad 0)), (1, .int p1), (2, .int p2)] [] := by
  unfold fX8_setWeight at hm
  refine v_aload_n C (pc := 0) 0 dX8_setWeight_0 rfl rfl ?_
  refine gX8_19 C (pc := 1) dX8_setWeight_1 ?_
  refine v_iload_n C (pc := 4) 1 dX8_setWeight_4 rfl rfl ?_
  refine kX8_146 C (Nat.le_of_ble_eq_true rfl) (Nat.le_of_ble_eq_true rfl) (pc := 5) hm (Nat.le_of_ble_eq_true rfl) dX8_setWeight_5 (fun r6 S4 hm => ?_)
  refine v_if_ne C (pc := 8) hm 13 dX8_setWeight_8 rfl (fun hm => ?_) (fun hm => ?_)
  · refine v_iload_n C (pc := 13) 2 dX8_setWeight_13 rfl rfl ?_
    refine v_iconst C (pc := 14) 1 dX8_setWeight_14 rfl ?_
    refine v_icmp_lt C (pc := 15) hm 24 dX8_setWeight_15 rfl (fun hm => ?_) (fun hm => ?_)
    · exact v_sub [] rfl (vX8_setWeight_24 C hr hQ (N := N) hm)
    · refine v_iload_n C (pc := 18) 2 dX8_setWeight_18 rfl rfl ?_
      refine v_bipush C (pc := 19) 9 dX8_setWeight_19 rfl ?_
      refine v_icmp_le C (pc := 21) hm 27 dX8_setWeight_21 rfl (fun hm => ?_) (fun hm => ?_)
      · refine v_aload_n C (pc := 27) 0 dX8_setWeight_27 rfl rfl ?_
        refine gX8_19 C (pc := 28) dX8_setWeight_28 ?_
        refine gX8_150 C (pc := 31) dX8_setWeight_31 ?_
        refine v_iload_n C (pc := 34) 1 dX8_setWeight_34 rfl rfl ?_
        refine ldX2_blocks C (pc := 35) hm dX8_setWeight_35 (fun hb7 hm => ?_)
        refine gX8_173 C hb7 (pc := 36) dX8_setWeight_36 ?_
        refine v_istore_nN C (pc := 39) [(0, .ref (ad 0)), (1, .int p1), (2, .int p2)] hm dX8_setWeight_39 rfl (by decide) rfl (fun y8 hm => ?_)
        refine v_aload_n C (pc := 40) 1 dX8_setWeight_40 rfl rfl ?_
        refine gX8_19 C (pc := 41) dX8_setWeight_41 ?_
        refine gX8_150 C (pc := 44) dX8_setWeight_44 ?_
        refine v_iload_n C (pc := 47) 2 dX8_setWeight_47 rfl rfl ?_
        refine ldX2_blocks C (pc := 48) hm dX8_setWeight_48 (fun hb9 hm => ?_)
        refine v_iload_n C (pc := 49) 3 dX8_setWeight_49 rfl rfl ?_
        refine pX8_173 C hb9 (pc := 50) hm dX8_setWeight_50 (fun S5 hm => ?_)
        refine v_aload_n C (pc := 53) 1 dX8_setWeight_53 rfl rfl ?_
        refine gX8_51 C (pc := 54) dX8_setWeight_54 ?_
        refine kX8_82 C (Nat.le_of_ble_eq_true rfl) (Nat.le_of_ble_eq_true rfl) (pc := 57) hm (Nat.le_of_ble_eq_true rfl) dX8_setWeight_57 (fun r10 S6 hm => ?_)
        refine v_iload_n C (pc := 60) 0 dX8_setWeight_60 rfl rfl ?_
        exact v_iret C hr hQ (pc := 61) hm dX8_setWeight_61
      · exact v_sub [] rfl (vX8_setWeight_24 C hr hQ (N := N) hm)
  · refine v_iconst C (pc := 11) (-1) dX8_setWeight_11 rfl ?_
    exact v_iret C hr hQ (pc := 12) hm dX8_setWeight_12
theorem mX8_setWeight {l : Launch} {D : va_G} {ad : Nat → Nat} {cA : Nat → ClassId} (hD : ∀ S, va_D (xA ad) (xW ad cA S)) {N : Nat} {p1 : Int32} {p2 : Int32} {S : St} {r : Int32 × St} (hm : fX8_setWeight N p1 p2 S = some r) : Met l yX8_setWeight (wsm yX8_setWeight cX8_setWeight 4 (some .int)) rmX8_setWeight (va_Pc [.ref (ad 0), .int p1, .int p2] (Pre D cA (xW ad cA) (xS ad) S)) (Qo D (xW ad cA) (xA ad) (some (.int r.1)) r.2) 0 0 (xA ad) := met_of [.ref (ad 0), .int p1, .int p2] (by decide) (Nat.le_of_ble_eq_true rfl) hD (xS_mv ad) (xS_kp ad) (fun p e s m below meth c C hr => vX8_setWeight C hr rfl (N := N)  hm)
-- X8_setGoal
theorem infX0_aimAt : InfV yX0_aimAt cX0_aimAt 3 none 2 := ⟨⟨gm (i := 59) (by decide +kernel) rfl, gm (i := 637) (by decide +kernel) rfl, by decide +kernel⟩, gm (i := 635) (by decide +kernel) rfl, gm (i := 636) (by decide +kernel) rfl⟩
theorem kX8_185 {p : Program} {l : Launch} {e : Env} {R : Room} {s : State} {m : MethodId} {args : Array Value} {below : List Frame} {meth : Method} {c : Code} {Q : State → Prop} {D : va_G} {ad : Nat → Nat} {cA : Nat → ClassId} {cc : ByteArray} {nL : Nat} {S : St} {pc : Nat} {lv : List (Nat × Value)} {st : List Value} {ρ : Type} {res : ρ} (C : Ok p s m args c D cA (xW ad cA) (xA ad) (xS ad) RX8 cc nL) (hfr : rmX0_aimAt.frames + 1 ≤ R.frames) (hlo : 8 + (3 + 11) + rmX0_aimAt.locals ≤ R.locals) {i : Nat} (hi : i < 5) {N : Nat} {p1 : Int32} {p2 : Int32} {E : Unit → St → Option ρ} (hm : bd (fX0_aimAt N i p1 p2 S) E = some res) (hcat : (st.map fun v => v.category).sum ≤ 8) (hd : decode cc pc = .ok (.invokevirtual 185, 3)) (k : ∀ r S, E r S = some res → V p l e R s m args below meth c Q D (xW ad cA) (xA ad) nL S (pc + 3) lv (st)) : V p l e R s m args below meth c Q D (xW ad cA) (xA ad) nL S pc lv (.int p2 :: .int p1 :: .ref (ad (4 + i)) :: st) := by
  obtain ⟨r, S1, h1, h2⟩ := bd_some hm
  exact v_callV C (gm (i := 634) (by decide +kernel) rfl : Cond.methodLink RX8 185 yX0_aimAt ∈ gw_tbl) infX0_aimAt (rm2 := rmX0_aimAt) ⟨rfl, rfl⟩ hfr hlo (mX0_aimAt C.2.2.2.2.2.2.1 hi h1) (As := [.int p1, .int p2]) (oX0 ad cA i hi S) rfl rfl rfl rfl hcat hd (k r S1 h2)
theorem infX0_measure : InfV yX0_measure cX0_measure 7 none 2 := ⟨⟨gm (i := 59) (by decide +kernel) rfl, gm (i := 641) (by decide +kernel) rfl, by decide +kernel⟩, gm (i := 639) (by decide +kernel) rfl, gm (i := 640) (by decide +kernel) rfl⟩
theorem kX8_192 {p : Program} {l : Launch} {e : Env} {R : Room} {s : State} {m : MethodId} {args : Array Value} {below : List Frame} {meth : Method} {c : Code} {Q : State → Prop} {D : va_G} {ad : Nat → Nat} {cA : Nat → ClassId} {cc : ByteArray} {nL : Nat} {S : St} {pc : Nat} {lv : List (Nat × Value)} {st : List Value} {ρ : Type} {res : ρ} (C : Ok p s m args c D cA (xW ad cA) (xA ad) (xS ad) RX8 cc nL) (hfr : rmX0_measure.frames + 1 ≤ R.frames) (hlo : 8 + (7 + 11) + rmX0_measure.locals ≤ R.locals) {i : Nat} (hi : i < 5) {N : Nat}  {E : Unit → St → Option ρ} (hm : bd (fX0_measure N i S) E = some res) (hcat : (st.map fun v => v.category).sum ≤ 8) (hd : decode cc pc = .ok (.invokevirtual 192, 3)) (k : ∀ r S, E r S = some res → V p l e R s m args below meth c Q D (xW ad cA) (xA ad) nL S (pc + 3) lv (st)) : V p l e R s m args below meth c Q D (xW ad cA) (xA ad) nL S pc lv (.ref (ad 18) :: .ref (ad 3) :: .ref (ad (4 + i)) :: st) := by
  obtain ⟨r, S1, h1, h2⟩ := bd_some hm
  exact v_callV C (gm (i := 638) (by decide +kernel) rfl : Cond.methodLink RX8 192 yX0_measure ∈ gw_tbl) infX0_measure (rm2 := rmX0_measure) ⟨rfl, rfl⟩ hfr hlo (mX0_measure C.2.2.2.2.2.2.1 hi h1) (As := [.ref (ad 3), .ref (ad 18)]) (oX0 ad cA i hi S) rfl rfl rfl rfl hcat hd (k r S1 h2)
def rmX8_setGoal : Room := { frames := 5, cells := 0, slots := 0, locals := 135 }
def fX8_setGoal_46 (N : Nat)   (S : St) : Option (Int32 × St) := some ((-3), S)
set_option maxRecDepth 20000 in
theorem vX8_setGoal_46 {p : Program} {l : Launch} {e : Env} {s : State} {m : MethodId} {args : Array Value} {below : List Frame} {meth : Method} {c : Code} {Q : State → Prop} {D : va_G} {ad : Nat → Nat} {cA : Nat → ClassId} (C : Ok p s m args c D cA (xW ad cA) (xA ad) (xS ad) RX8 cX8_setGoal 7) (hr : Rt meth (some .int)) {r : Int32 × St} (hQ : Q = MQ below (Qo D (xW ad cA) (xA ad) (some (.int r.1)) r.2) args s 0 0 (xA ad)) {N : Nat}    {S : St} (hm : fX8_setGoal_46 N   S = some r) : V p l e rmX8_setGoal s m args below meth c Q D (xW ad cA) (xA ad) 7 S 46 [] [] := by
  unfold fX8_setGoal_46 at hm
  refine v_bipush C (pc := 46) (-3) dX8_setGoal_46 rfl ?_
  exact v_iret C hr hQ (pc := 48) hm dX8_setGoal_48
def fX8_setGoal_82 (N : Nat)  (x4 : Int32) (x5 : Int32) (x6 : Nat) (S : St) : Option (Int32 × St) := bd (fX0_aimAt N x6 x5 x4 S) fun r7 S6 => bd (fX0_measure N x6 S6) fun r8 S7 => bd (fX5_forget N  S7) fun r9 S8 => some (1, S8)
set_option maxRecDepth 20000 in
theorem vX8_setGoal_82 {p : Program} {l : Launch} {e : Env} {s : State} {m : MethodId} {args : Array Value} {below : List Frame} {meth : Method} {c : Code} {Q : State → Prop} {D : va_G} {ad : Nat → Nat} {cA : Nat → ClassId} (C : Ok p s m args c D cA (xW ad cA) (xA ad) (xS ad) RX8 cX8_setGoal 7) (hr : Rt meth (some .int)) {r : Int32 × St} (hQ : Q = MQ below (Qo D (xW ad cA) (xA ad) (some (.int r.1)) r.2) args s 0 0 (xA ad)) {N : Nat}  {x4 : Int32} {x5 : Int32} {x6 : Nat} (hx6 : x6 < 5) {S : St} (hm : fX8_setGoal_82 N  x4 x5 x6 S = some r) : V p l e rmX8_setGoal s m args below meth c Q D (xW ad cA) (xA ad) 7 S 82 [(0, .ref (ad 0)), (4, .int x4), (5, .int x5), (6, .ref (ad (4 + x6)))] [] := by
  unfold fX8_setGoal_82 at hm
  refine v_aload C (pc := 82) 3 dX8_setGoal_82 rfl ?_
  refine v_iload C (pc := 84) 2 dX8_setGoal_84 rfl ?_
  refine v_iload C (pc := 86) 1 dX8_setGoal_86 rfl ?_
  refine kX8_185 C (Nat.le_of_ble_eq_true rfl) (Nat.le_of_ble_eq_true rfl) hx6 (pc := 88) hm (Nat.le_of_ble_eq_true rfl) dX8_setGoal_88 (fun r7 S6 hm => ?_)
  refine v_aload C (pc := 91) 3 dX8_setGoal_91 rfl ?_
  refine v_aload_n C (pc := 93) 0 dX8_setGoal_93 rfl rfl ?_
  refine gX8_19 C (pc := 94) dX8_setGoal_94 ?_
  refine gX8_110 C (pc := 97) dX8_setGoal_97 ?_
  refine v_aload_n C (pc := 100) 0 dX8_setGoal_100 rfl rfl ?_
  refine gX8_19 C (pc := 101) dX8_setGoal_101 ?_
  refine gX8_189 C (pc := 104) dX8_setGoal_104 ?_
  refine kX8_192 C (Nat.le_of_ble_eq_true rfl) (Nat.le_of_ble_eq_true rfl) hx6 (pc := 107) hm (Nat.le_of_ble_eq_true rfl) dX8_setGoal_107 (fun r8 S7 hm => ?_)
  refine v_aload_n C (pc := 110) 0 dX8_setGoal_110 rfl rfl ?_
  refine gX8_51 C (pc := 111) dX8_setGoal_111 ?_
  refine kX8_82 C (Nat.le_of_ble_eq_true rfl) (Nat.le_of_ble_eq_true rfl) (pc := 114) hm (Nat.le_of_ble_eq_true rfl) dX8_setGoal_114 (fun r9 S8 hm => ?_)
  refine v_iconst C (pc := 117) 1 dX8_setGoal_117 rfl ?_
  exact v_iret C hr hQ (pc := 118) hm dX8_setGoal_118
def fX8_setGoal (N : Nat) (p1 : Int32) (p2 : Int32) (p3 : Int32) (p4 : Int32) (S : St) : Option (Int32 × St) := bd (fX2_has N p1 S) fun r10 S9 => if (b2i r10) = 0 then (some ((-1), S9)) else (bd (fX7_cellAt N p2 p3 S9) fun r11 S10 => if 0 ≤ r11 then (if p4 < 0 then (fX8_setGoal_46 N S10) else (if p4 ≤ 4 then (ck p1 5 (if (S10.1 (15 + (Int32.toNatClampNeg p1))) = r11 then (if (S10.1 (20 + (Int32.toNatClampNeg p1))) = p4 then (some (0, S10)) else (fX8_setGoal_82 N p4 r11 (Int32.toNatClampNeg p1) S10)) else (fX8_setGoal_82 N p4 r11 (Int32.toNatClampNeg p1) S10))) else (fX8_setGoal_46 N S10))) else (some ((-2), S10)))
set_option maxRecDepth 20000 in
theorem vX8_setGoal {p : Program} {l : Launch} {e : Env} {s : State} {m : MethodId} {args : Array Value} {below : List Frame} {meth : Method} {c : Code} {Q : State → Prop} {D : va_G} {ad : Nat → Nat} {cA : Nat → ClassId} (C : Ok p s m args c D cA (xW ad cA) (xA ad) (xS ad) RX8 cX8_setGoal 7) (hr : Rt meth (some .int)) {r : Int32 × St} (hQ : Q = MQ below (Qo D (xW ad cA) (xA ad) (some (.int r.1)) r.2) args s 0 0 (xA ad)) {N : Nat} {p1 : Int32} {p2 : Int32} {p3 : Int32} {p4 : Int32} {S : St} (hm : fX8_setGoal N p1 p2 p3 p4 S = some r) : V p l e rmX8_setGoal s m args below meth c Q D (xW ad cA) (xA ad) 7 S 0 [(0, .ref (ad 0)), (1, .int p1), (2, .int p2), (3, .int p3), (4, .int p4)] [] := by
  unfold fX8_setGoal at hm
  refine v_aload_n C (pc := 0) 0 dX8_setGoal_0 rfl rfl ?_
  refine gX8_19 C (pc := 1) dX8_setGoal_1 ?_
  refine v_iload_n C (pc := 4) 1 dX8_setGoal_4 rfl rfl ?_
  refine kX8_146 C (Nat.le_of_ble_eq_true rfl) (Nat.le_of_ble_eq_true rfl) (pc := 5) hm (Nat.le_of_ble_eq_true rfl) dX8_setGoal_5 (fun r10 S9 hm => ?_)
  refine v_if_ne C (pc := 8) hm 13 dX8_setGoal_8 rfl (fun hm => ?_) (fun hm => ?_)
  · refine v_aload_n C (pc := 13) 0 dX8_setGoal_13 rfl rfl ?_
    refine gX8_19 C (pc := 14) dX8_setGoal_14 ?_
    refine gX8_110 C (pc := 17) dX8_setGoal_17 ?_
    refine v_iload_n C (pc := 20) 2 dX8_setGoal_20 rfl rfl ?_
    refine v_iload_n C (pc := 21) 3 dX8_setGoal_21 rfl rfl ?_
    refine kX8_125 C (Nat.le_of_ble_eq_true rfl) (Nat.le_of_ble_eq_true rfl) (pc := 22) hm (Nat.le_of_ble_eq_true rfl) dX8_setGoal_22 (fun r11 S10 hm => ?_)
    refine v_istore C (pc := 25) [(5, .int r11), (0, .ref (ad 0)), (1, .int p1), (2, .int p2), (3, .int p3), (4, .int p4)] dX8_setGoal_25 (by decide) rfl ?_
    refine v_iload C (pc := 27) 0 dX8_setGoal_27 rfl ?_
    refine v_if_ge C (pc := 29) hm 35 dX8_setGoal_29 rfl (fun hm => ?_) (fun hm => ?_)
    · refine v_iload C (pc := 35) 5 dX8_setGoal_35 rfl ?_
      refine v_if_lt C (pc := 37) hm 46 dX8_setGoal_37 rfl (fun hm => ?_) (fun hm => ?_)
      · exact v_sub [] rfl (vX8_setGoal_46 C hr hQ (N := N) hm)
      · refine v_iload C (pc := 40) 5 dX8_setGoal_40 rfl ?_
        refine v_iconst C (pc := 42) 4 dX8_setGoal_42 rfl ?_
        refine v_icmp_le C (pc := 43) hm 49 dX8_setGoal_43 rfl (fun hm => ?_) (fun hm => ?_)
        · refine v_aload_n C (pc := 49) 1 dX8_setGoal_49 rfl rfl ?_
          refine gX8_19 C (pc := 50) dX8_setGoal_50 ?_
          refine gX8_150 C (pc := 53) dX8_setGoal_53 ?_
          refine v_iload_n C (pc := 56) 2 dX8_setGoal_56 rfl rfl ?_
          refine ldX2_blocks C (pc := 57) hm dX8_setGoal_57 (fun hb12 hm => ?_)
          refine v_astore C (pc := 58) [(6, .ref (ad (4 + (Int32.toNatClampNeg p1)))), (5, .int r11), (0, .ref (ad 0)), (1, .int p1), (2, .int p2), (3, .int p3), (4, .int p4)] dX8_setGoal_58 (by decide) rfl ?_
          refine v_aload C (pc := 60) 0 dX8_setGoal_60 rfl ?_
          refine gX8_179 C hb12 (pc := 62) dX8_setGoal_62 ?_
          refine v_iload C (pc := 65) 1 dX8_setGoal_65 rfl ?_
          refine v_icmp_ne C (pc := 67) hm 82 dX8_setGoal_67 rfl (fun hm => ?_) (fun hm => ?_)
          · exact v_sub [2, 6, 1, 0] rfl (vX8_setGoal_82 C hr hQ (N := N) hb12 hm)
          · refine v_aload C (pc := 70) 0 dX8_setGoal_70 rfl ?_
            refine gX8_182 C hb12 (pc := 72) dX8_setGoal_72 ?_
            refine v_iload C (pc := 75) 6 dX8_setGoal_75 rfl ?_
            refine v_icmp_ne C (pc := 77) hm 82 dX8_setGoal_77 rfl (fun hm => ?_) (fun hm => ?_)
            · exact v_sub [2, 6, 1, 0] rfl (vX8_setGoal_82 C hr hQ (N := N) hb12 hm)
            · refine v_iconst C (pc := 80) 0 dX8_setGoal_80 rfl ?_
              exact v_iret C hr hQ (pc := 81) hm dX8_setGoal_81
        · exact v_sub [] rfl (vX8_setGoal_46 C hr hQ (N := N) hm)
    · refine v_bipush C (pc := 32) (-2) dX8_setGoal_32 rfl ?_
      exact v_iret C hr hQ (pc := 34) hm dX8_setGoal_34
  · refine v_iconst C (pc := 11) (-1) dX8_setGoal_11 rfl ?_
    exact v_iret C hr hQ (pc := 12) hm dX8_setGoal_12
theorem mX8_setGoal {l : Launch} {D : va_G} {ad : Nat → Nat} {cA : Nat → ClassId} (hD : ∀ S, va_D (xA ad) (xW ad cA S)) {N : Nat} {p1 : Int32} {p2 : Int32} {p3 : Int32} {p4 : Int32} {S : St} {r : Int32 × St} (hm : fX8_setGoal N p1 p2 p3 p4 S = some r) : Met l yX8_setGoal (wsm yX8_setGoal cX8_setGoal 7 (some .int)) rmX8_setGoal (va_Pc [.ref (ad 0), .int p1, .int p2, .int p3, .int p4] (Pre D cA (xW ad cA) (xS ad) S)) (Qo D (xW ad cA) (xA ad) (some (.int r.1)) r.2) 0 0 (xA ad) := met_of [.ref (ad 0), .int p1, .int p2, .int p3, .int p4] (by decide) (Nat.le_of_ble_eq_true rfl) hD (xS_mv ad) (xS_kp ad) (fun p e s m below meth c C hr => vX8_setGoal C hr rfl (N := N)  hm)
-- X8_clearGoal
theorem kX8_196 {p : Program} {l : Launch} {e : Env} {R : Room} {s : State} {m : MethodId} {args : Array Value} {below : List Frame} {meth : Method} {c : Code} {Q : State → Prop} {D : va_G} {ad : Nat → Nat} {cA : Nat → ClassId} {cc : ByteArray} {nL : Nat} {S : St} {pc : Nat} {lv : List (Nat × Value)} {st : List Value} {ρ : Type} {res : ρ} (C : Ok p s m args c D cA (xW ad cA) (xA ad) (xS ad) RX8 cc nL) (hfr : rmX0_hasGoal.frames + 1 ≤ R.frames) (hlo : 8 + (1 + 11) + rmX0_hasGoal.locals ≤ R.locals) {i : Nat} (hi : i < 5) {N : Nat}  {E : Bool → St → Option ρ} (hm : bd (fX0_hasGoal N i S) E = some res) (hcat : (st.map fun v => v.category).sum ≤ 8) (hd : decode cc pc = .ok (.invokevirtual 196, 3)) (k : ∀ r S, E r S = some res → V p l e R s m args below meth c Q D (xW ad cA) (xA ad) nL S (pc + 3) lv (.int (b2i r) :: st)) : V p l e R s m args below meth c Q D (xW ad cA) (xA ad) nL S pc lv (.ref (ad (4 + i)) :: st) := by
  obtain ⟨r, S1, h1, h2⟩ := bd_some hm
  exact v_callV C (gm (i := 652) (by decide +kernel) rfl : Cond.methodLink RX8 196 yX0_hasGoal ∈ gw_tbl) infX0_hasGoal (rm2 := rmX0_hasGoal) ⟨rfl, rfl⟩ hfr hlo (mX0_hasGoal C.2.2.2.2.2.2.1 hi h1) (As := []) (oX0 ad cA i hi S) rfl rfl rfl rfl hcat hd (k r S1 h2)
theorem kX8_200 {p : Program} {l : Launch} {e : Env} {R : Room} {s : State} {m : MethodId} {args : Array Value} {below : List Frame} {meth : Method} {c : Code} {Q : State → Prop} {D : va_G} {ad : Nat → Nat} {cA : Nat → ClassId} {cc : ByteArray} {nL : Nat} {S : St} {pc : Nat} {lv : List (Nat × Value)} {st : List Value} {ρ : Type} {res : ρ} (C : Ok p s m args c D cA (xW ad cA) (xA ad) (xS ad) RX8 cc nL) (hfr : rmX0_dropGoal.frames + 1 ≤ R.frames) (hlo : 8 + (1 + 11) + rmX0_dropGoal.locals ≤ R.locals) {i : Nat} (hi : i < 5) {N : Nat}  {E : Unit → St → Option ρ} (hm : bd (fX0_dropGoal N i S) E = some res) (hcat : (st.map fun v => v.category).sum ≤ 8) (hd : decode cc pc = .ok (.invokevirtual 200, 3)) (k : ∀ r S, E r S = some res → V p l e R s m args below meth c Q D (xW ad cA) (xA ad) nL S (pc + 3) lv (st)) : V p l e R s m args below meth c Q D (xW ad cA) (xA ad) nL S pc lv (.ref (ad (4 + i)) :: st) := by
  obtain ⟨r, S1, h1, h2⟩ := bd_some hm
  exact v_callV C (gm (i := 653) (by decide +kernel) rfl : Cond.methodLink RX8 200 yX0_dropGoal ∈ gw_tbl) infX0_dropGoal (rm2 := rmX0_dropGoal) ⟨rfl, rfl⟩ hfr hlo (mX0_dropGoal C.2.2.2.2.2.2.1 hi h1) (As := []) (oX0 ad cA i hi S) rfl rfl rfl rfl hcat hd (k r S1 h2)
def rmX8_clearGoal : Room := { frames := 2, cells := 0, slots := 0, locals := 43 }
def fX8_clearGoal (N : Nat) (p1 : Int32) (S : St) : Option (Int32 × St) := bd (fX2_has N p1 S) fun r7 S5 => if (b2i r7) = 0 then (some ((-1), S5)) else (ck p1 5 (bd (fX0_hasGoal N (Int32.toNatClampNeg p1) S5) fun r9 S6 => if (b2i r9) = 0 then (some (0, S6)) else (ck p1 5 (bd (fX0_dropGoal N (Int32.toNatClampNeg p1) S6) fun r11 S7 => bd (fX5_forget N  S7) fun r12 S8 => some (1, S8)))))
set_option maxRecDepth 20000 in
theorem vX8_clearGoal {p : Program} {l : Launch} {e : Env} {s : State} {m : MethodId} {args : Array Value} {below : List Frame} {meth : Method} {c : Code} {Q : State → Prop} {D : va_G} {ad : Nat → Nat} {cA : Nat → ClassId} (C : Ok p s m args c D cA (xW ad cA) (xA ad) (xS ad) RX8 cX8_clearGoal 2) (hr : Rt meth (some .int)) {r : Int32 × St} (hQ : Q = MQ below (Qo D (xW ad cA) (xA ad) (some (.int r.1)) r.2) args s 0 0 (xA ad)) {N : Nat} {p1 : Int32} {S : St} (hm : fX8_clearGoal N p1 S = some r) : V p l e rmX8_clearGoal s m args below meth c Q D (xW ad cA) (xA ad) 2 S 0 [(0, .ref (ad 0)), (1, .int p1)] [] := by
  unfold fX8_clearGoal at hm
  refine v_aload_n C (pc := 0) 0 dX8_clearGoal_0 rfl rfl ?_
  refine gX8_19 C (pc := 1) dX8_clearGoal_1 ?_
  refine v_iload_n C (pc := 4) 1 dX8_clearGoal_4 rfl rfl ?_
  refine kX8_146 C (Nat.le_of_ble_eq_true rfl) (Nat.le_of_ble_eq_true rfl) (pc := 5) hm (Nat.le_of_ble_eq_true rfl) dX8_clearGoal_5 (fun r7 S5 hm => ?_)
  refine v_if_ne C (pc := 8) hm 13 dX8_clearGoal_8 rfl (fun hm => ?_) (fun hm => ?_)
  · refine v_aload_n C (pc := 13) 0 dX8_clearGoal_13 rfl rfl ?_
    refine gX8_19 C (pc := 14) dX8_clearGoal_14 ?_
    refine gX8_150 C (pc := 17) dX8_clearGoal_17 ?_
    refine v_iload_n C (pc := 20) 1 dX8_clearGoal_20 rfl rfl ?_
    refine ldX2_blocks C (pc := 21) hm dX8_clearGoal_21 (fun hb8 hm => ?_)
    refine kX8_196 C (Nat.le_of_ble_eq_true rfl) (Nat.le_of_ble_eq_true rfl) hb8 (pc := 22) hm (Nat.le_of_ble_eq_true rfl) dX8_clearGoal_22 (fun r9 S6 hm => ?_)
    refine v_if_ne C (pc := 25) hm 30 dX8_clearGoal_25 rfl (fun hm => ?_) (fun hm => ?_)
    · refine v_aload_n C (pc := 30) 0 dX8_clearGoal_30 rfl rfl ?_
      refine gX8_19 C (pc := 31) dX8_clearGoal_31 ?_
      refine gX8_150 C (pc := 34) dX8_clearGoal_34 ?_
      refine v_iload_n C (pc := 37) 1 dX8_clearGoal_37 rfl rfl ?_
      refine ldX2_blocks C (pc := 38) hm dX8_clearGoal_38 (fun hb10 hm => ?_)
      refine kX8_200 C (Nat.le_of_ble_eq_true rfl) (Nat.le_of_ble_eq_true rfl) hb10 (pc := 39) hm (Nat.le_of_ble_eq_true rfl) dX8_clearGoal_39 (fun r11 S7 hm => ?_)
      refine v_aload_n C (pc := 42) 0 dX8_clearGoal_42 rfl rfl ?_
      refine gX8_51 C (pc := 43) dX8_clearGoal_43 ?_
      refine kX8_82 C (Nat.le_of_ble_eq_true rfl) (Nat.le_of_ble_eq_true rfl) (pc := 46) hm (Nat.le_of_ble_eq_true rfl) dX8_clearGoal_46 (fun r12 S8 hm => ?_)
      refine v_iconst C (pc := 49) 1 dX8_clearGoal_49 rfl ?_
      exact v_iret C hr hQ (pc := 50) hm dX8_clearGoal_50
    · refine v_iconst C (pc := 28) 0 dX8_clearGoal_28 rfl ?_
      exact v_iret C hr hQ (pc := 29) hm dX8_clearGoal_29
  · refine v_iconst C (pc := 11) (-1) dX8_clearGoal_11 rfl ?_
    exact v_iret C hr hQ (pc := 12) hm dX8_clearGoal_12
theorem mX8_clearGoal {l : Launch} {D : va_G} {ad : Nat → Nat} {cA : Nat → ClassId} (hD : ∀ S, va_D (xA ad) (xW ad cA S)) {N : Nat} {p1 : Int32} {S : St} {r : Int32 × St} (hm : fX8_clearGoal N p1 S = some r) : Met l yX8_clearGoal (wsm yX8_clearGoal cX8_clearGoal 2 (some .int)) rmX8_clearGoal (va_Pc [.ref (ad 0), .int p1] (Pre D cA (xW ad cA) (xS ad) S)) (Qo D (xW ad cA) (xA ad) (some (.int r.1)) r.2) 0 0 (xA ad) := met_of [.ref (ad 0), .int p1] (by decide) (Nat.le_of_ble_eq_true rfl) hD (xS_mv ad) (xS_kp ad) (fun p e s m below meth c C hr => vX8_clearGoal C hr rfl (N := N)  hm)
-- X8_isGroup
def rmX8_isGroup : Room := { frames := 0, cells := 0, slots := 0, locals := 0 }
def fX8_isGroup_14 (N : Nat)  (s0 : Bool) (S : St) : Option (Bool × St) := some (s0, S)
set_option maxRecDepth 20000 in
theorem vX8_isGroup_14 {p : Program} {l : Launch} {e : Env} {s : State} {m : MethodId} {args : Array Value} {below : List Frame} {meth : Method} {c : Code} {Q : State → Prop} {D : va_G} {ad : Nat → Nat} {cA : Nat → ClassId} (C : Ok p s m args c D cA (xW ad cA) (xA ad) (xS ad) RX8 cX8_isGroup 1) (hr : Rt meth (some .boolean)) {r : Bool × St} (hQ : Q = MQ below (Qo D (xW ad cA) (xA ad) (some (.int (b2i r.1))) r.2) args s 0 0 (xA ad)) {N : Nat}  {s0 : Bool}  {S : St} (hm : fX8_isGroup_14 N  s0 S = some r) : V p l e rmX8_isGroup s m args below meth c Q D (xW ad cA) (xA ad) 1 S 14 [] [.int (b2i s0)] := by
  unfold fX8_isGroup_14 at hm
  exact v_zret C hr hQ (x := s0) (pc := 14) hm dX8_isGroup_14
def fX8_isGroup_13 (N : Nat)   (S : St) : Option (Bool × St) := fX8_isGroup_14 N false S
set_option maxRecDepth 20000 in
theorem vX8_isGroup_13 {p : Program} {l : Launch} {e : Env} {s : State} {m : MethodId} {args : Array Value} {below : List Frame} {meth : Method} {c : Code} {Q : State → Prop} {D : va_G} {ad : Nat → Nat} {cA : Nat → ClassId} (C : Ok p s m args c D cA (xW ad cA) (xA ad) (xS ad) RX8 cX8_isGroup 1) (hr : Rt meth (some .boolean)) {r : Bool × St} (hQ : Q = MQ below (Qo D (xW ad cA) (xA ad) (some (.int (b2i r.1))) r.2) args s 0 0 (xA ad)) {N : Nat}    {S : St} (hm : fX8_isGroup_13 N   S = some r) : V p l e rmX8_isGroup s m args below meth c Q D (xW ad cA) (xA ad) 1 S 13 [] [] := by
  unfold fX8_isGroup_13 at hm
  refine v_iconst C (pc := 13) 0 dX8_isGroup_13 rfl ?_
  exact (vX8_isGroup_14 C hr hQ (N := N) hm)
def fX8_isGroup (N : Nat) (p1 : Int32) (S : St) : Option (Bool × St) := if p1 < 0 then (fX8_isGroup_13 N S) else (if 4 ≤ p1 then (fX8_isGroup_13 N S) else (fX8_isGroup_14 N true S))
set_option maxRecDepth 20000 in
theorem vX8_isGroup {p : Program} {l : Launch} {e : Env} {s : State} {m : MethodId} {args : Array Value} {below : List Frame} {meth : Method} {c : Code} {Q : State → Prop} {D : va_G} {ad : Nat → Nat} {cA : Nat → ClassId} (C : Ok p s m args c D cA (xW ad cA) (xA ad) (xS ad) RX8 cX8_isGroup 1) (hr : Rt meth (some .boolean)) {r : Bool × St} (hQ : Q = MQ below (Qo D (xW ad cA) (xA ad) (some (.int (b2i r.1))) r.2) args s 0 0 (xA ad)) {N : Nat} {p1 : Int32} {S : St} (hm : fX8_isGroup N p1 S = some r) : V p l e rmX8_isGroup s m args below meth c Q D (xW ad cA) (xA ad) 1 S 0 [(0, .int p1)] [] := by
  unfold fX8_isGroup at hm
  refine v_iload_n C (pc := 0) 0 dX8_isGroup_0 rfl rfl ?_
  refine v_if_lt C (pc := 1) hm 13 dX8_isGroup_1 rfl (fun hm => ?_) (fun hm => ?_)
  · exact v_sub [] rfl (vX8_isGroup_13 C hr hQ (N := N) hm)
  · refine v_iload_n C (pc := 4) 0 dX8_isGroup_4 rfl rfl ?_
    refine v_iconst C (pc := 5) 4 dX8_isGroup_5 rfl ?_
    refine v_icmp_ge C (pc := 6) hm 13 dX8_isGroup_6 rfl (fun hm => ?_) (fun hm => ?_)
    · exact v_sub [] rfl (vX8_isGroup_13 C hr hQ (N := N) hm)
    · refine v_iconst C (pc := 9) 1 dX8_isGroup_9 rfl ?_
      refine v_goto C (pc := 10) 14 dX8_isGroup_10 rfl ?_
      exact v_sub [] rfl (vX8_isGroup_14 C hr hQ (N := N) hm)
theorem mX8_isGroup {l : Launch} {D : va_G} {ad : Nat → Nat} {cA : Nat → ClassId} (hD : ∀ S, va_D (xA ad) (xW ad cA S)) {N : Nat} {p1 : Int32} {S : St} {r : Bool × St} (hm : fX8_isGroup N p1 S = some r) : Met l yX8_isGroup (wsm yX8_isGroup cX8_isGroup 1 (some .boolean)) rmX8_isGroup (va_Pc [.int p1] (Pre D cA (xW ad cA) (xS ad) S)) (Qo D (xW ad cA) (xA ad) (some (.int (b2i r.1))) r.2) 0 0 (xA ad) := met_of [.int p1] (by decide) (Nat.le_of_ble_eq_true rfl) hD (xS_mv ad) (xS_kp ad) (fun p e s m below meth c C hr => vX8_isGroup C hr rfl (N := N)  hm)
-- X8_setThreshold
theorem infX8_isGroup : InfS yX8_isGroup cX8_isGroup 1 (some .boolean) 1 := ⟨⟨gm (i := 55) (by decide +kernel) rfl, gm (i := 660) (by decide +kernel) rfl, by decide +kernel⟩, gm (i := 659) (by decide +kernel) rfl⟩
theorem kX8_203 {p : Program} {l : Launch} {e : Env} {R : Room} {s : State} {m : MethodId} {args : Array Value} {below : List Frame} {meth : Method} {c : Code} {Q : State → Prop} {D : va_G} {ad : Nat → Nat} {cA : Nat → ClassId} {cc : ByteArray} {nL : Nat} {S : St} {pc : Nat} {lv : List (Nat × Value)} {st : List Value} {ρ : Type} {res : ρ} (C : Ok p s m args c D cA (xW ad cA) (xA ad) (xS ad) RX8 cc nL) (hfr : rmX8_isGroup.frames + 1 ≤ R.frames) (hlo : 8 + (1 + 11) + rmX8_isGroup.locals ≤ R.locals) {N : Nat} {p1 : Int32} {E : Bool → St → Option ρ} (hm : bd (fX8_isGroup N p1 S) E = some res) (hcat : (st.map fun v => v.category).sum ≤ 8) (hd : decode cc pc = .ok (.invokestatic 203, 3)) (k : ∀ r S, E r S = some res → V p l e R s m args below meth c Q D (xW ad cA) (xA ad) nL S (pc + 3) lv (.int (b2i r) :: st)) : V p l e R s m args below meth c Q D (xW ad cA) (xA ad) nL S pc lv (.int p1 :: st) := by
  obtain ⟨r, S1, h1, h2⟩ := bd_some hm
  exact v_callS C (gm (i := 658) (by decide +kernel) rfl : Cond.methodLink RX8 203 yX8_isGroup ∈ gw_tbl) infX8_isGroup (rm2 := rmX8_isGroup) ⟨rfl, rfl⟩ hfr hlo (mX8_isGroup C.2.2.2.2.2.2.1 h1) (As := [.int p1]) rfl rfl hcat hd (k r S1 h2)
def rmX8_setThreshold : Room := { frames := 1, cells := 0, slots := 0, locals := 20 }
def fX8_setThreshold_18 (N : Nat)   (S : St) : Option (Int32 × St) := some ((-3), S)
set_option maxRecDepth 20000 in
theorem vX8_setThreshold_18 {p : Program} {l : Launch} {e : Env} {s : State} {m : MethodId} {args : Array Value} {below : List Frame} {meth : Method} {c : Code} {Q : State → Prop} {D : va_G} {ad : Nat → Nat} {cA : Nat → ClassId} (C : Ok p s m args c D cA (xW ad cA) (xA ad) (xS ad) RX8 cX8_setThreshold 4) (hr : Rt meth (some .int)) {r : Int32 × St} (hQ : Q = MQ below (Qo D (xW ad cA) (xA ad) (some (.int r.1)) r.2) args s 0 0 (xA ad)) {N : Nat}    {S : St} (hm : fX8_setThreshold_18 N   S = some r) : V p l e rmX8_setThreshold s m args below meth c Q D (xW ad cA) (xA ad) 4 S 18 [] [] := by
  unfold fX8_setThreshold_18 at hm
  refine v_bipush C (pc := 18) (-3) dX8_setThreshold_18 rfl ?_
  exact v_iret C hr hQ (pc := 20) hm dX8_setThreshold_20
def fX8_setThreshold (N : Nat) (p1 : Int32) (p2 : Int32) (S : St) : Option (Int32 × St) := bd (fX8_isGroup N p1 S) fun r4 S4 => if (b2i r4) = 0 then (fX8_setThreshold_18 N S4) else (if p2 < 1 then (fX8_setThreshold_18 N S4) else (if p2 ≤ 45 then (ck p1 4 (nm (S4.2.2.1 1 (Int32.toNatClampNeg p1)) fun y5 => ck p1 4 (stp (sA S4 1 (Int32.toNatClampNeg p1) p2) fun S5 => bd (fX5_forget N  S5) fun r6 S6 => some (y5, S6)))) else (fX8_setThreshold_18 N S4)))
set_option maxRecDepth 20000 in
theorem vX8_setThreshold {p : Program} {l : Launch} {e : Env} {s : State} {m : MethodId} {args : Array Value} {below : List Frame} {meth : Method} {c : Code} {Q : State → Prop} {D : va_G} {ad : Nat → Nat} {cA : Nat → ClassId} (C : Ok p s m args c D cA (xW ad cA) (xA ad) (xS ad) RX8 cX8_setThreshold 4) (hr : Rt meth (some .int)) {r : Int32 × St} (hQ : Q = MQ below (Qo D (xW ad cA) (xA ad) (some (.int r.1)) r.2) args s 0 0 (xA ad)) {N : Nat} {p1 : Int32} {p2 : Int32} {S : St} (hm : fX8_setThreshold N p1 p2 S = some r) : V p l e rmX8_setThreshold s m args below meth c Q D (xW ad cA) (xA ad) 4 S 0 [(0, .ref (ad 0)), (1, .int p1), (2, .int p2)] [] := by
  unfold fX8_setThreshold at hm
  refine v_iload_n C (pc := 0) 1 dX8_setThreshold_0 rfl rfl ?_
  refine kX8_203 C (Nat.le_of_ble_eq_true rfl) (Nat.le_of_ble_eq_true rfl) (pc := 1) hm (Nat.le_of_ble_eq_true rfl) dX8_setThreshold_1 (fun r4 S4 hm => ?_)
  refine v_if_eq C (pc := 4) hm 18 dX8_setThreshold_4 rfl (fun hm => ?_) (fun hm => ?_)
  · exact v_sub [] rfl (vX8_setThreshold_18 C hr hQ (N := N) hm)
  · refine v_iload_n C (pc := 7) 2 dX8_setThreshold_7 rfl rfl ?_
    refine v_iconst C (pc := 8) 1 dX8_setThreshold_8 rfl ?_
    refine v_icmp_lt C (pc := 9) hm 18 dX8_setThreshold_9 rfl (fun hm => ?_) (fun hm => ?_)
    · exact v_sub [] rfl (vX8_setThreshold_18 C hr hQ (N := N) hm)
    · refine v_iload_n C (pc := 12) 2 dX8_setThreshold_12 rfl rfl ?_
      refine v_bipush C (pc := 13) 45 dX8_setThreshold_13 rfl ?_
      refine v_icmp_le C (pc := 15) hm 21 dX8_setThreshold_15 rfl (fun hm => ?_) (fun hm => ?_)
      · refine v_aload_n C (pc := 21) 0 dX8_setThreshold_21 rfl rfl ?_
        refine gX8_19 C (pc := 22) dX8_setThreshold_22 ?_
        refine gX8_206 C (pc := 25) dX8_setThreshold_25 ?_
        refine v_iload_n C (pc := 28) 1 dX8_setThreshold_28 rfl rfl ?_
        refine ldX2_thresholds C (pc := 29) hm dX8_setThreshold_29 (fun hm => ?_)
        refine v_istore_nN C (pc := 30) [(0, .ref (ad 0)), (1, .int p1), (2, .int p2)] hm dX8_setThreshold_30 rfl (by decide) rfl (fun y5 hm => ?_)
        refine v_aload_n C (pc := 31) 1 dX8_setThreshold_31 rfl rfl ?_
        refine gX8_19 C (pc := 32) dX8_setThreshold_32 ?_
        refine gX8_206 C (pc := 35) dX8_setThreshold_35 ?_
        refine v_iload_n C (pc := 38) 2 dX8_setThreshold_38 rfl rfl ?_
        refine v_iload_n C (pc := 39) 3 dX8_setThreshold_39 rfl rfl ?_
        refine stX2_thresholds C (pc := 40) hm dX8_setThreshold_40 (fun S5 hm => ?_)
        refine v_aload_n C (pc := 41) 1 dX8_setThreshold_41 rfl rfl ?_
        refine gX8_51 C (pc := 42) dX8_setThreshold_42 ?_
        refine kX8_82 C (Nat.le_of_ble_eq_true rfl) (Nat.le_of_ble_eq_true rfl) (pc := 45) hm (Nat.le_of_ble_eq_true rfl) dX8_setThreshold_45 (fun r6 S6 hm => ?_)
        refine v_iload_n C (pc := 48) 0 dX8_setThreshold_48 rfl rfl ?_
        exact v_iret C hr hQ (pc := 49) hm dX8_setThreshold_49
      · exact v_sub [] rfl (vX8_setThreshold_18 C hr hQ (N := N) hm)
theorem mX8_setThreshold {l : Launch} {D : va_G} {ad : Nat → Nat} {cA : Nat → ClassId} (hD : ∀ S, va_D (xA ad) (xW ad cA S)) {N : Nat} {p1 : Int32} {p2 : Int32} {S : St} {r : Int32 × St} (hm : fX8_setThreshold N p1 p2 S = some r) : Met l yX8_setThreshold (wsm yX8_setThreshold cX8_setThreshold 4 (some .int)) rmX8_setThreshold (va_Pc [.ref (ad 0), .int p1, .int p2] (Pre D cA (xW ad cA) (xS ad) S)) (Qo D (xW ad cA) (xA ad) (some (.int r.1)) r.2) 0 0 (xA ad) := met_of [.ref (ad 0), .int p1, .int p2] (by decide) (Nat.le_of_ble_eq_true rfl) hD (xS_mv ad) (xS_kp ad) (fun p e s m below meth c C hr => vX8_setThreshold C hr rfl (N := N)  hm)
-- X8_setStrength
def rmX8_setStrength : Room := { frames := 1, cells := 0, slots := 0, locals := 20 }
def fX8_setStrength_11 (N : Nat)   (S : St) : Option (Int32 × St) := some ((-3), S)
set_option maxRecDepth 20000 in
theorem vX8_setStrength_11 {p : Program} {l : Launch} {e : Env} {s : State} {m : MethodId} {args : Array Value} {below : List Frame} {meth : Method} {c : Code} {Q : State → Prop} {D : va_G} {ad : Nat → Nat} {cA : Nat → ClassId} (C : Ok p s m args c D cA (xW ad cA) (xA ad) (xS ad) RX8 cX8_setStrength 3) (hr : Rt meth (some .int)) {r : Int32 × St} (hQ : Q = MQ below (Qo D (xW ad cA) (xA ad) (some (.int r.1)) r.2) args s 0 0 (xA ad)) {N : Nat}    {S : St} (hm : fX8_setStrength_11 N   S = some r) : V p l e rmX8_setStrength s m args below meth c Q D (xW ad cA) (xA ad) 3 S 11 [] [] := by
  unfold fX8_setStrength_11 at hm
  refine v_bipush C (pc := 11) (-3) dX8_setStrength_11 rfl ?_
  exact v_iret C hr hQ (pc := 13) hm dX8_setStrength_13
def fX8_setStrength (N : Nat) (p1 : Int32) (S : St) : Option (Int32 × St) := if p1 < 1 then (fX8_setStrength_11 N S) else (if p1 ≤ 45 then (nm (S.1 2) fun y3 => stp (sI S 2 p1) fun S3 => bd (fX5_forget N  S3) fun r4 S4 => some (y3, S4)) else (fX8_setStrength_11 N S))
set_option maxRecDepth 20000 in
theorem vX8_setStrength {p : Program} {l : Launch} {e : Env} {s : State} {m : MethodId} {args : Array Value} {below : List Frame} {meth : Method} {c : Code} {Q : State → Prop} {D : va_G} {ad : Nat → Nat} {cA : Nat → ClassId} (C : Ok p s m args c D cA (xW ad cA) (xA ad) (xS ad) RX8 cX8_setStrength 3) (hr : Rt meth (some .int)) {r : Int32 × St} (hQ : Q = MQ below (Qo D (xW ad cA) (xA ad) (some (.int r.1)) r.2) args s 0 0 (xA ad)) {N : Nat} {p1 : Int32} {S : St} (hm : fX8_setStrength N p1 S = some r) : V p l e rmX8_setStrength s m args below meth c Q D (xW ad cA) (xA ad) 3 S 0 [(0, .ref (ad 0)), (1, .int p1)] [] := by
  unfold fX8_setStrength at hm
  refine v_iload_n C (pc := 0) 1 dX8_setStrength_0 rfl rfl ?_
  refine v_iconst C (pc := 1) 1 dX8_setStrength_1 rfl ?_
  refine v_icmp_lt C (pc := 2) hm 11 dX8_setStrength_2 rfl (fun hm => ?_) (fun hm => ?_)
  · exact v_sub [] rfl (vX8_setStrength_11 C hr hQ (N := N) hm)
  · refine v_iload_n C (pc := 5) 1 dX8_setStrength_5 rfl rfl ?_
    refine v_bipush C (pc := 6) 45 dX8_setStrength_6 rfl ?_
    refine v_icmp_le C (pc := 8) hm 14 dX8_setStrength_8 rfl (fun hm => ?_) (fun hm => ?_)
    · refine v_aload_n C (pc := 14) 0 dX8_setStrength_14 rfl rfl ?_
      refine gX8_19 C (pc := 15) dX8_setStrength_15 ?_
      refine gX8_122 C (pc := 18) dX8_setStrength_18 ?_
      refine v_istore_nN C (pc := 21) [(0, .ref (ad 0)), (1, .int p1)] hm dX8_setStrength_21 rfl (by decide) rfl (fun y3 hm => ?_)
      refine v_aload_n C (pc := 22) 1 dX8_setStrength_22 rfl rfl ?_
      refine gX8_19 C (pc := 23) dX8_setStrength_23 ?_
      refine v_iload_n C (pc := 26) 2 dX8_setStrength_26 rfl rfl ?_
      refine pX8_122 C (pc := 27) hm dX8_setStrength_27 (fun S3 hm => ?_)
      refine v_aload_n C (pc := 30) 1 dX8_setStrength_30 rfl rfl ?_
      refine gX8_51 C (pc := 31) dX8_setStrength_31 ?_
      refine kX8_82 C (Nat.le_of_ble_eq_true rfl) (Nat.le_of_ble_eq_true rfl) (pc := 34) hm (Nat.le_of_ble_eq_true rfl) dX8_setStrength_34 (fun r4 S4 hm => ?_)
      refine v_iload_n C (pc := 37) 0 dX8_setStrength_37 rfl rfl ?_
      exact v_iret C hr hQ (pc := 38) hm dX8_setStrength_38
    · exact v_sub [] rfl (vX8_setStrength_11 C hr hQ (N := N) hm)
theorem mX8_setStrength {l : Launch} {D : va_G} {ad : Nat → Nat} {cA : Nat → ClassId} (hD : ∀ S, va_D (xA ad) (xW ad cA S)) {N : Nat} {p1 : Int32} {S : St} {r : Int32 × St} (hm : fX8_setStrength N p1 S = some r) : Met l yX8_setStrength (wsm yX8_setStrength cX8_setStrength 3 (some .int)) rmX8_setStrength (va_Pc [.ref (ad 0), .int p1] (Pre D cA (xW ad cA) (xS ad) S)) (Qo D (xW ad cA) (xA ad) (some (.int r.1)) r.2) 0 0 (xA ad) := met_of [.ref (ad 0), .int p1] (by decide) (Nat.le_of_ble_eq_true rfl) hD (xS_mv ad) (xS_kp ad) (fun p e s m below meth c C hr => vX8_setStrength C hr rfl (N := N)  hm)
-- X8_load
theorem kX8_209 {p : Program} {l : Launch} {e : Env} {R : Room} {s : State} {m : MethodId} {args : Array Value} {below : List Frame} {meth : Method} {c : Code} {Q : State → Prop} {D : va_G} {ad : Nat → Nat} {cA : Nat → ClassId} {cc : ByteArray} {nL : Nat} {S : St} {pc : Nat} {lv : List (Nat × Value)} {st : List Value} {ρ : Type} {res : ρ} (C : Ok p s m args c D cA (xW ad cA) (xA ad) (xS ad) RX8 cc nL) (hfr : rmX4_loadOf.frames + 1 ≤ R.frames) (hlo : 8 + (4 + 11) + rmX4_loadOf.locals ≤ R.locals) {i : Nat} (hi : i < 2) {N : Nat} {p1 : Int32} {E : Int32 → St → Option ρ} (hm : bd (fX4_loadOf N i p1 S) E = some res) (hcat : (st.map fun v => v.category).sum ≤ 8) (hd : decode cc pc = .ok (.invokevirtual 209, 3)) (k : ∀ r S, E r S = some res → V p l e R s m args below meth c Q D (xW ad cA) (xA ad) nL S (pc + 3) lv (.int r :: st)) : V p l e R s m args below meth c Q D (xW ad cA) (xA ad) nL S pc lv (.int p1 :: .ref (ad (10 + i)) :: st) := by
  obtain ⟨r, S1, h1, h2⟩ := bd_some hm
  exact v_callV C (gm (i := 669) (by decide +kernel) rfl : Cond.methodLink RX8 209 yX4_loadOf ∈ gw_tbl) infX4_loadOf (rm2 := rmX4_loadOf) ⟨rfl, rfl⟩ hfr hlo (mX4_loadOf C.2.2.2.2.2.2.1 hi h1) (As := [.int p1]) (oX4 ad cA i hi S) rfl rfl rfl rfl hcat hd (k r S1 h2)
def rmX8_load : Room := { frames := 2, cells := 0, slots := 0, locals := 46 }
def fX8_load (N : Nat) (p1 : Int32) (S : St) : Option (Int32 × St) := bd (fX8_isGroup N p1 S) fun r5 S5 => if (b2i r5) = 0 then (some ((-3), S5)) else (bd (fX1_present N  S5) fun r6 S6 => bd (fX4_stand N 0 r6 S6) fun r7 S7 => bd (fX4_loadOf N 0 p1 S7) fun r8 S8 => some (r8, S8))
set_option maxRecDepth 20000 in
theorem vX8_load {p : Program} {l : Launch} {e : Env} {s : State} {m : MethodId} {args : Array Value} {below : List Frame} {meth : Method} {c : Code} {Q : State → Prop} {D : va_G} {ad : Nat → Nat} {cA : Nat → ClassId} (C : Ok p s m args c D cA (xW ad cA) (xA ad) (xS ad) RX8 cX8_load 2) (hr : Rt meth (some .int)) {r : Int32 × St} (hQ : Q = MQ below (Qo D (xW ad cA) (xA ad) (some (.int r.1)) r.2) args s 0 0 (xA ad)) {N : Nat} {p1 : Int32} {S : St} (hm : fX8_load N p1 S = some r) : V p l e rmX8_load s m args below meth c Q D (xW ad cA) (xA ad) 2 S 0 [(0, .ref (ad 0)), (1, .int p1)] [] := by
  unfold fX8_load at hm
  refine v_iload_n C (pc := 0) 1 dX8_load_0 rfl rfl ?_
  refine kX8_203 C (Nat.le_of_ble_eq_true rfl) (Nat.le_of_ble_eq_true rfl) (pc := 1) hm (Nat.le_of_ble_eq_true rfl) dX8_load_1 (fun r5 S5 hm => ?_)
  refine v_if_ne C (pc := 4) hm 10 dX8_load_4 rfl (fun hm => ?_) (fun hm => ?_)
  · refine v_aload_n C (pc := 10) 0 dX8_load_10 rfl rfl ?_
    refine gX8_37 C (pc := 11) dX8_load_11 ?_
    refine v_aload_n C (pc := 14) 0 dX8_load_14 rfl rfl ?_
    refine gX8_44 C (pc := 15) dX8_load_15 ?_
    refine kX8_132 C (Nat.le_of_ble_eq_true rfl) (Nat.le_of_ble_eq_true rfl) (pc := 18) hm (Nat.le_of_ble_eq_true rfl) dX8_load_18 (fun r6 S6 hm => ?_)
    refine kX8_136 C (Nat.le_of_ble_eq_true rfl) (Nat.le_of_ble_eq_true rfl) (i := 0) (by decide) (pc := 21) hm (Nat.le_of_ble_eq_true rfl) dX8_load_21 (fun r7 S7 hm => ?_)
    refine v_aload_n C (pc := 24) 0 dX8_load_24 rfl rfl ?_
    refine gX8_37 C (pc := 25) dX8_load_25 ?_
    refine v_iload_n C (pc := 28) 1 dX8_load_28 rfl rfl ?_
    refine kX8_209 C (Nat.le_of_ble_eq_true rfl) (Nat.le_of_ble_eq_true rfl) (i := 0) (by decide) (pc := 29) hm (Nat.le_of_ble_eq_true rfl) dX8_load_29 (fun r8 S8 hm => ?_)
    exact v_iret C hr hQ (pc := 32) hm dX8_load_32
  · refine v_bipush C (pc := 7) (-3) dX8_load_7 rfl ?_
    exact v_iret C hr hQ (pc := 9) hm dX8_load_9
theorem mX8_load {l : Launch} {D : va_G} {ad : Nat → Nat} {cA : Nat → ClassId} (hD : ∀ S, va_D (xA ad) (xW ad cA S)) {N : Nat} {p1 : Int32} {S : St} {r : Int32 × St} (hm : fX8_load N p1 S = some r) : Met l yX8_load (wsm yX8_load cX8_load 2 (some .int)) rmX8_load (va_Pc [.ref (ad 0), .int p1] (Pre D cA (xW ad cA) (xS ad) S)) (Qo D (xW ad cA) (xA ad) (some (.int r.1)) r.2) 0 0 (xA ad) := met_of [.ref (ad 0), .int p1] (by decide) (Nat.le_of_ble_eq_true rfl) hD (xS_mv ad) (xS_kp ad) (fun p e s m below meth c C hr => vX8_load C hr rfl (N := N)  hm)
-- X8_isOpen
def rmX8_isOpen : Room := { frames := 2, cells := 0, slots := 0, locals := 46 }
def fX8_isOpen_49 (N : Nat)  (s0 : Bool) (S : St) : Option (Int32 × St) := some ((b2i s0), S)
set_option maxRecDepth 20000 in
theorem vX8_isOpen_49 {p : Program} {l : Launch} {e : Env} {s : State} {m : MethodId} {args : Array Value} {below : List Frame} {meth : Method} {c : Code} {Q : State → Prop} {D : va_G} {ad : Nat → Nat} {cA : Nat → ClassId} (C : Ok p s m args c D cA (xW ad cA) (xA ad) (xS ad) RX8 cX8_isOpen 2) (hr : Rt meth (some .int)) {r : Int32 × St} (hQ : Q = MQ below (Qo D (xW ad cA) (xA ad) (some (.int r.1)) r.2) args s 0 0 (xA ad)) {N : Nat}  {s0 : Bool}  {S : St} (hm : fX8_isOpen_49 N  s0 S = some r) : V p l e rmX8_isOpen s m args below meth c Q D (xW ad cA) (xA ad) 2 S 49 [] [.int (b2i s0)] := by
  unfold fX8_isOpen_49 at hm
  exact v_iret C hr hQ (pc := 49) hm dX8_isOpen_49
def fX8_isOpen (N : Nat) (p1 : Int32) (S : St) : Option (Int32 × St) := bd (fX8_isGroup N p1 S) fun r5 S5 => if (b2i r5) = 0 then (some ((-3), S5)) else (bd (fX1_present N  S5) fun r6 S6 => bd (fX4_stand N 0 r6 S6) fun r7 S7 => bd (fX4_loadOf N 0 p1 S7) fun r8 S8 => ck p1 4 (if r8 < (S8.2.2.1 1 (Int32.toNatClampNeg p1)) then (fX8_isOpen_49 N false S8) else (fX8_isOpen_49 N true S8)))
set_option maxRecDepth 20000 in
theorem vX8_isOpen {p : Program} {l : Launch} {e : Env} {s : State} {m : MethodId} {args : Array Value} {below : List Frame} {meth : Method} {c : Code} {Q : State → Prop} {D : va_G} {ad : Nat → Nat} {cA : Nat → ClassId} (C : Ok p s m args c D cA (xW ad cA) (xA ad) (xS ad) RX8 cX8_isOpen 2) (hr : Rt meth (some .int)) {r : Int32 × St} (hQ : Q = MQ below (Qo D (xW ad cA) (xA ad) (some (.int r.1)) r.2) args s 0 0 (xA ad)) {N : Nat} {p1 : Int32} {S : St} (hm : fX8_isOpen N p1 S = some r) : V p l e rmX8_isOpen s m args below meth c Q D (xW ad cA) (xA ad) 2 S 0 [(0, .ref (ad 0)), (1, .int p1)] [] := by
  unfold fX8_isOpen at hm
  refine v_iload_n C (pc := 0) 1 dX8_isOpen_0 rfl rfl ?_
  refine kX8_203 C (Nat.le_of_ble_eq_true rfl) (Nat.le_of_ble_eq_true rfl) (pc := 1) hm (Nat.le_of_ble_eq_true rfl) dX8_isOpen_1 (fun r5 S5 hm => ?_)
  refine v_if_ne C (pc := 4) hm 10 dX8_isOpen_4 rfl (fun hm => ?_) (fun hm => ?_)
  · refine v_aload_n C (pc := 10) 0 dX8_isOpen_10 rfl rfl ?_
    refine gX8_37 C (pc := 11) dX8_isOpen_11 ?_
    refine v_aload_n C (pc := 14) 0 dX8_isOpen_14 rfl rfl ?_
    refine gX8_44 C (pc := 15) dX8_isOpen_15 ?_
    refine kX8_132 C (Nat.le_of_ble_eq_true rfl) (Nat.le_of_ble_eq_true rfl) (pc := 18) hm (Nat.le_of_ble_eq_true rfl) dX8_isOpen_18 (fun r6 S6 hm => ?_)
    refine kX8_136 C (Nat.le_of_ble_eq_true rfl) (Nat.le_of_ble_eq_true rfl) (i := 0) (by decide) (pc := 21) hm (Nat.le_of_ble_eq_true rfl) dX8_isOpen_21 (fun r7 S7 hm => ?_)
    refine v_aload_n C (pc := 24) 0 dX8_isOpen_24 rfl rfl ?_
    refine gX8_37 C (pc := 25) dX8_isOpen_25 ?_
    refine v_iload_n C (pc := 28) 1 dX8_isOpen_28 rfl rfl ?_
    refine kX8_209 C (Nat.le_of_ble_eq_true rfl) (Nat.le_of_ble_eq_true rfl) (i := 0) (by decide) (pc := 29) hm (Nat.le_of_ble_eq_true rfl) dX8_isOpen_29 (fun r8 S8 hm => ?_)
    refine v_aload_n C (pc := 32) 0 dX8_isOpen_32 rfl rfl ?_
    refine gX8_19 C (pc := 33) dX8_isOpen_33 ?_
    refine gX8_206 C (pc := 36) dX8_isOpen_36 ?_
    refine v_iload_n C (pc := 39) 1 dX8_isOpen_39 rfl rfl ?_
    refine ldX2_thresholds C (pc := 40) hm dX8_isOpen_40 (fun hm => ?_)
    refine v_icmp_lt C (pc := 41) hm 48 dX8_isOpen_41 rfl (fun hm => ?_) (fun hm => ?_)
    · refine v_iconst C (pc := 48) 0 dX8_isOpen_48 rfl ?_
      exact v_sub [] rfl (vX8_isOpen_49 C hr hQ (N := N) hm)
    · refine v_iconst C (pc := 44) 1 dX8_isOpen_44 rfl ?_
      refine v_goto C (pc := 45) 49 dX8_isOpen_45 rfl ?_
      exact v_sub [] rfl (vX8_isOpen_49 C hr hQ (N := N) hm)
  · refine v_bipush C (pc := 7) (-3) dX8_isOpen_7 rfl ?_
    exact v_iret C hr hQ (pc := 9) hm dX8_isOpen_9
theorem mX8_isOpen {l : Launch} {D : va_G} {ad : Nat → Nat} {cA : Nat → ClassId} (hD : ∀ S, va_D (xA ad) (xW ad cA S)) {N : Nat} {p1 : Int32} {S : St} {r : Int32 × St} (hm : fX8_isOpen N p1 S = some r) : Met l yX8_isOpen (wsm yX8_isOpen cX8_isOpen 2 (some .int)) rmX8_isOpen (va_Pc [.ref (ad 0), .int p1] (Pre D cA (xW ad cA) (xS ad) S)) (Qo D (xW ad cA) (xA ad) (some (.int r.1)) r.2) 0 0 (xA ad) := met_of [.ref (ad 0), .int p1] (by decide) (Nat.le_of_ble_eq_true rfl) hD (xS_mv ad) (xS_kp ad) (fun p e s m below meth c C hr => vX8_isOpen C hr rfl (N := N)  hm)
-- X8_moved
def rmX8_moved : Room := { frames := 5, cells := 0, slots := 0, locals := 135 }
def fX8_moved_23 (N : Nat)   (S : St) : Option (Int32 × St) := some ((-3), S)
set_option maxRecDepth 20000 in
theorem vX8_moved_23 {p : Program} {l : Launch} {e : Env} {s : State} {m : MethodId} {args : Array Value} {below : List Frame} {meth : Method} {c : Code} {Q : State → Prop} {D : va_G} {ad : Nat → Nat} {cA : Nat → ClassId} (C : Ok p s m args c D cA (xW ad cA) (xA ad) (xS ad) RX8 cX8_moved 4) (hr : Rt meth (some .int)) {r : Int32 × St} (hQ : Q = MQ below (Qo D (xW ad cA) (xA ad) (some (.int r.1)) r.2) args s 0 0 (xA ad)) {N : Nat}    {S : St} (hm : fX8_moved_23 N   S = some r) : V p l e rmX8_moved s m args below meth c Q D (xW ad cA) (xA ad) 4 S 23 [] [] := by
  unfold fX8_moved_23 at hm
  refine v_bipush C (pc := 23) (-3) dX8_moved_23 rfl ?_
  exact v_iret C hr hQ (pc := 25) hm dX8_moved_25
def fX8_moved_43 (N : Nat)  (s0 : Int32) (S : St) : Option (Int32 × St) := some (s0, S)
set_option maxRecDepth 20000 in
theorem vX8_moved_43 {p : Program} {l : Launch} {e : Env} {s : State} {m : MethodId} {args : Array Value} {below : List Frame} {meth : Method} {c : Code} {Q : State → Prop} {D : va_G} {ad : Nat → Nat} {cA : Nat → ClassId} (C : Ok p s m args c D cA (xW ad cA) (xA ad) (xS ad) RX8 cX8_moved 4) (hr : Rt meth (some .int)) {r : Int32 × St} (hQ : Q = MQ below (Qo D (xW ad cA) (xA ad) (some (.int r.1)) r.2) args s 0 0 (xA ad)) {N : Nat}  {s0 : Int32}  {S : St} (hm : fX8_moved_43 N  s0 S = some r) : V p l e rmX8_moved s m args below meth c Q D (xW ad cA) (xA ad) 4 S 43 [] [.int s0] := by
  unfold fX8_moved_43 at hm
  exact v_iret C hr hQ (pc := 43) hm dX8_moved_43
def fX8_moved (N : Nat) (p1 : Int32) (p2 : Int32) (S : St) : Option (Int32 × St) := bd (fX2_has N p1 S) fun r3 S3 => if (b2i r3) = 0 then (some ((-1), S3)) else (if p2 < 0 then (fX8_moved_23 N S3) else (if p2 < 6 then (bd (fX8_attempt N p1 p2 S3) fun r4 S4 => if r4 = 0 then (fX8_moved_43 N (-4) S4) else (fX8_moved_43 N r4 S4)) else (fX8_moved_23 N S3)))
set_option maxRecDepth 20000 in
theorem vX8_moved {p : Program} {l : Launch} {e : Env} {s : State} {m : MethodId} {args : Array Value} {below : List Frame} {meth : Method} {c : Code} {Q : State → Prop} {D : va_G} {ad : Nat → Nat} {cA : Nat → ClassId} (C : Ok p s m args c D cA (xW ad cA) (xA ad) (xS ad) RX8 cX8_moved 4) (hr : Rt meth (some .int)) {r : Int32 × St} (hQ : Q = MQ below (Qo D (xW ad cA) (xA ad) (some (.int r.1)) r.2) args s 0 0 (xA ad)) {N : Nat} {p1 : Int32} {p2 : Int32} {S : St} (hm : fX8_moved N p1 p2 S = some r) : V p l e rmX8_moved s m args below meth c Q D (xW ad cA) (xA ad) 4 S 0 [(0, .ref (ad 0)), (1, .int p1), (2, .int p2)] [] := by
  unfold fX8_moved at hm
  refine v_aload_n C (pc := 0) 0 dX8_moved_0 rfl rfl ?_
  refine gX8_19 C (pc := 1) dX8_moved_1 ?_
  refine v_iload_n C (pc := 4) 1 dX8_moved_4 rfl rfl ?_
  refine kX8_146 C (Nat.le_of_ble_eq_true rfl) (Nat.le_of_ble_eq_true rfl) (pc := 5) hm (Nat.le_of_ble_eq_true rfl) dX8_moved_5 (fun r3 S3 hm => ?_)
  refine v_if_ne C (pc := 8) hm 13 dX8_moved_8 rfl (fun hm => ?_) (fun hm => ?_)
  · refine v_iload_n C (pc := 13) 2 dX8_moved_13 rfl rfl ?_
    refine v_if_lt C (pc := 14) hm 23 dX8_moved_14 rfl (fun hm => ?_) (fun hm => ?_)
    · exact v_sub [] rfl (vX8_moved_23 C hr hQ (N := N) hm)
    · refine v_iload_n C (pc := 17) 2 dX8_moved_17 rfl rfl ?_
      refine v_bipush C (pc := 18) 6 dX8_moved_18 rfl ?_
      refine v_icmp_lt C (pc := 20) hm 26 dX8_moved_20 rfl (fun hm => ?_) (fun hm => ?_)
      · refine v_aload_n C (pc := 26) 0 dX8_moved_26 rfl rfl ?_
        refine v_iload_n C (pc := 27) 1 dX8_moved_27 rfl rfl ?_
        refine v_iload_n C (pc := 28) 2 dX8_moved_28 rfl rfl ?_
        refine kX8_102 C (Nat.le_of_ble_eq_true rfl) (Nat.le_of_ble_eq_true rfl) (pc := 29) hm (Nat.le_of_ble_eq_true rfl) dX8_moved_29 (fun r4 S4 hm => ?_)
        refine v_istore_n C (pc := 32) [(3, .int r4), (0, .ref (ad 0)), (1, .int p1), (2, .int p2)] dX8_moved_32 rfl (by decide) rfl ?_
        refine v_iload_n C (pc := 33) 0 dX8_moved_33 rfl rfl ?_
        refine v_if_ne C (pc := 34) hm 42 dX8_moved_34 rfl (fun hm => ?_) (fun hm => ?_)
        · refine v_iload_n C (pc := 42) 0 dX8_moved_42 rfl rfl ?_
          exact v_sub [] rfl (vX8_moved_43 C hr hQ (N := N) hm)
        · refine v_bipush C (pc := 37) (-4) dX8_moved_37 rfl ?_
          refine v_goto C (pc := 39) 43 dX8_moved_39 rfl ?_
          exact v_sub [] rfl (vX8_moved_43 C hr hQ (N := N) hm)
      · exact v_sub [] rfl (vX8_moved_23 C hr hQ (N := N) hm)
  · refine v_iconst C (pc := 11) (-1) dX8_moved_11 rfl ?_
    exact v_iret C hr hQ (pc := 12) hm dX8_moved_12
theorem mX8_moved {l : Launch} {D : va_G} {ad : Nat → Nat} {cA : Nat → ClassId} (hD : ∀ S, va_D (xA ad) (xW ad cA S)) {N : Nat} {p1 : Int32} {p2 : Int32} {S : St} {r : Int32 × St} (hm : fX8_moved N p1 p2 S = some r) : Met l yX8_moved (wsm yX8_moved cX8_moved 4 (some .int)) rmX8_moved (va_Pc [.ref (ad 0), .int p1, .int p2] (Pre D cA (xW ad cA) (xS ad) S)) (Qo D (xW ad cA) (xA ad) (some (.int r.1)) r.2) 0 0 (xA ad) := met_of [.ref (ad 0), .int p1, .int p2] (by decide) (Nat.le_of_ble_eq_true rfl) hD (xS_mv ad) (xS_kp ad) (fun p e s m below meth c C hr => vX8_moved C hr rfl (N := N)  hm)
-- X8_move
theorem infX8_moved : InfV yX8_moved cX8_moved 4 (some .int) 2 := ⟨⟨gm (i := 55) (by decide +kernel) rfl, gm (i := 677) (by decide +kernel) rfl, by decide +kernel⟩, gm (i := 675) (by decide +kernel) rfl, gm (i := 676) (by decide +kernel) rfl⟩
theorem kX8_212 {p : Program} {l : Launch} {e : Env} {R : Room} {s : State} {m : MethodId} {args : Array Value} {below : List Frame} {meth : Method} {c : Code} {Q : State → Prop} {D : va_G} {ad : Nat → Nat} {cA : Nat → ClassId} {cc : ByteArray} {nL : Nat} {S : St} {pc : Nat} {lv : List (Nat × Value)} {st : List Value} {ρ : Type} {res : ρ} (C : Ok p s m args c D cA (xW ad cA) (xA ad) (xS ad) RX8 cc nL) (hfr : rmX8_moved.frames + 1 ≤ R.frames) (hlo : 8 + (4 + 11) + rmX8_moved.locals ≤ R.locals) {N : Nat} {p1 : Int32} {p2 : Int32} {E : Int32 → St → Option ρ} (hm : bd (fX8_moved N p1 p2 S) E = some res) (hcat : (st.map fun v => v.category).sum ≤ 8) (hd : decode cc pc = .ok (.invokevirtual 212, 3)) (k : ∀ r S, E r S = some res → V p l e R s m args below meth c Q D (xW ad cA) (xA ad) nL S (pc + 3) lv (.int r :: st)) : V p l e R s m args below meth c Q D (xW ad cA) (xA ad) nL S pc lv (.int p2 :: .int p1 :: .ref (ad 0) :: st) := by
  obtain ⟨r, S1, h1, h2⟩ := bd_some hm
  exact v_callV C (gm (i := 682) (by decide +kernel) rfl : Cond.methodLink RX8 212 yX8_moved ∈ gw_tbl) infX8_moved (rm2 := rmX8_moved) ⟨rfl, rfl⟩ hfr hlo (mX8_moved C.2.2.2.2.2.2.1 h1) (As := [.int p1, .int p2]) (oX8 ad cA S) rfl rfl rfl rfl hcat hd (k r S1 h2)
def rmX8_move : Room := { frames := 6, cells := 0, slots := 0, locals := 158 }
def fX8_move (N : Nat) (p1 : Int32) (p2 : Int32) (S : St) : Option (Int32 × St) := bd (fX8_moved N p1 p2 S) fun r3 S3 => if 0 ≤ r3 then (if (S3.1 28) < 200 then (bd (fX8_makeMove N p1 p2 r3 S3) fun r4 S4 => some ((S4.1 28), S4)) else (some ((-5), S3))) else (some (r3, S3))
set_option maxRecDepth 20000 in
theorem vX8_move {p : Program} {l : Launch} {e : Env} {s : State} {m : MethodId} {args : Array Value} {below : List Frame} {meth : Method} {c : Code} {Q : State → Prop} {D : va_G} {ad : Nat → Nat} {cA : Nat → ClassId} (C : Ok p s m args c D cA (xW ad cA) (xA ad) (xS ad) RX8 cX8_move 4) (hr : Rt meth (some .int)) {r : Int32 × St} (hQ : Q = MQ below (Qo D (xW ad cA) (xA ad) (some (.int r.1)) r.2) args s 0 0 (xA ad)) {N : Nat} {p1 : Int32} {p2 : Int32} {S : St} (hm : fX8_move N p1 p2 S = some r) : V p l e rmX8_move s m args below meth c Q D (xW ad cA) (xA ad) 4 S 0 [(0, .ref (ad 0)), (1, .int p1), (2, .int p2)] [] := by
  unfold fX8_move at hm
  refine v_aload_n C (pc := 0) 0 dX8_move_0 rfl rfl ?_
  refine v_iload_n C (pc := 1) 1 dX8_move_1 rfl rfl ?_
  refine v_iload_n C (pc := 2) 2 dX8_move_2 rfl rfl ?_
  refine kX8_212 C (Nat.le_of_ble_eq_true rfl) (Nat.le_of_ble_eq_true rfl) (pc := 3) hm (Nat.le_of_ble_eq_true rfl) dX8_move_3 (fun r3 S3 hm => ?_)
  refine v_istore_n C (pc := 6) [(3, .int r3), (0, .ref (ad 0)), (1, .int p1), (2, .int p2)] dX8_move_6 rfl (by decide) rfl ?_
  refine v_iload_n C (pc := 7) 0 dX8_move_7 rfl rfl ?_
  refine v_if_ge C (pc := 8) hm 13 dX8_move_8 rfl (fun hm => ?_) (fun hm => ?_)
  · refine v_aload_n C (pc := 13) 1 dX8_move_13 rfl rfl ?_
    refine gX8_44 C (pc := 14) dX8_move_14 ?_
    refine gX8_91 C (pc := 17) dX8_move_17 ?_
    refine v_sipush C (pc := 20) 200 dX8_move_20 rfl ?_
    refine v_icmp_lt C (pc := 23) hm 29 dX8_move_23 rfl (fun hm => ?_) (fun hm => ?_)
    · refine v_aload_n C (pc := 29) 1 dX8_move_29 rfl rfl ?_
      refine v_iload_n C (pc := 30) 2 dX8_move_30 rfl rfl ?_
      refine v_iload_n C (pc := 31) 3 dX8_move_31 rfl rfl ?_
      refine v_iload_n C (pc := 32) 0 dX8_move_32 rfl rfl ?_
      refine kX8_106 C (Nat.le_of_ble_eq_true rfl) (Nat.le_of_ble_eq_true rfl) (pc := 33) hm (Nat.le_of_ble_eq_true rfl) dX8_move_33 (fun r4 S4 hm => ?_)
      refine v_aload_n C (pc := 36) 1 dX8_move_36 rfl rfl ?_
      refine gX8_44 C (pc := 37) dX8_move_37 ?_
      refine gX8_91 C (pc := 40) dX8_move_40 ?_
      exact v_iret C hr hQ (pc := 43) hm dX8_move_43
    · refine v_bipush C (pc := 26) (-5) dX8_move_26 rfl ?_
      exact v_iret C hr hQ (pc := 28) hm dX8_move_28
  · refine v_iload_n C (pc := 11) 0 dX8_move_11 rfl rfl ?_
    exact v_iret C hr hQ (pc := 12) hm dX8_move_12
theorem mX8_move {l : Launch} {D : va_G} {ad : Nat → Nat} {cA : Nat → ClassId} (hD : ∀ S, va_D (xA ad) (xW ad cA S)) {N : Nat} {p1 : Int32} {p2 : Int32} {S : St} {r : Int32 × St} (hm : fX8_move N p1 p2 S = some r) : Met l yX8_move (wsm yX8_move cX8_move 4 (some .int)) rmX8_move (va_Pc [.ref (ad 0), .int p1, .int p2] (Pre D cA (xW ad cA) (xS ad) S)) (Qo D (xW ad cA) (xA ad) (some (.int r.1)) r.2) 0 0 (xA ad) := met_of [.ref (ad 0), .int p1, .int p2] (by decide) (Nat.le_of_ble_eq_true rfl) hD (xS_mv ad) (xS_kp ad) (fun p e s m below meth c C hr => vX8_move C hr rfl (N := N)  hm)
-- X8_possibleCount
def rmX8_possibleCount : Room := { frames := 4, cells := 0, slots := 0, locals := 113 }
def fX8_possibleCount_46 (N : Nat) (k18 : Int32 → Int32 → St → Option (Int32 × St)) (k25 : Int32 → Int32 → Int32 → St → Option (Int32 × St)) (x1 : Int32) (x2 : Int32) (x3 : Int32) (S : St) : Option (Int32 × St) := k25 x1 x2 (x3 + 1) S
set_option maxRecDepth 20000 in
theorem vX8_possibleCount_46 {p : Program} {l : Launch} {e : Env} {s : State} {m : MethodId} {args : Array Value} {below : List Frame} {meth : Method} {c : Code} {Q : State → Prop} {D : va_G} {ad : Nat → Nat} {cA : Nat → ClassId} (C : Ok p s m args c D cA (xW ad cA) (xA ad) (xS ad) RX8 cX8_possibleCount 4) (hr : Rt meth (some .int)) {r : Int32 × St} (hQ : Q = MQ below (Qo D (xW ad cA) (xA ad) (some (.int r.1)) r.2) args s 0 0 (xA ad)) {N : Nat} {k18 : Int32 → Int32 → St → Option (Int32 × St)} (hk18 : ∀ (x1 : Int32) (x2 : Int32) (S : St), k18 x1 x2 S = some r → V p l e rmX8_possibleCount s m args below meth c Q D (xW ad cA) (xA ad) 4 S 18 [(0, .ref (ad 0)), (1, .int x1), (2, .int x2)] []) {k25 : Int32 → Int32 → Int32 → St → Option (Int32 × St)} (hk25 : ∀ (x1 : Int32) (x2 : Int32) (x3 : Int32) (S : St), k25 x1 x2 x3 S = some r → V p l e rmX8_possibleCount s m args below meth c Q D (xW ad cA) (xA ad) 4 S 25 [(0, .ref (ad 0)), (1, .int x1), (2, .int x2), (3, .int x3)] []) {x1 : Int32} {x2 : Int32} {x3 : Int32}  {S : St} (hm : fX8_possibleCount_46 N k18 k25 x1 x2 x3 S = some r) : V p l e rmX8_possibleCount s m args below meth c Q D (xW ad cA) (xA ad) 4 S 46 [(0, .ref (ad 0)), (1, .int x1), (2, .int x2), (3, .int x3)] [] := by
  unfold fX8_possibleCount_46 at hm
  refine v_iinc C (pc := 46) 1 3 [(3, .int (x3 + 1)), (0, .ref (ad 0)), (1, .int x1), (2, .int x2)] dX8_possibleCount_46 rfl rfl (by decide) rfl ?_
  refine v_goto C (pc := 49) 25 dX8_possibleCount_49 rfl ?_
  exact v_sub [1, 2, 3, 0] rfl (hk25 _ _ _ _ hm)
def fX8_possibleCount_25b (N : Nat) (k18 : Int32 → Int32 → St → Option (Int32 × St)) (k25 : Int32 → Int32 → Int32 → St → Option (Int32 × St)) (x1 : Int32) (x2 : Int32) (x3 : Int32) (S : St) : Option (Int32 × St) := if 6 ≤ x3 then (k18 x1 (x2 + 1) S) else (bd (fX4_attempt N 0 x2 x3 S) fun r6 S6 => if r6 = 0 then (fX8_possibleCount_46 N k18 k25 x1 x2 x3 S6) else (fX8_possibleCount_46 N k18 k25 (x1 + 1) x2 x3 S6))
def fX8_possibleCount_25 (N : Nat) (k18 : Int32 → Int32 → St → Option (Int32 × St)) : Nat → Int32 → Int32 → Int32 → St → Option (Int32 × St)
  | 0 => fun _ _ _ _ => none
  | n + 1 => fun x1 x2 x3 S => fX8_possibleCount_25b N k18 (fX8_possibleCount_25 N k18 n) x1 x2 x3 S
set_option maxRecDepth 20000 in
theorem vX8_possibleCount_25b {p : Program} {l : Launch} {e : Env} {s : State} {m : MethodId} {args : Array Value} {below : List Frame} {meth : Method} {c : Code} {Q : State → Prop} {D : va_G} {ad : Nat → Nat} {cA : Nat → ClassId} (C : Ok p s m args c D cA (xW ad cA) (xA ad) (xS ad) RX8 cX8_possibleCount 4) (hr : Rt meth (some .int)) {r : Int32 × St} (hQ : Q = MQ below (Qo D (xW ad cA) (xA ad) (some (.int r.1)) r.2) args s 0 0 (xA ad)) {N : Nat} {k18 : Int32 → Int32 → St → Option (Int32 × St)} (hk18 : ∀ (x1 : Int32) (x2 : Int32) (S : St), k18 x1 x2 S = some r → V p l e rmX8_possibleCount s m args below meth c Q D (xW ad cA) (xA ad) 4 S 18 [(0, .ref (ad 0)), (1, .int x1), (2, .int x2)] []) {k25 : Int32 → Int32 → Int32 → St → Option (Int32 × St)} (hk25 : ∀ (x1 : Int32) (x2 : Int32) (x3 : Int32) (S : St), k25 x1 x2 x3 S = some r → V p l e rmX8_possibleCount s m args below meth c Q D (xW ad cA) (xA ad) 4 S 25 [(0, .ref (ad 0)), (1, .int x1), (2, .int x2), (3, .int x3)] []) {x1 : Int32} {x2 : Int32} {x3 : Int32}  {S : St} (hm : fX8_possibleCount_25b N k18 k25 x1 x2 x3 S = some r) : V p l e rmX8_possibleCount s m args below meth c Q D (xW ad cA) (xA ad) 4 S 25 [(0, .ref (ad 0)), (1, .int x1), (2, .int x2), (3, .int x3)] [] := by
  unfold fX8_possibleCount_25b at hm
  refine v_iload_n C (pc := 25) 3 dX8_possibleCount_25 rfl rfl ?_
  refine v_bipush C (pc := 26) 6 dX8_possibleCount_26 rfl ?_
  refine v_icmp_ge C (pc := 28) hm 52 dX8_possibleCount_28 rfl (fun hm => ?_) (fun hm => ?_)
  · refine v_iinc C (pc := 52) 1 2 [(2, .int (x2 + 1)), (0, .ref (ad 0)), (1, .int x1), (3, .int x3)] dX8_possibleCount_52 rfl rfl (by decide) rfl ?_
    refine v_goto C (pc := 55) 18 dX8_possibleCount_55 rfl ?_
    exact v_sub [1, 2, 0] rfl (hk18 _ _ _ hm)
  · refine v_aload_n C (pc := 31) 0 dX8_possibleCount_31 rfl rfl ?_
    refine gX8_37 C (pc := 32) dX8_possibleCount_32 ?_
    refine v_iload_n C (pc := 35) 2 dX8_possibleCount_35 rfl rfl ?_
    refine v_iload_n C (pc := 36) 3 dX8_possibleCount_36 rfl rfl ?_
    refine kX8_215 C (Nat.le_of_ble_eq_true rfl) (Nat.le_of_ble_eq_true rfl) (i := 0) (by decide) (pc := 37) hm (Nat.le_of_ble_eq_true rfl) dX8_possibleCount_37 (fun r6 S6 hm => ?_)
    refine v_if_eq C (pc := 40) hm 46 dX8_possibleCount_40 rfl (fun hm => ?_) (fun hm => ?_)
    · exact (vX8_possibleCount_46 C hr hQ (N := N) hk18 hk25 hm)
    · refine v_iinc C (pc := 43) 1 1 [(1, .int (x1 + 1)), (0, .ref (ad 0)), (2, .int x2), (3, .int x3)] dX8_possibleCount_43 rfl rfl (by decide) rfl ?_
      exact v_sub [1, 0, 2, 3] rfl (vX8_possibleCount_46 C hr hQ (N := N) hk18 hk25 hm)
theorem vX8_possibleCount_25 {p : Program} {l : Launch} {e : Env} {s : State} {m : MethodId} {args : Array Value} {below : List Frame} {meth : Method} {c : Code} {Q : State → Prop} {D : va_G} {ad : Nat → Nat} {cA : Nat → ClassId} (C : Ok p s m args c D cA (xW ad cA) (xA ad) (xS ad) RX8 cX8_possibleCount 4) (hr : Rt meth (some .int)) {r : Int32 × St} (hQ : Q = MQ below (Qo D (xW ad cA) (xA ad) (some (.int r.1)) r.2) args s 0 0 (xA ad)) {N : Nat} {k18 : Int32 → Int32 → St → Option (Int32 × St)} (hk18 : ∀ (x1 : Int32) (x2 : Int32) (S : St), k18 x1 x2 S = some r → V p l e rmX8_possibleCount s m args below meth c Q D (xW ad cA) (xA ad) 4 S 18 [(0, .ref (ad 0)), (1, .int x1), (2, .int x2)] []) (n : Nat) : ∀ (x1 : Int32) (x2 : Int32) (x3 : Int32) (S : St), fX8_possibleCount_25 N k18 n x1 x2 x3 S = some r → V p l e rmX8_possibleCount s m args below meth c Q D (xW ad cA) (xA ad) 4 S 25 [(0, .ref (ad 0)), (1, .int x1), (2, .int x2), (3, .int x3)] [] := by
  induction n with
  | zero => intro _ _ _ _  hm; exact absurd hm (by intro h; cases h)
  | succ n ih => intro _ _ _ _  hm; exact vX8_possibleCount_25b C hr hQ (N := N)  hk18 ih  hm
def fX8_possibleCount_18b (N : Nat)  (k18 : Int32 → Int32 → St → Option (Int32 × St)) (x1 : Int32) (x2 : Int32) (S : St) : Option (Int32 × St) := if 5 ≤ x2 then (some (x1, S)) else (fX8_possibleCount_25 N k18 N x1 x2 0 S)
def fX8_possibleCount_18 (N : Nat)  : Nat → Int32 → Int32 → St → Option (Int32 × St)
  | 0 => fun _ _ _ => none
  | n + 1 => fun x1 x2 S => fX8_possibleCount_18b N  (fX8_possibleCount_18 N  n) x1 x2 S
set_option maxRecDepth 20000 in
theorem vX8_possibleCount_18b {p : Program} {l : Launch} {e : Env} {s : State} {m : MethodId} {args : Array Value} {below : List Frame} {meth : Method} {c : Code} {Q : State → Prop} {D : va_G} {ad : Nat → Nat} {cA : Nat → ClassId} (C : Ok p s m args c D cA (xW ad cA) (xA ad) (xS ad) RX8 cX8_possibleCount 4) (hr : Rt meth (some .int)) {r : Int32 × St} (hQ : Q = MQ below (Qo D (xW ad cA) (xA ad) (some (.int r.1)) r.2) args s 0 0 (xA ad)) {N : Nat}  {k18 : Int32 → Int32 → St → Option (Int32 × St)} (hk18 : ∀ (x1 : Int32) (x2 : Int32) (S : St), k18 x1 x2 S = some r → V p l e rmX8_possibleCount s m args below meth c Q D (xW ad cA) (xA ad) 4 S 18 [(0, .ref (ad 0)), (1, .int x1), (2, .int x2)] []) {x1 : Int32} {x2 : Int32}  {S : St} (hm : fX8_possibleCount_18b N  k18 x1 x2 S = some r) : V p l e rmX8_possibleCount s m args below meth c Q D (xW ad cA) (xA ad) 4 S 18 [(0, .ref (ad 0)), (1, .int x1), (2, .int x2)] [] := by
  unfold fX8_possibleCount_18b at hm
  refine v_iload_n C (pc := 18) 2 dX8_possibleCount_18 rfl rfl ?_
  refine v_iconst C (pc := 19) 5 dX8_possibleCount_19 rfl ?_
  refine v_icmp_ge C (pc := 20) hm 58 dX8_possibleCount_20 rfl (fun hm => ?_) (fun hm => ?_)
  · refine v_iload_n C (pc := 58) 1 dX8_possibleCount_58 rfl rfl ?_
    exact v_iret C hr hQ (pc := 59) hm dX8_possibleCount_59
  · refine v_iconst C (pc := 23) 0 dX8_possibleCount_23 rfl ?_
    refine v_istore_n C (pc := 24) [(3, .int 0), (0, .ref (ad 0)), (1, .int x1), (2, .int x2)] dX8_possibleCount_24 rfl (by decide) rfl ?_
    exact v_sub [1, 2, 3, 0] rfl (vX8_possibleCount_25 C hr hQ (N := N) hk18 N _ _ _ _ hm)
theorem vX8_possibleCount_18 {p : Program} {l : Launch} {e : Env} {s : State} {m : MethodId} {args : Array Value} {below : List Frame} {meth : Method} {c : Code} {Q : State → Prop} {D : va_G} {ad : Nat → Nat} {cA : Nat → ClassId} (C : Ok p s m args c D cA (xW ad cA) (xA ad) (xS ad) RX8 cX8_possibleCount 4) (hr : Rt meth (some .int)) {r : Int32 × St} (hQ : Q = MQ below (Qo D (xW ad cA) (xA ad) (some (.int r.1)) r.2) args s 0 0 (xA ad)) {N : Nat}  (n : Nat) : ∀ (x1 : Int32) (x2 : Int32) (S : St), fX8_possibleCount_18 N  n x1 x2 S = some r → V p l e rmX8_possibleCount s m args below meth c Q D (xW ad cA) (xA ad) 4 S 18 [(0, .ref (ad 0)), (1, .int x1), (2, .int x2)] [] := by
  induction n with
  | zero => intro _ _ _  hm; exact absurd hm (by intro h; cases h)
  | succ n ih => intro _ _ _  hm; exact vX8_possibleCount_18b C hr hQ (N := N)   ih  hm
def fX8_possibleCount (N : Nat)  (S : St) : Option (Int32 × St) := bd (fX1_present N  S) fun r7 S7 => bd (fX4_stand N 0 r7 S7) fun r8 S8 => fX8_possibleCount_18 N N 0 0 S8
set_option maxRecDepth 20000 in
theorem vX8_possibleCount {p : Program} {l : Launch} {e : Env} {s : State} {m : MethodId} {args : Array Value} {below : List Frame} {meth : Method} {c : Code} {Q : State → Prop} {D : va_G} {ad : Nat → Nat} {cA : Nat → ClassId} (C : Ok p s m args c D cA (xW ad cA) (xA ad) (xS ad) RX8 cX8_possibleCount 4) (hr : Rt meth (some .int)) {r : Int32 × St} (hQ : Q = MQ below (Qo D (xW ad cA) (xA ad) (some (.int r.1)) r.2) args s 0 0 (xA ad)) {N : Nat}  {S : St} (hm : fX8_possibleCount N  S = some r) : V p l e rmX8_possibleCount s m args below meth c Q D (xW ad cA) (xA ad) 4 S 0 [(0, .ref (ad 0))] [] := by
  unfold fX8_possibleCount at hm
  refine v_aload_n C (pc := 0) 0 dX8_possibleCount_0 rfl rfl ?_
  refine gX8_37 C (pc := 1) dX8_possibleCount_1 ?_
  refine v_aload_n C (pc := 4) 0 dX8_possibleCount_4 rfl rfl ?_
  refine gX8_44 C (pc := 5) dX8_possibleCount_5 ?_
  refine kX8_132 C (Nat.le_of_ble_eq_true rfl) (Nat.le_of_ble_eq_true rfl) (pc := 8) hm (Nat.le_of_ble_eq_true rfl) dX8_possibleCount_8 (fun r7 S7 hm => ?_)
  refine kX8_136 C (Nat.le_of_ble_eq_true rfl) (Nat.le_of_ble_eq_true rfl) (i := 0) (by decide) (pc := 11) hm (Nat.le_of_ble_eq_true rfl) dX8_possibleCount_11 (fun r8 S8 hm => ?_)
  refine v_iconst C (pc := 14) 0 dX8_possibleCount_14 rfl ?_
  refine v_istore_n C (pc := 15) [(1, .int 0), (0, .ref (ad 0))] dX8_possibleCount_15 rfl (by decide) rfl ?_
  refine v_iconst C (pc := 16) 0 dX8_possibleCount_16 rfl ?_
  refine v_istore_n C (pc := 17) [(2, .int 0), (1, .int 0), (0, .ref (ad 0))] dX8_possibleCount_17 rfl (by decide) rfl ?_
  exact v_sub [2, 1, 0] rfl (vX8_possibleCount_18 C hr hQ (N := N) N _ _ _ hm)
theorem mX8_possibleCount {l : Launch} {D : va_G} {ad : Nat → Nat} {cA : Nat → ClassId} (hD : ∀ S, va_D (xA ad) (xW ad cA S)) {N : Nat}  {S : St} {r : Int32 × St} (hm : fX8_possibleCount N  S = some r) : Met l yX8_possibleCount (wsm yX8_possibleCount cX8_possibleCount 4 (some .int)) rmX8_possibleCount (va_Pc [.ref (ad 0)] (Pre D cA (xW ad cA) (xS ad) S)) (Qo D (xW ad cA) (xA ad) (some (.int r.1)) r.2) 0 0 (xA ad) := met_of [.ref (ad 0)] (by decide) (Nat.le_of_ble_eq_true rfl) hD (xS_mv ad) (xS_kp ad) (fun p e s m below meth c C hr => vX8_possibleCount C hr rfl (N := N)  hm)
