-- X0_dropGoal
theorem infJ7_fill_53178 : InfS yJ7_fill_53178 cJ7_fill_53178 4 none 2 := ⟨⟨gm (i := 60) (by decide +kernel) rfl, gm (i := 182) (by decide +kernel) rfl, by decide +kernel⟩, gm (i := 181) (by decide +kernel) rfl⟩
theorem kfX0_41_X0_distances {p : Program} {l : Launch} {e : Env} {R : Room} {s : State} {m : MethodId} {args : Array Value} {below : List Frame} {meth : Method} {c : Code} {Q : State → Prop} {D : va_G} {ad : Nat → Nat} {cA : Nat → ClassId} {cc : ByteArray} {nL : Nat} {S : St} {pc : Nat} {lv : List (Nat × Value)} {st : List Value} {ρ : Type} {res : ρ} (C : Ok p s m args c D cA (xW ad cA) (xA ad) (xS ad) RX0 cc nL) {i : Nat} (hi : i < 5) (hfr : 0 + 1 ≤ R.frames) (hlo : 8 + (4 + 11) + 0 ≤ R.locals) {x : Int32} {E : St → Option ρ} (hm : stp (fA S (14 + i) (fil 256 x (S.2.2.1 (14 + i)))) E = some res) (hcat : (st.map fun v => v.category).sum ≤ 8) (hd : decode cc pc = .ok (.invokestatic 41, 3)) (k : ∀ S, E S = some res → V p l e R s m args below meth c Q D (xW ad cA) (xA ad) nL S (pc + 3) lv st) : V p l e R s m args below meth c Q D (xW ad cA) (xA ad) nL S pc lv (.int x :: .ref (ad (38 + i)) :: st) := v_callS C (gm (i := 445) (by decide +kernel) rfl : Cond.methodLink RX0 41 yJ7_fill_53178 ∈ gw_tbl) infJ7_fill_53178 (rm2 := rmZ) ⟨rfl, rfl⟩ hfr hlo (met_fillI C.2.2.2.2.2.2.1 C.2.2.2.2.2.2.2.2.1 C.2.2.2.2.2.2.2.2.2 (by decide) (fun S => aX0_distances ad cA i hi S) (fun S g => wX0_distances ad cA i hi S g) S x) (As := [.ref (ad (38 + i)), .int x]) rfl rfl hcat hd (k _ hm)
def rmX0_dropGoal : Room := { frames := 1, cells := 0, slots := 0, locals := 23 }
def fX0_dropGoal (N : Nat) (i0 : Nat)  (S : St) : Option (Unit × St) := stp (sI S (15 + i0) (-1)) fun S4 => stp (sI S4 (20 + i0) 4) fun S5 => stp (fA S5 (14 + i0) (fil 256 0 (S5.2.2.1 (14 + i0)))) fun S6 => some ((), S6)
set_option maxRecDepth 20000 in
theorem vX0_dropGoal {p : Program} {l : Launch} {e : Env} {s : State} {m : MethodId} {args : Array Value} {below : List Frame} {meth : Method} {c : Code} {Q : State → Prop} {D : va_G} {ad : Nat → Nat} {cA : Nat → ClassId} (C : Ok p s m args c D cA (xW ad cA) (xA ad) (xS ad) RX0 cX0_dropGoal 1) (hr : Rt meth none) {r : Unit × St} (hQ : Q = MQ below (Qo D (xW ad cA) (xA ad) (none) r.2) args s 0 0 (xA ad)) {N : Nat} {i0 : Nat} (hi0 : i0 < 5)  {S : St} (hm : fX0_dropGoal N i0  S = some r) : V p l e rmX0_dropGoal s m args below meth c Q D (xW ad cA) (xA ad) 1 S 0 [(0, .ref (ad (4 + i0)))] [] := by
  unfold fX0_dropGoal at hm
  refine v_aload_n C (pc := 0) 0 dX0_dropGoal_0 rfl rfl ?_
  refine v_iconst C (pc := 1) (-1) dX0_dropGoal_1 rfl ?_
  refine pX0_32 C hi0 (pc := 2) hm dX0_dropGoal_2 (fun S4 hm => ?_)
  refine v_aload_n C (pc := 5) 0 dX0_dropGoal_5 rfl rfl ?_
  refine v_iconst C (pc := 6) 4 dX0_dropGoal_6 rfl ?_
  refine pX0_35 C hi0 (pc := 7) hm dX0_dropGoal_7 (fun S5 hm => ?_)
  refine v_aload_n C (pc := 10) 0 dX0_dropGoal_10 rfl rfl ?_
  refine gX0_22 C hi0 (pc := 11) dX0_dropGoal_11 ?_
  refine v_iconst C (pc := 14) 0 dX0_dropGoal_14 rfl ?_
  refine kfX0_41_X0_distances C hi0 (Nat.le_of_ble_eq_true rfl) (Nat.le_of_ble_eq_true rfl) (pc := 15) hm (Nat.le_of_ble_eq_true rfl) dX0_dropGoal_15 (fun S6 hm => ?_)
  exact v_vret C hr hQ (x := ()) (pc := 18) hm dX0_dropGoal_18
theorem mX0_dropGoal {l : Launch} {D : va_G} {ad : Nat → Nat} {cA : Nat → ClassId} (hD : ∀ S, va_D (xA ad) (xW ad cA S)) {N : Nat} {i0 : Nat} (hi0 : i0 < 5)  {S : St} {r : Unit × St} (hm : fX0_dropGoal N i0  S = some r) : Met l yX0_dropGoal (wsm yX0_dropGoal cX0_dropGoal 1 none) rmX0_dropGoal (va_Pc [.ref (ad (4 + i0))] (Pre D cA (xW ad cA) (xS ad) S)) (Qo D (xW ad cA) (xA ad) (none) r.2) 0 0 (xA ad) := met_of [.ref (ad (4 + i0))] (by decide) (Nat.le_of_ble_eq_true rfl) hD (xS_mv ad) (xS_kp ad) (fun p e s m below meth c C hr => vX0_dropGoal C hr rfl (N := N) hi0 hm)
-- X0_clear
theorem infX0_dropGoal : InfV yX0_dropGoal cX0_dropGoal 1 none 0 := ⟨⟨gm (i := 59) (by decide +kernel) rfl, gm (i := 444) (by decide +kernel) rfl, by decide +kernel⟩, gm (i := 442) (by decide +kernel) rfl, gm (i := 443) (by decide +kernel) rfl⟩
theorem kX0_38 {p : Program} {l : Launch} {e : Env} {R : Room} {s : State} {m : MethodId} {args : Array Value} {below : List Frame} {meth : Method} {c : Code} {Q : State → Prop} {D : va_G} {ad : Nat → Nat} {cA : Nat → ClassId} {cc : ByteArray} {nL : Nat} {S : St} {pc : Nat} {lv : List (Nat × Value)} {st : List Value} {ρ : Type} {res : ρ} (C : Ok p s m args c D cA (xW ad cA) (xA ad) (xS ad) RX0 cc nL) (hfr : rmX0_dropGoal.frames + 1 ≤ R.frames) (hlo : 8 + (1 + 11) + rmX0_dropGoal.locals ≤ R.locals) {i : Nat} (hi : i < 5) {N : Nat}  {E : Unit → St → Option ρ} (hm : bd (fX0_dropGoal N i S) E = some res) (hcat : (st.map fun v => v.category).sum ≤ 8) (hd : decode cc pc = .ok (.invokevirtual 38, 3)) (k : ∀ r S, E r S = some res → V p l e R s m args below meth c Q D (xW ad cA) (xA ad) nL S (pc + 3) lv (st)) : V p l e R s m args below meth c Q D (xW ad cA) (xA ad) nL S pc lv (.ref (ad (4 + i)) :: st) := by
  obtain ⟨r, S1, h1, h2⟩ := bd_some hm
  exact v_callV C (gm (i := 441) (by decide +kernel) rfl : Cond.methodLink RX0 38 yX0_dropGoal ∈ gw_tbl) infX0_dropGoal (rm2 := rmX0_dropGoal) ⟨rfl, rfl⟩ hfr hlo (mX0_dropGoal C.2.2.2.2.2.2.1 hi h1) (As := []) (oX0 ad cA i hi S) rfl rfl rfl rfl hcat hd (k r S1 h2)
def rmX0_clear : Room := { frames := 2, cells := 0, slots := 0, locals := 43 }
def fX0_clear (N : Nat) (i0 : Nat)  (S : St) : Option (Unit × St) := stp (sI S (5 + i0) 0) fun S4 => stp (sI S4 (10 + i0) 1) fun S5 => bd (fX0_dropGoal N i0 S5) fun r2 S6 => some ((), S6)
set_option maxRecDepth 20000 in
theorem vX0_clear {p : Program} {l : Launch} {e : Env} {s : State} {m : MethodId} {args : Array Value} {below : List Frame} {meth : Method} {c : Code} {Q : State → Prop} {D : va_G} {ad : Nat → Nat} {cA : Nat → ClassId} (C : Ok p s m args c D cA (xW ad cA) (xA ad) (xS ad) RX0 cX0_clear 1) (hr : Rt meth none) {r : Unit × St} (hQ : Q = MQ below (Qo D (xW ad cA) (xA ad) (none) r.2) args s 0 0 (xA ad)) {N : Nat} {i0 : Nat} (hi0 : i0 < 5)  {S : St} (hm : fX0_clear N i0  S = some r) : V p l e rmX0_clear s m args below meth c Q D (xW ad cA) (xA ad) 1 S 0 [(0, .ref (ad (4 + i0)))] [] := by
  unfold fX0_clear at hm
  refine v_aload_n C (pc := 0) 0 dX0_clear_0 rfl rfl ?_
  refine v_iconst C (pc := 1) 0 dX0_clear_1 rfl ?_
  refine pX0_25 C hi0 (pc := 2) hm dX0_clear_2 (fun S4 hm => ?_)
  refine v_aload_n C (pc := 5) 0 dX0_clear_5 rfl rfl ?_
  refine v_iconst C (pc := 6) 1 dX0_clear_6 rfl ?_
  refine pX0_29 C hi0 (pc := 7) hm dX0_clear_7 (fun S5 hm => ?_)
  refine v_aload_n C (pc := 10) 0 dX0_clear_10 rfl rfl ?_
  refine kX0_38 C (Nat.le_of_ble_eq_true rfl) (Nat.le_of_ble_eq_true rfl) hi0 (pc := 11) hm (Nat.le_of_ble_eq_true rfl) dX0_clear_11 (fun r2 S6 hm => ?_)
  exact v_vret C hr hQ (x := ()) (pc := 14) hm dX0_clear_14
theorem mX0_clear {l : Launch} {D : va_G} {ad : Nat → Nat} {cA : Nat → ClassId} (hD : ∀ S, va_D (xA ad) (xW ad cA S)) {N : Nat} {i0 : Nat} (hi0 : i0 < 5)  {S : St} {r : Unit × St} (hm : fX0_clear N i0  S = some r) : Met l yX0_clear (wsm yX0_clear cX0_clear 1 none) rmX0_clear (va_Pc [.ref (ad (4 + i0))] (Pre D cA (xW ad cA) (xS ad) S)) (Qo D (xW ad cA) (xA ad) (none) r.2) 0 0 (xA ad) := met_of [.ref (ad (4 + i0))] (by decide) (Nat.le_of_ble_eq_true rfl) hD (xS_mv ad) (xS_kp ad) (fun p e s m below meth c C hr => vX0_clear C hr rfl (N := N) hi0 hm)
-- X0_hasGoal
def rmX0_hasGoal : Room := { frames := 0, cells := 0, slots := 0, locals := 0 }
def fX0_hasGoal_13 (N : Nat) (i0 : Nat)  (s0 : Bool) (S : St) : Option (Bool × St) := some (s0, S)
set_option maxRecDepth 20000 in
theorem vX0_hasGoal_13 {p : Program} {l : Launch} {e : Env} {s : State} {m : MethodId} {args : Array Value} {below : List Frame} {meth : Method} {c : Code} {Q : State → Prop} {D : va_G} {ad : Nat → Nat} {cA : Nat → ClassId} (C : Ok p s m args c D cA (xW ad cA) (xA ad) (xS ad) RX0 cX0_hasGoal 1) (hr : Rt meth (some .boolean)) {r : Bool × St} (hQ : Q = MQ below (Qo D (xW ad cA) (xA ad) (some (.int (b2i r.1))) r.2) args s 0 0 (xA ad)) {N : Nat} {i0 : Nat} (hi0 : i0 < 5)  {s0 : Bool}  {S : St} (hm : fX0_hasGoal_13 N i0  s0 S = some r) : V p l e rmX0_hasGoal s m args below meth c Q D (xW ad cA) (xA ad) 1 S 13 [] [.int (b2i s0)] := by
  unfold fX0_hasGoal_13 at hm
  exact v_zret C hr hQ (x := s0) (pc := 13) hm dX0_hasGoal_13
def fX0_hasGoal (N : Nat) (i0 : Nat)  (S : St) : Option (Bool × St) := if (S.1 (15 + i0)) = (-1) then (fX0_hasGoal_13 N i0 false S) else (fX0_hasGoal_13 N i0 true S)
set_option maxRecDepth 20000 in
theorem vX0_hasGoal {p : Program} {l : Launch} {e : Env} {s : State} {m : MethodId} {args : Array Value} {below : List Frame} {meth : Method} {c : Code} {Q : State → Prop} {D : va_G} {ad : Nat → Nat} {cA : Nat → ClassId} (C : Ok p s m args c D cA (xW ad cA) (xA ad) (xS ad) RX0 cX0_hasGoal 1) (hr : Rt meth (some .boolean)) {r : Bool × St} (hQ : Q = MQ below (Qo D (xW ad cA) (xA ad) (some (.int (b2i r.1))) r.2) args s 0 0 (xA ad)) {N : Nat} {i0 : Nat} (hi0 : i0 < 5)  {S : St} (hm : fX0_hasGoal N i0  S = some r) : V p l e rmX0_hasGoal s m args below meth c Q D (xW ad cA) (xA ad) 1 S 0 [(0, .ref (ad (4 + i0)))] [] := by
  unfold fX0_hasGoal at hm
  refine v_aload_n C (pc := 0) 0 dX0_hasGoal_0 rfl rfl ?_
  refine gX0_32 C hi0 (pc := 1) dX0_hasGoal_1 ?_
  refine v_iconst C (pc := 4) (-1) dX0_hasGoal_4 rfl ?_
  refine v_icmp_eq C (pc := 5) hm 12 dX0_hasGoal_5 rfl (fun hm => ?_) (fun hm => ?_)
  · refine v_iconst C (pc := 12) 0 dX0_hasGoal_12 rfl ?_
    exact v_sub [] rfl (vX0_hasGoal_13 C hr hQ (N := N) hi0 hm)
  · refine v_iconst C (pc := 8) 1 dX0_hasGoal_8 rfl ?_
    refine v_goto C (pc := 9) 13 dX0_hasGoal_9 rfl ?_
    exact v_sub [] rfl (vX0_hasGoal_13 C hr hQ (N := N) hi0 hm)
theorem mX0_hasGoal {l : Launch} {D : va_G} {ad : Nat → Nat} {cA : Nat → ClassId} (hD : ∀ S, va_D (xA ad) (xW ad cA S)) {N : Nat} {i0 : Nat} (hi0 : i0 < 5)  {S : St} {r : Bool × St} (hm : fX0_hasGoal N i0  S = some r) : Met l yX0_hasGoal (wsm yX0_hasGoal cX0_hasGoal 1 (some .boolean)) rmX0_hasGoal (va_Pc [.ref (ad (4 + i0))] (Pre D cA (xW ad cA) (xS ad) S)) (Qo D (xW ad cA) (xA ad) (some (.int (b2i r.1))) r.2) 0 0 (xA ad) := met_of [.ref (ad (4 + i0))] (by decide) (Nat.le_of_ble_eq_true rfl) hD (xS_mv ad) (xS_kp ad) (fun p e s m below meth c C hr => vX0_hasGoal C hr rfl (N := N) hi0 hm)
-- X0_aimAt
def rmX0_aimAt : Room := { frames := 0, cells := 0, slots := 0, locals := 0 }
def fX0_aimAt (N : Nat) (i0 : Nat) (p1 : Int32) (p2 : Int32) (S : St) : Option (Unit × St) := stp (sI S (15 + i0) p1) fun S3 => stp (sI S3 (20 + i0) p2) fun S4 => some ((), S4)
set_option maxRecDepth 20000 in
theorem vX0_aimAt {p : Program} {l : Launch} {e : Env} {s : State} {m : MethodId} {args : Array Value} {below : List Frame} {meth : Method} {c : Code} {Q : State → Prop} {D : va_G} {ad : Nat → Nat} {cA : Nat → ClassId} (C : Ok p s m args c D cA (xW ad cA) (xA ad) (xS ad) RX0 cX0_aimAt 3) (hr : Rt meth none) {r : Unit × St} (hQ : Q = MQ below (Qo D (xW ad cA) (xA ad) (none) r.2) args s 0 0 (xA ad)) {N : Nat} {i0 : Nat} (hi0 : i0 < 5) {p1 : Int32} {p2 : Int32} {S : St} (hm : fX0_aimAt N i0 p1 p2 S = some r) : V p l e rmX0_aimAt s m args below meth c Q D (xW ad cA) (xA ad) 3 S 0 [(0, .ref (ad (4 + i0))), (1, .int p1), (2, .int p2)] [] := by
  unfold fX0_aimAt at hm
  refine v_aload_n C (pc := 0) 0 dX0_aimAt_0 rfl rfl ?_
  refine v_iload_n C (pc := 1) 1 dX0_aimAt_1 rfl rfl ?_
  refine pX0_32 C hi0 (pc := 2) hm dX0_aimAt_2 (fun S3 hm => ?_)
  refine v_aload_n C (pc := 5) 0 dX0_aimAt_5 rfl rfl ?_
  refine v_iload_n C (pc := 6) 2 dX0_aimAt_6 rfl rfl ?_
  refine pX0_35 C hi0 (pc := 7) hm dX0_aimAt_7 (fun S4 hm => ?_)
  exact v_vret C hr hQ (x := ()) (pc := 10) hm dX0_aimAt_10
theorem mX0_aimAt {l : Launch} {D : va_G} {ad : Nat → Nat} {cA : Nat → ClassId} (hD : ∀ S, va_D (xA ad) (xW ad cA S)) {N : Nat} {i0 : Nat} (hi0 : i0 < 5) {p1 : Int32} {p2 : Int32} {S : St} {r : Unit × St} (hm : fX0_aimAt N i0 p1 p2 S = some r) : Met l yX0_aimAt (wsm yX0_aimAt cX0_aimAt 3 none) rmX0_aimAt (va_Pc [.ref (ad (4 + i0)), .int p1, .int p2] (Pre D cA (xW ad cA) (xS ad) S)) (Qo D (xW ad cA) (xA ad) (none) r.2) 0 0 (xA ad) := met_of [.ref (ad (4 + i0)), .int p1, .int p2] (by decide) (Nat.le_of_ble_eq_true rfl) hD (xS_mv ad) (xS_kp ad) (fun p e s m below meth c C hr => vX0_aimAt C hr rfl (N := N) hi0 hm)
-- X8_columnOf
def rmX8_columnOf : Room := { frames := 0, cells := 0, slots := 0, locals := 0 }
def fX8_columnOf (N : Nat) (p1 : Int32) (S : St) : Option (Int32 × St) := some ((p1 &&& 7), S)
set_option maxRecDepth 20000 in
theorem vX8_columnOf {p : Program} {l : Launch} {e : Env} {s : State} {m : MethodId} {args : Array Value} {below : List Frame} {meth : Method} {c : Code} {Q : State → Prop} {D : va_G} {ad : Nat → Nat} {cA : Nat → ClassId} (C : Ok p s m args c D cA (xW ad cA) (xA ad) (xS ad) RX8 cX8_columnOf 1) (hr : Rt meth (some .int)) {r : Int32 × St} (hQ : Q = MQ below (Qo D (xW ad cA) (xA ad) (some (.int r.1)) r.2) args s 0 0 (xA ad)) {N : Nat} {p1 : Int32} {S : St} (hm : fX8_columnOf N p1 S = some r) : V p l e rmX8_columnOf s m args below meth c Q D (xW ad cA) (xA ad) 1 S 0 [(0, .int p1)] [] := by
  unfold fX8_columnOf at hm
  refine v_iload_n C (pc := 0) 0 dX8_columnOf_0 rfl rfl ?_
  refine v_bipush C (pc := 1) 7 dX8_columnOf_1 rfl ?_
  refine v_iand C (pc := 3) dX8_columnOf_3 ?_
  exact v_iret C hr hQ (pc := 4) hm dX8_columnOf_4
theorem mX8_columnOf {l : Launch} {D : va_G} {ad : Nat → Nat} {cA : Nat → ClassId} (hD : ∀ S, va_D (xA ad) (xW ad cA S)) {N : Nat} {p1 : Int32} {S : St} {r : Int32 × St} (hm : fX8_columnOf N p1 S = some r) : Met l yX8_columnOf (wsm yX8_columnOf cX8_columnOf 1 (some .int)) rmX8_columnOf (va_Pc [.int p1] (Pre D cA (xW ad cA) (xS ad) S)) (Qo D (xW ad cA) (xA ad) (some (.int r.1)) r.2) 0 0 (xA ad) := met_of [.int p1] (by decide) (Nat.le_of_ble_eq_true rfl) hD (xS_mv ad) (xS_kp ad) (fun p e s m below meth c C hr => vX8_columnOf C hr rfl (N := N)  hm)
-- X8_rowOf
def rmX8_rowOf : Room := { frames := 0, cells := 0, slots := 0, locals := 0 }
def fX8_rowOf (N : Nat) (p1 : Int32) (S : St) : Option (Int32 × St) := some (((p1 >>> (3 &&& 31)) &&& 7), S)
set_option maxRecDepth 20000 in
theorem vX8_rowOf {p : Program} {l : Launch} {e : Env} {s : State} {m : MethodId} {args : Array Value} {below : List Frame} {meth : Method} {c : Code} {Q : State → Prop} {D : va_G} {ad : Nat → Nat} {cA : Nat → ClassId} (C : Ok p s m args c D cA (xW ad cA) (xA ad) (xS ad) RX8 cX8_rowOf 1) (hr : Rt meth (some .int)) {r : Int32 × St} (hQ : Q = MQ below (Qo D (xW ad cA) (xA ad) (some (.int r.1)) r.2) args s 0 0 (xA ad)) {N : Nat} {p1 : Int32} {S : St} (hm : fX8_rowOf N p1 S = some r) : V p l e rmX8_rowOf s m args below meth c Q D (xW ad cA) (xA ad) 1 S 0 [(0, .int p1)] [] := by
  unfold fX8_rowOf at hm
  refine v_iload_n C (pc := 0) 0 dX8_rowOf_0 rfl rfl ?_
  refine v_iconst C (pc := 1) 3 dX8_rowOf_1 rfl ?_
  refine v_ishr C (pc := 2) dX8_rowOf_2 ?_
  refine v_bipush C (pc := 3) 7 dX8_rowOf_3 rfl ?_
  refine v_iand C (pc := 5) dX8_rowOf_5 ?_
  exact v_iret C hr hQ (pc := 6) hm dX8_rowOf_6
theorem mX8_rowOf {l : Launch} {D : va_G} {ad : Nat → Nat} {cA : Nat → ClassId} (hD : ∀ S, va_D (xA ad) (xW ad cA S)) {N : Nat} {p1 : Int32} {S : St} {r : Int32 × St} (hm : fX8_rowOf N p1 S = some r) : Met l yX8_rowOf (wsm yX8_rowOf cX8_rowOf 1 (some .int)) rmX8_rowOf (va_Pc [.int p1] (Pre D cA (xW ad cA) (xS ad) S)) (Qo D (xW ad cA) (xA ad) (some (.int r.1)) r.2) 0 0 (xA ad) := met_of [.int p1] (by decide) (Nat.le_of_ble_eq_true rfl) hD (xS_mv ad) (xS_kp ad) (fun p e s m below meth c C hr => vX8_rowOf C hr rfl (N := N)  hm)
-- X0_goalProperty
theorem infX0_hasGoal : InfV yX0_hasGoal cX0_hasGoal 1 (some .boolean) 0 := ⟨⟨gm (i := 59) (by decide +kernel) rfl, gm (i := 621) (by decide +kernel) rfl, by decide +kernel⟩, gm (i := 619) (by decide +kernel) rfl, gm (i := 620) (by decide +kernel) rfl⟩
theorem kX0_47 {p : Program} {l : Launch} {e : Env} {R : Room} {s : State} {m : MethodId} {args : Array Value} {below : List Frame} {meth : Method} {c : Code} {Q : State → Prop} {D : va_G} {ad : Nat → Nat} {cA : Nat → ClassId} {cc : ByteArray} {nL : Nat} {S : St} {pc : Nat} {lv : List (Nat × Value)} {st : List Value} {ρ : Type} {res : ρ} (C : Ok p s m args c D cA (xW ad cA) (xA ad) (xS ad) RX0 cc nL) (hfr : rmX0_hasGoal.frames + 1 ≤ R.frames) (hlo : 8 + (1 + 11) + rmX0_hasGoal.locals ≤ R.locals) {i : Nat} (hi : i < 5) {N : Nat}  {E : Bool → St → Option ρ} (hm : bd (fX0_hasGoal N i S) E = some res) (hcat : (st.map fun v => v.category).sum ≤ 8) (hd : decode cc pc = .ok (.invokevirtual 47, 3)) (k : ∀ r S, E r S = some res → V p l e R s m args below meth c Q D (xW ad cA) (xA ad) nL S (pc + 3) lv (.int (b2i r) :: st)) : V p l e R s m args below meth c Q D (xW ad cA) (xA ad) nL S pc lv (.ref (ad (4 + i)) :: st) := by
  obtain ⟨r, S1, h1, h2⟩ := bd_some hm
  exact v_callV C (gm (i := 618) (by decide +kernel) rfl : Cond.methodLink RX0 47 yX0_hasGoal ∈ gw_tbl) infX0_hasGoal (rm2 := rmX0_hasGoal) ⟨rfl, rfl⟩ hfr hlo (mX0_hasGoal C.2.2.2.2.2.2.1 hi h1) (As := []) (oX0 ad cA i hi S) rfl rfl rfl rfl hcat hd (k r S1 h2)
theorem infX8_rowOf : InfS yX8_rowOf cX8_rowOf 1 (some .int) 1 := ⟨⟨gm (i := 55) (by decide +kernel) rfl, gm (i := 459) (by decide +kernel) rfl, by decide +kernel⟩, gm (i := 458) (by decide +kernel) rfl⟩
theorem kX0_55 {p : Program} {l : Launch} {e : Env} {R : Room} {s : State} {m : MethodId} {args : Array Value} {below : List Frame} {meth : Method} {c : Code} {Q : State → Prop} {D : va_G} {ad : Nat → Nat} {cA : Nat → ClassId} {cc : ByteArray} {nL : Nat} {S : St} {pc : Nat} {lv : List (Nat × Value)} {st : List Value} {ρ : Type} {res : ρ} (C : Ok p s m args c D cA (xW ad cA) (xA ad) (xS ad) RX0 cc nL) (hfr : rmX8_rowOf.frames + 1 ≤ R.frames) (hlo : 8 + (1 + 11) + rmX8_rowOf.locals ≤ R.locals) {N : Nat} {p1 : Int32} {E : Int32 → St → Option ρ} (hm : bd (fX8_rowOf N p1 S) E = some res) (hcat : (st.map fun v => v.category).sum ≤ 8) (hd : decode cc pc = .ok (.invokestatic 55, 3)) (k : ∀ r S, E r S = some res → V p l e R s m args below meth c Q D (xW ad cA) (xA ad) nL S (pc + 3) lv (.int r :: st)) : V p l e R s m args below meth c Q D (xW ad cA) (xA ad) nL S pc lv (.int p1 :: st) := by
  obtain ⟨r, S1, h1, h2⟩ := bd_some hm
  exact v_callSN C (C.2.2.2.2.2.2.2.1.2.2.2.2 _ (by decide +kernel) : va_Nw (Cond.methodLinkNest RX0 55 yX8_rowOf "BlockYard") s) infX8_rowOf (rm2 := rmX8_rowOf) ⟨rfl, rfl⟩ hfr hlo (mX8_rowOf C.2.2.2.2.2.2.1 h1) (As := [.int p1]) rfl rfl hcat hd (k r S1 h2)
theorem infX8_columnOf : InfS yX8_columnOf cX8_columnOf 1 (some .int) 1 := ⟨⟨gm (i := 55) (by decide +kernel) rfl, gm (i := 456) (by decide +kernel) rfl, by decide +kernel⟩, gm (i := 455) (by decide +kernel) rfl⟩
theorem kX0_51 {p : Program} {l : Launch} {e : Env} {R : Room} {s : State} {m : MethodId} {args : Array Value} {below : List Frame} {meth : Method} {c : Code} {Q : State → Prop} {D : va_G} {ad : Nat → Nat} {cA : Nat → ClassId} {cc : ByteArray} {nL : Nat} {S : St} {pc : Nat} {lv : List (Nat × Value)} {st : List Value} {ρ : Type} {res : ρ} (C : Ok p s m args c D cA (xW ad cA) (xA ad) (xS ad) RX0 cc nL) (hfr : rmX8_columnOf.frames + 1 ≤ R.frames) (hlo : 8 + (1 + 11) + rmX8_columnOf.locals ≤ R.locals) {N : Nat} {p1 : Int32} {E : Int32 → St → Option ρ} (hm : bd (fX8_columnOf N p1 S) E = some res) (hcat : (st.map fun v => v.category).sum ≤ 8) (hd : decode cc pc = .ok (.invokestatic 51, 3)) (k : ∀ r S, E r S = some res → V p l e R s m args below meth c Q D (xW ad cA) (xA ad) nL S (pc + 3) lv (.int r :: st)) : V p l e R s m args below meth c Q D (xW ad cA) (xA ad) nL S pc lv (.int p1 :: st) := by
  obtain ⟨r, S1, h1, h2⟩ := bd_some hm
  exact v_callSN C (C.2.2.2.2.2.2.2.1.2.2.2.2 _ (by decide +kernel) : va_Nw (Cond.methodLinkNest RX0 51 yX8_columnOf "BlockYard") s) infX8_columnOf (rm2 := rmX8_columnOf) ⟨rfl, rfl⟩ hfr hlo (mX8_columnOf C.2.2.2.2.2.2.1 h1) (As := [.int p1]) rfl rfl hcat hd (k r S1 h2)
def rmX0_goalProperty : Room := { frames := 1, cells := 0, slots := 0, locals := 20 }
def fX0_goalProperty_41 (N : Nat) (i0 : Nat)  (s0 : Int32) (S : St) : Option (Int32 × St) := some (s0, S)
set_option maxRecDepth 20000 in
theorem vX0_goalProperty_41 {p : Program} {l : Launch} {e : Env} {s : State} {m : MethodId} {args : Array Value} {below : List Frame} {meth : Method} {c : Code} {Q : State → Prop} {D : va_G} {ad : Nat → Nat} {cA : Nat → ClassId} (C : Ok p s m args c D cA (xW ad cA) (xA ad) (xS ad) RX0 cX0_goalProperty 2) (hr : Rt meth (some .int)) {r : Int32 × St} (hQ : Q = MQ below (Qo D (xW ad cA) (xA ad) (some (.int r.1)) r.2) args s 0 0 (xA ad)) {N : Nat} {i0 : Nat} (hi0 : i0 < 5)  {s0 : Int32}  {S : St} (hm : fX0_goalProperty_41 N i0  s0 S = some r) : V p l e rmX0_goalProperty s m args below meth c Q D (xW ad cA) (xA ad) 2 S 41 [] [.int s0] := by
  unfold fX0_goalProperty_41 at hm
  exact v_iret C hr hQ (pc := 41) hm dX0_goalProperty_41
def fX0_goalProperty (N : Nat) (i0 : Nat) (p1 : Int32) (S : St) : Option (Int32 × St) := bd (fX0_hasGoal N i0 S) fun r4 S4 => if (b2i r4) = 0 then (some ((-7), S4)) else (if p1 = 2 then (some ((S4.1 (20 + i0)), S4)) else (if p1 = 0 then (bd (fX8_columnOf N (S4.1 (15 + i0)) S4) fun r6 S6 => fX0_goalProperty_41 N i0 r6 S6) else (bd (fX8_rowOf N (S4.1 (15 + i0)) S4) fun r5 S5 => fX0_goalProperty_41 N i0 r5 S5)))
set_option maxRecDepth 20000 in
theorem vX0_goalProperty {p : Program} {l : Launch} {e : Env} {s : State} {m : MethodId} {args : Array Value} {below : List Frame} {meth : Method} {c : Code} {Q : State → Prop} {D : va_G} {ad : Nat → Nat} {cA : Nat → ClassId} (C : Ok p s m args c D cA (xW ad cA) (xA ad) (xS ad) RX0 cX0_goalProperty 2) (hr : Rt meth (some .int)) {r : Int32 × St} (hQ : Q = MQ below (Qo D (xW ad cA) (xA ad) (some (.int r.1)) r.2) args s 0 0 (xA ad)) {N : Nat} {i0 : Nat} (hi0 : i0 < 5) {p1 : Int32} {S : St} (hm : fX0_goalProperty N i0 p1 S = some r) : V p l e rmX0_goalProperty s m args below meth c Q D (xW ad cA) (xA ad) 2 S 0 [(0, .ref (ad (4 + i0))), (1, .int p1)] [] := by
  unfold fX0_goalProperty at hm
  refine v_aload_n C (pc := 0) 0 dX0_goalProperty_0 rfl rfl ?_
  refine kX0_47 C (Nat.le_of_ble_eq_true rfl) (Nat.le_of_ble_eq_true rfl) hi0 (pc := 1) hm (Nat.le_of_ble_eq_true rfl) dX0_goalProperty_1 (fun r4 S4 hm => ?_)
  refine v_if_ne C (pc := 4) hm 10 dX0_goalProperty_4 rfl (fun hm => ?_) (fun hm => ?_)
  · refine v_iload_n C (pc := 10) 1 dX0_goalProperty_10 rfl rfl ?_
    refine v_iconst C (pc := 11) 2 dX0_goalProperty_11 rfl ?_
    refine v_icmp_ne C (pc := 12) hm 20 dX0_goalProperty_12 rfl (fun hm => ?_) (fun hm => ?_)
    · refine v_iload_n C (pc := 20) 1 dX0_goalProperty_20 rfl rfl ?_
      refine v_if_ne C (pc := 21) hm 34 dX0_goalProperty_21 rfl (fun hm => ?_) (fun hm => ?_)
      · refine v_aload_n C (pc := 34) 0 dX0_goalProperty_34 rfl rfl ?_
        refine gX0_32 C hi0 (pc := 35) dX0_goalProperty_35 ?_
        refine kX0_55 C (Nat.le_of_ble_eq_true rfl) (Nat.le_of_ble_eq_true rfl) (pc := 38) hm (Nat.le_of_ble_eq_true rfl) dX0_goalProperty_38 (fun r5 S5 hm => ?_)
        exact v_sub [] rfl (vX0_goalProperty_41 C hr hQ (N := N) hi0 hm)
      · refine v_aload_n C (pc := 24) 0 dX0_goalProperty_24 rfl rfl ?_
        refine gX0_32 C hi0 (pc := 25) dX0_goalProperty_25 ?_
        refine kX0_51 C (Nat.le_of_ble_eq_true rfl) (Nat.le_of_ble_eq_true rfl) (pc := 28) hm (Nat.le_of_ble_eq_true rfl) dX0_goalProperty_28 (fun r6 S6 hm => ?_)
        refine v_goto C (pc := 31) 41 dX0_goalProperty_31 rfl ?_
        exact v_sub [] rfl (vX0_goalProperty_41 C hr hQ (N := N) hi0 hm)
    · refine v_aload_n C (pc := 15) 0 dX0_goalProperty_15 rfl rfl ?_
      refine gX0_35 C hi0 (pc := 16) dX0_goalProperty_16 ?_
      exact v_iret C hr hQ (pc := 19) hm dX0_goalProperty_19
  · refine v_bipush C (pc := 7) (-7) dX0_goalProperty_7 rfl ?_
    exact v_iret C hr hQ (pc := 9) hm dX0_goalProperty_9
theorem mX0_goalProperty {l : Launch} {D : va_G} {ad : Nat → Nat} {cA : Nat → ClassId} (hD : ∀ S, va_D (xA ad) (xW ad cA S)) {N : Nat} {i0 : Nat} (hi0 : i0 < 5) {p1 : Int32} {S : St} {r : Int32 × St} (hm : fX0_goalProperty N i0 p1 S = some r) : Met l yX0_goalProperty (wsm yX0_goalProperty cX0_goalProperty 2 (some .int)) rmX0_goalProperty (va_Pc [.ref (ad (4 + i0)), .int p1] (Pre D cA (xW ad cA) (xS ad) S)) (Qo D (xW ad cA) (xA ad) (some (.int r.1)) r.2) 0 0 (xA ad) := met_of [.ref (ad (4 + i0)), .int p1] (by decide) (Nat.le_of_ble_eq_true rfl) hD (xS_mv ad) (xS_kp ad) (fun p e s m below meth c C hr => vX0_goalProperty C hr rfl (N := N) hi0 hm)
-- X0_fits
def rmX0_fits : Room := { frames := 0, cells := 0, slots := 0, locals := 0 }
def fX0_fits_16 (N : Nat) (i0 : Nat)  (s0 : Bool) (S : St) : Option (Bool × St) := some (s0, S)
set_option maxRecDepth 20000 in
theorem vX0_fits_16 {p : Program} {l : Launch} {e : Env} {s : State} {m : MethodId} {args : Array Value} {below : List Frame} {meth : Method} {c : Code} {Q : State → Prop} {D : va_G} {ad : Nat → Nat} {cA : Nat → ClassId} (C : Ok p s m args c D cA (xW ad cA) (xA ad) (xS ad) RX0 cX0_fits 2) (hr : Rt meth (some .boolean)) {r : Bool × St} (hQ : Q = MQ below (Qo D (xW ad cA) (xA ad) (some (.int (b2i r.1))) r.2) args s 0 0 (xA ad)) {N : Nat} {i0 : Nat} (hi0 : i0 < 5)  {s0 : Bool}  {S : St} (hm : fX0_fits_16 N i0  s0 S = some r) : V p l e rmX0_fits s m args below meth c Q D (xW ad cA) (xA ad) 2 S 16 [] [.int (b2i s0)] := by
  unfold fX0_fits_16 at hm
  exact v_zret C hr hQ (x := s0) (pc := 16) hm dX0_fits_16
def fX0_fits (N : Nat) (i0 : Nat) (p1 : Int32) (S : St) : Option (Bool × St) := ck p1 256 (if (lg_cmp (S.2.2.2 (4 + i0) (Int32.toNatClampNeg p1)) 0) = 0 then (fX0_fits_16 N i0 false S) else (fX0_fits_16 N i0 true S))
set_option maxRecDepth 20000 in
theorem vX0_fits {p : Program} {l : Launch} {e : Env} {s : State} {m : MethodId} {args : Array Value} {below : List Frame} {meth : Method} {c : Code} {Q : State → Prop} {D : va_G} {ad : Nat → Nat} {cA : Nat → ClassId} (C : Ok p s m args c D cA (xW ad cA) (xA ad) (xS ad) RX0 cX0_fits 2) (hr : Rt meth (some .boolean)) {r : Bool × St} (hQ : Q = MQ below (Qo D (xW ad cA) (xA ad) (some (.int (b2i r.1))) r.2) args s 0 0 (xA ad)) {N : Nat} {i0 : Nat} (hi0 : i0 < 5) {p1 : Int32} {S : St} (hm : fX0_fits N i0 p1 S = some r) : V p l e rmX0_fits s m args below meth c Q D (xW ad cA) (xA ad) 2 S 0 [(0, .ref (ad (4 + i0))), (1, .int p1)] [] := by
  unfold fX0_fits at hm
  refine v_aload_n C (pc := 0) 0 dX0_fits_0 rfl rfl ?_
  refine gX0_18 C hi0 (pc := 1) dX0_fits_1 ?_
  refine v_iload_n C (pc := 4) 1 dX0_fits_4 rfl rfl ?_
  refine ldX0_cells C hi0 (pc := 5) hm dX0_fits_5 (fun hm => ?_)
  refine v_lconst C (pc := 6) 0 dX0_fits_6 rfl ?_
  refine v_lcmp C (pc := 7) dX0_fits_7 ?_
  refine v_if_eq C (pc := 8) hm 15 dX0_fits_8 rfl (fun hm => ?_) (fun hm => ?_)
  · refine v_iconst C (pc := 15) 0 dX0_fits_15 rfl ?_
    exact v_sub [] rfl (vX0_fits_16 C hr hQ (N := N) hi0 hm)
  · refine v_iconst C (pc := 11) 1 dX0_fits_11 rfl ?_
    refine v_goto C (pc := 12) 16 dX0_fits_12 rfl ?_
    exact v_sub [] rfl (vX0_fits_16 C hr hQ (N := N) hi0 hm)
theorem mX0_fits {l : Launch} {D : va_G} {ad : Nat → Nat} {cA : Nat → ClassId} (hD : ∀ S, va_D (xA ad) (xW ad cA S)) {N : Nat} {i0 : Nat} (hi0 : i0 < 5) {p1 : Int32} {S : St} {r : Bool × St} (hm : fX0_fits N i0 p1 S = some r) : Met l yX0_fits (wsm yX0_fits cX0_fits 2 (some .boolean)) rmX0_fits (va_Pc [.ref (ad (4 + i0)), .int p1] (Pre D cA (xW ad cA) (xS ad) S)) (Qo D (xW ad cA) (xA ad) (some (.int (b2i r.1))) r.2) 0 0 (xA ad) := met_of [.ref (ad (4 + i0)), .int p1] (by decide) (Nat.le_of_ble_eq_true rfl) hD (xS_mv ad) (xS_kp ad) (fun p e s m below meth c C hr => vX0_fits C hr rfl (N := N) hi0 hm)
-- X0_addCell
def rmX0_addCell : Room := { frames := 0, cells := 0, slots := 0, locals := 0 }
def fX0_addCell_17b (N : Nat) (i0 : Nat)  (k17 : Int32 → Int32 → Int32 → St → Option (Unit × St)) (x3 : Int32) (x4 : Int32) (x5 : Int32) (S : St) : Option (Unit × St) := if 4 ≤ x5 then (stp (sI S (5 + i0) ((S.1 (5 + i0)) + 1)) fun S7 => some ((), S7)) else (ck ((5 * x5) + (S.1 (5 + i0))) 20 (stp (sA S (4 + i0) (Int32.toNatClampNeg ((5 * x5) + (S.1 (5 + i0)))) x3) fun S8 => ck ((5 * x5) + (S8.1 (5 + i0))) 20 (stp (sA S8 (9 + i0) (Int32.toNatClampNeg ((5 * x5) + (S8.1 (5 + i0)))) x4) fun S9 => nm (-x4) fun y3 => k17 y3 x3 (x5 + 1) S9)))
def fX0_addCell_17 (N : Nat) (i0 : Nat)  : Nat → Int32 → Int32 → Int32 → St → Option (Unit × St)
  | 0 => fun _ _ _ _ => none
  | n + 1 => fun x3 x4 x5 S => fX0_addCell_17b N i0  (fX0_addCell_17 N i0  n) x3 x4 x5 S
set_option maxRecDepth 20000 in
theorem vX0_addCell_17b {p : Program} {l : Launch} {e : Env} {s : State} {m : MethodId} {args : Array Value} {below : List Frame} {meth : Method} {c : Code} {Q : State → Prop} {D : va_G} {ad : Nat → Nat} {cA : Nat → ClassId} (C : Ok p s m args c D cA (xW ad cA) (xA ad) (xS ad) RX0 cX0_addCell 7) (hr : Rt meth none) {r : Unit × St} (hQ : Q = MQ below (Qo D (xW ad cA) (xA ad) (none) r.2) args s 0 0 (xA ad)) {N : Nat} {i0 : Nat} (hi0 : i0 < 5)  {k17 : Int32 → Int32 → Int32 → St → Option (Unit × St)} (hk17 : ∀ (x3 : Int32) (x4 : Int32) (x5 : Int32) (S : St), k17 x3 x4 x5 S = some r → V p l e rmX0_addCell s m args below meth c Q D (xW ad cA) (xA ad) 7 S 17 [(0, .ref (ad (4 + i0))), (3, .int x3), (4, .int x4), (5, .int x5)] []) {x3 : Int32} {x4 : Int32} {x5 : Int32}  {S : St} (hm : fX0_addCell_17b N i0  k17 x3 x4 x5 S = some r) : V p l e rmX0_addCell s m args below meth c Q D (xW ad cA) (xA ad) 7 S 17 [(0, .ref (ad (4 + i0))), (3, .int x3), (4, .int x4), (5, .int x5)] [] := by
  unfold fX0_addCell_17b at hm
  refine v_iload C (pc := 17) 3 dX0_addCell_17 rfl ?_
  refine v_iconst C (pc := 19) 4 dX0_addCell_19 rfl ?_
  refine v_icmp_ge C (pc := 20) hm 71 dX0_addCell_20 rfl (fun hm => ?_) (fun hm => ?_)
  · refine v_aload_n C (pc := 71) 0 dX0_addCell_71 rfl rfl ?_
    refine v_dup C (pc := 72) dX0_addCell_72 rfl ?_
    refine gX0_25 C hi0 (pc := 73) dX0_addCell_73 ?_
    refine v_iconst C (pc := 76) 1 dX0_addCell_76 rfl ?_
    refine v_iadd C (pc := 77) dX0_addCell_77 ?_
    refine pX0_25 C hi0 (pc := 78) hm dX0_addCell_78 (fun S7 hm => ?_)
    exact v_vret C hr hQ (x := ()) (pc := 81) hm dX0_addCell_81
  · refine v_aload_n C (pc := 23) 0 dX0_addCell_23 rfl rfl ?_
    refine gX0_9 C hi0 (pc := 24) dX0_addCell_24 ?_
    refine v_iconst C (pc := 27) 5 dX0_addCell_27 rfl ?_
    refine v_iload C (pc := 28) 3 dX0_addCell_28 rfl ?_
    refine v_imul C (pc := 30) dX0_addCell_30 ?_
    refine v_aload_n C (pc := 31) 0 dX0_addCell_31 rfl rfl ?_
    refine gX0_25 C hi0 (pc := 32) dX0_addCell_32 ?_
    refine v_iadd C (pc := 35) dX0_addCell_35 ?_
    refine v_iload_n C (pc := 36) 1 dX0_addCell_36 rfl rfl ?_
    refine stX0_offsetX C hi0 (pc := 37) hm dX0_addCell_37 (fun S8 hm => ?_)
    refine v_aload_n C (pc := 38) 0 dX0_addCell_38 rfl rfl ?_
    refine gX0_15 C hi0 (pc := 39) dX0_addCell_39 ?_
    refine v_iconst C (pc := 42) 5 dX0_addCell_42 rfl ?_
    refine v_iload C (pc := 43) 3 dX0_addCell_43 rfl ?_
    refine v_imul C (pc := 45) dX0_addCell_45 ?_
    refine v_aload_n C (pc := 46) 0 dX0_addCell_46 rfl rfl ?_
    refine gX0_25 C hi0 (pc := 47) dX0_addCell_47 ?_
    refine v_iadd C (pc := 50) dX0_addCell_50 ?_
    refine v_iload C (pc := 51) 2 dX0_addCell_51 rfl ?_
    refine stX0_offsetY C hi0 (pc := 53) hm dX0_addCell_53 (fun S9 hm => ?_)
    refine v_iload C (pc := 54) 2 dX0_addCell_54 rfl ?_
    refine v_ineg C (pc := 56) dX0_addCell_56 ?_
    refine v_istoreN C (pc := 57) [(0, .ref (ad (4 + i0))), (3, .int x3), (4, .int x4), (5, .int x5)] hm dX0_addCell_57 (by decide) rfl (fun y3 hm => ?_)
    refine v_iload_n C (pc := 59) 2 dX0_addCell_59 rfl rfl ?_
    refine v_istore C (pc := 60) [(4, .int x3), (6, .int y3), (0, .ref (ad (4 + i0))), (3, .int x3), (5, .int x5)] dX0_addCell_60 (by decide) rfl ?_
    refine v_iload C (pc := 62) 1 dX0_addCell_62 rfl ?_
    refine v_istore_n C (pc := 64) [(3, .int y3), (4, .int x3), (6, .int y3), (0, .ref (ad (4 + i0))), (5, .int x5)] dX0_addCell_64 rfl (by decide) rfl ?_
    refine v_iinc C (pc := 65) 1 4 [(5, .int (x5 + 1)), (3, .int y3), (4, .int x3), (6, .int y3), (0, .ref (ad (4 + i0)))] dX0_addCell_65 rfl rfl (by decide) rfl ?_
    refine v_goto C (pc := 68) 17 dX0_addCell_68 rfl ?_
    exact v_sub [4, 1, 2, 0] rfl (hk17 _ _ _ _ hm)
theorem vX0_addCell_17 {p : Program} {l : Launch} {e : Env} {s : State} {m : MethodId} {args : Array Value} {below : List Frame} {meth : Method} {c : Code} {Q : State → Prop} {D : va_G} {ad : Nat → Nat} {cA : Nat → ClassId} (C : Ok p s m args c D cA (xW ad cA) (xA ad) (xS ad) RX0 cX0_addCell 7) (hr : Rt meth none) {r : Unit × St} (hQ : Q = MQ below (Qo D (xW ad cA) (xA ad) (none) r.2) args s 0 0 (xA ad)) {N : Nat} {i0 : Nat} (hi0 : i0 < 5)  (n : Nat) : ∀ (x3 : Int32) (x4 : Int32) (x5 : Int32) (S : St), fX0_addCell_17 N i0  n x3 x4 x5 S = some r → V p l e rmX0_addCell s m args below meth c Q D (xW ad cA) (xA ad) 7 S 17 [(0, .ref (ad (4 + i0))), (3, .int x3), (4, .int x4), (5, .int x5)] [] := by
  induction n with
  | zero => intro _ _ _ _  hm; exact absurd hm (by intro h; cases h)
  | succ n ih => intro _ _ _ _  hm; exact vX0_addCell_17b C hr hQ (N := N) hi0  ih  hm
def fX0_addCell (N : Nat) (i0 : Nat) (p1 : Int32) (p2 : Int32) (S : St) : Option (Unit × St) := if (S.1 (5 + i0)) < 5 then (fX0_addCell_17 N i0 N p1 p2 0 S) else (some ((), S))
set_option maxRecDepth 20000 in
theorem vX0_addCell {p : Program} {l : Launch} {e : Env} {s : State} {m : MethodId} {args : Array Value} {below : List Frame} {meth : Method} {c : Code} {Q : State → Prop} {D : va_G} {ad : Nat → Nat} {cA : Nat → ClassId} (C : Ok p s m args c D cA (xW ad cA) (xA ad) (xS ad) RX0 cX0_addCell 7) (hr : Rt meth none) {r : Unit × St} (hQ : Q = MQ below (Qo D (xW ad cA) (xA ad) (none) r.2) args s 0 0 (xA ad)) {N : Nat} {i0 : Nat} (hi0 : i0 < 5) {p1 : Int32} {p2 : Int32} {S : St} (hm : fX0_addCell N i0 p1 p2 S = some r) : V p l e rmX0_addCell s m args below meth c Q D (xW ad cA) (xA ad) 7 S 0 [(0, .ref (ad (4 + i0))), (1, .int p1), (2, .int p2)] [] := by
  unfold fX0_addCell at hm
  refine v_aload_n C (pc := 0) 0 dX0_addCell_0 rfl rfl ?_
  refine gX0_25 C hi0 (pc := 1) dX0_addCell_1 ?_
  refine v_iconst C (pc := 4) 5 dX0_addCell_4 rfl ?_
  refine v_icmp_lt C (pc := 5) hm 9 dX0_addCell_5 rfl (fun hm => ?_) (fun hm => ?_)
  · refine v_iload_n C (pc := 9) 1 dX0_addCell_9 rfl rfl ?_
    refine v_istore_n C (pc := 10) [(3, .int p1), (0, .ref (ad (4 + i0))), (1, .int p1), (2, .int p2)] dX0_addCell_10 rfl (by decide) rfl ?_
    refine v_iload_n C (pc := 11) 3 dX0_addCell_11 rfl rfl ?_
    refine v_istore C (pc := 12) [(4, .int p2), (3, .int p1), (0, .ref (ad (4 + i0))), (1, .int p1), (2, .int p2)] dX0_addCell_12 (by decide) rfl ?_
    refine v_iconst C (pc := 14) 0 dX0_addCell_14 rfl ?_
    refine v_istore C (pc := 15) [(5, .int 0), (4, .int p2), (3, .int p1), (0, .ref (ad (4 + i0))), (1, .int p1), (2, .int p2)] dX0_addCell_15 (by decide) rfl ?_
    exact v_sub [3, 2, 1, 0] rfl (vX0_addCell_17 C hr hQ (N := N) hi0 N _ _ _ _ hm)
  · exact v_vret C hr hQ (x := ()) (pc := 8) hm dX0_addCell_8
theorem mX0_addCell {l : Launch} {D : va_G} {ad : Nat → Nat} {cA : Nat → ClassId} (hD : ∀ S, va_D (xA ad) (xW ad cA S)) {N : Nat} {i0 : Nat} (hi0 : i0 < 5) {p1 : Int32} {p2 : Int32} {S : St} {r : Unit × St} (hm : fX0_addCell N i0 p1 p2 S = some r) : Met l yX0_addCell (wsm yX0_addCell cX0_addCell 7 none) rmX0_addCell (va_Pc [.ref (ad (4 + i0)), .int p1, .int p2] (Pre D cA (xW ad cA) (xS ad) S)) (Qo D (xW ad cA) (xA ad) (none) r.2) 0 0 (xA ad) := met_of [.ref (ad (4 + i0)), .int p1, .int p2] (by decide) (Nat.le_of_ble_eq_true rfl) hD (xS_mv ad) (xS_kp ad) (fun p e s m below meth c C hr => vX0_addCell C hr rfl (N := N) hi0 hm)
-- X8_orientationOf
def rmX8_orientationOf : Room := { frames := 0, cells := 0, slots := 0, locals := 0 }
def fX8_orientationOf (N : Nat) (p1 : Int32) (S : St) : Option (Int32 × St) := some (((p1 >>> (6 &&& 31)) &&& 3), S)
set_option maxRecDepth 20000 in
theorem vX8_orientationOf {p : Program} {l : Launch} {e : Env} {s : State} {m : MethodId} {args : Array Value} {below : List Frame} {meth : Method} {c : Code} {Q : State → Prop} {D : va_G} {ad : Nat → Nat} {cA : Nat → ClassId} (C : Ok p s m args c D cA (xW ad cA) (xA ad) (xS ad) RX8 cX8_orientationOf 1) (hr : Rt meth (some .int)) {r : Int32 × St} (hQ : Q = MQ below (Qo D (xW ad cA) (xA ad) (some (.int r.1)) r.2) args s 0 0 (xA ad)) {N : Nat} {p1 : Int32} {S : St} (hm : fX8_orientationOf N p1 S = some r) : V p l e rmX8_orientationOf s m args below meth c Q D (xW ad cA) (xA ad) 1 S 0 [(0, .int p1)] [] := by
  unfold fX8_orientationOf at hm
  refine v_iload_n C (pc := 0) 0 dX8_orientationOf_0 rfl rfl ?_
  refine v_bipush C (pc := 1) 6 dX8_orientationOf_1 rfl ?_
  refine v_ishr C (pc := 3) dX8_orientationOf_3 ?_
  refine v_iconst C (pc := 4) 3 dX8_orientationOf_4 rfl ?_
  refine v_iand C (pc := 5) dX8_orientationOf_5 ?_
  exact v_iret C hr hQ (pc := 6) hm dX8_orientationOf_6
theorem mX8_orientationOf {l : Launch} {D : va_G} {ad : Nat → Nat} {cA : Nat → ClassId} (hD : ∀ S, va_D (xA ad) (xW ad cA S)) {N : Nat} {p1 : Int32} {S : St} {r : Int32 × St} (hm : fX8_orientationOf N p1 S = some r) : Met l yX8_orientationOf (wsm yX8_orientationOf cX8_orientationOf 1 (some .int)) rmX8_orientationOf (va_Pc [.int p1] (Pre D cA (xW ad cA) (xS ad) S)) (Qo D (xW ad cA) (xA ad) (some (.int r.1)) r.2) 0 0 (xA ad) := met_of [.int p1] (by decide) (Nat.le_of_ble_eq_true rfl) hD (xS_mv ad) (xS_kp ad) (fun p e s m below meth c C hr => vX8_orientationOf C hr rfl (N := N)  hm)
-- X7_cellAt
def rmX7_cellAt : Room := { frames := 0, cells := 0, slots := 0, locals := 0 }
def fX7_cellAt_34 (N : Nat)  (s0 : Int32) (S : St) : Option (Int32 × St) := some (s0, S)
set_option maxRecDepth 20000 in
theorem vX7_cellAt_34 {p : Program} {l : Launch} {e : Env} {s : State} {m : MethodId} {args : Array Value} {below : List Frame} {meth : Method} {c : Code} {Q : State → Prop} {D : va_G} {ad : Nat → Nat} {cA : Nat → ClassId} (C : Ok p s m args c D cA (xW ad cA) (xA ad) (xS ad) RX7 cX7_cellAt 3) (hr : Rt meth (some .int)) {r : Int32 × St} (hQ : Q = MQ below (Qo D (xW ad cA) (xA ad) (some (.int r.1)) r.2) args s 0 0 (xA ad)) {N : Nat}  {s0 : Int32}  {S : St} (hm : fX7_cellAt_34 N  s0 S = some r) : V p l e rmX7_cellAt s m args below meth c Q D (xW ad cA) (xA ad) 3 S 34 [] [.int s0] := by
  unfold fX7_cellAt_34 at hm
  exact v_iret C hr hQ (pc := 34) hm dX7_cellAt_34
def fX7_cellAt_33 (N : Nat)   (S : St) : Option (Int32 × St) := fX7_cellAt_34 N (-1) S
set_option maxRecDepth 20000 in
theorem vX7_cellAt_33 {p : Program} {l : Launch} {e : Env} {s : State} {m : MethodId} {args : Array Value} {below : List Frame} {meth : Method} {c : Code} {Q : State → Prop} {D : va_G} {ad : Nat → Nat} {cA : Nat → ClassId} (C : Ok p s m args c D cA (xW ad cA) (xA ad) (xS ad) RX7 cX7_cellAt 3) (hr : Rt meth (some .int)) {r : Int32 × St} (hQ : Q = MQ below (Qo D (xW ad cA) (xA ad) (some (.int r.1)) r.2) args s 0 0 (xA ad)) {N : Nat}    {S : St} (hm : fX7_cellAt_33 N   S = some r) : V p l e rmX7_cellAt s m args below meth c Q D (xW ad cA) (xA ad) 3 S 33 [] [] := by
  unfold fX7_cellAt_33 at hm
  refine v_iconst C (pc := 33) (-1) dX7_cellAt_33 rfl ?_
  exact (vX7_cellAt_34 C hr hQ (N := N) hm)
def fX7_cellAt (N : Nat) (p1 : Int32) (p2 : Int32) (S : St) : Option (Int32 × St) := if p1 < 0 then (fX7_cellAt_33 N S) else (if (S.1 3) ≤ p1 then (fX7_cellAt_33 N S) else (if p2 < 0 then (fX7_cellAt_33 N S) else (if (S.1 4) ≤ p2 then (fX7_cellAt_33 N S) else (fX7_cellAt_34 N ((8 * p2) + p1) S))))
set_option maxRecDepth 20000 in
theorem vX7_cellAt {p : Program} {l : Launch} {e : Env} {s : State} {m : MethodId} {args : Array Value} {below : List Frame} {meth : Method} {c : Code} {Q : State → Prop} {D : va_G} {ad : Nat → Nat} {cA : Nat → ClassId} (C : Ok p s m args c D cA (xW ad cA) (xA ad) (xS ad) RX7 cX7_cellAt 3) (hr : Rt meth (some .int)) {r : Int32 × St} (hQ : Q = MQ below (Qo D (xW ad cA) (xA ad) (some (.int r.1)) r.2) args s 0 0 (xA ad)) {N : Nat} {p1 : Int32} {p2 : Int32} {S : St} (hm : fX7_cellAt N p1 p2 S = some r) : V p l e rmX7_cellAt s m args below meth c Q D (xW ad cA) (xA ad) 3 S 0 [(0, .ref (ad 3)), (1, .int p1), (2, .int p2)] [] := by
  unfold fX7_cellAt at hm
  refine v_iload_n C (pc := 0) 1 dX7_cellAt_0 rfl rfl ?_
  refine v_if_lt C (pc := 1) hm 33 dX7_cellAt_1 rfl (fun hm => ?_) (fun hm => ?_)
  · exact v_sub [] rfl (vX7_cellAt_33 C hr hQ (N := N) hm)
  · refine v_iload_n C (pc := 4) 1 dX7_cellAt_4 rfl rfl ?_
    refine v_aload_n C (pc := 5) 0 dX7_cellAt_5 rfl rfl ?_
    refine gX7_9 C (pc := 6) dX7_cellAt_6 ?_
    refine v_icmp_ge C (pc := 9) hm 33 dX7_cellAt_9 rfl (fun hm => ?_) (fun hm => ?_)
    · exact v_sub [] rfl (vX7_cellAt_33 C hr hQ (N := N) hm)
    · refine v_iload_n C (pc := 12) 2 dX7_cellAt_12 rfl rfl ?_
      refine v_if_lt C (pc := 13) hm 33 dX7_cellAt_13 rfl (fun hm => ?_) (fun hm => ?_)
      · exact v_sub [] rfl (vX7_cellAt_33 C hr hQ (N := N) hm)
      · refine v_iload_n C (pc := 16) 2 dX7_cellAt_16 rfl rfl ?_
        refine v_aload_n C (pc := 17) 0 dX7_cellAt_17 rfl rfl ?_
        refine gX7_15 C (pc := 18) dX7_cellAt_18 ?_
        refine v_icmp_ge C (pc := 21) hm 33 dX7_cellAt_21 rfl (fun hm => ?_) (fun hm => ?_)
        · exact v_sub [] rfl (vX7_cellAt_33 C hr hQ (N := N) hm)
        · refine v_bipush C (pc := 24) 8 dX7_cellAt_24 rfl ?_
          refine v_iload_n C (pc := 26) 2 dX7_cellAt_26 rfl rfl ?_
          refine v_imul C (pc := 27) dX7_cellAt_27 ?_
          refine v_iload_n C (pc := 28) 1 dX7_cellAt_28 rfl rfl ?_
          refine v_iadd C (pc := 29) dX7_cellAt_29 ?_
          refine v_goto C (pc := 30) 34 dX7_cellAt_30 rfl ?_
          exact v_sub [] rfl (vX7_cellAt_34 C hr hQ (N := N) hm)
theorem mX7_cellAt {l : Launch} {D : va_G} {ad : Nat → Nat} {cA : Nat → ClassId} (hD : ∀ S, va_D (xA ad) (xW ad cA S)) {N : Nat} {p1 : Int32} {p2 : Int32} {S : St} {r : Int32 × St} (hm : fX7_cellAt N p1 p2 S = some r) : Met l yX7_cellAt (wsm yX7_cellAt cX7_cellAt 3 (some .int)) rmX7_cellAt (va_Pc [.ref (ad 3), .int p1, .int p2] (Pre D cA (xW ad cA) (xS ad) S)) (Qo D (xW ad cA) (xA ad) (some (.int r.1)) r.2) 0 0 (xA ad) := met_of [.ref (ad 3), .int p1, .int p2] (by decide) (Nat.le_of_ble_eq_true rfl) hD (xS_mv ad) (xS_kp ad) (fun p e s m below meth c C hr => vX7_cellAt C hr rfl (N := N)  hm)
-- X8_holds
def rmX8_holds : Room := { frames := 0, cells := 0, slots := 0, locals := 0 }
def fX8_holds_15 (N : Nat)  (s0 : Bool) (S : St) : Option (Bool × St) := some (s0, S)
set_option maxRecDepth 20000 in
theorem vX8_holds_15 {p : Program} {l : Launch} {e : Env} {s : State} {m : MethodId} {args : Array Value} {below : List Frame} {meth : Method} {c : Code} {Q : State → Prop} {D : va_G} {ad : Nat → Nat} {cA : Nat → ClassId} (C : Ok p s m args c D cA (xW ad cA) (xA ad) (xS ad) RX8 cX8_holds 3) (hr : Rt meth (some .boolean)) {r : Bool × St} (hQ : Q = MQ below (Qo D (xW ad cA) (xA ad) (some (.int (b2i r.1))) r.2) args s 0 0 (xA ad)) {N : Nat}  {s0 : Bool}  {S : St} (hm : fX8_holds_15 N  s0 S = some r) : V p l e rmX8_holds s m args below meth c Q D (xW ad cA) (xA ad) 3 S 15 [] [.int (b2i s0)] := by
  unfold fX8_holds_15 at hm
  exact v_zret C hr hQ (x := s0) (pc := 15) hm dX8_holds_15
def fX8_holds (N : Nat) (p1 : Int64) (p2 : Int32) (S : St) : Option (Bool × St) := if (lg_cmp ((UInt64.toInt64 (Int64.toUInt64 p1 >>> ((Int32.toInt64 p2).toUInt64 &&& Int64.toUInt64 63))) &&& 1) 0) = 0 then (fX8_holds_15 N false S) else (fX8_holds_15 N true S)
set_option maxRecDepth 20000 in
theorem vX8_holds {p : Program} {l : Launch} {e : Env} {s : State} {m : MethodId} {args : Array Value} {below : List Frame} {meth : Method} {c : Code} {Q : State → Prop} {D : va_G} {ad : Nat → Nat} {cA : Nat → ClassId} (C : Ok p s m args c D cA (xW ad cA) (xA ad) (xS ad) RX8 cX8_holds 3) (hr : Rt meth (some .boolean)) {r : Bool × St} (hQ : Q = MQ below (Qo D (xW ad cA) (xA ad) (some (.int (b2i r.1))) r.2) args s 0 0 (xA ad)) {N : Nat} {p1 : Int64} {p2 : Int32} {S : St} (hm : fX8_holds N p1 p2 S = some r) : V p l e rmX8_holds s m args below meth c Q D (xW ad cA) (xA ad) 3 S 0 [(0, .long p1), (2, .int p2)] [] := by
  unfold fX8_holds at hm
  refine v_lload_n C (pc := 0) 0 dX8_holds_0 rfl rfl ?_
  refine v_iload_n C (pc := 1) 1 dX8_holds_1 rfl rfl ?_
  refine v_lushr C (pc := 2) dX8_holds_2 ?_
  refine v_lconst C (pc := 3) 1 dX8_holds_3 rfl ?_
  refine v_land C (pc := 4) dX8_holds_4 ?_
  refine v_lconst C (pc := 5) 0 dX8_holds_5 rfl ?_
  refine v_lcmp C (pc := 6) dX8_holds_6 ?_
  refine v_if_eq C (pc := 7) hm 14 dX8_holds_7 rfl (fun hm => ?_) (fun hm => ?_)
  · refine v_iconst C (pc := 14) 0 dX8_holds_14 rfl ?_
    exact v_sub [] rfl (vX8_holds_15 C hr hQ (N := N) hm)
  · refine v_iconst C (pc := 10) 1 dX8_holds_10 rfl ?_
    refine v_goto C (pc := 11) 15 dX8_holds_11 rfl ?_
    exact v_sub [] rfl (vX8_holds_15 C hr hQ (N := N) hm)
theorem mX8_holds {l : Launch} {D : va_G} {ad : Nat → Nat} {cA : Nat → ClassId} (hD : ∀ S, va_D (xA ad) (xW ad cA S)) {N : Nat} {p1 : Int64} {p2 : Int32} {S : St} {r : Bool × St} (hm : fX8_holds N p1 p2 S = some r) : Met l yX8_holds (wsm yX8_holds cX8_holds 3 (some .boolean)) rmX8_holds (va_Pc [.long p1, .int p2] (Pre D cA (xW ad cA) (xS ad) S)) (Qo D (xW ad cA) (xA ad) (some (.int (b2i r.1))) r.2) 0 0 (xA ad) := met_of [.long p1, .int p2] (by decide) (Nat.le_of_ble_eq_true rfl) hD (xS_mv ad) (xS_kp ad) (fun p e s m below meth c C hr => vX8_holds C hr rfl (N := N)  hm)
-- X0_cellsIn
theorem infX7_cellAt : InfV yX7_cellAt cX7_cellAt 3 (some .int) 2 := ⟨⟨gm (i := 58) (by decide +kernel) rfl, gm (i := 480) (by decide +kernel) rfl, by decide +kernel⟩, gm (i := 478) (by decide +kernel) rfl, gm (i := 479) (by decide +kernel) rfl⟩
theorem kX0_65 {p : Program} {l : Launch} {e : Env} {R : Room} {s : State} {m : MethodId} {args : Array Value} {below : List Frame} {meth : Method} {c : Code} {Q : State → Prop} {D : va_G} {ad : Nat → Nat} {cA : Nat → ClassId} {cc : ByteArray} {nL : Nat} {S : St} {pc : Nat} {lv : List (Nat × Value)} {st : List Value} {ρ : Type} {res : ρ} (C : Ok p s m args c D cA (xW ad cA) (xA ad) (xS ad) RX0 cc nL) (hfr : rmX7_cellAt.frames + 1 ≤ R.frames) (hlo : 8 + (3 + 11) + rmX7_cellAt.locals ≤ R.locals) {N : Nat} {p1 : Int32} {p2 : Int32} {E : Int32 → St → Option ρ} (hm : bd (fX7_cellAt N p1 p2 S) E = some res) (hcat : (st.map fun v => v.category).sum ≤ 8) (hd : decode cc pc = .ok (.invokevirtual 65, 3)) (k : ∀ r S, E r S = some res → V p l e R s m args below meth c Q D (xW ad cA) (xA ad) nL S (pc + 3) lv (.int r :: st)) : V p l e R s m args below meth c Q D (xW ad cA) (xA ad) nL S pc lv (.int p2 :: .int p1 :: .ref (ad 3) :: st) := by
  obtain ⟨r, S1, h1, h2⟩ := bd_some hm
  exact v_callV C (gm (i := 477) (by decide +kernel) rfl : Cond.methodLink RX0 65 yX7_cellAt ∈ gw_tbl) infX7_cellAt (rm2 := rmX7_cellAt) ⟨rfl, rfl⟩ hfr hlo (mX7_cellAt C.2.2.2.2.2.2.1 h1) (As := [.int p1, .int p2]) (oX7 ad cA S) rfl rfl rfl rfl hcat hd (k r S1 h2)
theorem infX8_holds : InfS yX8_holds cX8_holds 3 (some .boolean) 2 := ⟨⟨gm (i := 55) (by decide +kernel) rfl, gm (i := 483) (by decide +kernel) rfl, by decide +kernel⟩, gm (i := 482) (by decide +kernel) rfl⟩
theorem kX0_75 {p : Program} {l : Launch} {e : Env} {R : Room} {s : State} {m : MethodId} {args : Array Value} {below : List Frame} {meth : Method} {c : Code} {Q : State → Prop} {D : va_G} {ad : Nat → Nat} {cA : Nat → ClassId} {cc : ByteArray} {nL : Nat} {S : St} {pc : Nat} {lv : List (Nat × Value)} {st : List Value} {ρ : Type} {res : ρ} (C : Ok p s m args c D cA (xW ad cA) (xA ad) (xS ad) RX0 cc nL) (hfr : rmX8_holds.frames + 1 ≤ R.frames) (hlo : 8 + (3 + 11) + rmX8_holds.locals ≤ R.locals) {N : Nat} {p1 : Int64} {p2 : Int32} {E : Bool → St → Option ρ} (hm : bd (fX8_holds N p1 p2 S) E = some res) (hcat : (st.map fun v => v.category).sum ≤ 8) (hd : decode cc pc = .ok (.invokestatic 75, 3)) (k : ∀ r S, E r S = some res → V p l e R s m args below meth c Q D (xW ad cA) (xA ad) nL S (pc + 3) lv (.int (b2i r) :: st)) : V p l e R s m args below meth c Q D (xW ad cA) (xA ad) nL S pc lv (.int p2 :: .long p1 :: st) := by
  obtain ⟨r, S1, h1, h2⟩ := bd_some hm
  exact v_callSN C (C.2.2.2.2.2.2.2.1.2.2.2.2 _ (by decide +kernel) : va_Nw (Cond.methodLinkNest RX0 75 yX8_holds "BlockYard") s) infX8_holds (rm2 := rmX8_holds) ⟨rfl, rfl⟩ hfr hlo (mX8_holds C.2.2.2.2.2.2.1 h1) (As := [.long p1, .int p2]) rfl rfl hcat hd (k r S1 h2)
theorem infX8_orientationOf : InfS yX8_orientationOf cX8_orientationOf 1 (some .int) 1 := ⟨⟨gm (i := 55) (by decide +kernel) rfl, gm (i := 474) (by decide +kernel) rfl, by decide +kernel⟩, gm (i := 473) (by decide +kernel) rfl⟩
theorem kX0_62 {p : Program} {l : Launch} {e : Env} {R : Room} {s : State} {m : MethodId} {args : Array Value} {below : List Frame} {meth : Method} {c : Code} {Q : State → Prop} {D : va_G} {ad : Nat → Nat} {cA : Nat → ClassId} {cc : ByteArray} {nL : Nat} {S : St} {pc : Nat} {lv : List (Nat × Value)} {st : List Value} {ρ : Type} {res : ρ} (C : Ok p s m args c D cA (xW ad cA) (xA ad) (xS ad) RX0 cc nL) (hfr : rmX8_orientationOf.frames + 1 ≤ R.frames) (hlo : 8 + (1 + 11) + rmX8_orientationOf.locals ≤ R.locals) {N : Nat} {p1 : Int32} {E : Int32 → St → Option ρ} (hm : bd (fX8_orientationOf N p1 S) E = some res) (hcat : (st.map fun v => v.category).sum ≤ 8) (hd : decode cc pc = .ok (.invokestatic 62, 3)) (k : ∀ r S, E r S = some res → V p l e R s m args below meth c Q D (xW ad cA) (xA ad) nL S (pc + 3) lv (.int r :: st)) : V p l e R s m args below meth c Q D (xW ad cA) (xA ad) nL S pc lv (.int p1 :: st) := by
  obtain ⟨r, S1, h1, h2⟩ := bd_some hm
  exact v_callSN C (C.2.2.2.2.2.2.2.1.2.2.2.2 _ (by decide +kernel) : va_Nw (Cond.methodLinkNest RX0 62 yX8_orientationOf "BlockYard") s) infX8_orientationOf (rm2 := rmX8_orientationOf) ⟨rfl, rfl⟩ hfr hlo (mX8_orientationOf C.2.2.2.2.2.2.1 h1) (As := [.int p1]) rfl rfl hcat hd (k r S1 h2)
def rmX0_cellsIn : Room := { frames := 1, cells := 0, slots := 0, locals := 22 }
def fX0_cellsIn_71 (N : Nat) (i0 : Nat)   (S : St) : Option (Int64 × St) := some (0, S)
set_option maxRecDepth 20000 in
theorem vX0_cellsIn_71 {p : Program} {l : Launch} {e : Env} {s : State} {m : MethodId} {args : Array Value} {below : List Frame} {meth : Method} {c : Code} {Q : State → Prop} {D : va_G} {ad : Nat → Nat} {cA : Nat → ClassId} (C : Ok p s m args c D cA (xW ad cA) (xA ad) (xS ad) RX0 cX0_cellsIn 8) (hr : Rt meth (some .long)) {r : Int64 × St} (hQ : Q = MQ below (Qo D (xW ad cA) (xA ad) (some (.long r.1)) r.2) args s 0 0 (xA ad)) {N : Nat} {i0 : Nat} (hi0 : i0 < 5)    {S : St} (hm : fX0_cellsIn_71 N i0   S = some r) : V p l e rmX0_cellsIn s m args below meth c Q D (xW ad cA) (xA ad) 8 S 71 [] [] := by
  unfold fX0_cellsIn_71 at hm
  refine v_lconst C (pc := 71) 0 dX0_cellsIn_71 rfl ?_
  exact v_lret C hr hQ (pc := 72) hm dX0_cellsIn_72
def fX0_cellsIn_13b (N : Nat) (i0 : Nat)  (k13 : Int32 → Int32 → Int64 → Int32 → St → Option (Int64 × St)) (x2 : Int32) (x3 : Int32) (x4 : Int64) (x6 : Int32) (S : St) : Option (Int64 × St) := if (x3 + (S.1 (5 + i0))) ≤ x6 then (some (x4, S)) else (bd (fX8_columnOf N x2 S) fun r8 S6 => ck x6 20 (bd (fX8_rowOf N x2 S6) fun r9 S7 => ck x6 20 (bd (fX7_cellAt N (r8 + (S6.2.2.1 (4 + i0) (Int32.toNatClampNeg x6))) (r9 + (S7.2.2.1 (9 + i0) (Int32.toNatClampNeg x6))) S7) fun r10 S8 => if r10 < 0 then (fX0_cellsIn_71 N i0 S8) else (bd (fX8_holds N (S8.2.1 0) r10 S8) fun r11 S9 => if (b2i r11) = 0 then (nm (x4 ||| (1 <<< (Int32.toInt64 r10 &&& 63))) fun y12 => k13 x2 x3 y12 (x6 + 1) S9) else (fX0_cellsIn_71 N i0 S9)))))
def fX0_cellsIn_13 (N : Nat) (i0 : Nat)  : Nat → Int32 → Int32 → Int64 → Int32 → St → Option (Int64 × St)
  | 0 => fun _ _ _ _ _ => none
  | n + 1 => fun x2 x3 x4 x6 S => fX0_cellsIn_13b N i0  (fX0_cellsIn_13 N i0  n) x2 x3 x4 x6 S
set_option maxRecDepth 20000 in
theorem vX0_cellsIn_13b {p : Program} {l : Launch} {e : Env} {s : State} {m : MethodId} {args : Array Value} {below : List Frame} {meth : Method} {c : Code} {Q : State → Prop} {D : va_G} {ad : Nat → Nat} {cA : Nat → ClassId} (C : Ok p s m args c D cA (xW ad cA) (xA ad) (xS ad) RX0 cX0_cellsIn 8) (hr : Rt meth (some .long)) {r : Int64 × St} (hQ : Q = MQ below (Qo D (xW ad cA) (xA ad) (some (.long r.1)) r.2) args s 0 0 (xA ad)) {N : Nat} {i0 : Nat} (hi0 : i0 < 5)  {k13 : Int32 → Int32 → Int64 → Int32 → St → Option (Int64 × St)} (hk13 : ∀ (x2 : Int32) (x3 : Int32) (x4 : Int64) (x6 : Int32) (S : St), k13 x2 x3 x4 x6 S = some r → V p l e rmX0_cellsIn s m args below meth c Q D (xW ad cA) (xA ad) 8 S 13 [(0, .ref (ad (4 + i0))), (1, .ref (ad 3)), (2, .int x2), (3, .int x3), (4, .long x4), (6, .int x6)] []) {x2 : Int32} {x3 : Int32} {x4 : Int64} {x6 : Int32}  {S : St} (hm : fX0_cellsIn_13b N i0  k13 x2 x3 x4 x6 S = some r) : V p l e rmX0_cellsIn s m args below meth c Q D (xW ad cA) (xA ad) 8 S 13 [(0, .ref (ad (4 + i0))), (1, .ref (ad 3)), (2, .int x2), (3, .int x3), (4, .long x4), (6, .int x6)] [] := by
  unfold fX0_cellsIn_13b at hm
  refine v_iload C (pc := 13) 5 dX0_cellsIn_13 rfl ?_
  refine v_iload_n C (pc := 15) 3 dX0_cellsIn_15 rfl rfl ?_
  refine v_aload_n C (pc := 16) 0 dX0_cellsIn_16 rfl rfl ?_
  refine gX0_25 C hi0 (pc := 17) dX0_cellsIn_17 ?_
  refine v_iadd C (pc := 20) dX0_cellsIn_20 ?_
  refine v_icmp_ge C (pc := 21) hm 88 dX0_cellsIn_21 rfl (fun hm => ?_) (fun hm => ?_)
  · refine v_lload C (pc := 88) 4 dX0_cellsIn_88 rfl ?_
    exact v_lret C hr hQ (pc := 90) hm dX0_cellsIn_90
  · refine v_aload_n C (pc := 24) 1 dX0_cellsIn_24 rfl rfl ?_
    refine v_iload_n C (pc := 25) 2 dX0_cellsIn_25 rfl rfl ?_
    refine kX0_51 C (Nat.le_of_ble_eq_true rfl) (Nat.le_of_ble_eq_true rfl) (pc := 26) hm (Nat.le_of_ble_eq_true rfl) dX0_cellsIn_26 (fun r8 S6 hm => ?_)
    refine v_aload_n C (pc := 29) 0 dX0_cellsIn_29 rfl rfl ?_
    refine gX0_9 C hi0 (pc := 30) dX0_cellsIn_30 ?_
    refine v_iload C (pc := 33) 5 dX0_cellsIn_33 rfl ?_
    refine ldX0_offsetX C hi0 (pc := 35) hm dX0_cellsIn_35 (fun hm => ?_)
    refine v_iadd C (pc := 36) dX0_cellsIn_36 ?_
    refine v_iload_n C (pc := 37) 2 dX0_cellsIn_37 rfl rfl ?_
    refine kX0_55 C (Nat.le_of_ble_eq_true rfl) (Nat.le_of_ble_eq_true rfl) (pc := 38) hm (Nat.le_of_ble_eq_true rfl) dX0_cellsIn_38 (fun r9 S7 hm => ?_)
    refine v_aload_n C (pc := 41) 0 dX0_cellsIn_41 rfl rfl ?_
    refine gX0_15 C hi0 (pc := 42) dX0_cellsIn_42 ?_
    refine v_iload C (pc := 45) 5 dX0_cellsIn_45 rfl ?_
    refine ldX0_offsetY C hi0 (pc := 47) hm dX0_cellsIn_47 (fun hm => ?_)
    refine v_iadd C (pc := 48) dX0_cellsIn_48 ?_
    refine kX0_65 C (Nat.le_of_ble_eq_true rfl) (Nat.le_of_ble_eq_true rfl) (pc := 49) hm (Nat.le_of_ble_eq_true rfl) dX0_cellsIn_49 (fun r10 S8 hm => ?_)
    refine v_istore C (pc := 52) [(7, .int r10), (0, .ref (ad (4 + i0))), (1, .ref (ad 3)), (2, .int x2), (3, .int x3), (4, .long x4), (6, .int x6)] dX0_cellsIn_52 (by decide) rfl ?_
    refine v_iload C (pc := 54) 0 dX0_cellsIn_54 rfl ?_
    refine v_if_lt C (pc := 56) hm 71 dX0_cellsIn_56 rfl (fun hm => ?_) (fun hm => ?_)
    · exact v_sub [] rfl (vX0_cellsIn_71 C hr hQ (N := N) hi0 hm)
    · refine v_aload_n C (pc := 59) 2 dX0_cellsIn_59 rfl rfl ?_
      refine gX0_71 C (pc := 60) dX0_cellsIn_60 ?_
      refine v_iload C (pc := 63) 0 dX0_cellsIn_63 rfl ?_
      refine kX0_75 C (Nat.le_of_ble_eq_true rfl) (Nat.le_of_ble_eq_true rfl) (pc := 65) hm (Nat.le_of_ble_eq_true rfl) dX0_cellsIn_65 (fun r11 S9 hm => ?_)
      refine v_if_eq C (pc := 68) hm 73 dX0_cellsIn_68 rfl (fun hm => ?_) (fun hm => ?_)
      · refine v_lload C (pc := 73) 5 dX0_cellsIn_73 rfl ?_
        refine v_lconst C (pc := 75) 1 dX0_cellsIn_75 rfl ?_
        refine v_iload C (pc := 76) 0 dX0_cellsIn_76 rfl ?_
        refine v_lshl C (pc := 78) dX0_cellsIn_78 ?_
        refine v_lor C (pc := 79) dX0_cellsIn_79 ?_
        refine v_lstoreN C (pc := 80) [(7, .int r10), (0, .ref (ad (4 + i0))), (1, .ref (ad 3)), (2, .int x2), (3, .int x3), (6, .int x6)] hm dX0_cellsIn_80 (by decide) rfl (fun y12 hm => ?_)
        refine v_iinc C (pc := 82) 1 6 [(6, .int (x6 + 1)), (4, .long y12), (7, .int r10), (0, .ref (ad (4 + i0))), (1, .ref (ad 3)), (2, .int x2), (3, .int x3)] dX0_cellsIn_82 rfl rfl (by decide) rfl ?_
        refine v_goto C (pc := 85) 13 dX0_cellsIn_85 rfl ?_
        exact v_sub [3, 4, 5, 6, 1, 0] rfl (hk13 _ _ _ _ _ hm)
      · exact v_sub [] rfl (vX0_cellsIn_71 C hr hQ (N := N) hi0 hm)
theorem vX0_cellsIn_13 {p : Program} {l : Launch} {e : Env} {s : State} {m : MethodId} {args : Array Value} {below : List Frame} {meth : Method} {c : Code} {Q : State → Prop} {D : va_G} {ad : Nat → Nat} {cA : Nat → ClassId} (C : Ok p s m args c D cA (xW ad cA) (xA ad) (xS ad) RX0 cX0_cellsIn 8) (hr : Rt meth (some .long)) {r : Int64 × St} (hQ : Q = MQ below (Qo D (xW ad cA) (xA ad) (some (.long r.1)) r.2) args s 0 0 (xA ad)) {N : Nat} {i0 : Nat} (hi0 : i0 < 5)  (n : Nat) : ∀ (x2 : Int32) (x3 : Int32) (x4 : Int64) (x6 : Int32) (S : St), fX0_cellsIn_13 N i0  n x2 x3 x4 x6 S = some r → V p l e rmX0_cellsIn s m args below meth c Q D (xW ad cA) (xA ad) 8 S 13 [(0, .ref (ad (4 + i0))), (1, .ref (ad 3)), (2, .int x2), (3, .int x3), (4, .long x4), (6, .int x6)] [] := by
  induction n with
  | zero => intro _ _ _ _ _  hm; exact absurd hm (by intro h; cases h)
  | succ n ih => intro _ _ _ _ _  hm; exact vX0_cellsIn_13b C hr hQ (N := N) hi0  ih  hm
def fX0_cellsIn (N : Nat) (i0 : Nat) (p2 : Int32) (S : St) : Option (Int64 × St) := bd (fX8_orientationOf N p2 S) fun r13 S10 => nm (5 * r13) fun y14 => fX0_cellsIn_13 N i0 N p2 y14 0 y14 S10
set_option maxRecDepth 20000 in
theorem vX0_cellsIn {p : Program} {l : Launch} {e : Env} {s : State} {m : MethodId} {args : Array Value} {below : List Frame} {meth : Method} {c : Code} {Q : State → Prop} {D : va_G} {ad : Nat → Nat} {cA : Nat → ClassId} (C : Ok p s m args c D cA (xW ad cA) (xA ad) (xS ad) RX0 cX0_cellsIn 8) (hr : Rt meth (some .long)) {r : Int64 × St} (hQ : Q = MQ below (Qo D (xW ad cA) (xA ad) (some (.long r.1)) r.2) args s 0 0 (xA ad)) {N : Nat} {i0 : Nat} (hi0 : i0 < 5) {p2 : Int32} {S : St} (hm : fX0_cellsIn N i0 p2 S = some r) : V p l e rmX0_cellsIn s m args below meth c Q D (xW ad cA) (xA ad) 8 S 0 [(0, .ref (ad (4 + i0))), (1, .ref (ad 3)), (2, .int p2)] [] := by
  unfold fX0_cellsIn at hm
  refine v_iconst C (pc := 0) 5 dX0_cellsIn_0 rfl ?_
  refine v_iload_n C (pc := 1) 2 dX0_cellsIn_1 rfl rfl ?_
  refine kX0_62 C (Nat.le_of_ble_eq_true rfl) (Nat.le_of_ble_eq_true rfl) (pc := 2) hm (Nat.le_of_ble_eq_true rfl) dX0_cellsIn_2 (fun r13 S10 hm => ?_)
  refine v_imul C (pc := 5) dX0_cellsIn_5 ?_
  refine v_istore_nN C (pc := 6) [(0, .ref (ad (4 + i0))), (1, .ref (ad 3)), (2, .int p2)] hm dX0_cellsIn_6 rfl (by decide) rfl (fun y14 hm => ?_)
  refine v_lconst C (pc := 7) 0 dX0_cellsIn_7 rfl ?_
  refine v_lstore C (pc := 8) [(4, .long 0), (3, .int y14), (0, .ref (ad (4 + i0))), (1, .ref (ad 3)), (2, .int p2)] dX0_cellsIn_8 (by decide) rfl ?_
  refine v_iload_n C (pc := 10) 1 dX0_cellsIn_10 rfl rfl ?_
  refine v_istore C (pc := 11) [(6, .int y14), (4, .long 0), (3, .int y14), (0, .ref (ad (4 + i0))), (1, .ref (ad 3)), (2, .int p2)] dX0_cellsIn_11 (by decide) rfl ?_
  exact v_sub [3, 4, 5, 2, 1, 0] rfl (vX0_cellsIn_13 C hr hQ (N := N) hi0 N _ _ _ _ _ hm)
theorem mX0_cellsIn {l : Launch} {D : va_G} {ad : Nat → Nat} {cA : Nat → ClassId} (hD : ∀ S, va_D (xA ad) (xW ad cA S)) {N : Nat} {i0 : Nat} (hi0 : i0 < 5) {p2 : Int32} {S : St} {r : Int64 × St} (hm : fX0_cellsIn N i0 p2 S = some r) : Met l yX0_cellsIn (wsm yX0_cellsIn cX0_cellsIn 8 (some .long)) rmX0_cellsIn (va_Pc [.ref (ad (4 + i0)), .ref (ad 3), .int p2] (Pre D cA (xW ad cA) (xS ad) S)) (Qo D (xW ad cA) (xA ad) (some (.long r.1)) r.2) 0 0 (xA ad) := met_of [.ref (ad (4 + i0)), .ref (ad 3), .int p2] (by decide) (Nat.le_of_ble_eq_true rfl) hD (xS_mv ad) (xS_kp ad) (fun p e s m below meth c C hr => vX0_cellsIn C hr rfl (N := N) hi0 hm)
-- X0_findPlacements
theorem infX0_cellsIn : InfV yX0_cellsIn cX0_cellsIn 8 (some .long) 2 := ⟨⟨gm (i := 59) (by decide +kernel) rfl, gm (i := 471) (by decide +kernel) rfl, by decide +kernel⟩, gm (i := 470) (by decide +kernel) rfl, gm (i := 5) (by decide +kernel) rfl⟩
theorem kX0_58 {p : Program} {l : Launch} {e : Env} {R : Room} {s : State} {m : MethodId} {args : Array Value} {below : List Frame} {meth : Method} {c : Code} {Q : State → Prop} {D : va_G} {ad : Nat → Nat} {cA : Nat → ClassId} {cc : ByteArray} {nL : Nat} {S : St} {pc : Nat} {lv : List (Nat × Value)} {st : List Value} {ρ : Type} {res : ρ} (C : Ok p s m args c D cA (xW ad cA) (xA ad) (xS ad) RX0 cc nL) (hfr : rmX0_cellsIn.frames + 1 ≤ R.frames) (hlo : 8 + (8 + 11) + rmX0_cellsIn.locals ≤ R.locals) {i : Nat} (hi : i < 5) {N : Nat} {p2 : Int32} {E : Int64 → St → Option ρ} (hm : bd (fX0_cellsIn N i p2 S) E = some res) (hcat : (st.map fun v => v.category).sum ≤ 8) (hd : decode cc pc = .ok (.invokevirtual 58, 3)) (k : ∀ r S, E r S = some res → V p l e R s m args below meth c Q D (xW ad cA) (xA ad) nL S (pc + 3) lv (.long r :: st)) : V p l e R s m args below meth c Q D (xW ad cA) (xA ad) nL S pc lv (.int p2 :: .ref (ad 3) :: .ref (ad (4 + i)) :: st) := by
  obtain ⟨r, S1, h1, h2⟩ := bd_some hm
  exact v_callV C (gm (i := 468) (by decide +kernel) rfl : Cond.methodLink RX0 58 yX0_cellsIn ∈ gw_tbl) infX0_cellsIn (rm2 := rmX0_cellsIn) ⟨rfl, rfl⟩ hfr hlo (mX0_cellsIn C.2.2.2.2.2.2.1 hi h1) (As := [.ref (ad 3), .int p2]) (oX0 ad cA i hi S) rfl rfl rfl rfl hcat hd (k r S1 h2)
def rmX0_findPlacements : Room := { frames := 2, cells := 0, slots := 0, locals := 49 }
def fX0_findPlacements_2b (N : Nat) (i0 : Nat)  (k2 : Int32 → St → Option (Unit × St)) (x2 : Int32) (S : St) : Option (Unit × St) := if 256 ≤ x2 then (some ((), S)) else (bd (fX0_cellsIn N i0 x2 S) fun r3 S5 => ck x2 256 (stp (sL S5 (4 + i0) (Int32.toNatClampNeg x2) r3) fun S6 => k2 (x2 + 1) S6))
def fX0_findPlacements_2 (N : Nat) (i0 : Nat)  : Nat → Int32 → St → Option (Unit × St)
  | 0 => fun _ _ => none
  | n + 1 => fun x2 S => fX0_findPlacements_2b N i0  (fX0_findPlacements_2 N i0  n) x2 S
set_option maxRecDepth 20000 in
theorem vX0_findPlacements_2b {p : Program} {l : Launch} {e : Env} {s : State} {m : MethodId} {args : Array Value} {below : List Frame} {meth : Method} {c : Code} {Q : State → Prop} {D : va_G} {ad : Nat → Nat} {cA : Nat → ClassId} (C : Ok p s m args c D cA (xW ad cA) (xA ad) (xS ad) RX0 cX0_findPlacements 3) (hr : Rt meth none) {r : Unit × St} (hQ : Q = MQ below (Qo D (xW ad cA) (xA ad) (none) r.2) args s 0 0 (xA ad)) {N : Nat} {i0 : Nat} (hi0 : i0 < 5)  {k2 : Int32 → St → Option (Unit × St)} (hk2 : ∀ (x2 : Int32) (S : St), k2 x2 S = some r → V p l e rmX0_findPlacements s m args below meth c Q D (xW ad cA) (xA ad) 3 S 2 [(0, .ref (ad (4 + i0))), (1, .ref (ad 3)), (2, .int x2)] []) {x2 : Int32}  {S : St} (hm : fX0_findPlacements_2b N i0  k2 x2 S = some r) : V p l e rmX0_findPlacements s m args below meth c Q D (xW ad cA) (xA ad) 3 S 2 [(0, .ref (ad (4 + i0))), (1, .ref (ad 3)), (2, .int x2)] [] := by
  unfold fX0_findPlacements_2b at hm
  refine v_iload_n C (pc := 2) 2 dX0_findPlacements_2 rfl rfl ?_
  refine v_sipush C (pc := 3) 256 dX0_findPlacements_3 rfl ?_
  refine v_icmp_ge C (pc := 6) hm 27 dX0_findPlacements_6 rfl (fun hm => ?_) (fun hm => ?_)
  · exact v_vret C hr hQ (x := ()) (pc := 27) hm dX0_findPlacements_27
  · refine v_aload_n C (pc := 9) 0 dX0_findPlacements_9 rfl rfl ?_
    refine gX0_18 C hi0 (pc := 10) dX0_findPlacements_10 ?_
    refine v_iload_n C (pc := 13) 2 dX0_findPlacements_13 rfl rfl ?_
    refine v_aload_n C (pc := 14) 0 dX0_findPlacements_14 rfl rfl ?_
    refine v_aload_n C (pc := 15) 1 dX0_findPlacements_15 rfl rfl ?_
    refine v_iload_n C (pc := 16) 2 dX0_findPlacements_16 rfl rfl ?_
    refine kX0_58 C (Nat.le_of_ble_eq_true rfl) (Nat.le_of_ble_eq_true rfl) hi0 (pc := 17) hm (Nat.le_of_ble_eq_true rfl) dX0_findPlacements_17 (fun r3 S5 hm => ?_)
    refine stX0_cells C hi0 (pc := 20) hm dX0_findPlacements_20 (fun S6 hm => ?_)
    refine v_iinc C (pc := 21) 1 2 [(2, .int (x2 + 1)), (0, .ref (ad (4 + i0))), (1, .ref (ad 3))] dX0_findPlacements_21 rfl rfl (by decide) rfl ?_
    refine v_goto C (pc := 24) 2 dX0_findPlacements_24 rfl ?_
    exact v_sub [1, 2, 0] rfl (hk2 _ _ hm)
theorem vX0_findPlacements_2 {p : Program} {l : Launch} {e : Env} {s : State} {m : MethodId} {args : Array Value} {below : List Frame} {meth : Method} {c : Code} {Q : State → Prop} {D : va_G} {ad : Nat → Nat} {cA : Nat → ClassId} (C : Ok p s m args c D cA (xW ad cA) (xA ad) (xS ad) RX0 cX0_findPlacements 3) (hr : Rt meth none) {r : Unit × St} (hQ : Q = MQ below (Qo D (xW ad cA) (xA ad) (none) r.2) args s 0 0 (xA ad)) {N : Nat} {i0 : Nat} (hi0 : i0 < 5)  (n : Nat) : ∀ (x2 : Int32) (S : St), fX0_findPlacements_2 N i0  n x2 S = some r → V p l e rmX0_findPlacements s m args below meth c Q D (xW ad cA) (xA ad) 3 S 2 [(0, .ref (ad (4 + i0))), (1, .ref (ad 3)), (2, .int x2)] [] := by
  induction n with
  | zero => intro _ _  hm; exact absurd hm (by intro h; cases h)
  | succ n ih => intro _ _  hm; exact vX0_findPlacements_2b C hr hQ (N := N) hi0  ih  hm
def fX0_findPlacements (N : Nat) (i0 : Nat)  (S : St) : Option (Unit × St) := fX0_findPlacements_2 N i0 N 0 S
set_option maxRecDepth 20000 in
theorem vX0_findPlacements {p : Program} {l : Launch} {e : Env} {s : State} {m : MethodId} {args : Array Value} {below : List Frame} {meth : Method} {c : Code} {Q : State → Prop} {D : va_G} {ad : Nat → Nat} {cA : Nat → ClassId} (C : Ok p s m args c D cA (xW ad cA) (xA ad) (xS ad) RX0 cX0_findPlacements 3) (hr : Rt meth none) {r : Unit × St} (hQ : Q = MQ below (Qo D (xW ad cA) (xA ad) (none) r.2) args s 0 0 (xA ad)) {N : Nat} {i0 : Nat} (hi0 : i0 < 5)  {S : St} (hm : fX0_findPlacements N i0  S = some r) : V p l e rmX0_findPlacements s m args below meth c Q D (xW ad cA) (xA ad) 3 S 0 [(0, .ref (ad (4 + i0))), (1, .ref (ad 3))] [] := by
  unfold fX0_findPlacements at hm
  refine v_iconst C (pc := 0) 0 dX0_findPlacements_0 rfl ?_
  refine v_istore_n C (pc := 1) [(2, .int 0), (0, .ref (ad (4 + i0))), (1, .ref (ad 3))] dX0_findPlacements_1 rfl (by decide) rfl ?_
  exact v_sub [1, 2, 0] rfl (vX0_findPlacements_2 C hr hQ (N := N) hi0 N _ _ hm)
theorem mX0_findPlacements {l : Launch} {D : va_G} {ad : Nat → Nat} {cA : Nat → ClassId} (hD : ∀ S, va_D (xA ad) (xW ad cA S)) {N : Nat} {i0 : Nat} (hi0 : i0 < 5)  {S : St} {r : Unit × St} (hm : fX0_findPlacements N i0  S = some r) : Met l yX0_findPlacements (wsm yX0_findPlacements cX0_findPlacements 3 none) rmX0_findPlacements (va_Pc [.ref (ad (4 + i0)), .ref (ad 3)] (Pre D cA (xW ad cA) (xS ad) S)) (Qo D (xW ad cA) (xA ad) (none) r.2) 0 0 (xA ad) := met_of [.ref (ad (4 + i0)), .ref (ad 3)] (by decide) (Nat.le_of_ble_eq_true rfl) hD (xS_mv ad) (xS_kp ad) (fun p e s m below meth c C hr => vX0_findPlacements C hr rfl (N := N) hi0 hm)
-- X7_shifted
def rmX7_shifted : Room := { frames := 0, cells := 0, slots := 0, locals := 0 }
def fX7_shifted_15 (N : Nat)  (s0 : Int32) (x1 : Int32) (S : St) : Option (Int32 × St) := some (((x1 + (64 * s0)) &&& 255), S)
set_option maxRecDepth 20000 in
theorem vX7_shifted_15 {p : Program} {l : Launch} {e : Env} {s : State} {m : MethodId} {args : Array Value} {below : List Frame} {meth : Method} {c : Code} {Q : State → Prop} {D : va_G} {ad : Nat → Nat} {cA : Nat → ClassId} (C : Ok p s m args c D cA (xW ad cA) (xA ad) (xS ad) RX7 cX7_shifted 6) (hr : Rt meth (some .int)) {r : Int32 × St} (hQ : Q = MQ below (Qo D (xW ad cA) (xA ad) (some (.int r.1)) r.2) args s 0 0 (xA ad)) {N : Nat}  {s0 : Int32} {x1 : Int32}  {S : St} (hm : fX7_shifted_15 N  s0 x1 S = some r) : V p l e rmX7_shifted s m args below meth c Q D (xW ad cA) (xA ad) 6 S 15 [(1, .int x1)] [.int s0] := by
  unfold fX7_shifted_15 at hm
  refine v_istore_n C (pc := 15) [(3, .int s0), (1, .int x1)] dX7_shifted_15 rfl (by decide) rfl ?_
  refine v_iload_n C (pc := 16) 1 dX7_shifted_16 rfl rfl ?_
  refine v_bipush C (pc := 17) 64 dX7_shifted_17 rfl ?_
  refine v_iload_n C (pc := 19) 0 dX7_shifted_19 rfl rfl ?_
  refine v_imul C (pc := 20) dX7_shifted_20 ?_
  refine v_iadd C (pc := 21) dX7_shifted_21 ?_
  refine v_sipush C (pc := 22) 255 dX7_shifted_22 rfl ?_
  refine v_iand C (pc := 25) dX7_shifted_25 ?_
  exact v_iret C hr hQ (pc := 26) hm dX7_shifted_26
def fX7_shifted_110 (N : Nat)  (s0 : Int32) (S : St) : Option (Int32 × St) := some (s0, S)
set_option maxRecDepth 20000 in
theorem vX7_shifted_110 {p : Program} {l : Launch} {e : Env} {s : State} {m : MethodId} {args : Array Value} {below : List Frame} {meth : Method} {c : Code} {Q : State → Prop} {D : va_G} {ad : Nat → Nat} {cA : Nat → ClassId} (C : Ok p s m args c D cA (xW ad cA) (xA ad) (xS ad) RX7 cX7_shifted 6) (hr : Rt meth (some .int)) {r : Int32 × St} (hQ : Q = MQ below (Qo D (xW ad cA) (xA ad) (some (.int r.1)) r.2) args s 0 0 (xA ad)) {N : Nat}  {s0 : Int32}  {S : St} (hm : fX7_shifted_110 N  s0 S = some r) : V p l e rmX7_shifted s m args below meth c Q D (xW ad cA) (xA ad) 6 S 110 [] [.int s0] := by
  unfold fX7_shifted_110 at hm
  exact v_iret C hr hQ (pc := 110) hm dX7_shifted_110
def fX7_shifted_83 (N : Nat)  (s0 : Bool) (x1 : Int32) (x2 : Int32) (S : St) : Option (Int32 × St) := if (b2i s0) = 0 then (fX7_shifted_110 N (-1) S) else (ck x2 4 (ck x2 4 (fX7_shifted_110 N ((x1 + (tSX (Int32.toNatClampNeg x2))) + (8 * (tSY (Int32.toNatClampNeg x2)))) S)))
set_option maxRecDepth 20000 in
theorem vX7_shifted_83 {p : Program} {l : Launch} {e : Env} {s : State} {m : MethodId} {args : Array Value} {below : List Frame} {meth : Method} {c : Code} {Q : State → Prop} {D : va_G} {ad : Nat → Nat} {cA : Nat → ClassId} (C : Ok p s m args c D cA (xW ad cA) (xA ad) (xS ad) RX7 cX7_shifted 6) (hr : Rt meth (some .int)) {r : Int32 × St} (hQ : Q = MQ below (Qo D (xW ad cA) (xA ad) (some (.int r.1)) r.2) args s 0 0 (xA ad)) {N : Nat}  {s0 : Bool} {x1 : Int32} {x2 : Int32}  {S : St} (hm : fX7_shifted_83 N  s0 x1 x2 S = some r) : V p l e rmX7_shifted s m args below meth c Q D (xW ad cA) (xA ad) 6 S 83 [(1, .int x1), (2, .int x2)] [.int (b2i s0)] := by
  unfold fX7_shifted_83 at hm
  refine v_istore C (pc := 83) [(5, .int (b2i s0)), (1, .int x1), (2, .int x2)] dX7_shifted_83 (by decide) rfl ?_
  refine v_iload C (pc := 85) 0 dX7_shifted_85 rfl ?_
  refine v_if_eq C (pc := 87) hm 109 dX7_shifted_87 rfl (fun hm => ?_) (fun hm => ?_)
  · refine v_iconst C (pc := 109) (-1) dX7_shifted_109 rfl ?_
    exact v_sub [] rfl (vX7_shifted_110 C hr hQ (N := N) hm)
  · refine v_iload_n C (pc := 90) 1 dX7_shifted_90 rfl rfl ?_
    refine v_gets C (pc := 91) C.2.2.2.2.2.2.2.1.2.2.1.1 flX7_48 rfl dX7_shifted_91 ?_
    refine v_iload_n C (pc := 94) 2 dX7_shifted_94 rfl rfl ?_
    refine v_tabi C (pc := 95) C.2.2.2.2.2.2.2.1.2.2.1.2 hm dX7_shifted_95 (fun hm => ?_)
    refine v_iadd C (pc := 96) dX7_shifted_96 ?_
    refine v_bipush C (pc := 97) 8 dX7_shifted_97 rfl ?_
    refine v_gets C (pc := 99) C.2.2.2.2.2.2.2.1.2.2.2.1.1 flX7_51 rfl dX7_shifted_99 ?_
    refine v_iload_n C (pc := 102) 2 dX7_shifted_102 rfl rfl ?_
    refine v_tabi C (pc := 103) C.2.2.2.2.2.2.2.1.2.2.2.1.2 hm dX7_shifted_103 (fun hm => ?_)
    refine v_imul C (pc := 104) dX7_shifted_104 ?_
    refine v_iadd C (pc := 105) dX7_shifted_105 ?_
    refine v_goto C (pc := 106) 110 dX7_shifted_106 rfl ?_
    exact v_sub [] rfl (vX7_shifted_110 C hr hQ (N := N) hm)
def fX7_shifted_82 (N : Nat)  (x1 : Int32) (x2 : Int32) (S : St) : Option (Int32 × St) := fX7_shifted_83 N false x1 x2 S
set_option maxRecDepth 20000 in
theorem vX7_shifted_82 {p : Program} {l : Launch} {e : Env} {s : State} {m : MethodId} {args : Array Value} {below : List Frame} {meth : Method} {c : Code} {Q : State → Prop} {D : va_G} {ad : Nat → Nat} {cA : Nat → ClassId} (C : Ok p s m args c D cA (xW ad cA) (xA ad) (xS ad) RX7 cX7_shifted 6) (hr : Rt meth (some .int)) {r : Int32 × St} (hQ : Q = MQ below (Qo D (xW ad cA) (xA ad) (some (.int r.1)) r.2) args s 0 0 (xA ad)) {N : Nat}  {x1 : Int32} {x2 : Int32}  {S : St} (hm : fX7_shifted_82 N  x1 x2 S = some r) : V p l e rmX7_shifted s m args below meth c Q D (xW ad cA) (xA ad) 6 S 82 [(1, .int x1), (2, .int x2)] [] := by
  unfold fX7_shifted_82 at hm
  refine v_iconst C (pc := 82) 0 dX7_shifted_82 rfl ?_
  exact (vX7_shifted_83 C hr hQ (N := N) hm)
def fX7_shifted (N : Nat) (p1 : Int32) (p2 : Int32) (S : St) : Option (Int32 × St) := if p2 < 4 then (ck p2 4 (nm ((p1 &&& 7) + (tSX (Int32.toNatClampNeg p2))) fun y3 => ck p2 4 (nm (((p1 >>> (3 &&& 31)) &&& 7) + (tSY (Int32.toNatClampNeg p2))) fun y4 => if y3 < 0 then (fX7_shifted_82 N p1 p2 S) else (if (S.1 3) ≤ y3 then (fX7_shifted_82 N p1 p2 S) else (if y4 < 0 then (fX7_shifted_82 N p1 p2 S) else (if (S.1 4) ≤ y4 then (fX7_shifted_82 N p1 p2 S) else (fX7_shifted_83 N true p1 p2 S))))))) else (if p2 = 4 then (fX7_shifted_15 N 1 p1 S) else (fX7_shifted_15 N 3 p1 S))
set_option maxRecDepth 20000 in
theorem vX7_shifted {p : Program} {l : Launch} {e : Env} {s : State} {m : MethodId} {args : Array Value} {below : List Frame} {meth : Method} {c : Code} {Q : State → Prop} {D : va_G} {ad : Nat → Nat} {cA : Nat → ClassId} (C : Ok p s m args c D cA (xW ad cA) (xA ad) (xS ad) RX7 cX7_shifted 6) (hr : Rt meth (some .int)) {r : Int32 × St} (hQ : Q = MQ below (Qo D (xW ad cA) (xA ad) (some (.int r.1)) r.2) args s 0 0 (xA ad)) {N : Nat} {p1 : Int32} {p2 : Int32} {S : St} (hm : fX7_shifted N p1 p2 S = some r) : V p l e rmX7_shifted s m args below meth c Q D (xW ad cA) (xA ad) 6 S 0 [(0, .ref (ad 3)), (1, .int p1), (2, .int p2)] [] := by
  unfold fX7_shifted at hm
  refine v_iload_n C (pc := 0) 2 dX7_shifted_0 rfl rfl ?_
  refine v_iconst C (pc := 1) 4 dX7_shifted_1 rfl ?_
  refine v_icmp_lt C (pc := 2) hm 27 dX7_shifted_2 rfl (fun hm => ?_) (fun hm => ?_)
  · refine v_iload_n C (pc := 27) 1 dX7_shifted_27 rfl rfl ?_
    refine v_bipush C (pc := 28) 7 dX7_shifted_28 rfl ?_
    refine v_iand C (pc := 30) dX7_shifted_30 ?_
    refine v_gets C (pc := 31) C.2.2.2.2.2.2.2.1.2.2.1.1 flX7_48 rfl dX7_shifted_31 ?_
    refine v_iload_n C (pc := 34) 2 dX7_shifted_34 rfl rfl ?_
    refine v_tabi C (pc := 35) C.2.2.2.2.2.2.2.1.2.2.1.2 hm dX7_shifted_35 (fun hm => ?_)
    refine v_iadd C (pc := 36) dX7_shifted_36 ?_
    refine v_istore_nN C (pc := 37) [(0, .ref (ad 3)), (1, .int p1), (2, .int p2)] hm dX7_shifted_37 rfl (by decide) rfl (fun y3 hm => ?_)
    refine v_iload_n C (pc := 38) 2 dX7_shifted_38 rfl rfl ?_
    refine v_iconst C (pc := 39) 3 dX7_shifted_39 rfl ?_
    refine v_ishr C (pc := 40) dX7_shifted_40 ?_
    refine v_bipush C (pc := 41) 7 dX7_shifted_41 rfl ?_
    refine v_iand C (pc := 43) dX7_shifted_43 ?_
    refine v_gets C (pc := 44) C.2.2.2.2.2.2.2.1.2.2.2.1.1 flX7_51 rfl dX7_shifted_44 ?_
    refine v_iload_n C (pc := 47) 3 dX7_shifted_47 rfl rfl ?_
    refine v_tabi C (pc := 48) C.2.2.2.2.2.2.2.1.2.2.2.1.2 hm dX7_shifted_48 (fun hm => ?_)
    refine v_iadd C (pc := 49) dX7_shifted_49 ?_
    refine v_istoreN C (pc := 50) [(3, .int y3), (0, .ref (ad 3)), (1, .int p1), (2, .int p2)] hm dX7_shifted_50 (by decide) rfl (fun y4 hm => ?_)
    refine v_iload_n C (pc := 52) 1 dX7_shifted_52 rfl rfl ?_
    refine v_if_lt C (pc := 53) hm 82 dX7_shifted_53 rfl (fun hm => ?_) (fun hm => ?_)
    · exact v_sub [3, 4] rfl (vX7_shifted_82 C hr hQ (N := N) hm)
    · refine v_iload_n C (pc := 56) 1 dX7_shifted_56 rfl rfl ?_
      refine v_aload_n C (pc := 57) 2 dX7_shifted_57 rfl rfl ?_
      refine gX7_9 C (pc := 58) dX7_shifted_58 ?_
      refine v_icmp_ge C (pc := 61) hm 82 dX7_shifted_61 rfl (fun hm => ?_) (fun hm => ?_)
      · exact v_sub [3, 4] rfl (vX7_shifted_82 C hr hQ (N := N) hm)
      · refine v_iload C (pc := 64) 0 dX7_shifted_64 rfl ?_
        refine v_if_lt C (pc := 66) hm 82 dX7_shifted_66 rfl (fun hm => ?_) (fun hm => ?_)
        · exact v_sub [3, 4] rfl (vX7_shifted_82 C hr hQ (N := N) hm)
        · refine v_iload C (pc := 69) 0 dX7_shifted_69 rfl ?_
          refine v_aload_n C (pc := 71) 2 dX7_shifted_71 rfl rfl ?_
          refine gX7_15 C (pc := 72) dX7_shifted_72 ?_
          refine v_icmp_ge C (pc := 75) hm 82 dX7_shifted_75 rfl (fun hm => ?_) (fun hm => ?_)
          · exact v_sub [3, 4] rfl (vX7_shifted_82 C hr hQ (N := N) hm)
          · refine v_iconst C (pc := 78) 1 dX7_shifted_78 rfl ?_
            refine v_goto C (pc := 79) 83 dX7_shifted_79 rfl ?_
            exact v_sub [3, 4] rfl (vX7_shifted_83 C hr hQ (N := N) hm)
  · refine v_iload_n C (pc := 5) 2 dX7_shifted_5 rfl rfl ?_
    refine v_iconst C (pc := 6) 4 dX7_shifted_6 rfl ?_
    refine v_icmp_ne C (pc := 7) hm 14 dX7_shifted_7 rfl (fun hm => ?_) (fun hm => ?_)
    · refine v_iconst C (pc := 14) 3 dX7_shifted_14 rfl ?_
      exact v_sub [1] rfl (vX7_shifted_15 C hr hQ (N := N) hm)
    · refine v_iconst C (pc := 10) 1 dX7_shifted_10 rfl ?_
      refine v_goto C (pc := 11) 15 dX7_shifted_11 rfl ?_
      exact v_sub [1] rfl (vX7_shifted_15 C hr hQ (N := N) hm)
theorem mX7_shifted {l : Launch} {D : va_G} {ad : Nat → Nat} {cA : Nat → ClassId} (hD : ∀ S, va_D (xA ad) (xW ad cA S)) {N : Nat} {p1 : Int32} {p2 : Int32} {S : St} {r : Int32 × St} (hm : fX7_shifted N p1 p2 S = some r) : Met l yX7_shifted (wsm yX7_shifted cX7_shifted 6 (some .int)) rmX7_shifted (va_Pc [.ref (ad 3), .int p1, .int p2] (Pre D cA (xW ad cA) (xS ad) S)) (Qo D (xW ad cA) (xA ad) (some (.int r.1)) r.2) 0 0 (xA ad) := met_of [.ref (ad 3), .int p1, .int p2] (by decide) (Nat.le_of_ble_eq_true rfl) hD (xS_mv ad) (xS_kp ad) (fun p e s m below meth c C hr => vX7_shifted C hr rfl (N := N)  hm)
-- X0_afterPush
theorem infX7_shifted : InfV yX7_shifted cX7_shifted 6 (some .int) 2 := ⟨⟨gm (i := 58) (by decide +kernel) rfl, gm (i := 553) (by decide +kernel) rfl, by decide +kernel⟩, gm (i := 551) (by decide +kernel) rfl, gm (i := 552) (by decide +kernel) rfl⟩
theorem kX0_79 {p : Program} {l : Launch} {e : Env} {R : Room} {s : State} {m : MethodId} {args : Array Value} {below : List Frame} {meth : Method} {c : Code} {Q : State → Prop} {D : va_G} {ad : Nat → Nat} {cA : Nat → ClassId} {cc : ByteArray} {nL : Nat} {S : St} {pc : Nat} {lv : List (Nat × Value)} {st : List Value} {ρ : Type} {res : ρ} (C : Ok p s m args c D cA (xW ad cA) (xA ad) (xS ad) RX0 cc nL) (hfr : rmX7_shifted.frames + 1 ≤ R.frames) (hlo : 8 + (6 + 11) + rmX7_shifted.locals ≤ R.locals) {N : Nat} {p1 : Int32} {p2 : Int32} {E : Int32 → St → Option ρ} (hm : bd (fX7_shifted N p1 p2 S) E = some res) (hcat : (st.map fun v => v.category).sum ≤ 8) (hd : decode cc pc = .ok (.invokevirtual 79, 3)) (k : ∀ r S, E r S = some res → V p l e R s m args below meth c Q D (xW ad cA) (xA ad) nL S (pc + 3) lv (.int r :: st)) : V p l e R s m args below meth c Q D (xW ad cA) (xA ad) nL S pc lv (.int p2 :: .int p1 :: .ref (ad 3) :: st) := by
  obtain ⟨r, S1, h1, h2⟩ := bd_some hm
  exact v_callV C (gm (i := 550) (by decide +kernel) rfl : Cond.methodLink RX0 79 yX7_shifted ∈ gw_tbl) infX7_shifted (rm2 := rmX7_shifted) ⟨rfl, rfl⟩ hfr hlo (mX7_shifted C.2.2.2.2.2.2.1 h1) (As := [.int p1, .int p2]) (oX7 ad cA S) rfl rfl rfl rfl hcat hd (k r S1 h2)
theorem infX0_fits : InfV yX0_fits cX0_fits 2 (some .boolean) 1 := ⟨⟨gm (i := 59) (by decide +kernel) rfl, gm (i := 561) (by decide +kernel) rfl, by decide +kernel⟩, gm (i := 559) (by decide +kernel) rfl, gm (i := 560) (by decide +kernel) rfl⟩
theorem kX0_82 {p : Program} {l : Launch} {e : Env} {R : Room} {s : State} {m : MethodId} {args : Array Value} {below : List Frame} {meth : Method} {c : Code} {Q : State → Prop} {D : va_G} {ad : Nat → Nat} {cA : Nat → ClassId} {cc : ByteArray} {nL : Nat} {S : St} {pc : Nat} {lv : List (Nat × Value)} {st : List Value} {ρ : Type} {res : ρ} (C : Ok p s m args c D cA (xW ad cA) (xA ad) (xS ad) RX0 cc nL) (hfr : rmX0_fits.frames + 1 ≤ R.frames) (hlo : 8 + (2 + 11) + rmX0_fits.locals ≤ R.locals) {i : Nat} (hi : i < 5) {N : Nat} {p1 : Int32} {E : Bool → St → Option ρ} (hm : bd (fX0_fits N i p1 S) E = some res) (hcat : (st.map fun v => v.category).sum ≤ 8) (hd : decode cc pc = .ok (.invokevirtual 82, 3)) (k : ∀ r S, E r S = some res → V p l e R s m args below meth c Q D (xW ad cA) (xA ad) nL S (pc + 3) lv (.int (b2i r) :: st)) : V p l e R s m args below meth c Q D (xW ad cA) (xA ad) nL S pc lv (.int p1 :: .ref (ad (4 + i)) :: st) := by
  obtain ⟨r, S1, h1, h2⟩ := bd_some hm
  exact v_callV C (gm (i := 558) (by decide +kernel) rfl : Cond.methodLink RX0 82 yX0_fits ∈ gw_tbl) infX0_fits (rm2 := rmX0_fits) ⟨rfl, rfl⟩ hfr hlo (mX0_fits C.2.2.2.2.2.2.1 hi h1) (As := [.int p1]) (oX0 ad cA i hi S) rfl rfl rfl rfl hcat hd (k r S1 h2)
def rmX0_afterPush : Room := { frames := 1, cells := 0, slots := 0, locals := 25 }
def fX0_afterPush_22 (N : Nat) (i0 : Nat)   (S : St) : Option (Int32 × St) := some ((-1), S)
set_option maxRecDepth 20000 in
theorem vX0_afterPush_22 {p : Program} {l : Launch} {e : Env} {s : State} {m : MethodId} {args : Array Value} {below : List Frame} {meth : Method} {c : Code} {Q : State → Prop} {D : va_G} {ad : Nat → Nat} {cA : Nat → ClassId} (C : Ok p s m args c D cA (xW ad cA) (xA ad) (xS ad) RX0 cX0_afterPush 9) (hr : Rt meth (some .int)) {r : Int32 × St} (hQ : Q = MQ below (Qo D (xW ad cA) (xA ad) (some (.int r.1)) r.2) args s 0 0 (xA ad)) {N : Nat} {i0 : Nat} (hi0 : i0 < 5)    {S : St} (hm : fX0_afterPush_22 N i0   S = some r) : V p l e rmX0_afterPush s m args below meth c Q D (xW ad cA) (xA ad) 9 S 22 [] [] := by
  unfold fX0_afterPush_22 at hm
  refine v_iconst C (pc := 22) (-1) dX0_afterPush_22 rfl ?_
  exact v_iret C hr hQ (pc := 23) hm dX0_afterPush_23
def fX0_afterPush_65 (N : Nat) (i0 : Nat)  (s0 : Int32) (S : St) : Option (Int32 × St) := some (s0, S)
set_option maxRecDepth 20000 in
theorem vX0_afterPush_65 {p : Program} {l : Launch} {e : Env} {s : State} {m : MethodId} {args : Array Value} {below : List Frame} {meth : Method} {c : Code} {Q : State → Prop} {D : va_G} {ad : Nat → Nat} {cA : Nat → ClassId} (C : Ok p s m args c D cA (xW ad cA) (xA ad) (xS ad) RX0 cX0_afterPush 9) (hr : Rt meth (some .int)) {r : Int32 × St} (hQ : Q = MQ below (Qo D (xW ad cA) (xA ad) (some (.int r.1)) r.2) args s 0 0 (xA ad)) {N : Nat} {i0 : Nat} (hi0 : i0 < 5)  {s0 : Int32}  {S : St} (hm : fX0_afterPush_65 N i0  s0 S = some r) : V p l e rmX0_afterPush s m args below meth c Q D (xW ad cA) (xA ad) 9 S 65 [] [.int s0] := by
  unfold fX0_afterPush_65 at hm
  exact v_iret C hr hQ (pc := 65) hm dX0_afterPush_65
def fX0_afterPush (N : Nat) (i0 : Nat) (p2 : Int32) (p3 : Int32) (p4 : Int64) (S : St) : Option (Int32 × St) := bd (fX7_shifted N p2 p3 S) fun r4 S3 => if r4 < 0 then (fX0_afterPush_22 N i0 S3) else (bd (fX0_fits N i0 r4 S3) fun r5 S4 => if (b2i r5) = 0 then (fX0_afterPush_22 N i0 S4) else (ck p3 4 (nm (p4 ||| ((S4.2.1 1) &&& ((S4.2.2.2 1 (Int32.toNatClampNeg p3)) ^^^ (-1)))) fun y6 => ck r4 256 (if (lg_cmp ((S4.2.2.2 (4 + i0) (Int32.toNatClampNeg r4)) &&& y6) 0) = 0 then (fX0_afterPush_65 N i0 r4 S4) else (fX0_afterPush_65 N i0 (-1) S4)))))
set_option maxRecDepth 20000 in
theorem vX0_afterPush {p : Program} {l : Launch} {e : Env} {s : State} {m : MethodId} {args : Array Value} {below : List Frame} {meth : Method} {c : Code} {Q : State → Prop} {D : va_G} {ad : Nat → Nat} {cA : Nat → ClassId} (C : Ok p s m args c D cA (xW ad cA) (xA ad) (xS ad) RX0 cX0_afterPush 9) (hr : Rt meth (some .int)) {r : Int32 × St} (hQ : Q = MQ below (Qo D (xW ad cA) (xA ad) (some (.int r.1)) r.2) args s 0 0 (xA ad)) {N : Nat} {i0 : Nat} (hi0 : i0 < 5) {p2 : Int32} {p3 : Int32} {p4 : Int64} {S : St} (hm : fX0_afterPush N i0 p2 p3 p4 S = some r) : V p l e rmX0_afterPush s m args below meth c Q D (xW ad cA) (xA ad) 9 S 0 [(0, .ref (ad (4 + i0))), (1, .ref (ad 3)), (2, .int p2), (3, .int p3), (4, .long p4)] [] := by
  unfold fX0_afterPush at hm
  refine v_aload_n C (pc := 0) 1 dX0_afterPush_0 rfl rfl ?_
  refine v_iload_n C (pc := 1) 2 dX0_afterPush_1 rfl rfl ?_
  refine v_iload_n C (pc := 2) 3 dX0_afterPush_2 rfl rfl ?_
  refine kX0_79 C (Nat.le_of_ble_eq_true rfl) (Nat.le_of_ble_eq_true rfl) (pc := 3) hm (Nat.le_of_ble_eq_true rfl) dX0_afterPush_3 (fun r4 S3 hm => ?_)
  refine v_istore C (pc := 6) [(6, .int r4), (0, .ref (ad (4 + i0))), (1, .ref (ad 3)), (2, .int p2), (3, .int p3), (4, .long p4)] dX0_afterPush_6 (by decide) rfl ?_
  refine v_iload C (pc := 8) 0 dX0_afterPush_8 rfl ?_
  refine v_if_lt C (pc := 10) hm 22 dX0_afterPush_10 rfl (fun hm => ?_) (fun hm => ?_)
  · exact v_sub [] rfl (vX0_afterPush_22 C hr hQ (N := N) hi0 hm)
  · refine v_aload_n C (pc := 13) 1 dX0_afterPush_13 rfl rfl ?_
    refine v_iload C (pc := 14) 0 dX0_afterPush_14 rfl ?_
    refine kX0_82 C (Nat.le_of_ble_eq_true rfl) (Nat.le_of_ble_eq_true rfl) hi0 (pc := 16) hm (Nat.le_of_ble_eq_true rfl) dX0_afterPush_16 (fun r5 S4 hm => ?_)
    refine v_if_ne C (pc := 19) hm 24 dX0_afterPush_19 rfl (fun hm => ?_) (fun hm => ?_)
    · refine v_lload C (pc := 24) 5 dX0_afterPush_24 rfl ?_
      refine v_aload_n C (pc := 26) 2 dX0_afterPush_26 rfl rfl ?_
      refine gX0_86 C (pc := 27) dX0_afterPush_27 ?_
      refine v_aload_n C (pc := 30) 2 dX0_afterPush_30 rfl rfl ?_
      refine gX0_89 C (pc := 31) dX0_afterPush_31 ?_
      refine v_iload_n C (pc := 34) 4 dX0_afterPush_34 rfl rfl ?_
      refine ldX7_oneWaysFor C (pc := 35) hm dX0_afterPush_35 (fun hm => ?_)
      refine v_ldc2 C (pc := 36) dX0_afterPush_36 clX0_92 ?_
      refine v_lxor C (pc := 39) dX0_afterPush_39 ?_
      refine v_land C (pc := 40) dX0_afterPush_40 ?_
      refine v_lor C (pc := 41) dX0_afterPush_41 ?_
      refine v_lstoreN C (pc := 42) [(6, .int r4), (0, .ref (ad (4 + i0))), (1, .ref (ad 3)), (2, .int p2), (3, .int p3), (4, .long p4)] hm dX0_afterPush_42 (by decide) rfl (fun y6 hm => ?_)
      refine v_aload_n C (pc := 44) 2 dX0_afterPush_44 rfl rfl ?_
      refine gX0_18 C hi0 (pc := 45) dX0_afterPush_45 ?_
      refine v_iload C (pc := 48) 1 dX0_afterPush_48 rfl ?_
      refine ldX0_cells C hi0 (pc := 50) hm dX0_afterPush_50 (fun hm => ?_)
      refine v_lload C (pc := 51) 0 dX0_afterPush_51 rfl ?_
      refine v_land C (pc := 53) dX0_afterPush_53 ?_
      refine v_lconst C (pc := 54) 0 dX0_afterPush_54 rfl ?_
      refine v_lcmp C (pc := 55) dX0_afterPush_55 ?_
      refine v_if_ne C (pc := 56) hm 64 dX0_afterPush_56 rfl (fun hm => ?_) (fun hm => ?_)
      · refine v_iconst C (pc := 64) (-1) dX0_afterPush_64 rfl ?_
        exact v_sub [] rfl (vX0_afterPush_65 C hr hQ (N := N) hi0 hm)
      · refine v_iload C (pc := 59) 1 dX0_afterPush_59 rfl ?_
        refine v_goto C (pc := 61) 65 dX0_afterPush_61 rfl ?_
        exact v_sub [] rfl (vX0_afterPush_65 C hr hQ (N := N) hi0 hm)
    · exact v_sub [] rfl (vX0_afterPush_22 C hr hQ (N := N) hi0 hm)
theorem mX0_afterPush {l : Launch} {D : va_G} {ad : Nat → Nat} {cA : Nat → ClassId} (hD : ∀ S, va_D (xA ad) (xW ad cA S)) {N : Nat} {i0 : Nat} (hi0 : i0 < 5) {p2 : Int32} {p3 : Int32} {p4 : Int64} {S : St} {r : Int32 × St} (hm : fX0_afterPush N i0 p2 p3 p4 S = some r) : Met l yX0_afterPush (wsm yX0_afterPush cX0_afterPush 9 (some .int)) rmX0_afterPush (va_Pc [.ref (ad (4 + i0)), .ref (ad 3), .int p2, .int p3, .long p4] (Pre D cA (xW ad cA) (xS ad) S)) (Qo D (xW ad cA) (xA ad) (some (.int r.1)) r.2) 0 0 (xA ad) := met_of [.ref (ad (4 + i0)), .ref (ad 3), .int p2, .int p3, .long p4] (by decide) (Nat.le_of_ble_eq_true rfl) hD (xS_mv ad) (xS_kp ad) (fun p e s m below meth c C hr => vX0_afterPush C hr rfl (N := N) hi0 hm)
-- X0_sweepIsClear
theorem kmX0_98 {p : Program} {l : Launch} {e : Env} {R : Room} {s : State} {m : MethodId} {args : Array Value} {below : List Frame} {meth : Method} {c : Code} {Q : State → Prop} {D : va_G} {ad : Nat → Nat} {cA : Nat → ClassId} {cc : ByteArray} {nL : Nat} {S : St} {pc : Nat} {lv : List (Nat × Value)} {st : List Value} (C : Ok p s m args c D cA (xW ad cA) (xA ad) (xS ad) RX0 cc nL) (hf : 1 ≤ R.frames) (hlo : (st.map fun v => v.category).sum + 13 ≤ R.locals) {x : Int32} (hd : decode cc pc = .ok (.invokestatic 98, 3)) (k : V p l e R s m args below meth c Q D (xW ad cA) (xA ad) nL S (pc + 3) lv (.int (if 0 ≤ x then x else 0 - x) :: st)) : V p l e R s m args below meth c Q D (xW ad cA) (xA ad) nL S pc lv (.int x :: st) := v_abs C (gm (i := 571) (by decide +kernel) rfl) (gm (i := 572) (by decide +kernel) rfl) (gm (i := 66) (by decide +kernel) rfl) (gm (i := 573) (by decide +kernel) rfl) hf hlo hd k
theorem kmX0_103 {p : Program} {l : Launch} {e : Env} {R : Room} {s : State} {m : MethodId} {args : Array Value} {below : List Frame} {meth : Method} {c : Code} {Q : State → Prop} {D : va_G} {ad : Nat → Nat} {cA : Nat → ClassId} {cc : ByteArray} {nL : Nat} {S : St} {pc : Nat} {lv : List (Nat × Value)} {st : List Value} (C : Ok p s m args c D cA (xW ad cA) (xA ad) (xS ad) RX0 cc nL) (hf : 1 ≤ R.frames) (hlo : (st.map fun v => v.category).sum + 13 ≤ R.locals) {x y : Int32} (hd : decode cc pc = .ok (.invokestatic 103, 3)) (k : V p l e R s m args below meth c Q D (xW ad cA) (xA ad) nL S (pc + 3) lv (.int (if x < y then y else x) :: st)) : V p l e R s m args below meth c Q D (xW ad cA) (xA ad) nL S pc lv (.int y :: .int x :: st) := v_max C (gm (i := 574) (by decide +kernel) rfl) (gm (i := 575) (by decide +kernel) rfl) (gm (i := 66) (by decide +kernel) rfl) (gm (i := 576) (by decide +kernel) rfl) hf hlo hd k
def rmX0_sweepIsClear : Room := { frames := 1, cells := 0, slots := 0, locals := 22 }
def fX0_sweepIsClear_134 (N : Nat)   (S : St) : Option (Bool × St) := some (false, S)
set_option maxRecDepth 20000 in
theorem vX0_sweepIsClear_134 {p : Program} {l : Launch} {e : Env} {s : State} {m : MethodId} {args : Array Value} {below : List Frame} {meth : Method} {c : Code} {Q : State → Prop} {D : va_G} {ad : Nat → Nat} {cA : Nat → ClassId} (C : Ok p s m args c D cA (xW ad cA) (xA ad) (xS ad) RX0 cX0_sweepIsClear 12) (hr : Rt meth (some .boolean)) {r : Bool × St} (hQ : Q = MQ below (Qo D (xW ad cA) (xA ad) (some (.int (b2i r.1))) r.2) args s 0 0 (xA ad)) {N : Nat}    {S : St} (hm : fX0_sweepIsClear_134 N   S = some r) : V p l e rmX0_sweepIsClear s m args below meth c Q D (xW ad cA) (xA ad) 12 S 134 [] [] := by
  unfold fX0_sweepIsClear_134 at hm
  refine v_iconst C (pc := 134) 0 dX0_sweepIsClear_134 rfl ?_
  exact v_zret C hr hQ (x := false) (pc := 135) hm dX0_sweepIsClear_135
def fX0_sweepIsClear_96 (N : Nat) (k22 : Int32 → Int32 → Int64 → Int32 → Int32 → Int32 → Int32 → St → Option (Bool × St)) (x1 : Int32) (x4 : Int32) (x5 : Int64) (x7 : Int32) (x8 : Int32) (x9 : Int32) (x10 : Int32) (S : St) : Option (Bool × St) := bd (fX8_columnOf N x1 S) fun r10 S9 => bd (fX8_rowOf N x1 S9) fun r11 S10 => bd (fX7_cellAt N (r10 + x8) (r11 + (x4 * x9)) S10) fun r12 S11 => if r12 < 0 then (fX0_sweepIsClear_134 N S11) else (bd (fX8_holds N x5 r12 S11) fun r13 S12 => if (b2i r13) = 0 then (k22 x1 x4 x5 x7 x8 x9 (x10 + 1) S12) else (fX0_sweepIsClear_134 N S12))
set_option maxRecDepth 20000 in
theorem vX0_sweepIsClear_96 {p : Program} {l : Launch} {e : Env} {s : State} {m : MethodId} {args : Array Value} {below : List Frame} {meth : Method} {c : Code} {Q : State → Prop} {D : va_G} {ad : Nat → Nat} {cA : Nat → ClassId} (C : Ok p s m args c D cA (xW ad cA) (xA ad) (xS ad) RX0 cX0_sweepIsClear 12) (hr : Rt meth (some .boolean)) {r : Bool × St} (hQ : Q = MQ below (Qo D (xW ad cA) (xA ad) (some (.int (b2i r.1))) r.2) args s 0 0 (xA ad)) {N : Nat} {k22 : Int32 → Int32 → Int64 → Int32 → Int32 → Int32 → Int32 → St → Option (Bool × St)} (hk22 : ∀ (x1 : Int32) (x4 : Int32) (x5 : Int64) (x7 : Int32) (x8 : Int32) (x9 : Int32) (x10 : Int32) (S : St), k22 x1 x4 x5 x7 x8 x9 x10 S = some r → V p l e rmX0_sweepIsClear s m args below meth c Q D (xW ad cA) (xA ad) 12 S 22 [(0, .ref (ad 3)), (1, .int x1), (4, .int x4), (5, .long x5), (7, .int x7), (8, .int x8), (9, .int x9), (10, .int x10)] []) {x1 : Int32} {x4 : Int32} {x5 : Int64} {x7 : Int32} {x8 : Int32} {x9 : Int32} {x10 : Int32}  {S : St} (hm : fX0_sweepIsClear_96 N k22 x1 x4 x5 x7 x8 x9 x10 S = some r) : V p l e rmX0_sweepIsClear s m args below meth c Q D (xW ad cA) (xA ad) 12 S 96 [(0, .ref (ad 3)), (1, .int x1), (4, .int x4), (5, .long x5), (7, .int x7), (8, .int x8), (9, .int x9), (10, .int x10)] [] := by
  unfold fX0_sweepIsClear_96 at hm
  refine v_aload_n C (pc := 96) 0 dX0_sweepIsClear_96 rfl rfl ?_
  refine v_iload_n C (pc := 97) 1 dX0_sweepIsClear_97 rfl rfl ?_
  refine kX0_51 C (Nat.le_of_ble_eq_true rfl) (Nat.le_of_ble_eq_true rfl) (pc := 98) hm (Nat.le_of_ble_eq_true rfl) dX0_sweepIsClear_98 (fun r10 S9 hm => ?_)
  refine v_iload C (pc := 101) 5 dX0_sweepIsClear_101 rfl ?_
  refine v_iadd C (pc := 103) dX0_sweepIsClear_103 ?_
  refine v_iload_n C (pc := 104) 1 dX0_sweepIsClear_104 rfl rfl ?_
  refine kX0_55 C (Nat.le_of_ble_eq_true rfl) (Nat.le_of_ble_eq_true rfl) (pc := 105) hm (Nat.le_of_ble_eq_true rfl) dX0_sweepIsClear_105 (fun r11 S10 hm => ?_)
  refine v_iload C (pc := 108) 2 dX0_sweepIsClear_108 rfl ?_
  refine v_iload C (pc := 110) 6 dX0_sweepIsClear_110 rfl ?_
  refine v_imul C (pc := 112) dX0_sweepIsClear_112 ?_
  refine v_iadd C (pc := 113) dX0_sweepIsClear_113 ?_
  refine kX0_65 C (Nat.le_of_ble_eq_true rfl) (Nat.le_of_ble_eq_true rfl) (pc := 114) hm (Nat.le_of_ble_eq_true rfl) dX0_sweepIsClear_114 (fun r12 S11 hm => ?_)
  refine v_istore C (pc := 117) [(11, .int r12), (0, .ref (ad 3)), (1, .int x1), (4, .int x4), (5, .long x5), (7, .int x7), (8, .int x8), (9, .int x9), (10, .int x10)] dX0_sweepIsClear_117 (by decide) rfl ?_
  refine v_iload C (pc := 119) 0 dX0_sweepIsClear_119 rfl ?_
  refine v_if_lt C (pc := 121) hm 134 dX0_sweepIsClear_121 rfl (fun hm => ?_) (fun hm => ?_)
  · exact v_sub [] rfl (vX0_sweepIsClear_134 C hr hQ (N := N) hm)
  · refine v_lload C (pc := 124) 4 dX0_sweepIsClear_124 rfl ?_
    refine v_iload C (pc := 126) 0 dX0_sweepIsClear_126 rfl ?_
    refine kX0_75 C (Nat.le_of_ble_eq_true rfl) (Nat.le_of_ble_eq_true rfl) (pc := 128) hm (Nat.le_of_ble_eq_true rfl) dX0_sweepIsClear_128 (fun r13 S12 hm => ?_)
    refine v_if_eq C (pc := 131) hm 136 dX0_sweepIsClear_131 rfl (fun hm => ?_) (fun hm => ?_)
    · refine v_iinc C (pc := 136) 1 8 [(10, .int (x10 + 1)), (11, .int r12), (0, .ref (ad 3)), (1, .int x1), (4, .int x4), (5, .long x5), (7, .int x7), (8, .int x8), (9, .int x9)] dX0_sweepIsClear_136 rfl rfl (by decide) rfl ?_
      refine v_goto C (pc := 139) 22 dX0_sweepIsClear_139 rfl ?_
      exact v_sub [2, 3, 4, 5, 6, 7, 8, 0] rfl (hk22 _ _ _ _ _ _ _ _ hm)
    · exact v_sub [] rfl (vX0_sweepIsClear_134 C hr hQ (N := N) hm)
def fX0_sweepIsClear_93 (N : Nat) (k22 : Int32 → Int32 → Int64 → Int32 → Int32 → Int32 → Int32 → St → Option (Bool × St)) (x1 : Int32) (x4 : Int32) (x5 : Int64) (x7 : Int32) (x8 : Int32) (x9 : Int32) (x10 : Int32) (S : St) : Option (Bool × St) := fX0_sweepIsClear_96 N k22 x1 x4 x5 x7 x8 (x9 + (-1)) x10 S
set_option maxRecDepth 20000 in
theorem vX0_sweepIsClear_93 {p : Program} {l : Launch} {e : Env} {s : State} {m : MethodId} {args : Array Value} {below : List Frame} {meth : Method} {c : Code} {Q : State → Prop} {D : va_G} {ad : Nat → Nat} {cA : Nat → ClassId} (C : Ok p s m args c D cA (xW ad cA) (xA ad) (xS ad) RX0 cX0_sweepIsClear 12) (hr : Rt meth (some .boolean)) {r : Bool × St} (hQ : Q = MQ below (Qo D (xW ad cA) (xA ad) (some (.int (b2i r.1))) r.2) args s 0 0 (xA ad)) {N : Nat} {k22 : Int32 → Int32 → Int64 → Int32 → Int32 → Int32 → Int32 → St → Option (Bool × St)} (hk22 : ∀ (x1 : Int32) (x4 : Int32) (x5 : Int64) (x7 : Int32) (x8 : Int32) (x9 : Int32) (x10 : Int32) (S : St), k22 x1 x4 x5 x7 x8 x9 x10 S = some r → V p l e rmX0_sweepIsClear s m args below meth c Q D (xW ad cA) (xA ad) 12 S 22 [(0, .ref (ad 3)), (1, .int x1), (4, .int x4), (5, .long x5), (7, .int x7), (8, .int x8), (9, .int x9), (10, .int x10)] []) {x1 : Int32} {x4 : Int32} {x5 : Int64} {x7 : Int32} {x8 : Int32} {x9 : Int32} {x10 : Int32}  {S : St} (hm : fX0_sweepIsClear_93 N k22 x1 x4 x5 x7 x8 x9 x10 S = some r) : V p l e rmX0_sweepIsClear s m args below meth c Q D (xW ad cA) (xA ad) 12 S 93 [(0, .ref (ad 3)), (1, .int x1), (4, .int x4), (5, .long x5), (7, .int x7), (8, .int x8), (9, .int x9), (10, .int x10)] [] := by
  unfold fX0_sweepIsClear_93 at hm
  refine v_iinc C (pc := 93) (-1) 6 [(9, .int (x9 + (-1))), (0, .ref (ad 3)), (1, .int x1), (4, .int x4), (5, .long x5), (7, .int x7), (8, .int x8), (10, .int x10)] dX0_sweepIsClear_93 rfl rfl (by decide) rfl ?_
  exact v_sub [1, 2, 3, 4, 5, 6, 0, 7] rfl (vX0_sweepIsClear_96 C hr hQ (N := N) hk22 hm)
def fX0_sweepIsClear_72 (N : Nat) (k22 : Int32 → Int32 → Int64 → Int32 → Int32 → Int32 → Int32 → St → Option (Bool × St)) (x1 : Int32) (x4 : Int32) (x5 : Int64) (x7 : Int32) (x8 : Int32) (x9 : Int32) (x10 : Int32) (S : St) : Option (Bool × St) := if x9 = x7 then (if x8 ≤ (-x7) then (fX0_sweepIsClear_93 N k22 x1 x4 x5 x7 x8 x9 x10 S) else (fX0_sweepIsClear_96 N k22 x1 x4 x5 x7 (x8 + (-1)) x9 x10 S)) else (fX0_sweepIsClear_93 N k22 x1 x4 x5 x7 x8 x9 x10 S)
set_option maxRecDepth 20000 in
theorem vX0_sweepIsClear_72 {p : Program} {l : Launch} {e : Env} {s : State} {m : MethodId} {args : Array Value} {below : List Frame} {meth : Method} {c : Code} {Q : State → Prop} {D : va_G} {ad : Nat → Nat} {cA : Nat → ClassId} (C : Ok p s m args c D cA (xW ad cA) (xA ad) (xS ad) RX0 cX0_sweepIsClear 12) (hr : Rt meth (some .boolean)) {r : Bool × St} (hQ : Q = MQ below (Qo D (xW ad cA) (xA ad) (some (.int (b2i r.1))) r.2) args s 0 0 (xA ad)) {N : Nat} {k22 : Int32 → Int32 → Int64 → Int32 → Int32 → Int32 → Int32 → St → Option (Bool × St)} (hk22 : ∀ (x1 : Int32) (x4 : Int32) (x5 : Int64) (x7 : Int32) (x8 : Int32) (x9 : Int32) (x10 : Int32) (S : St), k22 x1 x4 x5 x7 x8 x9 x10 S = some r → V p l e rmX0_sweepIsClear s m args below meth c Q D (xW ad cA) (xA ad) 12 S 22 [(0, .ref (ad 3)), (1, .int x1), (4, .int x4), (5, .long x5), (7, .int x7), (8, .int x8), (9, .int x9), (10, .int x10)] []) {x1 : Int32} {x4 : Int32} {x5 : Int64} {x7 : Int32} {x8 : Int32} {x9 : Int32} {x10 : Int32}  {S : St} (hm : fX0_sweepIsClear_72 N k22 x1 x4 x5 x7 x8 x9 x10 S = some r) : V p l e rmX0_sweepIsClear s m args below meth c Q D (xW ad cA) (xA ad) 12 S 72 [(0, .ref (ad 3)), (1, .int x1), (4, .int x4), (5, .long x5), (7, .int x7), (8, .int x8), (9, .int x9), (10, .int x10)] [] := by
  unfold fX0_sweepIsClear_72 at hm
  refine v_iload C (pc := 72) 6 dX0_sweepIsClear_72 rfl ?_
  refine v_iload C (pc := 74) 4 dX0_sweepIsClear_74 rfl ?_
  refine v_icmp_ne C (pc := 76) hm 93 dX0_sweepIsClear_76 rfl (fun hm => ?_) (fun hm => ?_)
  · exact (vX0_sweepIsClear_93 C hr hQ (N := N) hk22 hm)
  · refine v_iload C (pc := 79) 5 dX0_sweepIsClear_79 rfl ?_
    refine v_iload C (pc := 81) 4 dX0_sweepIsClear_81 rfl ?_
    refine v_ineg C (pc := 83) dX0_sweepIsClear_83 ?_
    refine v_icmp_le C (pc := 84) hm 93 dX0_sweepIsClear_84 rfl (fun hm => ?_) (fun hm => ?_)
    · exact (vX0_sweepIsClear_93 C hr hQ (N := N) hk22 hm)
    · refine v_iinc C (pc := 87) (-1) 5 [(8, .int (x8 + (-1))), (0, .ref (ad 3)), (1, .int x1), (4, .int x4), (5, .long x5), (7, .int x7), (9, .int x9), (10, .int x10)] dX0_sweepIsClear_87 rfl rfl (by decide) rfl ?_
      refine v_goto C (pc := 90) 96 dX0_sweepIsClear_90 rfl ?_
      exact v_sub [1, 2, 3, 4, 5, 0, 6, 7] rfl (vX0_sweepIsClear_96 C hr hQ (N := N) hk22 hm)
def fX0_sweepIsClear_52 (N : Nat) (k22 : Int32 → Int32 → Int64 → Int32 → Int32 → Int32 → Int32 → St → Option (Bool × St)) (x1 : Int32) (x4 : Int32) (x5 : Int64) (x7 : Int32) (x8 : Int32) (x9 : Int32) (x10 : Int32) (S : St) : Option (Bool × St) := if x8 = x7 then (if x7 ≤ x9 then (fX0_sweepIsClear_72 N k22 x1 x4 x5 x7 x8 x9 x10 S) else (fX0_sweepIsClear_96 N k22 x1 x4 x5 x7 x8 (x9 + 1) x10 S)) else (fX0_sweepIsClear_72 N k22 x1 x4 x5 x7 x8 x9 x10 S)
set_option maxRecDepth 20000 in
theorem vX0_sweepIsClear_52 {p : Program} {l : Launch} {e : Env} {s : State} {m : MethodId} {args : Array Value} {below : List Frame} {meth : Method} {c : Code} {Q : State → Prop} {D : va_G} {ad : Nat → Nat} {cA : Nat → ClassId} (C : Ok p s m args c D cA (xW ad cA) (xA ad) (xS ad) RX0 cX0_sweepIsClear 12) (hr : Rt meth (some .boolean)) {r : Bool × St} (hQ : Q = MQ below (Qo D (xW ad cA) (xA ad) (some (.int (b2i r.1))) r.2) args s 0 0 (xA ad)) {N : Nat} {k22 : Int32 → Int32 → Int64 → Int32 → Int32 → Int32 → Int32 → St → Option (Bool × St)} (hk22 : ∀ (x1 : Int32) (x4 : Int32) (x5 : Int64) (x7 : Int32) (x8 : Int32) (x9 : Int32) (x10 : Int32) (S : St), k22 x1 x4 x5 x7 x8 x9 x10 S = some r → V p l e rmX0_sweepIsClear s m args below meth c Q D (xW ad cA) (xA ad) 12 S 22 [(0, .ref (ad 3)), (1, .int x1), (4, .int x4), (5, .long x5), (7, .int x7), (8, .int x8), (9, .int x9), (10, .int x10)] []) {x1 : Int32} {x4 : Int32} {x5 : Int64} {x7 : Int32} {x8 : Int32} {x9 : Int32} {x10 : Int32}  {S : St} (hm : fX0_sweepIsClear_52 N k22 x1 x4 x5 x7 x8 x9 x10 S = some r) : V p l e rmX0_sweepIsClear s m args below meth c Q D (xW ad cA) (xA ad) 12 S 52 [(0, .ref (ad 3)), (1, .int x1), (4, .int x4), (5, .long x5), (7, .int x7), (8, .int x8), (9, .int x9), (10, .int x10)] [] := by
  unfold fX0_sweepIsClear_52 at hm
  refine v_iload C (pc := 52) 5 dX0_sweepIsClear_52 rfl ?_
  refine v_iload C (pc := 54) 4 dX0_sweepIsClear_54 rfl ?_
  refine v_icmp_ne C (pc := 56) hm 72 dX0_sweepIsClear_56 rfl (fun hm => ?_) (fun hm => ?_)
  · exact (vX0_sweepIsClear_72 C hr hQ (N := N) hk22 hm)
  · refine v_iload C (pc := 59) 6 dX0_sweepIsClear_59 rfl ?_
    refine v_iload C (pc := 61) 4 dX0_sweepIsClear_61 rfl ?_
    refine v_icmp_ge C (pc := 63) hm 72 dX0_sweepIsClear_63 rfl (fun hm => ?_) (fun hm => ?_)
    · exact (vX0_sweepIsClear_72 C hr hQ (N := N) hk22 hm)
    · refine v_iinc C (pc := 66) 1 6 [(9, .int (x9 + 1)), (0, .ref (ad 3)), (1, .int x1), (4, .int x4), (5, .long x5), (7, .int x7), (8, .int x8), (10, .int x10)] dX0_sweepIsClear_66 rfl rfl (by decide) rfl ?_
      refine v_goto C (pc := 69) 96 dX0_sweepIsClear_69 rfl ?_
      exact v_sub [1, 2, 3, 4, 5, 6, 0, 7] rfl (vX0_sweepIsClear_96 C hr hQ (N := N) hk22 hm)
def fX0_sweepIsClear_22b (N : Nat)  (k22 : Int32 → Int32 → Int64 → Int32 → Int32 → Int32 → Int32 → St → Option (Bool × St)) (x1 : Int32) (x4 : Int32) (x5 : Int64) (x7 : Int32) (x8 : Int32) (x9 : Int32) (x10 : Int32) (S : St) : Option (Bool × St) := if (2 * x7) ≤ x10 then (some (true, S)) else (if x9 = (-x7) then (if x7 ≤ x8 then (fX0_sweepIsClear_52 N k22 x1 x4 x5 x7 x8 x9 x10 S) else (fX0_sweepIsClear_96 N k22 x1 x4 x5 x7 (x8 + 1) x9 x10 S)) else (fX0_sweepIsClear_52 N k22 x1 x4 x5 x7 x8 x9 x10 S))
def fX0_sweepIsClear_22 (N : Nat)  : Nat → Int32 → Int32 → Int64 → Int32 → Int32 → Int32 → Int32 → St → Option (Bool × St)
  | 0 => fun _ _ _ _ _ _ _ _ => none
  | n + 1 => fun x1 x4 x5 x7 x8 x9 x10 S => fX0_sweepIsClear_22b N  (fX0_sweepIsClear_22 N  n) x1 x4 x5 x7 x8 x9 x10 S
set_option maxRecDepth 20000 in
theorem vX0_sweepIsClear_22b {p : Program} {l : Launch} {e : Env} {s : State} {m : MethodId} {args : Array Value} {below : List Frame} {meth : Method} {c : Code} {Q : State → Prop} {D : va_G} {ad : Nat → Nat} {cA : Nat → ClassId} (C : Ok p s m args c D cA (xW ad cA) (xA ad) (xS ad) RX0 cX0_sweepIsClear 12) (hr : Rt meth (some .boolean)) {r : Bool × St} (hQ : Q = MQ below (Qo D (xW ad cA) (xA ad) (some (.int (b2i r.1))) r.2) args s 0 0 (xA ad)) {N : Nat}  {k22 : Int32 → Int32 → Int64 → Int32 → Int32 → Int32 → Int32 → St → Option (Bool × St)} (hk22 : ∀ (x1 : Int32) (x4 : Int32) (x5 : Int64) (x7 : Int32) (x8 : Int32) (x9 : Int32) (x10 : Int32) (S : St), k22 x1 x4 x5 x7 x8 x9 x10 S = some r → V p l e rmX0_sweepIsClear s m args below meth c Q D (xW ad cA) (xA ad) 12 S 22 [(0, .ref (ad 3)), (1, .int x1), (4, .int x4), (5, .long x5), (7, .int x7), (8, .int x8), (9, .int x9), (10, .int x10)] []) {x1 : Int32} {x4 : Int32} {x5 : Int64} {x7 : Int32} {x8 : Int32} {x9 : Int32} {x10 : Int32}  {S : St} (hm : fX0_sweepIsClear_22b N  k22 x1 x4 x5 x7 x8 x9 x10 S = some r) : V p l e rmX0_sweepIsClear s m args below meth c Q D (xW ad cA) (xA ad) 12 S 22 [(0, .ref (ad 3)), (1, .int x1), (4, .int x4), (5, .long x5), (7, .int x7), (8, .int x8), (9, .int x9), (10, .int x10)] [] := by
  unfold fX0_sweepIsClear_22b at hm
  refine v_iload C (pc := 22) 7 dX0_sweepIsClear_22 rfl ?_
  refine v_iconst C (pc := 24) 2 dX0_sweepIsClear_24 rfl ?_
  refine v_iload C (pc := 25) 4 dX0_sweepIsClear_25 rfl ?_
  refine v_imul C (pc := 27) dX0_sweepIsClear_27 ?_
  refine v_icmp_ge C (pc := 28) hm 142 dX0_sweepIsClear_28 rfl (fun hm => ?_) (fun hm => ?_)
  · refine v_iconst C (pc := 142) 1 dX0_sweepIsClear_142 rfl ?_
    exact v_zret C hr hQ (x := true) (pc := 143) hm dX0_sweepIsClear_143
  · refine v_iload C (pc := 31) 6 dX0_sweepIsClear_31 rfl ?_
    refine v_iload C (pc := 33) 4 dX0_sweepIsClear_33 rfl ?_
    refine v_ineg C (pc := 35) dX0_sweepIsClear_35 ?_
    refine v_icmp_ne C (pc := 36) hm 52 dX0_sweepIsClear_36 rfl (fun hm => ?_) (fun hm => ?_)
    · exact (vX0_sweepIsClear_52 C hr hQ (N := N) hk22 hm)
    · refine v_iload C (pc := 39) 5 dX0_sweepIsClear_39 rfl ?_
      refine v_iload C (pc := 41) 4 dX0_sweepIsClear_41 rfl ?_
      refine v_icmp_ge C (pc := 43) hm 52 dX0_sweepIsClear_43 rfl (fun hm => ?_) (fun hm => ?_)
      · exact (vX0_sweepIsClear_52 C hr hQ (N := N) hk22 hm)
      · refine v_iinc C (pc := 46) 1 5 [(8, .int (x8 + 1)), (0, .ref (ad 3)), (1, .int x1), (4, .int x4), (5, .long x5), (7, .int x7), (9, .int x9), (10, .int x10)] dX0_sweepIsClear_46 rfl rfl (by decide) rfl ?_
        refine v_goto C (pc := 49) 96 dX0_sweepIsClear_49 rfl ?_
        exact v_sub [1, 2, 3, 4, 5, 0, 6, 7] rfl (vX0_sweepIsClear_96 C hr hQ (N := N) hk22 hm)
theorem vX0_sweepIsClear_22 {p : Program} {l : Launch} {e : Env} {s : State} {m : MethodId} {args : Array Value} {below : List Frame} {meth : Method} {c : Code} {Q : State → Prop} {D : va_G} {ad : Nat → Nat} {cA : Nat → ClassId} (C : Ok p s m args c D cA (xW ad cA) (xA ad) (xS ad) RX0 cX0_sweepIsClear 12) (hr : Rt meth (some .boolean)) {r : Bool × St} (hQ : Q = MQ below (Qo D (xW ad cA) (xA ad) (some (.int (b2i r.1))) r.2) args s 0 0 (xA ad)) {N : Nat}  (n : Nat) : ∀ (x1 : Int32) (x4 : Int32) (x5 : Int64) (x7 : Int32) (x8 : Int32) (x9 : Int32) (x10 : Int32) (S : St), fX0_sweepIsClear_22 N  n x1 x4 x5 x7 x8 x9 x10 S = some r → V p l e rmX0_sweepIsClear s m args below meth c Q D (xW ad cA) (xA ad) 12 S 22 [(0, .ref (ad 3)), (1, .int x1), (4, .int x4), (5, .long x5), (7, .int x7), (8, .int x8), (9, .int x9), (10, .int x10)] [] := by
  induction n with
  | zero => intro _ _ _ _ _ _ _ _  hm; exact absurd hm (by intro h; cases h)
  | succ n ih => intro _ _ _ _ _ _ _ _  hm; exact vX0_sweepIsClear_22b C hr hQ (N := N)   ih  hm
def fX0_sweepIsClear (N : Nat) (p2 : Int32) (p3 : Int32) (p4 : Int32) (p5 : Int32) (p6 : Int64) (S : St) : Option (Bool × St) := nm (if (if 0 ≤ p3 then p3 else 0 - p3) < (if 0 ≤ p4 then p4 else 0 - p4) then (if 0 ≤ p4 then p4 else 0 - p4) else (if 0 ≤ p3 then p3 else 0 - p3)) fun y14 => fX0_sweepIsClear_22 N N p2 p5 p6 y14 p3 p4 0 S
set_option maxRecDepth 20000 in
theorem vX0_sweepIsClear {p : Program} {l : Launch} {e : Env} {s : State} {m : MethodId} {args : Array Value} {below : List Frame} {meth : Method} {c : Code} {Q : State → Prop} {D : va_G} {ad : Nat → Nat} {cA : Nat → ClassId} (C : Ok p s m args c D cA (xW ad cA) (xA ad) (xS ad) RX0 cX0_sweepIsClear 12) (hr : Rt meth (some .boolean)) {r : Bool × St} (hQ : Q = MQ below (Qo D (xW ad cA) (xA ad) (some (.int (b2i r.1))) r.2) args s 0 0 (xA ad)) {N : Nat} {p2 : Int32} {p3 : Int32} {p4 : Int32} {p5 : Int32} {p6 : Int64} {S : St} (hm : fX0_sweepIsClear N p2 p3 p4 p5 p6 S = some r) : V p l e rmX0_sweepIsClear s m args below meth c Q D (xW ad cA) (xA ad) 12 S 0 [(0, .ref (ad 3)), (1, .int p2), (2, .int p3), (3, .int p4), (4, .int p5), (5, .long p6)] [] := by
  unfold fX0_sweepIsClear at hm
  refine v_iload_n C (pc := 0) 2 dX0_sweepIsClear_0 rfl rfl ?_
  refine kmX0_98 C (Nat.le_of_ble_eq_true rfl) (Nat.le_of_ble_eq_true rfl) (pc := 1) dX0_sweepIsClear_1 ?_
  refine v_iload_n C (pc := 4) 3 dX0_sweepIsClear_4 rfl rfl ?_
  refine kmX0_98 C (Nat.le_of_ble_eq_true rfl) (Nat.le_of_ble_eq_true rfl) (pc := 5) dX0_sweepIsClear_5 ?_
  refine kmX0_103 C (Nat.le_of_ble_eq_true rfl) (Nat.le_of_ble_eq_true rfl) (pc := 8) dX0_sweepIsClear_8 ?_
  refine v_istoreN C (pc := 11) [(0, .ref (ad 3)), (1, .int p2), (2, .int p3), (3, .int p4), (4, .int p5), (5, .long p6)] hm dX0_sweepIsClear_11 (by decide) rfl (fun y14 hm => ?_)
  refine v_iload_n C (pc := 13) 3 dX0_sweepIsClear_13 rfl rfl ?_
  refine v_istore C (pc := 14) [(8, .int p3), (7, .int y14), (0, .ref (ad 3)), (1, .int p2), (2, .int p3), (3, .int p4), (4, .int p5), (5, .long p6)] dX0_sweepIsClear_14 (by decide) rfl ?_
  refine v_iload_n C (pc := 16) 5 dX0_sweepIsClear_16 rfl rfl ?_
  refine v_istore C (pc := 17) [(9, .int p4), (8, .int p3), (7, .int y14), (0, .ref (ad 3)), (1, .int p2), (2, .int p3), (3, .int p4), (4, .int p5), (5, .long p6)] dX0_sweepIsClear_17 (by decide) rfl ?_
  refine v_iconst C (pc := 19) 0 dX0_sweepIsClear_19 rfl ?_
  refine v_istore C (pc := 20) [(10, .int 0), (9, .int p4), (8, .int p3), (7, .int y14), (0, .ref (ad 3)), (1, .int p2), (2, .int p3), (3, .int p4), (4, .int p5), (5, .long p6)] dX0_sweepIsClear_20 (by decide) rfl ?_
  exact v_sub [4, 5, 8, 9, 3, 2, 1, 0] rfl (vX0_sweepIsClear_22 C hr hQ (N := N) N _ _ _ _ _ _ _ _ hm)
theorem mX0_sweepIsClear {l : Launch} {D : va_G} {ad : Nat → Nat} {cA : Nat → ClassId} (hD : ∀ S, va_D (xA ad) (xW ad cA S)) {N : Nat} {p2 : Int32} {p3 : Int32} {p4 : Int32} {p5 : Int32} {p6 : Int64} {S : St} {r : Bool × St} (hm : fX0_sweepIsClear N p2 p3 p4 p5 p6 S = some r) : Met l yX0_sweepIsClear (wsm yX0_sweepIsClear cX0_sweepIsClear 12 (some .boolean)) rmX0_sweepIsClear (va_Pc [.ref (ad 3), .int p2, .int p3, .int p4, .int p5, .long p6] (Pre D cA (xW ad cA) (xS ad) S)) (Qo D (xW ad cA) (xA ad) (some (.int (b2i r.1))) r.2) 0 0 (xA ad) := met_of [.ref (ad 3), .int p2, .int p3, .int p4, .int p5, .long p6] (by decide) (Nat.le_of_ble_eq_true rfl) hD (xS_mv ad) (xS_kp ad) (fun p e s m below meth c C hr => vX0_sweepIsClear C hr rfl (N := N)  hm)
-- X0_afterTurn
theorem infX0_sweepIsClear : InfS yX0_sweepIsClear cX0_sweepIsClear 12 (some .boolean) 6 := ⟨⟨gm (i := 59) (by decide +kernel) rfl, gm (i := 570) (by decide +kernel) rfl, by decide +kernel⟩, gm (i := 569) (by decide +kernel) rfl⟩
theorem kX0_94 {p : Program} {l : Launch} {e : Env} {R : Room} {s : State} {m : MethodId} {args : Array Value} {below : List Frame} {meth : Method} {c : Code} {Q : State → Prop} {D : va_G} {ad : Nat → Nat} {cA : Nat → ClassId} {cc : ByteArray} {nL : Nat} {S : St} {pc : Nat} {lv : List (Nat × Value)} {st : List Value} {ρ : Type} {res : ρ} (C : Ok p s m args c D cA (xW ad cA) (xA ad) (xS ad) RX0 cc nL) (hfr : rmX0_sweepIsClear.frames + 1 ≤ R.frames) (hlo : 8 + (12 + 11) + rmX0_sweepIsClear.locals ≤ R.locals) {N : Nat} {p2 : Int32} {p3 : Int32} {p4 : Int32} {p5 : Int32} {p6 : Int64} {E : Bool → St → Option ρ} (hm : bd (fX0_sweepIsClear N p2 p3 p4 p5 p6 S) E = some res) (hcat : (st.map fun v => v.category).sum ≤ 8) (hd : decode cc pc = .ok (.invokestatic 94, 3)) (k : ∀ r S, E r S = some res → V p l e R s m args below meth c Q D (xW ad cA) (xA ad) nL S (pc + 3) lv (.int (b2i r) :: st)) : V p l e R s m args below meth c Q D (xW ad cA) (xA ad) nL S pc lv (.long p6 :: .int p5 :: .int p4 :: .int p3 :: .int p2 :: .ref (ad 3) :: st) := by
  obtain ⟨r, S1, h1, h2⟩ := bd_some hm
  exact v_callS C (gm (i := 568) (by decide +kernel) rfl : Cond.methodLink RX0 94 yX0_sweepIsClear ∈ gw_tbl) infX0_sweepIsClear (rm2 := rmX0_sweepIsClear) ⟨rfl, rfl⟩ hfr hlo (mX0_sweepIsClear C.2.2.2.2.2.2.1 h1) (As := [.ref (ad 3), .int p2, .int p3, .int p4, .int p5, .long p6]) rfl rfl hcat hd (k r S1 h2)
def rmX0_afterTurn : Room := { frames := 2, cells := 0, slots := 0, locals := 53 }
def fX0_afterTurn_38b (N : Nat) (i0 : Nat)  (k38 : Int32 → Int32 → Int32 → Int64 → Int32 → Int32 → St → Option (Int32 × St)) (x2 : Int32) (x3 : Int32) (x6 : Int32) (x7 : Int64) (x9 : Int32) (x10 : Int32) (S : St) : Option (Int32 × St) := if (x6 + (S.1 (5 + i0))) ≤ x10 then (bd (fX7_shifted N x2 x3 S) fun r8 S6 => some (r8, S6)) else (ck x10 20 (ck x10 20 (bd (fX0_sweepIsClear N x2 (S.2.2.1 (4 + i0) (Int32.toNatClampNeg x10)) (x9 * (S.2.2.1 (9 + i0) (Int32.toNatClampNeg x10))) x9 x7 S) fun r9 S7 => if (b2i r9) = 0 then (some ((-1), S7)) else (k38 x2 x3 x6 x7 x9 (x10 + 1) S7))))
def fX0_afterTurn_38 (N : Nat) (i0 : Nat)  : Nat → Int32 → Int32 → Int32 → Int64 → Int32 → Int32 → St → Option (Int32 × St)
  | 0 => fun _ _ _ _ _ _ _ => none
  | n + 1 => fun x2 x3 x6 x7 x9 x10 S => fX0_afterTurn_38b N i0  (fX0_afterTurn_38 N i0  n) x2 x3 x6 x7 x9 x10 S
set_option maxRecDepth 20000 in
theorem vX0_afterTurn_38b {p : Program} {l : Launch} {e : Env} {s : State} {m : MethodId} {args : Array Value} {below : List Frame} {meth : Method} {c : Code} {Q : State → Prop} {D : va_G} {ad : Nat → Nat} {cA : Nat → ClassId} (C : Ok p s m args c D cA (xW ad cA) (xA ad) (xS ad) RX0 cX0_afterTurn 11) (hr : Rt meth (some .int)) {r : Int32 × St} (hQ : Q = MQ below (Qo D (xW ad cA) (xA ad) (some (.int r.1)) r.2) args s 0 0 (xA ad)) {N : Nat} {i0 : Nat} (hi0 : i0 < 5)  {k38 : Int32 → Int32 → Int32 → Int64 → Int32 → Int32 → St → Option (Int32 × St)} (hk38 : ∀ (x2 : Int32) (x3 : Int32) (x6 : Int32) (x7 : Int64) (x9 : Int32) (x10 : Int32) (S : St), k38 x2 x3 x6 x7 x9 x10 S = some r → V p l e rmX0_afterTurn s m args below meth c Q D (xW ad cA) (xA ad) 11 S 38 [(0, .ref (ad (4 + i0))), (1, .ref (ad 3)), (2, .int x2), (3, .int x3), (6, .int x6), (7, .long x7), (9, .int x9), (10, .int x10)] []) {x2 : Int32} {x3 : Int32} {x6 : Int32} {x7 : Int64} {x9 : Int32} {x10 : Int32}  {S : St} (hm : fX0_afterTurn_38b N i0  k38 x2 x3 x6 x7 x9 x10 S = some r) : V p l e rmX0_afterTurn s m args below meth c Q D (xW ad cA) (xA ad) 11 S 38 [(0, .ref (ad (4 + i0))), (1, .ref (ad 3)), (2, .int x2), (3, .int x3), (6, .int x6), (7, .long x7), (9, .int x9), (10, .int x10)] [] := by
  unfold fX0_afterTurn_38b at hm
  refine v_iload C (pc := 38) 7 dX0_afterTurn_38 rfl ?_
  refine v_iload C (pc := 40) 4 dX0_afterTurn_40 rfl ?_
  refine v_aload_n C (pc := 42) 0 dX0_afterTurn_42 rfl rfl ?_
  refine gX0_25 C hi0 (pc := 43) dX0_afterTurn_43 ?_
  refine v_iadd C (pc := 46) dX0_afterTurn_46 ?_
  refine v_icmp_ge C (pc := 47) hm 87 dX0_afterTurn_47 rfl (fun hm => ?_) (fun hm => ?_)
  · refine v_aload_n C (pc := 87) 1 dX0_afterTurn_87 rfl rfl ?_
    refine v_iload_n C (pc := 88) 2 dX0_afterTurn_88 rfl rfl ?_
    refine v_iload_n C (pc := 89) 3 dX0_afterTurn_89 rfl rfl ?_
    refine kX0_79 C (Nat.le_of_ble_eq_true rfl) (Nat.le_of_ble_eq_true rfl) (pc := 90) hm (Nat.le_of_ble_eq_true rfl) dX0_afterTurn_90 (fun r8 S6 hm => ?_)
    exact v_iret C hr hQ (pc := 93) hm dX0_afterTurn_93
  · refine v_aload_n C (pc := 50) 1 dX0_afterTurn_50 rfl rfl ?_
    refine v_iload_n C (pc := 51) 2 dX0_afterTurn_51 rfl rfl ?_
    refine v_aload_n C (pc := 52) 0 dX0_afterTurn_52 rfl rfl ?_
    refine gX0_9 C hi0 (pc := 53) dX0_afterTurn_53 ?_
    refine v_iload C (pc := 56) 7 dX0_afterTurn_56 rfl ?_
    refine ldX0_offsetX C hi0 (pc := 58) hm dX0_afterTurn_58 (fun hm => ?_)
    refine v_iload C (pc := 59) 6 dX0_afterTurn_59 rfl ?_
    refine v_aload_n C (pc := 61) 0 dX0_afterTurn_61 rfl rfl ?_
    refine gX0_15 C hi0 (pc := 62) dX0_afterTurn_62 ?_
    refine v_iload C (pc := 65) 7 dX0_afterTurn_65 rfl ?_
    refine ldX0_offsetY C hi0 (pc := 67) hm dX0_afterTurn_67 (fun hm => ?_)
    refine v_imul C (pc := 68) dX0_afterTurn_68 ?_
    refine v_iload C (pc := 69) 6 dX0_afterTurn_69 rfl ?_
    refine v_lload C (pc := 71) 5 dX0_afterTurn_71 rfl ?_
    refine kX0_94 C (Nat.le_of_ble_eq_true rfl) (Nat.le_of_ble_eq_true rfl) (pc := 73) hm (Nat.le_of_ble_eq_true rfl) dX0_afterTurn_73 (fun r9 S7 hm => ?_)
    refine v_if_ne C (pc := 76) hm 81 dX0_afterTurn_76 rfl (fun hm => ?_) (fun hm => ?_)
    · refine v_iinc C (pc := 81) 1 7 [(10, .int (x10 + 1)), (0, .ref (ad (4 + i0))), (1, .ref (ad 3)), (2, .int x2), (3, .int x3), (6, .int x6), (7, .long x7), (9, .int x9)] dX0_afterTurn_81 rfl rfl (by decide) rfl ?_
      refine v_goto C (pc := 84) 38 dX0_afterTurn_84 rfl ?_
      exact v_sub [1, 2, 3, 4, 5, 6, 7, 0] rfl (hk38 _ _ _ _ _ _ _ hm)
    · refine v_iconst C (pc := 79) (-1) dX0_afterTurn_79 rfl ?_
      exact v_iret C hr hQ (pc := 80) hm dX0_afterTurn_80
theorem vX0_afterTurn_38 {p : Program} {l : Launch} {e : Env} {s : State} {m : MethodId} {args : Array Value} {below : List Frame} {meth : Method} {c : Code} {Q : State → Prop} {D : va_G} {ad : Nat → Nat} {cA : Nat → ClassId} (C : Ok p s m args c D cA (xW ad cA) (xA ad) (xS ad) RX0 cX0_afterTurn 11) (hr : Rt meth (some .int)) {r : Int32 × St} (hQ : Q = MQ below (Qo D (xW ad cA) (xA ad) (some (.int r.1)) r.2) args s 0 0 (xA ad)) {N : Nat} {i0 : Nat} (hi0 : i0 < 5)  (n : Nat) : ∀ (x2 : Int32) (x3 : Int32) (x6 : Int32) (x7 : Int64) (x9 : Int32) (x10 : Int32) (S : St), fX0_afterTurn_38 N i0  n x2 x3 x6 x7 x9 x10 S = some r → V p l e rmX0_afterTurn s m args below meth c Q D (xW ad cA) (xA ad) 11 S 38 [(0, .ref (ad (4 + i0))), (1, .ref (ad 3)), (2, .int x2), (3, .int x3), (6, .int x6), (7, .long x7), (9, .int x9), (10, .int x10)] [] := by
  induction n with
  | zero => intro _ _ _ _ _ _ _  hm; exact absurd hm (by intro h; cases h)
  | succ n ih => intro _ _ _ _ _ _ _  hm; exact vX0_afterTurn_38b C hr hQ (N := N) hi0  ih  hm
def fX0_afterTurn_32 (N : Nat) (i0 : Nat)  (s0 : Int32) (x2 : Int32) (x3 : Int32) (x6 : Int32) (x7 : Int64) (S : St) : Option (Int32 × St) := fX0_afterTurn_38 N i0 N x2 x3 x6 x7 s0 x6 S
set_option maxRecDepth 20000 in
theorem vX0_afterTurn_32 {p : Program} {l : Launch} {e : Env} {s : State} {m : MethodId} {args : Array Value} {below : List Frame} {meth : Method} {c : Code} {Q : State → Prop} {D : va_G} {ad : Nat → Nat} {cA : Nat → ClassId} (C : Ok p s m args c D cA (xW ad cA) (xA ad) (xS ad) RX0 cX0_afterTurn 11) (hr : Rt meth (some .int)) {r : Int32 × St} (hQ : Q = MQ below (Qo D (xW ad cA) (xA ad) (some (.int r.1)) r.2) args s 0 0 (xA ad)) {N : Nat} {i0 : Nat} (hi0 : i0 < 5)  {s0 : Int32} {x2 : Int32} {x3 : Int32} {x6 : Int32} {x7 : Int64}  {S : St} (hm : fX0_afterTurn_32 N i0  s0 x2 x3 x6 x7 S = some r) : V p l e rmX0_afterTurn s m args below meth c Q D (xW ad cA) (xA ad) 11 S 32 [(0, .ref (ad (4 + i0))), (1, .ref (ad 3)), (2, .int x2), (3, .int x3), (6, .int x6), (7, .long x7)] [.int s0] := by
  unfold fX0_afterTurn_32 at hm
  refine v_istore C (pc := 32) [(9, .int s0), (0, .ref (ad (4 + i0))), (1, .ref (ad 3)), (2, .int x2), (3, .int x3), (6, .int x6), (7, .long x7)] dX0_afterTurn_32 (by decide) rfl ?_
  refine v_iload C (pc := 34) 5 dX0_afterTurn_34 rfl ?_
  refine v_istore C (pc := 36) [(10, .int x6), (9, .int s0), (0, .ref (ad (4 + i0))), (1, .ref (ad 3)), (2, .int x2), (3, .int x3), (6, .int x6), (7, .long x7)] dX0_afterTurn_36 (by decide) rfl ?_
  exact v_sub [2, 3, 4, 5, 6, 7, 1, 0] rfl (vX0_afterTurn_38 C hr hQ (N := N) hi0 N _ _ _ _ _ _ _ hm)
def fX0_afterTurn (N : Nat) (i0 : Nat) (p2 : Int32) (p3 : Int32) (p4 : Int64) (S : St) : Option (Int32 × St) := bd (fX8_orientationOf N p2 S) fun r10 S8 => nm (5 * r10) fun y11 => nm ((p4 ||| (S8.2.1 0)) ||| (S8.2.1 1)) fun y12 => if p3 = 4 then (fX0_afterTurn_32 N i0 1 p2 p3 y11 y12 S8) else (fX0_afterTurn_32 N i0 (-1) p2 p3 y11 y12 S8)
set_option maxRecDepth 20000 in
theorem vX0_afterTurn {p : Program} {l : Launch} {e : Env} {s : State} {m : MethodId} {args : Array Value} {below : List Frame} {meth : Method} {c : Code} {Q : State → Prop} {D : va_G} {ad : Nat → Nat} {cA : Nat → ClassId} (C : Ok p s m args c D cA (xW ad cA) (xA ad) (xS ad) RX0 cX0_afterTurn 11) (hr : Rt meth (some .int)) {r : Int32 × St} (hQ : Q = MQ below (Qo D (xW ad cA) (xA ad) (some (.int r.1)) r.2) args s 0 0 (xA ad)) {N : Nat} {i0 : Nat} (hi0 : i0 < 5) {p2 : Int32} {p3 : Int32} {p4 : Int64} {S : St} (hm : fX0_afterTurn N i0 p2 p3 p4 S = some r) : V p l e rmX0_afterTurn s m args below meth c Q D (xW ad cA) (xA ad) 11 S 0 [(0, .ref (ad (4 + i0))), (1, .ref (ad 3)), (2, .int p2), (3, .int p3), (4, .long p4)] [] := by
  unfold fX0_afterTurn at hm
  refine v_iconst C (pc := 0) 5 dX0_afterTurn_0 rfl ?_
  refine v_iload_n C (pc := 1) 2 dX0_afterTurn_1 rfl rfl ?_
  refine kX0_62 C (Nat.le_of_ble_eq_true rfl) (Nat.le_of_ble_eq_true rfl) (pc := 2) hm (Nat.le_of_ble_eq_true rfl) dX0_afterTurn_2 (fun r10 S8 hm => ?_)
  refine v_imul C (pc := 5) dX0_afterTurn_5 ?_
  refine v_istoreN C (pc := 6) [(0, .ref (ad (4 + i0))), (1, .ref (ad 3)), (2, .int p2), (3, .int p3), (4, .long p4)] hm dX0_afterTurn_6 (by decide) rfl (fun y11 hm => ?_)
  refine v_lload C (pc := 8) 5 dX0_afterTurn_8 rfl ?_
  refine v_aload_n C (pc := 10) 2 dX0_afterTurn_10 rfl rfl ?_
  refine gX0_71 C (pc := 11) dX0_afterTurn_11 ?_
  refine v_lor C (pc := 14) dX0_afterTurn_14 ?_
  refine v_aload_n C (pc := 15) 2 dX0_afterTurn_15 rfl rfl ?_
  refine gX0_86 C (pc := 16) dX0_afterTurn_16 ?_
  refine v_lor C (pc := 19) dX0_afterTurn_19 ?_
  refine v_lstoreN C (pc := 20) [(6, .int y11), (0, .ref (ad (4 + i0))), (1, .ref (ad 3)), (2, .int p2), (3, .int p3), (4, .long p4)] hm dX0_afterTurn_20 (by decide) rfl (fun y12 hm => ?_)
  refine v_iload_n C (pc := 22) 5 dX0_afterTurn_22 rfl rfl ?_
  refine v_iconst C (pc := 23) 4 dX0_afterTurn_23 rfl ?_
  refine v_icmp_ne C (pc := 24) hm 31 dX0_afterTurn_24 rfl (fun hm => ?_) (fun hm => ?_)
  · refine v_iconst C (pc := 31) (-1) dX0_afterTurn_31 rfl ?_
    exact v_sub [2, 3, 4, 5, 1, 0] rfl (vX0_afterTurn_32 C hr hQ (N := N) hi0 hm)
  · refine v_iconst C (pc := 27) 1 dX0_afterTurn_27 rfl ?_
    refine v_goto C (pc := 28) 32 dX0_afterTurn_28 rfl ?_
    exact v_sub [2, 3, 4, 5, 1, 0] rfl (vX0_afterTurn_32 C hr hQ (N := N) hi0 hm)
theorem mX0_afterTurn {l : Launch} {D : va_G} {ad : Nat → Nat} {cA : Nat → ClassId} (hD : ∀ S, va_D (xA ad) (xW ad cA S)) {N : Nat} {i0 : Nat} (hi0 : i0 < 5) {p2 : Int32} {p3 : Int32} {p4 : Int64} {S : St} {r : Int32 × St} (hm : fX0_afterTurn N i0 p2 p3 p4 S = some r) : Met l yX0_afterTurn (wsm yX0_afterTurn cX0_afterTurn 11 (some .int)) rmX0_afterTurn (va_Pc [.ref (ad (4 + i0)), .ref (ad 3), .int p2, .int p3, .long p4] (Pre D cA (xW ad cA) (xS ad) S)) (Qo D (xW ad cA) (xA ad) (some (.int r.1)) r.2) 0 0 (xA ad) := met_of [.ref (ad (4 + i0)), .ref (ad 3), .int p2, .int p3, .long p4] (by decide) (Nat.le_of_ble_eq_true rfl) hD (xS_mv ad) (xS_kp ad) (fun p e s m below meth c C hr => vX0_afterTurn C hr rfl (N := N) hi0 hm)
-- X0_placementBefore
theorem infX0_afterTurn : InfV yX0_afterTurn cX0_afterTurn 11 (some .int) 4 := ⟨⟨gm (i := 59) (by decide +kernel) rfl, gm (i := 567) (by decide +kernel) rfl, by decide +kernel⟩, gm (i := 565) (by decide +kernel) rfl, gm (i := 566) (by decide +kernel) rfl⟩
theorem kX0_114 {p : Program} {l : Launch} {e : Env} {R : Room} {s : State} {m : MethodId} {args : Array Value} {below : List Frame} {meth : Method} {c : Code} {Q : State → Prop} {D : va_G} {ad : Nat → Nat} {cA : Nat → ClassId} {cc : ByteArray} {nL : Nat} {S : St} {pc : Nat} {lv : List (Nat × Value)} {st : List Value} {ρ : Type} {res : ρ} (C : Ok p s m args c D cA (xW ad cA) (xA ad) (xS ad) RX0 cc nL) (hfr : rmX0_afterTurn.frames + 1 ≤ R.frames) (hlo : 8 + (11 + 11) + rmX0_afterTurn.locals ≤ R.locals) {i : Nat} (hi : i < 5) {N : Nat} {p2 : Int32} {p3 : Int32} {p4 : Int64} {E : Int32 → St → Option ρ} (hm : bd (fX0_afterTurn N i p2 p3 p4 S) E = some res) (hcat : (st.map fun v => v.category).sum ≤ 8) (hd : decode cc pc = .ok (.invokevirtual 114, 3)) (k : ∀ r S, E r S = some res → V p l e R s m args below meth c Q D (xW ad cA) (xA ad) nL S (pc + 3) lv (.int r :: st)) : V p l e R s m args below meth c Q D (xW ad cA) (xA ad) nL S pc lv (.long p4 :: .int p3 :: .int p2 :: .ref (ad 3) :: .ref (ad (4 + i)) :: st) := by
  obtain ⟨r, S1, h1, h2⟩ := bd_some hm
  exact v_callV C (gm (i := 647) (by decide +kernel) rfl : Cond.methodLink RX0 114 yX0_afterTurn ∈ gw_tbl) infX0_afterTurn (rm2 := rmX0_afterTurn) ⟨rfl, rfl⟩ hfr hlo (mX0_afterTurn C.2.2.2.2.2.2.1 hi h1) (As := [.ref (ad 3), .int p2, .int p3, .long p4]) (oX0 ad cA i hi S) rfl rfl rfl rfl hcat hd (k r S1 h2)
theorem infX0_afterPush : InfV yX0_afterPush cX0_afterPush 9 (some .int) 4 := ⟨⟨gm (i := 59) (by decide +kernel) rfl, gm (i := 549) (by decide +kernel) rfl, by decide +kernel⟩, gm (i := 547) (by decide +kernel) rfl, gm (i := 548) (by decide +kernel) rfl⟩
theorem kX0_110 {p : Program} {l : Launch} {e : Env} {R : Room} {s : State} {m : MethodId} {args : Array Value} {below : List Frame} {meth : Method} {c : Code} {Q : State → Prop} {D : va_G} {ad : Nat → Nat} {cA : Nat → ClassId} {cc : ByteArray} {nL : Nat} {S : St} {pc : Nat} {lv : List (Nat × Value)} {st : List Value} {ρ : Type} {res : ρ} (C : Ok p s m args c D cA (xW ad cA) (xA ad) (xS ad) RX0 cc nL) (hfr : rmX0_afterPush.frames + 1 ≤ R.frames) (hlo : 8 + (9 + 11) + rmX0_afterPush.locals ≤ R.locals) {i : Nat} (hi : i < 5) {N : Nat} {p2 : Int32} {p3 : Int32} {p4 : Int64} {E : Int32 → St → Option ρ} (hm : bd (fX0_afterPush N i p2 p3 p4 S) E = some res) (hcat : (st.map fun v => v.category).sum ≤ 8) (hd : decode cc pc = .ok (.invokevirtual 110, 3)) (k : ∀ r S, E r S = some res → V p l e R s m args below meth c Q D (xW ad cA) (xA ad) nL S (pc + 3) lv (.int r :: st)) : V p l e R s m args below meth c Q D (xW ad cA) (xA ad) nL S pc lv (.long p4 :: .int p3 :: .int p2 :: .ref (ad 3) :: .ref (ad (4 + i)) :: st) := by
  obtain ⟨r, S1, h1, h2⟩ := bd_some hm
  exact v_callV C (gm (i := 646) (by decide +kernel) rfl : Cond.methodLink RX0 110 yX0_afterPush ∈ gw_tbl) infX0_afterPush (rm2 := rmX0_afterPush) ⟨rfl, rfl⟩ hfr hlo (mX0_afterPush C.2.2.2.2.2.2.1 hi h1) (As := [.ref (ad 3), .int p2, .int p3, .long p4]) (oX0 ad cA i hi S) rfl rfl rfl rfl hcat hd (k r S1 h2)
def rmX0_placementBefore : Room := { frames := 3, cells := 0, slots := 0, locals := 83 }
def fX0_placementBefore_88 (N : Nat) (i0 : Nat)  (s0 : Int32) (S : St) : Option (Int32 × St) := some (s0, S)
set_option maxRecDepth 20000 in
theorem vX0_placementBefore_88 {p : Program} {l : Launch} {e : Env} {s : State} {m : MethodId} {args : Array Value} {below : List Frame} {meth : Method} {c : Code} {Q : State → Prop} {D : va_G} {ad : Nat → Nat} {cA : Nat → ClassId} (C : Ok p s m args c D cA (xW ad cA) (xA ad) (xS ad) RX0 cX0_placementBefore 7) (hr : Rt meth (some .int)) {r : Int32 × St} (hQ : Q = MQ below (Qo D (xW ad cA) (xA ad) (some (.int r.1)) r.2) args s 0 0 (xA ad)) {N : Nat} {i0 : Nat} (hi0 : i0 < 5)  {s0 : Int32}  {S : St} (hm : fX0_placementBefore_88 N i0  s0 S = some r) : V p l e rmX0_placementBefore s m args below meth c Q D (xW ad cA) (xA ad) 7 S 88 [] [.int s0] := by
  unfold fX0_placementBefore_88 at hm
  exact v_iret C hr hQ (pc := 88) hm dX0_placementBefore_88
def fX0_placementBefore_75 (N : Nat) (i0 : Nat)  (s0 : Int32) (x5 : Int32) (S : St) : Option (Int32 × St) := if 0 ≤ s0 then (fX0_placementBefore_88 N i0 x5 S) else (fX0_placementBefore_88 N i0 (-1) S)
set_option maxRecDepth 20000 in
theorem vX0_placementBefore_75 {p : Program} {l : Launch} {e : Env} {s : State} {m : MethodId} {args : Array Value} {below : List Frame} {meth : Method} {c : Code} {Q : State → Prop} {D : va_G} {ad : Nat → Nat} {cA : Nat → ClassId} (C : Ok p s m args c D cA (xW ad cA) (xA ad) (xS ad) RX0 cX0_placementBefore 7) (hr : Rt meth (some .int)) {r : Int32 × St} (hQ : Q = MQ below (Qo D (xW ad cA) (xA ad) (some (.int r.1)) r.2) args s 0 0 (xA ad)) {N : Nat} {i0 : Nat} (hi0 : i0 < 5)  {s0 : Int32} {x5 : Int32}  {S : St} (hm : fX0_placementBefore_75 N i0  s0 x5 S = some r) : V p l e rmX0_placementBefore s m args below meth c Q D (xW ad cA) (xA ad) 7 S 75 [(5, .int x5)] [.int s0] := by
  unfold fX0_placementBefore_75 at hm
  refine v_istore C (pc := 75) [(6, .int s0), (5, .int x5)] dX0_placementBefore_75 (by decide) rfl ?_
  refine v_iload C (pc := 77) 0 dX0_placementBefore_77 rfl ?_
  refine v_if_ge C (pc := 79) hm 86 dX0_placementBefore_79 rfl (fun hm => ?_) (fun hm => ?_)
  · refine v_iload C (pc := 86) 1 dX0_placementBefore_86 rfl ?_
    exact v_sub [] rfl (vX0_placementBefore_88 C hr hQ (N := N) hi0 hm)
  · refine v_iconst C (pc := 82) (-1) dX0_placementBefore_82 rfl ?_
    refine v_goto C (pc := 83) 88 dX0_placementBefore_83 rfl ?_
    exact v_sub [] rfl (vX0_placementBefore_88 C hr hQ (N := N) hi0 hm)
def fX0_placementBefore_47 (N : Nat) (i0 : Nat)   (S : St) : Option (Int32 × St) := some ((-1), S)
set_option maxRecDepth 20000 in
theorem vX0_placementBefore_47 {p : Program} {l : Launch} {e : Env} {s : State} {m : MethodId} {args : Array Value} {below : List Frame} {meth : Method} {c : Code} {Q : State → Prop} {D : va_G} {ad : Nat → Nat} {cA : Nat → ClassId} (C : Ok p s m args c D cA (xW ad cA) (xA ad) (xS ad) RX0 cX0_placementBefore 7) (hr : Rt meth (some .int)) {r : Int32 × St} (hQ : Q = MQ below (Qo D (xW ad cA) (xA ad) (some (.int r.1)) r.2) args s 0 0 (xA ad)) {N : Nat} {i0 : Nat} (hi0 : i0 < 5)    {S : St} (hm : fX0_placementBefore_47 N i0   S = some r) : V p l e rmX0_placementBefore s m args below meth c Q D (xW ad cA) (xA ad) 7 S 47 [] [] := by
  unfold fX0_placementBefore_47 at hm
  refine v_iconst C (pc := 47) (-1) dX0_placementBefore_47 rfl ?_
  exact v_iret C hr hQ (pc := 48) hm dX0_placementBefore_48
def fX0_placementBefore_28 (N : Nat) (i0 : Nat)  (s0 : Int32) (s1 : Int32) (x3 : Int32) (x4 : Bool) (S : St) : Option (Int32 × St) := bd (fX7_shifted N s1 s0 S) fun r5 S5 => if r5 < 0 then (fX0_placementBefore_47 N i0 S5) else (bd (fX0_fits N i0 r5 S5) fun r6 S6 => if (b2i r6) = 0 then (fX0_placementBefore_47 N i0 S6) else (if (b2i x4) = 0 then (bd (fX0_afterTurn N i0 r5 x3 0 S6) fun r7 S7 => fX0_placementBefore_75 N i0 r7 r5 S7) else (bd (fX0_afterPush N i0 r5 x3 0 S6) fun r8 S8 => fX0_placementBefore_75 N i0 r8 r5 S8)))
set_option maxRecDepth 20000 in
theorem vX0_placementBefore_28 {p : Program} {l : Launch} {e : Env} {s : State} {m : MethodId} {args : Array Value} {below : List Frame} {meth : Method} {c : Code} {Q : State → Prop} {D : va_G} {ad : Nat → Nat} {cA : Nat → ClassId} (C : Ok p s m args c D cA (xW ad cA) (xA ad) (xS ad) RX0 cX0_placementBefore 7) (hr : Rt meth (some .int)) {r : Int32 × St} (hQ : Q = MQ below (Qo D (xW ad cA) (xA ad) (some (.int r.1)) r.2) args s 0 0 (xA ad)) {N : Nat} {i0 : Nat} (hi0 : i0 < 5)  {s0 : Int32} {s1 : Int32} {x3 : Int32} {x4 : Bool}  {S : St} (hm : fX0_placementBefore_28 N i0  s0 s1 x3 x4 S = some r) : V p l e rmX0_placementBefore s m args below meth c Q D (xW ad cA) (xA ad) 7 S 28 [(0, .ref (ad (4 + i0))), (1, .ref (ad 3)), (3, .int x3), (4, .int (b2i x4))] [.int s0, .int s1, .ref (ad 3)] := by
  unfold fX0_placementBefore_28 at hm
  refine kX0_79 C (Nat.le_of_ble_eq_true rfl) (Nat.le_of_ble_eq_true rfl) (pc := 28) hm (Nat.le_of_ble_eq_true rfl) dX0_placementBefore_28 (fun r5 S5 hm => ?_)
  refine v_istore C (pc := 31) [(5, .int r5), (0, .ref (ad (4 + i0))), (1, .ref (ad 3)), (3, .int x3), (4, .int (b2i x4))] dX0_placementBefore_31 (by decide) rfl ?_
  refine v_iload C (pc := 33) 0 dX0_placementBefore_33 rfl ?_
  refine v_if_lt C (pc := 35) hm 47 dX0_placementBefore_35 rfl (fun hm => ?_) (fun hm => ?_)
  · exact v_sub [] rfl (vX0_placementBefore_47 C hr hQ (N := N) hi0 hm)
  · refine v_aload_n C (pc := 38) 1 dX0_placementBefore_38 rfl rfl ?_
    refine v_iload C (pc := 39) 0 dX0_placementBefore_39 rfl ?_
    refine kX0_82 C (Nat.le_of_ble_eq_true rfl) (Nat.le_of_ble_eq_true rfl) hi0 (pc := 41) hm (Nat.le_of_ble_eq_true rfl) dX0_placementBefore_41 (fun r6 S6 hm => ?_)
    refine v_if_ne C (pc := 44) hm 49 dX0_placementBefore_44 rfl (fun hm => ?_) (fun hm => ?_)
    · refine v_iload C (pc := 49) 4 dX0_placementBefore_49 rfl ?_
      refine v_if_eq C (pc := 51) hm 66 dX0_placementBefore_51 rfl (fun hm => ?_) (fun hm => ?_)
      · refine v_aload_n C (pc := 66) 1 dX0_placementBefore_66 rfl rfl ?_
        refine v_aload_n C (pc := 67) 2 dX0_placementBefore_67 rfl rfl ?_
        refine v_iload C (pc := 68) 0 dX0_placementBefore_68 rfl ?_
        refine v_iload_n C (pc := 70) 3 dX0_placementBefore_70 rfl rfl ?_
        refine v_lconst C (pc := 71) 0 dX0_placementBefore_71 rfl ?_
        refine kX0_114 C (Nat.le_of_ble_eq_true rfl) (Nat.le_of_ble_eq_true rfl) hi0 (pc := 72) hm (Nat.le_of_ble_eq_true rfl) dX0_placementBefore_72 (fun r7 S7 hm => ?_)
        exact v_sub [0] rfl (vX0_placementBefore_75 C hr hQ (N := N) hi0 hm)
      · refine v_aload_n C (pc := 54) 1 dX0_placementBefore_54 rfl rfl ?_
        refine v_aload_n C (pc := 55) 2 dX0_placementBefore_55 rfl rfl ?_
        refine v_iload C (pc := 56) 0 dX0_placementBefore_56 rfl ?_
        refine v_iload_n C (pc := 58) 3 dX0_placementBefore_58 rfl rfl ?_
        refine v_lconst C (pc := 59) 0 dX0_placementBefore_59 rfl ?_
        refine kX0_110 C (Nat.le_of_ble_eq_true rfl) (Nat.le_of_ble_eq_true rfl) hi0 (pc := 60) hm (Nat.le_of_ble_eq_true rfl) dX0_placementBefore_60 (fun r8 S8 hm => ?_)
        refine v_goto C (pc := 63) 75 dX0_placementBefore_63 rfl ?_
        exact v_sub [0] rfl (vX0_placementBefore_75 C hr hQ (N := N) hi0 hm)
    · exact v_sub [] rfl (vX0_placementBefore_47 C hr hQ (N := N) hi0 hm)
def fX0_placementBefore_10 (N : Nat) (i0 : Nat)  (s0 : Bool) (x2 : Int32) (x3 : Int32) (S : St) : Option (Int32 × St) := if (b2i s0) = 0 then (fX0_placementBefore_28 N i0 (x3 ^^^ 1) x2 x3 s0 S) else (fX0_placementBefore_28 N i0 (x3 ^^^ 2) x2 x3 s0 S)
set_option maxRecDepth 20000 in
theorem vX0_placementBefore_10 {p : Program} {l : Launch} {e : Env} {s : State} {m : MethodId} {args : Array Value} {below : List Frame} {meth : Method} {c : Code} {Q : State → Prop} {D : va_G} {ad : Nat → Nat} {cA : Nat → ClassId} (C : Ok p s m args c D cA (xW ad cA) (xA ad) (xS ad) RX0 cX0_placementBefore 7) (hr : Rt meth (some .int)) {r : Int32 × St} (hQ : Q = MQ below (Qo D (xW ad cA) (xA ad) (some (.int r.1)) r.2) args s 0 0 (xA ad)) {N : Nat} {i0 : Nat} (hi0 : i0 < 5)  {s0 : Bool} {x2 : Int32} {x3 : Int32}  {S : St} (hm : fX0_placementBefore_10 N i0  s0 x2 x3 S = some r) : V p l e rmX0_placementBefore s m args below meth c Q D (xW ad cA) (xA ad) 7 S 10 [(0, .ref (ad (4 + i0))), (1, .ref (ad 3)), (2, .int x2), (3, .int x3)] [.int (b2i s0)] := by
  unfold fX0_placementBefore_10 at hm
  refine v_istore C (pc := 10) [(4, .int (b2i s0)), (0, .ref (ad (4 + i0))), (1, .ref (ad 3)), (2, .int x2), (3, .int x3)] dX0_placementBefore_10 (by decide) rfl ?_
  refine v_aload_n C (pc := 12) 2 dX0_placementBefore_12 rfl rfl ?_
  refine v_iload_n C (pc := 13) 3 dX0_placementBefore_13 rfl rfl ?_
  refine v_iload C (pc := 14) 0 dX0_placementBefore_14 rfl ?_
  refine v_if_eq C (pc := 16) hm 25 dX0_placementBefore_16 rfl (fun hm => ?_) (fun hm => ?_)
  · refine v_iload_n C (pc := 25) 4 dX0_placementBefore_25 rfl rfl ?_
    refine v_iconst C (pc := 26) 1 dX0_placementBefore_26 rfl ?_
    refine v_ixor C (pc := 27) dX0_placementBefore_27 ?_
    exact v_sub [1, 2, 4, 0] rfl (vX0_placementBefore_28 C hr hQ (N := N) hi0 hm)
  · refine v_iload_n C (pc := 19) 4 dX0_placementBefore_19 rfl rfl ?_
    refine v_iconst C (pc := 20) 2 dX0_placementBefore_20 rfl ?_
    refine v_ixor C (pc := 21) dX0_placementBefore_21 ?_
    refine v_goto C (pc := 22) 28 dX0_placementBefore_22 rfl ?_
    exact v_sub [1, 2, 4, 0] rfl (vX0_placementBefore_28 C hr hQ (N := N) hi0 hm)
def fX0_placementBefore (N : Nat) (i0 : Nat) (p2 : Int32) (p3 : Int32) (S : St) : Option (Int32 × St) := if 4 ≤ p3 then (fX0_placementBefore_10 N i0 false p2 p3 S) else (fX0_placementBefore_10 N i0 true p2 p3 S)
set_option maxRecDepth 20000 in
theorem vX0_placementBefore {p : Program} {l : Launch} {e : Env} {s : State} {m : MethodId} {args : Array Value} {below : List Frame} {meth : Method} {c : Code} {Q : State → Prop} {D : va_G} {ad : Nat → Nat} {cA : Nat → ClassId} (C : Ok p s m args c D cA (xW ad cA) (xA ad) (xS ad) RX0 cX0_placementBefore 7) (hr : Rt meth (some .int)) {r : Int32 × St} (hQ : Q = MQ below (Qo D (xW ad cA) (xA ad) (some (.int r.1)) r.2) args s 0 0 (xA ad)) {N : Nat} {i0 : Nat} (hi0 : i0 < 5) {p2 : Int32} {p3 : Int32} {S : St} (hm : fX0_placementBefore N i0 p2 p3 S = some r) : V p l e rmX0_placementBefore s m args below meth c Q D (xW ad cA) (xA ad) 7 S 0 [(0, .ref (ad (4 + i0))), (1, .ref (ad 3)), (2, .int p2), (3, .int p3)] [] := by
  unfold fX0_placementBefore at hm
  refine v_iload_n C (pc := 0) 3 dX0_placementBefore_0 rfl rfl ?_
  refine v_iconst C (pc := 1) 4 dX0_placementBefore_1 rfl ?_
  refine v_icmp_ge C (pc := 2) hm 9 dX0_placementBefore_2 rfl (fun hm => ?_) (fun hm => ?_)
  · refine v_iconst C (pc := 9) 0 dX0_placementBefore_9 rfl ?_
    exact (vX0_placementBefore_10 C hr hQ (N := N) hi0 hm)
  · refine v_iconst C (pc := 5) 1 dX0_placementBefore_5 rfl ?_
    refine v_goto C (pc := 6) 10 dX0_placementBefore_6 rfl ?_
    exact (vX0_placementBefore_10 C hr hQ (N := N) hi0 hm)
theorem mX0_placementBefore {l : Launch} {D : va_G} {ad : Nat → Nat} {cA : Nat → ClassId} (hD : ∀ S, va_D (xA ad) (xW ad cA S)) {N : Nat} {i0 : Nat} (hi0 : i0 < 5) {p2 : Int32} {p3 : Int32} {S : St} {r : Int32 × St} (hm : fX0_placementBefore N i0 p2 p3 S = some r) : Met l yX0_placementBefore (wsm yX0_placementBefore cX0_placementBefore 7 (some .int)) rmX0_placementBefore (va_Pc [.ref (ad (4 + i0)), .ref (ad 3), .int p2, .int p3] (Pre D cA (xW ad cA) (xS ad) S)) (Qo D (xW ad cA) (xA ad) (some (.int r.1)) r.2) 0 0 (xA ad) := met_of [.ref (ad (4 + i0)), .ref (ad 3), .int p2, .int p3] (by decide) (Nat.le_of_ble_eq_true rfl) hD (xS_mv ad) (xS_kp ad) (fun p e s m below meth c C hr => vX0_placementBefore C hr rfl (N := N) hi0 hm)
