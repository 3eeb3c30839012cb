-- X9_in
def rmX9_in : Room := { frames := 0, cells := 0, slots := 0, locals := 0 }
def fX9_in_15 (N : Nat)  (s0 : Bool) (S : St) : Option (Bool × St) := some (s0, S)
set_option maxRecDepth 20000 in
theorem vX9_in_15 {p : Program} {l : Launch} {e : Env} {s : State} {m : MethodId} {args : Array Value} {below : List Frame} {meth : Method} {c : Code} {Q : State → Prop} {D : va_G} {ad : Nat → Nat} {cA : Nat → ClassId} (C : Ok p s m args c D cA (mW ad cA) (mA ad) mS RX9 cX9_in 3) (hr : Rt meth (some .boolean)) {r : Bool × St} (hQ : Q = MQ below (Qo D (mW ad cA) (mA ad) (some (.int (b2i r.1))) r.2) args s 0 0 (mA ad)) {N : Nat}  {s0 : Bool}  {S : St} (hm : fX9_in_15 N  s0 S = some r) : V p l e rmX9_in s m args below meth c Q D (mW ad cA) (mA ad) 3 S 15 [] [.int (b2i s0)] := by
  unfold fX9_in_15 at hm
  exact v_zret C hr hQ (x := s0) (pc := 15) hm dX9_in_15
def fX9_in_14 (N : Nat)   (S : St) : Option (Bool × St) := fX9_in_15 N false S
set_option maxRecDepth 20000 in
theorem vX9_in_14 {p : Program} {l : Launch} {e : Env} {s : State} {m : MethodId} {args : Array Value} {below : List Frame} {meth : Method} {c : Code} {Q : State → Prop} {D : va_G} {ad : Nat → Nat} {cA : Nat → ClassId} (C : Ok p s m args c D cA (mW ad cA) (mA ad) mS RX9 cX9_in 3) (hr : Rt meth (some .boolean)) {r : Bool × St} (hQ : Q = MQ below (Qo D (mW ad cA) (mA ad) (some (.int (b2i r.1))) r.2) args s 0 0 (mA ad)) {N : Nat}    {S : St} (hm : fX9_in_14 N   S = some r) : V p l e rmX9_in s m args below meth c Q D (mW ad cA) (mA ad) 3 S 14 [] [] := by
  unfold fX9_in_14 at hm
  refine v_iconst C (pc := 14) 0 dX9_in_14 rfl ?_
  exact (vX9_in_15 C hr hQ (N := N) hm)
def fX9_in (N : Nat) (p1 : Int32) (p2 : Int32) (p3 : Int32) (S : St) : Option (Bool × St) := if p1 < p2 then (fX9_in_14 N S) else (if p3 < p1 then (fX9_in_14 N S) else (fX9_in_15 N true S))
set_option maxRecDepth 20000 in
theorem vX9_in {p : Program} {l : Launch} {e : Env} {s : State} {m : MethodId} {args : Array Value} {below : List Frame} {meth : Method} {c : Code} {Q : State → Prop} {D : va_G} {ad : Nat → Nat} {cA : Nat → ClassId} (C : Ok p s m args c D cA (mW ad cA) (mA ad) mS RX9 cX9_in 3) (hr : Rt meth (some .boolean)) {r : Bool × St} (hQ : Q = MQ below (Qo D (mW ad cA) (mA ad) (some (.int (b2i r.1))) r.2) args s 0 0 (mA ad)) {N : Nat} {p1 : Int32} {p2 : Int32} {p3 : Int32} {S : St} (hm : fX9_in N p1 p2 p3 S = some r) : V p l e rmX9_in s m args below meth c Q D (mW ad cA) (mA ad) 3 S 0 [(0, .int p1), (1, .int p2), (2, .int p3)] [] := by
  unfold fX9_in at hm
  refine v_iload_n C (pc := 0) 0 dX9_in_0 rfl rfl ?_
  refine v_iload_n C (pc := 1) 1 dX9_in_1 rfl rfl ?_
  refine v_icmp_lt C (pc := 2) hm 14 dX9_in_2 rfl (fun hm => ?_) (fun hm => ?_)
  · exact v_sub [] rfl (vX9_in_14 C hr hQ (N := N) hm)
  · refine v_iload_n C (pc := 5) 0 dX9_in_5 rfl rfl ?_
    refine v_iload_n C (pc := 6) 2 dX9_in_6 rfl rfl ?_
    refine v_icmp_gt C (pc := 7) hm 14 dX9_in_7 rfl (fun hm => ?_) (fun hm => ?_)
    · exact v_sub [] rfl (vX9_in_14 C hr hQ (N := N) hm)
    · refine v_iconst C (pc := 10) 1 dX9_in_10 rfl ?_
      refine v_goto C (pc := 11) 15 dX9_in_11 rfl ?_
      exact v_sub [] rfl (vX9_in_15 C hr hQ (N := N) hm)
theorem mX9_in {l : Launch} {D : va_G} {ad : Nat → Nat} {cA : Nat → ClassId} (hD : ∀ S, va_D (mA ad) (mW ad cA S)) {N : Nat} {p1 : Int32} {p2 : Int32} {p3 : Int32} {S : St} {r : Bool × St} (hm : fX9_in N p1 p2 p3 S = some r) : Met l yX9_in (wsm yX9_in cX9_in 3 (some .boolean)) rmX9_in (va_Pc [.int p1, .int p2, .int p3] (Pre D cA (mW ad cA) mS S)) (Qo D (mW ad cA) (mA ad) (some (.int (b2i r.1))) r.2) 0 0 (mA ad) := met_of [.int p1, .int p2, .int p3] (by decide) (Nat.le_of_ble_eq_true rfl) hD (fun _ _ _ _ h => h) (fun _ _ _ _ h => h) (fun p e s m below meth c C hr => vX9_in C hr rfl (N := N)  hm)
-- X9_noBlock
theorem infX9_in : InfS yX9_in cX9_in 3 (some .boolean) 3 := ⟨⟨gm (i := 65) (by decide +kernel) rfl, gm (i := 979) (by decide +kernel) rfl, by decide +kernel⟩, gm (i := 978) (by decide +kernel) rfl⟩
theorem kX9_119 {p : Program} {l : Launch} {e : Env} {R : Room} {s : State} {m : MethodId} {args : Array Value} {below : List Frame} {meth : Method} {c : Code} {Q : State → Prop} {D : va_G} {ad : Nat → Nat} {cA : Nat → ClassId} {cc : ByteArray} {nL : Nat} {S : St} {pc : Nat} {lv : List (Nat × Value)} {st : List Value} {ρ : Type} {res : ρ} (C : Ok p s m args c D cA (mW ad cA) (mA ad) mS RX9 cc nL) (hfr : rmX9_in.frames + 1 ≤ R.frames) (hlo : 8 + (3 + 11) + rmX9_in.locals ≤ R.locals) {N : Nat} {p1 : Int32} {p2 : Int32} {p3 : Int32} {E : Bool → St → Option ρ} (hm : bd (fX9_in N p1 p2 p3 S) E = some res) (hcat : (st.map fun v => v.category).sum ≤ 8) (hd : decode cc pc = .ok (.invokestatic 119, 3)) (k : ∀ r S, E r S = some res → V p l e R s m args below meth c Q D (mW ad cA) (mA ad) nL S (pc + 3) lv (.int (b2i r) :: st)) : V p l e R s m args below meth c Q D (mW ad cA) (mA ad) nL S pc lv (.int p3 :: .int p2 :: .int p1 :: st) := by
  obtain ⟨r, S1, h1, h2⟩ := bd_some hm
  exact v_callS C (gm (i := 977) (by decide +kernel) rfl : Cond.methodLink RX9 119 yX9_in ∈ gw_tbl) infX9_in (rm2 := rmX9_in) ⟨rfl, rfl⟩ hfr hlo (mX9_in C.2.2.2.2.2.2.1 h1) (As := [.int p1, .int p2, .int p3]) rfl rfl hcat hd (k r S1 h2)
def rmX9_noBlock : Room := { frames := 1, cells := 0, slots := 0, locals := 22 }
def fX9_noBlock_23 (N : Nat)  (s0 : Bool) (S : St) : Option (Bool × St) := some (s0, S)
set_option maxRecDepth 20000 in
theorem vX9_noBlock_23 {p : Program} {l : Launch} {e : Env} {s : State} {m : MethodId} {args : Array Value} {below : List Frame} {meth : Method} {c : Code} {Q : State → Prop} {D : va_G} {ad : Nat → Nat} {cA : Nat → ClassId} (C : Ok p s m args c D cA (mW ad cA) (mA ad) mS RX9 cX9_noBlock 2) (hr : Rt meth (some .boolean)) {r : Bool × St} (hQ : Q = MQ below (Qo D (mW ad cA) (mA ad) (some (.int (b2i r.1))) r.2) args s 0 0 (mA ad)) {N : Nat}  {s0 : Bool}  {S : St} (hm : fX9_noBlock_23 N  s0 S = some r) : V p l e rmX9_noBlock s m args below meth c Q D (mW ad cA) (mA ad) 2 S 23 [] [.int (b2i s0)] := by
  unfold fX9_noBlock_23 at hm
  exact v_zret C hr hQ (x := s0) (pc := 23) hm dX9_noBlock_23
def fX9_noBlock_18 (N : Nat)   (S : St) : Option (Bool × St) := fX9_noBlock_23 N true S
set_option maxRecDepth 20000 in
theorem vX9_noBlock_18 {p : Program} {l : Launch} {e : Env} {s : State} {m : MethodId} {args : Array Value} {below : List Frame} {meth : Method} {c : Code} {Q : State → Prop} {D : va_G} {ad : Nat → Nat} {cA : Nat → ClassId} (C : Ok p s m args c D cA (mW ad cA) (mA ad) mS RX9 cX9_noBlock 2) (hr : Rt meth (some .boolean)) {r : Bool × St} (hQ : Q = MQ below (Qo D (mW ad cA) (mA ad) (some (.int (b2i r.1))) r.2) args s 0 0 (mA ad)) {N : Nat}    {S : St} (hm : fX9_noBlock_18 N   S = some r) : V p l e rmX9_noBlock s m args below meth c Q D (mW ad cA) (mA ad) 2 S 18 [] [] := by
  unfold fX9_noBlock_18 at hm
  refine v_iconst C (pc := 18) 1 dX9_noBlock_18 rfl ?_
  refine v_goto C (pc := 19) 23 dX9_noBlock_19 rfl ?_
  exact (vX9_noBlock_23 C hr hQ (N := N) hm)
def fX9_noBlock (N : Nat) (p1 : Int32) (S : St) : Option (Bool × St) := bd (fX9_in N p1 0 4 S) fun r2 S2 => if (b2i r2) = 0 then (fX9_noBlock_18 N S2) else (ck p1 5 (if (S2.2.2.1 2 (Int32.toNatClampNeg p1)) = 0 then (fX9_noBlock_18 N S2) else (fX9_noBlock_23 N false S2)))
set_option maxRecDepth 20000 in
theorem vX9_noBlock {p : Program} {l : Launch} {e : Env} {s : State} {m : MethodId} {args : Array Value} {below : List Frame} {meth : Method} {c : Code} {Q : State → Prop} {D : va_G} {ad : Nat → Nat} {cA : Nat → ClassId} (C : Ok p s m args c D cA (mW ad cA) (mA ad) mS RX9 cX9_noBlock 2) (hr : Rt meth (some .boolean)) {r : Bool × St} (hQ : Q = MQ below (Qo D (mW ad cA) (mA ad) (some (.int (b2i r.1))) r.2) args s 0 0 (mA ad)) {N : Nat} {p1 : Int32} {S : St} (hm : fX9_noBlock N p1 S = some r) : V p l e rmX9_noBlock s m args below meth c Q D (mW ad cA) (mA ad) 2 S 0 [(0, .ref (ad 0)), (1, .int p1)] [] := by
  unfold fX9_noBlock at hm
  refine v_iload_n C (pc := 0) 1 dX9_noBlock_0 rfl rfl ?_
  refine v_iconst C (pc := 1) 0 dX9_noBlock_1 rfl ?_
  refine v_iconst C (pc := 2) 4 dX9_noBlock_2 rfl ?_
  refine kX9_119 C (Nat.le_of_ble_eq_true rfl) (Nat.le_of_ble_eq_true rfl) (pc := 3) hm (Nat.le_of_ble_eq_true rfl) dX9_noBlock_3 (fun r2 S2 hm => ?_)
  refine v_if_eq C (pc := 6) hm 18 dX9_noBlock_6 rfl (fun hm => ?_) (fun hm => ?_)
  · exact v_sub [] rfl (vX9_noBlock_18 C hr hQ (N := N) hm)
  · refine v_aload_n C (pc := 9) 0 dX9_noBlock_9 rfl rfl ?_
    refine gX9_16 C (pc := 10) dX9_noBlock_10 ?_
    refine v_iload_n C (pc := 13) 1 dX9_noBlock_13 rfl rfl ?_
    refine ldX9_cells C (pc := 14) hm dX9_noBlock_14 (fun hm => ?_)
    refine v_if_ne C (pc := 15) hm 22 dX9_noBlock_15 rfl (fun hm => ?_) (fun hm => ?_)
    · refine v_iconst C (pc := 22) 0 dX9_noBlock_22 rfl ?_
      exact v_sub [] rfl (vX9_noBlock_23 C hr hQ (N := N) hm)
    · exact v_sub [] rfl (vX9_noBlock_18 C hr hQ (N := N) hm)
theorem mX9_noBlock {l : Launch} {D : va_G} {ad : Nat → Nat} {cA : Nat → ClassId} (hD : ∀ S, va_D (mA ad) (mW ad cA S)) {N : Nat} {p1 : Int32} {S : St} {r : Bool × St} (hm : fX9_noBlock N p1 S = some r) : Met l yX9_noBlock (wsm yX9_noBlock cX9_noBlock 2 (some .boolean)) rmX9_noBlock (va_Pc [.ref (ad 0), .int p1] (Pre D cA (mW ad cA) mS S)) (Qo D (mW ad cA) (mA ad) (some (.int (b2i r.1))) r.2) 0 0 (mA ad) := met_of [.ref (ad 0), .int p1] (by decide) (Nat.le_of_ble_eq_true rfl) hD (fun _ _ _ _ h => h) (fun _ _ _ _ h => h) (fun p e s m below meth c C hr => vX9_noBlock C hr rfl (N := N)  hm)
-- X9_isInYard
def rmX9_isInYard : Room := { frames := 1, cells := 0, slots := 0, locals := 22 }
def fX9_isInYard_33 (N : Nat)  (s0 : Bool) (S : St) : Option (Bool × St) := some (s0, S)
set_option maxRecDepth 20000 in
theorem vX9_isInYard_33 {p : Program} {l : Launch} {e : Env} {s : State} {m : MethodId} {args : Array Value} {below : List Frame} {meth : Method} {c : Code} {Q : State → Prop} {D : va_G} {ad : Nat → Nat} {cA : Nat → ClassId} (C : Ok p s m args c D cA (mW ad cA) (mA ad) mS RX9 cX9_isInYard 3) (hr : Rt meth (some .boolean)) {r : Bool × St} (hQ : Q = MQ below (Qo D (mW ad cA) (mA ad) (some (.int (b2i r.1))) r.2) args s 0 0 (mA ad)) {N : Nat}  {s0 : Bool}  {S : St} (hm : fX9_isInYard_33 N  s0 S = some r) : V p l e rmX9_isInYard s m args below meth c Q D (mW ad cA) (mA ad) 3 S 33 [] [.int (b2i s0)] := by
  unfold fX9_isInYard_33 at hm
  exact v_zret C hr hQ (x := s0) (pc := 33) hm dX9_isInYard_33
def fX9_isInYard_32 (N : Nat)   (S : St) : Option (Bool × St) := fX9_isInYard_33 N false S
set_option maxRecDepth 20000 in
theorem vX9_isInYard_32 {p : Program} {l : Launch} {e : Env} {s : State} {m : MethodId} {args : Array Value} {below : List Frame} {meth : Method} {c : Code} {Q : State → Prop} {D : va_G} {ad : Nat → Nat} {cA : Nat → ClassId} (C : Ok p s m args c D cA (mW ad cA) (mA ad) mS RX9 cX9_isInYard 3) (hr : Rt meth (some .boolean)) {r : Bool × St} (hQ : Q = MQ below (Qo D (mW ad cA) (mA ad) (some (.int (b2i r.1))) r.2) args s 0 0 (mA ad)) {N : Nat}    {S : St} (hm : fX9_isInYard_32 N   S = some r) : V p l e rmX9_isInYard s m args below meth c Q D (mW ad cA) (mA ad) 3 S 32 [] [] := by
  unfold fX9_isInYard_32 at hm
  refine v_iconst C (pc := 32) 0 dX9_isInYard_32 rfl ?_
  exact (vX9_isInYard_33 C hr hQ (N := N) hm)
def fX9_isInYard (N : Nat) (p1 : Int32) (p2 : Int32) (S : St) : Option (Bool × St) := bd (fX9_in N p1 0 ((S.1 0) - 1) S) fun r3 S3 => if (b2i r3) = 0 then (fX9_isInYard_32 N S3) else (bd (fX9_in N p2 0 ((S3.1 1) - 1) S3) fun r4 S4 => if (b2i r4) = 0 then (fX9_isInYard_32 N S4) else (fX9_isInYard_33 N true S4))
set_option maxRecDepth 20000 in
theorem vX9_isInYard {p : Program} {l : Launch} {e : Env} {s : State} {m : MethodId} {args : Array Value} {below : List Frame} {meth : Method} {c : Code} {Q : State → Prop} {D : va_G} {ad : Nat → Nat} {cA : Nat → ClassId} (C : Ok p s m args c D cA (mW ad cA) (mA ad) mS RX9 cX9_isInYard 3) (hr : Rt meth (some .boolean)) {r : Bool × St} (hQ : Q = MQ below (Qo D (mW ad cA) (mA ad) (some (.int (b2i r.1))) r.2) args s 0 0 (mA ad)) {N : Nat} {p1 : Int32} {p2 : Int32} {S : St} (hm : fX9_isInYard N p1 p2 S = some r) : V p l e rmX9_isInYard s m args below meth c Q D (mW ad cA) (mA ad) 3 S 0 [(0, .ref (ad 0)), (1, .int p1), (2, .int p2)] [] := by
  unfold fX9_isInYard at hm
  refine v_iload_n C (pc := 0) 1 dX9_isInYard_0 rfl rfl ?_
  refine v_iconst C (pc := 1) 0 dX9_isInYard_1 rfl ?_
  refine v_aload_n C (pc := 2) 0 dX9_isInYard_2 rfl rfl ?_
  refine gX9_109 C (pc := 3) dX9_isInYard_3 ?_
  refine v_iconst C (pc := 6) 1 dX9_isInYard_6 rfl ?_
  refine v_isub C (pc := 7) dX9_isInYard_7 ?_
  refine kX9_119 C (Nat.le_of_ble_eq_true rfl) (Nat.le_of_ble_eq_true rfl) (pc := 8) hm (Nat.le_of_ble_eq_true rfl) dX9_isInYard_8 (fun r3 S3 hm => ?_)
  refine v_if_eq C (pc := 11) hm 32 dX9_isInYard_11 rfl (fun hm => ?_) (fun hm => ?_)
  · exact v_sub [] rfl (vX9_isInYard_32 C hr hQ (N := N) hm)
  · refine v_iload_n C (pc := 14) 2 dX9_isInYard_14 rfl rfl ?_
    refine v_iconst C (pc := 15) 0 dX9_isInYard_15 rfl ?_
    refine v_aload_n C (pc := 16) 0 dX9_isInYard_16 rfl rfl ?_
    refine gX9_113 C (pc := 17) dX9_isInYard_17 ?_
    refine v_iconst C (pc := 20) 1 dX9_isInYard_20 rfl ?_
    refine v_isub C (pc := 21) dX9_isInYard_21 ?_
    refine kX9_119 C (Nat.le_of_ble_eq_true rfl) (Nat.le_of_ble_eq_true rfl) (pc := 22) hm (Nat.le_of_ble_eq_true rfl) dX9_isInYard_22 (fun r4 S4 hm => ?_)
    refine v_if_eq C (pc := 25) hm 32 dX9_isInYard_25 rfl (fun hm => ?_) (fun hm => ?_)
    · exact v_sub [] rfl (vX9_isInYard_32 C hr hQ (N := N) hm)
    · refine v_iconst C (pc := 28) 1 dX9_isInYard_28 rfl ?_
      refine v_goto C (pc := 29) 33 dX9_isInYard_29 rfl ?_
      exact v_sub [] rfl (vX9_isInYard_33 C hr hQ (N := N) hm)
theorem mX9_isInYard {l : Launch} {D : va_G} {ad : Nat → Nat} {cA : Nat → ClassId} (hD : ∀ S, va_D (mA ad) (mW ad cA S)) {N : Nat} {p1 : Int32} {p2 : Int32} {S : St} {r : Bool × St} (hm : fX9_isInYard N p1 p2 S = some r) : Met l yX9_isInYard (wsm yX9_isInYard cX9_isInYard 3 (some .boolean)) rmX9_isInYard (va_Pc [.ref (ad 0), .int p1, .int p2] (Pre D cA (mW ad cA) mS S)) (Qo D (mW ad cA) (mA ad) (some (.int (b2i r.1))) r.2) 0 0 (mA ad) := met_of [.ref (ad 0), .int p1, .int p2] (by decide) (Nat.le_of_ble_eq_true rfl) hD (fun _ _ _ _ h => h) (fun _ _ _ _ h => h) (fun p e s m below meth c C hr => vX9_isInYard C hr rfl (N := N)  hm)
-- X9_kindAt
def rmX9_kindAt : Room := { frames := 0, cells := 0, slots := 0, locals := 0 }
def fX9_kindAt (N : Nat) (p1 : Int32) (p2 : Int32) (S : St) : Option (Int32 × St) := ck ((8 * p2) + p1) 64 (some ((S.2.2.1 1 (Int32.toNatClampNeg ((8 * p2) + p1))), S))
set_option maxRecDepth 20000 in
theorem vX9_kindAt {p : Program} {l : Launch} {e : Env} {s : State} {m : MethodId} {args : Array Value} {below : List Frame} {meth : Method} {c : Code} {Q : State → Prop} {D : va_G} {ad : Nat → Nat} {cA : Nat → ClassId} (C : Ok p s m args c D cA (mW ad cA) (mA ad) mS RX9 cX9_kindAt 3) (hr : Rt meth (some .int)) {r : Int32 × St} (hQ : Q = MQ below (Qo D (mW ad cA) (mA ad) (some (.int r.1)) r.2) args s 0 0 (mA ad)) {N : Nat} {p1 : Int32} {p2 : Int32} {S : St} (hm : fX9_kindAt N p1 p2 S = some r) : V p l e rmX9_kindAt s m args below meth c Q D (mW ad cA) (mA ad) 3 S 0 [(0, .ref (ad 0)), (1, .int p1), (2, .int p2)] [] := by
  unfold fX9_kindAt at hm
  refine v_aload_n C (pc := 0) 0 dX9_kindAt_0 rfl rfl ?_
  refine gX9_13 C (pc := 1) dX9_kindAt_1 ?_
  refine v_bipush C (pc := 4) 8 dX9_kindAt_4 rfl ?_
  refine v_iload_n C (pc := 6) 2 dX9_kindAt_6 rfl rfl ?_
  refine v_imul C (pc := 7) dX9_kindAt_7 ?_
  refine v_iload_n C (pc := 8) 1 dX9_kindAt_8 rfl rfl ?_
  refine v_iadd C (pc := 9) dX9_kindAt_9 ?_
  refine ldX9_kindOf C (pc := 10) hm dX9_kindAt_10 (fun hm => ?_)
  exact v_iret C hr hQ (pc := 11) hm dX9_kindAt_11
theorem mX9_kindAt {l : Launch} {D : va_G} {ad : Nat → Nat} {cA : Nat → ClassId} (hD : ∀ S, va_D (mA ad) (mW ad cA S)) {N : Nat} {p1 : Int32} {p2 : Int32} {S : St} {r : Int32 × St} (hm : fX9_kindAt N p1 p2 S = some r) : Met l yX9_kindAt (wsm yX9_kindAt cX9_kindAt 3 (some .int)) rmX9_kindAt (va_Pc [.ref (ad 0), .int p1, .int p2] (Pre D cA (mW ad cA) mS S)) (Qo D (mW ad cA) (mA ad) (some (.int r.1)) r.2) 0 0 (mA ad) := met_of [.ref (ad 0), .int p1, .int p2] (by decide) (Nat.le_of_ble_eq_true rfl) hD (fun _ _ _ _ h => h) (fun _ _ _ _ h => h) (fun p e s m below meth c C hr => vX9_kindAt C hr rfl (N := N)  hm)
-- X9_turnedX
def rmX9_turnedX : Room := { frames := 0, cells := 0, slots := 0, locals := 0 }
def fX9_turnedX_29 (N : Nat)  (s0 : Int32) (S : St) : Option (Int32 × St) := some (s0, S)
set_option maxRecDepth 20000 in
theorem vX9_turnedX_29 {p : Program} {l : Launch} {e : Env} {s : State} {m : MethodId} {args : Array Value} {below : List Frame} {meth : Method} {c : Code} {Q : State → Prop} {D : va_G} {ad : Nat → Nat} {cA : Nat → ClassId} (C : Ok p s m args c D cA (mW ad cA) (mA ad) mS RX9 cX9_turnedX 3) (hr : Rt meth (some .int)) {r : Int32 × St} (hQ : Q = MQ below (Qo D (mW ad cA) (mA ad) (some (.int r.1)) r.2) args s 0 0 (mA ad)) {N : Nat}  {s0 : Int32}  {S : St} (hm : fX9_turnedX_29 N  s0 S = some r) : V p l e rmX9_turnedX s m args below meth c Q D (mW ad cA) (mA ad) 3 S 29 [] [.int s0] := by
  unfold fX9_turnedX_29 at hm
  exact v_iret C hr hQ (pc := 29) hm dX9_turnedX_29
def fX9_turnedX (N : Nat) (p1 : Int32) (p2 : Int32) (p3 : Int32) (S : St) : Option (Int32 × St) := if p3 = 0 then (fX9_turnedX_29 N p1 S) else (if p3 = 1 then (fX9_turnedX_29 N (-p2) S) else (if p3 = 2 then (fX9_turnedX_29 N (-p1) S) else (fX9_turnedX_29 N p2 S)))
set_option maxRecDepth 20000 in
theorem vX9_turnedX {p : Program} {l : Launch} {e : Env} {s : State} {m : MethodId} {args : Array Value} {below : List Frame} {meth : Method} {c : Code} {Q : State → Prop} {D : va_G} {ad : Nat → Nat} {cA : Nat → ClassId} (C : Ok p s m args c D cA (mW ad cA) (mA ad) mS RX9 cX9_turnedX 3) (hr : Rt meth (some .int)) {r : Int32 × St} (hQ : Q = MQ below (Qo D (mW ad cA) (mA ad) (some (.int r.1)) r.2) args s 0 0 (mA ad)) {N : Nat} {p1 : Int32} {p2 : Int32} {p3 : Int32} {S : St} (hm : fX9_turnedX N p1 p2 p3 S = some r) : V p l e rmX9_turnedX s m args below meth c Q D (mW ad cA) (mA ad) 3 S 0 [(0, .int p1), (1, .int p2), (2, .int p3)] [] := by
  unfold fX9_turnedX at hm
  refine v_iload_n C (pc := 0) 2 dX9_turnedX_0 rfl rfl ?_
  refine v_if_ne C (pc := 1) hm 8 dX9_turnedX_1 rfl (fun hm => ?_) (fun hm => ?_)
  · refine v_iload_n C (pc := 8) 2 dX9_turnedX_8 rfl rfl ?_
    refine v_iconst C (pc := 9) 1 dX9_turnedX_9 rfl ?_
    refine v_icmp_ne C (pc := 10) hm 18 dX9_turnedX_10 rfl (fun hm => ?_) (fun hm => ?_)
    · refine v_iload_n C (pc := 18) 2 dX9_turnedX_18 rfl rfl ?_
      refine v_iconst C (pc := 19) 2 dX9_turnedX_19 rfl ?_
      refine v_icmp_ne C (pc := 20) hm 28 dX9_turnedX_20 rfl (fun hm => ?_) (fun hm => ?_)
      · refine v_iload_n C (pc := 28) 1 dX9_turnedX_28 rfl rfl ?_
        exact v_sub [] rfl (vX9_turnedX_29 C hr hQ (N := N) hm)
      · refine v_iload_n C (pc := 23) 0 dX9_turnedX_23 rfl rfl ?_
        refine v_ineg C (pc := 24) dX9_turnedX_24 ?_
        refine v_goto C (pc := 25) 29 dX9_turnedX_25 rfl ?_
        exact v_sub [] rfl (vX9_turnedX_29 C hr hQ (N := N) hm)
    · refine v_iload_n C (pc := 13) 1 dX9_turnedX_13 rfl rfl ?_
      refine v_ineg C (pc := 14) dX9_turnedX_14 ?_
      refine v_goto C (pc := 15) 29 dX9_turnedX_15 rfl ?_
      exact v_sub [] rfl (vX9_turnedX_29 C hr hQ (N := N) hm)
  · refine v_iload_n C (pc := 4) 0 dX9_turnedX_4 rfl rfl ?_
    refine v_goto C (pc := 5) 29 dX9_turnedX_5 rfl ?_
    exact v_sub [] rfl (vX9_turnedX_29 C hr hQ (N := N) hm)
theorem mX9_turnedX {l : Launch} {D : va_G} {ad : Nat → Nat} {cA : Nat → ClassId} (hD : ∀ S, va_D (mA ad) (mW ad cA S)) {N : Nat} {p1 : Int32} {p2 : Int32} {p3 : Int32} {S : St} {r : Int32 × St} (hm : fX9_turnedX N p1 p2 p3 S = some r) : Met l yX9_turnedX (wsm yX9_turnedX cX9_turnedX 3 (some .int)) rmX9_turnedX (va_Pc [.int p1, .int p2, .int p3] (Pre D cA (mW ad cA) mS S)) (Qo D (mW ad cA) (mA ad) (some (.int r.1)) r.2) 0 0 (mA ad) := met_of [.int p1, .int p2, .int p3] (by decide) (Nat.le_of_ble_eq_true rfl) hD (fun _ _ _ _ h => h) (fun _ _ _ _ h => h) (fun p e s m below meth c C hr => vX9_turnedX C hr rfl (N := N)  hm)
-- X9_turnedY
def rmX9_turnedY : Room := { frames := 0, cells := 0, slots := 0, locals := 0 }
def fX9_turnedY_29 (N : Nat)  (s0 : Int32) (S : St) : Option (Int32 × St) := some (s0, S)
set_option maxRecDepth 20000 in
theorem vX9_turnedY_29 {p : Program} {l : Launch} {e : Env} {s : State} {m : MethodId} {args : Array Value} {below : List Frame} {meth : Method} {c : Code} {Q : State → Prop} {D : va_G} {ad : Nat → Nat} {cA : Nat → ClassId} (C : Ok p s m args c D cA (mW ad cA) (mA ad) mS RX9 cX9_turnedY 3) (hr : Rt meth (some .int)) {r : Int32 × St} (hQ : Q = MQ below (Qo D (mW ad cA) (mA ad) (some (.int r.1)) r.2) args s 0 0 (mA ad)) {N : Nat}  {s0 : Int32}  {S : St} (hm : fX9_turnedY_29 N  s0 S = some r) : V p l e rmX9_turnedY s m args below meth c Q D (mW ad cA) (mA ad) 3 S 29 [] [.int s0] := by
  unfold fX9_turnedY_29 at hm
  exact v_iret C hr hQ (pc := 29) hm dX9_turnedY_29
def fX9_turnedY (N : Nat) (p1 : Int32) (p2 : Int32) (p3 : Int32) (S : St) : Option (Int32 × St) := if p3 = 0 then (fX9_turnedY_29 N p2 S) else (if p3 = 1 then (fX9_turnedY_29 N p1 S) else (if p3 = 2 then (fX9_turnedY_29 N (-p2) S) else (fX9_turnedY_29 N (-p1) S)))
set_option maxRecDepth 20000 in
theorem vX9_turnedY {p : Program} {l : Launch} {e : Env} {s : State} {m : MethodId} {args : Array Value} {below : List Frame} {meth : Method} {c : Code} {Q : State → Prop} {D : va_G} {ad : Nat → Nat} {cA : Nat → ClassId} (C : Ok p s m args c D cA (mW ad cA) (mA ad) mS RX9 cX9_turnedY 3) (hr : Rt meth (some .int)) {r : Int32 × St} (hQ : Q = MQ below (Qo D (mW ad cA) (mA ad) (some (.int r.1)) r.2) args s 0 0 (mA ad)) {N : Nat} {p1 : Int32} {p2 : Int32} {p3 : Int32} {S : St} (hm : fX9_turnedY N p1 p2 p3 S = some r) : V p l e rmX9_turnedY s m args below meth c Q D (mW ad cA) (mA ad) 3 S 0 [(0, .int p1), (1, .int p2), (2, .int p3)] [] := by
  unfold fX9_turnedY at hm
  refine v_iload_n C (pc := 0) 2 dX9_turnedY_0 rfl rfl ?_
  refine v_if_ne C (pc := 1) hm 8 dX9_turnedY_1 rfl (fun hm => ?_) (fun hm => ?_)
  · refine v_iload_n C (pc := 8) 2 dX9_turnedY_8 rfl rfl ?_
    refine v_iconst C (pc := 9) 1 dX9_turnedY_9 rfl ?_
    refine v_icmp_ne C (pc := 10) hm 17 dX9_turnedY_10 rfl (fun hm => ?_) (fun hm => ?_)
    · refine v_iload_n C (pc := 17) 2 dX9_turnedY_17 rfl rfl ?_
      refine v_iconst C (pc := 18) 2 dX9_turnedY_18 rfl ?_
      refine v_icmp_ne C (pc := 19) hm 27 dX9_turnedY_19 rfl (fun hm => ?_) (fun hm => ?_)
      · refine v_iload_n C (pc := 27) 0 dX9_turnedY_27 rfl rfl ?_
        refine v_ineg C (pc := 28) dX9_turnedY_28 ?_
        exact v_sub [] rfl (vX9_turnedY_29 C hr hQ (N := N) hm)
      · refine v_iload_n C (pc := 22) 1 dX9_turnedY_22 rfl rfl ?_
        refine v_ineg C (pc := 23) dX9_turnedY_23 ?_
        refine v_goto C (pc := 24) 29 dX9_turnedY_24 rfl ?_
        exact v_sub [] rfl (vX9_turnedY_29 C hr hQ (N := N) hm)
    · refine v_iload_n C (pc := 13) 0 dX9_turnedY_13 rfl rfl ?_
      refine v_goto C (pc := 14) 29 dX9_turnedY_14 rfl ?_
      exact v_sub [] rfl (vX9_turnedY_29 C hr hQ (N := N) hm)
  · refine v_iload_n C (pc := 4) 1 dX9_turnedY_4 rfl rfl ?_
    refine v_goto C (pc := 5) 29 dX9_turnedY_5 rfl ?_
    exact v_sub [] rfl (vX9_turnedY_29 C hr hQ (N := N) hm)
theorem mX9_turnedY {l : Launch} {D : va_G} {ad : Nat → Nat} {cA : Nat → ClassId} (hD : ∀ S, va_D (mA ad) (mW ad cA S)) {N : Nat} {p1 : Int32} {p2 : Int32} {p3 : Int32} {S : St} {r : Int32 × St} (hm : fX9_turnedY N p1 p2 p3 S = some r) : Met l yX9_turnedY (wsm yX9_turnedY cX9_turnedY 3 (some .int)) rmX9_turnedY (va_Pc [.int p1, .int p2, .int p3] (Pre D cA (mW ad cA) mS S)) (Qo D (mW ad cA) (mA ad) (some (.int r.1)) r.2) 0 0 (mA ad) := met_of [.int p1, .int p2, .int p3] (by decide) (Nat.le_of_ble_eq_true rfl) hD (fun _ _ _ _ h => h) (fun _ _ _ _ h => h) (fun p e s m below meth c C hr => vX9_turnedY C hr rfl (N := N)  hm)
-- X9_cellX
theorem infX9_turnedX : InfS yX9_turnedX cX9_turnedX 3 (some .int) 3 := ⟨⟨gm (i := 65) (by decide +kernel) rfl, gm (i := 1001) (by decide +kernel) rfl, by decide +kernel⟩, gm (i := 1000) (by decide +kernel) rfl⟩
theorem kX9_123 {p : Program} {l : Launch} {e : Env} {R : Room} {s : State} {m : MethodId} {args : Array Value} {below : List Frame} {meth : Method} {c : Code} {Q : State → Prop} {D : va_G} {ad : Nat → Nat} {cA : Nat → ClassId} {cc : ByteArray} {nL : Nat} {S : St} {pc : Nat} {lv : List (Nat × Value)} {st : List Value} {ρ : Type} {res : ρ} (C : Ok p s m args c D cA (mW ad cA) (mA ad) mS RX9 cc nL) (hfr : rmX9_turnedX.frames + 1 ≤ R.frames) (hlo : 8 + (3 + 11) + rmX9_turnedX.locals ≤ R.locals) {N : Nat} {p1 : Int32} {p2 : Int32} {p3 : Int32} {E : Int32 → St → Option ρ} (hm : bd (fX9_turnedX N p1 p2 p3 S) E = some res) (hcat : (st.map fun v => v.category).sum ≤ 8) (hd : decode cc pc = .ok (.invokestatic 123, 3)) (k : ∀ r S, E r S = some res → V p l e R s m args below meth c Q D (mW ad cA) (mA ad) nL S (pc + 3) lv (.int r :: st)) : V p l e R s m args below meth c Q D (mW ad cA) (mA ad) nL S pc lv (.int p3 :: .int p2 :: .int p1 :: st) := by
  obtain ⟨r, S1, h1, h2⟩ := bd_some hm
  exact v_callS C (gm (i := 999) (by decide +kernel) rfl : Cond.methodLink RX9 123 yX9_turnedX ∈ gw_tbl) infX9_turnedX (rm2 := rmX9_turnedX) ⟨rfl, rfl⟩ hfr hlo (mX9_turnedX C.2.2.2.2.2.2.1 h1) (As := [.int p1, .int p2, .int p3]) rfl rfl hcat hd (k r S1 h2)
def rmX9_cellX : Room := { frames := 1, cells := 0, slots := 0, locals := 22 }
def fX9_cellX (N : Nat) (p1 : Int32) (p2 : Int32) (p3 : Int32) (S : St) : Option (Int32 × St) := ck ((5 * p1) + p2) 25 (ck ((5 * p1) + p2) 25 (bd (fX9_turnedX N (S.2.2.1 3 (Int32.toNatClampNeg ((5 * p1) + p2))) (S.2.2.1 4 (Int32.toNatClampNeg ((5 * p1) + p2))) (p3 / 64) S) fun r2 S2 => some (((p3 - p3 / 8 * 8) + r2), S2)))
set_option maxRecDepth 20000 in
theorem vX9_cellX {p : Program} {l : Launch} {e : Env} {s : State} {m : MethodId} {args : Array Value} {below : List Frame} {meth : Method} {c : Code} {Q : State → Prop} {D : va_G} {ad : Nat → Nat} {cA : Nat → ClassId} (C : Ok p s m args c D cA (mW ad cA) (mA ad) mS RX9 cX9_cellX 4) (hr : Rt meth (some .int)) {r : Int32 × St} (hQ : Q = MQ below (Qo D (mW ad cA) (mA ad) (some (.int r.1)) r.2) args s 0 0 (mA ad)) {N : Nat} {p1 : Int32} {p2 : Int32} {p3 : Int32} {S : St} (hm : fX9_cellX N p1 p2 p3 S = some r) : V p l e rmX9_cellX s m args below meth c Q D (mW ad cA) (mA ad) 4 S 0 [(0, .ref (ad 0)), (1, .int p1), (2, .int p2), (3, .int p3)] [] := by
  unfold fX9_cellX at hm
  refine v_iload_n C (pc := 0) 3 dX9_cellX_0 rfl rfl ?_
  refine v_bipush C (pc := 1) 8 dX9_cellX_1 rfl ?_
  refine v_irem C (pc := 3) dX9_cellX_3 (by decide) ?_
  refine v_aload_n C (pc := 4) 0 dX9_cellX_4 rfl rfl ?_
  refine gX9_19 C (pc := 5) dX9_cellX_5 ?_
  refine v_iconst C (pc := 8) 5 dX9_cellX_8 rfl ?_
  refine v_iload_n C (pc := 9) 1 dX9_cellX_9 rfl rfl ?_
  refine v_imul C (pc := 10) dX9_cellX_10 ?_
  refine v_iload_n C (pc := 11) 2 dX9_cellX_11 rfl rfl ?_
  refine v_iadd C (pc := 12) dX9_cellX_12 ?_
  refine ldX9_offX C (pc := 13) hm dX9_cellX_13 (fun hm => ?_)
  refine v_aload_n C (pc := 14) 0 dX9_cellX_14 rfl rfl ?_
  refine gX9_22 C (pc := 15) dX9_cellX_15 ?_
  refine v_iconst C (pc := 18) 5 dX9_cellX_18 rfl ?_
  refine v_iload_n C (pc := 19) 1 dX9_cellX_19 rfl rfl ?_
  refine v_imul C (pc := 20) dX9_cellX_20 ?_
  refine v_iload_n C (pc := 21) 2 dX9_cellX_21 rfl rfl ?_
  refine v_iadd C (pc := 22) dX9_cellX_22 ?_
  refine ldX9_offY C (pc := 23) hm dX9_cellX_23 (fun hm => ?_)
  refine v_iload_n C (pc := 24) 3 dX9_cellX_24 rfl rfl ?_
  refine v_bipush C (pc := 25) 64 dX9_cellX_25 rfl ?_
  refine v_idiv C (pc := 27) dX9_cellX_27 (by decide) ?_
  refine kX9_123 C (Nat.le_of_ble_eq_true rfl) (Nat.le_of_ble_eq_true rfl) (pc := 28) hm (Nat.le_of_ble_eq_true rfl) dX9_cellX_28 (fun r2 S2 hm => ?_)
  refine v_iadd C (pc := 31) dX9_cellX_31 ?_
  exact v_iret C hr hQ (pc := 32) hm dX9_cellX_32
theorem mX9_cellX {l : Launch} {D : va_G} {ad : Nat → Nat} {cA : Nat → ClassId} (hD : ∀ S, va_D (mA ad) (mW ad cA S)) {N : Nat} {p1 : Int32} {p2 : Int32} {p3 : Int32} {S : St} {r : Int32 × St} (hm : fX9_cellX N p1 p2 p3 S = some r) : Met l yX9_cellX (wsm yX9_cellX cX9_cellX 4 (some .int)) rmX9_cellX (va_Pc [.ref (ad 0), .int p1, .int p2, .int p3] (Pre D cA (mW ad cA) mS S)) (Qo D (mW ad cA) (mA ad) (some (.int r.1)) r.2) 0 0 (mA ad) := met_of [.ref (ad 0), .int p1, .int p2, .int p3] (by decide) (Nat.le_of_ble_eq_true rfl) hD (fun _ _ _ _ h => h) (fun _ _ _ _ h => h) (fun p e s m below meth c C hr => vX9_cellX C hr rfl (N := N)  hm)
-- X9_cellY
theorem infX9_turnedY : InfS yX9_turnedY cX9_turnedY 3 (some .int) 3 := ⟨⟨gm (i := 65) (by decide +kernel) rfl, gm (i := 994) (by decide +kernel) rfl, by decide +kernel⟩, gm (i := 993) (by decide +kernel) rfl⟩
theorem kX9_127 {p : Program} {l : Launch} {e : Env} {R : Room} {s : State} {m : MethodId} {args : Array Value} {below : List Frame} {meth : Method} {c : Code} {Q : State → Prop} {D : va_G} {ad : Nat → Nat} {cA : Nat → ClassId} {cc : ByteArray} {nL : Nat} {S : St} {pc : Nat} {lv : List (Nat × Value)} {st : List Value} {ρ : Type} {res : ρ} (C : Ok p s m args c D cA (mW ad cA) (mA ad) mS RX9 cc nL) (hfr : rmX9_turnedY.frames + 1 ≤ R.frames) (hlo : 8 + (3 + 11) + rmX9_turnedY.locals ≤ R.locals) {N : Nat} {p1 : Int32} {p2 : Int32} {p3 : Int32} {E : Int32 → St → Option ρ} (hm : bd (fX9_turnedY N p1 p2 p3 S) E = some res) (hcat : (st.map fun v => v.category).sum ≤ 8) (hd : decode cc pc = .ok (.invokestatic 127, 3)) (k : ∀ r S, E r S = some res → V p l e R s m args below meth c Q D (mW ad cA) (mA ad) nL S (pc + 3) lv (.int r :: st)) : V p l e R s m args below meth c Q D (mW ad cA) (mA ad) nL S pc lv (.int p3 :: .int p2 :: .int p1 :: st) := by
  obtain ⟨r, S1, h1, h2⟩ := bd_some hm
  exact v_callS C (gm (i := 992) (by decide +kernel) rfl : Cond.methodLink RX9 127 yX9_turnedY ∈ gw_tbl) infX9_turnedY (rm2 := rmX9_turnedY) ⟨rfl, rfl⟩ hfr hlo (mX9_turnedY C.2.2.2.2.2.2.1 h1) (As := [.int p1, .int p2, .int p3]) rfl rfl hcat hd (k r S1 h2)
def rmX9_cellY : Room := { frames := 1, cells := 0, slots := 0, locals := 22 }
def fX9_cellY (N : Nat) (p1 : Int32) (p2 : Int32) (p3 : Int32) (S : St) : Option (Int32 × St) := ck ((5 * p1) + p2) 25 (ck ((5 * p1) + p2) 25 (bd (fX9_turnedY N (S.2.2.1 3 (Int32.toNatClampNeg ((5 * p1) + p2))) (S.2.2.1 4 (Int32.toNatClampNeg ((5 * p1) + p2))) (p3 / 64) S) fun r2 S2 => some ((((p3 / 8) - (p3 / 8) / 8 * 8) + r2), S2)))
set_option maxRecDepth 20000 in
theorem vX9_cellY {p : Program} {l : Launch} {e : Env} {s : State} {m : MethodId} {args : Array Value} {below : List Frame} {meth : Method} {c : Code} {Q : State → Prop} {D : va_G} {ad : Nat → Nat} {cA : Nat → ClassId} (C : Ok p s m args c D cA (mW ad cA) (mA ad) mS RX9 cX9_cellY 4) (hr : Rt meth (some .int)) {r : Int32 × St} (hQ : Q = MQ below (Qo D (mW ad cA) (mA ad) (some (.int r.1)) r.2) args s 0 0 (mA ad)) {N : Nat} {p1 : Int32} {p2 : Int32} {p3 : Int32} {S : St} (hm : fX9_cellY N p1 p2 p3 S = some r) : V p l e rmX9_cellY s m args below meth c Q D (mW ad cA) (mA ad) 4 S 0 [(0, .ref (ad 0)), (1, .int p1), (2, .int p2), (3, .int p3)] [] := by
  unfold fX9_cellY at hm
  refine v_iload_n C (pc := 0) 3 dX9_cellY_0 rfl rfl ?_
  refine v_bipush C (pc := 1) 8 dX9_cellY_1 rfl ?_
  refine v_idiv C (pc := 3) dX9_cellY_3 (by decide) ?_
  refine v_bipush C (pc := 4) 8 dX9_cellY_4 rfl ?_
  refine v_irem C (pc := 6) dX9_cellY_6 (by decide) ?_
  refine v_aload_n C (pc := 7) 0 dX9_cellY_7 rfl rfl ?_
  refine gX9_19 C (pc := 8) dX9_cellY_8 ?_
  refine v_iconst C (pc := 11) 5 dX9_cellY_11 rfl ?_
  refine v_iload_n C (pc := 12) 1 dX9_cellY_12 rfl rfl ?_
  refine v_imul C (pc := 13) dX9_cellY_13 ?_
  refine v_iload_n C (pc := 14) 2 dX9_cellY_14 rfl rfl ?_
  refine v_iadd C (pc := 15) dX9_cellY_15 ?_
  refine ldX9_offX C (pc := 16) hm dX9_cellY_16 (fun hm => ?_)
  refine v_aload_n C (pc := 17) 0 dX9_cellY_17 rfl rfl ?_
  refine gX9_22 C (pc := 18) dX9_cellY_18 ?_
  refine v_iconst C (pc := 21) 5 dX9_cellY_21 rfl ?_
  refine v_iload_n C (pc := 22) 1 dX9_cellY_22 rfl rfl ?_
  refine v_imul C (pc := 23) dX9_cellY_23 ?_
  refine v_iload_n C (pc := 24) 2 dX9_cellY_24 rfl rfl ?_
  refine v_iadd C (pc := 25) dX9_cellY_25 ?_
  refine ldX9_offY C (pc := 26) hm dX9_cellY_26 (fun hm => ?_)
  refine v_iload_n C (pc := 27) 3 dX9_cellY_27 rfl rfl ?_
  refine v_bipush C (pc := 28) 64 dX9_cellY_28 rfl ?_
  refine v_idiv C (pc := 30) dX9_cellY_30 (by decide) ?_
  refine kX9_127 C (Nat.le_of_ble_eq_true rfl) (Nat.le_of_ble_eq_true rfl) (pc := 31) hm (Nat.le_of_ble_eq_true rfl) dX9_cellY_31 (fun r2 S2 hm => ?_)
  refine v_iadd C (pc := 34) dX9_cellY_34 ?_
  exact v_iret C hr hQ (pc := 35) hm dX9_cellY_35
theorem mX9_cellY {l : Launch} {D : va_G} {ad : Nat → Nat} {cA : Nat → ClassId} (hD : ∀ S, va_D (mA ad) (mW ad cA S)) {N : Nat} {p1 : Int32} {p2 : Int32} {p3 : Int32} {S : St} {r : Int32 × St} (hm : fX9_cellY N p1 p2 p3 S = some r) : Met l yX9_cellY (wsm yX9_cellY cX9_cellY 4 (some .int)) rmX9_cellY (va_Pc [.ref (ad 0), .int p1, .int p2, .int p3] (Pre D cA (mW ad cA) mS S)) (Qo D (mW ad cA) (mA ad) (some (.int r.1)) r.2) 0 0 (mA ad) := met_of [.ref (ad 0), .int p1, .int p2, .int p3] (by decide) (Nat.le_of_ble_eq_true rfl) hD (fun _ _ _ _ h => h) (fun _ _ _ _ h => h) (fun p e s m below meth c C hr => vX9_cellY C hr rfl (N := N)  hm)
-- X9_stepX
def rmX9_stepX : Room := { frames := 0, cells := 0, slots := 0, locals := 0 }
def fX9_stepX_18 (N : Nat)  (s0 : Int32) (S : St) : Option (Int32 × St) := some (s0, S)
set_option maxRecDepth 20000 in
theorem vX9_stepX_18 {p : Program} {l : Launch} {e : Env} {s : State} {m : MethodId} {args : Array Value} {below : List Frame} {meth : Method} {c : Code} {Q : State → Prop} {D : va_G} {ad : Nat → Nat} {cA : Nat → ClassId} (C : Ok p s m args c D cA (mW ad cA) (mA ad) mS RX9 cX9_stepX 1) (hr : Rt meth (some .int)) {r : Int32 × St} (hQ : Q = MQ below (Qo D (mW ad cA) (mA ad) (some (.int r.1)) r.2) args s 0 0 (mA ad)) {N : Nat}  {s0 : Int32}  {S : St} (hm : fX9_stepX_18 N  s0 S = some r) : V p l e rmX9_stepX s m args below meth c Q D (mW ad cA) (mA ad) 1 S 18 [] [.int s0] := by
  unfold fX9_stepX_18 at hm
  exact v_iret C hr hQ (pc := 18) hm dX9_stepX_18
def fX9_stepX (N : Nat) (p1 : Int32) (S : St) : Option (Int32 × St) := if p1 = 0 then (fX9_stepX_18 N 1 S) else (if p1 = 2 then (fX9_stepX_18 N (-1) S) else (fX9_stepX_18 N 0 S))
set_option maxRecDepth 20000 in
theorem vX9_stepX {p : Program} {l : Launch} {e : Env} {s : State} {m : MethodId} {args : Array Value} {below : List Frame} {meth : Method} {c : Code} {Q : State → Prop} {D : va_G} {ad : Nat → Nat} {cA : Nat → ClassId} (C : Ok p s m args c D cA (mW ad cA) (mA ad) mS RX9 cX9_stepX 1) (hr : Rt meth (some .int)) {r : Int32 × St} (hQ : Q = MQ below (Qo D (mW ad cA) (mA ad) (some (.int r.1)) r.2) args s 0 0 (mA ad)) {N : Nat} {p1 : Int32} {S : St} (hm : fX9_stepX N p1 S = some r) : V p l e rmX9_stepX s m args below meth c Q D (mW ad cA) (mA ad) 1 S 0 [(0, .int p1)] [] := by
  unfold fX9_stepX at hm
  refine v_iload_n C (pc := 0) 0 dX9_stepX_0 rfl rfl ?_
  refine v_if_ne C (pc := 1) hm 8 dX9_stepX_1 rfl (fun hm => ?_) (fun hm => ?_)
  · refine v_iload_n C (pc := 8) 0 dX9_stepX_8 rfl rfl ?_
    refine v_iconst C (pc := 9) 2 dX9_stepX_9 rfl ?_
    refine v_icmp_ne C (pc := 10) hm 17 dX9_stepX_10 rfl (fun hm => ?_) (fun hm => ?_)
    · refine v_iconst C (pc := 17) 0 dX9_stepX_17 rfl ?_
      exact v_sub [] rfl (vX9_stepX_18 C hr hQ (N := N) hm)
    · refine v_iconst C (pc := 13) (-1) dX9_stepX_13 rfl ?_
      refine v_goto C (pc := 14) 18 dX9_stepX_14 rfl ?_
      exact v_sub [] rfl (vX9_stepX_18 C hr hQ (N := N) hm)
  · refine v_iconst C (pc := 4) 1 dX9_stepX_4 rfl ?_
    refine v_goto C (pc := 5) 18 dX9_stepX_5 rfl ?_
    exact v_sub [] rfl (vX9_stepX_18 C hr hQ (N := N) hm)
theorem mX9_stepX {l : Launch} {D : va_G} {ad : Nat → Nat} {cA : Nat → ClassId} (hD : ∀ S, va_D (mA ad) (mW ad cA S)) {N : Nat} {p1 : Int32} {S : St} {r : Int32 × St} (hm : fX9_stepX N p1 S = some r) : Met l yX9_stepX (wsm yX9_stepX cX9_stepX 1 (some .int)) rmX9_stepX (va_Pc [.int p1] (Pre D cA (mW ad cA) mS S)) (Qo D (mW ad cA) (mA ad) (some (.int r.1)) r.2) 0 0 (mA ad) := met_of [.int p1] (by decide) (Nat.le_of_ble_eq_true rfl) hD (fun _ _ _ _ h => h) (fun _ _ _ _ h => h) (fun p e s m below meth c C hr => vX9_stepX C hr rfl (N := N)  hm)
-- X9_stepY
def rmX9_stepY : Room := { frames := 0, cells := 0, slots := 0, locals := 0 }
def fX9_stepY_19 (N : Nat)  (s0 : Int32) (S : St) : Option (Int32 × St) := some (s0, S)
set_option maxRecDepth 20000 in
theorem vX9_stepY_19 {p : Program} {l : Launch} {e : Env} {s : State} {m : MethodId} {args : Array Value} {below : List Frame} {meth : Method} {c : Code} {Q : State → Prop} {D : va_G} {ad : Nat → Nat} {cA : Nat → ClassId} (C : Ok p s m args c D cA (mW ad cA) (mA ad) mS RX9 cX9_stepY 1) (hr : Rt meth (some .int)) {r : Int32 × St} (hQ : Q = MQ below (Qo D (mW ad cA) (mA ad) (some (.int r.1)) r.2) args s 0 0 (mA ad)) {N : Nat}  {s0 : Int32}  {S : St} (hm : fX9_stepY_19 N  s0 S = some r) : V p l e rmX9_stepY s m args below meth c Q D (mW ad cA) (mA ad) 1 S 19 [] [.int s0] := by
  unfold fX9_stepY_19 at hm
  exact v_iret C hr hQ (pc := 19) hm dX9_stepY_19
def fX9_stepY (N : Nat) (p1 : Int32) (S : St) : Option (Int32 × St) := if p1 = 1 then (fX9_stepY_19 N 1 S) else (if p1 = 3 then (fX9_stepY_19 N (-1) S) else (fX9_stepY_19 N 0 S))
set_option maxRecDepth 20000 in
theorem vX9_stepY {p : Program} {l : Launch} {e : Env} {s : State} {m : MethodId} {args : Array Value} {below : List Frame} {meth : Method} {c : Code} {Q : State → Prop} {D : va_G} {ad : Nat → Nat} {cA : Nat → ClassId} (C : Ok p s m args c D cA (mW ad cA) (mA ad) mS RX9 cX9_stepY 1) (hr : Rt meth (some .int)) {r : Int32 × St} (hQ : Q = MQ below (Qo D (mW ad cA) (mA ad) (some (.int r.1)) r.2) args s 0 0 (mA ad)) {N : Nat} {p1 : Int32} {S : St} (hm : fX9_stepY N p1 S = some r) : V p l e rmX9_stepY s m args below meth c Q D (mW ad cA) (mA ad) 1 S 0 [(0, .int p1)] [] := by
  unfold fX9_stepY at hm
  refine v_iload_n C (pc := 0) 0 dX9_stepY_0 rfl rfl ?_
  refine v_iconst C (pc := 1) 1 dX9_stepY_1 rfl ?_
  refine v_icmp_ne C (pc := 2) hm 9 dX9_stepY_2 rfl (fun hm => ?_) (fun hm => ?_)
  · refine v_iload_n C (pc := 9) 0 dX9_stepY_9 rfl rfl ?_
    refine v_iconst C (pc := 10) 3 dX9_stepY_10 rfl ?_
    refine v_icmp_ne C (pc := 11) hm 18 dX9_stepY_11 rfl (fun hm => ?_) (fun hm => ?_)
    · refine v_iconst C (pc := 18) 0 dX9_stepY_18 rfl ?_
      exact v_sub [] rfl (vX9_stepY_19 C hr hQ (N := N) hm)
    · refine v_iconst C (pc := 14) (-1) dX9_stepY_14 rfl ?_
      refine v_goto C (pc := 15) 19 dX9_stepY_15 rfl ?_
      exact v_sub [] rfl (vX9_stepY_19 C hr hQ (N := N) hm)
  · refine v_iconst C (pc := 5) 1 dX9_stepY_5 rfl ?_
    refine v_goto C (pc := 6) 19 dX9_stepY_6 rfl ?_
    exact v_sub [] rfl (vX9_stepY_19 C hr hQ (N := N) hm)
theorem mX9_stepY {l : Launch} {D : va_G} {ad : Nat → Nat} {cA : Nat → ClassId} (hD : ∀ S, va_D (mA ad) (mW ad cA S)) {N : Nat} {p1 : Int32} {S : St} {r : Int32 × St} (hm : fX9_stepY N p1 S = some r) : Met l yX9_stepY (wsm yX9_stepY cX9_stepY 1 (some .int)) rmX9_stepY (va_Pc [.int p1] (Pre D cA (mW ad cA) mS S)) (Qo D (mW ad cA) (mA ad) (some (.int r.1)) r.2) 0 0 (mA ad) := met_of [.int p1] (by decide) (Nat.le_of_ble_eq_true rfl) hD (fun _ _ _ _ h => h) (fun _ _ _ _ h => h) (fun p e s m below meth c C hr => vX9_stepY C hr rfl (N := N)  hm)
-- X9_type
def rmX9_type : Room := { frames := 0, cells := 0, slots := 0, locals := 0 }
def fX9_type (N : Nat) (p1 : Int32) (S : St) : Option (Int32 × St) := if (S.1 3) = 80 then (some ((-5), S)) else (ck (S.1 3) 80 (stp (sA S 10 (Int32.toNatClampNeg (S.1 3)) (vp_nar .char p1)) fun S3 => stp (sI S3 3 ((S3.1 3) + 1)) fun S4 => some ((S4.1 3), S4)))
set_option maxRecDepth 20000 in
theorem vX9_type {p : Program} {l : Launch} {e : Env} {s : State} {m : MethodId} {args : Array Value} {below : List Frame} {meth : Method} {c : Code} {Q : State → Prop} {D : va_G} {ad : Nat → Nat} {cA : Nat → ClassId} (C : Ok p s m args c D cA (mW ad cA) (mA ad) mS RX9 cX9_type 2) (hr : Rt meth (some .int)) {r : Int32 × St} (hQ : Q = MQ below (Qo D (mW ad cA) (mA ad) (some (.int r.1)) r.2) args s 0 0 (mA ad)) {N : Nat} {p1 : Int32} {S : St} (hm : fX9_type N p1 S = some r) : V p l e rmX9_type s m args below meth c Q D (mW ad cA) (mA ad) 2 S 0 [(0, .ref (ad 0)), (1, .int p1)] [] := by
  unfold fX9_type at hm
  refine v_aload_n C (pc := 0) 0 dX9_type_0 rfl rfl ?_
  refine gX9_130 C (pc := 1) dX9_type_1 ?_
  refine v_bipush C (pc := 4) 80 dX9_type_4 rfl ?_
  refine v_icmp_ne C (pc := 6) hm 12 dX9_type_6 rfl (fun hm => ?_) (fun hm => ?_)
  · refine v_aload_n C (pc := 12) 0 dX9_type_12 rfl rfl ?_
    refine gX9_40 C (pc := 13) dX9_type_13 ?_
    refine v_aload_n C (pc := 16) 0 dX9_type_16 rfl rfl ?_
    refine gX9_130 C (pc := 17) dX9_type_17 ?_
    refine v_iload_n C (pc := 20) 1 dX9_type_20 rfl rfl ?_
    refine stX9_text C (pc := 21) hm dX9_type_21 (fun S3 hm => ?_)
    refine v_aload_n C (pc := 22) 0 dX9_type_22 rfl rfl ?_
    refine v_dup C (pc := 23) dX9_type_23 rfl ?_
    refine gX9_130 C (pc := 24) dX9_type_24 ?_
    refine v_iconst C (pc := 27) 1 dX9_type_27 rfl ?_
    refine v_iadd C (pc := 28) dX9_type_28 ?_
    refine pX9_130 C (pc := 29) hm dX9_type_29 (fun S4 hm => ?_)
    refine v_aload_n C (pc := 32) 0 dX9_type_32 rfl rfl ?_
    refine gX9_130 C (pc := 33) dX9_type_33 ?_
    exact v_iret C hr hQ (pc := 36) hm dX9_type_36
  · refine v_bipush C (pc := 9) (-5) dX9_type_9 rfl ?_
    exact v_iret C hr hQ (pc := 11) hm dX9_type_11
theorem mX9_type {l : Launch} {D : va_G} {ad : Nat → Nat} {cA : Nat → ClassId} (hD : ∀ S, va_D (mA ad) (mW ad cA S)) {N : Nat} {p1 : Int32} {S : St} {r : Int32 × St} (hm : fX9_type N p1 S = some r) : Met l yX9_type (wsm yX9_type cX9_type 2 (some .int)) rmX9_type (va_Pc [.ref (ad 0), .int p1] (Pre D cA (mW ad cA) mS S)) (Qo D (mW ad cA) (mA ad) (some (.int r.1)) r.2) 0 0 (mA ad) := met_of [.ref (ad 0), .int p1] (by decide) (Nat.le_of_ble_eq_true rfl) hD (fun _ _ _ _ h => h) (fun _ _ _ _ h => h) (fun p e s m below meth c C hr => vX9_type C hr rfl (N := N)  hm)
-- X9_clearText
def rmX9_clearText : Room := { frames := 0, cells := 0, slots := 0, locals := 0 }
def fX9_clearText (N : Nat)  (S : St) : Option (Int32 × St) := nm (S.1 3) fun y2 => stp (sI S 3 0) fun S2 => some (y2, S2)
set_option maxRecDepth 20000 in
theorem vX9_clearText {p : Program} {l : Launch} {e : Env} {s : State} {m : MethodId} {args : Array Value} {below : List Frame} {meth : Method} {c : Code} {Q : State → Prop} {D : va_G} {ad : Nat → Nat} {cA : Nat → ClassId} (C : Ok p s m args c D cA (mW ad cA) (mA ad) mS RX9 cX9_clearText 2) (hr : Rt meth (some .int)) {r : Int32 × St} (hQ : Q = MQ below (Qo D (mW ad cA) (mA ad) (some (.int r.1)) r.2) args s 0 0 (mA ad)) {N : Nat}  {S : St} (hm : fX9_clearText N  S = some r) : V p l e rmX9_clearText s m args below meth c Q D (mW ad cA) (mA ad) 2 S 0 [(0, .ref (ad 0))] [] := by
  unfold fX9_clearText at hm
  refine v_aload_n C (pc := 0) 0 dX9_clearText_0 rfl rfl ?_
  refine gX9_130 C (pc := 1) dX9_clearText_1 ?_
  refine v_istore_nN C (pc := 4) [(0, .ref (ad 0))] hm dX9_clearText_4 rfl (by decide) rfl (fun y2 hm => ?_)
  refine v_aload_n C (pc := 5) 1 dX9_clearText_5 rfl rfl ?_
  refine v_iconst C (pc := 6) 0 dX9_clearText_6 rfl ?_
  refine pX9_130 C (pc := 7) hm dX9_clearText_7 (fun S2 hm => ?_)
  refine v_iload_n C (pc := 10) 0 dX9_clearText_10 rfl rfl ?_
  exact v_iret C hr hQ (pc := 11) hm dX9_clearText_11
theorem mX9_clearText {l : Launch} {D : va_G} {ad : Nat → Nat} {cA : Nat → ClassId} (hD : ∀ S, va_D (mA ad) (mW ad cA S)) {N : Nat}  {S : St} {r : Int32 × St} (hm : fX9_clearText N  S = some r) : Met l yX9_clearText (wsm yX9_clearText cX9_clearText 2 (some .int)) rmX9_clearText (va_Pc [.ref (ad 0)] (Pre D cA (mW ad cA) mS S)) (Qo D (mW ad cA) (mA ad) (some (.int r.1)) r.2) 0 0 (mA ad) := met_of [.ref (ad 0)] (by decide) (Nat.le_of_ble_eq_true rfl) hD (fun _ _ _ _ h => h) (fun _ _ _ _ h => h) (fun p e s m below meth c C hr => vX9_clearText C hr rfl (N := N)  hm)
-- X9_blockBy
def rmX9_blockBy : Room := { frames := 0, cells := 0, slots := 0, locals := 0 }
def fX9_blockBy_39 (N : Nat)  (s0 : Int32) (S : St) : Option (Int32 × St) := some (s0, S)
set_option maxRecDepth 20000 in
theorem vX9_blockBy_39 {p : Program} {l : Launch} {e : Env} {s : State} {m : MethodId} {args : Array Value} {below : List Frame} {meth : Method} {c : Code} {Q : State → Prop} {D : va_G} {ad : Nat → Nat} {cA : Nat → ClassId} (C : Ok p s m args c D cA (mW ad cA) (mA ad) mS RX9 cX9_blockBy 1) (hr : Rt meth (some .int)) {r : Int32 × St} (hQ : Q = MQ below (Qo D (mW ad cA) (mA ad) (some (.int r.1)) r.2) args s 0 0 (mA ad)) {N : Nat}  {s0 : Int32}  {S : St} (hm : fX9_blockBy_39 N  s0 S = some r) : V p l e rmX9_blockBy s m args below meth c Q D (mW ad cA) (mA ad) 1 S 39 [] [.int s0] := by
  unfold fX9_blockBy_39 at hm
  exact v_iret C hr hQ (pc := 39) hm dX9_blockBy_39
def fX9_blockBy_38 (N : Nat)   (S : St) : Option (Int32 × St) := fX9_blockBy_39 N (-1) S
set_option maxRecDepth 20000 in
theorem vX9_blockBy_38 {p : Program} {l : Launch} {e : Env} {s : State} {m : MethodId} {args : Array Value} {below : List Frame} {meth : Method} {c : Code} {Q : State → Prop} {D : va_G} {ad : Nat → Nat} {cA : Nat → ClassId} (C : Ok p s m args c D cA (mW ad cA) (mA ad) mS RX9 cX9_blockBy 1) (hr : Rt meth (some .int)) {r : Int32 × St} (hQ : Q = MQ below (Qo D (mW ad cA) (mA ad) (some (.int r.1)) r.2) args s 0 0 (mA ad)) {N : Nat}    {S : St} (hm : fX9_blockBy_38 N   S = some r) : V p l e rmX9_blockBy s m args below meth c Q D (mW ad cA) (mA ad) 1 S 38 [] [] := by
  unfold fX9_blockBy_38 at hm
  refine v_iconst C (pc := 38) (-1) dX9_blockBy_38 rfl ?_
  exact (vX9_blockBy_39 C hr hQ (N := N) hm)
def fX9_blockBy_19 (N : Nat)  (x0 : Int32) (S : St) : Option (Int32 × St) := if x0 < 65 then (fX9_blockBy_38 N S) else (if 69 < x0 then (fX9_blockBy_38 N S) else (fX9_blockBy_39 N (x0 - 65) S))
set_option maxRecDepth 20000 in
theorem vX9_blockBy_19 {p : Program} {l : Launch} {e : Env} {s : State} {m : MethodId} {args : Array Value} {below : List Frame} {meth : Method} {c : Code} {Q : State → Prop} {D : va_G} {ad : Nat → Nat} {cA : Nat → ClassId} (C : Ok p s m args c D cA (mW ad cA) (mA ad) mS RX9 cX9_blockBy 1) (hr : Rt meth (some .int)) {r : Int32 × St} (hQ : Q = MQ below (Qo D (mW ad cA) (mA ad) (some (.int r.1)) r.2) args s 0 0 (mA ad)) {N : Nat}  {x0 : Int32}  {S : St} (hm : fX9_blockBy_19 N  x0 S = some r) : V p l e rmX9_blockBy s m args below meth c Q D (mW ad cA) (mA ad) 1 S 19 [(0, .int x0)] [] := by
  unfold fX9_blockBy_19 at hm
  refine v_iload_n C (pc := 19) 0 dX9_blockBy_19 rfl rfl ?_
  refine v_bipush C (pc := 20) 65 dX9_blockBy_20 rfl ?_
  refine v_icmp_lt C (pc := 22) hm 38 dX9_blockBy_22 rfl (fun hm => ?_) (fun hm => ?_)
  · exact v_sub [] rfl (vX9_blockBy_38 C hr hQ (N := N) hm)
  · refine v_iload_n C (pc := 25) 0 dX9_blockBy_25 rfl rfl ?_
    refine v_bipush C (pc := 26) 69 dX9_blockBy_26 rfl ?_
    refine v_icmp_gt C (pc := 28) hm 38 dX9_blockBy_28 rfl (fun hm => ?_) (fun hm => ?_)
    · exact v_sub [] rfl (vX9_blockBy_38 C hr hQ (N := N) hm)
    · refine v_iload_n C (pc := 31) 0 dX9_blockBy_31 rfl rfl ?_
      refine v_bipush C (pc := 32) 65 dX9_blockBy_32 rfl ?_
      refine v_isub C (pc := 34) dX9_blockBy_34 ?_
      refine v_goto C (pc := 35) 39 dX9_blockBy_35 rfl ?_
      exact v_sub [] rfl (vX9_blockBy_39 C hr hQ (N := N) hm)
def fX9_blockBy (N : Nat) (p1 : Int32) (S : St) : Option (Int32 × St) := if p1 < 97 then (fX9_blockBy_19 N p1 S) else (if 101 < p1 then (fX9_blockBy_19 N p1 S) else (fX9_blockBy_39 N (p1 - 97) S))
set_option maxRecDepth 20000 in
theorem vX9_blockBy {p : Program} {l : Launch} {e : Env} {s : State} {m : MethodId} {args : Array Value} {below : List Frame} {meth : Method} {c : Code} {Q : State → Prop} {D : va_G} {ad : Nat → Nat} {cA : Nat → ClassId} (C : Ok p s m args c D cA (mW ad cA) (mA ad) mS RX9 cX9_blockBy 1) (hr : Rt meth (some .int)) {r : Int32 × St} (hQ : Q = MQ below (Qo D (mW ad cA) (mA ad) (some (.int r.1)) r.2) args s 0 0 (mA ad)) {N : Nat} {p1 : Int32} {S : St} (hm : fX9_blockBy N p1 S = some r) : V p l e rmX9_blockBy s m args below meth c Q D (mW ad cA) (mA ad) 1 S 0 [(0, .int p1)] [] := by
  unfold fX9_blockBy at hm
  refine v_iload_n C (pc := 0) 0 dX9_blockBy_0 rfl rfl ?_
  refine v_bipush C (pc := 1) 97 dX9_blockBy_1 rfl ?_
  refine v_icmp_lt C (pc := 3) hm 19 dX9_blockBy_3 rfl (fun hm => ?_) (fun hm => ?_)
  · exact (vX9_blockBy_19 C hr hQ (N := N) hm)
  · refine v_iload_n C (pc := 6) 0 dX9_blockBy_6 rfl rfl ?_
    refine v_bipush C (pc := 7) 101 dX9_blockBy_7 rfl ?_
    refine v_icmp_gt C (pc := 9) hm 19 dX9_blockBy_9 rfl (fun hm => ?_) (fun hm => ?_)
    · exact (vX9_blockBy_19 C hr hQ (N := N) hm)
    · refine v_iload_n C (pc := 12) 0 dX9_blockBy_12 rfl rfl ?_
      refine v_bipush C (pc := 13) 97 dX9_blockBy_13 rfl ?_
      refine v_isub C (pc := 15) dX9_blockBy_15 ?_
      refine v_goto C (pc := 16) 39 dX9_blockBy_16 rfl ?_
      exact v_sub [] rfl (vX9_blockBy_39 C hr hQ (N := N) hm)
theorem mX9_blockBy {l : Launch} {D : va_G} {ad : Nat → Nat} {cA : Nat → ClassId} (hD : ∀ S, va_D (mA ad) (mW ad cA S)) {N : Nat} {p1 : Int32} {S : St} {r : Int32 × St} (hm : fX9_blockBy N p1 S = some r) : Met l yX9_blockBy (wsm yX9_blockBy cX9_blockBy 1 (some .int)) rmX9_blockBy (va_Pc [.int p1] (Pre D cA (mW ad cA) mS S)) (Qo D (mW ad cA) (mA ad) (some (.int r.1)) r.2) 0 0 (mA ad) := met_of [.int p1] (by decide) (Nat.le_of_ble_eq_true rfl) hD (fun _ _ _ _ h => h) (fun _ _ _ _ h => h) (fun p e s m below meth c C hr => vX9_blockBy C hr rfl (N := N)  hm)
-- X9_kindBy
theorem infX9_blockBy : InfS yX9_blockBy cX9_blockBy 1 (some .int) 1 := ⟨⟨gm (i := 65) (by decide +kernel) rfl, gm (i := 964) (by decide +kernel) rfl, by decide +kernel⟩, gm (i := 963) (by decide +kernel) rfl⟩
theorem kX9_133 {p : Program} {l : Launch} {e : Env} {R : Room} {s : State} {m : MethodId} {args : Array Value} {below : List Frame} {meth : Method} {c : Code} {Q : State → Prop} {D : va_G} {ad : Nat → Nat} {cA : Nat → ClassId} {cc : ByteArray} {nL : Nat} {S : St} {pc : Nat} {lv : List (Nat × Value)} {st : List Value} {ρ : Type} {res : ρ} (C : Ok p s m args c D cA (mW ad cA) (mA ad) mS RX9 cc nL) (hfr : rmX9_blockBy.frames + 1 ≤ R.frames) (hlo : 8 + (1 + 11) + rmX9_blockBy.locals ≤ R.locals) {N : Nat} {p1 : Int32} {E : Int32 → St → Option ρ} (hm : bd (fX9_blockBy N p1 S) E = some res) (hcat : (st.map fun v => v.category).sum ≤ 8) (hd : decode cc pc = .ok (.invokestatic 133, 3)) (k : ∀ r S, E r S = some res → V p l e R s m args below meth c Q D (mW ad cA) (mA ad) nL S (pc + 3) lv (.int r :: st)) : V p l e R s m args below meth c Q D (mW ad cA) (mA ad) nL S pc lv (.int p1 :: st) := by
  obtain ⟨r, S1, h1, h2⟩ := bd_some hm
  exact v_callS C (gm (i := 962) (by decide +kernel) rfl : Cond.methodLink RX9 133 yX9_blockBy ∈ gw_tbl) infX9_blockBy (rm2 := rmX9_blockBy) ⟨rfl, rfl⟩ hfr hlo (mX9_blockBy C.2.2.2.2.2.2.1 h1) (As := [.int p1]) rfl rfl hcat hd (k r S1 h2)
def rmX9_kindBy : Room := { frames := 1, cells := 0, slots := 0, locals := 20 }
def fX9_kindBy_108 (N : Nat)  (s0 : Int32) (S : St) : Option (Int32 × St) := some (s0, S)
set_option maxRecDepth 20000 in
theorem vX9_kindBy_108 {p : Program} {l : Launch} {e : Env} {s : State} {m : MethodId} {args : Array Value} {below : List Frame} {meth : Method} {c : Code} {Q : State → Prop} {D : va_G} {ad : Nat → Nat} {cA : Nat → ClassId} (C : Ok p s m args c D cA (mW ad cA) (mA ad) mS RX9 cX9_kindBy 1) (hr : Rt meth (some .int)) {r : Int32 × St} (hQ : Q = MQ below (Qo D (mW ad cA) (mA ad) (some (.int r.1)) r.2) args s 0 0 (mA ad)) {N : Nat}  {s0 : Int32}  {S : St} (hm : fX9_kindBy_108 N  s0 S = some r) : V p l e rmX9_kindBy s m args below meth c Q D (mW ad cA) (mA ad) 1 S 108 [] [.int s0] := by
  unfold fX9_kindBy_108 at hm
  exact v_iret C hr hQ (pc := 108) hm dX9_kindBy_108
def fX9_kindBy_53 (N : Nat)   (S : St) : Option (Int32 × St) := fX9_kindBy_108 N 0 S
set_option maxRecDepth 20000 in
theorem vX9_kindBy_53 {p : Program} {l : Launch} {e : Env} {s : State} {m : MethodId} {args : Array Value} {below : List Frame} {meth : Method} {c : Code} {Q : State → Prop} {D : va_G} {ad : Nat → Nat} {cA : Nat → ClassId} (C : Ok p s m args c D cA (mW ad cA) (mA ad) mS RX9 cX9_kindBy 1) (hr : Rt meth (some .int)) {r : Int32 × St} (hQ : Q = MQ below (Qo D (mW ad cA) (mA ad) (some (.int r.1)) r.2) args s 0 0 (mA ad)) {N : Nat}    {S : St} (hm : fX9_kindBy_53 N   S = some r) : V p l e rmX9_kindBy s m args below meth c Q D (mW ad cA) (mA ad) 1 S 53 [] [] := by
  unfold fX9_kindBy_53 at hm
  refine v_iconst C (pc := 53) 0 dX9_kindBy_53 rfl ?_
  refine v_goto C (pc := 54) 108 dX9_kindBy_54 rfl ?_
  exact (vX9_kindBy_108 C hr hQ (N := N) hm)
def fX9_kindBy_40 (N : Nat)  (x0 : Int32) (S : St) : Option (Int32 × St) := if x0 = 46 then (fX9_kindBy_53 N S) else (bd (fX9_blockBy N x0 S) fun r2 S2 => if r2 < 0 then (if x0 = 35 then (fX9_kindBy_108 N 1 S2) else (if x0 = 62 then (fX9_kindBy_108 N 2 S2) else (if x0 = 118 then (fX9_kindBy_108 N 3 S2) else (if x0 = 60 then (fX9_kindBy_108 N 4 S2) else (if x0 = 94 then (fX9_kindBy_108 N 5 S2) else (fX9_kindBy_108 N (-1) S2)))))) else (fX9_kindBy_53 N S2))
set_option maxRecDepth 20000 in
theorem vX9_kindBy_40 {p : Program} {l : Launch} {e : Env} {s : State} {m : MethodId} {args : Array Value} {below : List Frame} {meth : Method} {c : Code} {Q : State → Prop} {D : va_G} {ad : Nat → Nat} {cA : Nat → ClassId} (C : Ok p s m args c D cA (mW ad cA) (mA ad) mS RX9 cX9_kindBy 1) (hr : Rt meth (some .int)) {r : Int32 × St} (hQ : Q = MQ below (Qo D (mW ad cA) (mA ad) (some (.int r.1)) r.2) args s 0 0 (mA ad)) {N : Nat}  {x0 : Int32}  {S : St} (hm : fX9_kindBy_40 N  x0 S = some r) : V p l e rmX9_kindBy s m args below meth c Q D (mW ad cA) (mA ad) 1 S 40 [(0, .int x0)] [] := by
  unfold fX9_kindBy_40 at hm
  refine v_iload_n C (pc := 40) 0 dX9_kindBy_40 rfl rfl ?_
  refine v_bipush C (pc := 41) 46 dX9_kindBy_41 rfl ?_
  refine v_icmp_eq C (pc := 43) hm 53 dX9_kindBy_43 rfl (fun hm => ?_) (fun hm => ?_)
  · exact v_sub [] rfl (vX9_kindBy_53 C hr hQ (N := N) hm)
  · refine v_iload_n C (pc := 46) 0 dX9_kindBy_46 rfl rfl ?_
    refine kX9_133 C (Nat.le_of_ble_eq_true rfl) (Nat.le_of_ble_eq_true rfl) (pc := 47) hm (Nat.le_of_ble_eq_true rfl) dX9_kindBy_47 (fun r2 S2 hm => ?_)
    refine v_if_lt C (pc := 50) hm 57 dX9_kindBy_50 rfl (fun hm => ?_) (fun hm => ?_)
    · refine v_iload_n C (pc := 57) 0 dX9_kindBy_57 rfl rfl ?_
      refine v_bipush C (pc := 58) 35 dX9_kindBy_58 rfl ?_
      refine v_icmp_ne C (pc := 60) hm 67 dX9_kindBy_60 rfl (fun hm => ?_) (fun hm => ?_)
      · refine v_iload_n C (pc := 67) 0 dX9_kindBy_67 rfl rfl ?_
        refine v_bipush C (pc := 68) 62 dX9_kindBy_68 rfl ?_
        refine v_icmp_ne C (pc := 70) hm 77 dX9_kindBy_70 rfl (fun hm => ?_) (fun hm => ?_)
        · refine v_iload_n C (pc := 77) 0 dX9_kindBy_77 rfl rfl ?_
          refine v_bipush C (pc := 78) 118 dX9_kindBy_78 rfl ?_
          refine v_icmp_ne C (pc := 80) hm 87 dX9_kindBy_80 rfl (fun hm => ?_) (fun hm => ?_)
          · refine v_iload_n C (pc := 87) 0 dX9_kindBy_87 rfl rfl ?_
            refine v_bipush C (pc := 88) 60 dX9_kindBy_88 rfl ?_
            refine v_icmp_ne C (pc := 90) hm 97 dX9_kindBy_90 rfl (fun hm => ?_) (fun hm => ?_)
            · refine v_iload_n C (pc := 97) 0 dX9_kindBy_97 rfl rfl ?_
              refine v_bipush C (pc := 98) 94 dX9_kindBy_98 rfl ?_
              refine v_icmp_ne C (pc := 100) hm 107 dX9_kindBy_100 rfl (fun hm => ?_) (fun hm => ?_)
              · refine v_iconst C (pc := 107) (-1) dX9_kindBy_107 rfl ?_
                exact v_sub [] rfl (vX9_kindBy_108 C hr hQ (N := N) hm)
              · refine v_iconst C (pc := 103) 5 dX9_kindBy_103 rfl ?_
                refine v_goto C (pc := 104) 108 dX9_kindBy_104 rfl ?_
                exact v_sub [] rfl (vX9_kindBy_108 C hr hQ (N := N) hm)
            · refine v_iconst C (pc := 93) 4 dX9_kindBy_93 rfl ?_
              refine v_goto C (pc := 94) 108 dX9_kindBy_94 rfl ?_
              exact v_sub [] rfl (vX9_kindBy_108 C hr hQ (N := N) hm)
          · refine v_iconst C (pc := 83) 3 dX9_kindBy_83 rfl ?_
            refine v_goto C (pc := 84) 108 dX9_kindBy_84 rfl ?_
            exact v_sub [] rfl (vX9_kindBy_108 C hr hQ (N := N) hm)
        · refine v_iconst C (pc := 73) 2 dX9_kindBy_73 rfl ?_
          refine v_goto C (pc := 74) 108 dX9_kindBy_74 rfl ?_
          exact v_sub [] rfl (vX9_kindBy_108 C hr hQ (N := N) hm)
      · refine v_iconst C (pc := 63) 1 dX9_kindBy_63 rfl ?_
        refine v_goto C (pc := 64) 108 dX9_kindBy_64 rfl ?_
        exact v_sub [] rfl (vX9_kindBy_108 C hr hQ (N := N) hm)
    · exact v_sub [] rfl (vX9_kindBy_53 C hr hQ (N := N) hm)
def fX9_kindBy_20 (N : Nat)  (x0 : Int32) (S : St) : Option (Int32 × St) := if x0 < 119 then (fX9_kindBy_40 N x0 S) else (if 122 < x0 then (fX9_kindBy_40 N x0 S) else (some (((10 + x0) - 119), S)))
set_option maxRecDepth 20000 in
theorem vX9_kindBy_20 {p : Program} {l : Launch} {e : Env} {s : State} {m : MethodId} {args : Array Value} {below : List Frame} {meth : Method} {c : Code} {Q : State → Prop} {D : va_G} {ad : Nat → Nat} {cA : Nat → ClassId} (C : Ok p s m args c D cA (mW ad cA) (mA ad) mS RX9 cX9_kindBy 1) (hr : Rt meth (some .int)) {r : Int32 × St} (hQ : Q = MQ below (Qo D (mW ad cA) (mA ad) (some (.int r.1)) r.2) args s 0 0 (mA ad)) {N : Nat}  {x0 : Int32}  {S : St} (hm : fX9_kindBy_20 N  x0 S = some r) : V p l e rmX9_kindBy s m args below meth c Q D (mW ad cA) (mA ad) 1 S 20 [(0, .int x0)] [] := by
  unfold fX9_kindBy_20 at hm
  refine v_iload_n C (pc := 20) 0 dX9_kindBy_20 rfl rfl ?_
  refine v_bipush C (pc := 21) 119 dX9_kindBy_21 rfl ?_
  refine v_icmp_lt C (pc := 23) hm 40 dX9_kindBy_23 rfl (fun hm => ?_) (fun hm => ?_)
  · exact (vX9_kindBy_40 C hr hQ (N := N) hm)
  · refine v_iload_n C (pc := 26) 0 dX9_kindBy_26 rfl rfl ?_
    refine v_bipush C (pc := 27) 122 dX9_kindBy_27 rfl ?_
    refine v_icmp_gt C (pc := 29) hm 40 dX9_kindBy_29 rfl (fun hm => ?_) (fun hm => ?_)
    · exact (vX9_kindBy_40 C hr hQ (N := N) hm)
    · refine v_bipush C (pc := 32) 10 dX9_kindBy_32 rfl ?_
      refine v_iload_n C (pc := 34) 0 dX9_kindBy_34 rfl rfl ?_
      refine v_iadd C (pc := 35) dX9_kindBy_35 ?_
      refine v_bipush C (pc := 36) 119 dX9_kindBy_36 rfl ?_
      refine v_isub C (pc := 38) dX9_kindBy_38 ?_
      exact v_iret C hr hQ (pc := 39) hm dX9_kindBy_39
def fX9_kindBy (N : Nat) (p1 : Int32) (S : St) : Option (Int32 × St) := if p1 < 48 then (fX9_kindBy_20 N p1 S) else (if 51 < p1 then (fX9_kindBy_20 N p1 S) else (some (((6 + p1) - 48), S)))
set_option maxRecDepth 20000 in
theorem vX9_kindBy {p : Program} {l : Launch} {e : Env} {s : State} {m : MethodId} {args : Array Value} {below : List Frame} {meth : Method} {c : Code} {Q : State → Prop} {D : va_G} {ad : Nat → Nat} {cA : Nat → ClassId} (C : Ok p s m args c D cA (mW ad cA) (mA ad) mS RX9 cX9_kindBy 1) (hr : Rt meth (some .int)) {r : Int32 × St} (hQ : Q = MQ below (Qo D (mW ad cA) (mA ad) (some (.int r.1)) r.2) args s 0 0 (mA ad)) {N : Nat} {p1 : Int32} {S : St} (hm : fX9_kindBy N p1 S = some r) : V p l e rmX9_kindBy s m args below meth c Q D (mW ad cA) (mA ad) 1 S 0 [(0, .int p1)] [] := by
  unfold fX9_kindBy at hm
  refine v_iload_n C (pc := 0) 0 dX9_kindBy_0 rfl rfl ?_
  refine v_bipush C (pc := 1) 48 dX9_kindBy_1 rfl ?_
  refine v_icmp_lt C (pc := 3) hm 20 dX9_kindBy_3 rfl (fun hm => ?_) (fun hm => ?_)
  · exact (vX9_kindBy_20 C hr hQ (N := N) hm)
  · refine v_iload_n C (pc := 6) 0 dX9_kindBy_6 rfl rfl ?_
    refine v_bipush C (pc := 7) 51 dX9_kindBy_7 rfl ?_
    refine v_icmp_gt C (pc := 9) hm 20 dX9_kindBy_9 rfl (fun hm => ?_) (fun hm => ?_)
    · exact (vX9_kindBy_20 C hr hQ (N := N) hm)
    · refine v_bipush C (pc := 12) 6 dX9_kindBy_12 rfl ?_
      refine v_iload_n C (pc := 14) 0 dX9_kindBy_14 rfl rfl ?_
      refine v_iadd C (pc := 15) dX9_kindBy_15 ?_
      refine v_bipush C (pc := 16) 48 dX9_kindBy_16 rfl ?_
      refine v_isub C (pc := 18) dX9_kindBy_18 ?_
      exact v_iret C hr hQ (pc := 19) hm dX9_kindBy_19
theorem mX9_kindBy {l : Launch} {D : va_G} {ad : Nat → Nat} {cA : Nat → ClassId} (hD : ∀ S, va_D (mA ad) (mW ad cA S)) {N : Nat} {p1 : Int32} {S : St} {r : Int32 × St} (hm : fX9_kindBy N p1 S = some r) : Met l yX9_kindBy (wsm yX9_kindBy cX9_kindBy 1 (some .int)) rmX9_kindBy (va_Pc [.int p1] (Pre D cA (mW ad cA) mS S)) (Qo D (mW ad cA) (mA ad) (some (.int r.1)) r.2) 0 0 (mA ad) := met_of [.int p1] (by decide) (Nat.le_of_ble_eq_true rfl) hD (fun _ _ _ _ h => h) (fun _ _ _ _ h => h) (fun p e s m below meth c C hr => vX9_kindBy C hr rfl (N := N)  hm)
-- X9_readsCell
theorem infX9_kindBy : InfS yX9_kindBy cX9_kindBy 1 (some .int) 1 := ⟨⟨gm (i := 65) (by decide +kernel) rfl, gm (i := 961) (by decide +kernel) rfl, by decide +kernel⟩, gm (i := 960) (by decide +kernel) rfl⟩
theorem kX9_137 {p : Program} {l : Launch} {e : Env} {R : Room} {s : State} {m : MethodId} {args : Array Value} {below : List Frame} {meth : Method} {c : Code} {Q : State → Prop} {D : va_G} {ad : Nat → Nat} {cA : Nat → ClassId} {cc : ByteArray} {nL : Nat} {S : St} {pc : Nat} {lv : List (Nat × Value)} {st : List Value} {ρ : Type} {res : ρ} (C : Ok p s m args c D cA (mW ad cA) (mA ad) mS RX9 cc nL) (hfr : rmX9_kindBy.frames + 1 ≤ R.frames) (hlo : 8 + (1 + 11) + rmX9_kindBy.locals ≤ R.locals) {N : Nat} {p1 : Int32} {E : Int32 → St → Option ρ} (hm : bd (fX9_kindBy N p1 S) E = some res) (hcat : (st.map fun v => v.category).sum ≤ 8) (hd : decode cc pc = .ok (.invokestatic 137, 3)) (k : ∀ r S, E r S = some res → V p l e R s m args below meth c Q D (mW ad cA) (mA ad) nL S (pc + 3) lv (.int r :: st)) : V p l e R s m args below meth c Q D (mW ad cA) (mA ad) nL S pc lv (.int p1 :: st) := by
  obtain ⟨r, S1, h1, h2⟩ := bd_some hm
  exact v_callS C (gm (i := 959) (by decide +kernel) rfl : Cond.methodLink RX9 137 yX9_kindBy ∈ gw_tbl) infX9_kindBy (rm2 := rmX9_kindBy) ⟨rfl, rfl⟩ hfr hlo (mX9_kindBy C.2.2.2.2.2.2.1 h1) (As := [.int p1]) rfl rfl hcat hd (k r S1 h2)
def rmX9_readsCell : Room := { frames := 2, cells := 0, slots := 0, locals := 40 }
def fX9_readsCell_89 (N : Nat)   (S : St) : Option (Bool × St) := some (false, S)
set_option maxRecDepth 20000 in
theorem vX9_readsCell_89 {p : Program} {l : Launch} {e : Env} {s : State} {m : MethodId} {args : Array Value} {below : List Frame} {meth : Method} {c : Code} {Q : State → Prop} {D : va_G} {ad : Nat → Nat} {cA : Nat → ClassId} (C : Ok p s m args c D cA (mW ad cA) (mA ad) mS RX9 cX9_readsCell 8) (hr : Rt meth (some .boolean)) {r : Bool × St} (hQ : Q = MQ below (Qo D (mW ad cA) (mA ad) (some (.int (b2i r.1))) r.2) args s 0 0 (mA ad)) {N : Nat}    {S : St} (hm : fX9_readsCell_89 N   S = some r) : V p l e rmX9_readsCell s m args below meth c Q D (mW ad cA) (mA ad) 8 S 89 [] [] := by
  unfold fX9_readsCell_89 at hm
  refine v_iconst C (pc := 89) 0 dX9_readsCell_89 rfl ?_
  exact v_zret C hr hQ (x := false) (pc := 90) hm dX9_readsCell_90
def fX9_readsCell_211 (N : Nat)  (s0 : Int32) (s1 : Int32) (S : St) : Option (Bool × St) := ck s1 5 (stp (sA S 17 (Int32.toNatClampNeg s1) s0) fun S15 => some (true, S15))
set_option maxRecDepth 20000 in
theorem vX9_readsCell_211 {p : Program} {l : Launch} {e : Env} {s : State} {m : MethodId} {args : Array Value} {below : List Frame} {meth : Method} {c : Code} {Q : State → Prop} {D : va_G} {ad : Nat → Nat} {cA : Nat → ClassId} (C : Ok p s m args c D cA (mW ad cA) (mA ad) mS RX9 cX9_readsCell 8) (hr : Rt meth (some .boolean)) {r : Bool × St} (hQ : Q = MQ below (Qo D (mW ad cA) (mA ad) (some (.int (b2i r.1))) r.2) args s 0 0 (mA ad)) {N : Nat}  {s0 : Int32} {s1 : Int32}  {S : St} (hm : fX9_readsCell_211 N  s0 s1 S = some r) : V p l e rmX9_readsCell s m args below meth c Q D (mW ad cA) (mA ad) 8 S 211 [] [.int s0, .int s1, .ref (ad 18)] := by
  unfold fX9_readsCell_211 at hm
  refine stX9_pivotY C (pc := 211) hm dX9_readsCell_211 (fun S15 hm => ?_)
  refine v_iconst C (pc := 212) 1 dX9_readsCell_212 rfl ?_
  exact v_zret C hr hQ (x := true) (pc := 213) hm dX9_readsCell_213
def fX9_readsCell_188 (N : Nat)  (s0 : Int32) (s1 : Int32) (x2 : Int32) (x6 : Int32) (x7 : Bool) (S : St) : Option (Bool × St) := ck s1 5 (stp (sA S 16 (Int32.toNatClampNeg s1) s0) fun S14 => if (b2i x7) = 0 then (ck x6 5 (fX9_readsCell_211 N (S14.2.2.1 17 (Int32.toNatClampNeg x6)) x6 S14)) else (fX9_readsCell_211 N x2 x6 S14))
set_option maxRecDepth 20000 in
theorem vX9_readsCell_188 {p : Program} {l : Launch} {e : Env} {s : State} {m : MethodId} {args : Array Value} {below : List Frame} {meth : Method} {c : Code} {Q : State → Prop} {D : va_G} {ad : Nat → Nat} {cA : Nat → ClassId} (C : Ok p s m args c D cA (mW ad cA) (mA ad) mS RX9 cX9_readsCell 8) (hr : Rt meth (some .boolean)) {r : Bool × St} (hQ : Q = MQ below (Qo D (mW ad cA) (mA ad) (some (.int (b2i r.1))) r.2) args s 0 0 (mA ad)) {N : Nat}  {s0 : Int32} {s1 : Int32} {x2 : Int32} {x6 : Int32} {x7 : Bool}  {S : St} (hm : fX9_readsCell_188 N  s0 s1 x2 x6 x7 S = some r) : V p l e rmX9_readsCell s m args below meth c Q D (mW ad cA) (mA ad) 8 S 188 [(0, .ref (ad 0)), (2, .int x2), (6, .int x6), (7, .int (b2i x7))] [.int s0, .int s1, .ref (ad 17)] := by
  unfold fX9_readsCell_188 at hm
  refine stX9_pivotX C (pc := 188) hm dX9_readsCell_188 (fun S14 hm => ?_)
  refine v_aload_n C (pc := 189) 0 dX9_readsCell_189 rfl rfl ?_
  refine gX9_62 C (pc := 190) dX9_readsCell_190 ?_
  refine v_iload C (pc := 193) 2 dX9_readsCell_193 rfl ?_
  refine v_iload C (pc := 195) 3 dX9_readsCell_195 rfl ?_
  refine v_if_eq C (pc := 197) hm 204 dX9_readsCell_197 rfl (fun hm => ?_) (fun hm => ?_)
  · refine v_aload_n C (pc := 204) 0 dX9_readsCell_204 rfl rfl ?_
    refine gX9_62 C (pc := 205) dX9_readsCell_205 ?_
    refine v_iload C (pc := 208) 2 dX9_readsCell_208 rfl ?_
    refine ldX9_pivotY C (pc := 210) hm dX9_readsCell_210 (fun hm => ?_)
    exact v_sub [] rfl (vX9_readsCell_211 C hr hQ (N := N) hm)
  · refine v_iload_n C (pc := 200) 1 dX9_readsCell_200 rfl rfl ?_
    refine v_goto C (pc := 201) 211 dX9_readsCell_201 rfl ?_
    exact v_sub [] rfl (vX9_readsCell_211 C hr hQ (N := N) hm)
def fX9_readsCell_118 (N : Nat)  (s0 : Int32) (s1 : Int32) (x1 : Int32) (x2 : Int32) (x6 : Int32) (x7 : Bool) (S : St) : Option (Bool × St) := ck s1 5 (stp (sA S 15 (Int32.toNatClampNeg s1) s0) fun S10 => ck x6 5 (ck ((5 * x6) + (S10.2.2.1 12 (Int32.toNatClampNeg x6))) 25 (stp (sA S10 13 (Int32.toNatClampNeg ((5 * x6) + (S10.2.2.1 12 (Int32.toNatClampNeg x6)))) x1) fun S11 => ck x6 5 (ck ((5 * x6) + (S11.2.2.1 12 (Int32.toNatClampNeg x6))) 25 (stp (sA S11 14 (Int32.toNatClampNeg ((5 * x6) + (S11.2.2.1 12 (Int32.toNatClampNeg x6)))) x2) fun S12 => ck x6 5 (ck x6 5 (stp (sA S12 12 (Int32.toNatClampNeg x6) ((S12.2.2.1 12 (Int32.toNatClampNeg x6)) + 1)) fun S13 => if (b2i x7) = 0 then (ck x6 5 (fX9_readsCell_188 N (S13.2.2.1 16 (Int32.toNatClampNeg x6)) x6 x2 x6 x7 S13)) else (fX9_readsCell_188 N x1 x6 x2 x6 x7 S13))))))))
set_option maxRecDepth 20000 in
theorem vX9_readsCell_118 {p : Program} {l : Launch} {e : Env} {s : State} {m : MethodId} {args : Array Value} {below : List Frame} {meth : Method} {c : Code} {Q : State → Prop} {D : va_G} {ad : Nat → Nat} {cA : Nat → ClassId} (C : Ok p s m args c D cA (mW ad cA) (mA ad) mS RX9 cX9_readsCell 8) (hr : Rt meth (some .boolean)) {r : Bool × St} (hQ : Q = MQ below (Qo D (mW ad cA) (mA ad) (some (.int (b2i r.1))) r.2) args s 0 0 (mA ad)) {N : Nat}  {s0 : Int32} {s1 : Int32} {x1 : Int32} {x2 : Int32} {x6 : Int32} {x7 : Bool}  {S : St} (hm : fX9_readsCell_118 N  s0 s1 x1 x2 x6 x7 S = some r) : V p l e rmX9_readsCell s m args below meth c Q D (mW ad cA) (mA ad) 8 S 118 [(0, .ref (ad 0)), (1, .int x1), (2, .int x2), (6, .int x6), (7, .int (b2i x7))] [.int s0, .int s1, .ref (ad 16)] := by
  unfold fX9_readsCell_118 at hm
  refine stX9_firstOf C (pc := 118) hm dX9_readsCell_118 (fun S10 hm => ?_)
  refine v_aload_n C (pc := 119) 0 dX9_readsCell_119 rfl rfl ?_
  refine gX9_50 C (pc := 120) dX9_readsCell_120 ?_
  refine v_iconst C (pc := 123) 5 dX9_readsCell_123 rfl ?_
  refine v_iload C (pc := 124) 3 dX9_readsCell_124 rfl ?_
  refine v_imul C (pc := 126) dX9_readsCell_126 ?_
  refine v_aload_n C (pc := 127) 0 dX9_readsCell_127 rfl rfl ?_
  refine gX9_47 C (pc := 128) dX9_readsCell_128 ?_
  refine v_iload C (pc := 131) 3 dX9_readsCell_131 rfl ?_
  refine ldX9_readCells C (pc := 133) hm dX9_readsCell_133 (fun hm => ?_)
  refine v_iadd C (pc := 134) dX9_readsCell_134 ?_
  refine v_iload_n C (pc := 135) 1 dX9_readsCell_135 rfl rfl ?_
  refine stX9_readX C (pc := 136) hm dX9_readsCell_136 (fun S11 hm => ?_)
  refine v_aload_n C (pc := 137) 0 dX9_readsCell_137 rfl rfl ?_
  refine gX9_53 C (pc := 138) dX9_readsCell_138 ?_
  refine v_iconst C (pc := 141) 5 dX9_readsCell_141 rfl ?_
  refine v_iload C (pc := 142) 3 dX9_readsCell_142 rfl ?_
  refine v_imul C (pc := 144) dX9_readsCell_144 ?_
  refine v_aload_n C (pc := 145) 0 dX9_readsCell_145 rfl rfl ?_
  refine gX9_47 C (pc := 146) dX9_readsCell_146 ?_
  refine v_iload C (pc := 149) 3 dX9_readsCell_149 rfl ?_
  refine ldX9_readCells C (pc := 151) hm dX9_readsCell_151 (fun hm => ?_)
  refine v_iadd C (pc := 152) dX9_readsCell_152 ?_
  refine v_iload_n C (pc := 153) 2 dX9_readsCell_153 rfl rfl ?_
  refine stX9_readY C (pc := 154) hm dX9_readsCell_154 (fun S12 hm => ?_)
  refine v_aload_n C (pc := 155) 0 dX9_readsCell_155 rfl rfl ?_
  refine gX9_47 C (pc := 156) dX9_readsCell_156 ?_
  refine v_iload C (pc := 159) 3 dX9_readsCell_159 rfl ?_
  refine v_dup2 C (pc := 161) dX9_readsCell_161 rfl rfl ?_
  refine ldX9_readCells C (pc := 162) hm dX9_readsCell_162 (fun hm => ?_)
  refine v_iconst C (pc := 163) 1 dX9_readsCell_163 rfl ?_
  refine v_iadd C (pc := 164) dX9_readsCell_164 ?_
  refine stX9_readCells C (pc := 165) hm dX9_readsCell_165 (fun S13 hm => ?_)
  refine v_aload_n C (pc := 166) 0 dX9_readsCell_166 rfl rfl ?_
  refine gX9_59 C (pc := 167) dX9_readsCell_167 ?_
  refine v_iload C (pc := 170) 3 dX9_readsCell_170 rfl ?_
  refine v_iload C (pc := 172) 4 dX9_readsCell_172 rfl ?_
  refine v_if_eq C (pc := 174) hm 181 dX9_readsCell_174 rfl (fun hm => ?_) (fun hm => ?_)
  · refine v_aload_n C (pc := 181) 0 dX9_readsCell_181 rfl rfl ?_
    refine gX9_59 C (pc := 182) dX9_readsCell_182 ?_
    refine v_iload C (pc := 185) 3 dX9_readsCell_185 rfl ?_
    refine ldX9_pivotX C (pc := 187) hm dX9_readsCell_187 (fun hm => ?_)
    exact v_sub [0, 2, 3, 4] rfl (vX9_readsCell_188 C hr hQ (N := N) hm)
  · refine v_iload_n C (pc := 177) 1 dX9_readsCell_177 rfl rfl ?_
    refine v_goto C (pc := 178) 188 dX9_readsCell_178 rfl ?_
    exact v_sub [0, 2, 3, 4] rfl (vX9_readsCell_188 C hr hQ (N := N) hm)
def fX9_readsCell_91 (N : Nat)  (x1 : Int32) (x2 : Int32) (x3 : Int32) (x6 : Int32) (x7 : Bool) (S : St) : Option (Bool × St) := ck x6 5 (if (S.2.2.1 12 (Int32.toNatClampNeg x6)) = 0 then (fX9_readsCell_118 N x3 x6 x1 x2 x6 x7 S) else (ck x6 5 (fX9_readsCell_118 N (S.2.2.1 15 (Int32.toNatClampNeg x6)) x6 x1 x2 x6 x7 S)))
set_option maxRecDepth 20000 in
theorem vX9_readsCell_91 {p : Program} {l : Launch} {e : Env} {s : State} {m : MethodId} {args : Array Value} {below : List Frame} {meth : Method} {c : Code} {Q : State → Prop} {D : va_G} {ad : Nat → Nat} {cA : Nat → ClassId} (C : Ok p s m args c D cA (mW ad cA) (mA ad) mS RX9 cX9_readsCell 8) (hr : Rt meth (some .boolean)) {r : Bool × St} (hQ : Q = MQ below (Qo D (mW ad cA) (mA ad) (some (.int (b2i r.1))) r.2) args s 0 0 (mA ad)) {N : Nat}  {x1 : Int32} {x2 : Int32} {x3 : Int32} {x6 : Int32} {x7 : Bool}  {S : St} (hm : fX9_readsCell_91 N  x1 x2 x3 x6 x7 S = some r) : V p l e rmX9_readsCell s m args below meth c Q D (mW ad cA) (mA ad) 8 S 91 [(0, .ref (ad 0)), (1, .int x1), (2, .int x2), (3, .int x3), (6, .int x6), (7, .int (b2i x7))] [] := by
  unfold fX9_readsCell_91 at hm
  refine v_aload_n C (pc := 91) 0 dX9_readsCell_91 rfl rfl ?_
  refine gX9_56 C (pc := 92) dX9_readsCell_92 ?_
  refine v_iload C (pc := 95) 4 dX9_readsCell_95 rfl ?_
  refine v_aload_n C (pc := 97) 0 dX9_readsCell_97 rfl rfl ?_
  refine gX9_47 C (pc := 98) dX9_readsCell_98 ?_
  refine v_iload C (pc := 101) 4 dX9_readsCell_101 rfl ?_
  refine ldX9_readCells C (pc := 103) hm dX9_readsCell_103 (fun hm => ?_)
  refine v_if_ne C (pc := 104) hm 111 dX9_readsCell_104 rfl (fun hm => ?_) (fun hm => ?_)
  · refine v_aload_n C (pc := 111) 0 dX9_readsCell_111 rfl rfl ?_
    refine gX9_56 C (pc := 112) dX9_readsCell_112 ?_
    refine v_iload C (pc := 115) 4 dX9_readsCell_115 rfl ?_
    refine ldX9_firstOf C (pc := 117) hm dX9_readsCell_117 (fun hm => ?_)
    exact v_sub [0, 1, 2, 4, 5] rfl (vX9_readsCell_118 C hr hQ (N := N) hm)
  · refine v_iload_n C (pc := 107) 3 dX9_readsCell_107 rfl rfl ?_
    refine v_goto C (pc := 108) 118 dX9_readsCell_108 rfl ?_
    exact v_sub [0, 1, 2, 4, 5] rfl (vX9_readsCell_118 C hr hQ (N := N) hm)
def fX9_readsCell_61 (N : Nat)  (s0 : Bool) (x1 : Int32) (x2 : Int32) (x3 : Int32) (x6 : Int32) (S : St) : Option (Bool × St) := ck x6 5 (if (S.2.2.1 12 (Int32.toNatClampNeg x6)) = 5 then (fX9_readsCell_89 N S) else (if (b2i s0) = 0 then (fX9_readsCell_91 N x1 x2 x3 x6 s0 S) else (ck x6 5 (if (S.2.2.1 16 (Int32.toNatClampNeg x6)) < 0 then (fX9_readsCell_91 N x1 x2 x3 x6 s0 S) else (fX9_readsCell_89 N S)))))
set_option maxRecDepth 20000 in
theorem vX9_readsCell_61 {p : Program} {l : Launch} {e : Env} {s : State} {m : MethodId} {args : Array Value} {below : List Frame} {meth : Method} {c : Code} {Q : State → Prop} {D : va_G} {ad : Nat → Nat} {cA : Nat → ClassId} (C : Ok p s m args c D cA (mW ad cA) (mA ad) mS RX9 cX9_readsCell 8) (hr : Rt meth (some .boolean)) {r : Bool × St} (hQ : Q = MQ below (Qo D (mW ad cA) (mA ad) (some (.int (b2i r.1))) r.2) args s 0 0 (mA ad)) {N : Nat}  {s0 : Bool} {x1 : Int32} {x2 : Int32} {x3 : Int32} {x6 : Int32}  {S : St} (hm : fX9_readsCell_61 N  s0 x1 x2 x3 x6 S = some r) : V p l e rmX9_readsCell s m args below meth c Q D (mW ad cA) (mA ad) 8 S 61 [(0, .ref (ad 0)), (1, .int x1), (2, .int x2), (3, .int x3), (6, .int x6)] [.int (b2i s0)] := by
  unfold fX9_readsCell_61 at hm
  refine v_istore C (pc := 61) [(7, .int (b2i s0)), (0, .ref (ad 0)), (1, .int x1), (2, .int x2), (3, .int x3), (6, .int x6)] dX9_readsCell_61 (by decide) rfl ?_
  refine v_aload_n C (pc := 63) 1 dX9_readsCell_63 rfl rfl ?_
  refine gX9_47 C (pc := 64) dX9_readsCell_64 ?_
  refine v_iload C (pc := 67) 5 dX9_readsCell_67 rfl ?_
  refine ldX9_readCells C (pc := 69) hm dX9_readsCell_69 (fun hm => ?_)
  refine v_iconst C (pc := 70) 5 dX9_readsCell_70 rfl ?_
  refine v_icmp_eq C (pc := 71) hm 89 dX9_readsCell_71 rfl (fun hm => ?_) (fun hm => ?_)
  · exact v_sub [] rfl (vX9_readsCell_89 C hr hQ (N := N) hm)
  · refine v_iload C (pc := 74) 0 dX9_readsCell_74 rfl ?_
    refine v_if_eq C (pc := 76) hm 91 dX9_readsCell_76 rfl (fun hm => ?_) (fun hm => ?_)
    · exact v_sub [1, 2, 3, 4, 5, 0] rfl (vX9_readsCell_91 C hr hQ (N := N) hm)
    · refine v_aload_n C (pc := 79) 1 dX9_readsCell_79 rfl rfl ?_
      refine gX9_59 C (pc := 80) dX9_readsCell_80 ?_
      refine v_iload C (pc := 83) 5 dX9_readsCell_83 rfl ?_
      refine ldX9_pivotX C (pc := 85) hm dX9_readsCell_85 (fun hm => ?_)
      refine v_if_lt C (pc := 86) hm 91 dX9_readsCell_86 rfl (fun hm => ?_) (fun hm => ?_)
      · exact v_sub [1, 2, 3, 4, 5, 0] rfl (vX9_readsCell_91 C hr hQ (N := N) hm)
      · exact v_sub [] rfl (vX9_readsCell_89 C hr hQ (N := N) hm)
def fX9_readsCell (N : Nat) (p1 : Int32) (p2 : Int32) (p3 : Int32) (S : St) : Option (Bool × St) := ck p3 80 (nm (S.2.2.1 10 (Int32.toNatClampNeg p3)) fun y4 => bd (fX9_kindBy N y4 S) fun r5 S16 => if 0 ≤ r5 then (bd (fX9_blockBy N y4 S16) fun r6 S17 => ck ((8 * p2) + p1) 64 (stp (sA S17 11 (Int32.toNatClampNeg ((8 * p2) + p1)) r5) fun S18 => if 0 ≤ r6 then (if 69 < y4 then (fX9_readsCell_61 N false p1 p2 p3 r6 S18) else (fX9_readsCell_61 N true p1 p2 p3 r6 S18)) else (some (true, S18)))) else (some (false, S16)))
set_option maxRecDepth 20000 in
theorem vX9_readsCell {p : Program} {l : Launch} {e : Env} {s : State} {m : MethodId} {args : Array Value} {below : List Frame} {meth : Method} {c : Code} {Q : State → Prop} {D : va_G} {ad : Nat → Nat} {cA : Nat → ClassId} (C : Ok p s m args c D cA (mW ad cA) (mA ad) mS RX9 cX9_readsCell 8) (hr : Rt meth (some .boolean)) {r : Bool × St} (hQ : Q = MQ below (Qo D (mW ad cA) (mA ad) (some (.int (b2i r.1))) r.2) args s 0 0 (mA ad)) {N : Nat} {p1 : Int32} {p2 : Int32} {p3 : Int32} {S : St} (hm : fX9_readsCell N p1 p2 p3 S = some r) : V p l e rmX9_readsCell s m args below meth c Q D (mW ad cA) (mA ad) 8 S 0 [(0, .ref (ad 0)), (1, .int p1), (2, .int p2), (3, .int p3)] [] := by
  unfold fX9_readsCell at hm
  refine v_aload_n C (pc := 0) 0 dX9_readsCell_0 rfl rfl ?_
  refine gX9_40 C (pc := 1) dX9_readsCell_1 ?_
  refine v_iload_n C (pc := 4) 3 dX9_readsCell_4 rfl rfl ?_
  refine ldX9_text C (pc := 5) hm dX9_readsCell_5 (fun hm => ?_)
  refine v_istoreN C (pc := 6) [(0, .ref (ad 0)), (1, .int p1), (2, .int p2), (3, .int p3)] hm dX9_readsCell_6 (by decide) rfl (fun y4 hm => ?_)
  refine v_iload C (pc := 8) 0 dX9_readsCell_8 rfl ?_
  refine kX9_137 C (Nat.le_of_ble_eq_true rfl) (Nat.le_of_ble_eq_true rfl) (pc := 10) hm (Nat.le_of_ble_eq_true rfl) dX9_readsCell_10 (fun r5 S16 hm => ?_)
  refine v_istore C (pc := 13) [(5, .int r5), (4, .int y4), (0, .ref (ad 0)), (1, .int p1), (2, .int p2), (3, .int p3)] dX9_readsCell_13 (by decide) rfl ?_
  refine v_iload C (pc := 15) 0 dX9_readsCell_15 rfl ?_
  refine v_if_ge C (pc := 17) hm 22 dX9_readsCell_17 rfl (fun hm => ?_) (fun hm => ?_)
  · refine v_iload C (pc := 22) 1 dX9_readsCell_22 rfl ?_
    refine kX9_133 C (Nat.le_of_ble_eq_true rfl) (Nat.le_of_ble_eq_true rfl) (pc := 24) hm (Nat.le_of_ble_eq_true rfl) dX9_readsCell_24 (fun r6 S17 hm => ?_)
    refine v_istore C (pc := 27) [(6, .int r6), (5, .int r5), (4, .int y4), (0, .ref (ad 0)), (1, .int p1), (2, .int p2), (3, .int p3)] dX9_readsCell_27 (by decide) rfl ?_
    refine v_aload_n C (pc := 29) 3 dX9_readsCell_29 rfl rfl ?_
    refine gX9_44 C (pc := 30) dX9_readsCell_30 ?_
    refine v_bipush C (pc := 33) 8 dX9_readsCell_33 rfl ?_
    refine v_iload_n C (pc := 35) 5 dX9_readsCell_35 rfl rfl ?_
    refine v_imul C (pc := 36) dX9_readsCell_36 ?_
    refine v_iload_n C (pc := 37) 4 dX9_readsCell_37 rfl rfl ?_
    refine v_iadd C (pc := 38) dX9_readsCell_38 ?_
    refine v_iload C (pc := 39) 1 dX9_readsCell_39 rfl ?_
    refine stX9_readKind C (pc := 41) hm dX9_readsCell_41 (fun S18 hm => ?_)
    refine v_iload C (pc := 42) 0 dX9_readsCell_42 rfl ?_
    refine v_if_ge C (pc := 44) hm 49 dX9_readsCell_44 rfl (fun hm => ?_) (fun hm => ?_)
    · refine v_iload C (pc := 49) 2 dX9_readsCell_49 rfl ?_
      refine v_bipush C (pc := 51) 69 dX9_readsCell_51 rfl ?_
      refine v_icmp_gt C (pc := 53) hm 60 dX9_readsCell_53 rfl (fun hm => ?_) (fun hm => ?_)
      · refine v_iconst C (pc := 60) 0 dX9_readsCell_60 rfl ?_
        exact v_sub [3, 4, 5, 6, 0] rfl (vX9_readsCell_61 C hr hQ (N := N) hm)
      · refine v_iconst C (pc := 56) 1 dX9_readsCell_56 rfl ?_
        refine v_goto C (pc := 57) 61 dX9_readsCell_57 rfl ?_
        exact v_sub [3, 4, 5, 6, 0] rfl (vX9_readsCell_61 C hr hQ (N := N) hm)
    · refine v_iconst C (pc := 47) 1 dX9_readsCell_47 rfl ?_
      exact v_zret C hr hQ (x := true) (pc := 48) hm dX9_readsCell_48
  · refine v_iconst C (pc := 20) 0 dX9_readsCell_20 rfl ?_
    exact v_zret C hr hQ (x := false) (pc := 21) hm dX9_readsCell_21
theorem mX9_readsCell {l : Launch} {D : va_G} {ad : Nat → Nat} {cA : Nat → ClassId} (hD : ∀ S, va_D (mA ad) (mW ad cA S)) {N : Nat} {p1 : Int32} {p2 : Int32} {p3 : Int32} {S : St} {r : Bool × St} (hm : fX9_readsCell N p1 p2 p3 S = some r) : Met l yX9_readsCell (wsm yX9_readsCell cX9_readsCell 8 (some .boolean)) rmX9_readsCell (va_Pc [.ref (ad 0), .int p1, .int p2, .int p3] (Pre D cA (mW ad cA) mS S)) (Qo D (mW ad cA) (mA ad) (some (.int (b2i r.1))) r.2) 0 0 (mA ad) := met_of [.ref (ad 0), .int p1, .int p2, .int p3] (by decide) (Nat.le_of_ble_eq_true rfl) hD (fun _ _ _ _ h => h) (fun _ _ _ _ h => h) (fun p e s m below meth c C hr => vX9_readsCell C hr rfl (N := N)  hm)
-- X9_findFault
theorem infX9_readsCell : InfV yX9_readsCell cX9_readsCell 8 (some .boolean) 3 := ⟨⟨gm (i := 65) (by decide +kernel) rfl, gm (i := 958) (by decide +kernel) rfl, by decide +kernel⟩, gm (i := 957) (by decide +kernel) rfl, gm (i := 19) (by decide +kernel) rfl⟩
theorem kX9_143 {p : Program} {l : Launch} {e : Env} {R : Room} {s : State} {m : MethodId} {args : Array Value} {below : List Frame} {meth : Method} {c : Code} {Q : State → Prop} {D : va_G} {ad : Nat → Nat} {cA : Nat → ClassId} {cc : ByteArray} {nL : Nat} {S : St} {pc : Nat} {lv : List (Nat × Value)} {st : List Value} {ρ : Type} {res : ρ} (C : Ok p s m args c D cA (mW ad cA) (mA ad) mS RX9 cc nL) (hfr : rmX9_readsCell.frames + 1 ≤ R.frames) (hlo : 8 + (8 + 11) + rmX9_readsCell.locals ≤ R.locals) {N : Nat} {p1 : Int32} {p2 : Int32} {p3 : Int32} {E : Bool → St → Option ρ} (hm : bd (fX9_readsCell N p1 p2 p3 S) E = some res) (hcat : (st.map fun v => v.category).sum ≤ 8) (hd : decode cc pc = .ok (.invokevirtual 143, 3)) (k : ∀ r S, E r S = some res → V p l e R s m args below meth c Q D (mW ad cA) (mA ad) nL S (pc + 3) lv (.int (b2i r) :: st)) : V p l e R s m args below meth c Q D (mW ad cA) (mA ad) nL S pc lv (.int p3 :: .int p2 :: .int p1 :: .ref (ad 0) :: st) := by
  obtain ⟨r, S1, h1, h2⟩ := bd_some hm
  exact v_callV C (gm (i := 955) (by decide +kernel) rfl : Cond.methodLink RX9 143 yX9_readsCell ∈ gw_tbl) infX9_readsCell (rm2 := rmX9_readsCell) ⟨rfl, rfl⟩ hfr hlo (mX9_readsCell C.2.2.2.2.2.2.1 h1) (As := [.int p1, .int p2, .int p3]) (oX9 ad cA S) rfl rfl rfl rfl hcat hd (k r S1 h2)
def rmX9_findFault : Room := { frames := 3, cells := 0, slots := 0, locals := 67 }
def fX9_findFault_147 (N : Nat) (k38 : Int32 → Int32 → Int32 → St → Option (Int32 × St)) (x1 : Int32) (x2 : Int32) (x3 : Int32) (S : St) : Option (Int32 × St) := k38 x1 x2 (x3 + 1) S
set_option maxRecDepth 20000 in
theorem vX9_findFault_147 {p : Program} {l : Launch} {e : Env} {s : State} {m : MethodId} {args : Array Value} {below : List Frame} {meth : Method} {c : Code} {Q : State → Prop} {D : va_G} {ad : Nat → Nat} {cA : Nat → ClassId} (C : Ok p s m args c D cA (mW ad cA) (mA ad) mS RX9 cX9_findFault 6) (hr : Rt meth (some .int)) {r : Int32 × St} (hQ : Q = MQ below (Qo D (mW ad cA) (mA ad) (some (.int r.1)) r.2) args s 0 0 (mA ad)) {N : Nat} {k38 : Int32 → Int32 → Int32 → St → Option (Int32 × St)} (hk38 : ∀ (x1 : Int32) (x2 : Int32) (x3 : Int32) (S : St), k38 x1 x2 x3 S = some r → V p l e rmX9_findFault s m args below meth c Q D (mW ad cA) (mA ad) 6 S 38 [(0, .ref (ad 0)), (1, .int x1), (2, .int x2), (3, .int x3)] []) {x1 : Int32} {x2 : Int32} {x3 : Int32}  {S : St} (hm : fX9_findFault_147 N k38 x1 x2 x3 S = some r) : V p l e rmX9_findFault s m args below meth c Q D (mW ad cA) (mA ad) 6 S 147 [(0, .ref (ad 0)), (1, .int x1), (2, .int x2), (3, .int x3)] [] := by
  unfold fX9_findFault_147 at hm
  refine v_iinc C (pc := 147) 1 3 [(3, .int (x3 + 1)), (0, .ref (ad 0)), (1, .int x1), (2, .int x2)] dX9_findFault_147 rfl rfl (by decide) rfl ?_
  refine v_goto C (pc := 150) 38 dX9_findFault_150 rfl ?_
  exact v_sub [1, 2, 3, 0] rfl (hk38 _ _ _ _ hm)
def fX9_findFault_142 (N : Nat)  (x3 : Int32) (S : St) : Option (Int32 × St) := some (x3, S)
set_option maxRecDepth 20000 in
theorem vX9_findFault_142 {p : Program} {l : Launch} {e : Env} {s : State} {m : MethodId} {args : Array Value} {below : List Frame} {meth : Method} {c : Code} {Q : State → Prop} {D : va_G} {ad : Nat → Nat} {cA : Nat → ClassId} (C : Ok p s m args c D cA (mW ad cA) (mA ad) mS RX9 cX9_findFault 6) (hr : Rt meth (some .int)) {r : Int32 × St} (hQ : Q = MQ below (Qo D (mW ad cA) (mA ad) (some (.int r.1)) r.2) args s 0 0 (mA ad)) {N : Nat}  {x3 : Int32}  {S : St} (hm : fX9_findFault_142 N  x3 S = some r) : V p l e rmX9_findFault s m args below meth c Q D (mW ad cA) (mA ad) 6 S 142 [(3, .int x3)] [] := by
  unfold fX9_findFault_142 at hm
  refine v_iload_n C (pc := 142) 0 dX9_findFault_142 rfl rfl ?_
  exact v_iret C hr hQ (pc := 143) hm dX9_findFault_143
def fX9_findFault_129 (N : Nat) (k38 : Int32 → Int32 → Int32 → St → Option (Int32 × St)) (s0 : Int32) (s1 : Int32) (x1 : Int32) (x2 : Int32) (x3 : Int32) (S : St) : Option (Int32 × St) := if s1 = s0 then (fX9_findFault_142 N x3 S) else (bd (fX9_readsCell N x1 x2 x3 S) fun r3 S18 => if (b2i r3) = 0 then (fX9_findFault_142 N x3 S18) else (fX9_findFault_147 N k38 (x1 + 1) x2 x3 S18))
set_option maxRecDepth 20000 in
theorem vX9_findFault_129 {p : Program} {l : Launch} {e : Env} {s : State} {m : MethodId} {args : Array Value} {below : List Frame} {meth : Method} {c : Code} {Q : State → Prop} {D : va_G} {ad : Nat → Nat} {cA : Nat → ClassId} (C : Ok p s m args c D cA (mW ad cA) (mA ad) mS RX9 cX9_findFault 6) (hr : Rt meth (some .int)) {r : Int32 × St} (hQ : Q = MQ below (Qo D (mW ad cA) (mA ad) (some (.int r.1)) r.2) args s 0 0 (mA ad)) {N : Nat} {k38 : Int32 → Int32 → Int32 → St → Option (Int32 × St)} (hk38 : ∀ (x1 : Int32) (x2 : Int32) (x3 : Int32) (S : St), k38 x1 x2 x3 S = some r → V p l e rmX9_findFault s m args below meth c Q D (mW ad cA) (mA ad) 6 S 38 [(0, .ref (ad 0)), (1, .int x1), (2, .int x2), (3, .int x3)] []) {s0 : Int32} {s1 : Int32} {x1 : Int32} {x2 : Int32} {x3 : Int32}  {S : St} (hm : fX9_findFault_129 N k38 s0 s1 x1 x2 x3 S = some r) : V p l e rmX9_findFault s m args below meth c Q D (mW ad cA) (mA ad) 6 S 129 [(0, .ref (ad 0)), (1, .int x1), (2, .int x2), (3, .int x3)] [.int s0, .int s1] := by
  unfold fX9_findFault_129 at hm
  refine v_icmp_eq C (pc := 129) hm 142 dX9_findFault_129 rfl (fun hm => ?_) (fun hm => ?_)
  · exact v_sub [3] rfl (vX9_findFault_142 C hr hQ (N := N) hm)
  · refine v_aload_n C (pc := 132) 0 dX9_findFault_132 rfl rfl ?_
    refine v_iload_n C (pc := 133) 1 dX9_findFault_133 rfl rfl ?_
    refine v_iload_n C (pc := 134) 2 dX9_findFault_134 rfl rfl ?_
    refine v_iload_n C (pc := 135) 3 dX9_findFault_135 rfl rfl ?_
    refine kX9_143 C (Nat.le_of_ble_eq_true rfl) (Nat.le_of_ble_eq_true rfl) (pc := 136) hm (Nat.le_of_ble_eq_true rfl) dX9_findFault_136 (fun r3 S18 hm => ?_)
    refine v_if_ne C (pc := 139) hm 144 dX9_findFault_139 rfl (fun hm => ?_) (fun hm => ?_)
    · refine v_iinc C (pc := 144) 1 1 [(1, .int (x1 + 1)), (0, .ref (ad 0)), (2, .int x2), (3, .int x3)] dX9_findFault_144 rfl rfl (by decide) rfl ?_
      exact v_sub [1, 0, 2, 3] rfl (vX9_findFault_147 C hr hQ (N := N) hk38 hm)
    · exact v_sub [3] rfl (vX9_findFault_142 C hr hQ (N := N) hm)
def fX9_findFault_173 (N : Nat)   (S : St) : Option (Int32 × St) := some ((S.1 3), S)
set_option maxRecDepth 20000 in
theorem vX9_findFault_173 {p : Program} {l : Launch} {e : Env} {s : State} {m : MethodId} {args : Array Value} {below : List Frame} {meth : Method} {c : Code} {Q : State → Prop} {D : va_G} {ad : Nat → Nat} {cA : Nat → ClassId} (C : Ok p s m args c D cA (mW ad cA) (mA ad) mS RX9 cX9_findFault 6) (hr : Rt meth (some .int)) {r : Int32 × St} (hQ : Q = MQ below (Qo D (mW ad cA) (mA ad) (some (.int r.1)) r.2) args s 0 0 (mA ad)) {N : Nat}    {S : St} (hm : fX9_findFault_173 N   S = some r) : V p l e rmX9_findFault s m args below meth c Q D (mW ad cA) (mA ad) 6 S 173 [(0, .ref (ad 0))] [] := by
  unfold fX9_findFault_173 at hm
  refine v_aload_n C (pc := 173) 0 dX9_findFault_173 rfl rfl ?_
  refine gX9_130 C (pc := 174) dX9_findFault_174 ?_
  exact v_iret C hr hQ (pc := 177) hm dX9_findFault_177
def fX9_findFault_100 (N : Nat)  (x3 : Int32) (S : St) : Option (Int32 × St) := some (x3, S)
set_option maxRecDepth 20000 in
theorem vX9_findFault_100 {p : Program} {l : Launch} {e : Env} {s : State} {m : MethodId} {args : Array Value} {below : List Frame} {meth : Method} {c : Code} {Q : State → Prop} {D : va_G} {ad : Nat → Nat} {cA : Nat → ClassId} (C : Ok p s m args c D cA (mW ad cA) (mA ad) mS RX9 cX9_findFault 6) (hr : Rt meth (some .int)) {r : Int32 × St} (hQ : Q = MQ below (Qo D (mW ad cA) (mA ad) (some (.int r.1)) r.2) args s 0 0 (mA ad)) {N : Nat}  {x3 : Int32}  {S : St} (hm : fX9_findFault_100 N  x3 S = some r) : V p l e rmX9_findFault s m args below meth c Q D (mW ad cA) (mA ad) 6 S 100 [(3, .int x3)] [] := by
  unfold fX9_findFault_100 at hm
  refine v_iload_n C (pc := 100) 0 dX9_findFault_100 rfl rfl ?_
  exact v_iret C hr hQ (pc := 101) hm dX9_findFault_101
def fX9_findFault_87 (N : Nat) (k38 : Int32 → Int32 → Int32 → St → Option (Int32 × St)) (s0 : Bool) (x1 : Int32) (x2 : Int32) (x3 : Int32) (S : St) : Option (Int32 × St) := if (b2i s0) = 0 then (fX9_findFault_100 N x3 S) else (if x2 = 7 then (fX9_findFault_100 N x3 S) else (stp (sI S 4 x1) fun S17 => fX9_findFault_147 N k38 0 (x2 + 1) x3 S17))
set_option maxRecDepth 20000 in
theorem vX9_findFault_87 {p : Program} {l : Launch} {e : Env} {s : State} {m : MethodId} {args : Array Value} {below : List Frame} {meth : Method} {c : Code} {Q : State → Prop} {D : va_G} {ad : Nat → Nat} {cA : Nat → ClassId} (C : Ok p s m args c D cA (mW ad cA) (mA ad) mS RX9 cX9_findFault 6) (hr : Rt meth (some .int)) {r : Int32 × St} (hQ : Q = MQ below (Qo D (mW ad cA) (mA ad) (some (.int r.1)) r.2) args s 0 0 (mA ad)) {N : Nat} {k38 : Int32 → Int32 → Int32 → St → Option (Int32 × St)} (hk38 : ∀ (x1 : Int32) (x2 : Int32) (x3 : Int32) (S : St), k38 x1 x2 x3 S = some r → V p l e rmX9_findFault s m args below meth c Q D (mW ad cA) (mA ad) 6 S 38 [(0, .ref (ad 0)), (1, .int x1), (2, .int x2), (3, .int x3)] []) {s0 : Bool} {x1 : Int32} {x2 : Int32} {x3 : Int32}  {S : St} (hm : fX9_findFault_87 N k38 s0 x1 x2 x3 S = some r) : V p l e rmX9_findFault s m args below meth c Q D (mW ad cA) (mA ad) 6 S 87 [(0, .ref (ad 0)), (1, .int x1), (2, .int x2), (3, .int x3)] [.int (b2i s0)] := by
  unfold fX9_findFault_87 at hm
  refine v_istore C (pc := 87) [(4, .int (b2i s0)), (0, .ref (ad 0)), (1, .int x1), (2, .int x2), (3, .int x3)] dX9_findFault_87 (by decide) rfl ?_
  refine v_iload C (pc := 89) 0 dX9_findFault_89 rfl ?_
  refine v_if_eq C (pc := 91) hm 100 dX9_findFault_91 rfl (fun hm => ?_) (fun hm => ?_)
  · exact v_sub [4] rfl (vX9_findFault_100 C hr hQ (N := N) hm)
  · refine v_iload_n C (pc := 94) 3 dX9_findFault_94 rfl rfl ?_
    refine v_bipush C (pc := 95) 7 dX9_findFault_95 rfl ?_
    refine v_icmp_ne C (pc := 97) hm 102 dX9_findFault_97 rfl (fun hm => ?_) (fun hm => ?_)
    · refine v_aload_n C (pc := 102) 1 dX9_findFault_102 rfl rfl ?_
      refine v_iload_n C (pc := 103) 2 dX9_findFault_103 rfl rfl ?_
      refine pX9_140 C (pc := 104) hm dX9_findFault_104 (fun S17 hm => ?_)
      refine v_iconst C (pc := 107) 0 dX9_findFault_107 rfl ?_
      refine v_istore_n C (pc := 108) [(1, .int 0), (4, .int (b2i s0)), (0, .ref (ad 0)), (2, .int x2), (3, .int x3)] dX9_findFault_108 rfl (by decide) rfl ?_
      refine v_iinc C (pc := 109) 1 3 [(2, .int (x2 + 1)), (1, .int 0), (4, .int (b2i s0)), (0, .ref (ad 0)), (3, .int x3)] dX9_findFault_109 rfl rfl (by decide) rfl ?_
      refine v_goto C (pc := 112) 147 dX9_findFault_112 rfl ?_
      exact v_sub [3, 1, 0, 4] rfl (vX9_findFault_147 C hr hQ (N := N) hk38 hm)
    · exact v_sub [4] rfl (vX9_findFault_100 C hr hQ (N := N) hm)
def fX9_findFault_247 (N : Nat) (k183 : Int32 → Int32 → St → Option (Int32 × St)) (s0 : Int32) (x4 : Int32) (S : St) : Option (Int32 × St) := k183 s0 (x4 + 1) S
set_option maxRecDepth 20000 in
theorem vX9_findFault_247 {p : Program} {l : Launch} {e : Env} {s : State} {m : MethodId} {args : Array Value} {below : List Frame} {meth : Method} {c : Code} {Q : State → Prop} {D : va_G} {ad : Nat → Nat} {cA : Nat → ClassId} (C : Ok p s m args c D cA (mW ad cA) (mA ad) mS RX9 cX9_findFault 6) (hr : Rt meth (some .int)) {r : Int32 × St} (hQ : Q = MQ below (Qo D (mW ad cA) (mA ad) (some (.int r.1)) r.2) args s 0 0 (mA ad)) {N : Nat} {k183 : Int32 → Int32 → St → Option (Int32 × St)} (hk183 : ∀ (x3 : Int32) (x4 : Int32) (S : St), k183 x3 x4 S = some r → V p l e rmX9_findFault s m args below meth c Q D (mW ad cA) (mA ad) 6 S 183 [(0, .ref (ad 0)), (3, .int x3), (4, .int x4)] []) {s0 : Int32} {x4 : Int32}  {S : St} (hm : fX9_findFault_247 N k183 s0 x4 S = some r) : V p l e rmX9_findFault s m args below meth c Q D (mW ad cA) (mA ad) 6 S 247 [(0, .ref (ad 0)), (4, .int x4)] [.int s0] := by
  unfold fX9_findFault_247 at hm
  refine v_istore_n C (pc := 247) [(3, .int s0), (0, .ref (ad 0)), (4, .int x4)] dX9_findFault_247 rfl (by decide) rfl ?_
  refine v_iinc C (pc := 248) 1 2 [(4, .int (x4 + 1)), (3, .int s0), (0, .ref (ad 0))] dX9_findFault_248 rfl rfl (by decide) rfl ?_
  refine v_goto C (pc := 251) 183 dX9_findFault_251 rfl ?_
  exact v_sub [2, 1, 0] rfl (hk183 _ _ _ hm)
def fX9_findFault_236 (N : Nat) (k183 : Int32 → Int32 → St → Option (Int32 × St)) (x4 : Int32) (S : St) : Option (Int32 × St) := ck x4 5 (fX9_findFault_247 N k183 (S.2.2.1 15 (Int32.toNatClampNeg x4)) x4 S)
set_option maxRecDepth 20000 in
theorem vX9_findFault_236 {p : Program} {l : Launch} {e : Env} {s : State} {m : MethodId} {args : Array Value} {below : List Frame} {meth : Method} {c : Code} {Q : State → Prop} {D : va_G} {ad : Nat → Nat} {cA : Nat → ClassId} (C : Ok p s m args c D cA (mW ad cA) (mA ad) mS RX9 cX9_findFault 6) (hr : Rt meth (some .int)) {r : Int32 × St} (hQ : Q = MQ below (Qo D (mW ad cA) (mA ad) (some (.int r.1)) r.2) args s 0 0 (mA ad)) {N : Nat} {k183 : Int32 → Int32 → St → Option (Int32 × St)} (hk183 : ∀ (x3 : Int32) (x4 : Int32) (S : St), k183 x3 x4 S = some r → V p l e rmX9_findFault s m args below meth c Q D (mW ad cA) (mA ad) 6 S 183 [(0, .ref (ad 0)), (3, .int x3), (4, .int x4)] []) {x4 : Int32}  {S : St} (hm : fX9_findFault_236 N k183 x4 S = some r) : V p l e rmX9_findFault s m args below meth c Q D (mW ad cA) (mA ad) 6 S 236 [(0, .ref (ad 0)), (4, .int x4)] [] := by
  unfold fX9_findFault_236 at hm
  refine v_aload_n C (pc := 236) 0 dX9_findFault_236 rfl rfl ?_
  refine gX9_56 C (pc := 237) dX9_findFault_237 ?_
  refine v_iload C (pc := 240) 1 dX9_findFault_240 rfl ?_
  refine ldX9_firstOf C (pc := 242) hm dX9_findFault_242 (fun hm => ?_)
  refine v_goto C (pc := 243) 247 dX9_findFault_243 rfl ?_
  exact (vX9_findFault_247 C hr hQ (N := N) hk183 hm)
def fX9_findFault_246 (N : Nat) (k183 : Int32 → Int32 → St → Option (Int32 × St)) (x3 : Int32) (x4 : Int32) (S : St) : Option (Int32 × St) := fX9_findFault_247 N k183 x3 x4 S
set_option maxRecDepth 20000 in
theorem vX9_findFault_246 {p : Program} {l : Launch} {e : Env} {s : State} {m : MethodId} {args : Array Value} {below : List Frame} {meth : Method} {c : Code} {Q : State → Prop} {D : va_G} {ad : Nat → Nat} {cA : Nat → ClassId} (C : Ok p s m args c D cA (mW ad cA) (mA ad) mS RX9 cX9_findFault 6) (hr : Rt meth (some .int)) {r : Int32 × St} (hQ : Q = MQ below (Qo D (mW ad cA) (mA ad) (some (.int r.1)) r.2) args s 0 0 (mA ad)) {N : Nat} {k183 : Int32 → Int32 → St → Option (Int32 × St)} (hk183 : ∀ (x3 : Int32) (x4 : Int32) (S : St), k183 x3 x4 S = some r → V p l e rmX9_findFault s m args below meth c Q D (mW ad cA) (mA ad) 6 S 183 [(0, .ref (ad 0)), (3, .int x3), (4, .int x4)] []) {x3 : Int32} {x4 : Int32}  {S : St} (hm : fX9_findFault_246 N k183 x3 x4 S = some r) : V p l e rmX9_findFault s m args below meth c Q D (mW ad cA) (mA ad) 6 S 246 [(0, .ref (ad 0)), (3, .int x3), (4, .int x4)] [] := by
  unfold fX9_findFault_246 at hm
  refine v_iload_n C (pc := 246) 1 dX9_findFault_246 rfl rfl ?_
  exact v_sub [0, 2] rfl (vX9_findFault_247 C hr hQ (N := N) hk183 hm)
def fX9_findFault_214 (N : Nat) (k183 : Int32 → Int32 → St → Option (Int32 × St)) (s0 : Bool) (x3 : Int32) (x4 : Int32) (S : St) : Option (Int32 × St) := if (b2i s0) = 0 then (fX9_findFault_246 N k183 x3 x4 S) else (if x3 < 0 then (fX9_findFault_236 N k183 x4 S) else (ck x4 5 (if x3 ≤ (S.2.2.1 15 (Int32.toNatClampNeg x4)) then (fX9_findFault_246 N k183 x3 x4 S) else (fX9_findFault_236 N k183 x4 S))))
set_option maxRecDepth 20000 in
theorem vX9_findFault_214 {p : Program} {l : Launch} {e : Env} {s : State} {m : MethodId} {args : Array Value} {below : List Frame} {meth : Method} {c : Code} {Q : State → Prop} {D : va_G} {ad : Nat → Nat} {cA : Nat → ClassId} (C : Ok p s m args c D cA (mW ad cA) (mA ad) mS RX9 cX9_findFault 6) (hr : Rt meth (some .int)) {r : Int32 × St} (hQ : Q = MQ below (Qo D (mW ad cA) (mA ad) (some (.int r.1)) r.2) args s 0 0 (mA ad)) {N : Nat} {k183 : Int32 → Int32 → St → Option (Int32 × St)} (hk183 : ∀ (x3 : Int32) (x4 : Int32) (S : St), k183 x3 x4 S = some r → V p l e rmX9_findFault s m args below meth c Q D (mW ad cA) (mA ad) 6 S 183 [(0, .ref (ad 0)), (3, .int x3), (4, .int x4)] []) {s0 : Bool} {x3 : Int32} {x4 : Int32}  {S : St} (hm : fX9_findFault_214 N k183 s0 x3 x4 S = some r) : V p l e rmX9_findFault s m args below meth c Q D (mW ad cA) (mA ad) 6 S 214 [(0, .ref (ad 0)), (3, .int x3), (4, .int x4)] [.int (b2i s0)] := by
  unfold fX9_findFault_214 at hm
  refine v_istore C (pc := 214) [(5, .int (b2i s0)), (0, .ref (ad 0)), (3, .int x3), (4, .int x4)] dX9_findFault_214 (by decide) rfl ?_
  refine v_iload C (pc := 216) 0 dX9_findFault_216 rfl ?_
  refine v_if_eq C (pc := 218) hm 246 dX9_findFault_218 rfl (fun hm => ?_) (fun hm => ?_)
  · exact v_sub [1, 2, 3] rfl (vX9_findFault_246 C hr hQ (N := N) hk183 hm)
  · refine v_iload_n C (pc := 221) 2 dX9_findFault_221 rfl rfl ?_
    refine v_if_lt C (pc := 222) hm 236 dX9_findFault_222 rfl (fun hm => ?_) (fun hm => ?_)
    · exact v_sub [1, 3] rfl (vX9_findFault_236 C hr hQ (N := N) hk183 hm)
    · refine v_aload_n C (pc := 225) 1 dX9_findFault_225 rfl rfl ?_
      refine gX9_56 C (pc := 226) dX9_findFault_226 ?_
      refine v_iload C (pc := 229) 3 dX9_findFault_229 rfl ?_
      refine ldX9_firstOf C (pc := 231) hm dX9_findFault_231 (fun hm => ?_)
      refine v_iload_n C (pc := 232) 2 dX9_findFault_232 rfl rfl ?_
      refine v_icmp_ge C (pc := 233) hm 246 dX9_findFault_233 rfl (fun hm => ?_) (fun hm => ?_)
      · exact v_sub [1, 2, 3] rfl (vX9_findFault_246 C hr hQ (N := N) hk183 hm)
      · exact v_sub [1, 3] rfl (vX9_findFault_236 C hr hQ (N := N) hk183 hm)
def fX9_findFault_213 (N : Nat) (k183 : Int32 → Int32 → St → Option (Int32 × St)) (x3 : Int32) (x4 : Int32) (S : St) : Option (Int32 × St) := fX9_findFault_214 N k183 false x3 x4 S
set_option maxRecDepth 20000 in
theorem vX9_findFault_213 {p : Program} {l : Launch} {e : Env} {s : State} {m : MethodId} {args : Array Value} {below : List Frame} {meth : Method} {c : Code} {Q : State → Prop} {D : va_G} {ad : Nat → Nat} {cA : Nat → ClassId} (C : Ok p s m args c D cA (mW ad cA) (mA ad) mS RX9 cX9_findFault 6) (hr : Rt meth (some .int)) {r : Int32 × St} (hQ : Q = MQ below (Qo D (mW ad cA) (mA ad) (some (.int r.1)) r.2) args s 0 0 (mA ad)) {N : Nat} {k183 : Int32 → Int32 → St → Option (Int32 × St)} (hk183 : ∀ (x3 : Int32) (x4 : Int32) (S : St), k183 x3 x4 S = some r → V p l e rmX9_findFault s m args below meth c Q D (mW ad cA) (mA ad) 6 S 183 [(0, .ref (ad 0)), (3, .int x3), (4, .int x4)] []) {x3 : Int32} {x4 : Int32}  {S : St} (hm : fX9_findFault_213 N k183 x3 x4 S = some r) : V p l e rmX9_findFault s m args below meth c Q D (mW ad cA) (mA ad) 6 S 213 [(0, .ref (ad 0)), (3, .int x3), (4, .int x4)] [] := by
  unfold fX9_findFault_213 at hm
  refine v_iconst C (pc := 213) 0 dX9_findFault_213 rfl ?_
  exact (vX9_findFault_214 C hr hQ (N := N) hk183 hm)
def fX9_findFault_183b (N : Nat)  (k183 : Int32 → Int32 → St → Option (Int32 × St)) (x3 : Int32) (x4 : Int32) (S : St) : Option (Int32 × St) := if 5 ≤ x4 then (some (x3, S)) else (ck x4 5 (if (S.2.2.1 12 (Int32.toNatClampNeg x4)) ≤ 0 then (fX9_findFault_213 N k183 x3 x4 S) else (ck x4 5 (if 0 ≤ (S.2.2.1 16 (Int32.toNatClampNeg x4)) then (fX9_findFault_213 N k183 x3 x4 S) else (fX9_findFault_214 N k183 true x3 x4 S)))))
def fX9_findFault_183 (N : Nat)  : Nat → Int32 → Int32 → St → Option (Int32 × St)
  | 0 => fun _ _ _ => none
  | n + 1 => fun x3 x4 S => fX9_findFault_183b N  (fX9_findFault_183 N  n) x3 x4 S
set_option maxRecDepth 20000 in
theorem vX9_findFault_183b {p : Program} {l : Launch} {e : Env} {s : State} {m : MethodId} {args : Array Value} {below : List Frame} {meth : Method} {c : Code} {Q : State → Prop} {D : va_G} {ad : Nat → Nat} {cA : Nat → ClassId} (C : Ok p s m args c D cA (mW ad cA) (mA ad) mS RX9 cX9_findFault 6) (hr : Rt meth (some .int)) {r : Int32 × St} (hQ : Q = MQ below (Qo D (mW ad cA) (mA ad) (some (.int r.1)) r.2) args s 0 0 (mA ad)) {N : Nat}  {k183 : Int32 → Int32 → St → Option (Int32 × St)} (hk183 : ∀ (x3 : Int32) (x4 : Int32) (S : St), k183 x3 x4 S = some r → V p l e rmX9_findFault s m args below meth c Q D (mW ad cA) (mA ad) 6 S 183 [(0, .ref (ad 0)), (3, .int x3), (4, .int x4)] []) {x3 : Int32} {x4 : Int32}  {S : St} (hm : fX9_findFault_183b N  k183 x3 x4 S = some r) : V p l e rmX9_findFault s m args below meth c Q D (mW ad cA) (mA ad) 6 S 183 [(0, .ref (ad 0)), (3, .int x3), (4, .int x4)] [] := by
  unfold fX9_findFault_183b at hm
  refine v_iload C (pc := 183) 2 dX9_findFault_183 rfl ?_
  refine v_iconst C (pc := 185) 5 dX9_findFault_185 rfl ?_
  refine v_icmp_ge C (pc := 186) hm 254 dX9_findFault_186 rfl (fun hm => ?_) (fun hm => ?_)
  · refine v_iload_n C (pc := 254) 1 dX9_findFault_254 rfl rfl ?_
    exact v_iret C hr hQ (pc := 255) hm dX9_findFault_255
  · refine v_aload_n C (pc := 189) 0 dX9_findFault_189 rfl rfl ?_
    refine gX9_47 C (pc := 190) dX9_findFault_190 ?_
    refine v_iload C (pc := 193) 2 dX9_findFault_193 rfl ?_
    refine ldX9_readCells C (pc := 195) hm dX9_findFault_195 (fun hm => ?_)
    refine v_if_le C (pc := 196) hm 213 dX9_findFault_196 rfl (fun hm => ?_) (fun hm => ?_)
    · exact (vX9_findFault_213 C hr hQ (N := N) hk183 hm)
    · refine v_aload_n C (pc := 199) 0 dX9_findFault_199 rfl rfl ?_
      refine gX9_59 C (pc := 200) dX9_findFault_200 ?_
      refine v_iload C (pc := 203) 2 dX9_findFault_203 rfl ?_
      refine ldX9_pivotX C (pc := 205) hm dX9_findFault_205 (fun hm => ?_)
      refine v_if_ge C (pc := 206) hm 213 dX9_findFault_206 rfl (fun hm => ?_) (fun hm => ?_)
      · exact (vX9_findFault_213 C hr hQ (N := N) hk183 hm)
      · refine v_iconst C (pc := 209) 1 dX9_findFault_209 rfl ?_
        refine v_goto C (pc := 210) 214 dX9_findFault_210 rfl ?_
        exact (vX9_findFault_214 C hr hQ (N := N) hk183 hm)
theorem vX9_findFault_183 {p : Program} {l : Launch} {e : Env} {s : State} {m : MethodId} {args : Array Value} {below : List Frame} {meth : Method} {c : Code} {Q : State → Prop} {D : va_G} {ad : Nat → Nat} {cA : Nat → ClassId} (C : Ok p s m args c D cA (mW ad cA) (mA ad) mS RX9 cX9_findFault 6) (hr : Rt meth (some .int)) {r : Int32 × St} (hQ : Q = MQ below (Qo D (mW ad cA) (mA ad) (some (.int r.1)) r.2) args s 0 0 (mA ad)) {N : Nat}  (n : Nat) : ∀ (x3 : Int32) (x4 : Int32) (S : St), fX9_findFault_183 N  n x3 x4 S = some r → V p l e rmX9_findFault s m args below meth c Q D (mW ad cA) (mA ad) 6 S 183 [(0, .ref (ad 0)), (3, .int x3), (4, .int x4)] [] := by
  induction n with
  | zero => intro _ _ _  hm; exact absurd hm (by intro h; cases h)
  | succ n ih => intro _ _ _  hm; exact vX9_findFault_183b C hr hQ (N := N)   ih  hm
def fX9_findFault_38b (N : Nat)  (k38 : Int32 → Int32 → Int32 → St → Option (Int32 × St)) (x1 : Int32) (x2 : Int32) (x3 : Int32) (S : St) : Option (Int32 × St) := if (S.1 3) ≤ x3 then (stp (sI S 5 (x2 + 1)) fun S16 => if x2 < 2 then (fX9_findFault_173 N S16) else (if (S16.1 4) ≤ x1 then (fX9_findFault_183 N N (-1) 0 S16) else (fX9_findFault_173 N S16))) else (ck x3 80 (if (S.2.2.1 10 (Int32.toNatClampNeg x3)) = 47 then (if x2 = 0 then (if x1 < 3 then (fX9_findFault_87 N k38 false x1 x2 x3 S) else (fX9_findFault_87 N k38 true x1 x2 x3 S)) else (if x1 = (S.1 4) then (fX9_findFault_87 N k38 true x1 x2 x3 S) else (fX9_findFault_87 N k38 false x1 x2 x3 S))) else (if x2 = 0 then (fX9_findFault_129 N k38 8 x1 x1 x2 x3 S) else (fX9_findFault_129 N k38 (S.1 4) x1 x1 x2 x3 S))))
def fX9_findFault_38 (N : Nat)  : Nat → Int32 → Int32 → Int32 → St → Option (Int32 × St)
  | 0 => fun _ _ _ _ => none
  | n + 1 => fun x1 x2 x3 S => fX9_findFault_38b N  (fX9_findFault_38 N  n) x1 x2 x3 S
set_option maxRecDepth 20000 in
theorem vX9_findFault_38b {p : Program} {l : Launch} {e : Env} {s : State} {m : MethodId} {args : Array Value} {below : List Frame} {meth : Method} {c : Code} {Q : State → Prop} {D : va_G} {ad : Nat → Nat} {cA : Nat → ClassId} (C : Ok p s m args c D cA (mW ad cA) (mA ad) mS RX9 cX9_findFault 6) (hr : Rt meth (some .int)) {r : Int32 × St} (hQ : Q = MQ below (Qo D (mW ad cA) (mA ad) (some (.int r.1)) r.2) args s 0 0 (mA ad)) {N : Nat}  {k38 : Int32 → Int32 → Int32 → St → Option (Int32 × St)} (hk38 : ∀ (x1 : Int32) (x2 : Int32) (x3 : Int32) (S : St), k38 x1 x2 x3 S = some r → V p l e rmX9_findFault s m args below meth c Q D (mW ad cA) (mA ad) 6 S 38 [(0, .ref (ad 0)), (1, .int x1), (2, .int x2), (3, .int x3)] []) {x1 : Int32} {x2 : Int32} {x3 : Int32}  {S : St} (hm : fX9_findFault_38b N  k38 x1 x2 x3 S = some r) : V p l e rmX9_findFault s m args below meth c Q D (mW ad cA) (mA ad) 6 S 38 [(0, .ref (ad 0)), (1, .int x1), (2, .int x2), (3, .int x3)] [] := by
  unfold fX9_findFault_38b at hm
  refine v_iload_n C (pc := 38) 3 dX9_findFault_38 rfl rfl ?_
  refine v_aload_n C (pc := 39) 0 dX9_findFault_39 rfl rfl ?_
  refine gX9_130 C (pc := 40) dX9_findFault_40 ?_
  refine v_icmp_ge C (pc := 43) hm 153 dX9_findFault_43 rfl (fun hm => ?_) (fun hm => ?_)
  · refine v_aload_n C (pc := 153) 0 dX9_findFault_153 rfl rfl ?_
    refine v_iload_n C (pc := 154) 2 dX9_findFault_154 rfl rfl ?_
    refine v_iconst C (pc := 155) 1 dX9_findFault_155 rfl ?_
    refine v_iadd C (pc := 156) dX9_findFault_156 ?_
    refine pX9_146 C (pc := 157) hm dX9_findFault_157 (fun S16 hm => ?_)
    refine v_iload_n C (pc := 160) 2 dX9_findFault_160 rfl rfl ?_
    refine v_iconst C (pc := 161) 2 dX9_findFault_161 rfl ?_
    refine v_icmp_lt C (pc := 162) hm 173 dX9_findFault_162 rfl (fun hm => ?_) (fun hm => ?_)
    · exact v_sub [0] rfl (vX9_findFault_173 C hr hQ (N := N) hm)
    · refine v_iload_n C (pc := 165) 1 dX9_findFault_165 rfl rfl ?_
      refine v_aload_n C (pc := 166) 0 dX9_findFault_166 rfl rfl ?_
      refine gX9_140 C (pc := 167) dX9_findFault_167 ?_
      refine v_icmp_ge C (pc := 170) hm 178 dX9_findFault_170 rfl (fun hm => ?_) (fun hm => ?_)
      · refine v_iconst C (pc := 178) (-1) dX9_findFault_178 rfl ?_
        refine v_istore_n C (pc := 179) [(3, .int (-1)), (0, .ref (ad 0)), (1, .int x1), (2, .int x2)] dX9_findFault_179 rfl (by decide) rfl ?_
        refine v_iconst C (pc := 180) 0 dX9_findFault_180 rfl ?_
        refine v_istore C (pc := 181) [(4, .int 0), (3, .int (-1)), (0, .ref (ad 0)), (1, .int x1), (2, .int x2)] dX9_findFault_181 (by decide) rfl ?_
        exact v_sub [2, 1, 0] rfl (vX9_findFault_183 C hr hQ (N := N) N _ _ _ hm)
      · exact v_sub [0] rfl (vX9_findFault_173 C hr hQ (N := N) hm)
  · refine v_aload_n C (pc := 46) 0 dX9_findFault_46 rfl rfl ?_
    refine gX9_40 C (pc := 47) dX9_findFault_47 ?_
    refine v_iload_n C (pc := 50) 3 dX9_findFault_50 rfl rfl ?_
    refine ldX9_text C (pc := 51) hm dX9_findFault_51 (fun hm => ?_)
    refine v_bipush C (pc := 52) 47 dX9_findFault_52 rfl ?_
    refine v_icmp_ne C (pc := 54) hm 115 dX9_findFault_54 rfl (fun hm => ?_) (fun hm => ?_)
    · refine v_iload_n C (pc := 115) 1 dX9_findFault_115 rfl rfl ?_
      refine v_iload_n C (pc := 116) 2 dX9_findFault_116 rfl rfl ?_
      refine v_if_ne C (pc := 117) hm 125 dX9_findFault_117 rfl (fun hm => ?_) (fun hm => ?_)
      · refine v_aload_n C (pc := 125) 0 dX9_findFault_125 rfl rfl ?_
        refine gX9_140 C (pc := 126) dX9_findFault_126 ?_
        exact (vX9_findFault_129 C hr hQ (N := N) hk38 hm)
      · refine v_bipush C (pc := 120) 8 dX9_findFault_120 rfl ?_
        refine v_goto C (pc := 122) 129 dX9_findFault_122 rfl ?_
        exact (vX9_findFault_129 C hr hQ (N := N) hk38 hm)
    · refine v_iload_n C (pc := 57) 2 dX9_findFault_57 rfl rfl ?_
      refine v_if_ne C (pc := 58) hm 74 dX9_findFault_58 rfl (fun hm => ?_) (fun hm => ?_)
      · refine v_iload_n C (pc := 74) 1 dX9_findFault_74 rfl rfl ?_
        refine v_aload_n C (pc := 75) 0 dX9_findFault_75 rfl rfl ?_
        refine gX9_140 C (pc := 76) dX9_findFault_76 ?_
        refine v_icmp_ne C (pc := 79) hm 86 dX9_findFault_79 rfl (fun hm => ?_) (fun hm => ?_)
        · refine v_iconst C (pc := 86) 0 dX9_findFault_86 rfl ?_
          exact (vX9_findFault_87 C hr hQ (N := N) hk38 hm)
        · refine v_iconst C (pc := 82) 1 dX9_findFault_82 rfl ?_
          refine v_goto C (pc := 83) 87 dX9_findFault_83 rfl ?_
          exact (vX9_findFault_87 C hr hQ (N := N) hk38 hm)
      · refine v_iload_n C (pc := 61) 1 dX9_findFault_61 rfl rfl ?_
        refine v_iconst C (pc := 62) 3 dX9_findFault_62 rfl ?_
        refine v_icmp_lt C (pc := 63) hm 70 dX9_findFault_63 rfl (fun hm => ?_) (fun hm => ?_)
        · refine v_iconst C (pc := 70) 0 dX9_findFault_70 rfl ?_
          refine v_goto C (pc := 71) 87 dX9_findFault_71 rfl ?_
          exact (vX9_findFault_87 C hr hQ (N := N) hk38 hm)
        · refine v_iconst C (pc := 66) 1 dX9_findFault_66 rfl ?_
          refine v_goto C (pc := 67) 87 dX9_findFault_67 rfl ?_
          exact (vX9_findFault_87 C hr hQ (N := N) hk38 hm)
theorem vX9_findFault_38 {p : Program} {l : Launch} {e : Env} {s : State} {m : MethodId} {args : Array Value} {below : List Frame} {meth : Method} {c : Code} {Q : State → Prop} {D : va_G} {ad : Nat → Nat} {cA : Nat → ClassId} (C : Ok p s m args c D cA (mW ad cA) (mA ad) mS RX9 cX9_findFault 6) (hr : Rt meth (some .int)) {r : Int32 × St} (hQ : Q = MQ below (Qo D (mW ad cA) (mA ad) (some (.int r.1)) r.2) args s 0 0 (mA ad)) {N : Nat}  (n : Nat) : ∀ (x1 : Int32) (x2 : Int32) (x3 : Int32) (S : St), fX9_findFault_38 N  n x1 x2 x3 S = some r → V p l e rmX9_findFault s m args below meth c Q D (mW ad cA) (mA ad) 6 S 38 [(0, .ref (ad 0)), (1, .int x1), (2, .int x2), (3, .int x3)] [] := by
  induction n with
  | zero => intro _ _ _ _  hm; exact absurd hm (by intro h; cases h)
  | succ n ih => intro _ _ _ _  hm; exact vX9_findFault_38b C hr hQ (N := N)   ih  hm
def fX9_findFault_11b (N : Nat)  (k11 : Bool → Bool → Int32 → St → Option (Int32 × St)) (x1 : Bool) (x2 : Bool) (x3 : Int32) (S : St) : Option (Int32 × St) := if 5 ≤ x3 then (fX9_findFault_38 N N (b2i x1) (b2i x2) 0 S) else (ck x3 5 (stp (sA S 12 (Int32.toNatClampNeg x3) 0) fun S14 => ck x3 5 (stp (sA S14 16 (Int32.toNatClampNeg x3) (-1)) fun S15 => k11 x1 x2 (x3 + 1) S15)))
def fX9_findFault_11 (N : Nat)  : Nat → Bool → Bool → Int32 → St → Option (Int32 × St)
  | 0 => fun _ _ _ _ => none
  | n + 1 => fun x1 x2 x3 S => fX9_findFault_11b N  (fX9_findFault_11 N  n) x1 x2 x3 S
set_option maxRecDepth 20000 in
theorem vX9_findFault_11b {p : Program} {l : Launch} {e : Env} {s : State} {m : MethodId} {args : Array Value} {below : List Frame} {meth : Method} {c : Code} {Q : State → Prop} {D : va_G} {ad : Nat → Nat} {cA : Nat → ClassId} (C : Ok p s m args c D cA (mW ad cA) (mA ad) mS RX9 cX9_findFault 6) (hr : Rt meth (some .int)) {r : Int32 × St} (hQ : Q = MQ below (Qo D (mW ad cA) (mA ad) (some (.int r.1)) r.2) args s 0 0 (mA ad)) {N : Nat}  {k11 : Bool → Bool → Int32 → St → Option (Int32 × St)} (hk11 : ∀ (x1 : Bool) (x2 : Bool) (x3 : Int32) (S : St), k11 x1 x2 x3 S = some r → V p l e rmX9_findFault s m args below meth c Q D (mW ad cA) (mA ad) 6 S 11 [(0, .ref (ad 0)), (1, .int (b2i x1)), (2, .int (b2i x2)), (3, .int x3)] []) {x1 : Bool} {x2 : Bool} {x3 : Int32}  {S : St} (hm : fX9_findFault_11b N  k11 x1 x2 x3 S = some r) : V p l e rmX9_findFault s m args below meth c Q D (mW ad cA) (mA ad) 6 S 11 [(0, .ref (ad 0)), (1, .int (b2i x1)), (2, .int (b2i x2)), (3, .int x3)] [] := by
  unfold fX9_findFault_11b at hm
  refine v_iload_n C (pc := 11) 3 dX9_findFault_11 rfl rfl ?_
  refine v_iconst C (pc := 12) 5 dX9_findFault_12 rfl ?_
  refine v_icmp_ge C (pc := 13) hm 36 dX9_findFault_13 rfl (fun hm => ?_) (fun hm => ?_)
  · refine v_iconst C (pc := 36) 0 dX9_findFault_36 rfl ?_
    refine v_istore_n C (pc := 37) [(3, .int 0), (0, .ref (ad 0)), (1, .int (b2i x1)), (2, .int (b2i x2))] dX9_findFault_37 rfl (by decide) rfl ?_
    exact v_sub [1, 2, 3, 0] rfl (vX9_findFault_38 C hr hQ (N := N) N _ _ _ _ hm)
  · refine v_aload_n C (pc := 16) 0 dX9_findFault_16 rfl rfl ?_
    refine gX9_47 C (pc := 17) dX9_findFault_17 ?_
    refine v_iload_n C (pc := 20) 3 dX9_findFault_20 rfl rfl ?_
    refine v_iconst C (pc := 21) 0 dX9_findFault_21 rfl ?_
    refine stX9_readCells C (pc := 22) hm dX9_findFault_22 (fun S14 hm => ?_)
    refine v_aload_n C (pc := 23) 0 dX9_findFault_23 rfl rfl ?_
    refine gX9_59 C (pc := 24) dX9_findFault_24 ?_
    refine v_iload_n C (pc := 27) 3 dX9_findFault_27 rfl rfl ?_
    refine v_iconst C (pc := 28) (-1) dX9_findFault_28 rfl ?_
    refine stX9_pivotX C (pc := 29) hm dX9_findFault_29 (fun S15 hm => ?_)
    refine v_iinc C (pc := 30) 1 3 [(3, .int (x3 + 1)), (0, .ref (ad 0)), (1, .int (b2i x1)), (2, .int (b2i x2))] dX9_findFault_30 rfl rfl (by decide) rfl ?_
    refine v_goto C (pc := 33) 11 dX9_findFault_33 rfl ?_
    exact v_sub [1, 2, 3, 0] rfl (hk11 _ _ _ _ hm)
theorem vX9_findFault_11 {p : Program} {l : Launch} {e : Env} {s : State} {m : MethodId} {args : Array Value} {below : List Frame} {meth : Method} {c : Code} {Q : State → Prop} {D : va_G} {ad : Nat → Nat} {cA : Nat → ClassId} (C : Ok p s m args c D cA (mW ad cA) (mA ad) mS RX9 cX9_findFault 6) (hr : Rt meth (some .int)) {r : Int32 × St} (hQ : Q = MQ below (Qo D (mW ad cA) (mA ad) (some (.int r.1)) r.2) args s 0 0 (mA ad)) {N : Nat}  (n : Nat) : ∀ (x1 : Bool) (x2 : Bool) (x3 : Int32) (S : St), fX9_findFault_11 N  n x1 x2 x3 S = some r → V p l e rmX9_findFault s m args below meth c Q D (mW ad cA) (mA ad) 6 S 11 [(0, .ref (ad 0)), (1, .int (b2i x1)), (2, .int (b2i x2)), (3, .int x3)] [] := by
  induction n with
  | zero => intro _ _ _ _  hm; exact absurd hm (by intro h; cases h)
  | succ n ih => intro _ _ _ _  hm; exact vX9_findFault_11b C hr hQ (N := N)   ih  hm
def fX9_findFault (N : Nat)  (S : St) : Option (Int32 × St) := stp (sI S 4 0) fun S19 => fX9_findFault_11 N N false false 0 S19
set_option maxRecDepth 20000 in
theorem vX9_findFault {p : Program} {l : Launch} {e : Env} {s : State} {m : MethodId} {args : Array Value} {below : List Frame} {meth : Method} {c : Code} {Q : State → Prop} {D : va_G} {ad : Nat → Nat} {cA : Nat → ClassId} (C : Ok p s m args c D cA (mW ad cA) (mA ad) mS RX9 cX9_findFault 6) (hr : Rt meth (some .int)) {r : Int32 × St} (hQ : Q = MQ below (Qo D (mW ad cA) (mA ad) (some (.int r.1)) r.2) args s 0 0 (mA ad)) {N : Nat}  {S : St} (hm : fX9_findFault N  S = some r) : V p l e rmX9_findFault s m args below meth c Q D (mW ad cA) (mA ad) 6 S 0 [(0, .ref (ad 0))] [] := by
  unfold fX9_findFault at hm
  refine v_iconst C (pc := 0) 0 dX9_findFault_0 rfl ?_
  refine v_istore_n C (pc := 1) [(1, .int 0), (0, .ref (ad 0))] dX9_findFault_1 rfl (by decide) rfl ?_
  refine v_iconst C (pc := 2) 0 dX9_findFault_2 rfl ?_
  refine v_istore_n C (pc := 3) [(2, .int 0), (1, .int 0), (0, .ref (ad 0))] dX9_findFault_3 rfl (by decide) rfl ?_
  refine v_aload_n C (pc := 4) 2 dX9_findFault_4 rfl rfl ?_
  refine v_iconst C (pc := 5) 0 dX9_findFault_5 rfl ?_
  refine pX9_140 C (pc := 6) hm dX9_findFault_6 (fun S19 hm => ?_)
  refine v_iconst C (pc := 9) 0 dX9_findFault_9 rfl ?_
  refine v_istore_n C (pc := 10) [(3, .int 0), (2, .int 0), (1, .int 0), (0, .ref (ad 0))] dX9_findFault_10 rfl (by decide) rfl ?_
  exact v_sub [3, 2, 1, 0] rfl (vX9_findFault_11 C hr hQ (N := N) N _ _ _ _ hm)
theorem mX9_findFault {l : Launch} {D : va_G} {ad : Nat → Nat} {cA : Nat → ClassId} (hD : ∀ S, va_D (mA ad) (mW ad cA S)) {N : Nat}  {S : St} {r : Int32 × St} (hm : fX9_findFault N  S = some r) : Met l yX9_findFault (wsm yX9_findFault cX9_findFault 6 (some .int)) rmX9_findFault (va_Pc [.ref (ad 0)] (Pre D cA (mW ad cA) mS S)) (Qo D (mW ad cA) (mA ad) (some (.int r.1)) r.2) 0 0 (mA ad) := met_of [.ref (ad 0)] (by decide) (Nat.le_of_ble_eq_true rfl) hD (fun _ _ _ _ h => h) (fun _ _ _ _ h => h) (fun p e s m below meth c C hr => vX9_findFault C hr rfl (N := N)  hm)
