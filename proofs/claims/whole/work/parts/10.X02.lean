-- X3_faultOfPivots
def rmX3_faultOfPivots : Room := { frames := 0, cells := 0, slots := 0, locals := 0 }
def fX3_faultOfPivots_60 (N : Nat) (k4 : Int32 → Int32 → St → Option (Int32 × St)) (x1 : Int32) (x2 : Int32) (S : St) : Option (Int32 × St) := k4 x1 (x2 + 1) S
set_option maxRecDepth 20000 in
theorem vX3_faultOfPivots_60 {p : Program} {l : Launch} {e : Env} {s : State} {m : MethodId} {args : Array Value} {below : List Frame} {meth : Method} {c : Code} {Q : State → Prop} {D : va_G} {ad : Nat → Nat} {cA : Nat → ClassId} (C : Ok p s m args c D cA (xW ad cA) (xA ad) (xS ad) RX3 cX3_faultOfPivots 4) (hr : Rt meth (some .int)) {r : Int32 × St} (hQ : Q = MQ below (Qo D (xW ad cA) (xA ad) (some (.int r.1)) r.2) args s 0 0 (xA ad)) {N : Nat} {k4 : Int32 → Int32 → St → Option (Int32 × St)} (hk4 : ∀ (x1 : Int32) (x2 : Int32) (S : St), k4 x1 x2 S = some r → V p l e rmX3_faultOfPivots s m args below meth c Q D (xW ad cA) (xA ad) 4 S 4 [(0, .ref (ad 9)), (1, .int x1), (2, .int x2)] []) {x1 : Int32} {x2 : Int32}  {S : St} (hm : fX3_faultOfPivots_60 N k4 x1 x2 S = some r) : V p l e rmX3_faultOfPivots s m args below meth c Q D (xW ad cA) (xA ad) 4 S 60 [(0, .ref (ad 9)), (1, .int x1), (2, .int x2)] [] := by
  unfold fX3_faultOfPivots_60 at hm
  refine v_iinc C (pc := 60) 1 2 [(2, .int (x2 + 1)), (0, .ref (ad 9)), (1, .int x1)] dX3_faultOfPivots_60 rfl rfl (by decide) rfl ?_
  refine v_goto C (pc := 63) 4 dX3_faultOfPivots_63 rfl ?_
  exact v_sub [1, 2, 0] rfl (hk4 _ _ _ hm)
def fX3_faultOfPivots_53 (N : Nat) (k4 : Int32 → Int32 → St → Option (Int32 × St)) (x2 : Int32) (S : St) : Option (Int32 × St) := ck x2 5 (nm (S.2.2.1 20 (Int32.toNatClampNeg x2)) fun y3 => fX3_faultOfPivots_60 N k4 y3 x2 S)
set_option maxRecDepth 20000 in
theorem vX3_faultOfPivots_53 {p : Program} {l : Launch} {e : Env} {s : State} {m : MethodId} {args : Array Value} {below : List Frame} {meth : Method} {c : Code} {Q : State → Prop} {D : va_G} {ad : Nat → Nat} {cA : Nat → ClassId} (C : Ok p s m args c D cA (xW ad cA) (xA ad) (xS ad) RX3 cX3_faultOfPivots 4) (hr : Rt meth (some .int)) {r : Int32 × St} (hQ : Q = MQ below (Qo D (xW ad cA) (xA ad) (some (.int r.1)) r.2) args s 0 0 (xA ad)) {N : Nat} {k4 : Int32 → Int32 → St → Option (Int32 × St)} (hk4 : ∀ (x1 : Int32) (x2 : Int32) (S : St), k4 x1 x2 S = some r → V p l e rmX3_faultOfPivots s m args below meth c Q D (xW ad cA) (xA ad) 4 S 4 [(0, .ref (ad 9)), (1, .int x1), (2, .int x2)] []) {x2 : Int32}  {S : St} (hm : fX3_faultOfPivots_53 N k4 x2 S = some r) : V p l e rmX3_faultOfPivots s m args below meth c Q D (xW ad cA) (xA ad) 4 S 53 [(0, .ref (ad 9)), (2, .int x2)] [] := by
  unfold fX3_faultOfPivots_53 at hm
  refine v_aload_n C (pc := 53) 0 dX3_faultOfPivots_53 rfl rfl ?_
  refine gX3_15 C (pc := 54) dX3_faultOfPivots_54 ?_
  refine v_iload_n C (pc := 57) 1 dX3_faultOfPivots_57 rfl rfl ?_
  refine ldX3_firstPlaces C (pc := 58) hm dX3_faultOfPivots_58 (fun hm => ?_)
  refine v_istore_nN C (pc := 59) [(0, .ref (ad 9)), (2, .int x2)] hm dX3_faultOfPivots_59 rfl (by decide) rfl (fun y3 hm => ?_)
  exact v_sub [1, 0, 2] rfl (vX3_faultOfPivots_60 C hr hQ (N := N) hk4 hm)
def fX3_faultOfPivots_33 (N : Nat) (k4 : Int32 → Int32 → St → Option (Int32 × St)) (s0 : Bool) (x1 : Int32) (x2 : Int32) (S : St) : Option (Int32 × St) := if (b2i s0) = 0 then (fX3_faultOfPivots_60 N k4 x1 x2 S) else (if x1 = (-1) then (fX3_faultOfPivots_53 N k4 x2 S) else (ck x2 5 (if x1 ≤ (S.2.2.1 20 (Int32.toNatClampNeg x2)) then (fX3_faultOfPivots_60 N k4 x1 x2 S) else (fX3_faultOfPivots_53 N k4 x2 S))))
set_option maxRecDepth 20000 in
theorem vX3_faultOfPivots_33 {p : Program} {l : Launch} {e : Env} {s : State} {m : MethodId} {args : Array Value} {below : List Frame} {meth : Method} {c : Code} {Q : State → Prop} {D : va_G} {ad : Nat → Nat} {cA : Nat → ClassId} (C : Ok p s m args c D cA (xW ad cA) (xA ad) (xS ad) RX3 cX3_faultOfPivots 4) (hr : Rt meth (some .int)) {r : Int32 × St} (hQ : Q = MQ below (Qo D (xW ad cA) (xA ad) (some (.int r.1)) r.2) args s 0 0 (xA ad)) {N : Nat} {k4 : Int32 → Int32 → St → Option (Int32 × St)} (hk4 : ∀ (x1 : Int32) (x2 : Int32) (S : St), k4 x1 x2 S = some r → V p l e rmX3_faultOfPivots s m args below meth c Q D (xW ad cA) (xA ad) 4 S 4 [(0, .ref (ad 9)), (1, .int x1), (2, .int x2)] []) {s0 : Bool} {x1 : Int32} {x2 : Int32}  {S : St} (hm : fX3_faultOfPivots_33 N k4 s0 x1 x2 S = some r) : V p l e rmX3_faultOfPivots s m args below meth c Q D (xW ad cA) (xA ad) 4 S 33 [(0, .ref (ad 9)), (1, .int x1), (2, .int x2)] [.int (b2i s0)] := by
  unfold fX3_faultOfPivots_33 at hm
  refine v_istore_n C (pc := 33) [(3, .int (b2i s0)), (0, .ref (ad 9)), (1, .int x1), (2, .int x2)] dX3_faultOfPivots_33 rfl (by decide) rfl ?_
  refine v_iload_n C (pc := 34) 0 dX3_faultOfPivots_34 rfl rfl ?_
  refine v_if_eq C (pc := 35) hm 60 dX3_faultOfPivots_35 rfl (fun hm => ?_) (fun hm => ?_)
  · exact v_sub [1, 2, 3] rfl (vX3_faultOfPivots_60 C hr hQ (N := N) hk4 hm)
  · refine v_iload_n C (pc := 38) 2 dX3_faultOfPivots_38 rfl rfl ?_
    refine v_iconst C (pc := 39) (-1) dX3_faultOfPivots_39 rfl ?_
    refine v_icmp_eq C (pc := 40) hm 53 dX3_faultOfPivots_40 rfl (fun hm => ?_) (fun hm => ?_)
    · exact v_sub [1, 3] rfl (vX3_faultOfPivots_53 C hr hQ (N := N) hk4 hm)
    · refine v_aload_n C (pc := 43) 1 dX3_faultOfPivots_43 rfl rfl ?_
      refine gX3_15 C (pc := 44) dX3_faultOfPivots_44 ?_
      refine v_iload_n C (pc := 47) 3 dX3_faultOfPivots_47 rfl rfl ?_
      refine ldX3_firstPlaces C (pc := 48) hm dX3_faultOfPivots_48 (fun hm => ?_)
      refine v_iload_n C (pc := 49) 2 dX3_faultOfPivots_49 rfl rfl ?_
      refine v_icmp_ge C (pc := 50) hm 60 dX3_faultOfPivots_50 rfl (fun hm => ?_) (fun hm => ?_)
      · exact v_sub [1, 2, 3] rfl (vX3_faultOfPivots_60 C hr hQ (N := N) hk4 hm)
      · exact v_sub [1, 3] rfl (vX3_faultOfPivots_53 C hr hQ (N := N) hk4 hm)
def fX3_faultOfPivots_32 (N : Nat) (k4 : Int32 → Int32 → St → Option (Int32 × St)) (x1 : Int32) (x2 : Int32) (S : St) : Option (Int32 × St) := fX3_faultOfPivots_33 N k4 false x1 x2 S
set_option maxRecDepth 20000 in
theorem vX3_faultOfPivots_32 {p : Program} {l : Launch} {e : Env} {s : State} {m : MethodId} {args : Array Value} {below : List Frame} {meth : Method} {c : Code} {Q : State → Prop} {D : va_G} {ad : Nat → Nat} {cA : Nat → ClassId} (C : Ok p s m args c D cA (xW ad cA) (xA ad) (xS ad) RX3 cX3_faultOfPivots 4) (hr : Rt meth (some .int)) {r : Int32 × St} (hQ : Q = MQ below (Qo D (xW ad cA) (xA ad) (some (.int r.1)) r.2) args s 0 0 (xA ad)) {N : Nat} {k4 : Int32 → Int32 → St → Option (Int32 × St)} (hk4 : ∀ (x1 : Int32) (x2 : Int32) (S : St), k4 x1 x2 S = some r → V p l e rmX3_faultOfPivots s m args below meth c Q D (xW ad cA) (xA ad) 4 S 4 [(0, .ref (ad 9)), (1, .int x1), (2, .int x2)] []) {x1 : Int32} {x2 : Int32}  {S : St} (hm : fX3_faultOfPivots_32 N k4 x1 x2 S = some r) : V p l e rmX3_faultOfPivots s m args below meth c Q D (xW ad cA) (xA ad) 4 S 32 [(0, .ref (ad 9)), (1, .int x1), (2, .int x2)] [] := by
  unfold fX3_faultOfPivots_32 at hm
  refine v_iconst C (pc := 32) 0 dX3_faultOfPivots_32 rfl ?_
  exact (vX3_faultOfPivots_33 C hr hQ (N := N) hk4 hm)
def fX3_faultOfPivots_4b (N : Nat)  (k4 : Int32 → Int32 → St → Option (Int32 × St)) (x1 : Int32) (x2 : Int32) (S : St) : Option (Int32 × St) := if 5 ≤ x2 then (some (x1, S)) else (ck x2 5 (if (S.2.2.1 19 (Int32.toNatClampNeg x2)) ≤ 0 then (fX3_faultOfPivots_32 N k4 x1 x2 S) else (ck x2 5 (if (S.2.2.1 21 (Int32.toNatClampNeg x2)) = (-1) then (fX3_faultOfPivots_33 N k4 true x1 x2 S) else (fX3_faultOfPivots_32 N k4 x1 x2 S)))))
def fX3_faultOfPivots_4 (N : Nat)  : Nat → Int32 → Int32 → St → Option (Int32 × St)
  | 0 => fun _ _ _ => none
  | n + 1 => fun x1 x2 S => fX3_faultOfPivots_4b N  (fX3_faultOfPivots_4 N  n) x1 x2 S
set_option maxRecDepth 20000 in
theorem vX3_faultOfPivots_4b {p : Program} {l : Launch} {e : Env} {s : State} {m : MethodId} {args : Array Value} {below : List Frame} {meth : Method} {c : Code} {Q : State → Prop} {D : va_G} {ad : Nat → Nat} {cA : Nat → ClassId} (C : Ok p s m args c D cA (xW ad cA) (xA ad) (xS ad) RX3 cX3_faultOfPivots 4) (hr : Rt meth (some .int)) {r : Int32 × St} (hQ : Q = MQ below (Qo D (xW ad cA) (xA ad) (some (.int r.1)) r.2) args s 0 0 (xA ad)) {N : Nat}  {k4 : Int32 → Int32 → St → Option (Int32 × St)} (hk4 : ∀ (x1 : Int32) (x2 : Int32) (S : St), k4 x1 x2 S = some r → V p l e rmX3_faultOfPivots s m args below meth c Q D (xW ad cA) (xA ad) 4 S 4 [(0, .ref (ad 9)), (1, .int x1), (2, .int x2)] []) {x1 : Int32} {x2 : Int32}  {S : St} (hm : fX3_faultOfPivots_4b N  k4 x1 x2 S = some r) : V p l e rmX3_faultOfPivots s m args below meth c Q D (xW ad cA) (xA ad) 4 S 4 [(0, .ref (ad 9)), (1, .int x1), (2, .int x2)] [] := by
  unfold fX3_faultOfPivots_4b at hm
  refine v_iload_n C (pc := 4) 2 dX3_faultOfPivots_4 rfl rfl ?_
  refine v_iconst C (pc := 5) 5 dX3_faultOfPivots_5 rfl ?_
  refine v_icmp_ge C (pc := 6) hm 66 dX3_faultOfPivots_6 rfl (fun hm => ?_) (fun hm => ?_)
  · refine v_iload_n C (pc := 66) 1 dX3_faultOfPivots_66 rfl rfl ?_
    exact v_iret C hr hQ (pc := 67) hm dX3_faultOfPivots_67
  · refine v_aload_n C (pc := 9) 0 dX3_faultOfPivots_9 rfl rfl ?_
    refine gX3_9 C (pc := 10) dX3_faultOfPivots_10 ?_
    refine v_iload_n C (pc := 13) 2 dX3_faultOfPivots_13 rfl rfl ?_
    refine ldX3_cellCounts C (pc := 14) hm dX3_faultOfPivots_14 (fun hm => ?_)
    refine v_if_le C (pc := 15) hm 32 dX3_faultOfPivots_15 rfl (fun hm => ?_) (fun hm => ?_)
    · exact (vX3_faultOfPivots_32 C hr hQ (N := N) hk4 hm)
    · refine v_aload_n C (pc := 18) 0 dX3_faultOfPivots_18 rfl rfl ?_
      refine gX3_18 C (pc := 19) dX3_faultOfPivots_19 ?_
      refine v_iload_n C (pc := 22) 2 dX3_faultOfPivots_22 rfl rfl ?_
      refine ldX3_pivots C (pc := 23) hm dX3_faultOfPivots_23 (fun hm => ?_)
      refine v_iconst C (pc := 24) (-1) dX3_faultOfPivots_24 rfl ?_
      refine v_icmp_ne C (pc := 25) hm 32 dX3_faultOfPivots_25 rfl (fun hm => ?_) (fun hm => ?_)
      · exact (vX3_faultOfPivots_32 C hr hQ (N := N) hk4 hm)
      · refine v_iconst C (pc := 28) 1 dX3_faultOfPivots_28 rfl ?_
        refine v_goto C (pc := 29) 33 dX3_faultOfPivots_29 rfl ?_
        exact (vX3_faultOfPivots_33 C hr hQ (N := N) hk4 hm)
theorem vX3_faultOfPivots_4 {p : Program} {l : Launch} {e : Env} {s : State} {m : MethodId} {args : Array Value} {below : List Frame} {meth : Method} {c : Code} {Q : State → Prop} {D : va_G} {ad : Nat → Nat} {cA : Nat → ClassId} (C : Ok p s m args c D cA (xW ad cA) (xA ad) (xS ad) RX3 cX3_faultOfPivots 4) (hr : Rt meth (some .int)) {r : Int32 × St} (hQ : Q = MQ below (Qo D (xW ad cA) (xA ad) (some (.int r.1)) r.2) args s 0 0 (xA ad)) {N : Nat}  (n : Nat) : ∀ (x1 : Int32) (x2 : Int32) (S : St), fX3_faultOfPivots_4 N  n x1 x2 S = some r → V p l e rmX3_faultOfPivots s m args below meth c Q D (xW ad cA) (xA ad) 4 S 4 [(0, .ref (ad 9)), (1, .int x1), (2, .int x2)] [] := by
  induction n with
  | zero => intro _ _ _  hm; exact absurd hm (by intro h; cases h)
  | succ n ih => intro _ _ _  hm; exact vX3_faultOfPivots_4b C hr hQ (N := N)   ih  hm
def fX3_faultOfPivots (N : Nat)  (S : St) : Option (Int32 × St) := fX3_faultOfPivots_4 N N (-1) 0 S
set_option maxRecDepth 20000 in
theorem vX3_faultOfPivots {p : Program} {l : Launch} {e : Env} {s : State} {m : MethodId} {args : Array Value} {below : List Frame} {meth : Method} {c : Code} {Q : State → Prop} {D : va_G} {ad : Nat → Nat} {cA : Nat → ClassId} (C : Ok p s m args c D cA (xW ad cA) (xA ad) (xS ad) RX3 cX3_faultOfPivots 4) (hr : Rt meth (some .int)) {r : Int32 × St} (hQ : Q = MQ below (Qo D (xW ad cA) (xA ad) (some (.int r.1)) r.2) args s 0 0 (xA ad)) {N : Nat}  {S : St} (hm : fX3_faultOfPivots N  S = some r) : V p l e rmX3_faultOfPivots s m args below meth c Q D (xW ad cA) (xA ad) 4 S 0 [(0, .ref (ad 9))] [] := by
  unfold fX3_faultOfPivots at hm
  refine v_iconst C (pc := 0) (-1) dX3_faultOfPivots_0 rfl ?_
  refine v_istore_n C (pc := 1) [(1, .int (-1)), (0, .ref (ad 9))] dX3_faultOfPivots_1 rfl (by decide) rfl ?_
  refine v_iconst C (pc := 2) 0 dX3_faultOfPivots_2 rfl ?_
  refine v_istore_n C (pc := 3) [(2, .int 0), (1, .int (-1)), (0, .ref (ad 9))] dX3_faultOfPivots_3 rfl (by decide) rfl ?_
  exact v_sub [2, 1, 0] rfl (vX3_faultOfPivots_4 C hr hQ (N := N) N _ _ _ hm)
theorem mX3_faultOfPivots {l : Launch} {D : va_G} {ad : Nat → Nat} {cA : Nat → ClassId} (hD : ∀ S, va_D (xA ad) (xW ad cA S)) {N : Nat}  {S : St} {r : Int32 × St} (hm : fX3_faultOfPivots N  S = some r) : Met l yX3_faultOfPivots (wsm yX3_faultOfPivots cX3_faultOfPivots 4 (some .int)) rmX3_faultOfPivots (va_Pc [.ref (ad 9)] (Pre D cA (xW ad cA) (xS ad) S)) (Qo D (xW ad cA) (xA ad) (some (.int r.1)) r.2) 0 0 (xA ad) := met_of [.ref (ad 9)] (by decide) (Nat.le_of_ble_eq_true rfl) hD (xS_mv ad) (xS_kp ad) (fun p e s m below meth c C hr => vX3_faultOfPivots C hr rfl (N := N)  hm)
-- X3_fault
theorem infX6_at : InfV yX6_at cX6_at 2 (some .char) 1 := ⟨⟨gm (i := 56) (by decide +kernel) rfl, gm (i := 390) (by decide +kernel) rfl, by decide +kernel⟩, gm (i := 388) (by decide +kernel) rfl, gm (i := 389) (by decide +kernel) rfl⟩
theorem kX3_46 {p : Program} {l : Launch} {e : Env} {R : Room} {s : State} {m : MethodId} {args : Array Value} {below : List Frame} {meth : Method} {c : Code} {Q : State → Prop} {D : va_G} {ad : Nat → Nat} {cA : Nat → ClassId} {cc : ByteArray} {nL : Nat} {S : St} {pc : Nat} {lv : List (Nat × Value)} {st : List Value} {ρ : Type} {res : ρ} (C : Ok p s m args c D cA (xW ad cA) (xA ad) (xS ad) RX3 cc nL) (hfr : rmX6_at.frames + 1 ≤ R.frames) (hlo : 8 + (2 + 11) + rmX6_at.locals ≤ R.locals) {N : Nat} {p1 : Int32} {E : Int32 → St → Option ρ} (hm : bd (fX6_at N p1 S) E = some res) (hcat : (st.map fun v => v.category).sum ≤ 8) (hd : decode cc pc = .ok (.invokevirtual 46, 3)) (k : ∀ r S, E r S = some res → V p l e R s m args below meth c Q D (xW ad cA) (xA ad) nL S (pc + 3) lv (.int r :: st)) : V p l e R s m args below meth c Q D (xW ad cA) (xA ad) nL S pc lv (.int p1 :: .ref (ad 1) :: st) := by
  obtain ⟨r, S1, h1, h2⟩ := bd_some hm
  exact v_callV C (gm (i := 387) (by decide +kernel) rfl : Cond.methodLink RX3 46 yX6_at ∈ gw_tbl) infX6_at (rm2 := rmX6_at) ⟨rfl, rfl⟩ hfr hlo (mX6_at C.2.2.2.2.2.2.1 h1) (As := [.int p1]) (oX6 ad cA S) rfl rfl rfl rfl hcat hd (k r S1 h2)
theorem infX3_addCell : InfV yX3_addCell cX3_addCell 5 (some .boolean) 2 := ⟨⟨gm (i := 61) (by decide +kernel) rfl, gm (i := 398) (by decide +kernel) rfl, by decide +kernel⟩, gm (i := 397) (by decide +kernel) rfl, gm (i := 1) (by decide +kernel) rfl⟩
theorem kX3_54 {p : Program} {l : Launch} {e : Env} {R : Room} {s : State} {m : MethodId} {args : Array Value} {below : List Frame} {meth : Method} {c : Code} {Q : State → Prop} {D : va_G} {ad : Nat → Nat} {cA : Nat → ClassId} {cc : ByteArray} {nL : Nat} {S : St} {pc : Nat} {lv : List (Nat × Value)} {st : List Value} {ρ : Type} {res : ρ} (C : Ok p s m args c D cA (xW ad cA) (xA ad) (xS ad) RX3 cc nL) (hfr : rmX3_addCell.frames + 1 ≤ R.frames) (hlo : 8 + (5 + 11) + rmX3_addCell.locals ≤ R.locals) {N : Nat} {p1 : Int32} {p2 : Int32} {E : Bool → St → Option ρ} (hm : bd (fX3_addCell N p1 p2 S) E = some res) (hcat : (st.map fun v => v.category).sum ≤ 8) (hd : decode cc pc = .ok (.invokevirtual 54, 3)) (k : ∀ r S, E r S = some res → V p l e R s m args below meth c Q D (xW ad cA) (xA ad) nL S (pc + 3) lv (.int (b2i r) :: st)) : V p l e R s m args below meth c Q D (xW ad cA) (xA ad) nL S pc lv (.int p2 :: .int p1 :: .ref (ad 9) :: st) := by
  obtain ⟨r, S1, h1, h2⟩ := bd_some hm
  exact v_callV C (gm (i := 395) (by decide +kernel) rfl : Cond.methodLink RX3 54 yX3_addCell ∈ gw_tbl) infX3_addCell (rm2 := rmX3_addCell) ⟨rfl, rfl⟩ hfr hlo (mX3_addCell C.2.2.2.2.2.2.1 h1) (As := [.int p1, .int p2]) (oX3 ad cA S) rfl rfl rfl rfl hcat hd (k r S1 h2)
theorem infX3_endRow : InfV yX3_endRow cX3_endRow 2 (some .boolean) 0 := ⟨⟨gm (i := 61) (by decide +kernel) rfl, gm (i := 394) (by decide +kernel) rfl, by decide +kernel⟩, gm (i := 393) (by decide +kernel) rfl, gm (i := 0) (by decide +kernel) rfl⟩
theorem kX3_50 {p : Program} {l : Launch} {e : Env} {R : Room} {s : State} {m : MethodId} {args : Array Value} {below : List Frame} {meth : Method} {c : Code} {Q : State → Prop} {D : va_G} {ad : Nat → Nat} {cA : Nat → ClassId} {cc : ByteArray} {nL : Nat} {S : St} {pc : Nat} {lv : List (Nat × Value)} {st : List Value} {ρ : Type} {res : ρ} (C : Ok p s m args c D cA (xW ad cA) (xA ad) (xS ad) RX3 cc nL) (hfr : rmX3_endRow.frames + 1 ≤ R.frames) (hlo : 8 + (2 + 11) + rmX3_endRow.locals ≤ R.locals) {N : Nat}  {E : Bool → St → Option ρ} (hm : bd (fX3_endRow N  S) E = some res) (hcat : (st.map fun v => v.category).sum ≤ 8) (hd : decode cc pc = .ok (.invokevirtual 50, 3)) (k : ∀ r S, E r S = some res → V p l e R s m args below meth c Q D (xW ad cA) (xA ad) nL S (pc + 3) lv (.int (b2i r) :: st)) : V p l e R s m args below meth c Q D (xW ad cA) (xA ad) nL S pc lv (.ref (ad 9) :: st) := by
  obtain ⟨r, S1, h1, h2⟩ := bd_some hm
  exact v_callV C (gm (i := 391) (by decide +kernel) rfl : Cond.methodLink RX3 50 yX3_endRow ∈ gw_tbl) infX3_endRow (rm2 := rmX3_endRow) ⟨rfl, rfl⟩ hfr hlo (mX3_endRow C.2.2.2.2.2.2.1 h1) (As := []) (oX3 ad cA S) rfl rfl rfl rfl hcat hd (k r S1 h2)
theorem infX3_faultOfPivots : InfV yX3_faultOfPivots cX3_faultOfPivots 4 (some .int) 0 := ⟨⟨gm (i := 61) (by decide +kernel) rfl, gm (i := 420) (by decide +kernel) rfl, by decide +kernel⟩, gm (i := 419) (by decide +kernel) rfl, gm (i := 3) (by decide +kernel) rfl⟩
theorem kX3_58 {p : Program} {l : Launch} {e : Env} {R : Room} {s : State} {m : MethodId} {args : Array Value} {below : List Frame} {meth : Method} {c : Code} {Q : State → Prop} {D : va_G} {ad : Nat → Nat} {cA : Nat → ClassId} {cc : ByteArray} {nL : Nat} {S : St} {pc : Nat} {lv : List (Nat × Value)} {st : List Value} {ρ : Type} {res : ρ} (C : Ok p s m args c D cA (xW ad cA) (xA ad) (xS ad) RX3 cc nL) (hfr : rmX3_faultOfPivots.frames + 1 ≤ R.frames) (hlo : 8 + (4 + 11) + rmX3_faultOfPivots.locals ≤ R.locals) {N : Nat}  {E : Int32 → St → Option ρ} (hm : bd (fX3_faultOfPivots N  S) E = some res) (hcat : (st.map fun v => v.category).sum ≤ 8) (hd : decode cc pc = .ok (.invokevirtual 58, 3)) (k : ∀ r S, E r S = some res → V p l e R s m args below meth c Q D (xW ad cA) (xA ad) nL S (pc + 3) lv (.int r :: st)) : V p l e R s m args below meth c Q D (xW ad cA) (xA ad) nL S pc lv (.ref (ad 9) :: st) := by
  obtain ⟨r, S1, h1, h2⟩ := bd_some hm
  exact v_callV C (gm (i := 417) (by decide +kernel) rfl : Cond.methodLink RX3 58 yX3_faultOfPivots ∈ gw_tbl) infX3_faultOfPivots (rm2 := rmX3_faultOfPivots) ⟨rfl, rfl⟩ hfr hlo (mX3_faultOfPivots C.2.2.2.2.2.2.1 h1) (As := []) (oX3 ad cA S) rfl rfl rfl rfl hcat hd (k r S1 h2)
theorem kfX3_35_X3_cellCounts {p : Program} {l : Launch} {e : Env} {R : Room} {s : State} {m : MethodId} {args : Array Value} {below : List Frame} {meth : Method} {c : Code} {Q : State → Prop} {D : va_G} {ad : Nat → Nat} {cA : Nat → ClassId} {cc : ByteArray} {nL : Nat} {S : St} {pc : Nat} {lv : List (Nat × Value)} {st : List Value} {ρ : Type} {res : ρ} (C : Ok p s m args c D cA (xW ad cA) (xA ad) (xS ad) RX3 cc nL) (hfr : 0 + 1 ≤ R.frames) (hlo : 8 + (4 + 11) + 0 ≤ R.locals) {x : Int32} {E : St → Option ρ} (hm : stp (fA S 19 (fil 5 x (S.2.2.1 19))) E = some res) (hcat : (st.map fun v => v.category).sum ≤ 8) (hd : decode cc pc = .ok (.invokestatic 35, 3)) (k : ∀ S, E S = some res → V p l e R s m args below meth c Q D (xW ad cA) (xA ad) nL S (pc + 3) lv st) : V p l e R s m args below meth c Q D (xW ad cA) (xA ad) nL S pc lv (.int x :: .ref (ad 43) :: st) := v_callS C (gm (i := 386) (by decide +kernel) rfl : Cond.methodLink RX3 35 yJ7_fill_53178 ∈ gw_tbl) infJ7_fill_53178 (rm2 := rmZ) ⟨rfl, rfl⟩ hfr hlo (met_fillI C.2.2.2.2.2.2.1 C.2.2.2.2.2.2.2.2.1 C.2.2.2.2.2.2.2.2.2 (by decide) (fun S => aX3_cellCounts ad cA S) (fun S g => wX3_cellCounts ad cA S g) S x) (As := [.ref (ad 43), .int x]) rfl rfl hcat hd (k _ hm)
theorem kfX3_35_X3_pivots {p : Program} {l : Launch} {e : Env} {R : Room} {s : State} {m : MethodId} {args : Array Value} {below : List Frame} {meth : Method} {c : Code} {Q : State → Prop} {D : va_G} {ad : Nat → Nat} {cA : Nat → ClassId} {cc : ByteArray} {nL : Nat} {S : St} {pc : Nat} {lv : List (Nat × Value)} {st : List Value} {ρ : Type} {res : ρ} (C : Ok p s m args c D cA (xW ad cA) (xA ad) (xS ad) RX3 cc nL) (hfr : 0 + 1 ≤ R.frames) (hlo : 8 + (4 + 11) + 0 ≤ R.locals) {x : Int32} {E : St → Option ρ} (hm : stp (fA S 21 (fil 5 x (S.2.2.1 21))) E = some res) (hcat : (st.map fun v => v.category).sum ≤ 8) (hd : decode cc pc = .ok (.invokestatic 35, 3)) (k : ∀ S, E S = some res → V p l e R s m args below meth c Q D (xW ad cA) (xA ad) nL S (pc + 3) lv st) : V p l e R s m args below meth c Q D (xW ad cA) (xA ad) nL S pc lv (.int x :: .ref (ad 45) :: st) := v_callS C (gm (i := 386) (by decide +kernel) rfl : Cond.methodLink RX3 35 yJ7_fill_53178 ∈ gw_tbl) infJ7_fill_53178 (rm2 := rmZ) ⟨rfl, rfl⟩ hfr hlo (met_fillI C.2.2.2.2.2.2.1 C.2.2.2.2.2.2.2.2.1 C.2.2.2.2.2.2.2.2.2 (by decide) (fun S => aX3_pivots ad cA S) (fun S g => wX3_pivots ad cA S g) S x) (As := [.ref (ad 45), .int x]) rfl rfl hcat hd (k _ hm)
def rmX3_fault : Room := { frames := 3, cells := 0, slots := 0, locals := 66 }
def fX3_fault_131 (N : Nat)  (s0 : Int32) (S : St) : Option (Int32 × St) := some (s0, S)
set_option maxRecDepth 20000 in
theorem vX3_fault_131 {p : Program} {l : Launch} {e : Env} {s : State} {m : MethodId} {args : Array Value} {below : List Frame} {meth : Method} {c : Code} {Q : State → Prop} {D : va_G} {ad : Nat → Nat} {cA : Nat → ClassId} (C : Ok p s m args c D cA (xW ad cA) (xA ad) (xS ad) RX3 cX3_fault 4) (hr : Rt meth (some .int)) {r : Int32 × St} (hQ : Q = MQ below (Qo D (xW ad cA) (xA ad) (some (.int r.1)) r.2) args s 0 0 (xA ad)) {N : Nat}  {s0 : Int32}  {S : St} (hm : fX3_fault_131 N  s0 S = some r) : V p l e rmX3_fault s m args below meth c Q D (xW ad cA) (xA ad) 4 S 131 [] [.int s0] := by
  unfold fX3_fault_131 at hm
  exact v_iret C hr hQ (pc := 131) hm dX3_fault_131
def fX3_fault_112 (N : Nat)  (s0 : Bool) (S : St) : Option (Int32 × St) := if (b2i s0) = 0 then (fX3_fault_131 N (S.1 1) S) else (bd (fX3_faultOfPivots N  S) fun r11 S16 => fX3_fault_131 N r11 S16)
set_option maxRecDepth 20000 in
theorem vX3_fault_112 {p : Program} {l : Launch} {e : Env} {s : State} {m : MethodId} {args : Array Value} {below : List Frame} {meth : Method} {c : Code} {Q : State → Prop} {D : va_G} {ad : Nat → Nat} {cA : Nat → ClassId} (C : Ok p s m args c D cA (xW ad cA) (xA ad) (xS ad) RX3 cX3_fault 4) (hr : Rt meth (some .int)) {r : Int32 × St} (hQ : Q = MQ below (Qo D (xW ad cA) (xA ad) (some (.int r.1)) r.2) args s 0 0 (xA ad)) {N : Nat}  {s0 : Bool}  {S : St} (hm : fX3_fault_112 N  s0 S = some r) : V p l e rmX3_fault s m args below meth c Q D (xW ad cA) (xA ad) 4 S 112 [(0, .ref (ad 9))] [.int (b2i s0)] := by
  unfold fX3_fault_112 at hm
  refine v_istore_n C (pc := 112) [(1, .int (b2i s0)), (0, .ref (ad 9))] dX3_fault_112 rfl (by decide) rfl ?_
  refine v_iload_n C (pc := 113) 0 dX3_fault_113 rfl rfl ?_
  refine v_if_eq C (pc := 114) hm 124 dX3_fault_114 rfl (fun hm => ?_) (fun hm => ?_)
  · refine v_aload_n C (pc := 124) 1 dX3_fault_124 rfl rfl ?_
    refine gX3_31 C (pc := 125) dX3_fault_125 ?_
    refine gX3_41 C (pc := 128) dX3_fault_128 ?_
    exact v_sub [] rfl (vX3_fault_131 C hr hQ (N := N) hm)
  · refine v_aload_n C (pc := 117) 1 dX3_fault_117 rfl rfl ?_
    refine kX3_58 C (Nat.le_of_ble_eq_true rfl) (Nat.le_of_ble_eq_true rfl) (pc := 118) hm (Nat.le_of_ble_eq_true rfl) dX3_fault_118 (fun r11 S16 hm => ?_)
    refine v_goto C (pc := 121) 131 dX3_fault_121 rfl ?_
    exact v_sub [] rfl (vX3_fault_131 C hr hQ (N := N) hm)
def fX3_fault_73 (N : Nat) (k34 : Int32 → St → Option (Int32 × St)) (s0 : Bool) (x1 : Int32) (S : St) : Option (Int32 × St) := if (b2i s0) = 0 then (some (x1, S)) else (k34 (x1 + 1) S)
set_option maxRecDepth 20000 in
theorem vX3_fault_73 {p : Program} {l : Launch} {e : Env} {s : State} {m : MethodId} {args : Array Value} {below : List Frame} {meth : Method} {c : Code} {Q : State → Prop} {D : va_G} {ad : Nat → Nat} {cA : Nat → ClassId} (C : Ok p s m args c D cA (xW ad cA) (xA ad) (xS ad) RX3 cX3_fault 4) (hr : Rt meth (some .int)) {r : Int32 × St} (hQ : Q = MQ below (Qo D (xW ad cA) (xA ad) (some (.int r.1)) r.2) args s 0 0 (xA ad)) {N : Nat} {k34 : Int32 → St → Option (Int32 × St)} (hk34 : ∀ (x1 : Int32) (S : St), k34 x1 S = some r → V p l e rmX3_fault s m args below meth c Q D (xW ad cA) (xA ad) 4 S 34 [(0, .ref (ad 9)), (1, .int x1)] []) {s0 : Bool} {x1 : Int32}  {S : St} (hm : fX3_fault_73 N k34 s0 x1 S = some r) : V p l e rmX3_fault s m args below meth c Q D (xW ad cA) (xA ad) 4 S 73 [(0, .ref (ad 9)), (1, .int x1)] [.int (b2i s0)] := by
  unfold fX3_fault_73 at hm
  refine v_istore_n C (pc := 73) [(3, .int (b2i s0)), (0, .ref (ad 9)), (1, .int x1)] dX3_fault_73 rfl (by decide) rfl ?_
  refine v_iload_n C (pc := 74) 0 dX3_fault_74 rfl rfl ?_
  refine v_if_ne C (pc := 75) hm 80 dX3_fault_75 rfl (fun hm => ?_) (fun hm => ?_)
  · refine v_iinc C (pc := 80) 1 2 [(1, .int (x1 + 1)), (3, .int (b2i s0)), (0, .ref (ad 9))] dX3_fault_80 rfl rfl (by decide) rfl ?_
    refine v_goto C (pc := 83) 34 dX3_fault_83 rfl ?_
    exact v_sub [2, 0] rfl (hk34 _ _ hm)
  · refine v_iload_n C (pc := 78) 2 dX3_fault_78 rfl rfl ?_
    exact v_iret C hr hQ (pc := 79) hm dX3_fault_79
def fX3_fault_111 (N : Nat)   (S : St) : Option (Int32 × St) := fX3_fault_112 N false S
set_option maxRecDepth 20000 in
theorem vX3_fault_111 {p : Program} {l : Launch} {e : Env} {s : State} {m : MethodId} {args : Array Value} {below : List Frame} {meth : Method} {c : Code} {Q : State → Prop} {D : va_G} {ad : Nat → Nat} {cA : Nat → ClassId} (C : Ok p s m args c D cA (xW ad cA) (xA ad) (xS ad) RX3 cX3_fault 4) (hr : Rt meth (some .int)) {r : Int32 × St} (hQ : Q = MQ below (Qo D (xW ad cA) (xA ad) (some (.int r.1)) r.2) args s 0 0 (xA ad)) {N : Nat}    {S : St} (hm : fX3_fault_111 N   S = some r) : V p l e rmX3_fault s m args below meth c Q D (xW ad cA) (xA ad) 4 S 111 [(0, .ref (ad 9))] [] := by
  unfold fX3_fault_111 at hm
  refine v_iconst C (pc := 111) 0 dX3_fault_111 rfl ?_
  exact (vX3_fault_112 C hr hQ (N := N) hm)
def fX3_fault_34b (N : Nat)  (k34 : Int32 → St → Option (Int32 × St)) (x1 : Int32) (S : St) : Option (Int32 × St) := if (S.1 1) ≤ x1 then (if ((S.1 26) + 1) < 3 then (fX3_fault_111 N S) else (if (S.1 27) = (S.1 25) then (fX3_fault_112 N true S) else (fX3_fault_111 N S))) else (bd (fX6_at N x1 S) fun r8 S13 => if r8 = 47 then (bd (fX3_endRow N  S13) fun r10 S15 => fX3_fault_73 N k34 r10 x1 S15) else (bd (fX3_addCell N r8 x1 S13) fun r9 S14 => fX3_fault_73 N k34 r9 x1 S14))
def fX3_fault_34 (N : Nat)  : Nat → Int32 → St → Option (Int32 × St)
  | 0 => fun _ _ => none
  | n + 1 => fun x1 S => fX3_fault_34b N  (fX3_fault_34 N  n) x1 S
set_option maxRecDepth 20000 in
theorem vX3_fault_34b {p : Program} {l : Launch} {e : Env} {s : State} {m : MethodId} {args : Array Value} {below : List Frame} {meth : Method} {c : Code} {Q : State → Prop} {D : va_G} {ad : Nat → Nat} {cA : Nat → ClassId} (C : Ok p s m args c D cA (xW ad cA) (xA ad) (xS ad) RX3 cX3_fault 4) (hr : Rt meth (some .int)) {r : Int32 × St} (hQ : Q = MQ below (Qo D (xW ad cA) (xA ad) (some (.int r.1)) r.2) args s 0 0 (xA ad)) {N : Nat}  {k34 : Int32 → St → Option (Int32 × St)} (hk34 : ∀ (x1 : Int32) (S : St), k34 x1 S = some r → V p l e rmX3_fault s m args below meth c Q D (xW ad cA) (xA ad) 4 S 34 [(0, .ref (ad 9)), (1, .int x1)] []) {x1 : Int32}  {S : St} (hm : fX3_fault_34b N  k34 x1 S = some r) : V p l e rmX3_fault s m args below meth c Q D (xW ad cA) (xA ad) 4 S 34 [(0, .ref (ad 9)), (1, .int x1)] [] := by
  unfold fX3_fault_34b at hm
  refine v_iload_n C (pc := 34) 1 dX3_fault_34 rfl rfl ?_
  refine v_aload_n C (pc := 35) 0 dX3_fault_35 rfl rfl ?_
  refine gX3_31 C (pc := 36) dX3_fault_36 ?_
  refine gX3_41 C (pc := 39) dX3_fault_39 ?_
  refine v_icmp_ge C (pc := 42) hm 86 dX3_fault_42 rfl (fun hm => ?_) (fun hm => ?_)
  · refine v_aload_n C (pc := 86) 0 dX3_fault_86 rfl rfl ?_
    refine gX3_25 C (pc := 87) dX3_fault_87 ?_
    refine v_iconst C (pc := 90) 1 dX3_fault_90 rfl ?_
    refine v_iadd C (pc := 91) dX3_fault_91 ?_
    refine v_iconst C (pc := 92) 3 dX3_fault_92 rfl ?_
    refine v_icmp_lt C (pc := 93) hm 111 dX3_fault_93 rfl (fun hm => ?_) (fun hm => ?_)
    · exact v_sub [0] rfl (vX3_fault_111 C hr hQ (N := N) hm)
    · refine v_aload_n C (pc := 96) 0 dX3_fault_96 rfl rfl ?_
      refine gX3_28 C (pc := 97) dX3_fault_97 ?_
      refine v_aload_n C (pc := 100) 0 dX3_fault_100 rfl rfl ?_
      refine gX3_21 C (pc := 101) dX3_fault_101 ?_
      refine v_icmp_ne C (pc := 104) hm 111 dX3_fault_104 rfl (fun hm => ?_) (fun hm => ?_)
      · exact v_sub [0] rfl (vX3_fault_111 C hr hQ (N := N) hm)
      · refine v_iconst C (pc := 107) 1 dX3_fault_107 rfl ?_
        refine v_goto C (pc := 108) 112 dX3_fault_108 rfl ?_
        exact v_sub [0] rfl (vX3_fault_112 C hr hQ (N := N) hm)
  · refine v_aload_n C (pc := 45) 0 dX3_fault_45 rfl rfl ?_
    refine gX3_31 C (pc := 46) dX3_fault_46 ?_
    refine v_iload_n C (pc := 49) 1 dX3_fault_49 rfl rfl ?_
    refine kX3_46 C (Nat.le_of_ble_eq_true rfl) (Nat.le_of_ble_eq_true rfl) (pc := 50) hm (Nat.le_of_ble_eq_true rfl) dX3_fault_50 (fun r8 S13 hm => ?_)
    refine v_istore_n C (pc := 53) [(2, .int r8), (0, .ref (ad 9)), (1, .int x1)] dX3_fault_53 rfl (by decide) rfl ?_
    refine v_iload_n C (pc := 54) 0 dX3_fault_54 rfl rfl ?_
    refine v_bipush C (pc := 55) 47 dX3_fault_55 rfl ?_
    refine v_icmp_ne C (pc := 57) hm 67 dX3_fault_57 rfl (fun hm => ?_) (fun hm => ?_)
    · refine v_aload_n C (pc := 67) 1 dX3_fault_67 rfl rfl ?_
      refine v_iload_n C (pc := 68) 0 dX3_fault_68 rfl rfl ?_
      refine v_iload_n C (pc := 69) 2 dX3_fault_69 rfl rfl ?_
      refine kX3_54 C (Nat.le_of_ble_eq_true rfl) (Nat.le_of_ble_eq_true rfl) (pc := 70) hm (Nat.le_of_ble_eq_true rfl) dX3_fault_70 (fun r9 S14 hm => ?_)
      exact v_sub [1, 2] rfl (vX3_fault_73 C hr hQ (N := N) hk34 hm)
    · refine v_aload_n C (pc := 60) 1 dX3_fault_60 rfl rfl ?_
      refine kX3_50 C (Nat.le_of_ble_eq_true rfl) (Nat.le_of_ble_eq_true rfl) (pc := 61) hm (Nat.le_of_ble_eq_true rfl) dX3_fault_61 (fun r10 S15 hm => ?_)
      refine v_goto C (pc := 64) 73 dX3_fault_64 rfl ?_
      exact v_sub [1, 2] rfl (vX3_fault_73 C hr hQ (N := N) hk34 hm)
theorem vX3_fault_34 {p : Program} {l : Launch} {e : Env} {s : State} {m : MethodId} {args : Array Value} {below : List Frame} {meth : Method} {c : Code} {Q : State → Prop} {D : va_G} {ad : Nat → Nat} {cA : Nat → ClassId} (C : Ok p s m args c D cA (xW ad cA) (xA ad) (xS ad) RX3 cX3_fault 4) (hr : Rt meth (some .int)) {r : Int32 × St} (hQ : Q = MQ below (Qo D (xW ad cA) (xA ad) (some (.int r.1)) r.2) args s 0 0 (xA ad)) {N : Nat}  (n : Nat) : ∀ (x1 : Int32) (S : St), fX3_fault_34 N  n x1 S = some r → V p l e rmX3_fault s m args below meth c Q D (xW ad cA) (xA ad) 4 S 34 [(0, .ref (ad 9)), (1, .int x1)] [] := by
  induction n with
  | zero => intro _ _  hm; exact absurd hm (by intro h; cases h)
  | succ n ih => intro _ _  hm; exact vX3_fault_34b C hr hQ (N := N)   ih  hm
def fX3_fault (N : Nat)  (S : St) : Option (Int32 × St) := stp (fA S 19 (fil 5 0 (S.2.2.1 19))) fun S17 => stp (fA S17 21 (fil 5 (-1) (S17.2.2.1 21))) fun S18 => stp (sI S18 25 8) fun S19 => stp (sI S19 26 0) fun S20 => stp (sI S20 27 0) fun S21 => fX3_fault_34 N N 0 S21
set_option maxRecDepth 20000 in
theorem vX3_fault {p : Program} {l : Launch} {e : Env} {s : State} {m : MethodId} {args : Array Value} {below : List Frame} {meth : Method} {c : Code} {Q : State → Prop} {D : va_G} {ad : Nat → Nat} {cA : Nat → ClassId} (C : Ok p s m args c D cA (xW ad cA) (xA ad) (xS ad) RX3 cX3_fault 4) (hr : Rt meth (some .int)) {r : Int32 × St} (hQ : Q = MQ below (Qo D (xW ad cA) (xA ad) (some (.int r.1)) r.2) args s 0 0 (xA ad)) {N : Nat}  {S : St} (hm : fX3_fault N  S = some r) : V p l e rmX3_fault s m args below meth c Q D (xW ad cA) (xA ad) 4 S 0 [(0, .ref (ad 9))] [] := by
  unfold fX3_fault at hm
  refine v_aload_n C (pc := 0) 0 dX3_fault_0 rfl rfl ?_
  refine gX3_9 C (pc := 1) dX3_fault_1 ?_
  refine v_iconst C (pc := 4) 0 dX3_fault_4 rfl ?_
  refine kfX3_35_X3_cellCounts C (Nat.le_of_ble_eq_true rfl) (Nat.le_of_ble_eq_true rfl) (pc := 5) hm (Nat.le_of_ble_eq_true rfl) dX3_fault_5 (fun S17 hm => ?_)
  refine v_aload_n C (pc := 8) 0 dX3_fault_8 rfl rfl ?_
  refine gX3_18 C (pc := 9) dX3_fault_9 ?_
  refine v_iconst C (pc := 12) (-1) dX3_fault_12 rfl ?_
  refine kfX3_35_X3_pivots C (Nat.le_of_ble_eq_true rfl) (Nat.le_of_ble_eq_true rfl) (pc := 13) hm (Nat.le_of_ble_eq_true rfl) dX3_fault_13 (fun S18 hm => ?_)
  refine v_aload_n C (pc := 16) 0 dX3_fault_16 rfl rfl ?_
  refine v_bipush C (pc := 17) 8 dX3_fault_17 rfl ?_
  refine pX3_21 C (pc := 19) hm dX3_fault_19 (fun S19 hm => ?_)
  refine v_aload_n C (pc := 22) 0 dX3_fault_22 rfl rfl ?_
  refine v_iconst C (pc := 23) 0 dX3_fault_23 rfl ?_
  refine pX3_25 C (pc := 24) hm dX3_fault_24 (fun S20 hm => ?_)
  refine v_aload_n C (pc := 27) 0 dX3_fault_27 rfl rfl ?_
  refine v_iconst C (pc := 28) 0 dX3_fault_28 rfl ?_
  refine pX3_28 C (pc := 29) hm dX3_fault_29 (fun S21 hm => ?_)
  refine v_iconst C (pc := 32) 0 dX3_fault_32 rfl ?_
  refine v_istore_n C (pc := 33) [(1, .int 0), (0, .ref (ad 9))] dX3_fault_33 rfl (by decide) rfl ?_
  exact v_sub [1, 0] rfl (vX3_fault_34 C hr hQ (N := N) N _ _ hm)
theorem mX3_fault {l : Launch} {D : va_G} {ad : Nat → Nat} {cA : Nat → ClassId} (hD : ∀ S, va_D (xA ad) (xW ad cA S)) {N : Nat}  {S : St} {r : Int32 × St} (hm : fX3_fault N  S = some r) : Met l yX3_fault (wsm yX3_fault cX3_fault 4 (some .int)) rmX3_fault (va_Pc [.ref (ad 9)] (Pre D cA (xW ad cA) (xS ad) S)) (Qo D (xW ad cA) (xA ad) (some (.int r.1)) r.2) 0 0 (xA ad) := met_of [.ref (ad 9)] (by decide) (Nat.le_of_ble_eq_true rfl) hD (xS_mv ad) (xS_kp ad) (fun p e s m below meth c C hr => vX3_fault C hr rfl (N := N)  hm)
-- X7_put
def rmX7_put : Room := { frames := 0, cells := 0, slots := 0, locals := 0 }
def fX7_put_100 (N : Nat)   (S : St) : Option (Unit × St) := some ((), S)
set_option maxRecDepth 20000 in
theorem vX7_put_100 {p : Program} {l : Launch} {e : Env} {s : State} {m : MethodId} {args : Array Value} {below : List Frame} {meth : Method} {c : Code} {Q : State → Prop} {D : va_G} {ad : Nat → Nat} {cA : Nat → ClassId} (C : Ok p s m args c D cA (xW ad cA) (xA ad) (xS ad) RX7 cX7_put 5) (hr : Rt meth none) {r : Unit × St} (hQ : Q = MQ below (Qo D (xW ad cA) (xA ad) (none) r.2) args s 0 0 (xA ad)) {N : Nat}    {S : St} (hm : fX7_put_100 N   S = some r) : V p l e rmX7_put s m args below meth c Q D (xW ad cA) (xA ad) 5 S 100 [] [] := by
  unfold fX7_put_100 at hm
  exact v_vret C hr hQ (x := ()) (pc := 100) hm dX7_put_100
def fX7_put (N : Nat) (p1 : Int32) (p2 : Int32) (S : St) : Option (Unit × St) := nm (1 <<< (Int32.toInt64 p1 &&& 63)) fun y2 => ck p1 64 (stp (sA S 3 (Int32.toNatClampNeg p1) p2) fun S7 => if p2 < 10 then (if p2 < 6 then (if p2 < 2 then (if p2 = 1 then (stp (sJ S7 0 ((S7.2.1 0) ||| y2)) fun S8 => fX7_put_100 N S8) else (fX7_put_100 N S7)) else (ck (p2 - 2) 4 (ck (p2 - 2) 4 (stp (sL S7 1 (Int32.toNatClampNeg (p2 - 2)) ((S7.2.2.2 1 (Int32.toNatClampNeg (p2 - 2))) ||| y2)) fun S9 => stp (sJ S9 1 ((S9.2.1 1) ||| y2)) fun S10 => fX7_put_100 N S10)))) else (ck (p2 - 6) 4 (ck (p2 - 6) 4 (stp (sL S7 2 (Int32.toNatClampNeg (p2 - 6)) ((S7.2.2.2 2 (Int32.toNatClampNeg (p2 - 6))) ||| y2)) fun S11 => fX7_put_100 N S11)))) else (ck (p2 - 10) 4 (ck (p2 - 10) 4 (stp (sL S7 3 (Int32.toNatClampNeg (p2 - 10)) ((S7.2.2.2 3 (Int32.toNatClampNeg (p2 - 10))) ||| y2)) fun S12 => fX7_put_100 N S12))))
set_option maxRecDepth 20000 in
theorem vX7_put {p : Program} {l : Launch} {e : Env} {s : State} {m : MethodId} {args : Array Value} {below : List Frame} {meth : Method} {c : Code} {Q : State → Prop} {D : va_G} {ad : Nat → Nat} {cA : Nat → ClassId} (C : Ok p s m args c D cA (xW ad cA) (xA ad) (xS ad) RX7 cX7_put 5) (hr : Rt meth none) {r : Unit × St} (hQ : Q = MQ below (Qo D (xW ad cA) (xA ad) (none) r.2) args s 0 0 (xA ad)) {N : Nat} {p1 : Int32} {p2 : Int32} {S : St} (hm : fX7_put N p1 p2 S = some r) : V p l e rmX7_put s m args below meth c Q D (xW ad cA) (xA ad) 5 S 0 [(0, .ref (ad 3)), (1, .int p1), (2, .int p2)] [] := by
  unfold fX7_put at hm
  refine v_lconst C (pc := 0) 1 dX7_put_0 rfl ?_
  refine v_iload_n C (pc := 1) 1 dX7_put_1 rfl rfl ?_
  refine v_lshl C (pc := 2) dX7_put_2 ?_
  refine v_lstore_nN C (pc := 3) [(0, .ref (ad 3)), (1, .int p1), (2, .int p2)] hm dX7_put_3 rfl (by decide) rfl (fun y2 hm => ?_)
  refine v_aload_n C (pc := 4) 1 dX7_put_4 rfl rfl ?_
  refine gX7_18 C (pc := 5) dX7_put_5 ?_
  refine v_iload_n C (pc := 8) 2 dX7_put_8 rfl rfl ?_
  refine v_iload_n C (pc := 9) 3 dX7_put_9 rfl rfl ?_
  refine stX7_kinds C (pc := 10) hm dX7_put_10 (fun S7 hm => ?_)
  refine v_iload_n C (pc := 11) 3 dX7_put_11 rfl rfl ?_
  refine v_bipush C (pc := 12) 10 dX7_put_12 rfl ?_
  refine v_icmp_lt C (pc := 14) hm 33 dX7_put_14 rfl (fun hm => ?_) (fun hm => ?_)
  · refine v_iload_n C (pc := 33) 3 dX7_put_33 rfl rfl ?_
    refine v_bipush C (pc := 34) 6 dX7_put_34 rfl ?_
    refine v_icmp_lt C (pc := 36) hm 55 dX7_put_36 rfl (fun hm => ?_) (fun hm => ?_)
    · refine v_iload_n C (pc := 55) 3 dX7_put_55 rfl rfl ?_
      refine v_iconst C (pc := 56) 2 dX7_put_56 rfl ?_
      refine v_icmp_lt C (pc := 57) hm 85 dX7_put_57 rfl (fun hm => ?_) (fun hm => ?_)
      · refine v_iload_n C (pc := 85) 3 dX7_put_85 rfl rfl ?_
        refine v_iconst C (pc := 86) 1 dX7_put_86 rfl ?_
        refine v_icmp_ne C (pc := 87) hm 100 dX7_put_87 rfl (fun hm => ?_) (fun hm => ?_)
        · exact v_sub [] rfl (vX7_put_100 C hr hQ (N := N) hm)
        · refine v_aload_n C (pc := 90) 1 dX7_put_90 rfl rfl ?_
          refine v_dup C (pc := 91) dX7_put_91 rfl ?_
          refine gX7_22 C (pc := 92) dX7_put_92 ?_
          refine v_lload_n C (pc := 95) 0 dX7_put_95 rfl rfl ?_
          refine v_lor C (pc := 96) dX7_put_96 ?_
          refine pX7_22 C (pc := 97) hm dX7_put_97 (fun S8 hm => ?_)
          exact v_sub [] rfl (vX7_put_100 C hr hQ (N := N) hm)
      · refine v_aload_n C (pc := 60) 1 dX7_put_60 rfl rfl ?_
        refine gX7_29 C (pc := 61) dX7_put_61 ?_
        refine v_iload_n C (pc := 64) 3 dX7_put_64 rfl rfl ?_
        refine v_iconst C (pc := 65) 2 dX7_put_65 rfl ?_
        refine v_isub C (pc := 66) dX7_put_66 ?_
        refine v_dup2 C (pc := 67) dX7_put_67 rfl rfl ?_
        refine ldX7_oneWaysFor C (pc := 68) hm dX7_put_68 (fun hm => ?_)
        refine v_lload_n C (pc := 69) 0 dX7_put_69 rfl rfl ?_
        refine v_lor C (pc := 70) dX7_put_70 ?_
        refine stX7_oneWaysFor C (pc := 71) hm dX7_put_71 (fun S9 hm => ?_)
        refine v_aload_n C (pc := 72) 1 dX7_put_72 rfl rfl ?_
        refine v_dup C (pc := 73) dX7_put_73 rfl ?_
        refine gX7_26 C (pc := 74) dX7_put_74 ?_
        refine v_lload_n C (pc := 77) 0 dX7_put_77 rfl rfl ?_
        refine v_lor C (pc := 78) dX7_put_78 ?_
        refine pX7_26 C (pc := 79) hm dX7_put_79 (fun S10 hm => ?_)
        refine v_goto C (pc := 82) 100 dX7_put_82 rfl ?_
        exact v_sub [] rfl (vX7_put_100 C hr hQ (N := N) hm)
    · refine v_aload_n C (pc := 39) 1 dX7_put_39 rfl rfl ?_
      refine gX7_33 C (pc := 40) dX7_put_40 ?_
      refine v_iload_n C (pc := 43) 3 dX7_put_43 rfl rfl ?_
      refine v_bipush C (pc := 44) 6 dX7_put_44 rfl ?_
      refine v_isub C (pc := 46) dX7_put_46 ?_
      refine v_dup2 C (pc := 47) dX7_put_47 rfl rfl ?_
      refine ldX7_plates C (pc := 48) hm dX7_put_48 (fun hm => ?_)
      refine v_lload_n C (pc := 49) 0 dX7_put_49 rfl rfl ?_
      refine v_lor C (pc := 50) dX7_put_50 ?_
      refine stX7_plates C (pc := 51) hm dX7_put_51 (fun S11 hm => ?_)
      refine v_goto C (pc := 52) 100 dX7_put_52 rfl ?_
      exact v_sub [] rfl (vX7_put_100 C hr hQ (N := N) hm)
  · refine v_aload_n C (pc := 17) 1 dX7_put_17 rfl rfl ?_
    refine gX7_36 C (pc := 18) dX7_put_18 ?_
    refine v_iload_n C (pc := 21) 3 dX7_put_21 rfl rfl ?_
    refine v_bipush C (pc := 22) 10 dX7_put_22 rfl ?_
    refine v_isub C (pc := 24) dX7_put_24 ?_
    refine v_dup2 C (pc := 25) dX7_put_25 rfl rfl ?_
    refine ldX7_gates C (pc := 26) hm dX7_put_26 (fun hm => ?_)
    refine v_lload_n C (pc := 27) 0 dX7_put_27 rfl rfl ?_
    refine v_lor C (pc := 28) dX7_put_28 ?_
    refine stX7_gates C (pc := 29) hm dX7_put_29 (fun S12 hm => ?_)
    refine v_goto C (pc := 30) 100 dX7_put_30 rfl ?_
    exact v_sub [] rfl (vX7_put_100 C hr hQ (N := N) hm)
theorem mX7_put {l : Launch} {D : va_G} {ad : Nat → Nat} {cA : Nat → ClassId} (hD : ∀ S, va_D (xA ad) (xW ad cA S)) {N : Nat} {p1 : Int32} {p2 : Int32} {S : St} {r : Unit × St} (hm : fX7_put N p1 p2 S = some r) : Met l yX7_put (wsm yX7_put cX7_put 5 none) rmX7_put (va_Pc [.ref (ad 3), .int p1, .int p2] (Pre D cA (xW ad cA) (xS ad) S)) (Qo D (xW ad cA) (xA ad) (none) r.2) 0 0 (xA ad) := met_of [.ref (ad 3), .int p1, .int p2] (by decide) (Nat.le_of_ble_eq_true rfl) hD (xS_mv ad) (xS_kp ad) (fun p e s m below meth c C hr => vX7_put C hr rfl (N := N)  hm)
-- X3_buildCell
theorem kX3_110 {p : Program} {l : Launch} {e : Env} {R : Room} {s : State} {m : MethodId} {args : Array Value} {below : List Frame} {meth : Method} {c : Code} {Q : State → Prop} {D : va_G} {ad : Nat → Nat} {cA : Nat → ClassId} {cc : ByteArray} {nL : Nat} {S : St} {pc : Nat} {lv : List (Nat × Value)} {st : List Value} {ρ : Type} {res : ρ} (C : Ok p s m args c D cA (xW ad cA) (xA ad) (xS ad) RX3 cc nL) (hfr : rmX8_columnOf.frames + 1 ≤ R.frames) (hlo : 8 + (1 + 11) + rmX8_columnOf.locals ≤ R.locals) {N : Nat} {p1 : Int32} {E : Int32 → St → Option ρ} (hm : bd (fX8_columnOf N p1 S) E = some res) (hcat : (st.map fun v => v.category).sum ≤ 8) (hd : decode cc pc = .ok (.invokestatic 110, 3)) (k : ∀ r S, E r S = some res → V p l e R s m args below meth c Q D (xW ad cA) (xA ad) nL S (pc + 3) lv (.int r :: st)) : V p l e R s m args below meth c Q D (xW ad cA) (xA ad) nL S pc lv (.int p1 :: st) := by
  obtain ⟨r, S1, h1, h2⟩ := bd_some hm
  exact v_callSN C (C.2.2.2.2.2.2.2.1.2.2.2.2 _ (by decide +kernel) : va_Nw (Cond.methodLinkNest RX3 110 yX8_columnOf "BlockYard") s) infX8_columnOf (rm2 := rmX8_columnOf) ⟨rfl, rfl⟩ hfr hlo (mX8_columnOf C.2.2.2.2.2.2.1 h1) (As := [.int p1]) rfl rfl hcat hd (k r S1 h2)
theorem kX3_114 {p : Program} {l : Launch} {e : Env} {R : Room} {s : State} {m : MethodId} {args : Array Value} {below : List Frame} {meth : Method} {c : Code} {Q : State → Prop} {D : va_G} {ad : Nat → Nat} {cA : Nat → ClassId} {cc : ByteArray} {nL : Nat} {S : St} {pc : Nat} {lv : List (Nat × Value)} {st : List Value} {ρ : Type} {res : ρ} (C : Ok p s m args c D cA (xW ad cA) (xA ad) (xS ad) RX3 cc nL) (hfr : rmX8_rowOf.frames + 1 ≤ R.frames) (hlo : 8 + (1 + 11) + rmX8_rowOf.locals ≤ R.locals) {N : Nat} {p1 : Int32} {E : Int32 → St → Option ρ} (hm : bd (fX8_rowOf N p1 S) E = some res) (hcat : (st.map fun v => v.category).sum ≤ 8) (hd : decode cc pc = .ok (.invokestatic 114, 3)) (k : ∀ r S, E r S = some res → V p l e R s m args below meth c Q D (xW ad cA) (xA ad) nL S (pc + 3) lv (.int r :: st)) : V p l e R s m args below meth c Q D (xW ad cA) (xA ad) nL S pc lv (.int p1 :: st) := by
  obtain ⟨r, S1, h1, h2⟩ := bd_some hm
  exact v_callSN C (C.2.2.2.2.2.2.2.1.2.2.2.2 _ (by decide +kernel) : va_Nw (Cond.methodLinkNest RX3 114 yX8_rowOf "BlockYard") s) infX8_rowOf (rm2 := rmX8_rowOf) ⟨rfl, rfl⟩ hfr hlo (mX8_rowOf C.2.2.2.2.2.2.1 h1) (As := [.int p1]) rfl rfl hcat hd (k r S1 h2)
theorem infX0_addCell : InfV yX0_addCell cX0_addCell 7 none 2 := ⟨⟨gm (i := 59) (by decide +kernel) rfl, gm (i := 463) (by decide +kernel) rfl, by decide +kernel⟩, gm (i := 461) (by decide +kernel) rfl, gm (i := 462) (by decide +kernel) rfl⟩
theorem kX3_117 {p : Program} {l : Launch} {e : Env} {R : Room} {s : State} {m : MethodId} {args : Array Value} {below : List Frame} {meth : Method} {c : Code} {Q : State → Prop} {D : va_G} {ad : Nat → Nat} {cA : Nat → ClassId} {cc : ByteArray} {nL : Nat} {S : St} {pc : Nat} {lv : List (Nat × Value)} {st : List Value} {ρ : Type} {res : ρ} (C : Ok p s m args c D cA (xW ad cA) (xA ad) (xS ad) RX3 cc nL) (hfr : rmX0_addCell.frames + 1 ≤ R.frames) (hlo : 8 + (7 + 11) + rmX0_addCell.locals ≤ R.locals) {i : Nat} (hi : i < 5) {N : Nat} {p1 : Int32} {p2 : Int32} {E : Unit → St → Option ρ} (hm : bd (fX0_addCell N i p1 p2 S) E = some res) (hcat : (st.map fun v => v.category).sum ≤ 8) (hd : decode cc pc = .ok (.invokevirtual 117, 3)) (k : ∀ r S, E r S = some res → V p l e R s m args below meth c Q D (xW ad cA) (xA ad) nL S (pc + 3) lv (st)) : V p l e R s m args below meth c Q D (xW ad cA) (xA ad) nL S pc lv (.int p2 :: .int p1 :: .ref (ad (4 + i)) :: st) := by
  obtain ⟨r, S1, h1, h2⟩ := bd_some hm
  exact v_callV C (gm (i := 460) (by decide +kernel) rfl : Cond.methodLink RX3 117 yX0_addCell ∈ gw_tbl) infX0_addCell (rm2 := rmX0_addCell) ⟨rfl, rfl⟩ hfr hlo (mX0_addCell C.2.2.2.2.2.2.1 hi h1) (As := [.int p1, .int p2]) (oX0 ad cA i hi S) rfl rfl rfl rfl hcat hd (k r S1 h2)
theorem infX7_put : InfV yX7_put cX7_put 5 none 2 := ⟨⟨gm (i := 58) (by decide +kernel) rfl, gm (i := 453) (by decide +kernel) rfl, by decide +kernel⟩, gm (i := 451) (by decide +kernel) rfl, gm (i := 452) (by decide +kernel) rfl⟩
theorem kX3_105 {p : Program} {l : Launch} {e : Env} {R : Room} {s : State} {m : MethodId} {args : Array Value} {below : List Frame} {meth : Method} {c : Code} {Q : State → Prop} {D : va_G} {ad : Nat → Nat} {cA : Nat → ClassId} {cc : ByteArray} {nL : Nat} {S : St} {pc : Nat} {lv : List (Nat × Value)} {st : List Value} {ρ : Type} {res : ρ} (C : Ok p s m args c D cA (xW ad cA) (xA ad) (xS ad) RX3 cc nL) (hfr : rmX7_put.frames + 1 ≤ R.frames) (hlo : 8 + (5 + 11) + rmX7_put.locals ≤ R.locals) {N : Nat} {p1 : Int32} {p2 : Int32} {E : Unit → St → Option ρ} (hm : bd (fX7_put N p1 p2 S) E = some res) (hcat : (st.map fun v => v.category).sum ≤ 8) (hd : decode cc pc = .ok (.invokevirtual 105, 3)) (k : ∀ r S, E r S = some res → V p l e R s m args below meth c Q D (xW ad cA) (xA ad) nL S (pc + 3) lv (st)) : V p l e R s m args below meth c Q D (xW ad cA) (xA ad) nL S pc lv (.int p2 :: .int p1 :: .ref (ad 3) :: st) := by
  obtain ⟨r, S1, h1, h2⟩ := bd_some hm
  exact v_callV C (gm (i := 450) (by decide +kernel) rfl : Cond.methodLink RX3 105 yX7_put ∈ gw_tbl) infX7_put (rm2 := rmX7_put) ⟨rfl, rfl⟩ hfr hlo (mX7_put C.2.2.2.2.2.2.1 h1) (As := [.int p1, .int p2]) (oX7 ad cA S) rfl rfl rfl rfl hcat hd (k r S1 h2)
def rmX3_buildCell : Room := { frames := 2, cells := 0, slots := 0, locals := 42 }
def fX3_buildCell_86 (N : Nat)   (S : St) : Option (Unit × St) := some ((), S)
set_option maxRecDepth 20000 in
theorem vX3_buildCell_86 {p : Program} {l : Launch} {e : Env} {s : State} {m : MethodId} {args : Array Value} {below : List Frame} {meth : Method} {c : Code} {Q : State → Prop} {D : va_G} {ad : Nat → Nat} {cA : Nat → ClassId} (C : Ok p s m args c D cA (xW ad cA) (xA ad) (xS ad) RX3 cX3_buildCell 6) (hr : Rt meth none) {r : Unit × St} (hQ : Q = MQ below (Qo D (xW ad cA) (xA ad) (none) r.2) args s 0 0 (xA ad)) {N : Nat}    {S : St} (hm : fX3_buildCell_86 N   S = some r) : V p l e rmX3_buildCell s m args below meth c Q D (xW ad cA) (xA ad) 6 S 86 [] [] := by
  unfold fX3_buildCell_86 at hm
  exact v_vret C hr hQ (x := ()) (pc := 86) hm dX3_buildCell_86
def fX3_buildCell (N : Nat) (p2 : Int32) (p3 : Int32) (S : St) : Option (Unit × St) := bd (fX6_at N ((((S.1 25) + 1) * p3) + p2) S) fun r9 S8 => bd (fX3_blockOf N r9 S8) fun r10 S9 => if 0 ≤ r10 then (ck r10 5 (ck r10 5 (bd (fX8_columnOf N (S9.2.2.1 21 (Int32.toNatClampNeg r10)) S9) fun r12 S10 => ck r10 5 (bd (fX8_rowOf N (S10.2.2.1 21 (Int32.toNatClampNeg r10)) S10) fun r13 S11 => bd (fX0_addCell N (Int32.toNatClampNeg r10) (p2 - r12) (p3 - r13) S11) fun r14 S12 => fX3_buildCell_86 N S12)))) else (bd (fX3_groundOf N r9 S9) fun r15 S13 => bd (fX7_put N ((8 * p3) + p2) r15 S13) fun r16 S14 => fX3_buildCell_86 N S14)
set_option maxRecDepth 20000 in
theorem vX3_buildCell {p : Program} {l : Launch} {e : Env} {s : State} {m : MethodId} {args : Array Value} {below : List Frame} {meth : Method} {c : Code} {Q : State → Prop} {D : va_G} {ad : Nat → Nat} {cA : Nat → ClassId} (C : Ok p s m args c D cA (xW ad cA) (xA ad) (xS ad) RX3 cX3_buildCell 6) (hr : Rt meth none) {r : Unit × St} (hQ : Q = MQ below (Qo D (xW ad cA) (xA ad) (none) r.2) args s 0 0 (xA ad)) {N : Nat} {p2 : Int32} {p3 : Int32} {S : St} (hm : fX3_buildCell N p2 p3 S = some r) : V p l e rmX3_buildCell s m args below meth c Q D (xW ad cA) (xA ad) 6 S 0 [(0, .ref (ad 9)), (1, .ref (ad 2)), (2, .int p2), (3, .int p3)] [] := by
  unfold fX3_buildCell at hm
  refine v_aload_n C (pc := 0) 0 dX3_buildCell_0 rfl rfl ?_
  refine gX3_31 C (pc := 1) dX3_buildCell_1 ?_
  refine v_aload_n C (pc := 4) 0 dX3_buildCell_4 rfl rfl ?_
  refine gX3_21 C (pc := 5) dX3_buildCell_5 ?_
  refine v_iconst C (pc := 8) 1 dX3_buildCell_8 rfl ?_
  refine v_iadd C (pc := 9) dX3_buildCell_9 ?_
  refine v_iload_n C (pc := 10) 3 dX3_buildCell_10 rfl rfl ?_
  refine v_imul C (pc := 11) dX3_buildCell_11 ?_
  refine v_iload_n C (pc := 12) 2 dX3_buildCell_12 rfl rfl ?_
  refine v_iadd C (pc := 13) dX3_buildCell_13 ?_
  refine kX3_46 C (Nat.le_of_ble_eq_true rfl) (Nat.le_of_ble_eq_true rfl) (pc := 14) hm (Nat.le_of_ble_eq_true rfl) dX3_buildCell_14 (fun r9 S8 hm => ?_)
  refine v_istore C (pc := 17) [(4, .int r9), (0, .ref (ad 9)), (1, .ref (ad 2)), (2, .int p2), (3, .int p3)] dX3_buildCell_17 (by decide) rfl ?_
  refine v_iload C (pc := 19) 0 dX3_buildCell_19 rfl ?_
  refine kX3_62 C (Nat.le_of_ble_eq_true rfl) (Nat.le_of_ble_eq_true rfl) (pc := 21) hm (Nat.le_of_ble_eq_true rfl) dX3_buildCell_21 (fun r10 S9 hm => ?_)
  refine v_istore C (pc := 24) [(5, .int r10), (4, .int r9), (0, .ref (ad 9)), (1, .ref (ad 2)), (2, .int p2), (3, .int p3)] dX3_buildCell_24 (by decide) rfl ?_
  refine v_iload C (pc := 26) 0 dX3_buildCell_26 rfl ?_
  refine v_if_ge C (pc := 28) hm 52 dX3_buildCell_28 rfl (fun hm => ?_) (fun hm => ?_)
  · refine v_aload_n C (pc := 52) 3 dX3_buildCell_52 rfl rfl ?_
    refine gX3_87 C (pc := 53) dX3_buildCell_53 ?_
    refine v_iload C (pc := 56) 0 dX3_buildCell_56 rfl ?_
    refine ldX2_blocks C (pc := 58) hm dX3_buildCell_58 (fun hb11 hm => ?_)
    refine v_iload_n C (pc := 59) 4 dX3_buildCell_59 rfl rfl ?_
    refine v_aload_n C (pc := 60) 2 dX3_buildCell_60 rfl rfl ?_
    refine gX3_18 C (pc := 61) dX3_buildCell_61 ?_
    refine v_iload C (pc := 64) 0 dX3_buildCell_64 rfl ?_
    refine ldX3_pivots C (pc := 66) hm dX3_buildCell_66 (fun hm => ?_)
    refine kX3_110 C (Nat.le_of_ble_eq_true rfl) (Nat.le_of_ble_eq_true rfl) (pc := 67) hm (Nat.le_of_ble_eq_true rfl) dX3_buildCell_67 (fun r12 S10 hm => ?_)
    refine v_isub C (pc := 70) dX3_buildCell_70 ?_
    refine v_iload_n C (pc := 71) 5 dX3_buildCell_71 rfl rfl ?_
    refine v_aload_n C (pc := 72) 2 dX3_buildCell_72 rfl rfl ?_
    refine gX3_18 C (pc := 73) dX3_buildCell_73 ?_
    refine v_iload C (pc := 76) 0 dX3_buildCell_76 rfl ?_
    refine ldX3_pivots C (pc := 78) hm dX3_buildCell_78 (fun hm => ?_)
    refine kX3_114 C (Nat.le_of_ble_eq_true rfl) (Nat.le_of_ble_eq_true rfl) (pc := 79) hm (Nat.le_of_ble_eq_true rfl) dX3_buildCell_79 (fun r13 S11 hm => ?_)
    refine v_isub C (pc := 82) dX3_buildCell_82 ?_
    refine kX3_117 C (Nat.le_of_ble_eq_true rfl) (Nat.le_of_ble_eq_true rfl) hb11 (pc := 83) hm (Nat.le_of_ble_eq_true rfl) dX3_buildCell_83 (fun r14 S12 hm => ?_)
    exact v_sub [] rfl (vX3_buildCell_86 C hr hQ (N := N) hm)
  · refine v_aload_n C (pc := 31) 3 dX3_buildCell_31 rfl rfl ?_
    refine gX3_91 C (pc := 32) dX3_buildCell_32 ?_
    refine v_bipush C (pc := 35) 8 dX3_buildCell_35 rfl ?_
    refine v_iload_n C (pc := 37) 5 dX3_buildCell_37 rfl rfl ?_
    refine v_imul C (pc := 38) dX3_buildCell_38 ?_
    refine v_iload_n C (pc := 39) 4 dX3_buildCell_39 rfl rfl ?_
    refine v_iadd C (pc := 40) dX3_buildCell_40 ?_
    refine v_iload C (pc := 41) 1 dX3_buildCell_41 rfl ?_
    refine kX3_66 C (Nat.le_of_ble_eq_true rfl) (Nat.le_of_ble_eq_true rfl) (pc := 43) hm (Nat.le_of_ble_eq_true rfl) dX3_buildCell_43 (fun r15 S13 hm => ?_)
    refine kX3_105 C (Nat.le_of_ble_eq_true rfl) (Nat.le_of_ble_eq_true rfl) (pc := 46) hm (Nat.le_of_ble_eq_true rfl) dX3_buildCell_46 (fun r16 S14 hm => ?_)
    refine v_goto C (pc := 49) 86 dX3_buildCell_49 rfl ?_
    exact v_sub [] rfl (vX3_buildCell_86 C hr hQ (N := N) hm)
theorem mX3_buildCell {l : Launch} {D : va_G} {ad : Nat → Nat} {cA : Nat → ClassId} (hD : ∀ S, va_D (xA ad) (xW ad cA S)) {N : Nat} {p2 : Int32} {p3 : Int32} {S : St} {r : Unit × St} (hm : fX3_buildCell N p2 p3 S = some r) : Met l yX3_buildCell (wsm yX3_buildCell cX3_buildCell 6 none) rmX3_buildCell (va_Pc [.ref (ad 9), .ref (ad 2), .int p2, .int p3] (Pre D cA (xW ad cA) (xS ad) S)) (Qo D (xW ad cA) (xA ad) (none) r.2) 0 0 (xA ad) := met_of [.ref (ad 9), .ref (ad 2), .int p2, .int p3] (by decide) (Nat.le_of_ble_eq_true rfl) hD (xS_mv ad) (xS_kp ad) (fun p e s m below meth c C hr => vX3_buildCell C hr rfl (N := N)  hm)
-- X8_withPlacement
def rmX8_withPlacement : Room := { frames := 0, cells := 0, slots := 0, locals := 0 }
def fX8_withPlacement (N : Nat) (p1 : Int64) (p2 : Int32) (p3 : Int32) (S : St) : Option (Int64 × St) := nm (8 * p2) fun y2 => some (((p1 &&& ((255 <<< (Int32.toInt64 y2 &&& 63)) ^^^ (-1))) ||| ((Int32.toInt64 p3) <<< (Int32.toInt64 y2 &&& 63))), S)
set_option maxRecDepth 20000 in
theorem vX8_withPlacement {p : Program} {l : Launch} {e : Env} {s : State} {m : MethodId} {args : Array Value} {below : List Frame} {meth : Method} {c : Code} {Q : State → Prop} {D : va_G} {ad : Nat → Nat} {cA : Nat → ClassId} (C : Ok p s m args c D cA (xW ad cA) (xA ad) (xS ad) RX8 cX8_withPlacement 5) (hr : Rt meth (some .long)) {r : Int64 × St} (hQ : Q = MQ below (Qo D (xW ad cA) (xA ad) (some (.long r.1)) r.2) args s 0 0 (xA ad)) {N : Nat} {p1 : Int64} {p2 : Int32} {p3 : Int32} {S : St} (hm : fX8_withPlacement N p1 p2 p3 S = some r) : V p l e rmX8_withPlacement s m args below meth c Q D (xW ad cA) (xA ad) 5 S 0 [(0, .long p1), (2, .int p2), (3, .int p3)] [] := by
  unfold fX8_withPlacement at hm
  refine v_bipush C (pc := 0) 8 dX8_withPlacement_0 rfl ?_
  refine v_iload_n C (pc := 2) 1 dX8_withPlacement_2 rfl rfl ?_
  refine v_imul C (pc := 3) dX8_withPlacement_3 ?_
  refine v_istoreN C (pc := 4) [(0, .long p1), (2, .int p2), (3, .int p3)] hm dX8_withPlacement_4 (by decide) rfl (fun y2 hm => ?_)
  refine v_lload_n C (pc := 6) 1 dX8_withPlacement_6 rfl rfl ?_
  refine v_ldc2 C (pc := 7) dX8_withPlacement_7 clX8_272 ?_
  refine v_iload C (pc := 10) 0 dX8_withPlacement_10 rfl ?_
  refine v_lshl C (pc := 12) dX8_withPlacement_12 ?_
  refine v_ldc2 C (pc := 13) dX8_withPlacement_13 clX8_274 ?_
  refine v_lxor C (pc := 16) dX8_withPlacement_16 ?_
  refine v_land C (pc := 17) dX8_withPlacement_17 ?_
  refine v_iload_n C (pc := 18) 3 dX8_withPlacement_18 rfl rfl ?_
  refine v_i2l C (pc := 19) dX8_withPlacement_19 ?_
  refine v_iload C (pc := 20) 0 dX8_withPlacement_20 rfl ?_
  refine v_lshl C (pc := 22) dX8_withPlacement_22 ?_
  refine v_lor C (pc := 23) dX8_withPlacement_23 ?_
  exact v_lret C hr hQ (pc := 24) hm dX8_withPlacement_24
theorem mX8_withPlacement {l : Launch} {D : va_G} {ad : Nat → Nat} {cA : Nat → ClassId} (hD : ∀ S, va_D (xA ad) (xW ad cA S)) {N : Nat} {p1 : Int64} {p2 : Int32} {p3 : Int32} {S : St} {r : Int64 × St} (hm : fX8_withPlacement N p1 p2 p3 S = some r) : Met l yX8_withPlacement (wsm yX8_withPlacement cX8_withPlacement 5 (some .long)) rmX8_withPlacement (va_Pc [.long p1, .int p2, .int p3] (Pre D cA (xW ad cA) (xS ad) S)) (Qo D (xW ad cA) (xA ad) (some (.long r.1)) r.2) 0 0 (xA ad) := met_of [.long p1, .int p2, .int p3] (by decide) (Nat.le_of_ble_eq_true rfl) hD (xS_mv ad) (xS_kp ad) (fun p e s m below meth c C hr => vX8_withPlacement C hr rfl (N := N)  hm)
-- X3_build
theorem infX3_buildCell : InfV yX3_buildCell cX3_buildCell 6 none 3 := ⟨⟨gm (i := 61) (by decide +kernel) rfl, gm (i := 449) (by decide +kernel) rfl, by decide +kernel⟩, gm (i := 448) (by decide +kernel) rfl, gm (i := 4) (by decide +kernel) rfl⟩
theorem kX3_83 {p : Program} {l : Launch} {e : Env} {R : Room} {s : State} {m : MethodId} {args : Array Value} {below : List Frame} {meth : Method} {c : Code} {Q : State → Prop} {D : va_G} {ad : Nat → Nat} {cA : Nat → ClassId} {cc : ByteArray} {nL : Nat} {S : St} {pc : Nat} {lv : List (Nat × Value)} {st : List Value} {ρ : Type} {res : ρ} (C : Ok p s m args c D cA (xW ad cA) (xA ad) (xS ad) RX3 cc nL) (hfr : rmX3_buildCell.frames + 1 ≤ R.frames) (hlo : 8 + (6 + 11) + rmX3_buildCell.locals ≤ R.locals) {N : Nat} {p2 : Int32} {p3 : Int32} {E : Unit → St → Option ρ} (hm : bd (fX3_buildCell N p2 p3 S) E = some res) (hcat : (st.map fun v => v.category).sum ≤ 8) (hd : decode cc pc = .ok (.invokevirtual 83, 3)) (k : ∀ r S, E r S = some res → V p l e R s m args below meth c Q D (xW ad cA) (xA ad) nL S (pc + 3) lv (st)) : V p l e R s m args below meth c Q D (xW ad cA) (xA ad) nL S pc lv (.int p3 :: .int p2 :: .ref (ad 2) :: .ref (ad 9) :: st) := by
  obtain ⟨r, S1, h1, h2⟩ := bd_some hm
  exact v_callV C (gm (i := 446) (by decide +kernel) rfl : Cond.methodLink RX3 83 yX3_buildCell ∈ gw_tbl) infX3_buildCell (rm2 := rmX3_buildCell) ⟨rfl, rfl⟩ hfr hlo (mX3_buildCell C.2.2.2.2.2.2.1 h1) (As := [.ref (ad 2), .int p2, .int p3]) (oX3 ad cA S) rfl rfl rfl rfl hcat hd (k r S1 h2)
theorem infX0_findPlacements : InfV yX0_findPlacements cX0_findPlacements 3 none 1 := ⟨⟨gm (i := 59) (by decide +kernel) rfl, gm (i := 467) (by decide +kernel) rfl, by decide +kernel⟩, gm (i := 465) (by decide +kernel) rfl, gm (i := 466) (by decide +kernel) rfl⟩
theorem kX3_95 {p : Program} {l : Launch} {e : Env} {R : Room} {s : State} {m : MethodId} {args : Array Value} {below : List Frame} {meth : Method} {c : Code} {Q : State → Prop} {D : va_G} {ad : Nat → Nat} {cA : Nat → ClassId} {cc : ByteArray} {nL : Nat} {S : St} {pc : Nat} {lv : List (Nat × Value)} {st : List Value} {ρ : Type} {res : ρ} (C : Ok p s m args c D cA (xW ad cA) (xA ad) (xS ad) RX3 cc nL) (hfr : rmX0_findPlacements.frames + 1 ≤ R.frames) (hlo : 8 + (3 + 11) + rmX0_findPlacements.locals ≤ R.locals) {i : Nat} (hi : i < 5) {N : Nat}  {E : Unit → St → Option ρ} (hm : bd (fX0_findPlacements N i S) E = some res) (hcat : (st.map fun v => v.category).sum ≤ 8) (hd : decode cc pc = .ok (.invokevirtual 95, 3)) (k : ∀ r S, E r S = some res → V p l e R s m args below meth c Q D (xW ad cA) (xA ad) nL S (pc + 3) lv (st)) : V p l e R s m args below meth c Q D (xW ad cA) (xA ad) nL S pc lv (.ref (ad 3) :: .ref (ad (4 + i)) :: st) := by
  obtain ⟨r, S1, h1, h2⟩ := bd_some hm
  exact v_callV C (gm (i := 464) (by decide +kernel) rfl : Cond.methodLink RX3 95 yX0_findPlacements ∈ gw_tbl) infX0_findPlacements (rm2 := rmX0_findPlacements) ⟨rfl, rfl⟩ hfr hlo (mX0_findPlacements C.2.2.2.2.2.2.1 hi h1) (As := [.ref (ad 3)]) (oX0 ad cA i hi S) rfl rfl rfl rfl hcat hd (k r S1 h2)
theorem infX8_withPlacement : InfS yX8_withPlacement cX8_withPlacement 5 (some .long) 3 := ⟨⟨gm (i := 55) (by decide +kernel) rfl, gm (i := 486) (by decide +kernel) rfl, by decide +kernel⟩, gm (i := 485) (by decide +kernel) rfl⟩
theorem kX3_101 {p : Program} {l : Launch} {e : Env} {R : Room} {s : State} {m : MethodId} {args : Array Value} {below : List Frame} {meth : Method} {c : Code} {Q : State → Prop} {D : va_G} {ad : Nat → Nat} {cA : Nat → ClassId} {cc : ByteArray} {nL : Nat} {S : St} {pc : Nat} {lv : List (Nat × Value)} {st : List Value} {ρ : Type} {res : ρ} (C : Ok p s m args c D cA (xW ad cA) (xA ad) (xS ad) RX3 cc nL) (hfr : rmX8_withPlacement.frames + 1 ≤ R.frames) (hlo : 8 + (5 + 11) + rmX8_withPlacement.locals ≤ R.locals) {N : Nat} {p1 : Int64} {p2 : Int32} {p3 : Int32} {E : Int64 → St → Option ρ} (hm : bd (fX8_withPlacement N p1 p2 p3 S) E = some res) (hcat : (st.map fun v => v.category).sum ≤ 8) (hd : decode cc pc = .ok (.invokestatic 101, 3)) (k : ∀ r S, E r S = some res → V p l e R s m args below meth c Q D (xW ad cA) (xA ad) nL S (pc + 3) lv (.long r :: st)) : V p l e R s m args below meth c Q D (xW ad cA) (xA ad) nL S pc lv (.int p3 :: .int p2 :: .long p1 :: st) := by
  obtain ⟨r, S1, h1, h2⟩ := bd_some hm
  exact v_callSN C (C.2.2.2.2.2.2.2.1.2.2.2.2 _ (by decide +kernel) : va_Nw (Cond.methodLinkNest RX3 101 yX8_withPlacement "BlockYard") s) infX8_withPlacement (rm2 := rmX8_withPlacement) ⟨rfl, rfl⟩ hfr hlo (mX8_withPlacement C.2.2.2.2.2.2.1 h1) (As := [.long p1, .int p2, .int p3]) rfl rfl hcat hd (k r S1 h2)
theorem infX2_clear : InfV yX2_clear cX2_clear 4 none 2 := ⟨⟨gm (i := 57) (by decide +kernel) rfl, gm (i := 428) (by decide +kernel) rfl, by decide +kernel⟩, gm (i := 426) (by decide +kernel) rfl, gm (i := 427) (by decide +kernel) rfl⟩
theorem kX3_77 {p : Program} {l : Launch} {e : Env} {R : Room} {s : State} {m : MethodId} {args : Array Value} {below : List Frame} {meth : Method} {c : Code} {Q : State → Prop} {D : va_G} {ad : Nat → Nat} {cA : Nat → ClassId} {cc : ByteArray} {nL : Nat} {S : St} {pc : Nat} {lv : List (Nat × Value)} {st : List Value} {ρ : Type} {res : ρ} (C : Ok p s m args c D cA (xW ad cA) (xA ad) (xS ad) RX3 cc nL) (hfr : rmX2_clear.frames + 1 ≤ R.frames) (hlo : 8 + (4 + 11) + rmX2_clear.locals ≤ R.locals) {N : Nat} {p1 : Int32} {p2 : Int32} {E : Unit → St → Option ρ} (hm : bd (fX2_clear N p1 p2 S) E = some res) (hcat : (st.map fun v => v.category).sum ≤ 8) (hd : decode cc pc = .ok (.invokevirtual 77, 3)) (k : ∀ r S, E r S = some res → V p l e R s m args below meth c Q D (xW ad cA) (xA ad) nL S (pc + 3) lv (st)) : V p l e R s m args below meth c Q D (xW ad cA) (xA ad) nL S pc lv (.int p2 :: .int p1 :: .ref (ad 2) :: st) := by
  obtain ⟨r, S1, h1, h2⟩ := bd_some hm
  exact v_callV C (gm (i := 425) (by decide +kernel) rfl : Cond.methodLink RX3 77 yX2_clear ∈ gw_tbl) infX2_clear (rm2 := rmX2_clear) ⟨rfl, rfl⟩ hfr hlo (mX2_clear C.2.2.2.2.2.2.1 h1) (As := [.int p1, .int p2]) (oX2 ad cA S) rfl rfl rfl rfl hcat hd (k r S1 h2)
def rmX3_build : Room := { frames := 4, cells := 0, slots := 0, locals := 86 }
def fX3_build_103 (N : Nat) (k58 : Int64 → Int32 → St → Option (Int64 × St)) (x2 : Int64) (x4 : Int32) (S : St) : Option (Int64 × St) := k58 x2 (x4 + 1) S
set_option maxRecDepth 20000 in
theorem vX3_build_103 {p : Program} {l : Launch} {e : Env} {s : State} {m : MethodId} {args : Array Value} {below : List Frame} {meth : Method} {c : Code} {Q : State → Prop} {D : va_G} {ad : Nat → Nat} {cA : Nat → ClassId} (C : Ok p s m args c D cA (xW ad cA) (xA ad) (xS ad) RX3 cX3_build 5) (hr : Rt meth (some .long)) {r : Int64 × St} (hQ : Q = MQ below (Qo D (xW ad cA) (xA ad) (some (.long r.1)) r.2) args s 0 0 (xA ad)) {N : Nat} {k58 : Int64 → Int32 → St → Option (Int64 × St)} (hk58 : ∀ (x2 : Int64) (x4 : Int32) (S : St), k58 x2 x4 S = some r → V p l e rmX3_build s m args below meth c Q D (xW ad cA) (xA ad) 5 S 58 [(0, .ref (ad 9)), (1, .ref (ad 2)), (2, .long x2), (4, .int x4)] []) {x2 : Int64} {x4 : Int32}  {S : St} (hm : fX3_build_103 N k58 x2 x4 S = some r) : V p l e rmX3_build s m args below meth c Q D (xW ad cA) (xA ad) 5 S 103 [(0, .ref (ad 9)), (1, .ref (ad 2)), (2, .long x2), (4, .int x4)] [] := by
  unfold fX3_build_103 at hm
  refine v_iinc C (pc := 103) 1 3 [(4, .int (x4 + 1)), (0, .ref (ad 9)), (1, .ref (ad 2)), (2, .long x2)] dX3_build_103 rfl rfl (by decide) rfl ?_
  refine v_goto C (pc := 106) 58 dX3_build_106 rfl ?_
  exact v_sub [1, 2, 3, 0] rfl (hk58 _ _ _ hm)
def fX3_build_58b (N : Nat)  (k58 : Int64 → Int32 → St → Option (Int64 × St)) (x2 : Int64) (x4 : Int32) (S : St) : Option (Int64 × St) := if 5 ≤ x4 then (some (x2, S)) else (ck x4 5 (if (S.2.2.1 21 (Int32.toNatClampNeg x4)) = (-1) then (fX3_build_103 N k58 x2 x4 S) else (ck x4 5 (bd (fX0_findPlacements N (Int32.toNatClampNeg x4) S) fun r13 S10 => ck x4 5 (bd (fX8_withPlacement N x2 x4 (S10.2.2.1 21 (Int32.toNatClampNeg x4)) S10) fun r14 S11 => fX3_build_103 N k58 r14 x4 S11)))))
def fX3_build_58 (N : Nat)  : Nat → Int64 → Int32 → St → Option (Int64 × St)
  | 0 => fun _ _ _ => none
  | n + 1 => fun x2 x4 S => fX3_build_58b N  (fX3_build_58 N  n) x2 x4 S
set_option maxRecDepth 20000 in
theorem vX3_build_58b {p : Program} {l : Launch} {e : Env} {s : State} {m : MethodId} {args : Array Value} {below : List Frame} {meth : Method} {c : Code} {Q : State → Prop} {D : va_G} {ad : Nat → Nat} {cA : Nat → ClassId} (C : Ok p s m args c D cA (xW ad cA) (xA ad) (xS ad) RX3 cX3_build 5) (hr : Rt meth (some .long)) {r : Int64 × St} (hQ : Q = MQ below (Qo D (xW ad cA) (xA ad) (some (.long r.1)) r.2) args s 0 0 (xA ad)) {N : Nat}  {k58 : Int64 → Int32 → St → Option (Int64 × St)} (hk58 : ∀ (x2 : Int64) (x4 : Int32) (S : St), k58 x2 x4 S = some r → V p l e rmX3_build s m args below meth c Q D (xW ad cA) (xA ad) 5 S 58 [(0, .ref (ad 9)), (1, .ref (ad 2)), (2, .long x2), (4, .int x4)] []) {x2 : Int64} {x4 : Int32}  {S : St} (hm : fX3_build_58b N  k58 x2 x4 S = some r) : V p l e rmX3_build s m args below meth c Q D (xW ad cA) (xA ad) 5 S 58 [(0, .ref (ad 9)), (1, .ref (ad 2)), (2, .long x2), (4, .int x4)] [] := by
  unfold fX3_build_58b at hm
  refine v_iload C (pc := 58) 3 dX3_build_58 rfl ?_
  refine v_iconst C (pc := 60) 5 dX3_build_60 rfl ?_
  refine v_icmp_ge C (pc := 61) hm 109 dX3_build_61 rfl (fun hm => ?_) (fun hm => ?_)
  · refine v_lload_n C (pc := 109) 2 dX3_build_109 rfl rfl ?_
    exact v_lret C hr hQ (pc := 110) hm dX3_build_110
  · refine v_aload_n C (pc := 64) 0 dX3_build_64 rfl rfl ?_
    refine gX3_18 C (pc := 65) dX3_build_65 ?_
    refine v_iload C (pc := 68) 3 dX3_build_68 rfl ?_
    refine ldX3_pivots C (pc := 70) hm dX3_build_70 (fun hm => ?_)
    refine v_iconst C (pc := 71) (-1) dX3_build_71 rfl ?_
    refine v_icmp_eq C (pc := 72) hm 103 dX3_build_72 rfl (fun hm => ?_) (fun hm => ?_)
    · exact (vX3_build_103 C hr hQ (N := N) hk58 hm)
    · refine v_aload_n C (pc := 75) 1 dX3_build_75 rfl rfl ?_
      refine gX3_87 C (pc := 76) dX3_build_76 ?_
      refine v_iload C (pc := 79) 3 dX3_build_79 rfl ?_
      refine ldX2_blocks C (pc := 81) hm dX3_build_81 (fun hb12 hm => ?_)
      refine v_aload_n C (pc := 82) 1 dX3_build_82 rfl rfl ?_
      refine gX3_91 C (pc := 83) dX3_build_83 ?_
      refine kX3_95 C (Nat.le_of_ble_eq_true rfl) (Nat.le_of_ble_eq_true rfl) hb12 (pc := 86) hm (Nat.le_of_ble_eq_true rfl) dX3_build_86 (fun r13 S10 hm => ?_)
      refine v_lload_n C (pc := 89) 2 dX3_build_89 rfl rfl ?_
      refine v_iload C (pc := 90) 3 dX3_build_90 rfl ?_
      refine v_aload_n C (pc := 92) 0 dX3_build_92 rfl rfl ?_
      refine gX3_18 C (pc := 93) dX3_build_93 ?_
      refine v_iload C (pc := 96) 3 dX3_build_96 rfl ?_
      refine ldX3_pivots C (pc := 98) hm dX3_build_98 (fun hm => ?_)
      refine kX3_101 C (Nat.le_of_ble_eq_true rfl) (Nat.le_of_ble_eq_true rfl) (pc := 99) hm (Nat.le_of_ble_eq_true rfl) dX3_build_99 (fun r14 S11 hm => ?_)
      refine v_lstore_n C (pc := 102) [(2, .long r14), (0, .ref (ad 9)), (1, .ref (ad 2)), (4, .int x4)] dX3_build_102 rfl (by decide) rfl ?_
      exact v_sub [1, 2, 0, 3] rfl (vX3_build_103 C hr hQ (N := N) hk58 hm)
theorem vX3_build_58 {p : Program} {l : Launch} {e : Env} {s : State} {m : MethodId} {args : Array Value} {below : List Frame} {meth : Method} {c : Code} {Q : State → Prop} {D : va_G} {ad : Nat → Nat} {cA : Nat → ClassId} (C : Ok p s m args c D cA (xW ad cA) (xA ad) (xS ad) RX3 cX3_build 5) (hr : Rt meth (some .long)) {r : Int64 × St} (hQ : Q = MQ below (Qo D (xW ad cA) (xA ad) (some (.long r.1)) r.2) args s 0 0 (xA ad)) {N : Nat}  (n : Nat) : ∀ (x2 : Int64) (x4 : Int32) (S : St), fX3_build_58 N  n x2 x4 S = some r → V p l e rmX3_build s m args below meth c Q D (xW ad cA) (xA ad) 5 S 58 [(0, .ref (ad 9)), (1, .ref (ad 2)), (2, .long x2), (4, .int x4)] [] := by
  induction n with
  | zero => intro _ _ _  hm; exact absurd hm (by intro h; cases h)
  | succ n ih => intro _ _ _  hm; exact vX3_build_58b C hr hQ (N := N)   ih  hm
def fX3_build_26b (N : Nat) (k16 : Int32 → St → Option (Int64 × St)) (k26 : Int32 → Int32 → St → Option (Int64 × St)) (x2 : Int32) (x3 : Int32) (S : St) : Option (Int64 × St) := if (S.1 25) ≤ x3 then (k16 (x2 + 1) S) else (bd (fX3_buildCell N x3 x2 S) fun r11 S9 => k26 x2 (x3 + 1) S9)
def fX3_build_26 (N : Nat) (k16 : Int32 → St → Option (Int64 × St)) : Nat → Int32 → Int32 → St → Option (Int64 × St)
  | 0 => fun _ _ _ => none
  | n + 1 => fun x2 x3 S => fX3_build_26b N k16 (fX3_build_26 N k16 n) x2 x3 S
set_option maxRecDepth 20000 in
theorem vX3_build_26b {p : Program} {l : Launch} {e : Env} {s : State} {m : MethodId} {args : Array Value} {below : List Frame} {meth : Method} {c : Code} {Q : State → Prop} {D : va_G} {ad : Nat → Nat} {cA : Nat → ClassId} (C : Ok p s m args c D cA (xW ad cA) (xA ad) (xS ad) RX3 cX3_build 5) (hr : Rt meth (some .long)) {r : Int64 × St} (hQ : Q = MQ below (Qo D (xW ad cA) (xA ad) (some (.long r.1)) r.2) args s 0 0 (xA ad)) {N : Nat} {k16 : Int32 → St → Option (Int64 × St)} (hk16 : ∀ (x2 : Int32) (S : St), k16 x2 S = some r → V p l e rmX3_build s m args below meth c Q D (xW ad cA) (xA ad) 5 S 16 [(0, .ref (ad 9)), (1, .ref (ad 2)), (2, .int x2)] []) {k26 : Int32 → Int32 → St → Option (Int64 × St)} (hk26 : ∀ (x2 : Int32) (x3 : Int32) (S : St), k26 x2 x3 S = some r → V p l e rmX3_build s m args below meth c Q D (xW ad cA) (xA ad) 5 S 26 [(0, .ref (ad 9)), (1, .ref (ad 2)), (2, .int x2), (3, .int x3)] []) {x2 : Int32} {x3 : Int32}  {S : St} (hm : fX3_build_26b N k16 k26 x2 x3 S = some r) : V p l e rmX3_build s m args below meth c Q D (xW ad cA) (xA ad) 5 S 26 [(0, .ref (ad 9)), (1, .ref (ad 2)), (2, .int x2), (3, .int x3)] [] := by
  unfold fX3_build_26b at hm
  refine v_iload_n C (pc := 26) 3 dX3_build_26 rfl rfl ?_
  refine v_aload_n C (pc := 27) 0 dX3_build_27 rfl rfl ?_
  refine gX3_21 C (pc := 28) dX3_build_28 ?_
  refine v_icmp_ge C (pc := 31) hm 47 dX3_build_31 rfl (fun hm => ?_) (fun hm => ?_)
  · refine v_iinc C (pc := 47) 1 2 [(2, .int (x2 + 1)), (0, .ref (ad 9)), (1, .ref (ad 2)), (3, .int x3)] dX3_build_47 rfl rfl (by decide) rfl ?_
    refine v_goto C (pc := 50) 16 dX3_build_50 rfl ?_
    exact v_sub [1, 2, 0] rfl (hk16 _ _ hm)
  · refine v_aload_n C (pc := 34) 0 dX3_build_34 rfl rfl ?_
    refine v_aload_n C (pc := 35) 1 dX3_build_35 rfl rfl ?_
    refine v_iload_n C (pc := 36) 3 dX3_build_36 rfl rfl ?_
    refine v_iload_n C (pc := 37) 2 dX3_build_37 rfl rfl ?_
    refine kX3_83 C (Nat.le_of_ble_eq_true rfl) (Nat.le_of_ble_eq_true rfl) (pc := 38) hm (Nat.le_of_ble_eq_true rfl) dX3_build_38 (fun r11 S9 hm => ?_)
    refine v_iinc C (pc := 41) 1 3 [(3, .int (x3 + 1)), (0, .ref (ad 9)), (1, .ref (ad 2)), (2, .int x2)] dX3_build_41 rfl rfl (by decide) rfl ?_
    refine v_goto C (pc := 44) 26 dX3_build_44 rfl ?_
    exact v_sub [1, 2, 3, 0] rfl (hk26 _ _ _ hm)
theorem vX3_build_26 {p : Program} {l : Launch} {e : Env} {s : State} {m : MethodId} {args : Array Value} {below : List Frame} {meth : Method} {c : Code} {Q : State → Prop} {D : va_G} {ad : Nat → Nat} {cA : Nat → ClassId} (C : Ok p s m args c D cA (xW ad cA) (xA ad) (xS ad) RX3 cX3_build 5) (hr : Rt meth (some .long)) {r : Int64 × St} (hQ : Q = MQ below (Qo D (xW ad cA) (xA ad) (some (.long r.1)) r.2) args s 0 0 (xA ad)) {N : Nat} {k16 : Int32 → St → Option (Int64 × St)} (hk16 : ∀ (x2 : Int32) (S : St), k16 x2 S = some r → V p l e rmX3_build s m args below meth c Q D (xW ad cA) (xA ad) 5 S 16 [(0, .ref (ad 9)), (1, .ref (ad 2)), (2, .int x2)] []) (n : Nat) : ∀ (x2 : Int32) (x3 : Int32) (S : St), fX3_build_26 N k16 n x2 x3 S = some r → V p l e rmX3_build s m args below meth c Q D (xW ad cA) (xA ad) 5 S 26 [(0, .ref (ad 9)), (1, .ref (ad 2)), (2, .int x2), (3, .int x3)] [] := by
  induction n with
  | zero => intro _ _ _  hm; exact absurd hm (by intro h; cases h)
  | succ n ih => intro _ _ _  hm; exact vX3_build_26b C hr hQ (N := N)  hk16 ih  hm
def fX3_build_16b (N : Nat)  (k16 : Int32 → St → Option (Int64 × St)) (x2 : Int32) (S : St) : Option (Int64 × St) := if (S.1 26) < x2 then (fX3_build_58 N N 0 0 S) else (fX3_build_26 N k16 N x2 0 S)
def fX3_build_16 (N : Nat)  : Nat → Int32 → St → Option (Int64 × St)
  | 0 => fun _ _ => none
  | n + 1 => fun x2 S => fX3_build_16b N  (fX3_build_16 N  n) x2 S
set_option maxRecDepth 20000 in
theorem vX3_build_16b {p : Program} {l : Launch} {e : Env} {s : State} {m : MethodId} {args : Array Value} {below : List Frame} {meth : Method} {c : Code} {Q : State → Prop} {D : va_G} {ad : Nat → Nat} {cA : Nat → ClassId} (C : Ok p s m args c D cA (xW ad cA) (xA ad) (xS ad) RX3 cX3_build 5) (hr : Rt meth (some .long)) {r : Int64 × St} (hQ : Q = MQ below (Qo D (xW ad cA) (xA ad) (some (.long r.1)) r.2) args s 0 0 (xA ad)) {N : Nat}  {k16 : Int32 → St → Option (Int64 × St)} (hk16 : ∀ (x2 : Int32) (S : St), k16 x2 S = some r → V p l e rmX3_build s m args below meth c Q D (xW ad cA) (xA ad) 5 S 16 [(0, .ref (ad 9)), (1, .ref (ad 2)), (2, .int x2)] []) {x2 : Int32}  {S : St} (hm : fX3_build_16b N  k16 x2 S = some r) : V p l e rmX3_build s m args below meth c Q D (xW ad cA) (xA ad) 5 S 16 [(0, .ref (ad 9)), (1, .ref (ad 2)), (2, .int x2)] [] := by
  unfold fX3_build_16b at hm
  refine v_iload_n C (pc := 16) 2 dX3_build_16 rfl rfl ?_
  refine v_aload_n C (pc := 17) 0 dX3_build_17 rfl rfl ?_
  refine gX3_25 C (pc := 18) dX3_build_18 ?_
  refine v_icmp_gt C (pc := 21) hm 53 dX3_build_21 rfl (fun hm => ?_) (fun hm => ?_)
  · refine v_lconst C (pc := 53) 0 dX3_build_53 rfl ?_
    refine v_lstore_n C (pc := 54) [(2, .long 0), (0, .ref (ad 9)), (1, .ref (ad 2))] dX3_build_54 rfl (by decide) rfl ?_
    refine v_iconst C (pc := 55) 0 dX3_build_55 rfl ?_
    refine v_istore C (pc := 56) [(4, .int 0), (2, .long 0), (0, .ref (ad 9)), (1, .ref (ad 2))] dX3_build_56 (by decide) rfl ?_
    exact v_sub [2, 3, 1, 0] rfl (vX3_build_58 C hr hQ (N := N) N _ _ _ hm)
  · refine v_iconst C (pc := 24) 0 dX3_build_24 rfl ?_
    refine v_istore_n C (pc := 25) [(3, .int 0), (0, .ref (ad 9)), (1, .ref (ad 2)), (2, .int x2)] dX3_build_25 rfl (by decide) rfl ?_
    exact v_sub [1, 2, 3, 0] rfl (vX3_build_26 C hr hQ (N := N) hk16 N _ _ _ hm)
theorem vX3_build_16 {p : Program} {l : Launch} {e : Env} {s : State} {m : MethodId} {args : Array Value} {below : List Frame} {meth : Method} {c : Code} {Q : State → Prop} {D : va_G} {ad : Nat → Nat} {cA : Nat → ClassId} (C : Ok p s m args c D cA (xW ad cA) (xA ad) (xS ad) RX3 cX3_build 5) (hr : Rt meth (some .long)) {r : Int64 × St} (hQ : Q = MQ below (Qo D (xW ad cA) (xA ad) (some (.long r.1)) r.2) args s 0 0 (xA ad)) {N : Nat}  (n : Nat) : ∀ (x2 : Int32) (S : St), fX3_build_16 N  n x2 S = some r → V p l e rmX3_build s m args below meth c Q D (xW ad cA) (xA ad) 5 S 16 [(0, .ref (ad 9)), (1, .ref (ad 2)), (2, .int x2)] [] := by
  induction n with
  | zero => intro _ _  hm; exact absurd hm (by intro h; cases h)
  | succ n ih => intro _ _  hm; exact vX3_build_16b C hr hQ (N := N)   ih  hm
def fX3_build (N : Nat)  (S : St) : Option (Int64 × St) := bd (fX2_clear N (S.1 25) ((S.1 26) + 1) S) fun r15 S12 => fX3_build_16 N N 0 S12
set_option maxRecDepth 20000 in
theorem vX3_build {p : Program} {l : Launch} {e : Env} {s : State} {m : MethodId} {args : Array Value} {below : List Frame} {meth : Method} {c : Code} {Q : State → Prop} {D : va_G} {ad : Nat → Nat} {cA : Nat → ClassId} (C : Ok p s m args c D cA (xW ad cA) (xA ad) (xS ad) RX3 cX3_build 5) (hr : Rt meth (some .long)) {r : Int64 × St} (hQ : Q = MQ below (Qo D (xW ad cA) (xA ad) (some (.long r.1)) r.2) args s 0 0 (xA ad)) {N : Nat}  {S : St} (hm : fX3_build N  S = some r) : V p l e rmX3_build s m args below meth c Q D (xW ad cA) (xA ad) 5 S 0 [(0, .ref (ad 9)), (1, .ref (ad 2))] [] := by
  unfold fX3_build at hm
  refine v_aload_n C (pc := 0) 1 dX3_build_0 rfl rfl ?_
  refine v_aload_n C (pc := 1) 0 dX3_build_1 rfl rfl ?_
  refine gX3_21 C (pc := 2) dX3_build_2 ?_
  refine v_aload_n C (pc := 5) 0 dX3_build_5 rfl rfl ?_
  refine gX3_25 C (pc := 6) dX3_build_6 ?_
  refine v_iconst C (pc := 9) 1 dX3_build_9 rfl ?_
  refine v_iadd C (pc := 10) dX3_build_10 ?_
  refine kX3_77 C (Nat.le_of_ble_eq_true rfl) (Nat.le_of_ble_eq_true rfl) (pc := 11) hm (Nat.le_of_ble_eq_true rfl) dX3_build_11 (fun r15 S12 hm => ?_)
  refine v_iconst C (pc := 14) 0 dX3_build_14 rfl ?_
  refine v_istore_n C (pc := 15) [(2, .int 0), (0, .ref (ad 9)), (1, .ref (ad 2))] dX3_build_15 rfl (by decide) rfl ?_
  exact v_sub [1, 2, 0] rfl (vX3_build_16 C hr hQ (N := N) N _ _ hm)
theorem mX3_build {l : Launch} {D : va_G} {ad : Nat → Nat} {cA : Nat → ClassId} (hD : ∀ S, va_D (xA ad) (xW ad cA S)) {N : Nat}  {S : St} {r : Int64 × St} (hm : fX3_build N  S = some r) : Met l yX3_build (wsm yX3_build cX3_build 5 (some .long)) rmX3_build (va_Pc [.ref (ad 9), .ref (ad 2)] (Pre D cA (xW ad cA) (xS ad) S)) (Qo D (xW ad cA) (xA ad) (some (.long r.1)) r.2) 0 0 (xA ad) := met_of [.ref (ad 9), .ref (ad 2)] (by decide) (Nat.le_of_ble_eq_true rfl) hD (xS_mv ad) (xS_kp ad) (fun p e s m below meth c C hr => vX3_build C hr rfl (N := N)  hm)
-- X4_loadOf
def rmX4_loadOf : Room := { frames := 0, cells := 0, slots := 0, locals := 0 }
def fX4_loadOf_48 (N : Nat) (i0 : Nat) (k4 : Int32 → Int32 → Int32 → St → Option (Int32 × St)) (x1 : Int32) (x2 : Int32) (x3 : Int32) (S : St) : Option (Int32 × St) := k4 x1 x2 (x3 + 1) S
set_option maxRecDepth 20000 in
theorem vX4_loadOf_48 {p : Program} {l : Launch} {e : Env} {s : State} {m : MethodId} {args : Array Value} {below : List Frame} {meth : Method} {c : Code} {Q : State → Prop} {D : va_G} {ad : Nat → Nat} {cA : Nat → ClassId} (C : Ok p s m args c D cA (xW ad cA) (xA ad) (xS ad) RX4 cX4_loadOf 4) (hr : Rt meth (some .int)) {r : Int32 × St} (hQ : Q = MQ below (Qo D (xW ad cA) (xA ad) (some (.int r.1)) r.2) args s 0 0 (xA ad)) {N : Nat} {i0 : Nat} (hi0 : i0 < 2) {k4 : Int32 → Int32 → Int32 → St → Option (Int32 × St)} (hk4 : ∀ (x1 : Int32) (x2 : Int32) (x3 : Int32) (S : St), k4 x1 x2 x3 S = some r → V p l e rmX4_loadOf s m args below meth c Q D (xW ad cA) (xA ad) 4 S 4 [(0, .ref (ad (10 + i0))), (1, .int x1), (2, .int x2), (3, .int x3)] []) {x1 : Int32} {x2 : Int32} {x3 : Int32}  {S : St} (hm : fX4_loadOf_48 N i0 k4 x1 x2 x3 S = some r) : V p l e rmX4_loadOf s m args below meth c Q D (xW ad cA) (xA ad) 4 S 48 [(0, .ref (ad (10 + i0))), (1, .int x1), (2, .int x2), (3, .int x3)] [] := by
  unfold fX4_loadOf_48 at hm
  refine v_iinc C (pc := 48) 1 3 [(3, .int (x3 + 1)), (0, .ref (ad (10 + i0))), (1, .int x1), (2, .int x2)] dX4_loadOf_48 rfl rfl (by decide) rfl ?_
  refine v_goto C (pc := 51) 4 dX4_loadOf_51 rfl ?_
  exact v_sub [1, 2, 3, 0] rfl (hk4 _ _ _ _ hm)
def fX4_loadOf_4b (N : Nat) (i0 : Nat)  (k4 : Int32 → Int32 → Int32 → St → Option (Int32 × St)) (x1 : Int32) (x2 : Int32) (x3 : Int32) (S : St) : Option (Int32 × St) := if 5 ≤ x3 then (some (x2, S)) else (ck x3 5 (ck x1 4 (if (lg_cmp ((S.2.2.2 (9 + i0) (Int32.toNatClampNeg x3)) &&& (S.2.2.2 2 (Int32.toNatClampNeg x1))) 0) = 0 then (fX4_loadOf_48 N i0 k4 x1 x2 x3 S) else (ck x3 5 (nm (x2 + (S.1 (10 + (Int32.toNatClampNeg x3)))) fun y6 => fX4_loadOf_48 N i0 k4 x1 y6 x3 S)))))
def fX4_loadOf_4 (N : Nat) (i0 : Nat)  : Nat → Int32 → Int32 → Int32 → St → Option (Int32 × St)
  | 0 => fun _ _ _ _ => none
  | n + 1 => fun x1 x2 x3 S => fX4_loadOf_4b N i0  (fX4_loadOf_4 N i0  n) x1 x2 x3 S
set_option maxRecDepth 20000 in
theorem vX4_loadOf_4b {p : Program} {l : Launch} {e : Env} {s : State} {m : MethodId} {args : Array Value} {below : List Frame} {meth : Method} {c : Code} {Q : State → Prop} {D : va_G} {ad : Nat → Nat} {cA : Nat → ClassId} (C : Ok p s m args c D cA (xW ad cA) (xA ad) (xS ad) RX4 cX4_loadOf 4) (hr : Rt meth (some .int)) {r : Int32 × St} (hQ : Q = MQ below (Qo D (xW ad cA) (xA ad) (some (.int r.1)) r.2) args s 0 0 (xA ad)) {N : Nat} {i0 : Nat} (hi0 : i0 < 2)  {k4 : Int32 → Int32 → Int32 → St → Option (Int32 × St)} (hk4 : ∀ (x1 : Int32) (x2 : Int32) (x3 : Int32) (S : St), k4 x1 x2 x3 S = some r → V p l e rmX4_loadOf s m args below meth c Q D (xW ad cA) (xA ad) 4 S 4 [(0, .ref (ad (10 + i0))), (1, .int x1), (2, .int x2), (3, .int x3)] []) {x1 : Int32} {x2 : Int32} {x3 : Int32}  {S : St} (hm : fX4_loadOf_4b N i0  k4 x1 x2 x3 S = some r) : V p l e rmX4_loadOf s m args below meth c Q D (xW ad cA) (xA ad) 4 S 4 [(0, .ref (ad (10 + i0))), (1, .int x1), (2, .int x2), (3, .int x3)] [] := by
  unfold fX4_loadOf_4b at hm
  refine v_iload_n C (pc := 4) 3 dX4_loadOf_4 rfl rfl ?_
  refine v_iconst C (pc := 5) 5 dX4_loadOf_5 rfl ?_
  refine v_icmp_ge C (pc := 6) hm 54 dX4_loadOf_6 rfl (fun hm => ?_) (fun hm => ?_)
  · refine v_iload_n C (pc := 54) 2 dX4_loadOf_54 rfl rfl ?_
    exact v_iret C hr hQ (pc := 55) hm dX4_loadOf_55
  · refine v_aload_n C (pc := 9) 0 dX4_loadOf_9 rfl rfl ?_
    refine gX4_18 C hi0 (pc := 10) dX4_loadOf_10 ?_
    refine v_iload_n C (pc := 13) 3 dX4_loadOf_13 rfl rfl ?_
    refine ldX4_masks C hi0 (pc := 14) hm dX4_loadOf_14 (fun hm => ?_)
    refine v_aload_n C (pc := 15) 0 dX4_loadOf_15 rfl rfl ?_
    refine gX4_35 C hi0 (pc := 16) dX4_loadOf_16 ?_
    refine gX4_58 C (pc := 19) dX4_loadOf_19 ?_
    refine gX4_74 C (pc := 22) dX4_loadOf_22 ?_
    refine v_iload_n C (pc := 25) 1 dX4_loadOf_25 rfl rfl ?_
    refine ldX7_plates C (pc := 26) hm dX4_loadOf_26 (fun hm => ?_)
    refine v_land C (pc := 27) dX4_loadOf_27 ?_
    refine v_lconst C (pc := 28) 0 dX4_loadOf_28 rfl ?_
    refine v_lcmp C (pc := 29) dX4_loadOf_29 ?_
    refine v_if_eq C (pc := 30) hm 48 dX4_loadOf_30 rfl (fun hm => ?_) (fun hm => ?_)
    · exact (vX4_loadOf_48 C hr hQ (N := N) hi0 hk4 hm)
    · refine v_iload_n C (pc := 33) 2 dX4_loadOf_33 rfl rfl ?_
      refine v_aload_n C (pc := 34) 0 dX4_loadOf_34 rfl rfl ?_
      refine gX4_35 C hi0 (pc := 35) dX4_loadOf_35 ?_
      refine gX4_49 C (pc := 38) dX4_loadOf_38 ?_
      refine v_iload_n C (pc := 41) 3 dX4_loadOf_41 rfl rfl ?_
      refine ldX2_blocks C (pc := 42) hm dX4_loadOf_42 (fun hb5 hm => ?_)
      refine gX4_77 C hb5 (pc := 43) dX4_loadOf_43 ?_
      refine v_iadd C (pc := 46) dX4_loadOf_46 ?_
      refine v_istore_nN C (pc := 47) [(0, .ref (ad (10 + i0))), (1, .int x1), (3, .int x3)] hm dX4_loadOf_47 rfl (by decide) rfl (fun y6 hm => ?_)
      exact v_sub [1, 2, 0, 3] rfl (vX4_loadOf_48 C hr hQ (N := N) hi0 hk4 hm)
theorem vX4_loadOf_4 {p : Program} {l : Launch} {e : Env} {s : State} {m : MethodId} {args : Array Value} {below : List Frame} {meth : Method} {c : Code} {Q : State → Prop} {D : va_G} {ad : Nat → Nat} {cA : Nat → ClassId} (C : Ok p s m args c D cA (xW ad cA) (xA ad) (xS ad) RX4 cX4_loadOf 4) (hr : Rt meth (some .int)) {r : Int32 × St} (hQ : Q = MQ below (Qo D (xW ad cA) (xA ad) (some (.int r.1)) r.2) args s 0 0 (xA ad)) {N : Nat} {i0 : Nat} (hi0 : i0 < 2)  (n : Nat) : ∀ (x1 : Int32) (x2 : Int32) (x3 : Int32) (S : St), fX4_loadOf_4 N i0  n x1 x2 x3 S = some r → V p l e rmX4_loadOf s m args below meth c Q D (xW ad cA) (xA ad) 4 S 4 [(0, .ref (ad (10 + i0))), (1, .int x1), (2, .int x2), (3, .int x3)] [] := by
  induction n with
  | zero => intro _ _ _ _  hm; exact absurd hm (by intro h; cases h)
  | succ n ih => intro _ _ _ _  hm; exact vX4_loadOf_4b C hr hQ (N := N) hi0  ih  hm
def fX4_loadOf (N : Nat) (i0 : Nat) (p1 : Int32) (S : St) : Option (Int32 × St) := fX4_loadOf_4 N i0 N p1 0 0 S
set_option maxRecDepth 20000 in
theorem vX4_loadOf {p : Program} {l : Launch} {e : Env} {s : State} {m : MethodId} {args : Array Value} {below : List Frame} {meth : Method} {c : Code} {Q : State → Prop} {D : va_G} {ad : Nat → Nat} {cA : Nat → ClassId} (C : Ok p s m args c D cA (xW ad cA) (xA ad) (xS ad) RX4 cX4_loadOf 4) (hr : Rt meth (some .int)) {r : Int32 × St} (hQ : Q = MQ below (Qo D (xW ad cA) (xA ad) (some (.int r.1)) r.2) args s 0 0 (xA ad)) {N : Nat} {i0 : Nat} (hi0 : i0 < 2) {p1 : Int32} {S : St} (hm : fX4_loadOf N i0 p1 S = some r) : V p l e rmX4_loadOf s m args below meth c Q D (xW ad cA) (xA ad) 4 S 0 [(0, .ref (ad (10 + i0))), (1, .int p1)] [] := by
  unfold fX4_loadOf at hm
  refine v_iconst C (pc := 0) 0 dX4_loadOf_0 rfl ?_
  refine v_istore_n C (pc := 1) [(2, .int 0), (0, .ref (ad (10 + i0))), (1, .int p1)] dX4_loadOf_1 rfl (by decide) rfl ?_
  refine v_iconst C (pc := 2) 0 dX4_loadOf_2 rfl ?_
  refine v_istore_n C (pc := 3) [(3, .int 0), (2, .int 0), (0, .ref (ad (10 + i0))), (1, .int p1)] dX4_loadOf_3 rfl (by decide) rfl ?_
  exact v_sub [2, 3, 1, 0] rfl (vX4_loadOf_4 C hr hQ (N := N) hi0 N _ _ _ _ hm)
theorem mX4_loadOf {l : Launch} {D : va_G} {ad : Nat → Nat} {cA : Nat → ClassId} (hD : ∀ S, va_D (xA ad) (xW ad cA S)) {N : Nat} {i0 : Nat} (hi0 : i0 < 2) {p1 : Int32} {S : St} {r : Int32 × St} (hm : fX4_loadOf N i0 p1 S = some r) : Met l yX4_loadOf (wsm yX4_loadOf cX4_loadOf 4 (some .int)) rmX4_loadOf (va_Pc [.ref (ad (10 + i0)), .int p1] (Pre D cA (xW ad cA) (xS ad) S)) (Qo D (xW ad cA) (xA ad) (some (.int r.1)) r.2) 0 0 (xA ad) := met_of [.ref (ad (10 + i0)), .int p1] (by decide) (Nat.le_of_ble_eq_true rfl) hD (xS_mv ad) (xS_kp ad) (fun p e s m below meth c C hr => vX4_loadOf C hr rfl (N := N) hi0 hm)
-- X4_stand
theorem kX4_39 {p : Program} {l : Launch} {e : Env} {R : Room} {s : State} {m : MethodId} {args : Array Value} {below : List Frame} {meth : Method} {c : Code} {Q : State → Prop} {D : va_G} {ad : Nat → Nat} {cA : Nat → ClassId} {cc : ByteArray} {nL : Nat} {S : St} {pc : Nat} {lv : List (Nat × Value)} {st : List Value} {ρ : Type} {res : ρ} (C : Ok p s m args c D cA (xW ad cA) (xA ad) (xS ad) RX4 cc nL) (hfr : rmX8_placementIn.frames + 1 ≤ R.frames) (hlo : 8 + (3 + 11) + rmX8_placementIn.locals ≤ R.locals) {N : Nat} {p1 : Int64} {p2 : Int32} {E : Int32 → St → Option ρ} (hm : bd (fX8_placementIn N p1 p2 S) E = some res) (hcat : (st.map fun v => v.category).sum ≤ 8) (hd : decode cc pc = .ok (.invokestatic 39, 3)) (k : ∀ r S, E r S = some res → V p l e R s m args below meth c Q D (xW ad cA) (xA ad) nL S (pc + 3) lv (.int r :: st)) : V p l e R s m args below meth c Q D (xW ad cA) (xA ad) nL S pc lv (.int p2 :: .long p1 :: st) := by
  obtain ⟨r, S1, h1, h2⟩ := bd_some hm
  exact v_callSN C (C.2.2.2.2.2.2.2.1.2.2.2.2 _ (by decide +kernel) : va_Nw (Cond.methodLinkNest RX4 39 yX8_placementIn "BlockYard") s) infX8_placementIn (rm2 := rmX8_placementIn) ⟨rfl, rfl⟩ hfr hlo (mX8_placementIn C.2.2.2.2.2.2.1 h1) (As := [.long p1, .int p2]) rfl rfl hcat hd (k r S1 h2)
theorem kX4_43 {p : Program} {l : Launch} {e : Env} {R : Room} {s : State} {m : MethodId} {args : Array Value} {below : List Frame} {meth : Method} {c : Code} {Q : State → Prop} {D : va_G} {ad : Nat → Nat} {cA : Nat → ClassId} {cc : ByteArray} {nL : Nat} {S : St} {pc : Nat} {lv : List (Nat × Value)} {st : List Value} {ρ : Type} {res : ρ} (C : Ok p s m args c D cA (xW ad cA) (xA ad) (xS ad) RX4 cc nL) (hfr : rmX2_has.frames + 1 ≤ R.frames) (hlo : 8 + (2 + 11) + rmX2_has.locals ≤ R.locals) {N : Nat} {p1 : Int32} {E : Bool → St → Option ρ} (hm : bd (fX2_has N p1 S) E = some res) (hcat : (st.map fun v => v.category).sum ≤ 8) (hd : decode cc pc = .ok (.invokevirtual 43, 3)) (k : ∀ r S, E r S = some res → V p l e R s m args below meth c Q D (xW ad cA) (xA ad) nL S (pc + 3) lv (.int (b2i r) :: st)) : V p l e R s m args below meth c Q D (xW ad cA) (xA ad) nL S pc lv (.int p1 :: .ref (ad 2) :: st) := by
  obtain ⟨r, S1, h1, h2⟩ := bd_some hm
  exact v_callV C (gm (i := 524) (by decide +kernel) rfl : Cond.methodLink RX4 43 yX2_has ∈ gw_tbl) infX2_has (rm2 := rmX2_has) ⟨rfl, rfl⟩ hfr hlo (mX2_has C.2.2.2.2.2.2.1 h1) (As := [.int p1]) (oX2 ad cA S) rfl rfl rfl rfl hcat hd (k r S1 h2)
theorem infX4_loadOf : InfV yX4_loadOf cX4_loadOf 4 (some .int) 1 := ⟨⟨gm (i := 62) (by decide +kernel) rfl, gm (i := 528) (by decide +kernel) rfl, by decide +kernel⟩, gm (i := 526) (by decide +kernel) rfl, gm (i := 527) (by decide +kernel) rfl⟩
theorem kX4_67 {p : Program} {l : Launch} {e : Env} {R : Room} {s : State} {m : MethodId} {args : Array Value} {below : List Frame} {meth : Method} {c : Code} {Q : State → Prop} {D : va_G} {ad : Nat → Nat} {cA : Nat → ClassId} {cc : ByteArray} {nL : Nat} {S : St} {pc : Nat} {lv : List (Nat × Value)} {st : List Value} {ρ : Type} {res : ρ} (C : Ok p s m args c D cA (xW ad cA) (xA ad) (xS ad) RX4 cc nL) (hfr : rmX4_loadOf.frames + 1 ≤ R.frames) (hlo : 8 + (4 + 11) + rmX4_loadOf.locals ≤ R.locals) {i : Nat} (hi : i < 2) {N : Nat} {p1 : Int32} {E : Int32 → St → Option ρ} (hm : bd (fX4_loadOf N i p1 S) E = some res) (hcat : (st.map fun v => v.category).sum ≤ 8) (hd : decode cc pc = .ok (.invokevirtual 67, 3)) (k : ∀ r S, E r S = some res → V p l e R s m args below meth c Q D (xW ad cA) (xA ad) nL S (pc + 3) lv (.int r :: st)) : V p l e R s m args below meth c Q D (xW ad cA) (xA ad) nL S pc lv (.int p1 :: .ref (ad (10 + i)) :: st) := by
  obtain ⟨r, S1, h1, h2⟩ := bd_some hm
  exact v_callV C (gm (i := 525) (by decide +kernel) rfl : Cond.methodLink RX4 67 yX4_loadOf ∈ gw_tbl) infX4_loadOf (rm2 := rmX4_loadOf) ⟨rfl, rfl⟩ hfr hlo (mX4_loadOf C.2.2.2.2.2.2.1 hi h1) (As := [.int p1]) (oX4 ad cA i hi S) rfl rfl rfl rfl hcat hd (k r S1 h2)
def rmX4_stand : Room := { frames := 1, cells := 0, slots := 0, locals := 23 }
def fX4_stand_159 (N : Nat) (i0 : Nat) (k99 : Int32 → St → Option (Unit × St)) (x3 : Int32) (S : St) : Option (Unit × St) := k99 (x3 + 1) S
set_option maxRecDepth 20000 in
theorem vX4_stand_159 {p : Program} {l : Launch} {e : Env} {s : State} {m : MethodId} {args : Array Value} {below : List Frame} {meth : Method} {c : Code} {Q : State → Prop} {D : va_G} {ad : Nat → Nat} {cA : Nat → ClassId} (C : Ok p s m args c D cA (xW ad cA) (xA ad) (xS ad) RX4 cX4_stand 4) (hr : Rt meth none) {r : Unit × St} (hQ : Q = MQ below (Qo D (xW ad cA) (xA ad) (none) r.2) args s 0 0 (xA ad)) {N : Nat} {i0 : Nat} (hi0 : i0 < 2) {k99 : Int32 → St → Option (Unit × St)} (hk99 : ∀ (x3 : Int32) (S : St), k99 x3 S = some r → V p l e rmX4_stand s m args below meth c Q D (xW ad cA) (xA ad) 4 S 99 [(0, .ref (ad (10 + i0))), (3, .int x3)] []) {x3 : Int32}  {S : St} (hm : fX4_stand_159 N i0 k99 x3 S = some r) : V p l e rmX4_stand s m args below meth c Q D (xW ad cA) (xA ad) 4 S 159 [(0, .ref (ad (10 + i0))), (3, .int x3)] [] := by
  unfold fX4_stand_159 at hm
  refine v_iinc C (pc := 159) 1 1 [(3, .int (x3 + 1)), (0, .ref (ad (10 + i0)))] dX4_stand_159 rfl rfl (by decide) rfl ?_
  refine v_goto C (pc := 162) 99 dX4_stand_162 rfl ?_
  exact v_sub [1, 0] rfl (hk99 _ _ hm)
def fX4_stand_99b (N : Nat) (i0 : Nat)  (k99 : Int32 → St → Option (Unit × St)) (x3 : Int32) (S : St) : Option (Unit × St) := if 4 ≤ x3 then (some ((), S)) else (ck x3 4 (if (lg_cmp (S.2.2.2 3 (Int32.toNatClampNeg x3)) 0) = 0 then (fX4_stand_159 N i0 k99 x3 S) else (bd (fX4_loadOf N i0 x3 S) fun r12 S25 => ck x3 4 (if (S25.2.2.1 1 (Int32.toNatClampNeg x3)) ≤ r12 then (fX4_stand_159 N i0 k99 x3 S25) else (ck x3 4 (stp (sJ S25 (6 + i0) ((S25.2.1 (6 + i0)) ||| (S25.2.2.2 3 (Int32.toNatClampNeg x3)))) fun S26 => fX4_stand_159 N i0 k99 x3 S26))))))
def fX4_stand_99 (N : Nat) (i0 : Nat)  : Nat → Int32 → St → Option (Unit × St)
  | 0 => fun _ _ => none
  | n + 1 => fun x3 S => fX4_stand_99b N i0  (fX4_stand_99 N i0  n) x3 S
set_option maxRecDepth 20000 in
theorem vX4_stand_99b {p : Program} {l : Launch} {e : Env} {s : State} {m : MethodId} {args : Array Value} {below : List Frame} {meth : Method} {c : Code} {Q : State → Prop} {D : va_G} {ad : Nat → Nat} {cA : Nat → ClassId} (C : Ok p s m args c D cA (xW ad cA) (xA ad) (xS ad) RX4 cX4_stand 4) (hr : Rt meth none) {r : Unit × St} (hQ : Q = MQ below (Qo D (xW ad cA) (xA ad) (none) r.2) args s 0 0 (xA ad)) {N : Nat} {i0 : Nat} (hi0 : i0 < 2)  {k99 : Int32 → St → Option (Unit × St)} (hk99 : ∀ (x3 : Int32) (S : St), k99 x3 S = some r → V p l e rmX4_stand s m args below meth c Q D (xW ad cA) (xA ad) 4 S 99 [(0, .ref (ad (10 + i0))), (3, .int x3)] []) {x3 : Int32}  {S : St} (hm : fX4_stand_99b N i0  k99 x3 S = some r) : V p l e rmX4_stand s m args below meth c Q D (xW ad cA) (xA ad) 4 S 99 [(0, .ref (ad (10 + i0))), (3, .int x3)] [] := by
  unfold fX4_stand_99b at hm
  refine v_iload_n C (pc := 99) 1 dX4_stand_99 rfl rfl ?_
  refine v_iconst C (pc := 100) 4 dX4_stand_100 rfl ?_
  refine v_icmp_ge C (pc := 101) hm 165 dX4_stand_101 rfl (fun hm => ?_) (fun hm => ?_)
  · exact v_vret C hr hQ (x := ()) (pc := 165) hm dX4_stand_165
  · refine v_aload_n C (pc := 104) 0 dX4_stand_104 rfl rfl ?_
    refine gX4_35 C hi0 (pc := 105) dX4_stand_105 ?_
    refine gX4_58 C (pc := 108) dX4_stand_108 ?_
    refine gX4_62 C (pc := 111) dX4_stand_111 ?_
    refine v_iload_n C (pc := 114) 1 dX4_stand_114 rfl rfl ?_
    refine ldX7_gates C (pc := 115) hm dX4_stand_115 (fun hm => ?_)
    refine v_lconst C (pc := 116) 0 dX4_stand_116 rfl ?_
    refine v_lcmp C (pc := 117) dX4_stand_117 ?_
    refine v_if_eq C (pc := 118) hm 159 dX4_stand_118 rfl (fun hm => ?_) (fun hm => ?_)
    · exact (vX4_stand_159 C hr hQ (N := N) hi0 hk99 hm)
    · refine v_aload_n C (pc := 121) 0 dX4_stand_121 rfl rfl ?_
      refine v_iload_n C (pc := 122) 1 dX4_stand_122 rfl rfl ?_
      refine kX4_67 C (Nat.le_of_ble_eq_true rfl) (Nat.le_of_ble_eq_true rfl) hi0 (pc := 123) hm (Nat.le_of_ble_eq_true rfl) dX4_stand_123 (fun r12 S25 hm => ?_)
      refine v_aload_n C (pc := 126) 0 dX4_stand_126 rfl rfl ?_
      refine gX4_35 C hi0 (pc := 127) dX4_stand_127 ?_
      refine gX4_71 C (pc := 130) dX4_stand_130 ?_
      refine v_iload_n C (pc := 133) 1 dX4_stand_133 rfl rfl ?_
      refine ldX2_thresholds C (pc := 134) hm dX4_stand_134 (fun hm => ?_)
      refine v_icmp_ge C (pc := 135) hm 159 dX4_stand_135 rfl (fun hm => ?_) (fun hm => ?_)
      · exact (vX4_stand_159 C hr hQ (N := N) hi0 hk99 hm)
      · refine v_aload_n C (pc := 138) 0 dX4_stand_138 rfl rfl ?_
        refine v_dup C (pc := 139) dX4_stand_139 rfl ?_
        refine gX4_29 C hi0 (pc := 140) dX4_stand_140 ?_
        refine v_aload_n C (pc := 143) 0 dX4_stand_143 rfl rfl ?_
        refine gX4_35 C hi0 (pc := 144) dX4_stand_144 ?_
        refine gX4_58 C (pc := 147) dX4_stand_147 ?_
        refine gX4_62 C (pc := 150) dX4_stand_150 ?_
        refine v_iload_n C (pc := 153) 1 dX4_stand_153 rfl rfl ?_
        refine ldX7_gates C (pc := 154) hm dX4_stand_154 (fun hm => ?_)
        refine v_lor C (pc := 155) dX4_stand_155 ?_
        refine pX4_29 C hi0 (pc := 156) hm dX4_stand_156 (fun S26 hm => ?_)
        exact (vX4_stand_159 C hr hQ (N := N) hi0 hk99 hm)
theorem vX4_stand_99 {p : Program} {l : Launch} {e : Env} {s : State} {m : MethodId} {args : Array Value} {below : List Frame} {meth : Method} {c : Code} {Q : State → Prop} {D : va_G} {ad : Nat → Nat} {cA : Nat → ClassId} (C : Ok p s m args c D cA (xW ad cA) (xA ad) (xS ad) RX4 cX4_stand 4) (hr : Rt meth none) {r : Unit × St} (hQ : Q = MQ below (Qo D (xW ad cA) (xA ad) (none) r.2) args s 0 0 (xA ad)) {N : Nat} {i0 : Nat} (hi0 : i0 < 2)  (n : Nat) : ∀ (x3 : Int32) (S : St), fX4_stand_99 N i0  n x3 S = some r → V p l e rmX4_stand s m args below meth c Q D (xW ad cA) (xA ad) 4 S 99 [(0, .ref (ad (10 + i0))), (3, .int x3)] [] := by
  induction n with
  | zero => intro _ _  hm; exact absurd hm (by intro h; cases h)
  | succ n ih => intro _ _  hm; exact vX4_stand_99b C hr hQ (N := N) hi0  ih  hm
def fX4_stand_70 (N : Nat) (i0 : Nat) (k12 : Int32 → St → Option (Unit × St)) (s0 : Int64) (s1 : Int32) (x3 : Int32) (S : St) : Option (Unit × St) := ck s1 5 (stp (sL S (9 + i0) (Int32.toNatClampNeg s1) s0) fun S23 => ck x3 5 (stp (sJ S23 (4 + i0) ((S23.2.1 (4 + i0)) ||| (S23.2.2.2 (9 + i0) (Int32.toNatClampNeg x3)))) fun S24 => k12 (x3 + 1) S24))
set_option maxRecDepth 20000 in
theorem vX4_stand_70 {p : Program} {l : Launch} {e : Env} {s : State} {m : MethodId} {args : Array Value} {below : List Frame} {meth : Method} {c : Code} {Q : State → Prop} {D : va_G} {ad : Nat → Nat} {cA : Nat → ClassId} (C : Ok p s m args c D cA (xW ad cA) (xA ad) (xS ad) RX4 cX4_stand 4) (hr : Rt meth none) {r : Unit × St} (hQ : Q = MQ below (Qo D (xW ad cA) (xA ad) (none) r.2) args s 0 0 (xA ad)) {N : Nat} {i0 : Nat} (hi0 : i0 < 2) {k12 : Int32 → St → Option (Unit × St)} (hk12 : ∀ (x3 : Int32) (S : St), k12 x3 S = some r → V p l e rmX4_stand s m args below meth c Q D (xW ad cA) (xA ad) 4 S 12 [(0, .ref (ad (10 + i0))), (3, .int x3)] []) {s0 : Int64} {s1 : Int32} {x3 : Int32}  {S : St} (hm : fX4_stand_70 N i0 k12 s0 s1 x3 S = some r) : V p l e rmX4_stand s m args below meth c Q D (xW ad cA) (xA ad) 4 S 70 [(0, .ref (ad (10 + i0))), (3, .int x3)] [.long s0, .int s1, .ref (ad (50 + i0))] := by
  unfold fX4_stand_70 at hm
  refine stX4_masks C hi0 (pc := 70) hm dX4_stand_70 (fun S23 hm => ?_)
  refine v_aload_n C (pc := 71) 0 dX4_stand_71 rfl rfl ?_
  refine v_dup C (pc := 72) dX4_stand_72 rfl ?_
  refine gX4_26 C hi0 (pc := 73) dX4_stand_73 ?_
  refine v_aload_n C (pc := 76) 0 dX4_stand_76 rfl rfl ?_
  refine gX4_18 C hi0 (pc := 77) dX4_stand_77 ?_
  refine v_iload_n C (pc := 80) 1 dX4_stand_80 rfl rfl ?_
  refine ldX4_masks C hi0 (pc := 81) hm dX4_stand_81 (fun hm => ?_)
  refine v_lor C (pc := 82) dX4_stand_82 ?_
  refine pX4_26 C hi0 (pc := 83) hm dX4_stand_83 (fun S24 hm => ?_)
  refine v_iinc C (pc := 86) 1 1 [(3, .int (x3 + 1)), (0, .ref (ad (10 + i0)))] dX4_stand_86 rfl rfl (by decide) rfl ?_
  refine v_goto C (pc := 89) 12 dX4_stand_89 rfl ?_
  exact v_sub [1, 0] rfl (hk12 _ _ hm)
def fX4_stand_12b (N : Nat) (i0 : Nat)  (k12 : Int32 → St → Option (Unit × St)) (x3 : Int32) (S : St) : Option (Unit × St) := if 5 ≤ x3 then (stp (sJ S (6 + i0) 0) fun S19 => fX4_stand_99 N i0 N 0 S19) else (bd (fX8_placementIn N (S.2.1 (2 + i0)) x3 S) fun r9 S20 => ck x3 5 (stp (sA S20 (22 + i0) (Int32.toNatClampNeg x3) r9) fun S21 => bd (fX2_has N x3 S21) fun r10 S22 => if (b2i r10) = 0 then (fX4_stand_70 N i0 k12 0 x3 x3 S22) else (ck x3 5 (ck x3 5 (ck (S22.2.2.1 (22 + i0) (Int32.toNatClampNeg x3)) 256 (fX4_stand_70 N i0 k12 (S22.2.2.2 (4 + (Int32.toNatClampNeg x3)) (Int32.toNatClampNeg (S22.2.2.1 (22 + i0) (Int32.toNatClampNeg x3)))) x3 x3 S22))))))
def fX4_stand_12 (N : Nat) (i0 : Nat)  : Nat → Int32 → St → Option (Unit × St)
  | 0 => fun _ _ => none
  | n + 1 => fun x3 S => fX4_stand_12b N i0  (fX4_stand_12 N i0  n) x3 S
set_option maxRecDepth 20000 in
theorem vX4_stand_12b {p : Program} {l : Launch} {e : Env} {s : State} {m : MethodId} {args : Array Value} {below : List Frame} {meth : Method} {c : Code} {Q : State → Prop} {D : va_G} {ad : Nat → Nat} {cA : Nat → ClassId} (C : Ok p s m args c D cA (xW ad cA) (xA ad) (xS ad) RX4 cX4_stand 4) (hr : Rt meth none) {r : Unit × St} (hQ : Q = MQ below (Qo D (xW ad cA) (xA ad) (none) r.2) args s 0 0 (xA ad)) {N : Nat} {i0 : Nat} (hi0 : i0 < 2)  {k12 : Int32 → St → Option (Unit × St)} (hk12 : ∀ (x3 : Int32) (S : St), k12 x3 S = some r → V p l e rmX4_stand s m args below meth c Q D (xW ad cA) (xA ad) 4 S 12 [(0, .ref (ad (10 + i0))), (3, .int x3)] []) {x3 : Int32}  {S : St} (hm : fX4_stand_12b N i0  k12 x3 S = some r) : V p l e rmX4_stand s m args below meth c Q D (xW ad cA) (xA ad) 4 S 12 [(0, .ref (ad (10 + i0))), (3, .int x3)] [] := by
  unfold fX4_stand_12b at hm
  refine v_iload_n C (pc := 12) 1 dX4_stand_12 rfl rfl ?_
  refine v_iconst C (pc := 13) 5 dX4_stand_13 rfl ?_
  refine v_icmp_ge C (pc := 14) hm 92 dX4_stand_14 rfl (fun hm => ?_) (fun hm => ?_)
  · refine v_aload_n C (pc := 92) 0 dX4_stand_92 rfl rfl ?_
    refine v_lconst C (pc := 93) 0 dX4_stand_93 rfl ?_
    refine pX4_29 C hi0 (pc := 94) hm dX4_stand_94 (fun S19 hm => ?_)
    refine v_iconst C (pc := 97) 0 dX4_stand_97 rfl ?_
    refine v_istore_n C (pc := 98) [(3, .int 0), (0, .ref (ad (10 + i0)))] dX4_stand_98 rfl (by decide) rfl ?_
    exact v_sub [1, 0] rfl (vX4_stand_99 C hr hQ (N := N) hi0 N _ _ hm)
  · refine v_aload_n C (pc := 17) 0 dX4_stand_17 rfl rfl ?_
    refine gX4_9 C hi0 (pc := 18) dX4_stand_18 ?_
    refine v_iload_n C (pc := 21) 1 dX4_stand_21 rfl rfl ?_
    refine v_aload_n C (pc := 22) 0 dX4_stand_22 rfl rfl ?_
    refine gX4_22 C hi0 (pc := 23) dX4_stand_23 ?_
    refine v_iload_n C (pc := 26) 1 dX4_stand_26 rfl rfl ?_
    refine kX4_39 C (Nat.le_of_ble_eq_true rfl) (Nat.le_of_ble_eq_true rfl) (pc := 27) hm (Nat.le_of_ble_eq_true rfl) dX4_stand_27 (fun r9 S20 hm => ?_)
    refine stX4_placements C hi0 (pc := 30) hm dX4_stand_30 (fun S21 hm => ?_)
    refine v_aload_n C (pc := 31) 0 dX4_stand_31 rfl rfl ?_
    refine gX4_18 C hi0 (pc := 32) dX4_stand_32 ?_
    refine v_iload_n C (pc := 35) 1 dX4_stand_35 rfl rfl ?_
    refine v_aload_n C (pc := 36) 0 dX4_stand_36 rfl rfl ?_
    refine gX4_35 C hi0 (pc := 37) dX4_stand_37 ?_
    refine v_iload_n C (pc := 40) 1 dX4_stand_40 rfl rfl ?_
    refine kX4_43 C (Nat.le_of_ble_eq_true rfl) (Nat.le_of_ble_eq_true rfl) (pc := 41) hm (Nat.le_of_ble_eq_true rfl) dX4_stand_41 (fun r10 S22 hm => ?_)
    refine v_if_eq C (pc := 44) hm 69 dX4_stand_44 rfl (fun hm => ?_) (fun hm => ?_)
    · refine v_lconst C (pc := 69) 0 dX4_stand_69 rfl ?_
      exact (vX4_stand_70 C hr hQ (N := N) hi0 hk12 hm)
    · refine v_aload_n C (pc := 47) 0 dX4_stand_47 rfl rfl ?_
      refine gX4_35 C hi0 (pc := 48) dX4_stand_48 ?_
      refine gX4_49 C (pc := 51) dX4_stand_51 ?_
      refine v_iload_n C (pc := 54) 1 dX4_stand_54 rfl rfl ?_
      refine ldX2_blocks C (pc := 55) hm dX4_stand_55 (fun hb11 hm => ?_)
      refine gX4_53 C hb11 (pc := 56) dX4_stand_56 ?_
      refine v_aload_n C (pc := 59) 0 dX4_stand_59 rfl rfl ?_
      refine gX4_9 C hi0 (pc := 60) dX4_stand_60 ?_
      refine v_iload_n C (pc := 63) 1 dX4_stand_63 rfl rfl ?_
      refine ldX4_placements C hi0 (pc := 64) hm dX4_stand_64 (fun hm => ?_)
      refine ldX0_cells C hb11 (pc := 65) hm dX4_stand_65 (fun hm => ?_)
      refine v_goto C (pc := 66) 70 dX4_stand_66 rfl ?_
      exact (vX4_stand_70 C hr hQ (N := N) hi0 hk12 hm)
theorem vX4_stand_12 {p : Program} {l : Launch} {e : Env} {s : State} {m : MethodId} {args : Array Value} {below : List Frame} {meth : Method} {c : Code} {Q : State → Prop} {D : va_G} {ad : Nat → Nat} {cA : Nat → ClassId} (C : Ok p s m args c D cA (xW ad cA) (xA ad) (xS ad) RX4 cX4_stand 4) (hr : Rt meth none) {r : Unit × St} (hQ : Q = MQ below (Qo D (xW ad cA) (xA ad) (none) r.2) args s 0 0 (xA ad)) {N : Nat} {i0 : Nat} (hi0 : i0 < 2)  (n : Nat) : ∀ (x3 : Int32) (S : St), fX4_stand_12 N i0  n x3 S = some r → V p l e rmX4_stand s m args below meth c Q D (xW ad cA) (xA ad) 4 S 12 [(0, .ref (ad (10 + i0))), (3, .int x3)] [] := by
  induction n with
  | zero => intro _ _  hm; exact absurd hm (by intro h; cases h)
  | succ n ih => intro _ _  hm; exact vX4_stand_12b C hr hQ (N := N) hi0  ih  hm
def fX4_stand (N : Nat) (i0 : Nat) (p1 : Int64) (S : St) : Option (Unit × St) := stp (sJ S (2 + i0) p1) fun S27 => stp (sJ S27 (4 + i0) 0) fun S28 => fX4_stand_12 N i0 N 0 S28
set_option maxRecDepth 20000 in
theorem vX4_stand {p : Program} {l : Launch} {e : Env} {s : State} {m : MethodId} {args : Array Value} {below : List Frame} {meth : Method} {c : Code} {Q : State → Prop} {D : va_G} {ad : Nat → Nat} {cA : Nat → ClassId} (C : Ok p s m args c D cA (xW ad cA) (xA ad) (xS ad) RX4 cX4_stand 4) (hr : Rt meth none) {r : Unit × St} (hQ : Q = MQ below (Qo D (xW ad cA) (xA ad) (none) r.2) args s 0 0 (xA ad)) {N : Nat} {i0 : Nat} (hi0 : i0 < 2) {p1 : Int64} {S : St} (hm : fX4_stand N i0 p1 S = some r) : V p l e rmX4_stand s m args below meth c Q D (xW ad cA) (xA ad) 4 S 0 [(0, .ref (ad (10 + i0))), (1, .long p1)] [] := by
  unfold fX4_stand at hm
  refine v_aload_n C (pc := 0) 0 dX4_stand_0 rfl rfl ?_
  refine v_lload_n C (pc := 1) 1 dX4_stand_1 rfl rfl ?_
  refine pX4_22 C hi0 (pc := 2) hm dX4_stand_2 (fun S27 hm => ?_)
  refine v_aload_n C (pc := 5) 0 dX4_stand_5 rfl rfl ?_
  refine v_lconst C (pc := 6) 0 dX4_stand_6 rfl ?_
  refine pX4_26 C hi0 (pc := 7) hm dX4_stand_7 (fun S28 hm => ?_)
  refine v_iconst C (pc := 10) 0 dX4_stand_10 rfl ?_
  refine v_istore_n C (pc := 11) [(3, .int 0), (0, .ref (ad (10 + i0))), (1, .long p1)] dX4_stand_11 rfl (by decide) rfl ?_
  exact v_sub [1, 0] rfl (vX4_stand_12 C hr hQ (N := N) hi0 N _ _ hm)
theorem mX4_stand {l : Launch} {D : va_G} {ad : Nat → Nat} {cA : Nat → ClassId} (hD : ∀ S, va_D (xA ad) (xW ad cA S)) {N : Nat} {i0 : Nat} (hi0 : i0 < 2) {p1 : Int64} {S : St} {r : Unit × St} (hm : fX4_stand N i0 p1 S = some r) : Met l yX4_stand (wsm yX4_stand cX4_stand 4 none) rmX4_stand (va_Pc [.ref (ad (10 + i0)), .long p1] (Pre D cA (xW ad cA) (xS ad) S)) (Qo D (xW ad cA) (xA ad) (none) r.2) 0 0 (xA ad) := met_of [.ref (ad (10 + i0)), .long p1] (by decide) (Nat.le_of_ble_eq_true rfl) hD (xS_mv ad) (xS_kp ad) (fun p e s m below meth c C hr => vX4_stand C hr rfl (N := N) hi0 hm)
-- X4_push
theorem kX4_95 {p : Program} {l : Launch} {e : Env} {R : Room} {s : State} {m : MethodId} {args : Array Value} {below : List Frame} {meth : Method} {c : Code} {Q : State → Prop} {D : va_G} {ad : Nat → Nat} {cA : Nat → ClassId} {cc : ByteArray} {nL : Nat} {S : St} {pc : Nat} {lv : List (Nat × Value)} {st : List Value} {ρ : Type} {res : ρ} (C : Ok p s m args c D cA (xW ad cA) (xA ad) (xS ad) RX4 cc nL) (hfr : rmX0_afterPush.frames + 1 ≤ R.frames) (hlo : 8 + (9 + 11) + rmX0_afterPush.locals ≤ R.locals) {i : Nat} (hi : i < 5) {N : Nat} {p2 : Int32} {p3 : Int32} {p4 : Int64} {E : Int32 → St → Option ρ} (hm : bd (fX0_afterPush N i p2 p3 p4 S) E = some res) (hcat : (st.map fun v => v.category).sum ≤ 8) (hd : decode cc pc = .ok (.invokevirtual 95, 3)) (k : ∀ r S, E r S = some res → V p l e R s m args below meth c Q D (xW ad cA) (xA ad) nL S (pc + 3) lv (.int r :: st)) : V p l e R s m args below meth c Q D (xW ad cA) (xA ad) nL S pc lv (.long p4 :: .int p3 :: .int p2 :: .ref (ad 3) :: .ref (ad (4 + i)) :: st) := by
  obtain ⟨r, S1, h1, h2⟩ := bd_some hm
  exact v_callV C (gm (i := 546) (by decide +kernel) rfl : Cond.methodLink RX4 95 yX0_afterPush ∈ gw_tbl) infX0_afterPush (rm2 := rmX0_afterPush) ⟨rfl, rfl⟩ hfr hlo (mX0_afterPush C.2.2.2.2.2.2.1 hi h1) (As := [.ref (ad 3), .int p2, .int p3, .long p4]) (oX0 ad cA i hi S) rfl rfl rfl rfl hcat hd (k r S1 h2)
theorem kX4_91 {p : Program} {l : Launch} {e : Env} {R : Room} {s : State} {m : MethodId} {args : Array Value} {below : List Frame} {meth : Method} {c : Code} {Q : State → Prop} {D : va_G} {ad : Nat → Nat} {cA : Nat → ClassId} {cc : ByteArray} {nL : Nat} {S : St} {pc : Nat} {lv : List (Nat × Value)} {st : List Value} {ρ : Type} {res : ρ} (C : Ok p s m args c D cA (xW ad cA) (xA ad) (xS ad) RX4 cc nL) (hfr : rmX8_withPlacement.frames + 1 ≤ R.frames) (hlo : 8 + (5 + 11) + rmX8_withPlacement.locals ≤ R.locals) {N : Nat} {p1 : Int64} {p2 : Int32} {p3 : Int32} {E : Int64 → St → Option ρ} (hm : bd (fX8_withPlacement N p1 p2 p3 S) E = some res) (hcat : (st.map fun v => v.category).sum ≤ 8) (hd : decode cc pc = .ok (.invokestatic 91, 3)) (k : ∀ r S, E r S = some res → V p l e R s m args below meth c Q D (xW ad cA) (xA ad) nL S (pc + 3) lv (.long r :: st)) : V p l e R s m args below meth c Q D (xW ad cA) (xA ad) nL S pc lv (.int p3 :: .int p2 :: .long p1 :: st) := by
  obtain ⟨r, S1, h1, h2⟩ := bd_some hm
  exact v_callSN C (C.2.2.2.2.2.2.2.1.2.2.2.2 _ (by decide +kernel) : va_Nw (Cond.methodLinkNest RX4 91 yX8_withPlacement "BlockYard") s) infX8_withPlacement (rm2 := rmX8_withPlacement) ⟨rfl, rfl⟩ hfr hlo (mX8_withPlacement C.2.2.2.2.2.2.1 h1) (As := [.long p1, .int p2, .int p3]) rfl rfl hcat hd (k r S1 h2)
def rmX4_push : Room := { frames := 2, cells := 0, slots := 0, locals := 53 }
def fX4_push_129 (N : Nat) (i0 : Nat)   (S : St) : Option (Int32 × St) := some (0, S)
set_option maxRecDepth 20000 in
theorem vX4_push_129 {p : Program} {l : Launch} {e : Env} {s : State} {m : MethodId} {args : Array Value} {below : List Frame} {meth : Method} {c : Code} {Q : State → Prop} {D : va_G} {ad : Nat → Nat} {cA : Nat → ClassId} (C : Ok p s m args c D cA (xW ad cA) (xA ad) (xS ad) RX4 cX4_push 16) (hr : Rt meth (some .int)) {r : Int32 × St} (hQ : Q = MQ below (Qo D (xW ad cA) (xA ad) (some (.int r.1)) r.2) args s 0 0 (xA ad)) {N : Nat} {i0 : Nat} (hi0 : i0 < 2)    {S : St} (hm : fX4_push_129 N i0   S = some r) : V p l e rmX4_push s m args below meth c Q D (xW ad cA) (xA ad) 16 S 129 [] [] := by
  unfold fX4_push_129 at hm
  refine v_iconst C (pc := 129) 0 dX4_push_129 rfl ?_
  exact v_iret C hr hQ (pc := 130) hm dX4_push_130
def fX4_push_218 (N : Nat) (i0 : Nat) (k26 : Int32 → Int32 → Int32 → Int32 → Int64 → Int32 → St → Option (Int32 × St)) (k145 : Int32 → Int32 → Int32 → Int32 → Int64 → Int32 → Nat → Int32 → Int32 → St → Option (Int32 × St)) (x2 : Int32) (x3 : Int32) (x4 : Int32) (x5 : Int32) (x6 : Int64) (x8 : Int32) (x10 : Nat) (x13 : Int32) (x14 : Int32) (S : St) : Option (Int32 × St) := k145 x2 x3 x4 x5 x6 x8 x10 x13 (x14 + 1) S
set_option maxRecDepth 20000 in
theorem vX4_push_218 {p : Program} {l : Launch} {e : Env} {s : State} {m : MethodId} {args : Array Value} {below : List Frame} {meth : Method} {c : Code} {Q : State → Prop} {D : va_G} {ad : Nat → Nat} {cA : Nat → ClassId} (C : Ok p s m args c D cA (xW ad cA) (xA ad) (xS ad) RX4 cX4_push 16) (hr : Rt meth (some .int)) {r : Int32 × St} (hQ : Q = MQ below (Qo D (xW ad cA) (xA ad) (some (.int r.1)) r.2) args s 0 0 (xA ad)) {N : Nat} {i0 : Nat} (hi0 : i0 < 2) {k26 : Int32 → Int32 → Int32 → Int32 → Int64 → Int32 → St → Option (Int32 × St)} (hk26 : ∀ (x2 : Int32) (x3 : Int32) (x4 : Int32) (x5 : Int32) (x6 : Int64) (x8 : Int32) (S : St), k26 x2 x3 x4 x5 x6 x8 S = some r → V p l e rmX4_push s m args below meth c Q D (xW ad cA) (xA ad) 16 S 26 [(0, .ref (ad (10 + i0))), (2, .int x2), (3, .int x3), (4, .int x4), (5, .int x5), (6, .long x6), (8, .int x8)] []) {k145 : Int32 → Int32 → Int32 → Int32 → Int64 → Int32 → Nat → Int32 → Int32 → St → Option (Int32 × St)} (hk145 : ∀ (x2 : Int32) (x3 : Int32) (x4 : Int32) (x5 : Int32) (x6 : Int64) (x8 : Int32) (x10 : Nat) (x13 : Int32) (x14 : Int32) (S : St), x10 < 5 → k145 x2 x3 x4 x5 x6 x8 x10 x13 x14 S = some r → V p l e rmX4_push s m args below meth c Q D (xW ad cA) (xA ad) 16 S 145 [(0, .ref (ad (10 + i0))), (2, .int x2), (3, .int x3), (4, .int x4), (5, .int x5), (6, .long x6), (8, .int x8), (10, .ref (ad (4 + x10))), (13, .int x13), (14, .int x14)] []) {x2 : Int32} {x3 : Int32} {x4 : Int32} {x5 : Int32} {x6 : Int64} {x8 : Int32} {x10 : Nat} {x13 : Int32} {x14 : Int32} (hx10 : x10 < 5) {S : St} (hm : fX4_push_218 N i0 k26 k145 x2 x3 x4 x5 x6 x8 x10 x13 x14 S = some r) : V p l e rmX4_push s m args below meth c Q D (xW ad cA) (xA ad) 16 S 218 [(0, .ref (ad (10 + i0))), (2, .int x2), (3, .int x3), (4, .int x4), (5, .int x5), (6, .long x6), (8, .int x8), (10, .ref (ad (4 + x10))), (13, .int x13), (14, .int x14)] [] := by
  unfold fX4_push_218 at hm
  refine v_iinc C (pc := 218) 1 9 [(14, .int (x14 + 1)), (0, .ref (ad (10 + i0))), (2, .int x2), (3, .int x3), (4, .int x4), (5, .int x5), (6, .long x6), (8, .int x8), (10, .ref (ad (4 + x10))), (13, .int x13)] dX4_push_218 rfl rfl (by decide) rfl ?_
  refine v_goto C (pc := 221) 145 dX4_push_221 rfl ?_
  exact v_sub [1, 2, 3, 4, 5, 6, 7, 8, 9, 0] rfl (hk145 _ _ _ _ _ _ _ _ _ _ hx10 hm)
def fX4_push_165 (N : Nat) (i0 : Nat) (k26 : Int32 → Int32 → Int32 → Int32 → Int64 → Int32 → St → Option (Int32 × St)) (k145 : Int32 → Int32 → Int32 → Int32 → Int64 → Int32 → Nat → Int32 → Int32 → St → Option (Int32 × St)) (s0 : Bool) (x2 : Int32) (x3 : Int32) (x4 : Int32) (x5 : Int32) (x6 : Int64) (x8 : Int32) (x10 : Nat) (x13 : Int32) (x14 : Int32) (S : St) : Option (Int32 × St) := if (b2i s0) = 0 then (fX4_push_218 N i0 k26 k145 x2 x3 x4 x5 x6 x8 x10 x13 x14 S) else (if 5 ≤ x4 then (fX4_push_218 N i0 k26 k145 x2 x3 x4 x5 x6 x8 x10 x13 x14 S) else (ck x14 5 (ck x13 256 (if (lg_cmp ((S.2.2.2 (9 + i0) (Int32.toNatClampNeg x14)) &&& (S.2.2.2 (4 + x10) (Int32.toNatClampNeg x13))) 0) = 0 then (fX4_push_218 N i0 k26 k145 x2 x3 x4 x5 x6 x8 x10 x13 x14 S) else (nm (x3 ||| (1 <<< (x14 &&& 31))) fun y24 => ck x4 5 (stp (sA S (24 + i0) (Int32.toNatClampNeg x4) x14) fun S12 => fX4_push_218 N i0 k26 k145 x2 y24 (x4 + 1) x5 x6 x8 x10 x13 x14 S12))))))
set_option maxRecDepth 20000 in
theorem vX4_push_165 {p : Program} {l : Launch} {e : Env} {s : State} {m : MethodId} {args : Array Value} {below : List Frame} {meth : Method} {c : Code} {Q : State → Prop} {D : va_G} {ad : Nat → Nat} {cA : Nat → ClassId} (C : Ok p s m args c D cA (xW ad cA) (xA ad) (xS ad) RX4 cX4_push 16) (hr : Rt meth (some .int)) {r : Int32 × St} (hQ : Q = MQ below (Qo D (xW ad cA) (xA ad) (some (.int r.1)) r.2) args s 0 0 (xA ad)) {N : Nat} {i0 : Nat} (hi0 : i0 < 2) {k26 : Int32 → Int32 → Int32 → Int32 → Int64 → Int32 → St → Option (Int32 × St)} (hk26 : ∀ (x2 : Int32) (x3 : Int32) (x4 : Int32) (x5 : Int32) (x6 : Int64) (x8 : Int32) (S : St), k26 x2 x3 x4 x5 x6 x8 S = some r → V p l e rmX4_push s m args below meth c Q D (xW ad cA) (xA ad) 16 S 26 [(0, .ref (ad (10 + i0))), (2, .int x2), (3, .int x3), (4, .int x4), (5, .int x5), (6, .long x6), (8, .int x8)] []) {k145 : Int32 → Int32 → Int32 → Int32 → Int64 → Int32 → Nat → Int32 → Int32 → St → Option (Int32 × St)} (hk145 : ∀ (x2 : Int32) (x3 : Int32) (x4 : Int32) (x5 : Int32) (x6 : Int64) (x8 : Int32) (x10 : Nat) (x13 : Int32) (x14 : Int32) (S : St), x10 < 5 → k145 x2 x3 x4 x5 x6 x8 x10 x13 x14 S = some r → V p l e rmX4_push s m args below meth c Q D (xW ad cA) (xA ad) 16 S 145 [(0, .ref (ad (10 + i0))), (2, .int x2), (3, .int x3), (4, .int x4), (5, .int x5), (6, .long x6), (8, .int x8), (10, .ref (ad (4 + x10))), (13, .int x13), (14, .int x14)] []) {s0 : Bool} {x2 : Int32} {x3 : Int32} {x4 : Int32} {x5 : Int32} {x6 : Int64} {x8 : Int32} {x10 : Nat} {x13 : Int32} {x14 : Int32} (hx10 : x10 < 5) {S : St} (hm : fX4_push_165 N i0 k26 k145 s0 x2 x3 x4 x5 x6 x8 x10 x13 x14 S = some r) : V p l e rmX4_push s m args below meth c Q D (xW ad cA) (xA ad) 16 S 165 [(0, .ref (ad (10 + i0))), (2, .int x2), (3, .int x3), (4, .int x4), (5, .int x5), (6, .long x6), (8, .int x8), (10, .ref (ad (4 + x10))), (13, .int x13), (14, .int x14)] [.int (b2i s0)] := by
  unfold fX4_push_165 at hm
  refine v_istore C (pc := 165) [(15, .int (b2i s0)), (0, .ref (ad (10 + i0))), (2, .int x2), (3, .int x3), (4, .int x4), (5, .int x5), (6, .long x6), (8, .int x8), (10, .ref (ad (4 + x10))), (13, .int x13), (14, .int x14)] dX4_push_165 (by decide) rfl ?_
  refine v_iload C (pc := 167) 0 dX4_push_167 rfl ?_
  refine v_if_eq C (pc := 169) hm 218 dX4_push_169 rfl (fun hm => ?_) (fun hm => ?_)
  · exact v_sub [1, 2, 3, 4, 5, 6, 7, 8, 9, 10] rfl (vX4_push_218 C hr hQ (N := N) hi0 hk26 hk145 hx10 hm)
  · refine v_iload C (pc := 172) 4 dX4_push_172 rfl ?_
    refine v_iconst C (pc := 174) 5 dX4_push_174 rfl ?_
    refine v_icmp_ge C (pc := 175) hm 218 dX4_push_175 rfl (fun hm => ?_) (fun hm => ?_)
    · exact v_sub [1, 2, 3, 4, 5, 6, 7, 8, 9, 10] rfl (vX4_push_218 C hr hQ (N := N) hi0 hk26 hk145 hx10 hm)
    · refine v_aload_n C (pc := 178) 1 dX4_push_178 rfl rfl ?_
      refine gX4_18 C hi0 (pc := 179) dX4_push_179 ?_
      refine v_iload C (pc := 182) 10 dX4_push_182 rfl ?_
      refine ldX4_masks C hi0 (pc := 184) hm dX4_push_184 (fun hm => ?_)
      refine v_aload C (pc := 185) 8 dX4_push_185 rfl ?_
      refine gX4_53 C hx10 (pc := 187) dX4_push_187 ?_
      refine v_iload C (pc := 190) 9 dX4_push_190 rfl ?_
      refine ldX0_cells C hx10 (pc := 192) hm dX4_push_192 (fun hm => ?_)
      refine v_land C (pc := 193) dX4_push_193 ?_
      refine v_lconst C (pc := 194) 0 dX4_push_194 rfl ?_
      refine v_lcmp C (pc := 195) dX4_push_195 ?_
      refine v_if_eq C (pc := 196) hm 218 dX4_push_196 rfl (fun hm => ?_) (fun hm => ?_)
      · exact v_sub [1, 2, 3, 4, 5, 6, 7, 8, 9, 10] rfl (vX4_push_218 C hr hQ (N := N) hi0 hk26 hk145 hx10 hm)
      · refine v_iload_n C (pc := 199) 3 dX4_push_199 rfl rfl ?_
        refine v_iconst C (pc := 200) 1 dX4_push_200 rfl ?_
        refine v_iload C (pc := 201) 10 dX4_push_201 rfl ?_
        refine v_ishl C (pc := 203) dX4_push_203 ?_
        refine v_ior C (pc := 204) dX4_push_204 ?_
        refine v_istore_nN C (pc := 205) [(15, .int (b2i s0)), (0, .ref (ad (10 + i0))), (2, .int x2), (4, .int x4), (5, .int x5), (6, .long x6), (8, .int x8), (10, .ref (ad (4 + x10))), (13, .int x13), (14, .int x14)] hm dX4_push_205 rfl (by decide) rfl (fun y24 hm => ?_)
        refine v_aload_n C (pc := 206) 2 dX4_push_206 rfl rfl ?_
        refine gX4_15 C hi0 (pc := 207) dX4_push_207 ?_
        refine v_iload C (pc := 210) 4 dX4_push_210 rfl ?_
        refine v_iload C (pc := 212) 10 dX4_push_212 rfl ?_
        refine stX4_pushed C hi0 (pc := 214) hm dX4_push_214 (fun S12 hm => ?_)
        refine v_iinc C (pc := 215) 1 4 [(4, .int (x4 + 1)), (3, .int y24), (15, .int (b2i s0)), (0, .ref (ad (10 + i0))), (2, .int x2), (5, .int x5), (6, .long x6), (8, .int x8), (10, .ref (ad (4 + x10))), (13, .int x13), (14, .int x14)] dX4_push_215 rfl rfl (by decide) rfl ?_
        exact v_sub [3, 4, 1, 0, 5, 6, 7, 8, 9, 10] rfl (vX4_push_218 C hr hQ (N := N) hi0 hk26 hk145 hx10 hm)
def fX4_push_145b (N : Nat) (i0 : Nat) (k26 : Int32 → Int32 → Int32 → Int32 → Int64 → Int32 → St → Option (Int32 × St)) (k145 : Int32 → Int32 → Int32 → Int32 → Int64 → Int32 → Nat → Int32 → Int32 → St → Option (Int32 × St)) (x2 : Int32) (x3 : Int32) (x4 : Int32) (x5 : Int32) (x6 : Int64) (x8 : Int32) (x10 : Nat) (x13 : Int32) (x14 : Int32) (S : St) : Option (Int32 × St) := if 5 ≤ x14 then (k26 x2 x3 x4 x5 x6 (x8 + 1) S) else (if ((x3 >>> (x14 &&& 31)) &&& 1) = 0 then (fX4_push_165 N i0 k26 k145 true x2 x3 x4 x5 x6 x8 x10 x13 x14 S) else (fX4_push_165 N i0 k26 k145 false x2 x3 x4 x5 x6 x8 x10 x13 x14 S))
def fX4_push_145 (N : Nat) (i0 : Nat) (k26 : Int32 → Int32 → Int32 → Int32 → Int64 → Int32 → St → Option (Int32 × St)) : Nat → Int32 → Int32 → Int32 → Int32 → Int64 → Int32 → Nat → Int32 → Int32 → St → Option (Int32 × St)
  | 0 => fun _ _ _ _ _ _ _ _ _ _ => none
  | n + 1 => fun x2 x3 x4 x5 x6 x8 x10 x13 x14 S => fX4_push_145b N i0 k26 (fX4_push_145 N i0 k26 n) x2 x3 x4 x5 x6 x8 x10 x13 x14 S
set_option maxRecDepth 20000 in
theorem vX4_push_145b {p : Program} {l : Launch} {e : Env} {s : State} {m : MethodId} {args : Array Value} {below : List Frame} {meth : Method} {c : Code} {Q : State → Prop} {D : va_G} {ad : Nat → Nat} {cA : Nat → ClassId} (C : Ok p s m args c D cA (xW ad cA) (xA ad) (xS ad) RX4 cX4_push 16) (hr : Rt meth (some .int)) {r : Int32 × St} (hQ : Q = MQ below (Qo D (xW ad cA) (xA ad) (some (.int r.1)) r.2) args s 0 0 (xA ad)) {N : Nat} {i0 : Nat} (hi0 : i0 < 2) {k26 : Int32 → Int32 → Int32 → Int32 → Int64 → Int32 → St → Option (Int32 × St)} (hk26 : ∀ (x2 : Int32) (x3 : Int32) (x4 : Int32) (x5 : Int32) (x6 : Int64) (x8 : Int32) (S : St), k26 x2 x3 x4 x5 x6 x8 S = some r → V p l e rmX4_push s m args below meth c Q D (xW ad cA) (xA ad) 16 S 26 [(0, .ref (ad (10 + i0))), (2, .int x2), (3, .int x3), (4, .int x4), (5, .int x5), (6, .long x6), (8, .int x8)] []) {k145 : Int32 → Int32 → Int32 → Int32 → Int64 → Int32 → Nat → Int32 → Int32 → St → Option (Int32 × St)} (hk145 : ∀ (x2 : Int32) (x3 : Int32) (x4 : Int32) (x5 : Int32) (x6 : Int64) (x8 : Int32) (x10 : Nat) (x13 : Int32) (x14 : Int32) (S : St), x10 < 5 → k145 x2 x3 x4 x5 x6 x8 x10 x13 x14 S = some r → V p l e rmX4_push s m args below meth c Q D (xW ad cA) (xA ad) 16 S 145 [(0, .ref (ad (10 + i0))), (2, .int x2), (3, .int x3), (4, .int x4), (5, .int x5), (6, .long x6), (8, .int x8), (10, .ref (ad (4 + x10))), (13, .int x13), (14, .int x14)] []) {x2 : Int32} {x3 : Int32} {x4 : Int32} {x5 : Int32} {x6 : Int64} {x8 : Int32} {x10 : Nat} {x13 : Int32} {x14 : Int32} (hx10 : x10 < 5) {S : St} (hm : fX4_push_145b N i0 k26 k145 x2 x3 x4 x5 x6 x8 x10 x13 x14 S = some r) : V p l e rmX4_push s m args below meth c Q D (xW ad cA) (xA ad) 16 S 145 [(0, .ref (ad (10 + i0))), (2, .int x2), (3, .int x3), (4, .int x4), (5, .int x5), (6, .long x6), (8, .int x8), (10, .ref (ad (4 + x10))), (13, .int x13), (14, .int x14)] [] := by
  unfold fX4_push_145b at hm
  refine v_iload C (pc := 145) 9 dX4_push_145 rfl ?_
  refine v_iconst C (pc := 147) 5 dX4_push_147 rfl ?_
  refine v_icmp_ge C (pc := 148) hm 224 dX4_push_148 rfl (fun hm => ?_) (fun hm => ?_)
  · refine v_iinc C (pc := 224) 1 6 [(8, .int (x8 + 1)), (0, .ref (ad (10 + i0))), (2, .int x2), (3, .int x3), (4, .int x4), (5, .int x5), (6, .long x6), (10, .ref (ad (4 + x10))), (13, .int x13), (14, .int x14)] dX4_push_224 rfl rfl (by decide) rfl ?_
    refine v_goto C (pc := 227) 26 dX4_push_227 rfl ?_
    exact v_sub [1, 2, 3, 4, 5, 6, 0] rfl (hk26 _ _ _ _ _ _ _ hm)
  · refine v_iload_n C (pc := 151) 2 dX4_push_151 rfl rfl ?_
    refine v_iload C (pc := 152) 9 dX4_push_152 rfl ?_
    refine v_ishr C (pc := 154) dX4_push_154 ?_
    refine v_iconst C (pc := 155) 1 dX4_push_155 rfl ?_
    refine v_iand C (pc := 156) dX4_push_156 ?_
    refine v_if_ne C (pc := 157) hm 164 dX4_push_157 rfl (fun hm => ?_) (fun hm => ?_)
    · refine v_iconst C (pc := 164) 0 dX4_push_164 rfl ?_
      exact (vX4_push_165 C hr hQ (N := N) hi0 hk26 hk145 hx10 hm)
    · refine v_iconst C (pc := 160) 1 dX4_push_160 rfl ?_
      refine v_goto C (pc := 161) 165 dX4_push_161 rfl ?_
      exact (vX4_push_165 C hr hQ (N := N) hi0 hk26 hk145 hx10 hm)
theorem vX4_push_145 {p : Program} {l : Launch} {e : Env} {s : State} {m : MethodId} {args : Array Value} {below : List Frame} {meth : Method} {c : Code} {Q : State → Prop} {D : va_G} {ad : Nat → Nat} {cA : Nat → ClassId} (C : Ok p s m args c D cA (xW ad cA) (xA ad) (xS ad) RX4 cX4_push 16) (hr : Rt meth (some .int)) {r : Int32 × St} (hQ : Q = MQ below (Qo D (xW ad cA) (xA ad) (some (.int r.1)) r.2) args s 0 0 (xA ad)) {N : Nat} {i0 : Nat} (hi0 : i0 < 2) {k26 : Int32 → Int32 → Int32 → Int32 → Int64 → Int32 → St → Option (Int32 × St)} (hk26 : ∀ (x2 : Int32) (x3 : Int32) (x4 : Int32) (x5 : Int32) (x6 : Int64) (x8 : Int32) (S : St), k26 x2 x3 x4 x5 x6 x8 S = some r → V p l e rmX4_push s m args below meth c Q D (xW ad cA) (xA ad) 16 S 26 [(0, .ref (ad (10 + i0))), (2, .int x2), (3, .int x3), (4, .int x4), (5, .int x5), (6, .long x6), (8, .int x8)] []) (n : Nat) : ∀ (x2 : Int32) (x3 : Int32) (x4 : Int32) (x5 : Int32) (x6 : Int64) (x8 : Int32) (x10 : Nat) (x13 : Int32) (x14 : Int32) (S : St), x10 < 5 → fX4_push_145 N i0 k26 n x2 x3 x4 x5 x6 x8 x10 x13 x14 S = some r → V p l e rmX4_push s m args below meth c Q D (xW ad cA) (xA ad) 16 S 145 [(0, .ref (ad (10 + i0))), (2, .int x2), (3, .int x3), (4, .int x4), (5, .int x5), (6, .long x6), (8, .int x8), (10, .ref (ad (4 + x10))), (13, .int x13), (14, .int x14)] [] := by
  induction n with
  | zero => intro _ _ _ _ _ _ _ _ _ _ _ hm; exact absurd hm (by intro h; cases h)
  | succ n ih => intro _ _ _ _ _ _ _ _ _ _ hx10 hm; exact vX4_push_145b C hr hQ (N := N) hi0 hk26 ih hx10 hm
def fX4_push_230 (N : Nat) (i0 : Nat)  (x3 : Int32) (x6 : Int64) (S : St) : Option (Int32 × St) := stp (sJ S (8 + i0) x6) fun S13 => some (x3, S13)
set_option maxRecDepth 20000 in
theorem vX4_push_230 {p : Program} {l : Launch} {e : Env} {s : State} {m : MethodId} {args : Array Value} {below : List Frame} {meth : Method} {c : Code} {Q : State → Prop} {D : va_G} {ad : Nat → Nat} {cA : Nat → ClassId} (C : Ok p s m args c D cA (xW ad cA) (xA ad) (xS ad) RX4 cX4_push 16) (hr : Rt meth (some .int)) {r : Int32 × St} (hQ : Q = MQ below (Qo D (xW ad cA) (xA ad) (some (.int r.1)) r.2) args s 0 0 (xA ad)) {N : Nat} {i0 : Nat} (hi0 : i0 < 2)  {x3 : Int32} {x6 : Int64}  {S : St} (hm : fX4_push_230 N i0  x3 x6 S = some r) : V p l e rmX4_push s m args below meth c Q D (xW ad cA) (xA ad) 16 S 230 [(0, .ref (ad (10 + i0))), (3, .int x3), (6, .long x6)] [] := by
  unfold fX4_push_230 at hm
  refine v_aload_n C (pc := 230) 0 dX4_push_230 rfl rfl ?_
  refine v_lload C (pc := 231) 2 dX4_push_231 rfl ?_
  refine pX4_32 C hi0 (pc := 233) hm dX4_push_233 (fun S13 hm => ?_)
  refine v_iload_n C (pc := 236) 1 dX4_push_236 rfl rfl ?_
  exact v_iret C hr hQ (pc := 237) hm dX4_push_237
def fX4_push_26b (N : Nat) (i0 : Nat)  (k26 : Int32 → Int32 → Int32 → Int32 → Int64 → Int32 → St → Option (Int32 × St)) (x2 : Int32) (x3 : Int32) (x4 : Int32) (x5 : Int32) (x6 : Int64) (x8 : Int32) (S : St) : Option (Int32 × St) := if x4 ≤ x8 then (fX4_push_230 N i0 x3 x6 S) else (if 5 ≤ x8 then (fX4_push_230 N i0 x3 x6 S) else (ck x8 5 (nm (S.2.2.1 (24 + i0) (Int32.toNatClampNeg x8)) fun y18 => ck y18 5 (ck y18 5 (nm ((S.2.1 (6 + i0)) &&& ((S.2.2.2 (9 + i0) (Int32.toNatClampNeg y18)) ^^^ (-1))) fun y20 => ck y18 5 (bd (fX0_afterPush N (Int32.toNatClampNeg y18) (S.2.2.1 (22 + i0) (Int32.toNatClampNeg y18)) x2 y20 S) fun r21 S10 => nm (x5 + (S10.1 (10 + (Int32.toNatClampNeg y18)))) fun y22 => if r21 < 0 then (fX4_push_129 N i0 S10) else (if y22 ≤ (S10.1 2) then (bd (fX8_withPlacement N x6 y18 r21 S10) fun r23 S11 => fX4_push_145 N i0 k26 N x2 x3 x4 y22 r23 x8 (Int32.toNatClampNeg y18) r21 0 S11) else (fX4_push_129 N i0 S10))))))))
def fX4_push_26 (N : Nat) (i0 : Nat)  : Nat → Int32 → Int32 → Int32 → Int32 → Int64 → Int32 → St → Option (Int32 × St)
  | 0 => fun _ _ _ _ _ _ _ => none
  | n + 1 => fun x2 x3 x4 x5 x6 x8 S => fX4_push_26b N i0  (fX4_push_26 N i0  n) x2 x3 x4 x5 x6 x8 S
set_option maxRecDepth 20000 in
theorem vX4_push_26b {p : Program} {l : Launch} {e : Env} {s : State} {m : MethodId} {args : Array Value} {below : List Frame} {meth : Method} {c : Code} {Q : State → Prop} {D : va_G} {ad : Nat → Nat} {cA : Nat → ClassId} (C : Ok p s m args c D cA (xW ad cA) (xA ad) (xS ad) RX4 cX4_push 16) (hr : Rt meth (some .int)) {r : Int32 × St} (hQ : Q = MQ below (Qo D (xW ad cA) (xA ad) (some (.int r.1)) r.2) args s 0 0 (xA ad)) {N : Nat} {i0 : Nat} (hi0 : i0 < 2)  {k26 : Int32 → Int32 → Int32 → Int32 → Int64 → Int32 → St → Option (Int32 × St)} (hk26 : ∀ (x2 : Int32) (x3 : Int32) (x4 : Int32) (x5 : Int32) (x6 : Int64) (x8 : Int32) (S : St), k26 x2 x3 x4 x5 x6 x8 S = some r → V p l e rmX4_push s m args below meth c Q D (xW ad cA) (xA ad) 16 S 26 [(0, .ref (ad (10 + i0))), (2, .int x2), (3, .int x3), (4, .int x4), (5, .int x5), (6, .long x6), (8, .int x8)] []) {x2 : Int32} {x3 : Int32} {x4 : Int32} {x5 : Int32} {x6 : Int64} {x8 : Int32}  {S : St} (hm : fX4_push_26b N i0  k26 x2 x3 x4 x5 x6 x8 S = some r) : V p l e rmX4_push s m args below meth c Q D (xW ad cA) (xA ad) 16 S 26 [(0, .ref (ad (10 + i0))), (2, .int x2), (3, .int x3), (4, .int x4), (5, .int x5), (6, .long x6), (8, .int x8)] [] := by
  unfold fX4_push_26b at hm
  refine v_iload C (pc := 26) 6 dX4_push_26 rfl ?_
  refine v_iload C (pc := 28) 3 dX4_push_28 rfl ?_
  refine v_icmp_ge C (pc := 30) hm 230 dX4_push_30 rfl (fun hm => ?_) (fun hm => ?_)
  · exact v_sub [0, 2, 5] rfl (vX4_push_230 C hr hQ (N := N) hi0 hm)
  · refine v_iload C (pc := 33) 6 dX4_push_33 rfl ?_
    refine v_iconst C (pc := 35) 5 dX4_push_35 rfl ?_
    refine v_icmp_ge C (pc := 36) hm 230 dX4_push_36 rfl (fun hm => ?_) (fun hm => ?_)
    · exact v_sub [0, 2, 5] rfl (vX4_push_230 C hr hQ (N := N) hi0 hm)
    · refine v_aload_n C (pc := 39) 0 dX4_push_39 rfl rfl ?_
      refine gX4_15 C hi0 (pc := 40) dX4_push_40 ?_
      refine v_iload C (pc := 43) 6 dX4_push_43 rfl ?_
      refine ldX4_pushed C hi0 (pc := 45) hm dX4_push_45 (fun hm => ?_)
      refine v_istoreN C (pc := 46) [(0, .ref (ad (10 + i0))), (2, .int x2), (3, .int x3), (4, .int x4), (5, .int x5), (6, .long x6), (8, .int x8)] hm dX4_push_46 (by decide) rfl (fun y18 hm => ?_)
      refine v_aload_n C (pc := 48) 1 dX4_push_48 rfl rfl ?_
      refine gX4_35 C hi0 (pc := 49) dX4_push_49 ?_
      refine gX4_49 C (pc := 52) dX4_push_52 ?_
      refine v_iload C (pc := 55) 0 dX4_push_55 rfl ?_
      refine ldX2_blocks C (pc := 57) hm dX4_push_57 (fun hb19 hm => ?_)
      refine v_astore C (pc := 58) [(10, .ref (ad (4 + (Int32.toNatClampNeg y18)))), (9, .int y18), (0, .ref (ad (10 + i0))), (2, .int x2), (3, .int x3), (4, .int x4), (5, .int x5), (6, .long x6), (8, .int x8)] dX4_push_58 (by decide) rfl ?_
      refine v_aload_n C (pc := 60) 2 dX4_push_60 rfl rfl ?_
      refine gX4_29 C hi0 (pc := 61) dX4_push_61 ?_
      refine v_aload_n C (pc := 64) 2 dX4_push_64 rfl rfl ?_
      refine gX4_18 C hi0 (pc := 65) dX4_push_65 ?_
      refine v_iload C (pc := 68) 1 dX4_push_68 rfl ?_
      refine ldX4_masks C hi0 (pc := 70) hm dX4_push_70 (fun hm => ?_)
      refine v_ldc2 C (pc := 71) dX4_push_71 clX4_85 ?_
      refine v_lxor C (pc := 74) dX4_push_74 ?_
      refine v_land C (pc := 75) dX4_push_75 ?_
      refine v_lstoreN C (pc := 76) [(10, .ref (ad (4 + (Int32.toNatClampNeg y18)))), (9, .int y18), (0, .ref (ad (10 + i0))), (2, .int x2), (3, .int x3), (4, .int x4), (5, .int x5), (6, .long x6), (8, .int x8)] hm dX4_push_76 (by decide) rfl (fun y20 hm => ?_)
      refine v_aload C (pc := 78) 1 dX4_push_78 rfl ?_
      refine v_aload_n C (pc := 80) 3 dX4_push_80 rfl rfl ?_
      refine gX4_35 C hi0 (pc := 81) dX4_push_81 ?_
      refine gX4_58 C (pc := 84) dX4_push_84 ?_
      refine v_aload_n C (pc := 87) 3 dX4_push_87 rfl rfl ?_
      refine gX4_9 C hi0 (pc := 88) dX4_push_88 ?_
      refine v_iload C (pc := 91) 2 dX4_push_91 rfl ?_
      refine ldX4_placements C hi0 (pc := 93) hm dX4_push_93 (fun hm => ?_)
      refine v_iload_n C (pc := 94) 4 dX4_push_94 rfl rfl ?_
      refine v_lload C (pc := 95) 0 dX4_push_95 rfl ?_
      refine kX4_95 C (Nat.le_of_ble_eq_true rfl) (Nat.le_of_ble_eq_true rfl) hb19 (pc := 97) hm (Nat.le_of_ble_eq_true rfl) dX4_push_97 (fun r21 S10 hm => ?_)
      refine v_istore C (pc := 100) [(13, .int r21), (11, .long y20), (10, .ref (ad (4 + (Int32.toNatClampNeg y18)))), (9, .int y18), (0, .ref (ad (10 + i0))), (2, .int x2), (3, .int x3), (4, .int x4), (5, .int x5), (6, .long x6), (8, .int x8)] dX4_push_100 (by decide) rfl ?_
      refine v_iload C (pc := 102) 8 dX4_push_102 rfl ?_
      refine v_aload C (pc := 104) 2 dX4_push_104 rfl ?_
      refine gX4_77 C hb19 (pc := 106) dX4_push_106 ?_
      refine v_iadd C (pc := 109) dX4_push_109 ?_
      refine v_istoreN C (pc := 110) [(13, .int r21), (11, .long y20), (10, .ref (ad (4 + (Int32.toNatClampNeg y18)))), (9, .int y18), (0, .ref (ad (10 + i0))), (2, .int x2), (3, .int x3), (4, .int x4), (6, .long x6), (8, .int x8)] hm dX4_push_110 (by decide) rfl (fun y22 hm => ?_)
      refine v_iload C (pc := 112) 1 dX4_push_112 rfl ?_
      refine v_if_lt C (pc := 114) hm 129 dX4_push_114 rfl (fun hm => ?_) (fun hm => ?_)
      · exact v_sub [] rfl (vX4_push_129 C hr hQ (N := N) hi0 hm)
      · refine v_iload C (pc := 117) 0 dX4_push_117 rfl ?_
        refine v_aload_n C (pc := 119) 5 dX4_push_119 rfl rfl ?_
        refine gX4_35 C hi0 (pc := 120) dX4_push_120 ?_
        refine gX4_98 C (pc := 123) dX4_push_123 ?_
        refine v_icmp_le C (pc := 126) hm 131 dX4_push_126 rfl (fun hm => ?_) (fun hm => ?_)
        · refine v_lload C (pc := 131) 9 dX4_push_131 rfl ?_
          refine v_iload C (pc := 133) 4 dX4_push_133 rfl ?_
          refine v_iload C (pc := 135) 1 dX4_push_135 rfl ?_
          refine kX4_91 C (Nat.le_of_ble_eq_true rfl) (Nat.le_of_ble_eq_true rfl) (pc := 137) hm (Nat.le_of_ble_eq_true rfl) dX4_push_137 (fun r23 S11 hm => ?_)
          refine v_lstore C (pc := 140) [(6, .long r23), (5, .int y22), (13, .int r21), (11, .long y20), (10, .ref (ad (4 + (Int32.toNatClampNeg y18)))), (9, .int y18), (0, .ref (ad (10 + i0))), (2, .int x2), (3, .int x3), (4, .int x4), (8, .int x8)] dX4_push_140 (by decide) rfl ?_
          refine v_iconst C (pc := 142) 0 dX4_push_142 rfl ?_
          refine v_istore C (pc := 143) [(14, .int 0), (6, .long r23), (5, .int y22), (13, .int r21), (11, .long y20), (10, .ref (ad (4 + (Int32.toNatClampNeg y18)))), (9, .int y18), (0, .ref (ad (10 + i0))), (2, .int x2), (3, .int x3), (4, .int x4), (8, .int x8)] dX4_push_143 (by decide) rfl ?_
          exact v_sub [7, 8, 9, 10, 2, 1, 11, 5, 3, 0] rfl (vX4_push_145 C hr hQ (N := N) hi0 hk26 N _ _ _ _ _ _ _ _ _ _ hb19 hm)
        · exact v_sub [] rfl (vX4_push_129 C hr hQ (N := N) hi0 hm)
theorem vX4_push_26 {p : Program} {l : Launch} {e : Env} {s : State} {m : MethodId} {args : Array Value} {below : List Frame} {meth : Method} {c : Code} {Q : State → Prop} {D : va_G} {ad : Nat → Nat} {cA : Nat → ClassId} (C : Ok p s m args c D cA (xW ad cA) (xA ad) (xS ad) RX4 cX4_push 16) (hr : Rt meth (some .int)) {r : Int32 × St} (hQ : Q = MQ below (Qo D (xW ad cA) (xA ad) (some (.int r.1)) r.2) args s 0 0 (xA ad)) {N : Nat} {i0 : Nat} (hi0 : i0 < 2)  (n : Nat) : ∀ (x2 : Int32) (x3 : Int32) (x4 : Int32) (x5 : Int32) (x6 : Int64) (x8 : Int32) (S : St), fX4_push_26 N i0  n x2 x3 x4 x5 x6 x8 S = some r → V p l e rmX4_push s m args below meth c Q D (xW ad cA) (xA ad) 16 S 26 [(0, .ref (ad (10 + i0))), (2, .int x2), (3, .int x3), (4, .int x4), (5, .int x5), (6, .long x6), (8, .int x8)] [] := by
  induction n with
  | zero => intro _ _ _ _ _ _ _  hm; exact absurd hm (by intro h; cases h)
  | succ n ih => intro _ _ _ _ _ _ _  hm; exact vX4_push_26b C hr hQ (N := N) hi0  ih  hm
def fX4_push (N : Nat) (i0 : Nat) (p1 : Int32) (p2 : Int32) (S : St) : Option (Int32 × St) := nm (1 <<< (p1 &&& 31)) fun y25 => nm (S.2.1 (2 + i0)) fun y26 => ck 0 5 (stp (sA S (24 + i0) (Int32.toNatClampNeg 0) p1) fun S14 => fX4_push_26 N i0 N p2 y25 1 0 y26 0 S14)
set_option maxRecDepth 20000 in
theorem vX4_push {p : Program} {l : Launch} {e : Env} {s : State} {m : MethodId} {args : Array Value} {below : List Frame} {meth : Method} {c : Code} {Q : State → Prop} {D : va_G} {ad : Nat → Nat} {cA : Nat → ClassId} (C : Ok p s m args c D cA (xW ad cA) (xA ad) (xS ad) RX4 cX4_push 16) (hr : Rt meth (some .int)) {r : Int32 × St} (hQ : Q = MQ below (Qo D (xW ad cA) (xA ad) (some (.int r.1)) r.2) args s 0 0 (xA ad)) {N : Nat} {i0 : Nat} (hi0 : i0 < 2) {p1 : Int32} {p2 : Int32} {S : St} (hm : fX4_push N i0 p1 p2 S = some r) : V p l e rmX4_push s m args below meth c Q D (xW ad cA) (xA ad) 16 S 0 [(0, .ref (ad (10 + i0))), (1, .int p1), (2, .int p2)] [] := by
  unfold fX4_push at hm
  refine v_iconst C (pc := 0) 1 dX4_push_0 rfl ?_
  refine v_iload_n C (pc := 1) 1 dX4_push_1 rfl rfl ?_
  refine v_ishl C (pc := 2) dX4_push_2 ?_
  refine v_istore_nN C (pc := 3) [(0, .ref (ad (10 + i0))), (1, .int p1), (2, .int p2)] hm dX4_push_3 rfl (by decide) rfl (fun y25 hm => ?_)
  refine v_iconst C (pc := 4) 1 dX4_push_4 rfl ?_
  refine v_istore C (pc := 5) [(4, .int 1), (3, .int y25), (0, .ref (ad (10 + i0))), (1, .int p1), (2, .int p2)] dX4_push_5 (by decide) rfl ?_
  refine v_iconst C (pc := 7) 0 dX4_push_7 rfl ?_
  refine v_istore C (pc := 8) [(5, .int 0), (4, .int 1), (3, .int y25), (0, .ref (ad (10 + i0))), (1, .int p1), (2, .int p2)] dX4_push_8 (by decide) rfl ?_
  refine v_aload_n C (pc := 10) 3 dX4_push_10 rfl rfl ?_
  refine gX4_22 C hi0 (pc := 11) dX4_push_11 ?_
  refine v_lstoreN C (pc := 14) [(5, .int 0), (4, .int 1), (3, .int y25), (0, .ref (ad (10 + i0))), (1, .int p1), (2, .int p2)] hm dX4_push_14 (by decide) rfl (fun y26 hm => ?_)
  refine v_aload_n C (pc := 16) 4 dX4_push_16 rfl rfl ?_
  refine gX4_15 C hi0 (pc := 17) dX4_push_17 ?_
  refine v_iconst C (pc := 20) 0 dX4_push_20 rfl ?_
  refine v_iload_n C (pc := 21) 5 dX4_push_21 rfl rfl ?_
  refine stX4_pushed C hi0 (pc := 22) hm dX4_push_22 (fun S14 hm => ?_)
  refine v_iconst C (pc := 23) 0 dX4_push_23 rfl ?_
  refine v_istore C (pc := 24) [(8, .int 0), (6, .long y26), (5, .int 0), (4, .int 1), (3, .int y25), (0, .ref (ad (10 + i0))), (1, .int p1), (2, .int p2)] dX4_push_24 (by decide) rfl ?_
  exact v_sub [5, 7, 4, 3, 2, 1, 0] rfl (vX4_push_26 C hr hQ (N := N) hi0 N _ _ _ _ _ _ _ hm)
theorem mX4_push {l : Launch} {D : va_G} {ad : Nat → Nat} {cA : Nat → ClassId} (hD : ∀ S, va_D (xA ad) (xW ad cA S)) {N : Nat} {i0 : Nat} (hi0 : i0 < 2) {p1 : Int32} {p2 : Int32} {S : St} {r : Int32 × St} (hm : fX4_push N i0 p1 p2 S = some r) : Met l yX4_push (wsm yX4_push cX4_push 16 (some .int)) rmX4_push (va_Pc [.ref (ad (10 + i0)), .int p1, .int p2] (Pre D cA (xW ad cA) (xS ad) S)) (Qo D (xW ad cA) (xA ad) (some (.int r.1)) r.2) 0 0 (xA ad) := met_of [.ref (ad (10 + i0)), .int p1, .int p2] (by decide) (Nat.le_of_ble_eq_true rfl) hD (xS_mv ad) (xS_kp ad) (fun p e s m below meth c C hr => vX4_push C hr rfl (N := N) hi0 hm)
