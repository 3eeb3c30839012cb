-- X9_reachable
def rmX9_reachable : Room := { frames := 8, cells := 0, slots := 0, locals := 199 }
def fX9_reachable_36 (N : Nat)  (s0 : Int32) (S : St) : Option (Int32 × St) := some (s0, S)
set_option maxRecDepth 20000 in
theorem vX9_reachable_36 {p : Program} {l : Launch} {e : Env} {s : State} {m : MethodId} {args : Array Value} {below : List Frame} {meth : Method} {c : Code} {Q : State → Prop} {D : va_G} {ad : Nat → Nat} {cA : Nat → ClassId} (C : Ok p s m args c D cA (mW ad cA) (mA ad) mS RX9 cX9_reachable 2) (hr : Rt meth (some .int)) {r : Int32 × St} (hQ : Q = MQ below (Qo D (mW ad cA) (mA ad) (some (.int r.1)) r.2) args s 0 0 (mA ad)) {N : Nat}  {s0 : Int32}  {S : St} (hm : fX9_reachable_36 N  s0 S = some r) : V p l e rmX9_reachable s m args below meth c Q D (mW ad cA) (mA ad) 2 S 36 [] [.int s0] := by
  unfold fX9_reachable_36 at hm
  exact v_iret C hr hQ (pc := 36) hm dX9_reachable_36
def fX9_reachable (N : Nat) (p1 : Int32) (S : St) : Option (Int32 × St) := bd (fX9_in N p1 0 4 S) fun r3 S3 => if (b2i r3) = 0 then (some ((-3), S3)) else (bd (fX9_search N 0 p1 S3) fun r4 S4 => if (S4.1 11) = (-6) then (fX9_reachable_36 N (-6) S4) else (fX9_reachable_36 N (S4.1 10) S4))
set_option maxRecDepth 20000 in
theorem vX9_reachable {p : Program} {l : Launch} {e : Env} {s : State} {m : MethodId} {args : Array Value} {below : List Frame} {meth : Method} {c : Code} {Q : State → Prop} {D : va_G} {ad : Nat → Nat} {cA : Nat → ClassId} (C : Ok p s m args c D cA (mW ad cA) (mA ad) mS RX9 cX9_reachable 2) (hr : Rt meth (some .int)) {r : Int32 × St} (hQ : Q = MQ below (Qo D (mW ad cA) (mA ad) (some (.int r.1)) r.2) args s 0 0 (mA ad)) {N : Nat} {p1 : Int32} {S : St} (hm : fX9_reachable N p1 S = some r) : V p l e rmX9_reachable s m args below meth c Q D (mW ad cA) (mA ad) 2 S 0 [(0, .ref (ad 0)), (1, .int p1)] [] := by
  unfold fX9_reachable at hm
  refine v_iload_n C (pc := 0) 1 dX9_reachable_0 rfl rfl ?_
  refine v_iconst C (pc := 1) 0 dX9_reachable_1 rfl ?_
  refine v_iconst C (pc := 2) 4 dX9_reachable_2 rfl ?_
  refine kX9_119 C (Nat.le_of_ble_eq_true rfl) (Nat.le_of_ble_eq_true rfl) (pc := 3) hm (Nat.le_of_ble_eq_true rfl) dX9_reachable_3 (fun r3 S3 hm => ?_)
  refine v_if_ne C (pc := 6) hm 12 dX9_reachable_6 rfl (fun hm => ?_) (fun hm => ?_)
  · refine v_aload_n C (pc := 12) 0 dX9_reachable_12 rfl rfl ?_
    refine v_iconst C (pc := 13) 0 dX9_reachable_13 rfl ?_
    refine v_iload_n C (pc := 14) 1 dX9_reachable_14 rfl rfl ?_
    refine kX9_302 C (Nat.le_of_ble_eq_true rfl) (Nat.le_of_ble_eq_true rfl) (pc := 15) hm (Nat.le_of_ble_eq_true rfl) dX9_reachable_15 (fun r4 S4 hm => ?_)
    refine v_aload_n C (pc := 18) 0 dX9_reachable_18 rfl rfl ?_
    refine gX9_295 C (pc := 19) dX9_reachable_19 ?_
    refine v_bipush C (pc := 22) (-6) dX9_reachable_22 rfl ?_
    refine v_icmp_ne C (pc := 24) hm 32 dX9_reachable_24 rfl (fun hm => ?_) (fun hm => ?_)
    · refine v_aload_n C (pc := 32) 0 dX9_reachable_32 rfl rfl ?_
      refine gX9_288 C (pc := 33) dX9_reachable_33 ?_
      exact v_sub [] rfl (vX9_reachable_36 C hr hQ (N := N) hm)
    · refine v_bipush C (pc := 27) (-6) dX9_reachable_27 rfl ?_
      refine v_goto C (pc := 29) 36 dX9_reachable_29 rfl ?_
      exact v_sub [] rfl (vX9_reachable_36 C hr hQ (N := N) hm)
  · refine v_bipush C (pc := 9) (-3) dX9_reachable_9 rfl ?_
    exact v_iret C hr hQ (pc := 11) hm dX9_reachable_11
theorem mX9_reachable {l : Launch} {D : va_G} {ad : Nat → Nat} {cA : Nat → ClassId} (hD : ∀ S, va_D (mA ad) (mW ad cA S)) {N : Nat} {p1 : Int32} {S : St} {r : Int32 × St} (hm : fX9_reachable N p1 S = some r) : Met l yX9_reachable (wsm yX9_reachable cX9_reachable 2 (some .int)) rmX9_reachable (va_Pc [.ref (ad 0), .int p1] (Pre D cA (mW ad cA) mS S)) (Qo D (mW ad cA) (mA ad) (some (.int r.1)) r.2) 0 0 (mA ad) := met_of [.ref (ad 0), .int p1] (by decide) (Nat.le_of_ble_eq_true rfl) hD (fun _ _ _ _ h => h) (fun _ _ _ _ h => h) (fun p e s m below meth c C hr => vX9_reachable C hr rfl (N := N)  hm)
