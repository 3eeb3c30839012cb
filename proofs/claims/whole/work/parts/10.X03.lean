-- X4_attempt
theorem kX4_87 {p : Program} {l : Launch} {e : Env} {R : Room} {s : State} {m : MethodId} {args : Array Value} {below : List Frame} {meth : Method} {c : Code} {Q : State → Prop} {D : va_G} {ad : Nat → Nat} {cA : Nat → ClassId} {cc : ByteArray} {nL : Nat} {S : St} {pc : Nat} {lv : List (Nat × Value)} {st : List Value} {ρ : Type} {res : ρ} (C : Ok p s m args c D cA (xW ad cA) (xA ad) (xS ad) RX4 cc nL) (hfr : rmX0_afterTurn.frames + 1 ≤ R.frames) (hlo : 8 + (11 + 11) + rmX0_afterTurn.locals ≤ R.locals) {i : Nat} (hi : i < 5) {N : Nat} {p2 : Int32} {p3 : Int32} {p4 : Int64} {E : Int32 → St → Option ρ} (hm : bd (fX0_afterTurn N i p2 p3 p4 S) E = some res) (hcat : (st.map fun v => v.category).sum ≤ 8) (hd : decode cc pc = .ok (.invokevirtual 87, 3)) (k : ∀ r S, E r S = some res → V p l e R s m args below meth c Q D (xW ad cA) (xA ad) nL S (pc + 3) lv (.int r :: st)) : V p l e R s m args below meth c Q D (xW ad cA) (xA ad) nL S pc lv (.long p4 :: .int p3 :: .int p2 :: .ref (ad 3) :: .ref (ad (4 + i)) :: st) := by
  obtain ⟨r, S1, h1, h2⟩ := bd_some hm
  exact v_callV C (gm (i := 564) (by decide +kernel) rfl : Cond.methodLink RX4 87 yX0_afterTurn ∈ gw_tbl) infX0_afterTurn (rm2 := rmX0_afterTurn) ⟨rfl, rfl⟩ hfr hlo (mX0_afterTurn C.2.2.2.2.2.2.1 hi h1) (As := [.ref (ad 3), .int p2, .int p3, .long p4]) (oX0 ad cA i hi S) rfl rfl rfl rfl hcat hd (k r S1 h2)
theorem infX4_push : InfV yX4_push cX4_push 16 (some .int) 2 := ⟨⟨gm (i := 62) (by decide +kernel) rfl, gm (i := 544) (by decide +kernel) rfl, by decide +kernel⟩, gm (i := 543) (by decide +kernel) rfl, gm (i := 7) (by decide +kernel) rfl⟩
theorem kX4_81 {p : Program} {l : Launch} {e : Env} {R : Room} {s : State} {m : MethodId} {args : Array Value} {below : List Frame} {meth : Method} {c : Code} {Q : State → Prop} {D : va_G} {ad : Nat → Nat} {cA : Nat → ClassId} {cc : ByteArray} {nL : Nat} {S : St} {pc : Nat} {lv : List (Nat × Value)} {st : List Value} {ρ : Type} {res : ρ} (C : Ok p s m args c D cA (xW ad cA) (xA ad) (xS ad) RX4 cc nL) (hfr : rmX4_push.frames + 1 ≤ R.frames) (hlo : 8 + (16 + 11) + rmX4_push.locals ≤ R.locals) {i : Nat} (hi : i < 2) {N : Nat} {p1 : Int32} {p2 : Int32} {E : Int32 → St → Option ρ} (hm : bd (fX4_push N i p1 p2 S) E = some res) (hcat : (st.map fun v => v.category).sum ≤ 8) (hd : decode cc pc = .ok (.invokevirtual 81, 3)) (k : ∀ r S, E r S = some res → V p l e R s m args below meth c Q D (xW ad cA) (xA ad) nL S (pc + 3) lv (.int r :: st)) : V p l e R s m args below meth c Q D (xW ad cA) (xA ad) nL S pc lv (.int p2 :: .int p1 :: .ref (ad (10 + i)) :: st) := by
  obtain ⟨r, S1, h1, h2⟩ := bd_some hm
  exact v_callV C (gm (i := 541) (by decide +kernel) rfl : Cond.methodLink RX4 81 yX4_push ∈ gw_tbl) infX4_push (rm2 := rmX4_push) ⟨rfl, rfl⟩ hfr hlo (mX4_push C.2.2.2.2.2.2.1 hi h1) (As := [.int p1, .int p2]) (oX4 ad cA i hi S) rfl rfl rfl rfl hcat hd (k r S1 h2)
def rmX4_attempt : Room := { frames := 3, cells := 0, slots := 0, locals := 88 }
def fX4_attempt (N : Nat) (i0 : Nat) (p1 : Int32) (p2 : Int32) (S : St) : Option (Int32 × St) := bd (fX2_has N p1 S) fun r7 S6 => if (b2i r7) = 0 then (some (0, S6)) else (if 4 ≤ p2 then (ck p1 5 (nm (((S6.2.1 (6 + i0)) ||| (S6.2.1 (4 + i0))) &&& ((S6.2.2.2 (9 + i0) (Int32.toNatClampNeg p1)) ^^^ (-1))) fun y8 => ck p1 5 (ck p1 5 (bd (fX0_afterTurn N (Int32.toNatClampNeg p1) (S6.2.2.1 (22 + i0) (Int32.toNatClampNeg p1)) p2 y8 S6) fun r10 S7 => if 0 ≤ r10 then (bd (fX8_withPlacement N (S7.2.1 (2 + i0)) p1 r10 S7) fun r11 S8 => stp (sJ S8 (8 + i0) r11) fun S9 => some ((1 <<< (p1 &&& 31)), S9)) else (some (0, S7)))))) else (bd (fX4_push N i0 p1 p2 S6) fun r12 S10 => some (r12, S10)))
set_option maxRecDepth 20000 in
theorem vX4_attempt {p : Program} {l : Launch} {e : Env} {s : State} {m : MethodId} {args : Array Value} {below : List Frame} {meth : Method} {c : Code} {Q : State → Prop} {D : va_G} {ad : Nat → Nat} {cA : Nat → ClassId} (C : Ok p s m args c D cA (xW ad cA) (xA ad) (xS ad) RX4 cX4_attempt 6) (hr : Rt meth (some .int)) {r : Int32 × St} (hQ : Q = MQ below (Qo D (xW ad cA) (xA ad) (some (.int r.1)) r.2) args s 0 0 (xA ad)) {N : Nat} {i0 : Nat} (hi0 : i0 < 2) {p1 : Int32} {p2 : Int32} {S : St} (hm : fX4_attempt N i0 p1 p2 S = some r) : V p l e rmX4_attempt s m args below meth c Q D (xW ad cA) (xA ad) 6 S 0 [(0, .ref (ad (10 + i0))), (1, .int p1), (2, .int p2)] [] := by
  unfold fX4_attempt at hm
  refine v_aload_n C (pc := 0) 0 dX4_attempt_0 rfl rfl ?_
  refine gX4_35 C hi0 (pc := 1) dX4_attempt_1 ?_
  refine v_iload_n C (pc := 4) 1 dX4_attempt_4 rfl rfl ?_
  refine kX4_43 C (Nat.le_of_ble_eq_true rfl) (Nat.le_of_ble_eq_true rfl) (pc := 5) hm (Nat.le_of_ble_eq_true rfl) dX4_attempt_5 (fun r7 S6 hm => ?_)
  refine v_if_ne C (pc := 8) hm 13 dX4_attempt_8 rfl (fun hm => ?_) (fun hm => ?_)
  · refine v_iload_n C (pc := 13) 2 dX4_attempt_13 rfl rfl ?_
    refine v_iconst C (pc := 14) 4 dX4_attempt_14 rfl ?_
    refine v_icmp_ge C (pc := 15) hm 25 dX4_attempt_15 rfl (fun hm => ?_) (fun hm => ?_)
    · refine v_aload_n C (pc := 25) 0 dX4_attempt_25 rfl rfl ?_
      refine gX4_29 C hi0 (pc := 26) dX4_attempt_26 ?_
      refine v_aload_n C (pc := 29) 0 dX4_attempt_29 rfl rfl ?_
      refine gX4_26 C hi0 (pc := 30) dX4_attempt_30 ?_
      refine v_lor C (pc := 33) dX4_attempt_33 ?_
      refine v_aload_n C (pc := 34) 0 dX4_attempt_34 rfl rfl ?_
      refine gX4_18 C hi0 (pc := 35) dX4_attempt_35 ?_
      refine v_iload_n C (pc := 38) 1 dX4_attempt_38 rfl rfl ?_
      refine ldX4_masks C hi0 (pc := 39) hm dX4_attempt_39 (fun hm => ?_)
      refine v_ldc2 C (pc := 40) dX4_attempt_40 clX4_85 ?_
      refine v_lxor C (pc := 43) dX4_attempt_43 ?_
      refine v_land C (pc := 44) dX4_attempt_44 ?_
      refine v_lstore_nN C (pc := 45) [(0, .ref (ad (10 + i0))), (1, .int p1), (2, .int p2)] hm dX4_attempt_45 rfl (by decide) rfl (fun y8 hm => ?_)
      refine v_aload_n C (pc := 46) 1 dX4_attempt_46 rfl rfl ?_
      refine gX4_35 C hi0 (pc := 47) dX4_attempt_47 ?_
      refine gX4_49 C (pc := 50) dX4_attempt_50 ?_
      refine v_iload_n C (pc := 53) 2 dX4_attempt_53 rfl rfl ?_
      refine ldX2_blocks C (pc := 54) hm dX4_attempt_54 (fun hb9 hm => ?_)
      refine v_aload_n C (pc := 55) 1 dX4_attempt_55 rfl rfl ?_
      refine gX4_35 C hi0 (pc := 56) dX4_attempt_56 ?_
      refine gX4_58 C (pc := 59) dX4_attempt_59 ?_
      refine v_aload_n C (pc := 62) 1 dX4_attempt_62 rfl rfl ?_
      refine gX4_9 C hi0 (pc := 63) dX4_attempt_63 ?_
      refine v_iload_n C (pc := 66) 2 dX4_attempt_66 rfl rfl ?_
      refine ldX4_placements C hi0 (pc := 67) hm dX4_attempt_67 (fun hm => ?_)
      refine v_iload_n C (pc := 68) 3 dX4_attempt_68 rfl rfl ?_
      refine v_lload_n C (pc := 69) 0 dX4_attempt_69 rfl rfl ?_
      refine kX4_87 C (Nat.le_of_ble_eq_true rfl) (Nat.le_of_ble_eq_true rfl) hb9 (pc := 70) hm (Nat.le_of_ble_eq_true rfl) dX4_attempt_70 (fun r10 S7 hm => ?_)
      refine v_istore C (pc := 73) [(5, .int r10), (3, .long y8), (0, .ref (ad (10 + i0))), (1, .int p1), (2, .int p2)] dX4_attempt_73 (by decide) rfl ?_
      refine v_iload C (pc := 75) 0 dX4_attempt_75 rfl ?_
      refine v_if_ge C (pc := 77) hm 82 dX4_attempt_77 rfl (fun hm => ?_) (fun hm => ?_)
      · refine v_aload_n C (pc := 82) 2 dX4_attempt_82 rfl rfl ?_
        refine v_aload_n C (pc := 83) 2 dX4_attempt_83 rfl rfl ?_
        refine gX4_22 C hi0 (pc := 84) dX4_attempt_84 ?_
        refine v_iload_n C (pc := 87) 3 dX4_attempt_87 rfl rfl ?_
        refine v_iload C (pc := 88) 0 dX4_attempt_88 rfl ?_
        refine kX4_91 C (Nat.le_of_ble_eq_true rfl) (Nat.le_of_ble_eq_true rfl) (pc := 90) hm (Nat.le_of_ble_eq_true rfl) dX4_attempt_90 (fun r11 S8 hm => ?_)
        refine pX4_32 C hi0 (pc := 93) hm dX4_attempt_93 (fun S9 hm => ?_)
        refine v_iconst C (pc := 96) 1 dX4_attempt_96 rfl ?_
        refine v_iload_n C (pc := 97) 3 dX4_attempt_97 rfl rfl ?_
        refine v_ishl C (pc := 98) dX4_attempt_98 ?_
        exact v_iret C hr hQ (pc := 99) hm dX4_attempt_99
      · refine v_iconst C (pc := 80) 0 dX4_attempt_80 rfl ?_
        exact v_iret C hr hQ (pc := 81) hm dX4_attempt_81
    · refine v_aload_n C (pc := 18) 0 dX4_attempt_18 rfl rfl ?_
      refine v_iload_n C (pc := 19) 1 dX4_attempt_19 rfl rfl ?_
      refine v_iload_n C (pc := 20) 2 dX4_attempt_20 rfl rfl ?_
      refine kX4_81 C (Nat.le_of_ble_eq_true rfl) (Nat.le_of_ble_eq_true rfl) hi0 (pc := 21) hm (Nat.le_of_ble_eq_true rfl) dX4_attempt_21 (fun r12 S10 hm => ?_)
      exact v_iret C hr hQ (pc := 24) hm dX4_attempt_24
  · refine v_iconst C (pc := 11) 0 dX4_attempt_11 rfl ?_
    exact v_iret C hr hQ (pc := 12) hm dX4_attempt_12
theorem mX4_attempt {l : Launch} {D : va_G} {ad : Nat → Nat} {cA : Nat → ClassId} (hD : ∀ S, va_D (xA ad) (xW ad cA S)) {N : Nat} {i0 : Nat} (hi0 : i0 < 2) {p1 : Int32} {p2 : Int32} {S : St} {r : Int32 × St} (hm : fX4_attempt N i0 p1 p2 S = some r) : Met l yX4_attempt (wsm yX4_attempt cX4_attempt 6 (some .int)) rmX4_attempt (va_Pc [.ref (ad (10 + i0)), .int p1, .int p2] (Pre D cA (xW ad cA) (xS ad) S)) (Qo D (xW ad cA) (xA ad) (some (.int r.1)) r.2) 0 0 (xA ad) := met_of [.ref (ad (10 + i0)), .int p1, .int p2] (by decide) (Nat.le_of_ble_eq_true rfl) hD (xS_mv ad) (xS_kp ad) (fun p e s m below meth c C hr => vX4_attempt C hr rfl (N := N) hi0 hm)
-- X5_forget
def rmX5_forget : Room := { frames := 0, cells := 0, slots := 0, locals := 0 }
def fX5_forget (N : Nat)  (S : St) : Option (Unit × St) := stp (sI S 32 0) fun S2 => some ((), S2)
set_option maxRecDepth 20000 in
theorem vX5_forget {p : Program} {l : Launch} {e : Env} {s : State} {m : MethodId} {args : Array Value} {below : List Frame} {meth : Method} {c : Code} {Q : State → Prop} {D : va_G} {ad : Nat → Nat} {cA : Nat → ClassId} (C : Ok p s m args c D cA (xW ad cA) (xA ad) (xS ad) RX5 cX5_forget 1) (hr : Rt meth none) {r : Unit × St} (hQ : Q = MQ below (Qo D (xW ad cA) (xA ad) (none) r.2) args s 0 0 (xA ad)) {N : Nat}  {S : St} (hm : fX5_forget N  S = some r) : V p l e rmX5_forget s m args below meth c Q D (xW ad cA) (xA ad) 1 S 0 [(0, .ref (ad 13))] [] := by
  unfold fX5_forget at hm
  refine v_aload_n C (pc := 0) 0 dX5_forget_0 rfl rfl ?_
  refine v_iconst C (pc := 1) 0 dX5_forget_1 rfl ?_
  refine pX5_39 C (pc := 2) rfl rfl hm dX5_forget_2 (fun S2 hm => ?_)
  exact v_vret C hr hQ (x := ()) (pc := 5) hm dX5_forget_5
theorem mX5_forget {l : Launch} {D : va_G} {ad : Nat → Nat} {cA : Nat → ClassId} (hD : ∀ S, va_D (xA ad) (xW ad cA S)) {N : Nat}  {S : St} {r : Unit × St} (hm : fX5_forget N  S = some r) : Met l yX5_forget (wsm yX5_forget cX5_forget 1 none) rmX5_forget (va_Pc [.ref (ad 13)] (Pre D cA (xW ad cA) (xS ad) S)) (Qo D (xW ad cA) (xA ad) (none) r.2) 0 0 (xA ad) := met_of [.ref (ad 13)] (by decide) (Nat.le_of_ble_eq_true rfl) hD (xS_mv ad) (xS_kp ad) (fun p e s m below meth c C hr => vX5_forget C hr rfl (N := N)  hm)
-- X5_freePlaceFor
def rmX5_freePlaceFor : Room := { frames := 0, cells := 0, slots := 0, locals := 0 }
def fX5_freePlaceFor_13b (N : Nat)  (k13 : Int64 → Int32 → Int32 → St → Option (Int32 × St)) (x1 : Int64) (x3 : Int32) (x4 : Int32) (S : St) : Option (Int32 × St) := if 2048 ≤ x4 then (some ((-1), S)) else (ck x3 2048 (nm (S.2.2.1 30 (Int32.toNatClampNeg x3)) fun y6 => if y6 = 0 then (some (x3, S)) else (ck (y6 - 1) 1200 (if (lg_cmp (S.2.2.2 12 (Int32.toNatClampNeg (y6 - 1))) x1) = 0 then (some ((-1), S)) else (nm ((x3 + 1) &&& 2047) fun y7 => k13 x1 y7 (x4 + 1) S)))))
def fX5_freePlaceFor_13 (N : Nat)  : Nat → Int64 → Int32 → Int32 → St → Option (Int32 × St)
  | 0 => fun _ _ _ _ => none
  | n + 1 => fun x1 x3 x4 S => fX5_freePlaceFor_13b N  (fX5_freePlaceFor_13 N  n) x1 x3 x4 S
set_option maxRecDepth 20000 in
theorem vX5_freePlaceFor_13b {p : Program} {l : Launch} {e : Env} {s : State} {m : MethodId} {args : Array Value} {below : List Frame} {meth : Method} {c : Code} {Q : State → Prop} {D : va_G} {ad : Nat → Nat} {cA : Nat → ClassId} (C : Ok p s m args c D cA (xW ad cA) (xA ad) (xS ad) RX5 cX5_freePlaceFor 6) (hr : Rt meth (some .int)) {r : Int32 × St} (hQ : Q = MQ below (Qo D (xW ad cA) (xA ad) (some (.int r.1)) r.2) args s 0 0 (xA ad)) {N : Nat}  {k13 : Int64 → Int32 → Int32 → St → Option (Int32 × St)} (hk13 : ∀ (x1 : Int64) (x3 : Int32) (x4 : Int32) (S : St), k13 x1 x3 x4 S = some r → V p l e rmX5_freePlaceFor s m args below meth c Q D (xW ad cA) (xA ad) 6 S 13 [(0, .ref (ad 13)), (1, .long x1), (3, .int x3), (4, .int x4)] []) {x1 : Int64} {x3 : Int32} {x4 : Int32}  {S : St} (hm : fX5_freePlaceFor_13b N  k13 x1 x3 x4 S = some r) : V p l e rmX5_freePlaceFor s m args below meth c Q D (xW ad cA) (xA ad) 6 S 13 [(0, .ref (ad 13)), (1, .long x1), (3, .int x3), (4, .int x4)] [] := by
  unfold fX5_freePlaceFor_13b at hm
  refine v_iload C (pc := 13) 3 dX5_freePlaceFor_13 rfl ?_
  refine v_sipush C (pc := 15) 2048 dX5_freePlaceFor_15 rfl ?_
  refine v_icmp_ge C (pc := 18) hm 66 dX5_freePlaceFor_18 rfl (fun hm => ?_) (fun hm => ?_)
  · refine v_iconst C (pc := 66) (-1) dX5_freePlaceFor_66 rfl ?_
    exact v_iret C hr hQ (pc := 67) hm dX5_freePlaceFor_67
  · refine v_aload_n C (pc := 21) 0 dX5_freePlaceFor_21 rfl rfl ?_
    refine gX5_26 C (pc := 22) dX5_freePlaceFor_22 ?_
    refine v_iload_n C (pc := 25) 2 dX5_freePlaceFor_25 rfl rfl ?_
    refine ldX5_table C (pc := 26) hm dX5_freePlaceFor_26 (fun hm => ?_)
    refine v_istoreN C (pc := 27) [(0, .ref (ad 13)), (1, .long x1), (3, .int x3), (4, .int x4)] hm dX5_freePlaceFor_27 (by decide) rfl (fun y6 hm => ?_)
    refine v_iload C (pc := 29) 0 dX5_freePlaceFor_29 rfl ?_
    refine v_if_ne C (pc := 31) hm 36 dX5_freePlaceFor_31 rfl (fun hm => ?_) (fun hm => ?_)
    · refine v_aload_n C (pc := 36) 1 dX5_freePlaceFor_36 rfl rfl ?_
      refine gX5_11 C (pc := 37) dX5_freePlaceFor_37 ?_
      refine v_iload C (pc := 40) 0 dX5_freePlaceFor_40 rfl ?_
      refine v_iconst C (pc := 42) 1 dX5_freePlaceFor_42 rfl ?_
      refine v_isub C (pc := 43) dX5_freePlaceFor_43 ?_
      refine ldX5_list C (pc := 44) hm dX5_freePlaceFor_44 (fun hm => ?_)
      refine v_lload_n C (pc := 45) 2 dX5_freePlaceFor_45 rfl rfl ?_
      refine v_lcmp C (pc := 46) dX5_freePlaceFor_46 ?_
      refine v_if_ne C (pc := 47) hm 52 dX5_freePlaceFor_47 rfl (fun hm => ?_) (fun hm => ?_)
      · refine v_iload_n C (pc := 52) 3 dX5_freePlaceFor_52 rfl rfl ?_
        refine v_iconst C (pc := 53) 1 dX5_freePlaceFor_53 rfl ?_
        refine v_iadd C (pc := 54) dX5_freePlaceFor_54 ?_
        refine v_sipush C (pc := 55) 2047 dX5_freePlaceFor_55 rfl ?_
        refine v_iand C (pc := 58) dX5_freePlaceFor_58 ?_
        refine v_istore_nN C (pc := 59) [(5, .int y6), (0, .ref (ad 13)), (1, .long x1), (4, .int x4)] hm dX5_freePlaceFor_59 rfl (by decide) rfl (fun y7 hm => ?_)
        refine v_iinc C (pc := 60) 1 4 [(4, .int (x4 + 1)), (3, .int y7), (5, .int y6), (0, .ref (ad 13)), (1, .long x1)] dX5_freePlaceFor_60 rfl rfl (by decide) rfl ?_
        refine v_goto C (pc := 63) 13 dX5_freePlaceFor_63 rfl ?_
        exact v_sub [3, 4, 1, 0] rfl (hk13 _ _ _ _ hm)
      · refine v_iconst C (pc := 50) (-1) dX5_freePlaceFor_50 rfl ?_
        exact v_iret C hr hQ (pc := 51) hm dX5_freePlaceFor_51
    · refine v_iload_n C (pc := 34) 3 dX5_freePlaceFor_34 rfl rfl ?_
      exact v_iret C hr hQ (pc := 35) hm dX5_freePlaceFor_35
theorem vX5_freePlaceFor_13 {p : Program} {l : Launch} {e : Env} {s : State} {m : MethodId} {args : Array Value} {below : List Frame} {meth : Method} {c : Code} {Q : State → Prop} {D : va_G} {ad : Nat → Nat} {cA : Nat → ClassId} (C : Ok p s m args c D cA (xW ad cA) (xA ad) (xS ad) RX5 cX5_freePlaceFor 6) (hr : Rt meth (some .int)) {r : Int32 × St} (hQ : Q = MQ below (Qo D (xW ad cA) (xA ad) (some (.int r.1)) r.2) args s 0 0 (xA ad)) {N : Nat}  (n : Nat) : ∀ (x1 : Int64) (x3 : Int32) (x4 : Int32) (S : St), fX5_freePlaceFor_13 N  n x1 x3 x4 S = some r → V p l e rmX5_freePlaceFor s m args below meth c Q D (xW ad cA) (xA ad) 6 S 13 [(0, .ref (ad 13)), (1, .long x1), (3, .int x3), (4, .int x4)] [] := by
  induction n with
  | zero => intro _ _ _ _  hm; exact absurd hm (by intro h; cases h)
  | succ n ih => intro _ _ _ _  hm; exact vX5_freePlaceFor_13b C hr hQ (N := N)   ih  hm
def fX5_freePlaceFor (N : Nat) (p1 : Int64) (S : St) : Option (Int32 × St) := nm (Int64.toInt32 (UInt64.toInt64 (Int64.toUInt64 (p1 * (-7046029254386353131)) >>> ((Int32.toInt64 53).toUInt64 &&& Int64.toUInt64 63)))) fun y8 => fX5_freePlaceFor_13 N N p1 y8 0 S
set_option maxRecDepth 20000 in
theorem vX5_freePlaceFor {p : Program} {l : Launch} {e : Env} {s : State} {m : MethodId} {args : Array Value} {below : List Frame} {meth : Method} {c : Code} {Q : State → Prop} {D : va_G} {ad : Nat → Nat} {cA : Nat → ClassId} (C : Ok p s m args c D cA (xW ad cA) (xA ad) (xS ad) RX5 cX5_freePlaceFor 6) (hr : Rt meth (some .int)) {r : Int32 × St} (hQ : Q = MQ below (Qo D (xW ad cA) (xA ad) (some (.int r.1)) r.2) args s 0 0 (xA ad)) {N : Nat} {p1 : Int64} {S : St} (hm : fX5_freePlaceFor N p1 S = some r) : V p l e rmX5_freePlaceFor s m args below meth c Q D (xW ad cA) (xA ad) 6 S 0 [(0, .ref (ad 13)), (1, .long p1)] [] := by
  unfold fX5_freePlaceFor at hm
  refine v_lload_n C (pc := 0) 1 dX5_freePlaceFor_0 rfl rfl ?_
  refine v_ldc2 C (pc := 1) dX5_freePlaceFor_1 clX5_103 ?_
  refine v_lmul C (pc := 4) dX5_freePlaceFor_4 ?_
  refine v_bipush C (pc := 5) 53 dX5_freePlaceFor_5 rfl ?_
  refine v_lushr C (pc := 7) dX5_freePlaceFor_7 ?_
  refine v_l2i C (pc := 8) dX5_freePlaceFor_8 ?_
  refine v_istore_nN C (pc := 9) [(0, .ref (ad 13)), (1, .long p1)] hm dX5_freePlaceFor_9 rfl (by decide) rfl (fun y8 hm => ?_)
  refine v_iconst C (pc := 10) 0 dX5_freePlaceFor_10 rfl ?_
  refine v_istore C (pc := 11) [(4, .int 0), (3, .int y8), (0, .ref (ad 13)), (1, .long p1)] dX5_freePlaceFor_11 (by decide) rfl ?_
  exact v_sub [2, 3, 1, 0] rfl (vX5_freePlaceFor_13 C hr hQ (N := N) N _ _ _ _ hm)
theorem mX5_freePlaceFor {l : Launch} {D : va_G} {ad : Nat → Nat} {cA : Nat → ClassId} (hD : ∀ S, va_D (xA ad) (xW ad cA S)) {N : Nat} {p1 : Int64} {S : St} {r : Int32 × St} (hm : fX5_freePlaceFor N p1 S = some r) : Met l yX5_freePlaceFor (wsm yX5_freePlaceFor cX5_freePlaceFor 6 (some .int)) rmX5_freePlaceFor (va_Pc [.ref (ad 13), .long p1] (Pre D cA (xW ad cA) (xS ad) S)) (Qo D (xW ad cA) (xA ad) (some (.int r.1)) r.2) 0 0 (xA ad) := met_of [.ref (ad 13), .long p1] (by decide) (Nat.le_of_ble_eq_true rfl) hD (xS_mv ad) (xS_kp ad) (fun p e s m below meth c C hr => vX5_freePlaceFor C hr rfl (N := N)  hm)
-- X5_append
def rmX5_append : Room := { frames := 0, cells := 0, slots := 0, locals := 0 }
def fX5_append (N : Nat) (p1 : Int32) (p2 : Int64) (p3 : Int32) (p4 : Int32) (S : St) : Option (Unit × St) := ck (S.1 30) 1200 (stp (sL S 12 (Int32.toNatClampNeg (S.1 30)) p2) fun S6 => ck (S6.1 30) 1200 (stp (sA S6 28 (Int32.toNatClampNeg (S6.1 30)) p3) fun S7 => ck (S7.1 30) 1200 (stp (sA S7 29 (Int32.toNatClampNeg (S7.1 30)) p4) fun S8 => stp (sI S8 30 ((S8.1 30) + 1)) fun S9 => ck p1 2048 (stp (sA S9 30 (Int32.toNatClampNeg p1) (S9.1 30)) fun S10 => some ((), S10)))))
set_option maxRecDepth 20000 in
theorem vX5_append {p : Program} {l : Launch} {e : Env} {s : State} {m : MethodId} {args : Array Value} {below : List Frame} {meth : Method} {c : Code} {Q : State → Prop} {D : va_G} {ad : Nat → Nat} {cA : Nat → ClassId} (C : Ok p s m args c D cA (xW ad cA) (xA ad) (xS ad) RX5 cX5_append 6) (hr : Rt meth none) {r : Unit × St} (hQ : Q = MQ below (Qo D (xW ad cA) (xA ad) (none) r.2) args s 0 0 (xA ad)) {N : Nat} {p1 : Int32} {p2 : Int64} {p3 : Int32} {p4 : Int32} {S : St} (hm : fX5_append N p1 p2 p3 p4 S = some r) : V p l e rmX5_append s m args below meth c Q D (xW ad cA) (xA ad) 6 S 0 [(0, .ref (ad 13)), (1, .int p1), (2, .long p2), (4, .int p3), (5, .int p4)] [] := by
  unfold fX5_append at hm
  refine v_aload_n C (pc := 0) 0 dX5_append_0 rfl rfl ?_
  refine gX5_11 C (pc := 1) dX5_append_1 ?_
  refine v_aload_n C (pc := 4) 0 dX5_append_4 rfl rfl ?_
  refine gX5_22 C (pc := 5) dX5_append_5 ?_
  refine v_lload_n C (pc := 8) 2 dX5_append_8 rfl rfl ?_
  refine stX5_list C (pc := 9) hm dX5_append_9 (fun S6 hm => ?_)
  refine v_aload_n C (pc := 10) 0 dX5_append_10 rfl rfl ?_
  refine gX5_15 C (pc := 11) dX5_append_11 ?_
  refine v_aload_n C (pc := 14) 0 dX5_append_14 rfl rfl ?_
  refine gX5_22 C (pc := 15) dX5_append_15 ?_
  refine v_iload C (pc := 18) 3 dX5_append_18 rfl ?_
  refine stX5_origins C (pc := 20) hm dX5_append_20 (fun S7 hm => ?_)
  refine v_aload_n C (pc := 21) 0 dX5_append_21 rfl rfl ?_
  refine gX5_19 C (pc := 22) dX5_append_22 ?_
  refine v_aload_n C (pc := 25) 0 dX5_append_25 rfl rfl ?_
  refine gX5_22 C (pc := 26) dX5_append_26 ?_
  refine v_iload C (pc := 29) 4 dX5_append_29 rfl ?_
  refine stX5_leadingMoves C (pc := 31) hm dX5_append_31 (fun S8 hm => ?_)
  refine v_aload_n C (pc := 32) 0 dX5_append_32 rfl rfl ?_
  refine v_dup C (pc := 33) dX5_append_33 rfl ?_
  refine gX5_22 C (pc := 34) dX5_append_34 ?_
  refine v_iconst C (pc := 37) 1 dX5_append_37 rfl ?_
  refine v_iadd C (pc := 38) dX5_append_38 ?_
  refine pX5_22 C (pc := 39) hm dX5_append_39 (fun S9 hm => ?_)
  refine v_aload_n C (pc := 42) 0 dX5_append_42 rfl rfl ?_
  refine gX5_26 C (pc := 43) dX5_append_43 ?_
  refine v_iload_n C (pc := 46) 1 dX5_append_46 rfl rfl ?_
  refine v_aload_n C (pc := 47) 0 dX5_append_47 rfl rfl ?_
  refine gX5_22 C (pc := 48) dX5_append_48 ?_
  refine stX5_table C (pc := 51) hm dX5_append_51 (fun S10 hm => ?_)
  exact v_vret C hr hQ (x := ()) (pc := 52) hm dX5_append_52
theorem mX5_append {l : Launch} {D : va_G} {ad : Nat → Nat} {cA : Nat → ClassId} (hD : ∀ S, va_D (xA ad) (xW ad cA S)) {N : Nat} {p1 : Int32} {p2 : Int64} {p3 : Int32} {p4 : Int32} {S : St} {r : Unit × St} (hm : fX5_append N p1 p2 p3 p4 S = some r) : Met l yX5_append (wsm yX5_append cX5_append 6 none) rmX5_append (va_Pc [.ref (ad 13), .int p1, .long p2, .int p3, .int p4] (Pre D cA (xW ad cA) (xS ad) S)) (Qo D (xW ad cA) (xA ad) (none) r.2) 0 0 (xA ad) := met_of [.ref (ad 13), .int p1, .long p2, .int p3, .int p4] (by decide) (Nat.le_of_ble_eq_true rfl) hD (xS_mv ad) (xS_kp ad) (fun p e s m below meth c C hr => vX5_append C hr rfl (N := N)  hm)
-- X5_begin
theorem kfX5_77_X5_table {p : Program} {l : Launch} {e : Env} {R : Room} {s : State} {m : MethodId} {args : Array Value} {below : List Frame} {meth : Method} {c : Code} {Q : State → Prop} {D : va_G} {ad : Nat → Nat} {cA : Nat → ClassId} {cc : ByteArray} {nL : Nat} {S : St} {pc : Nat} {lv : List (Nat × Value)} {st : List Value} {ρ : Type} {res : ρ} (C : Ok p s m args c D cA (xW ad cA) (xA ad) (xS ad) RX5 cc nL) (hfr : 0 + 1 ≤ R.frames) (hlo : 8 + (4 + 11) + 0 ≤ R.locals) {x : Int32} {E : St → Option ρ} (hm : stp (fA S 30 (fil 2048 x (S.2.2.1 30))) E = some res) (hcat : (st.map fun v => v.category).sum ≤ 8) (hd : decode cc pc = .ok (.invokestatic 77, 3)) (k : ∀ S, E S = some res → V p l e R s m args below meth c Q D (xW ad cA) (xA ad) nL S (pc + 3) lv st) : V p l e R s m args below meth c Q D (xW ad cA) (xA ad) nL S pc lv (.int x :: .ref (ad 58) :: st) := v_callS C (gm (i := 766) (by decide +kernel) rfl : Cond.methodLink RX5 77 yJ7_fill_53178 ∈ gw_tbl) infJ7_fill_53178 (rm2 := rmZ) ⟨rfl, rfl⟩ hfr hlo (met_fillI C.2.2.2.2.2.2.1 C.2.2.2.2.2.2.2.2.1 C.2.2.2.2.2.2.2.2.2 (by decide) (fun S => aX5_table ad cA S) (fun S g => wX5_table ad cA S g) S x) (As := [.ref (ad 58), .int x]) rfl rfl hcat hd (k _ hm)
theorem infX5_freePlaceFor : InfV yX5_freePlaceFor cX5_freePlaceFor 6 (some .int) 1 := ⟨⟨gm (i := 64) (by decide +kernel) rfl, gm (i := 770) (by decide +kernel) rfl, by decide +kernel⟩, gm (i := 769) (by decide +kernel) rfl, gm (i := 14) (by decide +kernel) rfl⟩
theorem kX5_83 {p : Program} {l : Launch} {e : Env} {R : Room} {s : State} {m : MethodId} {args : Array Value} {below : List Frame} {meth : Method} {c : Code} {Q : State → Prop} {D : va_G} {ad : Nat → Nat} {cA : Nat → ClassId} {cc : ByteArray} {nL : Nat} {S : St} {pc : Nat} {lv : List (Nat × Value)} {st : List Value} {ρ : Type} {res : ρ} (C : Ok p s m args c D cA (xW ad cA) (xA ad) (xS ad) RX5 cc nL) (hfr : rmX5_freePlaceFor.frames + 1 ≤ R.frames) (hlo : 8 + (6 + 11) + rmX5_freePlaceFor.locals ≤ R.locals) {N : Nat} {p1 : Int64} {E : Int32 → St → Option ρ} (hm : bd (fX5_freePlaceFor N p1 S) E = some res) (hcat : (st.map fun v => v.category).sum ≤ 8) (hd : decode cc pc = .ok (.invokevirtual 83, 3)) (k : ∀ r S, E r S = some res → V p l e R s m args below meth c Q D (xW ad cA) (xA ad) nL S (pc + 3) lv (.int r :: st)) : V p l e R s m args below meth c Q D (xW ad cA) (xA ad) nL S pc lv (.long p1 :: .ref (ad 13) :: st) := by
  obtain ⟨r, S1, h1, h2⟩ := bd_some hm
  exact v_callV C (gm (i := 767) (by decide +kernel) rfl : Cond.methodLink RX5 83 yX5_freePlaceFor ∈ gw_tbl) infX5_freePlaceFor (rm2 := rmX5_freePlaceFor) ⟨rfl, rfl⟩ hfr hlo (mX5_freePlaceFor C.2.2.2.2.2.2.1 h1) (As := [.long p1]) (oX5 ad cA S) rfl rfl rfl rfl hcat hd (k r S1 h2)
theorem infX5_append : InfV yX5_append cX5_append 6 none 4 := ⟨⟨gm (i := 64) (by decide +kernel) rfl, gm (i := 775) (by decide +kernel) rfl, by decide +kernel⟩, gm (i := 774) (by decide +kernel) rfl, gm (i := 15) (by decide +kernel) rfl⟩
theorem kX5_86 {p : Program} {l : Launch} {e : Env} {R : Room} {s : State} {m : MethodId} {args : Array Value} {below : List Frame} {meth : Method} {c : Code} {Q : State → Prop} {D : va_G} {ad : Nat → Nat} {cA : Nat → ClassId} {cc : ByteArray} {nL : Nat} {S : St} {pc : Nat} {lv : List (Nat × Value)} {st : List Value} {ρ : Type} {res : ρ} (C : Ok p s m args c D cA (xW ad cA) (xA ad) (xS ad) RX5 cc nL) (hfr : rmX5_append.frames + 1 ≤ R.frames) (hlo : 8 + (6 + 11) + rmX5_append.locals ≤ R.locals) {N : Nat} {p1 : Int32} {p2 : Int64} {p3 : Int32} {p4 : Int32} {E : Unit → St → Option ρ} (hm : bd (fX5_append N p1 p2 p3 p4 S) E = some res) (hcat : (st.map fun v => v.category).sum ≤ 8) (hd : decode cc pc = .ok (.invokevirtual 86, 3)) (k : ∀ r S, E r S = some res → V p l e R s m args below meth c Q D (xW ad cA) (xA ad) nL S (pc + 3) lv (st)) : V p l e R s m args below meth c Q D (xW ad cA) (xA ad) nL S pc lv (.int p4 :: .int p3 :: .long p2 :: .int p1 :: .ref (ad 13) :: st) := by
  obtain ⟨r, S1, h1, h2⟩ := bd_some hm
  exact v_callV C (gm (i := 772) (by decide +kernel) rfl : Cond.methodLink RX5 86 yX5_append ∈ gw_tbl) infX5_append (rm2 := rmX5_append) ⟨rfl, rfl⟩ hfr hlo (mX5_append C.2.2.2.2.2.2.1 h1) (As := [.int p1, .long p2, .int p3, .int p4]) (oX5 ad cA S) rfl rfl rfl rfl hcat hd (k r S1 h2)
def rmX5_begin : Room := { frames := 1, cells := 0, slots := 0, locals := 25 }
def fX5_begin (N : Nat) (p1 : Int64) (S : St) : Option (Unit × St) := stp (fA S 30 (fil 2048 0 (S.2.2.1 30))) fun S5 => stp (sI S5 30 0) fun S6 => bd (fX5_freePlaceFor N p1 S6) fun r3 S7 => bd (fX5_append N r3 p1 0 0 S7) fun r4 S8 => some ((), S8)
set_option maxRecDepth 20000 in
theorem vX5_begin {p : Program} {l : Launch} {e : Env} {s : State} {m : MethodId} {args : Array Value} {below : List Frame} {meth : Method} {c : Code} {Q : State → Prop} {D : va_G} {ad : Nat → Nat} {cA : Nat → ClassId} (C : Ok p s m args c D cA (xW ad cA) (xA ad) (xS ad) RX5 cX5_begin 3) (hr : Rt meth none) {r : Unit × St} (hQ : Q = MQ below (Qo D (xW ad cA) (xA ad) (none) r.2) args s 0 0 (xA ad)) {N : Nat} {p1 : Int64} {S : St} (hm : fX5_begin N p1 S = some r) : V p l e rmX5_begin s m args below meth c Q D (xW ad cA) (xA ad) 3 S 0 [(0, .ref (ad 13)), (1, .long p1)] [] := by
  unfold fX5_begin at hm
  refine v_aload_n C (pc := 0) 0 dX5_begin_0 rfl rfl ?_
  refine gX5_26 C (pc := 1) dX5_begin_1 ?_
  refine v_iconst C (pc := 4) 0 dX5_begin_4 rfl ?_
  refine kfX5_77_X5_table C (Nat.le_of_ble_eq_true rfl) (Nat.le_of_ble_eq_true rfl) (pc := 5) hm (Nat.le_of_ble_eq_true rfl) dX5_begin_5 (fun S5 hm => ?_)
  refine v_aload_n C (pc := 8) 0 dX5_begin_8 rfl rfl ?_
  refine v_iconst C (pc := 9) 0 dX5_begin_9 rfl ?_
  refine pX5_22 C (pc := 10) hm dX5_begin_10 (fun S6 hm => ?_)
  refine v_aload_n C (pc := 13) 0 dX5_begin_13 rfl rfl ?_
  refine v_aload_n C (pc := 14) 0 dX5_begin_14 rfl rfl ?_
  refine v_lload_n C (pc := 15) 1 dX5_begin_15 rfl rfl ?_
  refine kX5_83 C (Nat.le_of_ble_eq_true rfl) (Nat.le_of_ble_eq_true rfl) (pc := 16) hm (Nat.le_of_ble_eq_true rfl) dX5_begin_16 (fun r3 S7 hm => ?_)
  refine v_lload_n C (pc := 19) 1 dX5_begin_19 rfl rfl ?_
  refine v_iconst C (pc := 20) 0 dX5_begin_20 rfl ?_
  refine v_iconst C (pc := 21) 0 dX5_begin_21 rfl ?_
  refine kX5_86 C (Nat.le_of_ble_eq_true rfl) (Nat.le_of_ble_eq_true rfl) (pc := 22) hm (Nat.le_of_ble_eq_true rfl) dX5_begin_22 (fun r4 S8 hm => ?_)
  exact v_vret C hr hQ (x := ()) (pc := 25) hm dX5_begin_25
theorem mX5_begin {l : Launch} {D : va_G} {ad : Nat → Nat} {cA : Nat → ClassId} (hD : ∀ S, va_D (xA ad) (xW ad cA S)) {N : Nat} {p1 : Int64} {S : St} {r : Unit × St} (hm : fX5_begin N p1 S = some r) : Met l yX5_begin (wsm yX5_begin cX5_begin 3 none) rmX5_begin (va_Pc [.ref (ad 13), .long p1] (Pre D cA (xW ad cA) (xS ad) S)) (Qo D (xW ad cA) (xA ad) (none) r.2) 0 0 (xA ad) := met_of [.ref (ad 13), .long p1] (by decide) (Nat.le_of_ble_eq_true rfl) hD (xS_mv ad) (xS_kp ad) (fun p e s m below meth c C hr => vX5_begin C hr rfl (N := N)  hm)
-- X8_moveCode
def rmX8_moveCode : Room := { frames := 0, cells := 0, slots := 0, locals := 0 }
def fX8_moveCode (N : Nat) (p1 : Int32) (p2 : Int32) (S : St) : Option (Int32 × St) := some (((10 * p1) + p2), S)
set_option maxRecDepth 20000 in
theorem vX8_moveCode {p : Program} {l : Launch} {e : Env} {s : State} {m : MethodId} {args : Array Value} {below : List Frame} {meth : Method} {c : Code} {Q : State → Prop} {D : va_G} {ad : Nat → Nat} {cA : Nat → ClassId} (C : Ok p s m args c D cA (xW ad cA) (xA ad) (xS ad) RX8 cX8_moveCode 2) (hr : Rt meth (some .int)) {r : Int32 × St} (hQ : Q = MQ below (Qo D (xW ad cA) (xA ad) (some (.int r.1)) r.2) args s 0 0 (xA ad)) {N : Nat} {p1 : Int32} {p2 : Int32} {S : St} (hm : fX8_moveCode N p1 p2 S = some r) : V p l e rmX8_moveCode s m args below meth c Q D (xW ad cA) (xA ad) 2 S 0 [(0, .int p1), (1, .int p2)] [] := by
  unfold fX8_moveCode at hm
  refine v_bipush C (pc := 0) 10 dX8_moveCode_0 rfl ?_
  refine v_iload_n C (pc := 2) 0 dX8_moveCode_2 rfl rfl ?_
  refine v_imul C (pc := 3) dX8_moveCode_3 ?_
  refine v_iload_n C (pc := 4) 1 dX8_moveCode_4 rfl rfl ?_
  refine v_iadd C (pc := 5) dX8_moveCode_5 ?_
  exact v_iret C hr hQ (pc := 6) hm dX8_moveCode_6
theorem mX8_moveCode {l : Launch} {D : va_G} {ad : Nat → Nat} {cA : Nat → ClassId} (hD : ∀ S, va_D (xA ad) (xW ad cA S)) {N : Nat} {p1 : Int32} {p2 : Int32} {S : St} {r : Int32 × St} (hm : fX8_moveCode N p1 p2 S = some r) : Met l yX8_moveCode (wsm yX8_moveCode cX8_moveCode 2 (some .int)) rmX8_moveCode (va_Pc [.int p1, .int p2] (Pre D cA (xW ad cA) (xS ad) S)) (Qo D (xW ad cA) (xA ad) (some (.int r.1)) r.2) 0 0 (xA ad) := met_of [.int p1, .int p2] (by decide) (Nat.le_of_ble_eq_true rfl) hD (xS_mv ad) (xS_kp ad) (fun p e s m below meth c C hr => vX8_moveCode C hr rfl (N := N)  hm)
-- X5_spread
theorem infX4_attempt : InfV yX4_attempt cX4_attempt 6 (some .int) 2 := ⟨⟨gm (i := 62) (by decide +kernel) rfl, gm (i := 540) (by decide +kernel) rfl, by decide +kernel⟩, gm (i := 538) (by decide +kernel) rfl, gm (i := 539) (by decide +kernel) rfl⟩
theorem kX5_93 {p : Program} {l : Launch} {e : Env} {R : Room} {s : State} {m : MethodId} {args : Array Value} {below : List Frame} {meth : Method} {c : Code} {Q : State → Prop} {D : va_G} {ad : Nat → Nat} {cA : Nat → ClassId} {cc : ByteArray} {nL : Nat} {S : St} {pc : Nat} {lv : List (Nat × Value)} {st : List Value} {ρ : Type} {res : ρ} (C : Ok p s m args c D cA (xW ad cA) (xA ad) (xS ad) RX5 cc nL) (hfr : rmX4_attempt.frames + 1 ≤ R.frames) (hlo : 8 + (6 + 11) + rmX4_attempt.locals ≤ R.locals) {i : Nat} (hi : i < 2) {N : Nat} {p1 : Int32} {p2 : Int32} {E : Int32 → St → Option ρ} (hm : bd (fX4_attempt N i p1 p2 S) E = some res) (hcat : (st.map fun v => v.category).sum ≤ 8) (hd : decode cc pc = .ok (.invokevirtual 93, 3)) (k : ∀ r S, E r S = some res → V p l e R s m args below meth c Q D (xW ad cA) (xA ad) nL S (pc + 3) lv (.int r :: st)) : V p l e R s m args below meth c Q D (xW ad cA) (xA ad) nL S pc lv (.int p2 :: .int p1 :: .ref (ad (10 + i)) :: st) := by
  obtain ⟨r, S1, h1, h2⟩ := bd_some hm
  exact v_callV C (gm (i := 781) (by decide +kernel) rfl : Cond.methodLink RX5 93 yX4_attempt ∈ gw_tbl) infX4_attempt (rm2 := rmX4_attempt) ⟨rfl, rfl⟩ hfr hlo (mX4_attempt C.2.2.2.2.2.2.1 hi h1) (As := [.int p1, .int p2]) (oX4 ad cA i hi S) rfl rfl rfl rfl hcat hd (k r S1 h2)
theorem infX2_boundOf : InfV yX2_boundOf cX2_boundOf 6 (some .int) 1 := ⟨⟨gm (i := 57) (by decide +kernel) rfl, gm (i := 729) (by decide +kernel) rfl, by decide +kernel⟩, gm (i := 727) (by decide +kernel) rfl, gm (i := 728) (by decide +kernel) rfl⟩
theorem kX5_60 {p : Program} {l : Launch} {e : Env} {R : Room} {s : State} {m : MethodId} {args : Array Value} {below : List Frame} {meth : Method} {c : Code} {Q : State → Prop} {D : va_G} {ad : Nat → Nat} {cA : Nat → ClassId} {cc : ByteArray} {nL : Nat} {S : St} {pc : Nat} {lv : List (Nat × Value)} {st : List Value} {ρ : Type} {res : ρ} (C : Ok p s m args c D cA (xW ad cA) (xA ad) (xS ad) RX5 cc nL) (hfr : rmX2_boundOf.frames + 1 ≤ R.frames) (hlo : 8 + (6 + 11) + rmX2_boundOf.locals ≤ R.locals) {N : Nat} {p1 : Int64} {E : Int32 → St → Option ρ} (hm : bd (fX2_boundOf N p1 S) E = some res) (hcat : (st.map fun v => v.category).sum ≤ 8) (hd : decode cc pc = .ok (.invokevirtual 60, 3)) (k : ∀ r S, E r S = some res → V p l e R s m args below meth c Q D (xW ad cA) (xA ad) nL S (pc + 3) lv (.int r :: st)) : V p l e R s m args below meth c Q D (xW ad cA) (xA ad) nL S pc lv (.long p1 :: .ref (ad 2) :: st) := by
  obtain ⟨r, S1, h1, h2⟩ := bd_some hm
  exact v_callV C (gm (i := 761) (by decide +kernel) rfl : Cond.methodLink RX5 60 yX2_boundOf ∈ gw_tbl) infX2_boundOf (rm2 := rmX2_boundOf) ⟨rfl, rfl⟩ hfr hlo (mX2_boundOf C.2.2.2.2.2.2.1 h1) (As := [.long p1]) (oX2 ad cA S) rfl rfl rfl rfl hcat hd (k r S1 h2)
theorem infX8_moveCode : InfS yX8_moveCode cX8_moveCode 2 (some .int) 2 := ⟨⟨gm (i := 55) (by decide +kernel) rfl, gm (i := 587) (by decide +kernel) rfl, by decide +kernel⟩, gm (i := 586) (by decide +kernel) rfl⟩
theorem kX5_100 {p : Program} {l : Launch} {e : Env} {R : Room} {s : State} {m : MethodId} {args : Array Value} {below : List Frame} {meth : Method} {c : Code} {Q : State → Prop} {D : va_G} {ad : Nat → Nat} {cA : Nat → ClassId} {cc : ByteArray} {nL : Nat} {S : St} {pc : Nat} {lv : List (Nat × Value)} {st : List Value} {ρ : Type} {res : ρ} (C : Ok p s m args c D cA (xW ad cA) (xA ad) (xS ad) RX5 cc nL) (hfr : rmX8_moveCode.frames + 1 ≤ R.frames) (hlo : 8 + (2 + 11) + rmX8_moveCode.locals ≤ R.locals) {N : Nat} {p1 : Int32} {p2 : Int32} {E : Int32 → St → Option ρ} (hm : bd (fX8_moveCode N p1 p2 S) E = some res) (hcat : (st.map fun v => v.category).sum ≤ 8) (hd : decode cc pc = .ok (.invokestatic 100, 3)) (k : ∀ r S, E r S = some res → V p l e R s m args below meth c Q D (xW ad cA) (xA ad) nL S (pc + 3) lv (.int r :: st)) : V p l e R s m args below meth c Q D (xW ad cA) (xA ad) nL S pc lv (.int p2 :: .int p1 :: st) := by
  obtain ⟨r, S1, h1, h2⟩ := bd_some hm
  exact v_callSN C (C.2.2.2.2.2.2.2.1.2.2.2.2 _ (by decide +kernel) : va_Nw (Cond.methodLinkNest RX5 100 yX8_moveCode "BlockYard") s) infX8_moveCode (rm2 := rmX8_moveCode) ⟨rfl, rfl⟩ hfr hlo (mX8_moveCode C.2.2.2.2.2.2.1 h1) (As := [.int p1, .int p2]) rfl rfl hcat hd (k r S1 h2)
theorem infX4_stand : InfV yX4_stand cX4_stand 4 none 1 := ⟨⟨gm (i := 62) (by decide +kernel) rfl, gm (i := 520) (by decide +kernel) rfl, by decide +kernel⟩, gm (i := 518) (by decide +kernel) rfl, gm (i := 519) (by decide +kernel) rfl⟩
theorem kX5_90 {p : Program} {l : Launch} {e : Env} {R : Room} {s : State} {m : MethodId} {args : Array Value} {below : List Frame} {meth : Method} {c : Code} {Q : State → Prop} {D : va_G} {ad : Nat → Nat} {cA : Nat → ClassId} {cc : ByteArray} {nL : Nat} {S : St} {pc : Nat} {lv : List (Nat × Value)} {st : List Value} {ρ : Type} {res : ρ} (C : Ok p s m args c D cA (xW ad cA) (xA ad) (xS ad) RX5 cc nL) (hfr : rmX4_stand.frames + 1 ≤ R.frames) (hlo : 8 + (4 + 11) + rmX4_stand.locals ≤ R.locals) {i : Nat} (hi : i < 2) {N : Nat} {p1 : Int64} {E : Unit → St → Option ρ} (hm : bd (fX4_stand N i p1 S) E = some res) (hcat : (st.map fun v => v.category).sum ≤ 8) (hd : decode cc pc = .ok (.invokevirtual 90, 3)) (k : ∀ r S, E r S = some res → V p l e R s m args below meth c Q D (xW ad cA) (xA ad) nL S (pc + 3) lv (st)) : V p l e R s m args below meth c Q D (xW ad cA) (xA ad) nL S pc lv (.long p1 :: .ref (ad (10 + i)) :: st) := by
  obtain ⟨r, S1, h1, h2⟩ := bd_some hm
  exact v_callV C (gm (i := 780) (by decide +kernel) rfl : Cond.methodLink RX5 90 yX4_stand ∈ gw_tbl) infX4_stand (rm2 := rmX4_stand) ⟨rfl, rfl⟩ hfr hlo (mX4_stand C.2.2.2.2.2.2.1 hi h1) (As := [.long p1]) (oX4 ad cA i hi S) rfl rfl rfl rfl hcat hd (k r S1 h2)
def rmX5_spread : Room := { frames := 4, cells := 0, slots := 0, locals := 113 }
def fX5_spread_130 (N : Nat) (k15 : Int32 → Int32 → Int32 → St → Option (Int32 × St)) (k23 : Int32 → Int32 → Int32 → Int32 → St → Option (Int32 × St)) (x1 : Int32) (x2 : Int32) (x3 : Int32) (x4 : Int32) (S : St) : Option (Int32 × St) := k23 x1 x2 x3 (x4 + 1) S
set_option maxRecDepth 20000 in
theorem vX5_spread_130 {p : Program} {l : Launch} {e : Env} {s : State} {m : MethodId} {args : Array Value} {below : List Frame} {meth : Method} {c : Code} {Q : State → Prop} {D : va_G} {ad : Nat → Nat} {cA : Nat → ClassId} (C : Ok p s m args c D cA (xW ad cA) (xA ad) (xS ad) RX5 cX5_spread 9) (hr : Rt meth (some .int)) {r : Int32 × St} (hQ : Q = MQ below (Qo D (xW ad cA) (xA ad) (some (.int r.1)) r.2) args s 0 0 (xA ad)) {N : Nat} {k15 : Int32 → Int32 → Int32 → St → Option (Int32 × St)} (hk15 : ∀ (x1 : Int32) (x2 : Int32) (x3 : Int32) (S : St), k15 x1 x2 x3 S = some r → V p l e rmX5_spread s m args below meth c Q D (xW ad cA) (xA ad) 9 S 15 [(0, .ref (ad 13)), (1, .int x1), (2, .int x2), (3, .int x3)] []) {k23 : Int32 → Int32 → Int32 → Int32 → St → Option (Int32 × St)} (hk23 : ∀ (x1 : Int32) (x2 : Int32) (x3 : Int32) (x4 : Int32) (S : St), k23 x1 x2 x3 x4 S = some r → V p l e rmX5_spread s m args below meth c Q D (xW ad cA) (xA ad) 9 S 23 [(0, .ref (ad 13)), (1, .int x1), (2, .int x2), (3, .int x3), (4, .int x4)] []) {x1 : Int32} {x2 : Int32} {x3 : Int32} {x4 : Int32}  {S : St} (hm : fX5_spread_130 N k15 k23 x1 x2 x3 x4 S = some r) : V p l e rmX5_spread s m args below meth c Q D (xW ad cA) (xA ad) 9 S 130 [(0, .ref (ad 13)), (1, .int x1), (2, .int x2), (3, .int x3), (4, .int x4)] [] := by
  unfold fX5_spread_130 at hm
  refine v_iinc C (pc := 130) 1 4 [(4, .int (x4 + 1)), (0, .ref (ad 13)), (1, .int x1), (2, .int x2), (3, .int x3)] dX5_spread_130 rfl rfl (by decide) rfl ?_
  refine v_goto C (pc := 133) 23 dX5_spread_133 rfl ?_
  exact v_sub [1, 2, 3, 4, 0] rfl (hk23 _ _ _ _ _ hm)
def fX5_spread_80 (N : Nat) (k15 : Int32 → Int32 → Int32 → St → Option (Int32 × St)) (k23 : Int32 → Int32 → Int32 → Int32 → St → Option (Int32 × St)) (s0 : Int32) (x1 : Int32) (x2 : Int32) (x3 : Int32) (x4 : Int32) (x5 : Int64) (x7 : Int32) (S : St) : Option (Int32 × St) := if x7 < 0 then (fX5_spread_130 N k15 k23 x1 x2 x3 x4 S) else (if 0 ≤ s0 then (if (S.1 30) < 1200 then (bd (fX8_moveCode N x3 x4 S) fun r22 S18 => bd (fX5_append N x7 x5 x1 r22 S18) fun r23 S19 => if s0 = 0 then (some (1, S19)) else (fX5_spread_130 N k15 k23 x1 x2 x3 x4 S19)) else (some ((-6), S))) else (fX5_spread_130 N k15 k23 x1 x2 x3 x4 S))
set_option maxRecDepth 20000 in
theorem vX5_spread_80 {p : Program} {l : Launch} {e : Env} {s : State} {m : MethodId} {args : Array Value} {below : List Frame} {meth : Method} {c : Code} {Q : State → Prop} {D : va_G} {ad : Nat → Nat} {cA : Nat → ClassId} (C : Ok p s m args c D cA (xW ad cA) (xA ad) (xS ad) RX5 cX5_spread 9) (hr : Rt meth (some .int)) {r : Int32 × St} (hQ : Q = MQ below (Qo D (xW ad cA) (xA ad) (some (.int r.1)) r.2) args s 0 0 (xA ad)) {N : Nat} {k15 : Int32 → Int32 → Int32 → St → Option (Int32 × St)} (hk15 : ∀ (x1 : Int32) (x2 : Int32) (x3 : Int32) (S : St), k15 x1 x2 x3 S = some r → V p l e rmX5_spread s m args below meth c Q D (xW ad cA) (xA ad) 9 S 15 [(0, .ref (ad 13)), (1, .int x1), (2, .int x2), (3, .int x3)] []) {k23 : Int32 → Int32 → Int32 → Int32 → St → Option (Int32 × St)} (hk23 : ∀ (x1 : Int32) (x2 : Int32) (x3 : Int32) (x4 : Int32) (S : St), k23 x1 x2 x3 x4 S = some r → V p l e rmX5_spread s m args below meth c Q D (xW ad cA) (xA ad) 9 S 23 [(0, .ref (ad 13)), (1, .int x1), (2, .int x2), (3, .int x3), (4, .int x4)] []) {s0 : Int32} {x1 : Int32} {x2 : Int32} {x3 : Int32} {x4 : Int32} {x5 : Int64} {x7 : Int32}  {S : St} (hm : fX5_spread_80 N k15 k23 s0 x1 x2 x3 x4 x5 x7 S = some r) : V p l e rmX5_spread s m args below meth c Q D (xW ad cA) (xA ad) 9 S 80 [(0, .ref (ad 13)), (1, .int x1), (2, .int x2), (3, .int x3), (4, .int x4), (5, .long x5), (7, .int x7)] [.int s0] := by
  unfold fX5_spread_80 at hm
  refine v_istore C (pc := 80) [(8, .int s0), (0, .ref (ad 13)), (1, .int x1), (2, .int x2), (3, .int x3), (4, .int x4), (5, .long x5), (7, .int x7)] dX5_spread_80 (by decide) rfl ?_
  refine v_iload C (pc := 82) 7 dX5_spread_82 rfl ?_
  refine v_if_lt C (pc := 84) hm 130 dX5_spread_84 rfl (fun hm => ?_) (fun hm => ?_)
  · exact v_sub [1, 2, 3, 4, 5] rfl (vX5_spread_130 C hr hQ (N := N) hk15 hk23 hm)
  · refine v_iload C (pc := 87) 0 dX5_spread_87 rfl ?_
    refine v_if_ge C (pc := 89) hm 95 dX5_spread_89 rfl (fun hm => ?_) (fun hm => ?_)
    · refine v_aload_n C (pc := 95) 1 dX5_spread_95 rfl rfl ?_
      refine gX5_22 C (pc := 96) dX5_spread_96 ?_
      refine v_sipush C (pc := 99) 1200 dX5_spread_99 rfl ?_
      refine v_icmp_lt C (pc := 102) hm 108 dX5_spread_102 rfl (fun hm => ?_) (fun hm => ?_)
      · refine v_aload_n C (pc := 108) 1 dX5_spread_108 rfl rfl ?_
        refine v_iload C (pc := 109) 7 dX5_spread_109 rfl ?_
        refine v_lload C (pc := 111) 6 dX5_spread_111 rfl ?_
        refine v_iload_n C (pc := 113) 2 dX5_spread_113 rfl rfl ?_
        refine v_iload_n C (pc := 114) 4 dX5_spread_114 rfl rfl ?_
        refine v_iload C (pc := 115) 5 dX5_spread_115 rfl ?_
        refine kX5_100 C (Nat.le_of_ble_eq_true rfl) (Nat.le_of_ble_eq_true rfl) (pc := 117) hm (Nat.le_of_ble_eq_true rfl) dX5_spread_117 (fun r22 S18 hm => ?_)
        refine kX5_86 C (Nat.le_of_ble_eq_true rfl) (Nat.le_of_ble_eq_true rfl) (pc := 120) hm (Nat.le_of_ble_eq_true rfl) dX5_spread_120 (fun r23 S19 hm => ?_)
        refine v_iload C (pc := 123) 0 dX5_spread_123 rfl ?_
        refine v_if_ne C (pc := 125) hm 130 dX5_spread_125 rfl (fun hm => ?_) (fun hm => ?_)
        · exact v_sub [1, 2, 3, 4, 5] rfl (vX5_spread_130 C hr hQ (N := N) hk15 hk23 hm)
        · refine v_iconst C (pc := 128) 1 dX5_spread_128 rfl ?_
          exact v_iret C hr hQ (pc := 129) hm dX5_spread_129
      · refine v_bipush C (pc := 105) (-6) dX5_spread_105 rfl ?_
        exact v_iret C hr hQ (pc := 107) hm dX5_spread_107
    · refine v_goto C (pc := 92) 130 dX5_spread_92 rfl ?_
      exact v_sub [1, 2, 3, 4, 5] rfl (vX5_spread_130 C hr hQ (N := N) hk15 hk23 hm)
def fX5_spread_23b (N : Nat) (k15 : Int32 → Int32 → Int32 → St → Option (Int32 × St)) (k23 : Int32 → Int32 → Int32 → Int32 → St → Option (Int32 × St)) (x1 : Int32) (x2 : Int32) (x3 : Int32) (x4 : Int32) (S : St) : Option (Int32 × St) := if 6 ≤ x4 then (k15 x1 x2 (x3 + 1) S) else (bd (fX4_attempt N 1 x3 x4 S) fun r18 S15 => if r18 = 0 then (fX5_spread_130 N k15 k23 x1 x2 x3 x4 S15) else (nm (S15.2.1 9) fun y19 => bd (fX5_freePlaceFor N y19 S15) fun r20 S16 => if x2 = 0 then (fX5_spread_80 N k15 k23 1 x1 x2 x3 x4 y19 r20 S16) else (bd (fX2_boundOf N y19 S16) fun r21 S17 => fX5_spread_80 N k15 k23 r21 x1 x2 x3 x4 y19 r20 S17)))
def fX5_spread_23 (N : Nat) (k15 : Int32 → Int32 → Int32 → St → Option (Int32 × St)) : Nat → Int32 → Int32 → Int32 → Int32 → St → Option (Int32 × St)
  | 0 => fun _ _ _ _ _ => none
  | n + 1 => fun x1 x2 x3 x4 S => fX5_spread_23b N k15 (fX5_spread_23 N k15 n) x1 x2 x3 x4 S
set_option maxRecDepth 20000 in
theorem vX5_spread_23b {p : Program} {l : Launch} {e : Env} {s : State} {m : MethodId} {args : Array Value} {below : List Frame} {meth : Method} {c : Code} {Q : State → Prop} {D : va_G} {ad : Nat → Nat} {cA : Nat → ClassId} (C : Ok p s m args c D cA (xW ad cA) (xA ad) (xS ad) RX5 cX5_spread 9) (hr : Rt meth (some .int)) {r : Int32 × St} (hQ : Q = MQ below (Qo D (xW ad cA) (xA ad) (some (.int r.1)) r.2) args s 0 0 (xA ad)) {N : Nat} {k15 : Int32 → Int32 → Int32 → St → Option (Int32 × St)} (hk15 : ∀ (x1 : Int32) (x2 : Int32) (x3 : Int32) (S : St), k15 x1 x2 x3 S = some r → V p l e rmX5_spread s m args below meth c Q D (xW ad cA) (xA ad) 9 S 15 [(0, .ref (ad 13)), (1, .int x1), (2, .int x2), (3, .int x3)] []) {k23 : Int32 → Int32 → Int32 → Int32 → St → Option (Int32 × St)} (hk23 : ∀ (x1 : Int32) (x2 : Int32) (x3 : Int32) (x4 : Int32) (S : St), k23 x1 x2 x3 x4 S = some r → V p l e rmX5_spread s m args below meth c Q D (xW ad cA) (xA ad) 9 S 23 [(0, .ref (ad 13)), (1, .int x1), (2, .int x2), (3, .int x3), (4, .int x4)] []) {x1 : Int32} {x2 : Int32} {x3 : Int32} {x4 : Int32}  {S : St} (hm : fX5_spread_23b N k15 k23 x1 x2 x3 x4 S = some r) : V p l e rmX5_spread s m args below meth c Q D (xW ad cA) (xA ad) 9 S 23 [(0, .ref (ad 13)), (1, .int x1), (2, .int x2), (3, .int x3), (4, .int x4)] [] := by
  unfold fX5_spread_23b at hm
  refine v_iload C (pc := 23) 4 dX5_spread_23 rfl ?_
  refine v_bipush C (pc := 25) 6 dX5_spread_25 rfl ?_
  refine v_icmp_ge C (pc := 27) hm 136 dX5_spread_27 rfl (fun hm => ?_) (fun hm => ?_)
  · refine v_iinc C (pc := 136) 1 3 [(3, .int (x3 + 1)), (0, .ref (ad 13)), (1, .int x1), (2, .int x2), (4, .int x4)] dX5_spread_136 rfl rfl (by decide) rfl ?_
    refine v_goto C (pc := 139) 15 dX5_spread_139 rfl ?_
    exact v_sub [1, 2, 3, 0] rfl (hk15 _ _ _ _ hm)
  · refine v_aload_n C (pc := 30) 0 dX5_spread_30 rfl rfl ?_
    refine gX5_52 C (pc := 31) dX5_spread_31 ?_
    refine v_iload_n C (pc := 34) 3 dX5_spread_34 rfl rfl ?_
    refine v_iload C (pc := 35) 4 dX5_spread_35 rfl ?_
    refine kX5_93 C (Nat.le_of_ble_eq_true rfl) (Nat.le_of_ble_eq_true rfl) (i := 1) (by decide) (pc := 37) hm (Nat.le_of_ble_eq_true rfl) dX5_spread_37 (fun r18 S15 hm => ?_)
    refine v_if_ne C (pc := 40) hm 46 dX5_spread_40 rfl (fun hm => ?_) (fun hm => ?_)
    · refine v_aload_n C (pc := 46) 0 dX5_spread_46 rfl rfl ?_
      refine gX5_52 C (pc := 47) dX5_spread_47 ?_
      refine gX5_97 C (i := 1) (by decide) (pc := 50) dX5_spread_50 ?_
      refine v_lstoreN C (pc := 53) [(0, .ref (ad 13)), (1, .int x1), (2, .int x2), (3, .int x3), (4, .int x4)] hm dX5_spread_53 (by decide) rfl (fun y19 hm => ?_)
      refine v_aload_n C (pc := 55) 1 dX5_spread_55 rfl rfl ?_
      refine v_lload C (pc := 56) 0 dX5_spread_56 rfl ?_
      refine kX5_83 C (Nat.le_of_ble_eq_true rfl) (Nat.le_of_ble_eq_true rfl) (pc := 58) hm (Nat.le_of_ble_eq_true rfl) dX5_spread_58 (fun r20 S16 hm => ?_)
      refine v_istore C (pc := 61) [(7, .int r20), (5, .long y19), (0, .ref (ad 13)), (1, .int x1), (2, .int x2), (3, .int x3), (4, .int x4)] dX5_spread_61 (by decide) rfl ?_
      refine v_iload_n C (pc := 63) 4 dX5_spread_63 rfl rfl ?_
      refine v_if_eq C (pc := 64) hm 79 dX5_spread_64 rfl (fun hm => ?_) (fun hm => ?_)
      · refine v_iconst C (pc := 79) 1 dX5_spread_79 rfl ?_
        exact v_sub [2, 3, 4, 5, 6, 1, 0] rfl (vX5_spread_80 C hr hQ (N := N) hk15 hk23 hm)
      · refine v_aload_n C (pc := 67) 2 dX5_spread_67 rfl rfl ?_
        refine gX5_43 C (pc := 68) dX5_spread_68 ?_
        refine v_lload C (pc := 71) 1 dX5_spread_71 rfl ?_
        refine kX5_60 C (Nat.le_of_ble_eq_true rfl) (Nat.le_of_ble_eq_true rfl) (pc := 73) hm (Nat.le_of_ble_eq_true rfl) dX5_spread_73 (fun r21 S17 hm => ?_)
        refine v_goto C (pc := 76) 80 dX5_spread_76 rfl ?_
        exact v_sub [2, 3, 4, 5, 6, 1, 0] rfl (vX5_spread_80 C hr hQ (N := N) hk15 hk23 hm)
    · refine v_goto C (pc := 43) 130 dX5_spread_43 rfl ?_
      exact (vX5_spread_130 C hr hQ (N := N) hk15 hk23 hm)
theorem vX5_spread_23 {p : Program} {l : Launch} {e : Env} {s : State} {m : MethodId} {args : Array Value} {below : List Frame} {meth : Method} {c : Code} {Q : State → Prop} {D : va_G} {ad : Nat → Nat} {cA : Nat → ClassId} (C : Ok p s m args c D cA (xW ad cA) (xA ad) (xS ad) RX5 cX5_spread 9) (hr : Rt meth (some .int)) {r : Int32 × St} (hQ : Q = MQ below (Qo D (xW ad cA) (xA ad) (some (.int r.1)) r.2) args s 0 0 (xA ad)) {N : Nat} {k15 : Int32 → Int32 → Int32 → St → Option (Int32 × St)} (hk15 : ∀ (x1 : Int32) (x2 : Int32) (x3 : Int32) (S : St), k15 x1 x2 x3 S = some r → V p l e rmX5_spread s m args below meth c Q D (xW ad cA) (xA ad) 9 S 15 [(0, .ref (ad 13)), (1, .int x1), (2, .int x2), (3, .int x3)] []) (n : Nat) : ∀ (x1 : Int32) (x2 : Int32) (x3 : Int32) (x4 : Int32) (S : St), fX5_spread_23 N k15 n x1 x2 x3 x4 S = some r → V p l e rmX5_spread s m args below meth c Q D (xW ad cA) (xA ad) 9 S 23 [(0, .ref (ad 13)), (1, .int x1), (2, .int x2), (3, .int x3), (4, .int x4)] [] := by
  induction n with
  | zero => intro _ _ _ _ _  hm; exact absurd hm (by intro h; cases h)
  | succ n ih => intro _ _ _ _ _  hm; exact vX5_spread_23b C hr hQ (N := N)  hk15 ih  hm
def fX5_spread_15b (N : Nat)  (k15 : Int32 → Int32 → Int32 → St → Option (Int32 × St)) (x1 : Int32) (x2 : Int32) (x3 : Int32) (S : St) : Option (Int32 × St) := if 5 ≤ x3 then (some (0, S)) else (fX5_spread_23 N k15 N x1 x2 x3 0 S)
def fX5_spread_15 (N : Nat)  : Nat → Int32 → Int32 → Int32 → St → Option (Int32 × St)
  | 0 => fun _ _ _ _ => none
  | n + 1 => fun x1 x2 x3 S => fX5_spread_15b N  (fX5_spread_15 N  n) x1 x2 x3 S
set_option maxRecDepth 20000 in
theorem vX5_spread_15b {p : Program} {l : Launch} {e : Env} {s : State} {m : MethodId} {args : Array Value} {below : List Frame} {meth : Method} {c : Code} {Q : State → Prop} {D : va_G} {ad : Nat → Nat} {cA : Nat → ClassId} (C : Ok p s m args c D cA (xW ad cA) (xA ad) (xS ad) RX5 cX5_spread 9) (hr : Rt meth (some .int)) {r : Int32 × St} (hQ : Q = MQ below (Qo D (xW ad cA) (xA ad) (some (.int r.1)) r.2) args s 0 0 (xA ad)) {N : Nat}  {k15 : Int32 → Int32 → Int32 → St → Option (Int32 × St)} (hk15 : ∀ (x1 : Int32) (x2 : Int32) (x3 : Int32) (S : St), k15 x1 x2 x3 S = some r → V p l e rmX5_spread s m args below meth c Q D (xW ad cA) (xA ad) 9 S 15 [(0, .ref (ad 13)), (1, .int x1), (2, .int x2), (3, .int x3)] []) {x1 : Int32} {x2 : Int32} {x3 : Int32}  {S : St} (hm : fX5_spread_15b N  k15 x1 x2 x3 S = some r) : V p l e rmX5_spread s m args below meth c Q D (xW ad cA) (xA ad) 9 S 15 [(0, .ref (ad 13)), (1, .int x1), (2, .int x2), (3, .int x3)] [] := by
  unfold fX5_spread_15b at hm
  refine v_iload_n C (pc := 15) 3 dX5_spread_15 rfl rfl ?_
  refine v_iconst C (pc := 16) 5 dX5_spread_16 rfl ?_
  refine v_icmp_ge C (pc := 17) hm 142 dX5_spread_17 rfl (fun hm => ?_) (fun hm => ?_)
  · refine v_iconst C (pc := 142) 0 dX5_spread_142 rfl ?_
    exact v_iret C hr hQ (pc := 143) hm dX5_spread_143
  · refine v_iconst C (pc := 20) 0 dX5_spread_20 rfl ?_
    refine v_istore C (pc := 21) [(4, .int 0), (0, .ref (ad 13)), (1, .int x1), (2, .int x2), (3, .int x3)] dX5_spread_21 (by decide) rfl ?_
    exact v_sub [1, 2, 3, 4, 0] rfl (vX5_spread_23 C hr hQ (N := N) hk15 N _ _ _ _ _ hm)
theorem vX5_spread_15 {p : Program} {l : Launch} {e : Env} {s : State} {m : MethodId} {args : Array Value} {below : List Frame} {meth : Method} {c : Code} {Q : State → Prop} {D : va_G} {ad : Nat → Nat} {cA : Nat → ClassId} (C : Ok p s m args c D cA (xW ad cA) (xA ad) (xS ad) RX5 cX5_spread 9) (hr : Rt meth (some .int)) {r : Int32 × St} (hQ : Q = MQ below (Qo D (xW ad cA) (xA ad) (some (.int r.1)) r.2) args s 0 0 (xA ad)) {N : Nat}  (n : Nat) : ∀ (x1 : Int32) (x2 : Int32) (x3 : Int32) (S : St), fX5_spread_15 N  n x1 x2 x3 S = some r → V p l e rmX5_spread s m args below meth c Q D (xW ad cA) (xA ad) 9 S 15 [(0, .ref (ad 13)), (1, .int x1), (2, .int x2), (3, .int x3)] [] := by
  induction n with
  | zero => intro _ _ _ _  hm; exact absurd hm (by intro h; cases h)
  | succ n ih => intro _ _ _ _  hm; exact vX5_spread_15b C hr hQ (N := N)   ih  hm
def fX5_spread (N : Nat) (p1 : Int32) (p2 : Int32) (S : St) : Option (Int32 × St) := ck p1 1200 (bd (fX4_stand N 1 (S.2.2.2 12 (Int32.toNatClampNeg p1)) S) fun r24 S20 => fX5_spread_15 N N p1 p2 0 S20)
set_option maxRecDepth 20000 in
theorem vX5_spread {p : Program} {l : Launch} {e : Env} {s : State} {m : MethodId} {args : Array Value} {below : List Frame} {meth : Method} {c : Code} {Q : State → Prop} {D : va_G} {ad : Nat → Nat} {cA : Nat → ClassId} (C : Ok p s m args c D cA (xW ad cA) (xA ad) (xS ad) RX5 cX5_spread 9) (hr : Rt meth (some .int)) {r : Int32 × St} (hQ : Q = MQ below (Qo D (xW ad cA) (xA ad) (some (.int r.1)) r.2) args s 0 0 (xA ad)) {N : Nat} {p1 : Int32} {p2 : Int32} {S : St} (hm : fX5_spread N p1 p2 S = some r) : V p l e rmX5_spread s m args below meth c Q D (xW ad cA) (xA ad) 9 S 0 [(0, .ref (ad 13)), (1, .int p1), (2, .int p2)] [] := by
  unfold fX5_spread at hm
  refine v_aload_n C (pc := 0) 0 dX5_spread_0 rfl rfl ?_
  refine gX5_52 C (pc := 1) dX5_spread_1 ?_
  refine v_aload_n C (pc := 4) 0 dX5_spread_4 rfl rfl ?_
  refine gX5_11 C (pc := 5) dX5_spread_5 ?_
  refine v_iload_n C (pc := 8) 1 dX5_spread_8 rfl rfl ?_
  refine ldX5_list C (pc := 9) hm dX5_spread_9 (fun hm => ?_)
  refine kX5_90 C (Nat.le_of_ble_eq_true rfl) (Nat.le_of_ble_eq_true rfl) (i := 1) (by decide) (pc := 10) hm (Nat.le_of_ble_eq_true rfl) dX5_spread_10 (fun r24 S20 hm => ?_)
  refine v_iconst C (pc := 13) 0 dX5_spread_13 rfl ?_
  refine v_istore_n C (pc := 14) [(3, .int 0), (0, .ref (ad 13)), (1, .int p1), (2, .int p2)] dX5_spread_14 rfl (by decide) rfl ?_
  exact v_sub [1, 2, 3, 0] rfl (vX5_spread_15 C hr hQ (N := N) N _ _ _ _ hm)
theorem mX5_spread {l : Launch} {D : va_G} {ad : Nat → Nat} {cA : Nat → ClassId} (hD : ∀ S, va_D (xA ad) (xW ad cA S)) {N : Nat} {p1 : Int32} {p2 : Int32} {S : St} {r : Int32 × St} (hm : fX5_spread N p1 p2 S = some r) : Met l yX5_spread (wsm yX5_spread cX5_spread 9 (some .int)) rmX5_spread (va_Pc [.ref (ad 13), .int p1, .int p2] (Pre D cA (xW ad cA) (xS ad) S)) (Qo D (xW ad cA) (xA ad) (some (.int r.1)) r.2) 0 0 (xA ad) := met_of [.ref (ad 13), .int p1, .int p2] (by decide) (Nat.le_of_ble_eq_true rfl) hD (xS_mv ad) (xS_kp ad) (fun p e s m below meth c C hr => vX5_spread C hr rfl (N := N)  hm)
-- X5_traceSolution
def rmX5_traceSolution : Room := { frames := 0, cells := 0, slots := 0, locals := 0 }
def fX5_traceSolution_49b (N : Nat)  (k49 : Int32 → Int32 → Int32 → St → Option (Int32 × St)) (x1 : Int32) (x2 : Int32) (x3 : Int32) (S : St) : Option (Int32 × St) := if x3 < 0 then (some (x1, S)) else (ck x2 1200 (ck x3 1200 (stp (sA S 31 (Int32.toNatClampNeg x3) (S.2.2.1 29 (Int32.toNatClampNeg x2))) fun S2 => ck x2 1200 (nm (S2.2.2.1 28 (Int32.toNatClampNeg x2)) fun y10 => k49 x1 y10 (x3 + (-1)) S2))))
def fX5_traceSolution_49 (N : Nat)  : Nat → Int32 → Int32 → Int32 → St → Option (Int32 × St)
  | 0 => fun _ _ _ _ => none
  | n + 1 => fun x1 x2 x3 S => fX5_traceSolution_49b N  (fX5_traceSolution_49 N  n) x1 x2 x3 S
set_option maxRecDepth 20000 in
theorem vX5_traceSolution_49b {p : Program} {l : Launch} {e : Env} {s : State} {m : MethodId} {args : Array Value} {below : List Frame} {meth : Method} {c : Code} {Q : State → Prop} {D : va_G} {ad : Nat → Nat} {cA : Nat → ClassId} (C : Ok p s m args c D cA (xW ad cA) (xA ad) (xS ad) RX5 cX5_traceSolution 4) (hr : Rt meth (some .int)) {r : Int32 × St} (hQ : Q = MQ below (Qo D (xW ad cA) (xA ad) (some (.int r.1)) r.2) args s 0 0 (xA ad)) {N : Nat}  {k49 : Int32 → Int32 → Int32 → St → Option (Int32 × St)} (hk49 : ∀ (x1 : Int32) (x2 : Int32) (x3 : Int32) (S : St), k49 x1 x2 x3 S = some r → V p l e rmX5_traceSolution s m args below meth c Q D (xW ad cA) (xA ad) 4 S 49 [(0, .ref (ad 13)), (1, .int x1), (2, .int x2), (3, .int x3)] []) {x1 : Int32} {x2 : Int32} {x3 : Int32}  {S : St} (hm : fX5_traceSolution_49b N  k49 x1 x2 x3 S = some r) : V p l e rmX5_traceSolution s m args below meth c Q D (xW ad cA) (xA ad) 4 S 49 [(0, .ref (ad 13)), (1, .int x1), (2, .int x2), (3, .int x3)] [] := by
  unfold fX5_traceSolution_49b at hm
  refine v_iload_n C (pc := 49) 3 dX5_traceSolution_49 rfl rfl ?_
  refine v_if_lt C (pc := 50) hm 78 dX5_traceSolution_50 rfl (fun hm => ?_) (fun hm => ?_)
  · refine v_iload_n C (pc := 78) 1 dX5_traceSolution_78 rfl rfl ?_
    exact v_iret C hr hQ (pc := 79) hm dX5_traceSolution_79
  · refine v_aload_n C (pc := 53) 0 dX5_traceSolution_53 rfl rfl ?_
    refine gX5_29 C (pc := 54) dX5_traceSolution_54 ?_
    refine v_iload_n C (pc := 57) 3 dX5_traceSolution_57 rfl rfl ?_
    refine v_aload_n C (pc := 58) 0 dX5_traceSolution_58 rfl rfl ?_
    refine gX5_19 C (pc := 59) dX5_traceSolution_59 ?_
    refine v_iload_n C (pc := 62) 2 dX5_traceSolution_62 rfl rfl ?_
    refine ldX5_leadingMoves C (pc := 63) hm dX5_traceSolution_63 (fun hm => ?_)
    refine stX5_solutionMoves C (pc := 64) hm dX5_traceSolution_64 (fun S2 hm => ?_)
    refine v_aload_n C (pc := 65) 0 dX5_traceSolution_65 rfl rfl ?_
    refine gX5_15 C (pc := 66) dX5_traceSolution_66 ?_
    refine v_iload_n C (pc := 69) 2 dX5_traceSolution_69 rfl rfl ?_
    refine ldX5_origins C (pc := 70) hm dX5_traceSolution_70 (fun hm => ?_)
    refine v_istore_nN C (pc := 71) [(0, .ref (ad 13)), (1, .int x1), (3, .int x3)] hm dX5_traceSolution_71 rfl (by decide) rfl (fun y10 hm => ?_)
    refine v_iinc C (pc := 72) (-1) 3 [(3, .int (x3 + (-1))), (2, .int y10), (0, .ref (ad 13)), (1, .int x1)] dX5_traceSolution_72 rfl rfl (by decide) rfl ?_
    refine v_goto C (pc := 75) 49 dX5_traceSolution_75 rfl ?_
    exact v_sub [2, 3, 1, 0] rfl (hk49 _ _ _ _ hm)
theorem vX5_traceSolution_49 {p : Program} {l : Launch} {e : Env} {s : State} {m : MethodId} {args : Array Value} {below : List Frame} {meth : Method} {c : Code} {Q : State → Prop} {D : va_G} {ad : Nat → Nat} {cA : Nat → ClassId} (C : Ok p s m args c D cA (xW ad cA) (xA ad) (xS ad) RX5 cX5_traceSolution 4) (hr : Rt meth (some .int)) {r : Int32 × St} (hQ : Q = MQ below (Qo D (xW ad cA) (xA ad) (some (.int r.1)) r.2) args s 0 0 (xA ad)) {N : Nat}  (n : Nat) : ∀ (x1 : Int32) (x2 : Int32) (x3 : Int32) (S : St), fX5_traceSolution_49 N  n x1 x2 x3 S = some r → V p l e rmX5_traceSolution s m args below meth c Q D (xW ad cA) (xA ad) 4 S 49 [(0, .ref (ad 13)), (1, .int x1), (2, .int x2), (3, .int x3)] [] := by
  induction n with
  | zero => intro _ _ _ _  hm; exact absurd hm (by intro h; cases h)
  | succ n ih => intro _ _ _ _  hm; exact vX5_traceSolution_49b C hr hQ (N := N)   ih  hm
def fX5_traceSolution_38 (N : Nat)  (x1 : Int32) (S : St) : Option (Int32 × St) := nm ((S.1 30) - 1) fun y8 => nm (x1 - 1) fun y9 => fX5_traceSolution_49 N N x1 y8 y9 S
set_option maxRecDepth 20000 in
theorem vX5_traceSolution_38 {p : Program} {l : Launch} {e : Env} {s : State} {m : MethodId} {args : Array Value} {below : List Frame} {meth : Method} {c : Code} {Q : State → Prop} {D : va_G} {ad : Nat → Nat} {cA : Nat → ClassId} (C : Ok p s m args c D cA (xW ad cA) (xA ad) (xS ad) RX5 cX5_traceSolution 4) (hr : Rt meth (some .int)) {r : Int32 × St} (hQ : Q = MQ below (Qo D (xW ad cA) (xA ad) (some (.int r.1)) r.2) args s 0 0 (xA ad)) {N : Nat}  {x1 : Int32}  {S : St} (hm : fX5_traceSolution_38 N  x1 S = some r) : V p l e rmX5_traceSolution s m args below meth c Q D (xW ad cA) (xA ad) 4 S 38 [(0, .ref (ad 13)), (1, .int x1)] [] := by
  unfold fX5_traceSolution_38 at hm
  refine v_aload_n C (pc := 38) 0 dX5_traceSolution_38 rfl rfl ?_
  refine gX5_22 C (pc := 39) dX5_traceSolution_39 ?_
  refine v_iconst C (pc := 42) 1 dX5_traceSolution_42 rfl ?_
  refine v_isub C (pc := 43) dX5_traceSolution_43 ?_
  refine v_istore_nN C (pc := 44) [(0, .ref (ad 13)), (1, .int x1)] hm dX5_traceSolution_44 rfl (by decide) rfl (fun y8 hm => ?_)
  refine v_iload_n C (pc := 45) 2 dX5_traceSolution_45 rfl rfl ?_
  refine v_iconst C (pc := 46) 1 dX5_traceSolution_46 rfl ?_
  refine v_isub C (pc := 47) dX5_traceSolution_47 ?_
  refine v_istore_nN C (pc := 48) [(2, .int y8), (0, .ref (ad 13)), (1, .int x1)] hm dX5_traceSolution_48 rfl (by decide) rfl (fun y9 hm => ?_)
  exact v_sub [2, 3, 1, 0] rfl (vX5_traceSolution_49 C hr hQ (N := N) N _ _ _ _ hm)
def fX5_traceSolution_11b (N : Nat)  (k11 : Int32 → Int32 → Int32 → St → Option (Int32 × St)) (x1 : Int32) (x2 : Int32) (x3 : Int32) (S : St) : Option (Int32 × St) := if 1200 ≤ x3 then (fX5_traceSolution_38 N x1 S) else (if x2 ≤ 0 then (fX5_traceSolution_38 N x1 S) else (ck x2 1200 (nm (S.2.2.1 28 (Int32.toNatClampNeg x2)) fun y7 => k11 (x1 + 1) y7 (x3 + 1) S)))
def fX5_traceSolution_11 (N : Nat)  : Nat → Int32 → Int32 → Int32 → St → Option (Int32 × St)
  | 0 => fun _ _ _ _ => none
  | n + 1 => fun x1 x2 x3 S => fX5_traceSolution_11b N  (fX5_traceSolution_11 N  n) x1 x2 x3 S
set_option maxRecDepth 20000 in
theorem vX5_traceSolution_11b {p : Program} {l : Launch} {e : Env} {s : State} {m : MethodId} {args : Array Value} {below : List Frame} {meth : Method} {c : Code} {Q : State → Prop} {D : va_G} {ad : Nat → Nat} {cA : Nat → ClassId} (C : Ok p s m args c D cA (xW ad cA) (xA ad) (xS ad) RX5 cX5_traceSolution 4) (hr : Rt meth (some .int)) {r : Int32 × St} (hQ : Q = MQ below (Qo D (xW ad cA) (xA ad) (some (.int r.1)) r.2) args s 0 0 (xA ad)) {N : Nat}  {k11 : Int32 → Int32 → Int32 → St → Option (Int32 × St)} (hk11 : ∀ (x1 : Int32) (x2 : Int32) (x3 : Int32) (S : St), k11 x1 x2 x3 S = some r → V p l e rmX5_traceSolution s m args below meth c Q D (xW ad cA) (xA ad) 4 S 11 [(0, .ref (ad 13)), (1, .int x1), (2, .int x2), (3, .int x3)] []) {x1 : Int32} {x2 : Int32} {x3 : Int32}  {S : St} (hm : fX5_traceSolution_11b N  k11 x1 x2 x3 S = some r) : V p l e rmX5_traceSolution s m args below meth c Q D (xW ad cA) (xA ad) 4 S 11 [(0, .ref (ad 13)), (1, .int x1), (2, .int x2), (3, .int x3)] [] := by
  unfold fX5_traceSolution_11b at hm
  refine v_iload_n C (pc := 11) 3 dX5_traceSolution_11 rfl rfl ?_
  refine v_sipush C (pc := 12) 1200 dX5_traceSolution_12 rfl ?_
  refine v_icmp_ge C (pc := 15) hm 38 dX5_traceSolution_15 rfl (fun hm => ?_) (fun hm => ?_)
  · exact v_sub [0, 1] rfl (vX5_traceSolution_38 C hr hQ (N := N) hm)
  · refine v_iload_n C (pc := 18) 2 dX5_traceSolution_18 rfl rfl ?_
    refine v_if_le C (pc := 19) hm 38 dX5_traceSolution_19 rfl (fun hm => ?_) (fun hm => ?_)
    · exact v_sub [0, 1] rfl (vX5_traceSolution_38 C hr hQ (N := N) hm)
    · refine v_iinc C (pc := 22) 1 1 [(1, .int (x1 + 1)), (0, .ref (ad 13)), (2, .int x2), (3, .int x3)] dX5_traceSolution_22 rfl rfl (by decide) rfl ?_
      refine v_aload_n C (pc := 25) 1 dX5_traceSolution_25 rfl rfl ?_
      refine gX5_15 C (pc := 26) dX5_traceSolution_26 ?_
      refine v_iload_n C (pc := 29) 2 dX5_traceSolution_29 rfl rfl ?_
      refine ldX5_origins C (pc := 30) hm dX5_traceSolution_30 (fun hm => ?_)
      refine v_istore_nN C (pc := 31) [(1, .int (x1 + 1)), (0, .ref (ad 13)), (3, .int x3)] hm dX5_traceSolution_31 rfl (by decide) rfl (fun y7 hm => ?_)
      refine v_iinc C (pc := 32) 1 3 [(3, .int (x3 + 1)), (2, .int y7), (1, .int (x1 + 1)), (0, .ref (ad 13))] dX5_traceSolution_32 rfl rfl (by decide) rfl ?_
      refine v_goto C (pc := 35) 11 dX5_traceSolution_35 rfl ?_
      exact v_sub [3, 2, 1, 0] rfl (hk11 _ _ _ _ hm)
theorem vX5_traceSolution_11 {p : Program} {l : Launch} {e : Env} {s : State} {m : MethodId} {args : Array Value} {below : List Frame} {meth : Method} {c : Code} {Q : State → Prop} {D : va_G} {ad : Nat → Nat} {cA : Nat → ClassId} (C : Ok p s m args c D cA (xW ad cA) (xA ad) (xS ad) RX5 cX5_traceSolution 4) (hr : Rt meth (some .int)) {r : Int32 × St} (hQ : Q = MQ below (Qo D (xW ad cA) (xA ad) (some (.int r.1)) r.2) args s 0 0 (xA ad)) {N : Nat}  (n : Nat) : ∀ (x1 : Int32) (x2 : Int32) (x3 : Int32) (S : St), fX5_traceSolution_11 N  n x1 x2 x3 S = some r → V p l e rmX5_traceSolution s m args below meth c Q D (xW ad cA) (xA ad) 4 S 11 [(0, .ref (ad 13)), (1, .int x1), (2, .int x2), (3, .int x3)] [] := by
  induction n with
  | zero => intro _ _ _ _  hm; exact absurd hm (by intro h; cases h)
  | succ n ih => intro _ _ _ _  hm; exact vX5_traceSolution_11b C hr hQ (N := N)   ih  hm
def fX5_traceSolution (N : Nat)  (S : St) : Option (Int32 × St) := nm ((S.1 30) - 1) fun y11 => fX5_traceSolution_11 N N 0 y11 0 S
set_option maxRecDepth 20000 in
theorem vX5_traceSolution {p : Program} {l : Launch} {e : Env} {s : State} {m : MethodId} {args : Array Value} {below : List Frame} {meth : Method} {c : Code} {Q : State → Prop} {D : va_G} {ad : Nat → Nat} {cA : Nat → ClassId} (C : Ok p s m args c D cA (xW ad cA) (xA ad) (xS ad) RX5 cX5_traceSolution 4) (hr : Rt meth (some .int)) {r : Int32 × St} (hQ : Q = MQ below (Qo D (xW ad cA) (xA ad) (some (.int r.1)) r.2) args s 0 0 (xA ad)) {N : Nat}  {S : St} (hm : fX5_traceSolution N  S = some r) : V p l e rmX5_traceSolution s m args below meth c Q D (xW ad cA) (xA ad) 4 S 0 [(0, .ref (ad 13))] [] := by
  unfold fX5_traceSolution at hm
  refine v_iconst C (pc := 0) 0 dX5_traceSolution_0 rfl ?_
  refine v_istore_n C (pc := 1) [(1, .int 0), (0, .ref (ad 13))] dX5_traceSolution_1 rfl (by decide) rfl ?_
  refine v_aload_n C (pc := 2) 1 dX5_traceSolution_2 rfl rfl ?_
  refine gX5_22 C (pc := 3) dX5_traceSolution_3 ?_
  refine v_iconst C (pc := 6) 1 dX5_traceSolution_6 rfl ?_
  refine v_isub C (pc := 7) dX5_traceSolution_7 ?_
  refine v_istore_nN C (pc := 8) [(1, .int 0), (0, .ref (ad 13))] hm dX5_traceSolution_8 rfl (by decide) rfl (fun y11 hm => ?_)
  refine v_iconst C (pc := 9) 0 dX5_traceSolution_9 rfl ?_
  refine v_istore_n C (pc := 10) [(3, .int 0), (2, .int y11), (1, .int 0), (0, .ref (ad 13))] dX5_traceSolution_10 rfl (by decide) rfl ?_
  exact v_sub [3, 2, 1, 0] rfl (vX5_traceSolution_11 C hr hQ (N := N) N _ _ _ _ hm)
theorem mX5_traceSolution {l : Launch} {D : va_G} {ad : Nat → Nat} {cA : Nat → ClassId} (hD : ∀ S, va_D (xA ad) (xW ad cA S)) {N : Nat}  {S : St} {r : Int32 × St} (hm : fX5_traceSolution N  S = some r) : Met l yX5_traceSolution (wsm yX5_traceSolution cX5_traceSolution 4 (some .int)) rmX5_traceSolution (va_Pc [.ref (ad 13)] (Pre D cA (xW ad cA) (xS ad) S)) (Qo D (xW ad cA) (xA ad) (some (.int r.1)) r.2) 0 0 (xA ad) := met_of [.ref (ad 13)] (by decide) (Nat.le_of_ble_eq_true rfl) hD (xS_mv ad) (xS_kp ad) (fun p e s m below meth c C hr => vX5_traceSolution C hr rfl (N := N)  hm)
-- X5_findSolution
theorem infX5_spread : InfV yX5_spread cX5_spread 9 (some .int) 2 := ⟨⟨gm (i := 64) (by decide +kernel) rfl, gm (i := 779) (by decide +kernel) rfl, by decide +kernel⟩, gm (i := 778) (by decide +kernel) rfl, gm (i := 16) (by decide +kernel) rfl⟩
theorem kX5_69 {p : Program} {l : Launch} {e : Env} {R : Room} {s : State} {m : MethodId} {args : Array Value} {below : List Frame} {meth : Method} {c : Code} {Q : State → Prop} {D : va_G} {ad : Nat → Nat} {cA : Nat → ClassId} {cc : ByteArray} {nL : Nat} {S : St} {pc : Nat} {lv : List (Nat × Value)} {st : List Value} {ρ : Type} {res : ρ} (C : Ok p s m args c D cA (xW ad cA) (xA ad) (xS ad) RX5 cc nL) (hfr : rmX5_spread.frames + 1 ≤ R.frames) (hlo : 8 + (9 + 11) + rmX5_spread.locals ≤ R.locals) {N : Nat} {p1 : Int32} {p2 : Int32} {E : Int32 → St → Option ρ} (hm : bd (fX5_spread N p1 p2 S) E = some res) (hcat : (st.map fun v => v.category).sum ≤ 8) (hd : decode cc pc = .ok (.invokevirtual 69, 3)) (k : ∀ r S, E r S = some res → V p l e R s m args below meth c Q D (xW ad cA) (xA ad) nL S (pc + 3) lv (.int r :: st)) : V p l e R s m args below meth c Q D (xW ad cA) (xA ad) nL S pc lv (.int p2 :: .int p1 :: .ref (ad 13) :: st) := by
  obtain ⟨r, S1, h1, h2⟩ := bd_some hm
  exact v_callV C (gm (i := 776) (by decide +kernel) rfl : Cond.methodLink RX5 69 yX5_spread ∈ gw_tbl) infX5_spread (rm2 := rmX5_spread) ⟨rfl, rfl⟩ hfr hlo (mX5_spread C.2.2.2.2.2.2.1 h1) (As := [.int p1, .int p2]) (oX5 ad cA S) rfl rfl rfl rfl hcat hd (k r S1 h2)
theorem infX5_traceSolution : InfV yX5_traceSolution cX5_traceSolution 4 (some .int) 0 := ⟨⟨gm (i := 64) (by decide +kernel) rfl, gm (i := 786) (by decide +kernel) rfl, by decide +kernel⟩, gm (i := 785) (by decide +kernel) rfl, gm (i := 17) (by decide +kernel) rfl⟩
theorem kX5_73 {p : Program} {l : Launch} {e : Env} {R : Room} {s : State} {m : MethodId} {args : Array Value} {below : List Frame} {meth : Method} {c : Code} {Q : State → Prop} {D : va_G} {ad : Nat → Nat} {cA : Nat → ClassId} {cc : ByteArray} {nL : Nat} {S : St} {pc : Nat} {lv : List (Nat × Value)} {st : List Value} {ρ : Type} {res : ρ} (C : Ok p s m args c D cA (xW ad cA) (xA ad) (xS ad) RX5 cc nL) (hfr : rmX5_traceSolution.frames + 1 ≤ R.frames) (hlo : 8 + (4 + 11) + rmX5_traceSolution.locals ≤ R.locals) {N : Nat}  {E : Int32 → St → Option ρ} (hm : bd (fX5_traceSolution N  S) E = some res) (hcat : (st.map fun v => v.category).sum ≤ 8) (hd : decode cc pc = .ok (.invokevirtual 73, 3)) (k : ∀ r S, E r S = some res → V p l e R s m args below meth c Q D (xW ad cA) (xA ad) nL S (pc + 3) lv (.int r :: st)) : V p l e R s m args below meth c Q D (xW ad cA) (xA ad) nL S pc lv (.ref (ad 13) :: st) := by
  obtain ⟨r, S1, h1, h2⟩ := bd_some hm
  exact v_callV C (gm (i := 783) (by decide +kernel) rfl : Cond.methodLink RX5 73 yX5_traceSolution ∈ gw_tbl) infX5_traceSolution (rm2 := rmX5_traceSolution) ⟨rfl, rfl⟩ hfr hlo (mX5_traceSolution C.2.2.2.2.2.2.1 h1) (As := []) (oX5 ad cA S) rfl rfl rfl rfl hcat hd (k r S1 h2)
theorem infX5_begin : InfV yX5_begin cX5_begin 3 none 1 := ⟨⟨gm (i := 64) (by decide +kernel) rfl, gm (i := 765) (by decide +kernel) rfl, by decide +kernel⟩, gm (i := 764) (by decide +kernel) rfl, gm (i := 13) (by decide +kernel) rfl⟩
theorem kX5_65 {p : Program} {l : Launch} {e : Env} {R : Room} {s : State} {m : MethodId} {args : Array Value} {below : List Frame} {meth : Method} {c : Code} {Q : State → Prop} {D : va_G} {ad : Nat → Nat} {cA : Nat → ClassId} {cc : ByteArray} {nL : Nat} {S : St} {pc : Nat} {lv : List (Nat × Value)} {st : List Value} {ρ : Type} {res : ρ} (C : Ok p s m args c D cA (xW ad cA) (xA ad) (xS ad) RX5 cc nL) (hfr : rmX5_begin.frames + 1 ≤ R.frames) (hlo : 8 + (3 + 11) + rmX5_begin.locals ≤ R.locals) {N : Nat} {p1 : Int64} {E : Unit → St → Option ρ} (hm : bd (fX5_begin N p1 S) E = some res) (hcat : (st.map fun v => v.category).sum ≤ 8) (hd : decode cc pc = .ok (.invokevirtual 65, 3)) (k : ∀ r S, E r S = some res → V p l e R s m args below meth c Q D (xW ad cA) (xA ad) nL S (pc + 3) lv (st)) : V p l e R s m args below meth c Q D (xW ad cA) (xA ad) nL S pc lv (.long p1 :: .ref (ad 13) :: st) := by
  obtain ⟨r, S1, h1, h2⟩ := bd_some hm
  exact v_callV C (gm (i := 762) (by decide +kernel) rfl : Cond.methodLink RX5 65 yX5_begin ∈ gw_tbl) infX5_begin (rm2 := rmX5_begin) ⟨rfl, rfl⟩ hfr hlo (mX5_begin C.2.2.2.2.2.2.1 h1) (As := [.long p1]) (oX5 ad cA S) rfl rfl rfl rfl hcat hd (k r S1 h2)
def rmX5_findSolution : Room := { frames := 5, cells := 0, slots := 0, locals := 141 }
def fX5_findSolution_23 (N : Nat)  (s0 : Int32) (S : St) : Option (Int32 × St) := some (s0, S)
set_option maxRecDepth 20000 in
theorem vX5_findSolution_23 {p : Program} {l : Launch} {e : Env} {s : State} {m : MethodId} {args : Array Value} {below : List Frame} {meth : Method} {c : Code} {Q : State → Prop} {D : va_G} {ad : Nat → Nat} {cA : Nat → ClassId} (C : Ok p s m args c D cA (xW ad cA) (xA ad) (xS ad) RX5 cX5_findSolution 6) (hr : Rt meth (some .int)) {r : Int32 × St} (hQ : Q = MQ below (Qo D (xW ad cA) (xA ad) (some (.int r.1)) r.2) args s 0 0 (xA ad)) {N : Nat}  {s0 : Int32}  {S : St} (hm : fX5_findSolution_23 N  s0 S = some r) : V p l e rmX5_findSolution s m args below meth c Q D (xW ad cA) (xA ad) 6 S 23 [] [.int s0] := by
  unfold fX5_findSolution_23 at hm
  exact v_iret C hr hQ (pc := 23) hm dX5_findSolution_23
def fX5_findSolution_85 (N : Nat)   (S : St) : Option (Int32 × St) := some ((-7), S)
set_option maxRecDepth 20000 in
theorem vX5_findSolution_85 {p : Program} {l : Launch} {e : Env} {s : State} {m : MethodId} {args : Array Value} {below : List Frame} {meth : Method} {c : Code} {Q : State → Prop} {D : va_G} {ad : Nat → Nat} {cA : Nat → ClassId} (C : Ok p s m args c D cA (xW ad cA) (xA ad) (xS ad) RX5 cX5_findSolution 6) (hr : Rt meth (some .int)) {r : Int32 × St} (hQ : Q = MQ below (Qo D (xW ad cA) (xA ad) (some (.int r.1)) r.2) args s 0 0 (xA ad)) {N : Nat}    {S : St} (hm : fX5_findSolution_85 N   S = some r) : V p l e rmX5_findSolution s m args below meth c Q D (xW ad cA) (xA ad) 6 S 85 [] [] := by
  unfold fX5_findSolution_85 at hm
  refine v_bipush C (pc := 85) (-7) dX5_findSolution_85 rfl ?_
  exact v_iret C hr hQ (pc := 87) hm dX5_findSolution_87
def fX5_findSolution_78 (N : Nat)  (s0 : Int32) (S : St) : Option (Int32 × St) := some (s0, S)
set_option maxRecDepth 20000 in
theorem vX5_findSolution_78 {p : Program} {l : Launch} {e : Env} {s : State} {m : MethodId} {args : Array Value} {below : List Frame} {meth : Method} {c : Code} {Q : State → Prop} {D : va_G} {ad : Nat → Nat} {cA : Nat → ClassId} (C : Ok p s m args c D cA (xW ad cA) (xA ad) (xS ad) RX5 cX5_findSolution 6) (hr : Rt meth (some .int)) {r : Int32 × St} (hQ : Q = MQ below (Qo D (xW ad cA) (xA ad) (some (.int r.1)) r.2) args s 0 0 (xA ad)) {N : Nat}  {s0 : Int32}  {S : St} (hm : fX5_findSolution_78 N  s0 S = some r) : V p l e rmX5_findSolution s m args below meth c Q D (xW ad cA) (xA ad) 6 S 78 [] [.int s0] := by
  unfold fX5_findSolution_78 at hm
  exact v_iret C hr hQ (pc := 78) hm dX5_findSolution_78
def fX5_findSolution_32b (N : Nat)  (k32 : Int32 → St → Option (Int32 × St)) (x4 : Int32) (S : St) : Option (Int32 × St) := if (S.1 30) ≤ x4 then (fX5_findSolution_85 N S) else (if 1200 ≤ x4 then (fX5_findSolution_85 N S) else (bd (fX5_spread N x4 1 S) fun r7 S7 => if r7 = 0 then (k32 (x4 + 1) S7) else (if r7 = 1 then (bd (fX5_traceSolution N  S7) fun r8 S8 => fX5_findSolution_78 N r8 S8) else (fX5_findSolution_78 N (-6) S7))))
def fX5_findSolution_32 (N : Nat)  : Nat → Int32 → St → Option (Int32 × St)
  | 0 => fun _ _ => none
  | n + 1 => fun x4 S => fX5_findSolution_32b N  (fX5_findSolution_32 N  n) x4 S
set_option maxRecDepth 20000 in
theorem vX5_findSolution_32b {p : Program} {l : Launch} {e : Env} {s : State} {m : MethodId} {args : Array Value} {below : List Frame} {meth : Method} {c : Code} {Q : State → Prop} {D : va_G} {ad : Nat → Nat} {cA : Nat → ClassId} (C : Ok p s m args c D cA (xW ad cA) (xA ad) (xS ad) RX5 cX5_findSolution 6) (hr : Rt meth (some .int)) {r : Int32 × St} (hQ : Q = MQ below (Qo D (xW ad cA) (xA ad) (some (.int r.1)) r.2) args s 0 0 (xA ad)) {N : Nat}  {k32 : Int32 → St → Option (Int32 × St)} (hk32 : ∀ (x4 : Int32) (S : St), k32 x4 S = some r → V p l e rmX5_findSolution s m args below meth c Q D (xW ad cA) (xA ad) 6 S 32 [(0, .ref (ad 13)), (4, .int x4)] []) {x4 : Int32}  {S : St} (hm : fX5_findSolution_32b N  k32 x4 S = some r) : V p l e rmX5_findSolution s m args below meth c Q D (xW ad cA) (xA ad) 6 S 32 [(0, .ref (ad 13)), (4, .int x4)] [] := by
  unfold fX5_findSolution_32b at hm
  refine v_iload C (pc := 32) 1 dX5_findSolution_32 rfl ?_
  refine v_aload_n C (pc := 34) 0 dX5_findSolution_34 rfl rfl ?_
  refine gX5_22 C (pc := 35) dX5_findSolution_35 ?_
  refine v_icmp_ge C (pc := 38) hm 85 dX5_findSolution_38 rfl (fun hm => ?_) (fun hm => ?_)
  · exact v_sub [] rfl (vX5_findSolution_85 C hr hQ (N := N) hm)
  · refine v_iload C (pc := 41) 1 dX5_findSolution_41 rfl ?_
    refine v_sipush C (pc := 43) 1200 dX5_findSolution_43 rfl ?_
    refine v_icmp_ge C (pc := 46) hm 85 dX5_findSolution_46 rfl (fun hm => ?_) (fun hm => ?_)
    · exact v_sub [] rfl (vX5_findSolution_85 C hr hQ (N := N) hm)
    · refine v_aload_n C (pc := 49) 0 dX5_findSolution_49 rfl rfl ?_
      refine v_iload C (pc := 50) 1 dX5_findSolution_50 rfl ?_
      refine v_iconst C (pc := 52) 1 dX5_findSolution_52 rfl ?_
      refine kX5_69 C (Nat.le_of_ble_eq_true rfl) (Nat.le_of_ble_eq_true rfl) (pc := 53) hm (Nat.le_of_ble_eq_true rfl) dX5_findSolution_53 (fun r7 S7 hm => ?_)
      refine v_istore C (pc := 56) [(5, .int r7), (0, .ref (ad 13)), (4, .int x4)] dX5_findSolution_56 (by decide) rfl ?_
      refine v_iload C (pc := 58) 0 dX5_findSolution_58 rfl ?_
      refine v_if_eq C (pc := 60) hm 79 dX5_findSolution_60 rfl (fun hm => ?_) (fun hm => ?_)
      · refine v_iinc C (pc := 79) 1 2 [(4, .int (x4 + 1)), (5, .int r7), (0, .ref (ad 13))] dX5_findSolution_79 rfl rfl (by decide) rfl ?_
        refine v_goto C (pc := 82) 32 dX5_findSolution_82 rfl ?_
        exact v_sub [2, 0] rfl (hk32 _ _ hm)
      · refine v_iload C (pc := 63) 0 dX5_findSolution_63 rfl ?_
        refine v_iconst C (pc := 65) 1 dX5_findSolution_65 rfl ?_
        refine v_icmp_ne C (pc := 66) hm 76 dX5_findSolution_66 rfl (fun hm => ?_) (fun hm => ?_)
        · refine v_bipush C (pc := 76) (-6) dX5_findSolution_76 rfl ?_
          exact v_sub [] rfl (vX5_findSolution_78 C hr hQ (N := N) hm)
        · refine v_aload_n C (pc := 69) 1 dX5_findSolution_69 rfl rfl ?_
          refine kX5_73 C (Nat.le_of_ble_eq_true rfl) (Nat.le_of_ble_eq_true rfl) (pc := 70) hm (Nat.le_of_ble_eq_true rfl) dX5_findSolution_70 (fun r8 S8 hm => ?_)
          refine v_goto C (pc := 73) 78 dX5_findSolution_73 rfl ?_
          exact v_sub [] rfl (vX5_findSolution_78 C hr hQ (N := N) hm)
theorem vX5_findSolution_32 {p : Program} {l : Launch} {e : Env} {s : State} {m : MethodId} {args : Array Value} {below : List Frame} {meth : Method} {c : Code} {Q : State → Prop} {D : va_G} {ad : Nat → Nat} {cA : Nat → ClassId} (C : Ok p s m args c D cA (xW ad cA) (xA ad) (xS ad) RX5 cX5_findSolution 6) (hr : Rt meth (some .int)) {r : Int32 × St} (hQ : Q = MQ below (Qo D (xW ad cA) (xA ad) (some (.int r.1)) r.2) args s 0 0 (xA ad)) {N : Nat}  (n : Nat) : ∀ (x4 : Int32) (S : St), fX5_findSolution_32 N  n x4 S = some r → V p l e rmX5_findSolution s m args below meth c Q D (xW ad cA) (xA ad) 6 S 32 [(0, .ref (ad 13)), (4, .int x4)] [] := by
  induction n with
  | zero => intro _ _  hm; exact absurd hm (by intro h; cases h)
  | succ n ih => intro _ _  hm; exact vX5_findSolution_32b C hr hQ (N := N)   ih  hm
def fX5_findSolution (N : Nat) (p1 : Int64) (S : St) : Option (Int32 × St) := bd (fX2_boundOf N p1 S) fun r9 S9 => if 0 < r9 then (bd (fX5_begin N p1 S9) fun r10 S10 => fX5_findSolution_32 N N 0 S10) else (if 0 ≤ r9 then (fX5_findSolution_23 N 0 S9) else (fX5_findSolution_23 N (-7) S9))
set_option maxRecDepth 20000 in
theorem vX5_findSolution {p : Program} {l : Launch} {e : Env} {s : State} {m : MethodId} {args : Array Value} {below : List Frame} {meth : Method} {c : Code} {Q : State → Prop} {D : va_G} {ad : Nat → Nat} {cA : Nat → ClassId} (C : Ok p s m args c D cA (xW ad cA) (xA ad) (xS ad) RX5 cX5_findSolution 6) (hr : Rt meth (some .int)) {r : Int32 × St} (hQ : Q = MQ below (Qo D (xW ad cA) (xA ad) (some (.int r.1)) r.2) args s 0 0 (xA ad)) {N : Nat} {p1 : Int64} {S : St} (hm : fX5_findSolution N p1 S = some r) : V p l e rmX5_findSolution s m args below meth c Q D (xW ad cA) (xA ad) 6 S 0 [(0, .ref (ad 13)), (1, .long p1)] [] := by
  unfold fX5_findSolution at hm
  refine v_aload_n C (pc := 0) 0 dX5_findSolution_0 rfl rfl ?_
  refine gX5_43 C (pc := 1) dX5_findSolution_1 ?_
  refine v_lload_n C (pc := 4) 1 dX5_findSolution_4 rfl rfl ?_
  refine kX5_60 C (Nat.le_of_ble_eq_true rfl) (Nat.le_of_ble_eq_true rfl) (pc := 5) hm (Nat.le_of_ble_eq_true rfl) dX5_findSolution_5 (fun r9 S9 hm => ?_)
  refine v_istore_n C (pc := 8) [(3, .int r9), (0, .ref (ad 13)), (1, .long p1)] dX5_findSolution_8 rfl (by decide) rfl ?_
  refine v_iload_n C (pc := 9) 0 dX5_findSolution_9 rfl rfl ?_
  refine v_if_gt C (pc := 10) hm 24 dX5_findSolution_10 rfl (fun hm => ?_) (fun hm => ?_)
  · refine v_aload_n C (pc := 24) 1 dX5_findSolution_24 rfl rfl ?_
    refine v_lload_n C (pc := 25) 2 dX5_findSolution_25 rfl rfl ?_
    refine kX5_65 C (Nat.le_of_ble_eq_true rfl) (Nat.le_of_ble_eq_true rfl) (pc := 26) hm (Nat.le_of_ble_eq_true rfl) dX5_findSolution_26 (fun r10 S10 hm => ?_)
    refine v_iconst C (pc := 29) 0 dX5_findSolution_29 rfl ?_
    refine v_istore C (pc := 30) [(4, .int 0), (3, .int r9), (0, .ref (ad 13)), (1, .long p1)] dX5_findSolution_30 (by decide) rfl ?_
    exact v_sub [2, 0] rfl (vX5_findSolution_32 C hr hQ (N := N) N _ _ hm)
  · refine v_iload_n C (pc := 13) 0 dX5_findSolution_13 rfl rfl ?_
    refine v_if_ge C (pc := 14) hm 22 dX5_findSolution_14 rfl (fun hm => ?_) (fun hm => ?_)
    · refine v_iconst C (pc := 22) 0 dX5_findSolution_22 rfl ?_
      exact v_sub [] rfl (vX5_findSolution_23 C hr hQ (N := N) hm)
    · refine v_bipush C (pc := 17) (-7) dX5_findSolution_17 rfl ?_
      refine v_goto C (pc := 19) 23 dX5_findSolution_19 rfl ?_
      exact v_sub [] rfl (vX5_findSolution_23 C hr hQ (N := N) hm)
theorem mX5_findSolution {l : Launch} {D : va_G} {ad : Nat → Nat} {cA : Nat → ClassId} (hD : ∀ S, va_D (xA ad) (xW ad cA S)) {N : Nat} {p1 : Int64} {S : St} {r : Int32 × St} (hm : fX5_findSolution N p1 S = some r) : Met l yX5_findSolution (wsm yX5_findSolution cX5_findSolution 6 (some .int)) rmX5_findSolution (va_Pc [.ref (ad 13), .long p1] (Pre D cA (xW ad cA) (xS ad) S)) (Qo D (xW ad cA) (xA ad) (some (.int r.1)) r.2) 0 0 (xA ad) := met_of [.ref (ad 13), .long p1] (by decide) (Nat.le_of_ble_eq_true rfl) hD (xS_mv ad) (xS_kp ad) (fun p e s m below meth c C hr => vX5_findSolution C hr rfl (N := N)  hm)
-- X5_solutionLength
theorem infX5_findSolution : InfV yX5_findSolution cX5_findSolution 6 (some .int) 1 := ⟨⟨gm (i := 64) (by decide +kernel) rfl, gm (i := 760) (by decide +kernel) rfl, by decide +kernel⟩, gm (i := 759) (by decide +kernel) rfl, gm (i := 12) (by decide +kernel) rfl⟩
theorem kX5_56 {p : Program} {l : Launch} {e : Env} {R : Room} {s : State} {m : MethodId} {args : Array Value} {below : List Frame} {meth : Method} {c : Code} {Q : State → Prop} {D : va_G} {ad : Nat → Nat} {cA : Nat → ClassId} {cc : ByteArray} {nL : Nat} {S : St} {pc : Nat} {lv : List (Nat × Value)} {st : List Value} {ρ : Type} {res : ρ} (C : Ok p s m args c D cA (xW ad cA) (xA ad) (xS ad) RX5 cc nL) (hfr : rmX5_findSolution.frames + 1 ≤ R.frames) (hlo : 8 + (6 + 11) + rmX5_findSolution.locals ≤ R.locals) {N : Nat} {p1 : Int64} {E : Int32 → St → Option ρ} (hm : bd (fX5_findSolution N p1 S) E = some res) (hcat : (st.map fun v => v.category).sum ≤ 8) (hd : decode cc pc = .ok (.invokevirtual 56, 3)) (k : ∀ r S, E r S = some res → V p l e R s m args below meth c Q D (xW ad cA) (xA ad) nL S (pc + 3) lv (.int r :: st)) : V p l e R s m args below meth c Q D (xW ad cA) (xA ad) nL S pc lv (.long p1 :: .ref (ad 13) :: st) := by
  obtain ⟨r, S1, h1, h2⟩ := bd_some hm
  exact v_callV C (gm (i := 757) (by decide +kernel) rfl : Cond.methodLink RX5 56 yX5_findSolution ∈ gw_tbl) infX5_findSolution (rm2 := rmX5_findSolution) ⟨rfl, rfl⟩ hfr hlo (mX5_findSolution C.2.2.2.2.2.2.1 h1) (As := [.long p1]) (oX5 ad cA S) rfl rfl rfl rfl hcat hd (k r S1 h2)
def rmX5_solutionLength : Room := { frames := 6, cells := 0, slots := 0, locals := 166 }
def fX5_solutionLength_35 (N : Nat)   (S : St) : Option (Int32 × St) := some ((S.1 31), S)
set_option maxRecDepth 20000 in
theorem vX5_solutionLength_35 {p : Program} {l : Launch} {e : Env} {s : State} {m : MethodId} {args : Array Value} {below : List Frame} {meth : Method} {c : Code} {Q : State → Prop} {D : va_G} {ad : Nat → Nat} {cA : Nat → ClassId} (C : Ok p s m args c D cA (xW ad cA) (xA ad) (xS ad) RX5 cX5_solutionLength 3) (hr : Rt meth (some .int)) {r : Int32 × St} (hQ : Q = MQ below (Qo D (xW ad cA) (xA ad) (some (.int r.1)) r.2) args s 0 0 (xA ad)) {N : Nat}    {S : St} (hm : fX5_solutionLength_35 N   S = some r) : V p l e rmX5_solutionLength s m args below meth c Q D (xW ad cA) (xA ad) 3 S 35 [(0, .ref (ad 13))] [] := by
  unfold fX5_solutionLength_35 at hm
  refine v_aload_n C (pc := 35) 0 dX5_solutionLength_35 rfl rfl ?_
  refine gX5_32 C (pc := 36) dX5_solutionLength_36 ?_
  exact v_iret C hr hQ (pc := 39) hm dX5_solutionLength_39
def fX5_solutionLength_16 (N : Nat)  (x1 : Int64) (S : St) : Option (Int32 × St) := bd (fX5_findSolution N x1 S) fun r2 S5 => stp (sI S5 31 r2) fun S6 => stp (sJ S6 10 x1) fun S7 => stp (sI S7 32 1) fun S8 => fX5_solutionLength_35 N S8
set_option maxRecDepth 20000 in
theorem vX5_solutionLength_16 {p : Program} {l : Launch} {e : Env} {s : State} {m : MethodId} {args : Array Value} {below : List Frame} {meth : Method} {c : Code} {Q : State → Prop} {D : va_G} {ad : Nat → Nat} {cA : Nat → ClassId} (C : Ok p s m args c D cA (xW ad cA) (xA ad) (xS ad) RX5 cX5_solutionLength 3) (hr : Rt meth (some .int)) {r : Int32 × St} (hQ : Q = MQ below (Qo D (xW ad cA) (xA ad) (some (.int r.1)) r.2) args s 0 0 (xA ad)) {N : Nat}  {x1 : Int64}  {S : St} (hm : fX5_solutionLength_16 N  x1 S = some r) : V p l e rmX5_solutionLength s m args below meth c Q D (xW ad cA) (xA ad) 3 S 16 [(0, .ref (ad 13)), (1, .long x1)] [] := by
  unfold fX5_solutionLength_16 at hm
  refine v_aload_n C (pc := 16) 0 dX5_solutionLength_16 rfl rfl ?_
  refine v_aload_n C (pc := 17) 0 dX5_solutionLength_17 rfl rfl ?_
  refine v_lload_n C (pc := 18) 1 dX5_solutionLength_18 rfl rfl ?_
  refine kX5_56 C (Nat.le_of_ble_eq_true rfl) (Nat.le_of_ble_eq_true rfl) (pc := 19) hm (Nat.le_of_ble_eq_true rfl) dX5_solutionLength_19 (fun r2 S5 hm => ?_)
  refine pX5_32 C (pc := 22) hm dX5_solutionLength_22 (fun S6 hm => ?_)
  refine v_aload_n C (pc := 25) 0 dX5_solutionLength_25 rfl rfl ?_
  refine v_lload_n C (pc := 26) 1 dX5_solutionLength_26 rfl rfl ?_
  refine pX5_35 C (pc := 27) hm dX5_solutionLength_27 (fun S7 hm => ?_)
  refine v_aload_n C (pc := 30) 0 dX5_solutionLength_30 rfl rfl ?_
  refine v_iconst C (pc := 31) 1 dX5_solutionLength_31 rfl ?_
  refine pX5_39 C (pc := 32) rfl rfl hm dX5_solutionLength_32 (fun S8 hm => ?_)
  exact v_sub [0] rfl (vX5_solutionLength_35 C hr hQ (N := N) hm)
def fX5_solutionLength (N : Nat) (p1 : Int64) (S : St) : Option (Int32 × St) := if (S.1 32) = 0 then (fX5_solutionLength_16 N p1 S) else (if (lg_cmp (S.2.1 10) p1) = 0 then (fX5_solutionLength_35 N S) else (fX5_solutionLength_16 N p1 S))
set_option maxRecDepth 20000 in
theorem vX5_solutionLength {p : Program} {l : Launch} {e : Env} {s : State} {m : MethodId} {args : Array Value} {below : List Frame} {meth : Method} {c : Code} {Q : State → Prop} {D : va_G} {ad : Nat → Nat} {cA : Nat → ClassId} (C : Ok p s m args c D cA (xW ad cA) (xA ad) (xS ad) RX5 cX5_solutionLength 3) (hr : Rt meth (some .int)) {r : Int32 × St} (hQ : Q = MQ below (Qo D (xW ad cA) (xA ad) (some (.int r.1)) r.2) args s 0 0 (xA ad)) {N : Nat} {p1 : Int64} {S : St} (hm : fX5_solutionLength N p1 S = some r) : V p l e rmX5_solutionLength s m args below meth c Q D (xW ad cA) (xA ad) 3 S 0 [(0, .ref (ad 13)), (1, .long p1)] [] := by
  unfold fX5_solutionLength at hm
  refine v_aload_n C (pc := 0) 0 dX5_solutionLength_0 rfl rfl ?_
  refine gX5_39 C (pc := 1) dX5_solutionLength_1 ?_
  refine v_if_eq C (pc := 4) hm 16 dX5_solutionLength_4 rfl (fun hm => ?_) (fun hm => ?_)
  · exact (vX5_solutionLength_16 C hr hQ (N := N) hm)
  · refine v_aload_n C (pc := 7) 0 dX5_solutionLength_7 rfl rfl ?_
    refine gX5_35 C (pc := 8) dX5_solutionLength_8 ?_
    refine v_lload_n C (pc := 11) 1 dX5_solutionLength_11 rfl rfl ?_
    refine v_lcmp C (pc := 12) dX5_solutionLength_12 ?_
    refine v_if_eq C (pc := 13) hm 35 dX5_solutionLength_13 rfl (fun hm => ?_) (fun hm => ?_)
    · exact v_sub [0] rfl (vX5_solutionLength_35 C hr hQ (N := N) hm)
    · exact (vX5_solutionLength_16 C hr hQ (N := N) hm)
theorem mX5_solutionLength {l : Launch} {D : va_G} {ad : Nat → Nat} {cA : Nat → ClassId} (hD : ∀ S, va_D (xA ad) (xW ad cA S)) {N : Nat} {p1 : Int64} {S : St} {r : Int32 × St} (hm : fX5_solutionLength N p1 S = some r) : Met l yX5_solutionLength (wsm yX5_solutionLength cX5_solutionLength 3 (some .int)) rmX5_solutionLength (va_Pc [.ref (ad 13), .long p1] (Pre D cA (xW ad cA) (xS ad) S)) (Qo D (xW ad cA) (xA ad) (some (.int r.1)) r.2) 0 0 (xA ad) := met_of [.ref (ad 13), .long p1] (by decide) (Nat.le_of_ble_eq_true rfl) hD (xS_mv ad) (xS_kp ad) (fun p e s m below meth c C hr => vX5_solutionLength C hr rfl (N := N)  hm)
-- X5_countWithin
def rmX5_countWithin : Room := { frames := 5, cells := 0, slots := 0, locals := 141 }
def fX5_countWithin_27b (N : Nat) (k11 : Int32 → Int32 → Int32 → St → Option (Int32 × St)) (k27 : Int32 → Int32 → Int32 → Int32 → St → Option (Int32 × St)) (x3 : Int32) (x5 : Int32) (x6 : Int32) (x7 : Int32) (S : St) : Option (Int32 × St) := if x6 ≤ x7 then (k11 x3 x6 (x5 + 1) S) else (bd (fX5_spread N x7 0 S) fun r8 S5 => if r8 = 0 then (k27 x3 x5 x6 (x7 + 1) S5) else (some ((-6), S5)))
def fX5_countWithin_27 (N : Nat) (k11 : Int32 → Int32 → Int32 → St → Option (Int32 × St)) : Nat → Int32 → Int32 → Int32 → Int32 → St → Option (Int32 × St)
  | 0 => fun _ _ _ _ _ => none
  | n + 1 => fun x3 x5 x6 x7 S => fX5_countWithin_27b N k11 (fX5_countWithin_27 N k11 n) x3 x5 x6 x7 S
set_option maxRecDepth 20000 in
theorem vX5_countWithin_27b {p : Program} {l : Launch} {e : Env} {s : State} {m : MethodId} {args : Array Value} {below : List Frame} {meth : Method} {c : Code} {Q : State → Prop} {D : va_G} {ad : Nat → Nat} {cA : Nat → ClassId} (C : Ok p s m args c D cA (xW ad cA) (xA ad) (xS ad) RX5 cX5_countWithin 8) (hr : Rt meth (some .int)) {r : Int32 × St} (hQ : Q = MQ below (Qo D (xW ad cA) (xA ad) (some (.int r.1)) r.2) args s 0 0 (xA ad)) {N : Nat} {k11 : Int32 → Int32 → Int32 → St → Option (Int32 × St)} (hk11 : ∀ (x3 : Int32) (x4 : Int32) (x5 : Int32) (S : St), k11 x3 x4 x5 S = some r → V p l e rmX5_countWithin s m args below meth c Q D (xW ad cA) (xA ad) 8 S 11 [(0, .ref (ad 13)), (3, .int x3), (4, .int x4), (5, .int x5)] []) {k27 : Int32 → Int32 → Int32 → Int32 → St → Option (Int32 × St)} (hk27 : ∀ (x3 : Int32) (x5 : Int32) (x6 : Int32) (x7 : Int32) (S : St), k27 x3 x5 x6 x7 S = some r → V p l e rmX5_countWithin s m args below meth c Q D (xW ad cA) (xA ad) 8 S 27 [(0, .ref (ad 13)), (3, .int x3), (5, .int x5), (6, .int x6), (7, .int x7)] []) {x3 : Int32} {x5 : Int32} {x6 : Int32} {x7 : Int32}  {S : St} (hm : fX5_countWithin_27b N k11 k27 x3 x5 x6 x7 S = some r) : V p l e rmX5_countWithin s m args below meth c Q D (xW ad cA) (xA ad) 8 S 27 [(0, .ref (ad 13)), (3, .int x3), (5, .int x5), (6, .int x6), (7, .int x7)] [] := by
  unfold fX5_countWithin_27b at hm
  refine v_iload C (pc := 27) 4 dX5_countWithin_27 rfl ?_
  refine v_iload C (pc := 29) 3 dX5_countWithin_29 rfl ?_
  refine v_icmp_ge C (pc := 31) hm 53 dX5_countWithin_31 rfl (fun hm => ?_) (fun hm => ?_)
  · refine v_iload C (pc := 53) 3 dX5_countWithin_53 rfl ?_
    refine v_istore C (pc := 55) [(4, .int x6), (0, .ref (ad 13)), (3, .int x3), (5, .int x5), (6, .int x6), (7, .int x7)] dX5_countWithin_55 (by decide) rfl ?_
    refine v_iinc C (pc := 57) 1 3 [(5, .int (x5 + 1)), (4, .int x6), (0, .ref (ad 13)), (3, .int x3), (6, .int x6), (7, .int x7)] dX5_countWithin_57 rfl rfl (by decide) rfl ?_
    refine v_goto C (pc := 60) 11 dX5_countWithin_60 rfl ?_
    exact v_sub [2, 3, 1, 0] rfl (hk11 _ _ _ _ hm)
  · refine v_aload_n C (pc := 34) 0 dX5_countWithin_34 rfl rfl ?_
    refine v_iload C (pc := 35) 4 dX5_countWithin_35 rfl ?_
    refine v_iconst C (pc := 37) 0 dX5_countWithin_37 rfl ?_
    refine kX5_69 C (Nat.le_of_ble_eq_true rfl) (Nat.le_of_ble_eq_true rfl) (pc := 38) hm (Nat.le_of_ble_eq_true rfl) dX5_countWithin_38 (fun r8 S5 hm => ?_)
    refine v_if_eq C (pc := 41) hm 47 dX5_countWithin_41 rfl (fun hm => ?_) (fun hm => ?_)
    · refine v_iinc C (pc := 47) 1 4 [(7, .int (x7 + 1)), (0, .ref (ad 13)), (3, .int x3), (5, .int x5), (6, .int x6)] dX5_countWithin_47 rfl rfl (by decide) rfl ?_
      refine v_goto C (pc := 50) 27 dX5_countWithin_50 rfl ?_
      exact v_sub [1, 2, 3, 4, 0] rfl (hk27 _ _ _ _ _ hm)
    · refine v_bipush C (pc := 44) (-6) dX5_countWithin_44 rfl ?_
      exact v_iret C hr hQ (pc := 46) hm dX5_countWithin_46
theorem vX5_countWithin_27 {p : Program} {l : Launch} {e : Env} {s : State} {m : MethodId} {args : Array Value} {below : List Frame} {meth : Method} {c : Code} {Q : State → Prop} {D : va_G} {ad : Nat → Nat} {cA : Nat → ClassId} (C : Ok p s m args c D cA (xW ad cA) (xA ad) (xS ad) RX5 cX5_countWithin 8) (hr : Rt meth (some .int)) {r : Int32 × St} (hQ : Q = MQ below (Qo D (xW ad cA) (xA ad) (some (.int r.1)) r.2) args s 0 0 (xA ad)) {N : Nat} {k11 : Int32 → Int32 → Int32 → St → Option (Int32 × St)} (hk11 : ∀ (x3 : Int32) (x4 : Int32) (x5 : Int32) (S : St), k11 x3 x4 x5 S = some r → V p l e rmX5_countWithin s m args below meth c Q D (xW ad cA) (xA ad) 8 S 11 [(0, .ref (ad 13)), (3, .int x3), (4, .int x4), (5, .int x5)] []) (n : Nat) : ∀ (x3 : Int32) (x5 : Int32) (x6 : Int32) (x7 : Int32) (S : St), fX5_countWithin_27 N k11 n x3 x5 x6 x7 S = some r → V p l e rmX5_countWithin s m args below meth c Q D (xW ad cA) (xA ad) 8 S 27 [(0, .ref (ad 13)), (3, .int x3), (5, .int x5), (6, .int x6), (7, .int x7)] [] := by
  induction n with
  | zero => intro _ _ _ _ _  hm; exact absurd hm (by intro h; cases h)
  | succ n ih => intro _ _ _ _ _  hm; exact vX5_countWithin_27b C hr hQ (N := N)  hk11 ih  hm
def fX5_countWithin_11b (N : Nat)  (k11 : Int32 → Int32 → Int32 → St → Option (Int32 × St)) (x3 : Int32) (x4 : Int32) (x5 : Int32) (S : St) : Option (Int32 × St) := if x3 ≤ x5 then (some ((S.1 30), S)) else (nm (S.1 30) fun y7 => fX5_countWithin_27 N k11 N x3 x5 y7 x4 S)
def fX5_countWithin_11 (N : Nat)  : Nat → Int32 → Int32 → Int32 → St → Option (Int32 × St)
  | 0 => fun _ _ _ _ => none
  | n + 1 => fun x3 x4 x5 S => fX5_countWithin_11b N  (fX5_countWithin_11 N  n) x3 x4 x5 S
set_option maxRecDepth 20000 in
theorem vX5_countWithin_11b {p : Program} {l : Launch} {e : Env} {s : State} {m : MethodId} {args : Array Value} {below : List Frame} {meth : Method} {c : Code} {Q : State → Prop} {D : va_G} {ad : Nat → Nat} {cA : Nat → ClassId} (C : Ok p s m args c D cA (xW ad cA) (xA ad) (xS ad) RX5 cX5_countWithin 8) (hr : Rt meth (some .int)) {r : Int32 × St} (hQ : Q = MQ below (Qo D (xW ad cA) (xA ad) (some (.int r.1)) r.2) args s 0 0 (xA ad)) {N : Nat}  {k11 : Int32 → Int32 → Int32 → St → Option (Int32 × St)} (hk11 : ∀ (x3 : Int32) (x4 : Int32) (x5 : Int32) (S : St), k11 x3 x4 x5 S = some r → V p l e rmX5_countWithin s m args below meth c Q D (xW ad cA) (xA ad) 8 S 11 [(0, .ref (ad 13)), (3, .int x3), (4, .int x4), (5, .int x5)] []) {x3 : Int32} {x4 : Int32} {x5 : Int32}  {S : St} (hm : fX5_countWithin_11b N  k11 x3 x4 x5 S = some r) : V p l e rmX5_countWithin s m args below meth c Q D (xW ad cA) (xA ad) 8 S 11 [(0, .ref (ad 13)), (3, .int x3), (4, .int x4), (5, .int x5)] [] := by
  unfold fX5_countWithin_11b at hm
  refine v_iload C (pc := 11) 3 dX5_countWithin_11 rfl ?_
  refine v_iload_n C (pc := 13) 1 dX5_countWithin_13 rfl rfl ?_
  refine v_icmp_ge C (pc := 14) hm 63 dX5_countWithin_14 rfl (fun hm => ?_) (fun hm => ?_)
  · refine v_aload_n C (pc := 63) 0 dX5_countWithin_63 rfl rfl ?_
    refine gX5_22 C (pc := 64) dX5_countWithin_64 ?_
    exact v_iret C hr hQ (pc := 67) hm dX5_countWithin_67
  · refine v_aload_n C (pc := 17) 0 dX5_countWithin_17 rfl rfl ?_
    refine gX5_22 C (pc := 18) dX5_countWithin_18 ?_
    refine v_istoreN C (pc := 21) [(0, .ref (ad 13)), (3, .int x3), (4, .int x4), (5, .int x5)] hm dX5_countWithin_21 (by decide) rfl (fun y7 hm => ?_)
    refine v_iload C (pc := 23) 3 dX5_countWithin_23 rfl ?_
    refine v_istore C (pc := 25) [(7, .int x4), (6, .int y7), (0, .ref (ad 13)), (3, .int x3), (4, .int x4), (5, .int x5)] dX5_countWithin_25 (by decide) rfl ?_
    exact v_sub [2, 3, 5, 1, 0] rfl (vX5_countWithin_27 C hr hQ (N := N) hk11 N _ _ _ _ _ hm)
theorem vX5_countWithin_11 {p : Program} {l : Launch} {e : Env} {s : State} {m : MethodId} {args : Array Value} {below : List Frame} {meth : Method} {c : Code} {Q : State → Prop} {D : va_G} {ad : Nat → Nat} {cA : Nat → ClassId} (C : Ok p s m args c D cA (xW ad cA) (xA ad) (xS ad) RX5 cX5_countWithin 8) (hr : Rt meth (some .int)) {r : Int32 × St} (hQ : Q = MQ below (Qo D (xW ad cA) (xA ad) (some (.int r.1)) r.2) args s 0 0 (xA ad)) {N : Nat}  (n : Nat) : ∀ (x3 : Int32) (x4 : Int32) (x5 : Int32) (S : St), fX5_countWithin_11 N  n x3 x4 x5 S = some r → V p l e rmX5_countWithin s m args below meth c Q D (xW ad cA) (xA ad) 8 S 11 [(0, .ref (ad 13)), (3, .int x3), (4, .int x4), (5, .int x5)] [] := by
  induction n with
  | zero => intro _ _ _ _  hm; exact absurd hm (by intro h; cases h)
  | succ n ih => intro _ _ _ _  hm; exact vX5_countWithin_11b C hr hQ (N := N)   ih  hm
def fX5_countWithin (N : Nat) (p1 : Int64) (p2 : Int32) (S : St) : Option (Int32 × St) := bd (fX5_begin N p1 S) fun r9 S6 => fX5_countWithin_11 N N p2 0 0 S6
set_option maxRecDepth 20000 in
theorem vX5_countWithin {p : Program} {l : Launch} {e : Env} {s : State} {m : MethodId} {args : Array Value} {below : List Frame} {meth : Method} {c : Code} {Q : State → Prop} {D : va_G} {ad : Nat → Nat} {cA : Nat → ClassId} (C : Ok p s m args c D cA (xW ad cA) (xA ad) (xS ad) RX5 cX5_countWithin 8) (hr : Rt meth (some .int)) {r : Int32 × St} (hQ : Q = MQ below (Qo D (xW ad cA) (xA ad) (some (.int r.1)) r.2) args s 0 0 (xA ad)) {N : Nat} {p1 : Int64} {p2 : Int32} {S : St} (hm : fX5_countWithin N p1 p2 S = some r) : V p l e rmX5_countWithin s m args below meth c Q D (xW ad cA) (xA ad) 8 S 0 [(0, .ref (ad 13)), (1, .long p1), (3, .int p2)] [] := by
  unfold fX5_countWithin at hm
  refine v_aload_n C (pc := 0) 0 dX5_countWithin_0 rfl rfl ?_
  refine v_lload_n C (pc := 1) 1 dX5_countWithin_1 rfl rfl ?_
  refine kX5_65 C (Nat.le_of_ble_eq_true rfl) (Nat.le_of_ble_eq_true rfl) (pc := 2) hm (Nat.le_of_ble_eq_true rfl) dX5_countWithin_2 (fun r9 S6 hm => ?_)
  refine v_iconst C (pc := 5) 0 dX5_countWithin_5 rfl ?_
  refine v_istore C (pc := 6) [(4, .int 0), (0, .ref (ad 13)), (1, .long p1), (3, .int p2)] dX5_countWithin_6 (by decide) rfl ?_
  refine v_iconst C (pc := 8) 0 dX5_countWithin_8 rfl ?_
  refine v_istore C (pc := 9) [(5, .int 0), (4, .int 0), (0, .ref (ad 13)), (1, .long p1), (3, .int p2)] dX5_countWithin_9 (by decide) rfl ?_
  exact v_sub [2, 4, 1, 0] rfl (vX5_countWithin_11 C hr hQ (N := N) N _ _ _ _ hm)
theorem mX5_countWithin {l : Launch} {D : va_G} {ad : Nat → Nat} {cA : Nat → ClassId} (hD : ∀ S, va_D (xA ad) (xW ad cA S)) {N : Nat} {p1 : Int64} {p2 : Int32} {S : St} {r : Int32 × St} (hm : fX5_countWithin N p1 p2 S = some r) : Met l yX5_countWithin (wsm yX5_countWithin cX5_countWithin 8 (some .int)) rmX5_countWithin (va_Pc [.ref (ad 13), .long p1, .int p2] (Pre D cA (xW ad cA) (xS ad) S)) (Qo D (xW ad cA) (xA ad) (some (.int r.1)) r.2) 0 0 (xA ad) := met_of [.ref (ad 13), .long p1, .int p2] (by decide) (Nat.le_of_ble_eq_true rfl) hD (xS_mv ad) (xS_kp ad) (fun p e s m below meth c C hr => vX5_countWithin C hr rfl (N := N)  hm)
-- X6_append
def rmX6_append : Room := { frames := 0, cells := 0, slots := 0, locals := 0 }
def fX6_append (N : Nat) (p1 : Int32) (S : St) : Option (Bool × St) := if (S.1 1) < 80 then (ck (S.1 1) 80 (stp (sA S 0 (Int32.toNatClampNeg (S.1 1)) (vp_nar .char p1)) fun S3 => stp (sI S3 1 ((S3.1 1) + 1)) fun S4 => some (true, S4))) else (some (false, S))
set_option maxRecDepth 20000 in
theorem vX6_append {p : Program} {l : Launch} {e : Env} {s : State} {m : MethodId} {args : Array Value} {below : List Frame} {meth : Method} {c : Code} {Q : State → Prop} {D : va_G} {ad : Nat → Nat} {cA : Nat → ClassId} (C : Ok p s m args c D cA (xW ad cA) (xA ad) (xS ad) RX6 cX6_append 2) (hr : Rt meth (some .boolean)) {r : Bool × St} (hQ : Q = MQ below (Qo D (xW ad cA) (xA ad) (some (.int (b2i r.1))) r.2) args s 0 0 (xA ad)) {N : Nat} {p1 : Int32} {S : St} (hm : fX6_append N p1 S = some r) : V p l e rmX6_append s m args below meth c Q D (xW ad cA) (xA ad) 2 S 0 [(0, .ref (ad 1)), (1, .int p1)] [] := by
  unfold fX6_append at hm
  refine v_aload_n C (pc := 0) 0 dX6_append_0 rfl rfl ?_
  refine gX6_15 C (pc := 1) dX6_append_1 ?_
  refine v_bipush C (pc := 4) 80 dX6_append_4 rfl ?_
  refine v_icmp_lt C (pc := 6) hm 11 dX6_append_6 rfl (fun hm => ?_) (fun hm => ?_)
  · refine v_aload_n C (pc := 11) 0 dX6_append_11 rfl rfl ?_
    refine gX6_9 C (pc := 12) dX6_append_12 ?_
    refine v_aload_n C (pc := 15) 0 dX6_append_15 rfl rfl ?_
    refine gX6_15 C (pc := 16) dX6_append_16 ?_
    refine v_iload_n C (pc := 19) 1 dX6_append_19 rfl rfl ?_
    refine stX6_signs C (pc := 20) hm dX6_append_20 (fun S3 hm => ?_)
    refine v_aload_n C (pc := 21) 0 dX6_append_21 rfl rfl ?_
    refine v_dup C (pc := 22) dX6_append_22 rfl ?_
    refine gX6_15 C (pc := 23) dX6_append_23 ?_
    refine v_iconst C (pc := 26) 1 dX6_append_26 rfl ?_
    refine v_iadd C (pc := 27) dX6_append_27 ?_
    refine pX6_15 C (pc := 28) hm dX6_append_28 (fun S4 hm => ?_)
    refine v_iconst C (pc := 31) 1 dX6_append_31 rfl ?_
    exact v_zret C hr hQ (x := true) (pc := 32) hm dX6_append_32
  · refine v_iconst C (pc := 9) 0 dX6_append_9 rfl ?_
    exact v_zret C hr hQ (x := false) (pc := 10) hm dX6_append_10
theorem mX6_append {l : Launch} {D : va_G} {ad : Nat → Nat} {cA : Nat → ClassId} (hD : ∀ S, va_D (xA ad) (xW ad cA S)) {N : Nat} {p1 : Int32} {S : St} {r : Bool × St} (hm : fX6_append N p1 S = some r) : Met l yX6_append (wsm yX6_append cX6_append 2 (some .boolean)) rmX6_append (va_Pc [.ref (ad 1), .int p1] (Pre D cA (xW ad cA) (xS ad) S)) (Qo D (xW ad cA) (xA ad) (some (.int (b2i r.1))) r.2) 0 0 (xA ad) := met_of [.ref (ad 1), .int p1] (by decide) (Nat.le_of_ble_eq_true rfl) hD (xS_mv ad) (xS_kp ad) (fun p e s m below meth c C hr => vX6_append C hr rfl (N := N)  hm)
-- X8_type
theorem infX6_append : InfV yX6_append cX6_append 2 (some .boolean) 1 := ⟨⟨gm (i := 56) (by decide +kernel) rfl, gm (i := 373) (by decide +kernel) rfl, by decide +kernel⟩, gm (i := 371) (by decide +kernel) rfl, gm (i := 372) (by decide +kernel) rfl⟩
theorem kX8_63 {p : Program} {l : Launch} {e : Env} {R : Room} {s : State} {m : MethodId} {args : Array Value} {below : List Frame} {meth : Method} {c : Code} {Q : State → Prop} {D : va_G} {ad : Nat → Nat} {cA : Nat → ClassId} {cc : ByteArray} {nL : Nat} {S : St} {pc : Nat} {lv : List (Nat × Value)} {st : List Value} {ρ : Type} {res : ρ} (C : Ok p s m args c D cA (xW ad cA) (xA ad) (xS ad) RX8 cc nL) (hfr : rmX6_append.frames + 1 ≤ R.frames) (hlo : 8 + (2 + 11) + rmX6_append.locals ≤ R.locals) {N : Nat} {p1 : Int32} {E : Bool → St → Option ρ} (hm : bd (fX6_append N p1 S) E = some res) (hcat : (st.map fun v => v.category).sum ≤ 8) (hd : decode cc pc = .ok (.invokevirtual 63, 3)) (k : ∀ r S, E r S = some res → V p l e R s m args below meth c Q D (xW ad cA) (xA ad) nL S (pc + 3) lv (.int (b2i r) :: st)) : V p l e R s m args below meth c Q D (xW ad cA) (xA ad) nL S pc lv (.int p1 :: .ref (ad 1) :: st) := by
  obtain ⟨r, S1, h1, h2⟩ := bd_some hm
  exact v_callV C (gm (i := 370) (by decide +kernel) rfl : Cond.methodLink RX8 63 yX6_append ∈ gw_tbl) infX6_append (rm2 := rmX6_append) ⟨rfl, rfl⟩ hfr hlo (mX6_append C.2.2.2.2.2.2.1 h1) (As := [.int p1]) (oX6 ad cA S) rfl rfl rfl rfl hcat hd (k r S1 h2)
def rmX8_type : Room := { frames := 1, cells := 0, slots := 0, locals := 21 }
def fX8_type_23 (N : Nat)  (s0 : Int32) (S : St) : Option (Int32 × St) := some (s0, S)
set_option maxRecDepth 20000 in
theorem vX8_type_23 {p : Program} {l : Launch} {e : Env} {s : State} {m : MethodId} {args : Array Value} {below : List Frame} {meth : Method} {c : Code} {Q : State → Prop} {D : va_G} {ad : Nat → Nat} {cA : Nat → ClassId} (C : Ok p s m args c D cA (xW ad cA) (xA ad) (xS ad) RX8 cX8_type 2) (hr : Rt meth (some .int)) {r : Int32 × St} (hQ : Q = MQ below (Qo D (xW ad cA) (xA ad) (some (.int r.1)) r.2) args s 0 0 (xA ad)) {N : Nat}  {s0 : Int32}  {S : St} (hm : fX8_type_23 N  s0 S = some r) : V p l e rmX8_type s m args below meth c Q D (xW ad cA) (xA ad) 2 S 23 [] [.int s0] := by
  unfold fX8_type_23 at hm
  exact v_iret C hr hQ (pc := 23) hm dX8_type_23
def fX8_type (N : Nat) (p1 : Int32) (S : St) : Option (Int32 × St) := bd (fX6_append N p1 S) fun r2 S2 => if (b2i r2) = 0 then (fX8_type_23 N (-5) S2) else (fX8_type_23 N (S2.1 1) S2)
set_option maxRecDepth 20000 in
theorem vX8_type {p : Program} {l : Launch} {e : Env} {s : State} {m : MethodId} {args : Array Value} {below : List Frame} {meth : Method} {c : Code} {Q : State → Prop} {D : va_G} {ad : Nat → Nat} {cA : Nat → ClassId} (C : Ok p s m args c D cA (xW ad cA) (xA ad) (xS ad) RX8 cX8_type 2) (hr : Rt meth (some .int)) {r : Int32 × St} (hQ : Q = MQ below (Qo D (xW ad cA) (xA ad) (some (.int r.1)) r.2) args s 0 0 (xA ad)) {N : Nat} {p1 : Int32} {S : St} (hm : fX8_type N p1 S = some r) : V p l e rmX8_type s m args below meth c Q D (xW ad cA) (xA ad) 2 S 0 [(0, .ref (ad 0)), (1, .int p1)] [] := by
  unfold fX8_type at hm
  refine v_aload_n C (pc := 0) 0 dX8_type_0 rfl rfl ?_
  refine gX8_10 C (pc := 1) dX8_type_1 ?_
  refine v_iload_n C (pc := 4) 1 dX8_type_4 rfl rfl ?_
  refine kX8_63 C (Nat.le_of_ble_eq_true rfl) (Nat.le_of_ble_eq_true rfl) (pc := 5) hm (Nat.le_of_ble_eq_true rfl) dX8_type_5 (fun r2 S2 hm => ?_)
  refine v_if_eq C (pc := 8) hm 21 dX8_type_8 rfl (fun hm => ?_) (fun hm => ?_)
  · refine v_bipush C (pc := 21) (-5) dX8_type_21 rfl ?_
    exact v_sub [] rfl (vX8_type_23 C hr hQ (N := N) hm)
  · refine v_aload_n C (pc := 11) 0 dX8_type_11 rfl rfl ?_
    refine gX8_10 C (pc := 12) dX8_type_12 ?_
    refine gX8_67 C (pc := 15) dX8_type_15 ?_
    refine v_goto C (pc := 18) 23 dX8_type_18 rfl ?_
    exact v_sub [] rfl (vX8_type_23 C hr hQ (N := N) hm)
theorem mX8_type {l : Launch} {D : va_G} {ad : Nat → Nat} {cA : Nat → ClassId} (hD : ∀ S, va_D (xA ad) (xW ad cA S)) {N : Nat} {p1 : Int32} {S : St} {r : Int32 × St} (hm : fX8_type N p1 S = some r) : Met l yX8_type (wsm yX8_type cX8_type 2 (some .int)) rmX8_type (va_Pc [.ref (ad 0), .int p1] (Pre D cA (xW ad cA) (xS ad) S)) (Qo D (xW ad cA) (xA ad) (some (.int r.1)) r.2) 0 0 (xA ad) := met_of [.ref (ad 0), .int p1] (by decide) (Nat.le_of_ble_eq_true rfl) hD (xS_mv ad) (xS_kp ad) (fun p e s m below meth c C hr => vX8_type C hr rfl (N := N)  hm)
-- X8_clearText
def rmX8_clearText : Room := { frames := 0, cells := 0, slots := 0, locals := 0 }
def fX8_clearText (N : Nat)  (S : St) : Option (Int32 × St) := nm (S.1 1) fun y2 => stp (sI S 1 0) fun S2 => some (y2, S2)
set_option maxRecDepth 20000 in
theorem vX8_clearText {p : Program} {l : Launch} {e : Env} {s : State} {m : MethodId} {args : Array Value} {below : List Frame} {meth : Method} {c : Code} {Q : State → Prop} {D : va_G} {ad : Nat → Nat} {cA : Nat → ClassId} (C : Ok p s m args c D cA (xW ad cA) (xA ad) (xS ad) RX8 cX8_clearText 2) (hr : Rt meth (some .int)) {r : Int32 × St} (hQ : Q = MQ below (Qo D (xW ad cA) (xA ad) (some (.int r.1)) r.2) args s 0 0 (xA ad)) {N : Nat}  {S : St} (hm : fX8_clearText N  S = some r) : V p l e rmX8_clearText s m args below meth c Q D (xW ad cA) (xA ad) 2 S 0 [(0, .ref (ad 0))] [] := by
  unfold fX8_clearText at hm
  refine v_aload_n C (pc := 0) 0 dX8_clearText_0 rfl rfl ?_
  refine gX8_10 C (pc := 1) dX8_clearText_1 ?_
  refine gX8_67 C (pc := 4) dX8_clearText_4 ?_
  refine v_istore_nN C (pc := 7) [(0, .ref (ad 0))] hm dX8_clearText_7 rfl (by decide) rfl (fun y2 hm => ?_)
  refine v_aload_n C (pc := 8) 1 dX8_clearText_8 rfl rfl ?_
  refine gX8_10 C (pc := 9) dX8_clearText_9 ?_
  refine v_iconst C (pc := 12) 0 dX8_clearText_12 rfl ?_
  refine pX8_67 C (pc := 13) hm dX8_clearText_13 (fun S2 hm => ?_)
  refine v_iload_n C (pc := 16) 0 dX8_clearText_16 rfl rfl ?_
  exact v_iret C hr hQ (pc := 17) hm dX8_clearText_17
theorem mX8_clearText {l : Launch} {D : va_G} {ad : Nat → Nat} {cA : Nat → ClassId} (hD : ∀ S, va_D (xA ad) (xW ad cA S)) {N : Nat}  {S : St} {r : Int32 × St} (hm : fX8_clearText N  S = some r) : Met l yX8_clearText (wsm yX8_clearText cX8_clearText 2 (some .int)) rmX8_clearText (va_Pc [.ref (ad 0)] (Pre D cA (xW ad cA) (xS ad) S)) (Qo D (xW ad cA) (xA ad) (some (.int r.1)) r.2) 0 0 (xA ad) := met_of [.ref (ad 0)] (by decide) (Nat.le_of_ble_eq_true rfl) hD (xS_mv ad) (xS_kp ad) (fun p e s m below meth c C hr => vX8_clearText C hr rfl (N := N)  hm)
-- X8_readLevel
theorem infX3_fault : InfV yX3_fault cX3_fault 4 (some .int) 0 := ⟨⟨gm (i := 61) (by decide +kernel) rfl, gm (i := 385) (by decide +kernel) rfl, by decide +kernel⟩, gm (i := 383) (by decide +kernel) rfl, gm (i := 384) (by decide +kernel) rfl⟩
theorem kX8_70 {p : Program} {l : Launch} {e : Env} {R : Room} {s : State} {m : MethodId} {args : Array Value} {below : List Frame} {meth : Method} {c : Code} {Q : State → Prop} {D : va_G} {ad : Nat → Nat} {cA : Nat → ClassId} {cc : ByteArray} {nL : Nat} {S : St} {pc : Nat} {lv : List (Nat × Value)} {st : List Value} {ρ : Type} {res : ρ} (C : Ok p s m args c D cA (xW ad cA) (xA ad) (xS ad) RX8 cc nL) (hfr : rmX3_fault.frames + 1 ≤ R.frames) (hlo : 8 + (4 + 11) + rmX3_fault.locals ≤ R.locals) {N : Nat}  {E : Int32 → St → Option ρ} (hm : bd (fX3_fault N  S) E = some res) (hcat : (st.map fun v => v.category).sum ≤ 8) (hd : decode cc pc = .ok (.invokevirtual 70, 3)) (k : ∀ r S, E r S = some res → V p l e R s m args below meth c Q D (xW ad cA) (xA ad) nL S (pc + 3) lv (.int r :: st)) : V p l e R s m args below meth c Q D (xW ad cA) (xA ad) nL S pc lv (.ref (ad 9) :: st) := by
  obtain ⟨r, S1, h1, h2⟩ := bd_some hm
  exact v_callV C (gm (i := 382) (by decide +kernel) rfl : Cond.methodLink RX8 70 yX3_fault ∈ gw_tbl) infX3_fault (rm2 := rmX3_fault) ⟨rfl, rfl⟩ hfr hlo (mX3_fault C.2.2.2.2.2.2.1 h1) (As := []) (oX3 ad cA S) rfl rfl rfl rfl hcat hd (k r S1 h2)
theorem infX3_build : InfV yX3_build cX3_build 5 (some .long) 1 := ⟨⟨gm (i := 61) (by decide +kernel) rfl, gm (i := 424) (by decide +kernel) rfl, by decide +kernel⟩, gm (i := 422) (by decide +kernel) rfl, gm (i := 423) (by decide +kernel) rfl⟩
theorem kX8_74 {p : Program} {l : Launch} {e : Env} {R : Room} {s : State} {m : MethodId} {args : Array Value} {below : List Frame} {meth : Method} {c : Code} {Q : State → Prop} {D : va_G} {ad : Nat → Nat} {cA : Nat → ClassId} {cc : ByteArray} {nL : Nat} {S : St} {pc : Nat} {lv : List (Nat × Value)} {st : List Value} {ρ : Type} {res : ρ} (C : Ok p s m args c D cA (xW ad cA) (xA ad) (xS ad) RX8 cc nL) (hfr : rmX3_build.frames + 1 ≤ R.frames) (hlo : 8 + (5 + 11) + rmX3_build.locals ≤ R.locals) {N : Nat}  {E : Int64 → St → Option ρ} (hm : bd (fX3_build N  S) E = some res) (hcat : (st.map fun v => v.category).sum ≤ 8) (hd : decode cc pc = .ok (.invokevirtual 74, 3)) (k : ∀ r S, E r S = some res → V p l e R s m args below meth c Q D (xW ad cA) (xA ad) nL S (pc + 3) lv (.long r :: st)) : V p l e R s m args below meth c Q D (xW ad cA) (xA ad) nL S pc lv (.ref (ad 2) :: .ref (ad 9) :: st) := by
  obtain ⟨r, S1, h1, h2⟩ := bd_some hm
  exact v_callV C (gm (i := 421) (by decide +kernel) rfl : Cond.methodLink RX8 74 yX3_build ∈ gw_tbl) infX3_build (rm2 := rmX3_build) ⟨rfl, rfl⟩ hfr hlo (mX3_build C.2.2.2.2.2.2.1 h1) (As := [.ref (ad 2)]) (oX3 ad cA S) rfl rfl rfl rfl hcat hd (k r S1 h2)
theorem infX1_begin : InfV yX1_begin cX1_begin 3 none 1 := ⟨⟨gm (i := 63) (by decide +kernel) rfl, gm (i := 492) (by decide +kernel) rfl, by decide +kernel⟩, gm (i := 490) (by decide +kernel) rfl, gm (i := 491) (by decide +kernel) rfl⟩
theorem kX8_78 {p : Program} {l : Launch} {e : Env} {R : Room} {s : State} {m : MethodId} {args : Array Value} {below : List Frame} {meth : Method} {c : Code} {Q : State → Prop} {D : va_G} {ad : Nat → Nat} {cA : Nat → ClassId} {cc : ByteArray} {nL : Nat} {S : St} {pc : Nat} {lv : List (Nat × Value)} {st : List Value} {ρ : Type} {res : ρ} (C : Ok p s m args c D cA (xW ad cA) (xA ad) (xS ad) RX8 cc nL) (hfr : rmX1_begin.frames + 1 ≤ R.frames) (hlo : 8 + (3 + 11) + rmX1_begin.locals ≤ R.locals) {N : Nat} {p1 : Int64} {E : Unit → St → Option ρ} (hm : bd (fX1_begin N p1 S) E = some res) (hcat : (st.map fun v => v.category).sum ≤ 8) (hd : decode cc pc = .ok (.invokevirtual 78, 3)) (k : ∀ r S, E r S = some res → V p l e R s m args below meth c Q D (xW ad cA) (xA ad) nL S (pc + 3) lv (st)) : V p l e R s m args below meth c Q D (xW ad cA) (xA ad) nL S pc lv (.long p1 :: .ref (ad 12) :: st) := by
  obtain ⟨r, S1, h1, h2⟩ := bd_some hm
  exact v_callV C (gm (i := 489) (by decide +kernel) rfl : Cond.methodLink RX8 78 yX1_begin ∈ gw_tbl) infX1_begin (rm2 := rmX1_begin) ⟨rfl, rfl⟩ hfr hlo (mX1_begin C.2.2.2.2.2.2.1 h1) (As := [.long p1]) (oX1 ad cA S) rfl rfl rfl rfl hcat hd (k r S1 h2)
theorem infX5_forget : InfV yX5_forget cX5_forget 1 none 0 := ⟨⟨gm (i := 64) (by decide +kernel) rfl, gm (i := 496) (by decide +kernel) rfl, by decide +kernel⟩, gm (i := 494) (by decide +kernel) rfl, gm (i := 495) (by decide +kernel) rfl⟩
theorem kX8_82 {p : Program} {l : Launch} {e : Env} {R : Room} {s : State} {m : MethodId} {args : Array Value} {below : List Frame} {meth : Method} {c : Code} {Q : State → Prop} {D : va_G} {ad : Nat → Nat} {cA : Nat → ClassId} {cc : ByteArray} {nL : Nat} {S : St} {pc : Nat} {lv : List (Nat × Value)} {st : List Value} {ρ : Type} {res : ρ} (C : Ok p s m args c D cA (xW ad cA) (xA ad) (xS ad) RX8 cc nL) (hfr : rmX5_forget.frames + 1 ≤ R.frames) (hlo : 8 + (1 + 11) + rmX5_forget.locals ≤ R.locals) {N : Nat}  {E : Unit → St → Option ρ} (hm : bd (fX5_forget N  S) E = some res) (hcat : (st.map fun v => v.category).sum ≤ 8) (hd : decode cc pc = .ok (.invokevirtual 82, 3)) (k : ∀ r S, E r S = some res → V p l e R s m args below meth c Q D (xW ad cA) (xA ad) nL S (pc + 3) lv (st)) : V p l e R s m args below meth c Q D (xW ad cA) (xA ad) nL S pc lv (.ref (ad 13) :: st) := by
  obtain ⟨r, S1, h1, h2⟩ := bd_some hm
  exact v_callV C (gm (i := 493) (by decide +kernel) rfl : Cond.methodLink RX8 82 yX5_forget ∈ gw_tbl) infX5_forget (rm2 := rmX5_forget) ⟨rfl, rfl⟩ hfr hlo (mX5_forget C.2.2.2.2.2.2.1 h1) (As := []) (oX5 ad cA S) rfl rfl rfl rfl hcat hd (k r S1 h2)
theorem infX2_blockCount : InfV yX2_blockCount cX2_blockCount 3 (some .int) 0 := ⟨⟨gm (i := 57) (by decide +kernel) rfl, gm (i := 500) (by decide +kernel) rfl, by decide +kernel⟩, gm (i := 498) (by decide +kernel) rfl, gm (i := 499) (by decide +kernel) rfl⟩
theorem kX8_85 {p : Program} {l : Launch} {e : Env} {R : Room} {s : State} {m : MethodId} {args : Array Value} {below : List Frame} {meth : Method} {c : Code} {Q : State → Prop} {D : va_G} {ad : Nat → Nat} {cA : Nat → ClassId} {cc : ByteArray} {nL : Nat} {S : St} {pc : Nat} {lv : List (Nat × Value)} {st : List Value} {ρ : Type} {res : ρ} (C : Ok p s m args c D cA (xW ad cA) (xA ad) (xS ad) RX8 cc nL) (hfr : rmX2_blockCount.frames + 1 ≤ R.frames) (hlo : 8 + (3 + 11) + rmX2_blockCount.locals ≤ R.locals) {N : Nat}  {E : Int32 → St → Option ρ} (hm : bd (fX2_blockCount N  S) E = some res) (hcat : (st.map fun v => v.category).sum ≤ 8) (hd : decode cc pc = .ok (.invokevirtual 85, 3)) (k : ∀ r S, E r S = some res → V p l e R s m args below meth c Q D (xW ad cA) (xA ad) nL S (pc + 3) lv (.int r :: st)) : V p l e R s m args below meth c Q D (xW ad cA) (xA ad) nL S pc lv (.ref (ad 2) :: st) := by
  obtain ⟨r, S1, h1, h2⟩ := bd_some hm
  exact v_callV C (gm (i := 497) (by decide +kernel) rfl : Cond.methodLink RX8 85 yX2_blockCount ∈ gw_tbl) infX2_blockCount (rm2 := rmX2_blockCount) ⟨rfl, rfl⟩ hfr hlo (mX2_blockCount C.2.2.2.2.2.2.1 h1) (As := []) (oX2 ad cA S) rfl rfl rfl rfl hcat hd (k r S1 h2)
def rmX8_readLevel : Room := { frames := 5, cells := 0, slots := 0, locals := 110 }
def fX8_readLevel (N : Nat)  (S : St) : Option (Int32 × St) := bd (fX3_fault N  S) fun r6 S7 => if r6 = (-1) then (bd (fX3_build N  S7) fun r7 S8 => bd (fX1_begin N r7 S8) fun r8 S9 => stp (sI S9 0 0) fun S10 => bd (fX5_forget N  S10) fun r9 S11 => bd (fX2_blockCount N  S11) fun r10 S12 => some (r10, S12)) else (some (((-100) - r6), S7))
set_option maxRecDepth 20000 in
theorem vX8_readLevel {p : Program} {l : Launch} {e : Env} {s : State} {m : MethodId} {args : Array Value} {below : List Frame} {meth : Method} {c : Code} {Q : State → Prop} {D : va_G} {ad : Nat → Nat} {cA : Nat → ClassId} (C : Ok p s m args c D cA (xW ad cA) (xA ad) (xS ad) RX8 cX8_readLevel 2) (hr : Rt meth (some .int)) {r : Int32 × St} (hQ : Q = MQ below (Qo D (xW ad cA) (xA ad) (some (.int r.1)) r.2) args s 0 0 (xA ad)) {N : Nat}  {S : St} (hm : fX8_readLevel N  S = some r) : V p l e rmX8_readLevel s m args below meth c Q D (xW ad cA) (xA ad) 2 S 0 [(0, .ref (ad 0))] [] := by
  unfold fX8_readLevel at hm
  refine v_aload_n C (pc := 0) 0 dX8_readLevel_0 rfl rfl ?_
  refine gX8_28 C (pc := 1) dX8_readLevel_1 ?_
  refine kX8_70 C (Nat.le_of_ble_eq_true rfl) (Nat.le_of_ble_eq_true rfl) (pc := 4) hm (Nat.le_of_ble_eq_true rfl) dX8_readLevel_4 (fun r6 S7 hm => ?_)
  refine v_istore_n C (pc := 7) [(1, .int r6), (0, .ref (ad 0))] dX8_readLevel_7 rfl (by decide) rfl ?_
  refine v_iload_n C (pc := 8) 0 dX8_readLevel_8 rfl rfl ?_
  refine v_iconst C (pc := 9) (-1) dX8_readLevel_9 rfl ?_
  refine v_icmp_eq C (pc := 10) hm 18 dX8_readLevel_10 rfl (fun hm => ?_) (fun hm => ?_)
  · refine v_aload_n C (pc := 18) 1 dX8_readLevel_18 rfl rfl ?_
    refine gX8_44 C (pc := 19) dX8_readLevel_19 ?_
    refine v_aload_n C (pc := 22) 1 dX8_readLevel_22 rfl rfl ?_
    refine gX8_28 C (pc := 23) dX8_readLevel_23 ?_
    refine v_aload_n C (pc := 26) 1 dX8_readLevel_26 rfl rfl ?_
    refine gX8_19 C (pc := 27) dX8_readLevel_27 ?_
    refine kX8_74 C (Nat.le_of_ble_eq_true rfl) (Nat.le_of_ble_eq_true rfl) (pc := 30) hm (Nat.le_of_ble_eq_true rfl) dX8_readLevel_30 (fun r7 S8 hm => ?_)
    refine kX8_78 C (Nat.le_of_ble_eq_true rfl) (Nat.le_of_ble_eq_true rfl) (pc := 33) hm (Nat.le_of_ble_eq_true rfl) dX8_readLevel_33 (fun r8 S9 hm => ?_)
    refine v_aload_n C (pc := 36) 1 dX8_readLevel_36 rfl rfl ?_
    refine v_iconst C (pc := 37) 0 dX8_readLevel_37 rfl ?_
    refine pX8_59 C (pc := 38) hm dX8_readLevel_38 (fun S10 hm => ?_)
    refine v_aload_n C (pc := 41) 1 dX8_readLevel_41 rfl rfl ?_
    refine gX8_51 C (pc := 42) dX8_readLevel_42 ?_
    refine kX8_82 C (Nat.le_of_ble_eq_true rfl) (Nat.le_of_ble_eq_true rfl) (pc := 45) hm (Nat.le_of_ble_eq_true rfl) dX8_readLevel_45 (fun r9 S11 hm => ?_)
    refine v_aload_n C (pc := 48) 1 dX8_readLevel_48 rfl rfl ?_
    refine gX8_19 C (pc := 49) dX8_readLevel_49 ?_
    refine kX8_85 C (Nat.le_of_ble_eq_true rfl) (Nat.le_of_ble_eq_true rfl) (pc := 52) hm (Nat.le_of_ble_eq_true rfl) dX8_readLevel_52 (fun r10 S12 hm => ?_)
    exact v_iret C hr hQ (pc := 55) hm dX8_readLevel_55
  · refine v_bipush C (pc := 13) (-100) dX8_readLevel_13 rfl ?_
    refine v_iload_n C (pc := 15) 0 dX8_readLevel_15 rfl rfl ?_
    refine v_isub C (pc := 16) dX8_readLevel_16 ?_
    exact v_iret C hr hQ (pc := 17) hm dX8_readLevel_17
theorem mX8_readLevel {l : Launch} {D : va_G} {ad : Nat → Nat} {cA : Nat → ClassId} (hD : ∀ S, va_D (xA ad) (xW ad cA S)) {N : Nat}  {S : St} {r : Int32 × St} (hm : fX8_readLevel N  S = some r) : Met l yX8_readLevel (wsm yX8_readLevel cX8_readLevel 2 (some .int)) rmX8_readLevel (va_Pc [.ref (ad 0)] (Pre D cA (xW ad cA) (xS ad) S)) (Qo D (xW ad cA) (xA ad) (some (.int r.1)) r.2) 0 0 (xA ad) := met_of [.ref (ad 0)] (by decide) (Nat.le_of_ble_eq_true rfl) hD (xS_mv ad) (xS_kp ad) (fun p e s m below meth c C hr => vX8_readLevel C hr rfl (N := N)  hm)
-- X8_kindOfLetter
theorem kX8_268_KIND_LETTERS {p : Program} {l : Launch} {e : Env} {R : Room} {s : State} {m : MethodId} {args : Array Value} {below : List Frame} {meth : Method} {c : Code} {Q : State → Prop} {D : va_G} {ad : Nat → Nat} {cA : Nat → ClassId} {cc : ByteArray} {nL : Nat} {S : St} {pc : Nat} {lv : List (Nat × Value)} {st : List Value} {ρ : Type} {res : ρ} (C : Ok p s m args c D cA (xW ad cA) (xA ad) (xS ad) RX8 cc nL) (hfr : rmX8_placeOf_KIND_LETTERS.frames + 1 ≤ R.frames) (hlo : 8 + (3 + 11) + rmX8_placeOf_KIND_LETTERS.locals ≤ R.locals) {N : Nat} {p1 : Int32} {E : Int32 → St → Option ρ} (hm : bd (fX8_placeOf_KIND_LETTERS N p1 S) E = some res) (hcat : (st.map fun v => v.category).sum ≤ 8) (hd : decode cc pc = .ok (.invokestatic 268, 3)) (k : ∀ r S, E r S = some res → V p l e R s m args below meth c Q D (xW ad cA) (xA ad) nL S (pc + 3) lv (.int r :: st)) : V p l e R s m args below meth c Q D (xW ad cA) (xA ad) nL S pc lv (.ref (ad 200) :: .int p1 :: st) := by
  obtain ⟨r, S1, h1, h2⟩ := bd_some hm
  exact v_callS C (gm (i := 536) (by decide +kernel) rfl : Cond.methodLink RX8 268 yX8_placeOf ∈ gw_tbl) infX8_placeOf (rm2 := rmX8_placeOf_KIND_LETTERS) ⟨rfl, rfl⟩ hfr hlo (mX8_placeOf_KIND_LETTERS C.2.2.2.2.2.2.1 h1) (As := [.int p1, .ref (ad 200)]) rfl rfl hcat hd (k r S1 h2)
def rmX8_kindOfLetter : Room := { frames := 1, cells := 0, slots := 0, locals := 22 }
def fX8_kindOfLetter (N : Nat) (p1 : Int32) (S : St) : Option (Int32 × St) := bd (fX8_placeOf_KIND_LETTERS N p1 S) fun r2 S2 => some (r2, S2)
set_option maxRecDepth 20000 in
theorem vX8_kindOfLetter {p : Program} {l : Launch} {e : Env} {s : State} {m : MethodId} {args : Array Value} {below : List Frame} {meth : Method} {c : Code} {Q : State → Prop} {D : va_G} {ad : Nat → Nat} {cA : Nat → ClassId} (C : Ok p s m args c D cA (xW ad cA) (xA ad) (xS ad) RX8 cX8_kindOfLetter 1) (hr : Rt meth (some .int)) {r : Int32 × St} (hQ : Q = MQ below (Qo D (xW ad cA) (xA ad) (some (.int r.1)) r.2) args s 0 0 (xA ad)) {N : Nat} {p1 : Int32} {S : St} (hm : fX8_kindOfLetter N p1 S = some r) : V p l e rmX8_kindOfLetter s m args below meth c Q D (xW ad cA) (xA ad) 1 S 0 [(0, .int p1)] [] := by
  unfold fX8_kindOfLetter at hm
  refine v_iload_n C (pc := 0) 0 dX8_kindOfLetter_0 rfl rfl ?_
  refine v_gets C (pc := 1) C.2.2.2.2.2.2.2.1.1.1 flX8_264 rfl dX8_kindOfLetter_1 ?_
  refine kX8_268_KIND_LETTERS C (Nat.le_of_ble_eq_true rfl) (Nat.le_of_ble_eq_true rfl) (pc := 4) hm (Nat.le_of_ble_eq_true rfl) dX8_kindOfLetter_4 (fun r2 S2 hm => ?_)
  exact v_iret C hr hQ (pc := 7) hm dX8_kindOfLetter_7
theorem mX8_kindOfLetter {l : Launch} {D : va_G} {ad : Nat → Nat} {cA : Nat → ClassId} (hD : ∀ S, va_D (xA ad) (xW ad cA S)) {N : Nat} {p1 : Int32} {S : St} {r : Int32 × St} (hm : fX8_kindOfLetter N p1 S = some r) : Met l yX8_kindOfLetter (wsm yX8_kindOfLetter cX8_kindOfLetter 1 (some .int)) rmX8_kindOfLetter (va_Pc [.int p1] (Pre D cA (xW ad cA) (xS ad) S)) (Qo D (xW ad cA) (xA ad) (some (.int r.1)) r.2) 0 0 (xA ad) := met_of [.int p1] (by decide) (Nat.le_of_ble_eq_true rfl) hD (xS_mv ad) (xS_kp ad) (fun p e s m below meth c C hr => vX8_kindOfLetter C hr rfl (N := N)  hm)
-- X8_faultOfMoves
theorem kX8_94 {p : Program} {l : Launch} {e : Env} {R : Room} {s : State} {m : MethodId} {args : Array Value} {below : List Frame} {meth : Method} {c : Code} {Q : State → Prop} {D : va_G} {ad : Nat → Nat} {cA : Nat → ClassId} {cc : ByteArray} {nL : Nat} {S : St} {pc : Nat} {lv : List (Nat × Value)} {st : List Value} {ρ : Type} {res : ρ} (C : Ok p s m args c D cA (xW ad cA) (xA ad) (xS ad) RX8 cc nL) (hfr : rmX6_at.frames + 1 ≤ R.frames) (hlo : 8 + (2 + 11) + rmX6_at.locals ≤ R.locals) {N : Nat} {p1 : Int32} {E : Int32 → St → Option ρ} (hm : bd (fX6_at N p1 S) E = some res) (hcat : (st.map fun v => v.category).sum ≤ 8) (hd : decode cc pc = .ok (.invokevirtual 94, 3)) (k : ∀ r S, E r S = some res → V p l e R s m args below meth c Q D (xW ad cA) (xA ad) nL S (pc + 3) lv (.int r :: st)) : V p l e R s m args below meth c Q D (xW ad cA) (xA ad) nL S pc lv (.int p1 :: .ref (ad 1) :: st) := by
  obtain ⟨r, S1, h1, h2⟩ := bd_some hm
  exact v_callV C (gm (i := 529) (by decide +kernel) rfl : Cond.methodLink RX8 94 yX6_at ∈ gw_tbl) infX6_at (rm2 := rmX6_at) ⟨rfl, rfl⟩ hfr hlo (mX6_at C.2.2.2.2.2.2.1 h1) (As := [.int p1]) (oX6 ad cA S) rfl rfl rfl rfl hcat hd (k r S1 h2)
theorem kX8_146 {p : Program} {l : Launch} {e : Env} {R : Room} {s : State} {m : MethodId} {args : Array Value} {below : List Frame} {meth : Method} {c : Code} {Q : State → Prop} {D : va_G} {ad : Nat → Nat} {cA : Nat → ClassId} {cc : ByteArray} {nL : Nat} {S : St} {pc : Nat} {lv : List (Nat × Value)} {st : List Value} {ρ : Type} {res : ρ} (C : Ok p s m args c D cA (xW ad cA) (xA ad) (xS ad) RX8 cc nL) (hfr : rmX2_has.frames + 1 ≤ R.frames) (hlo : 8 + (2 + 11) + rmX2_has.locals ≤ R.locals) {N : Nat} {p1 : Int32} {E : Bool → St → Option ρ} (hm : bd (fX2_has N p1 S) E = some res) (hcat : (st.map fun v => v.category).sum ≤ 8) (hd : decode cc pc = .ok (.invokevirtual 146, 3)) (k : ∀ r S, E r S = some res → V p l e R s m args below meth c Q D (xW ad cA) (xA ad) nL S (pc + 3) lv (.int (b2i r) :: st)) : V p l e R s m args below meth c Q D (xW ad cA) (xA ad) nL S pc lv (.int p1 :: .ref (ad 2) :: st) := by
  obtain ⟨r, S1, h1, h2⟩ := bd_some hm
  exact v_callV C (gm (i := 530) (by decide +kernel) rfl : Cond.methodLink RX8 146 yX2_has ∈ gw_tbl) infX2_has (rm2 := rmX2_has) ⟨rfl, rfl⟩ hfr hlo (mX2_has C.2.2.2.2.2.2.1 h1) (As := [.int p1]) (oX2 ad cA S) rfl rfl rfl rfl hcat hd (k r S1 h2)
theorem infX8_kindOfLetter : InfS yX8_kindOfLetter cX8_kindOfLetter 1 (some .int) 1 := ⟨⟨gm (i := 55) (by decide +kernel) rfl, gm (i := 533) (by decide +kernel) rfl, by decide +kernel⟩, gm (i := 532) (by decide +kernel) rfl⟩
theorem kX8_98 {p : Program} {l : Launch} {e : Env} {R : Room} {s : State} {m : MethodId} {args : Array Value} {below : List Frame} {meth : Method} {c : Code} {Q : State → Prop} {D : va_G} {ad : Nat → Nat} {cA : Nat → ClassId} {cc : ByteArray} {nL : Nat} {S : St} {pc : Nat} {lv : List (Nat × Value)} {st : List Value} {ρ : Type} {res : ρ} (C : Ok p s m args c D cA (xW ad cA) (xA ad) (xS ad) RX8 cc nL) (hfr : rmX8_kindOfLetter.frames + 1 ≤ R.frames) (hlo : 8 + (1 + 11) + rmX8_kindOfLetter.locals ≤ R.locals) {N : Nat} {p1 : Int32} {E : Int32 → St → Option ρ} (hm : bd (fX8_kindOfLetter N p1 S) E = some res) (hcat : (st.map fun v => v.category).sum ≤ 8) (hd : decode cc pc = .ok (.invokestatic 98, 3)) (k : ∀ r S, E r S = some res → V p l e R s m args below meth c Q D (xW ad cA) (xA ad) nL S (pc + 3) lv (.int r :: st)) : V p l e R s m args below meth c Q D (xW ad cA) (xA ad) nL S pc lv (.int p1 :: st) := by
  obtain ⟨r, S1, h1, h2⟩ := bd_some hm
  exact v_callS C (gm (i := 531) (by decide +kernel) rfl : Cond.methodLink RX8 98 yX8_kindOfLetter ∈ gw_tbl) infX8_kindOfLetter (rm2 := rmX8_kindOfLetter) ⟨rfl, rfl⟩ hfr hlo (mX8_kindOfLetter C.2.2.2.2.2.2.1 h1) (As := [.int p1]) rfl rfl hcat hd (k r S1 h2)
theorem kX8_215 {p : Program} {l : Launch} {e : Env} {R : Room} {s : State} {m : MethodId} {args : Array Value} {below : List Frame} {meth : Method} {c : Code} {Q : State → Prop} {D : va_G} {ad : Nat → Nat} {cA : Nat → ClassId} {cc : ByteArray} {nL : Nat} {S : St} {pc : Nat} {lv : List (Nat × Value)} {st : List Value} {ρ : Type} {res : ρ} (C : Ok p s m args c D cA (xW ad cA) (xA ad) (xS ad) RX8 cc nL) (hfr : rmX4_attempt.frames + 1 ≤ R.frames) (hlo : 8 + (6 + 11) + rmX4_attempt.locals ≤ R.locals) {i : Nat} (hi : i < 2) {N : Nat} {p1 : Int32} {p2 : Int32} {E : Int32 → St → Option ρ} (hm : bd (fX4_attempt N i p1 p2 S) E = some res) (hcat : (st.map fun v => v.category).sum ≤ 8) (hd : decode cc pc = .ok (.invokevirtual 215, 3)) (k : ∀ r S, E r S = some res → V p l e R s m args below meth c Q D (xW ad cA) (xA ad) nL S (pc + 3) lv (.int r :: st)) : V p l e R s m args below meth c Q D (xW ad cA) (xA ad) nL S pc lv (.int p2 :: .int p1 :: .ref (ad (10 + i)) :: st) := by
  obtain ⟨r, S1, h1, h2⟩ := bd_some hm
  exact v_callV C (gm (i := 537) (by decide +kernel) rfl : Cond.methodLink RX8 215 yX4_attempt ∈ gw_tbl) infX4_attempt (rm2 := rmX4_attempt) ⟨rfl, rfl⟩ hfr hlo (mX4_attempt C.2.2.2.2.2.2.1 hi h1) (As := [.int p1, .int p2]) (oX4 ad cA i hi S) rfl rfl rfl rfl hcat hd (k r S1 h2)
theorem kX8_136 {p : Program} {l : Launch} {e : Env} {R : Room} {s : State} {m : MethodId} {args : Array Value} {below : List Frame} {meth : Method} {c : Code} {Q : State → Prop} {D : va_G} {ad : Nat → Nat} {cA : Nat → ClassId} {cc : ByteArray} {nL : Nat} {S : St} {pc : Nat} {lv : List (Nat × Value)} {st : List Value} {ρ : Type} {res : ρ} (C : Ok p s m args c D cA (xW ad cA) (xA ad) (xS ad) RX8 cc nL) (hfr : rmX4_stand.frames + 1 ≤ R.frames) (hlo : 8 + (4 + 11) + rmX4_stand.locals ≤ R.locals) {i : Nat} (hi : i < 2) {N : Nat} {p1 : Int64} {E : Unit → St → Option ρ} (hm : bd (fX4_stand N i p1 S) E = some res) (hcat : (st.map fun v => v.category).sum ≤ 8) (hd : decode cc pc = .ok (.invokevirtual 136, 3)) (k : ∀ r S, E r S = some res → V p l e R s m args below meth c Q D (xW ad cA) (xA ad) nL S (pc + 3) lv (st)) : V p l e R s m args below meth c Q D (xW ad cA) (xA ad) nL S pc lv (.long p1 :: .ref (ad (10 + i)) :: st) := by
  obtain ⟨r, S1, h1, h2⟩ := bd_some hm
  exact v_callV C (gm (i := 517) (by decide +kernel) rfl : Cond.methodLink RX8 136 yX4_stand ∈ gw_tbl) infX4_stand (rm2 := rmX4_stand) ⟨rfl, rfl⟩ hfr hlo (mX4_stand C.2.2.2.2.2.2.1 hi h1) (As := [.long p1]) (oX4 ad cA i hi S) rfl rfl rfl rfl hcat hd (k r S1 h2)
theorem infX1_present : InfV yX1_present cX1_present 1 (some .long) 0 := ⟨⟨gm (i := 63) (by decide +kernel) rfl, gm (i := 516) (by decide +kernel) rfl, by decide +kernel⟩, gm (i := 514) (by decide +kernel) rfl, gm (i := 515) (by decide +kernel) rfl⟩
theorem kX8_132 {p : Program} {l : Launch} {e : Env} {R : Room} {s : State} {m : MethodId} {args : Array Value} {below : List Frame} {meth : Method} {c : Code} {Q : State → Prop} {D : va_G} {ad : Nat → Nat} {cA : Nat → ClassId} {cc : ByteArray} {nL : Nat} {S : St} {pc : Nat} {lv : List (Nat × Value)} {st : List Value} {ρ : Type} {res : ρ} (C : Ok p s m args c D cA (xW ad cA) (xA ad) (xS ad) RX8 cc nL) (hfr : rmX1_present.frames + 1 ≤ R.frames) (hlo : 8 + (1 + 11) + rmX1_present.locals ≤ R.locals) {N : Nat}  {E : Int64 → St → Option ρ} (hm : bd (fX1_present N  S) E = some res) (hcat : (st.map fun v => v.category).sum ≤ 8) (hd : decode cc pc = .ok (.invokevirtual 132, 3)) (k : ∀ r S, E r S = some res → V p l e R s m args below meth c Q D (xW ad cA) (xA ad) nL S (pc + 3) lv (.long r :: st)) : V p l e R s m args below meth c Q D (xW ad cA) (xA ad) nL S pc lv (.ref (ad 12) :: st) := by
  obtain ⟨r, S1, h1, h2⟩ := bd_some hm
  exact v_callV C (gm (i := 513) (by decide +kernel) rfl : Cond.methodLink RX8 132 yX1_present ∈ gw_tbl) infX1_present (rm2 := rmX1_present) ⟨rfl, rfl⟩ hfr hlo (mX1_present C.2.2.2.2.2.2.1 h1) (As := []) (oX1 ad cA S) rfl rfl rfl rfl hcat hd (k r S1 h2)
def rmX8_faultOfMoves : Room := { frames := 4, cells := 0, slots := 0, locals := 113 }
def fX8_faultOfMoves_82 (N : Nat)  (x1 : Int32) (S : St) : Option (Int32 × St) := some ((x1 + 1), S)
set_option maxRecDepth 20000 in
theorem vX8_faultOfMoves_82 {p : Program} {l : Launch} {e : Env} {s : State} {m : MethodId} {args : Array Value} {below : List Frame} {meth : Method} {c : Code} {Q : State → Prop} {D : va_G} {ad : Nat → Nat} {cA : Nat → ClassId} (C : Ok p s m args c D cA (xW ad cA) (xA ad) (xS ad) RX8 cX8_faultOfMoves 4) (hr : Rt meth (some .int)) {r : Int32 × St} (hQ : Q = MQ below (Qo D (xW ad cA) (xA ad) (some (.int r.1)) r.2) args s 0 0 (xA ad)) {N : Nat}  {x1 : Int32}  {S : St} (hm : fX8_faultOfMoves_82 N  x1 S = some r) : V p l e rmX8_faultOfMoves s m args below meth c Q D (xW ad cA) (xA ad) 4 S 82 [(1, .int x1)] [] := by
  unfold fX8_faultOfMoves_82 at hm
  refine v_iload_n C (pc := 82) 0 dX8_faultOfMoves_82 rfl rfl ?_
  refine v_iconst C (pc := 83) 1 dX8_faultOfMoves_83 rfl ?_
  refine v_iadd C (pc := 84) dX8_faultOfMoves_84 ?_
  exact v_iret C hr hQ (pc := 85) hm dX8_faultOfMoves_85
def fX8_faultOfMoves_16b (N : Nat)  (k16 : Int32 → St → Option (Int32 × St)) (x1 : Int32) (S : St) : Option (Int32 × St) := if (S.1 1) ≤ x1 then (some ((-1), S)) else (bd (fX6_at N x1 S) fun r17 S15 => nm (r17 - 97) fun y18 => bd (fX2_has N y18 S15) fun r19 S16 => if (b2i r19) = 0 then (some (x1, S16)) else (bd (fX6_at N (x1 + 1) S16) fun r20 S17 => bd (fX8_kindOfLetter N r20 S17) fun r21 S18 => if r21 < 0 then (fX8_faultOfMoves_82 N x1 S18) else (bd (fX4_attempt N 0 y18 r21 S18) fun r22 S19 => if r22 = 0 then (fX8_faultOfMoves_82 N x1 S19) else (bd (fX4_stand N 0 (S19.2.1 8) S19) fun r23 S20 => k16 (x1 + 2) S20))))
def fX8_faultOfMoves_16 (N : Nat)  : Nat → Int32 → St → Option (Int32 × St)
  | 0 => fun _ _ => none
  | n + 1 => fun x1 S => fX8_faultOfMoves_16b N  (fX8_faultOfMoves_16 N  n) x1 S
set_option maxRecDepth 20000 in
theorem vX8_faultOfMoves_16b {p : Program} {l : Launch} {e : Env} {s : State} {m : MethodId} {args : Array Value} {below : List Frame} {meth : Method} {c : Code} {Q : State → Prop} {D : va_G} {ad : Nat → Nat} {cA : Nat → ClassId} (C : Ok p s m args c D cA (xW ad cA) (xA ad) (xS ad) RX8 cX8_faultOfMoves 4) (hr : Rt meth (some .int)) {r : Int32 × St} (hQ : Q = MQ below (Qo D (xW ad cA) (xA ad) (some (.int r.1)) r.2) args s 0 0 (xA ad)) {N : Nat}  {k16 : Int32 → St → Option (Int32 × St)} (hk16 : ∀ (x1 : Int32) (S : St), k16 x1 S = some r → V p l e rmX8_faultOfMoves s m args below meth c Q D (xW ad cA) (xA ad) 4 S 16 [(0, .ref (ad 0)), (1, .int x1)] []) {x1 : Int32}  {S : St} (hm : fX8_faultOfMoves_16b N  k16 x1 S = some r) : V p l e rmX8_faultOfMoves s m args below meth c Q D (xW ad cA) (xA ad) 4 S 16 [(0, .ref (ad 0)), (1, .int x1)] [] := by
  unfold fX8_faultOfMoves_16b at hm
  refine v_iload_n C (pc := 16) 1 dX8_faultOfMoves_16 rfl rfl ?_
  refine v_aload_n C (pc := 17) 0 dX8_faultOfMoves_17 rfl rfl ?_
  refine gX8_10 C (pc := 18) dX8_faultOfMoves_18 ?_
  refine gX8_67 C (pc := 21) dX8_faultOfMoves_21 ?_
  refine v_icmp_ge C (pc := 24) hm 106 dX8_faultOfMoves_24 rfl (fun hm => ?_) (fun hm => ?_)
  · refine v_iconst C (pc := 106) (-1) dX8_faultOfMoves_106 rfl ?_
    exact v_iret C hr hQ (pc := 107) hm dX8_faultOfMoves_107
  · refine v_aload_n C (pc := 27) 0 dX8_faultOfMoves_27 rfl rfl ?_
    refine gX8_10 C (pc := 28) dX8_faultOfMoves_28 ?_
    refine v_iload_n C (pc := 31) 1 dX8_faultOfMoves_31 rfl rfl ?_
    refine kX8_94 C (Nat.le_of_ble_eq_true rfl) (Nat.le_of_ble_eq_true rfl) (pc := 32) hm (Nat.le_of_ble_eq_true rfl) dX8_faultOfMoves_32 (fun r17 S15 hm => ?_)
    refine v_bipush C (pc := 35) 97 dX8_faultOfMoves_35 rfl ?_
    refine v_isub C (pc := 37) dX8_faultOfMoves_37 ?_
    refine v_istore_nN C (pc := 38) [(0, .ref (ad 0)), (1, .int x1)] hm dX8_faultOfMoves_38 rfl (by decide) rfl (fun y18 hm => ?_)
    refine v_aload_n C (pc := 39) 1 dX8_faultOfMoves_39 rfl rfl ?_
    refine gX8_19 C (pc := 40) dX8_faultOfMoves_40 ?_
    refine v_iload_n C (pc := 43) 0 dX8_faultOfMoves_43 rfl rfl ?_
    refine kX8_146 C (Nat.le_of_ble_eq_true rfl) (Nat.le_of_ble_eq_true rfl) (pc := 44) hm (Nat.le_of_ble_eq_true rfl) dX8_faultOfMoves_44 (fun r19 S16 hm => ?_)
    refine v_if_ne C (pc := 47) hm 52 dX8_faultOfMoves_47 rfl (fun hm => ?_) (fun hm => ?_)
    · refine v_aload_n C (pc := 52) 1 dX8_faultOfMoves_52 rfl rfl ?_
      refine gX8_10 C (pc := 53) dX8_faultOfMoves_53 ?_
      refine v_iload_n C (pc := 56) 2 dX8_faultOfMoves_56 rfl rfl ?_
      refine v_iconst C (pc := 57) 1 dX8_faultOfMoves_57 rfl ?_
      refine v_iadd C (pc := 58) dX8_faultOfMoves_58 ?_
      refine kX8_94 C (Nat.le_of_ble_eq_true rfl) (Nat.le_of_ble_eq_true rfl) (pc := 59) hm (Nat.le_of_ble_eq_true rfl) dX8_faultOfMoves_59 (fun r20 S17 hm => ?_)
      refine kX8_98 C (Nat.le_of_ble_eq_true rfl) (Nat.le_of_ble_eq_true rfl) (pc := 62) hm (Nat.le_of_ble_eq_true rfl) dX8_faultOfMoves_62 (fun r21 S18 hm => ?_)
      refine v_istore_n C (pc := 65) [(3, .int r21), (2, .int y18), (0, .ref (ad 0)), (1, .int x1)] dX8_faultOfMoves_65 rfl (by decide) rfl ?_
      refine v_iload_n C (pc := 66) 0 dX8_faultOfMoves_66 rfl rfl ?_
      refine v_if_lt C (pc := 67) hm 82 dX8_faultOfMoves_67 rfl (fun hm => ?_) (fun hm => ?_)
      · exact v_sub [3] rfl (vX8_faultOfMoves_82 C hr hQ (N := N) hm)
      · refine v_aload_n C (pc := 70) 2 dX8_faultOfMoves_70 rfl rfl ?_
        refine gX8_37 C (pc := 71) dX8_faultOfMoves_71 ?_
        refine v_iload_n C (pc := 74) 1 dX8_faultOfMoves_74 rfl rfl ?_
        refine v_iload_n C (pc := 75) 0 dX8_faultOfMoves_75 rfl rfl ?_
        refine kX8_215 C (Nat.le_of_ble_eq_true rfl) (Nat.le_of_ble_eq_true rfl) (i := 0) (by decide) (pc := 76) hm (Nat.le_of_ble_eq_true rfl) dX8_faultOfMoves_76 (fun r22 S19 hm => ?_)
        refine v_if_ne C (pc := 79) hm 86 dX8_faultOfMoves_79 rfl (fun hm => ?_) (fun hm => ?_)
        · refine v_aload_n C (pc := 86) 2 dX8_faultOfMoves_86 rfl rfl ?_
          refine gX8_37 C (pc := 87) dX8_faultOfMoves_87 ?_
          refine v_aload_n C (pc := 90) 2 dX8_faultOfMoves_90 rfl rfl ?_
          refine gX8_37 C (pc := 91) dX8_faultOfMoves_91 ?_
          refine gX8_256 C (i := 0) (by decide) (pc := 94) dX8_faultOfMoves_94 ?_
          refine kX8_136 C (Nat.le_of_ble_eq_true rfl) (Nat.le_of_ble_eq_true rfl) (i := 0) (by decide) (pc := 97) hm (Nat.le_of_ble_eq_true rfl) dX8_faultOfMoves_97 (fun r23 S20 hm => ?_)
          refine v_iinc C (pc := 100) 2 3 [(1, .int (x1 + 2)), (3, .int r21), (2, .int y18), (0, .ref (ad 0))] dX8_faultOfMoves_100 rfl rfl (by decide) rfl ?_
          refine v_goto C (pc := 103) 16 dX8_faultOfMoves_103 rfl ?_
          exact v_sub [3, 0] rfl (hk16 _ _ hm)
        · exact v_sub [3] rfl (vX8_faultOfMoves_82 C hr hQ (N := N) hm)
    · refine v_iload_n C (pc := 50) 2 dX8_faultOfMoves_50 rfl rfl ?_
      exact v_iret C hr hQ (pc := 51) hm dX8_faultOfMoves_51
theorem vX8_faultOfMoves_16 {p : Program} {l : Launch} {e : Env} {s : State} {m : MethodId} {args : Array Value} {below : List Frame} {meth : Method} {c : Code} {Q : State → Prop} {D : va_G} {ad : Nat → Nat} {cA : Nat → ClassId} (C : Ok p s m args c D cA (xW ad cA) (xA ad) (xS ad) RX8 cX8_faultOfMoves 4) (hr : Rt meth (some .int)) {r : Int32 × St} (hQ : Q = MQ below (Qo D (xW ad cA) (xA ad) (some (.int r.1)) r.2) args s 0 0 (xA ad)) {N : Nat}  (n : Nat) : ∀ (x1 : Int32) (S : St), fX8_faultOfMoves_16 N  n x1 S = some r → V p l e rmX8_faultOfMoves s m args below meth c Q D (xW ad cA) (xA ad) 4 S 16 [(0, .ref (ad 0)), (1, .int x1)] [] := by
  induction n with
  | zero => intro _ _  hm; exact absurd hm (by intro h; cases h)
  | succ n ih => intro _ _  hm; exact vX8_faultOfMoves_16b C hr hQ (N := N)   ih  hm
def fX8_faultOfMoves (N : Nat)  (S : St) : Option (Int32 × St) := bd (fX1_present N  S) fun r24 S21 => bd (fX4_stand N 0 r24 S21) fun r25 S22 => fX8_faultOfMoves_16 N N 0 S22
set_option maxRecDepth 20000 in
theorem vX8_faultOfMoves {p : Program} {l : Launch} {e : Env} {s : State} {m : MethodId} {args : Array Value} {below : List Frame} {meth : Method} {c : Code} {Q : State → Prop} {D : va_G} {ad : Nat → Nat} {cA : Nat → ClassId} (C : Ok p s m args c D cA (xW ad cA) (xA ad) (xS ad) RX8 cX8_faultOfMoves 4) (hr : Rt meth (some .int)) {r : Int32 × St} (hQ : Q = MQ below (Qo D (xW ad cA) (xA ad) (some (.int r.1)) r.2) args s 0 0 (xA ad)) {N : Nat}  {S : St} (hm : fX8_faultOfMoves N  S = some r) : V p l e rmX8_faultOfMoves s m args below meth c Q D (xW ad cA) (xA ad) 4 S 0 [(0, .ref (ad 0))] [] := by
  unfold fX8_faultOfMoves at hm
  refine v_aload_n C (pc := 0) 0 dX8_faultOfMoves_0 rfl rfl ?_
  refine gX8_37 C (pc := 1) dX8_faultOfMoves_1 ?_
  refine v_aload_n C (pc := 4) 0 dX8_faultOfMoves_4 rfl rfl ?_
  refine gX8_44 C (pc := 5) dX8_faultOfMoves_5 ?_
  refine kX8_132 C (Nat.le_of_ble_eq_true rfl) (Nat.le_of_ble_eq_true rfl) (pc := 8) hm (Nat.le_of_ble_eq_true rfl) dX8_faultOfMoves_8 (fun r24 S21 hm => ?_)
  refine kX8_136 C (Nat.le_of_ble_eq_true rfl) (Nat.le_of_ble_eq_true rfl) (i := 0) (by decide) (pc := 11) hm (Nat.le_of_ble_eq_true rfl) dX8_faultOfMoves_11 (fun r25 S22 hm => ?_)
  refine v_iconst C (pc := 14) 0 dX8_faultOfMoves_14 rfl ?_
  refine v_istore_n C (pc := 15) [(1, .int 0), (0, .ref (ad 0))] dX8_faultOfMoves_15 rfl (by decide) rfl ?_
  exact v_sub [1, 0] rfl (vX8_faultOfMoves_16 C hr hQ (N := N) N _ _ hm)
theorem mX8_faultOfMoves {l : Launch} {D : va_G} {ad : Nat → Nat} {cA : Nat → ClassId} (hD : ∀ S, va_D (xA ad) (xW ad cA S)) {N : Nat}  {S : St} {r : Int32 × St} (hm : fX8_faultOfMoves N  S = some r) : Met l yX8_faultOfMoves (wsm yX8_faultOfMoves cX8_faultOfMoves 4 (some .int)) rmX8_faultOfMoves (va_Pc [.ref (ad 0)] (Pre D cA (xW ad cA) (xS ad) S)) (Qo D (xW ad cA) (xA ad) (some (.int r.1)) r.2) 0 0 (xA ad) := met_of [.ref (ad 0)] (by decide) (Nat.le_of_ble_eq_true rfl) hD (xS_mv ad) (xS_kp ad) (fun p e s m below meth c C hr => vX8_faultOfMoves C hr rfl (N := N)  hm)
