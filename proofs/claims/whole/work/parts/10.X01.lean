-- X0_measure
theorem infX0_placementBefore : InfV yX0_placementBefore cX0_placementBefore 7 (some .int) 3 := ⟨⟨gm (i := 59) (by decide +kernel) rfl, gm (i := 645) (by decide +kernel) rfl, by decide +kernel⟩, gm (i := 644) (by decide +kernel) rfl, gm (i := 10) (by decide +kernel) rfl⟩
theorem kX0_106 {p : Program} {l : Launch} {e : Env} {R : Room} {s : State} {m : MethodId} {args : Array Value} {below : List Frame} {meth : Method} {c : Code} {Q : State → Prop} {D : va_G} {ad : Nat → Nat} {cA : Nat → ClassId} {cc : ByteArray} {nL : Nat} {S : St} {pc : Nat} {lv : List (Nat × Value)} {st : List Value} {ρ : Type} {res : ρ} (C : Ok p s m args c D cA (xW ad cA) (xA ad) (xS ad) RX0 cc nL) (hfr : rmX0_placementBefore.frames + 1 ≤ R.frames) (hlo : 8 + (7 + 11) + rmX0_placementBefore.locals ≤ R.locals) {i : Nat} (hi : i < 5) {N : Nat} {p2 : Int32} {p3 : Int32} {E : Int32 → St → Option ρ} (hm : bd (fX0_placementBefore N i p2 p3 S) E = some res) (hcat : (st.map fun v => v.category).sum ≤ 8) (hd : decode cc pc = .ok (.invokevirtual 106, 3)) (k : ∀ r S, E r S = some res → V p l e R s m args below meth c Q D (xW ad cA) (xA ad) nL S (pc + 3) lv (.int r :: st)) : V p l e R s m args below meth c Q D (xW ad cA) (xA ad) nL S pc lv (.int p3 :: .int p2 :: .ref (ad 3) :: .ref (ad (4 + i)) :: st) := by
  obtain ⟨r, S1, h1, h2⟩ := bd_some hm
  exact v_callV C (gm (i := 642) (by decide +kernel) rfl : Cond.methodLink RX0 106 yX0_placementBefore ∈ gw_tbl) infX0_placementBefore (rm2 := rmX0_placementBefore) ⟨rfl, rfl⟩ hfr hlo (mX0_placementBefore C.2.2.2.2.2.2.1 hi h1) (As := [.ref (ad 3), .int p2, .int p3]) (oX0 ad cA i hi S) rfl rfl rfl rfl hcat hd (k r S1 h2)
def rmX0_measure : Room := { frames := 4, cells := 0, slots := 0, locals := 109 }
def fX0_measure_85 (N : Nat) (i0 : Nat) (k13 : Int32 → Int32 → St → Option (Unit × St)) (x3 : Int32) (x4 : Int32) (S : St) : Option (Unit × St) := k13 x3 (x4 + 1) S
set_option maxRecDepth 20000 in
theorem vX0_measure_85 {p : Program} {l : Launch} {e : Env} {s : State} {m : MethodId} {args : Array Value} {below : List Frame} {meth : Method} {c : Code} {Q : State → Prop} {D : va_G} {ad : Nat → Nat} {cA : Nat → ClassId} (C : Ok p s m args c D cA (xW ad cA) (xA ad) (xS ad) RX0 cX0_measure 7) (hr : Rt meth none) {r : Unit × St} (hQ : Q = MQ below (Qo D (xW ad cA) (xA ad) (none) r.2) args s 0 0 (xA ad)) {N : Nat} {i0 : Nat} (hi0 : i0 < 5) {k13 : Int32 → Int32 → St → Option (Unit × St)} (hk13 : ∀ (x3 : Int32) (x4 : Int32) (S : St), k13 x3 x4 S = some r → V p l e rmX0_measure s m args below meth c Q D (xW ad cA) (xA ad) 7 S 13 [(0, .ref (ad (4 + i0))), (1, .ref (ad 3)), (2, .ref (ad 18)), (3, .int x3), (4, .int x4)] []) {x3 : Int32} {x4 : Int32}  {S : St} (hm : fX0_measure_85 N i0 k13 x3 x4 S = some r) : V p l e rmX0_measure s m args below meth c Q D (xW ad cA) (xA ad) 7 S 85 [(0, .ref (ad (4 + i0))), (1, .ref (ad 3)), (2, .ref (ad 18)), (3, .int x3), (4, .int x4)] [] := by
  unfold fX0_measure_85 at hm
  refine v_iinc C (pc := 85) 1 4 [(4, .int (x4 + 1)), (0, .ref (ad (4 + i0))), (1, .ref (ad 3)), (2, .ref (ad 18)), (3, .int x3)] dX0_measure_85 rfl rfl (by decide) rfl ?_
  refine v_goto C (pc := 88) 13 dX0_measure_88 rfl ?_
  exact v_sub [1, 2, 3, 4, 0] rfl (hk13 _ _ _ hm)
def fX0_measure_53 (N : Nat) (i0 : Nat) (k13 : Int32 → Int32 → St → Option (Unit × St)) (s0 : Bool) (x3 : Int32) (x4 : Int32) (x5 : Int32) (S : St) : Option (Unit × St) := if (b2i s0) = 0 then (fX0_measure_85 N i0 k13 x3 x4 S) else (bd (fX0_fits N i0 x5 S) fun r9 S17 => if (b2i r9) = 0 then (fX0_measure_85 N i0 k13 x3 x4 S17) else (ck x5 256 (stp (sA S17 (14 + i0) (Int32.toNatClampNeg x5) 0) fun S18 => ck x3 256 (stp (sA S18 2 (Int32.toNatClampNeg x3) x5) fun S19 => fX0_measure_85 N i0 k13 (x3 + 1) x4 S19))))
set_option maxRecDepth 20000 in
theorem vX0_measure_53 {p : Program} {l : Launch} {e : Env} {s : State} {m : MethodId} {args : Array Value} {below : List Frame} {meth : Method} {c : Code} {Q : State → Prop} {D : va_G} {ad : Nat → Nat} {cA : Nat → ClassId} (C : Ok p s m args c D cA (xW ad cA) (xA ad) (xS ad) RX0 cX0_measure 7) (hr : Rt meth none) {r : Unit × St} (hQ : Q = MQ below (Qo D (xW ad cA) (xA ad) (none) r.2) args s 0 0 (xA ad)) {N : Nat} {i0 : Nat} (hi0 : i0 < 5) {k13 : Int32 → Int32 → St → Option (Unit × St)} (hk13 : ∀ (x3 : Int32) (x4 : Int32) (S : St), k13 x3 x4 S = some r → V p l e rmX0_measure s m args below meth c Q D (xW ad cA) (xA ad) 7 S 13 [(0, .ref (ad (4 + i0))), (1, .ref (ad 3)), (2, .ref (ad 18)), (3, .int x3), (4, .int x4)] []) {s0 : Bool} {x3 : Int32} {x4 : Int32} {x5 : Int32}  {S : St} (hm : fX0_measure_53 N i0 k13 s0 x3 x4 x5 S = some r) : V p l e rmX0_measure s m args below meth c Q D (xW ad cA) (xA ad) 7 S 53 [(0, .ref (ad (4 + i0))), (1, .ref (ad 3)), (2, .ref (ad 18)), (3, .int x3), (4, .int x4), (5, .int x5)] [.int (b2i s0)] := by
  unfold fX0_measure_53 at hm
  refine v_istore C (pc := 53) [(6, .int (b2i s0)), (0, .ref (ad (4 + i0))), (1, .ref (ad 3)), (2, .ref (ad 18)), (3, .int x3), (4, .int x4), (5, .int x5)] dX0_measure_53 (by decide) rfl ?_
  refine v_iload C (pc := 55) 0 dX0_measure_55 rfl ?_
  refine v_if_eq C (pc := 57) hm 85 dX0_measure_57 rfl (fun hm => ?_) (fun hm => ?_)
  · exact v_sub [1, 2, 3, 4, 5] rfl (vX0_measure_85 C hr hQ (N := N) hi0 hk13 hm)
  · refine v_aload_n C (pc := 60) 1 dX0_measure_60 rfl rfl ?_
    refine v_iload C (pc := 61) 6 dX0_measure_61 rfl ?_
    refine kX0_82 C (Nat.le_of_ble_eq_true rfl) (Nat.le_of_ble_eq_true rfl) hi0 (pc := 63) hm (Nat.le_of_ble_eq_true rfl) dX0_measure_63 (fun r9 S17 hm => ?_)
    refine v_if_eq C (pc := 66) hm 85 dX0_measure_66 rfl (fun hm => ?_) (fun hm => ?_)
    · exact v_sub [1, 2, 3, 4, 5] rfl (vX0_measure_85 C hr hQ (N := N) hi0 hk13 hm)
    · refine v_aload_n C (pc := 69) 1 dX0_measure_69 rfl rfl ?_
      refine gX0_22 C hi0 (pc := 70) dX0_measure_70 ?_
      refine v_iload C (pc := 73) 6 dX0_measure_73 rfl ?_
      refine v_iconst C (pc := 75) 0 dX0_measure_75 rfl ?_
      refine stX0_distances C hi0 (pc := 76) hm dX0_measure_76 (fun S18 hm => ?_)
      refine v_aload_n C (pc := 77) 3 dX0_measure_77 rfl rfl ?_
      refine v_iload_n C (pc := 78) 4 dX0_measure_78 rfl rfl ?_
      refine v_iload C (pc := 79) 6 dX0_measure_79 rfl ?_
      refine stX2_queue C (pc := 81) hm dX0_measure_81 (fun S19 hm => ?_)
      refine v_iinc C (pc := 82) 1 4 [(3, .int (x3 + 1)), (6, .int (b2i s0)), (0, .ref (ad (4 + i0))), (1, .ref (ad 3)), (2, .ref (ad 18)), (4, .int x4), (5, .int x5)] dX0_measure_82 rfl rfl (by decide) rfl ?_
      exact v_sub [2, 3, 4, 0, 5] rfl (vX0_measure_85 C hr hQ (N := N) hi0 hk13 hm)
def fX0_measure_48 (N : Nat) (i0 : Nat) (k13 : Int32 → Int32 → St → Option (Unit × St)) (x3 : Int32) (x4 : Int32) (x5 : Int32) (S : St) : Option (Unit × St) := fX0_measure_53 N i0 k13 true x3 x4 x5 S
set_option maxRecDepth 20000 in
theorem vX0_measure_48 {p : Program} {l : Launch} {e : Env} {s : State} {m : MethodId} {args : Array Value} {below : List Frame} {meth : Method} {c : Code} {Q : State → Prop} {D : va_G} {ad : Nat → Nat} {cA : Nat → ClassId} (C : Ok p s m args c D cA (xW ad cA) (xA ad) (xS ad) RX0 cX0_measure 7) (hr : Rt meth none) {r : Unit × St} (hQ : Q = MQ below (Qo D (xW ad cA) (xA ad) (none) r.2) args s 0 0 (xA ad)) {N : Nat} {i0 : Nat} (hi0 : i0 < 5) {k13 : Int32 → Int32 → St → Option (Unit × St)} (hk13 : ∀ (x3 : Int32) (x4 : Int32) (S : St), k13 x3 x4 S = some r → V p l e rmX0_measure s m args below meth c Q D (xW ad cA) (xA ad) 7 S 13 [(0, .ref (ad (4 + i0))), (1, .ref (ad 3)), (2, .ref (ad 18)), (3, .int x3), (4, .int x4)] []) {x3 : Int32} {x4 : Int32} {x5 : Int32}  {S : St} (hm : fX0_measure_48 N i0 k13 x3 x4 x5 S = some r) : V p l e rmX0_measure s m args below meth c Q D (xW ad cA) (xA ad) 7 S 48 [(0, .ref (ad (4 + i0))), (1, .ref (ad 3)), (2, .ref (ad 18)), (3, .int x3), (4, .int x4), (5, .int x5)] [] := by
  unfold fX0_measure_48 at hm
  refine v_iconst C (pc := 48) 1 dX0_measure_48 rfl ?_
  refine v_goto C (pc := 49) 53 dX0_measure_49 rfl ?_
  exact (vX0_measure_53 C hr hQ (N := N) hi0 hk13 hm)
def fX0_measure_184 (N : Nat) (i0 : Nat)   (S : St) : Option (Unit × St) := some ((), S)
set_option maxRecDepth 20000 in
theorem vX0_measure_184 {p : Program} {l : Launch} {e : Env} {s : State} {m : MethodId} {args : Array Value} {below : List Frame} {meth : Method} {c : Code} {Q : State → Prop} {D : va_G} {ad : Nat → Nat} {cA : Nat → ClassId} (C : Ok p s m args c D cA (xW ad cA) (xA ad) (xS ad) RX0 cX0_measure 7) (hr : Rt meth none) {r : Unit × St} (hQ : Q = MQ below (Qo D (xW ad cA) (xA ad) (none) r.2) args s 0 0 (xA ad)) {N : Nat} {i0 : Nat} (hi0 : i0 < 5)    {S : St} (hm : fX0_measure_184 N i0   S = some r) : V p l e rmX0_measure s m args below meth c Q D (xW ad cA) (xA ad) 7 S 184 [] [] := by
  unfold fX0_measure_184 at hm
  exact v_vret C hr hQ (x := ()) (pc := 184) hm dX0_measure_184
def fX0_measure_172 (N : Nat) (i0 : Nat) (k94 : Int32 → Int32 → St → Option (Unit × St)) (k111 : Int32 → Int32 → Int32 → St → Option (Unit × St)) (x3 : Int32) (x4 : Int32) (x5 : Int32) (S : St) : Option (Unit × St) := k111 x3 x4 (x5 + 1) S
set_option maxRecDepth 20000 in
theorem vX0_measure_172 {p : Program} {l : Launch} {e : Env} {s : State} {m : MethodId} {args : Array Value} {below : List Frame} {meth : Method} {c : Code} {Q : State → Prop} {D : va_G} {ad : Nat → Nat} {cA : Nat → ClassId} (C : Ok p s m args c D cA (xW ad cA) (xA ad) (xS ad) RX0 cX0_measure 7) (hr : Rt meth none) {r : Unit × St} (hQ : Q = MQ below (Qo D (xW ad cA) (xA ad) (none) r.2) args s 0 0 (xA ad)) {N : Nat} {i0 : Nat} (hi0 : i0 < 5) {k94 : Int32 → Int32 → St → Option (Unit × St)} (hk94 : ∀ (x3 : Int32) (x4 : Int32) (S : St), k94 x3 x4 S = some r → V p l e rmX0_measure s m args below meth c Q D (xW ad cA) (xA ad) 7 S 94 [(0, .ref (ad (4 + i0))), (1, .ref (ad 3)), (2, .ref (ad 18)), (3, .int x3), (4, .int x4)] []) {k111 : Int32 → Int32 → Int32 → St → Option (Unit × St)} (hk111 : ∀ (x3 : Int32) (x4 : Int32) (x5 : Int32) (S : St), k111 x3 x4 x5 S = some r → V p l e rmX0_measure s m args below meth c Q D (xW ad cA) (xA ad) 7 S 111 [(0, .ref (ad (4 + i0))), (1, .ref (ad 3)), (2, .ref (ad 18)), (3, .int x3), (4, .int x4), (5, .int x5)] []) {x3 : Int32} {x4 : Int32} {x5 : Int32}  {S : St} (hm : fX0_measure_172 N i0 k94 k111 x3 x4 x5 S = some r) : V p l e rmX0_measure s m args below meth c Q D (xW ad cA) (xA ad) 7 S 172 [(0, .ref (ad (4 + i0))), (1, .ref (ad 3)), (2, .ref (ad 18)), (3, .int x3), (4, .int x4), (5, .int x5)] [] := by
  unfold fX0_measure_172 at hm
  refine v_iinc C (pc := 172) 1 5 [(5, .int (x5 + 1)), (0, .ref (ad (4 + i0))), (1, .ref (ad 3)), (2, .ref (ad 18)), (3, .int x3), (4, .int x4)] dX0_measure_172 rfl rfl (by decide) rfl ?_
  refine v_goto C (pc := 175) 111 dX0_measure_175 rfl ?_
  exact v_sub [1, 2, 3, 4, 5, 0] rfl (hk111 _ _ _ _ hm)
def fX0_measure_111b (N : Nat) (i0 : Nat) (k94 : Int32 → Int32 → St → Option (Unit × St)) (k111 : Int32 → Int32 → Int32 → St → Option (Unit × St)) (x3 : Int32) (x4 : Int32) (x5 : Int32) (S : St) : Option (Unit × St) := if 6 ≤ x5 then (k94 x3 (x4 + 1) S) else (ck x4 256 (bd (fX0_placementBefore N i0 (S.2.2.1 2 (Int32.toNatClampNeg x4)) x5 S) fun r10 S20 => if r10 < 0 then (fX0_measure_172 N i0 k94 k111 x3 x4 x5 S20) else (ck r10 256 (if 0 ≤ (S20.2.2.1 (14 + i0) (Int32.toNatClampNeg r10)) then (fX0_measure_172 N i0 k94 k111 x3 x4 x5 S20) else (ck x4 256 (ck (S20.2.2.1 2 (Int32.toNatClampNeg x4)) 256 (ck r10 256 (stp (sA S20 (14 + i0) (Int32.toNatClampNeg r10) ((S20.2.2.1 (14 + i0) (Int32.toNatClampNeg (S20.2.2.1 2 (Int32.toNatClampNeg x4)))) + 1)) fun S21 => ck x3 256 (stp (sA S21 2 (Int32.toNatClampNeg x3) r10) fun S22 => fX0_measure_172 N i0 k94 k111 (x3 + 1) x4 x5 S22)))))))))
def fX0_measure_111 (N : Nat) (i0 : Nat) (k94 : Int32 → Int32 → St → Option (Unit × St)) : Nat → Int32 → Int32 → Int32 → St → Option (Unit × St)
  | 0 => fun _ _ _ _ => none
  | n + 1 => fun x3 x4 x5 S => fX0_measure_111b N i0 k94 (fX0_measure_111 N i0 k94 n) x3 x4 x5 S
set_option maxRecDepth 20000 in
theorem vX0_measure_111b {p : Program} {l : Launch} {e : Env} {s : State} {m : MethodId} {args : Array Value} {below : List Frame} {meth : Method} {c : Code} {Q : State → Prop} {D : va_G} {ad : Nat → Nat} {cA : Nat → ClassId} (C : Ok p s m args c D cA (xW ad cA) (xA ad) (xS ad) RX0 cX0_measure 7) (hr : Rt meth none) {r : Unit × St} (hQ : Q = MQ below (Qo D (xW ad cA) (xA ad) (none) r.2) args s 0 0 (xA ad)) {N : Nat} {i0 : Nat} (hi0 : i0 < 5) {k94 : Int32 → Int32 → St → Option (Unit × St)} (hk94 : ∀ (x3 : Int32) (x4 : Int32) (S : St), k94 x3 x4 S = some r → V p l e rmX0_measure s m args below meth c Q D (xW ad cA) (xA ad) 7 S 94 [(0, .ref (ad (4 + i0))), (1, .ref (ad 3)), (2, .ref (ad 18)), (3, .int x3), (4, .int x4)] []) {k111 : Int32 → Int32 → Int32 → St → Option (Unit × St)} (hk111 : ∀ (x3 : Int32) (x4 : Int32) (x5 : Int32) (S : St), k111 x3 x4 x5 S = some r → V p l e rmX0_measure s m args below meth c Q D (xW ad cA) (xA ad) 7 S 111 [(0, .ref (ad (4 + i0))), (1, .ref (ad 3)), (2, .ref (ad 18)), (3, .int x3), (4, .int x4), (5, .int x5)] []) {x3 : Int32} {x4 : Int32} {x5 : Int32}  {S : St} (hm : fX0_measure_111b N i0 k94 k111 x3 x4 x5 S = some r) : V p l e rmX0_measure s m args below meth c Q D (xW ad cA) (xA ad) 7 S 111 [(0, .ref (ad (4 + i0))), (1, .ref (ad 3)), (2, .ref (ad 18)), (3, .int x3), (4, .int x4), (5, .int x5)] [] := by
  unfold fX0_measure_111b at hm
  refine v_iload C (pc := 111) 5 dX0_measure_111 rfl ?_
  refine v_bipush C (pc := 113) 6 dX0_measure_113 rfl ?_
  refine v_icmp_ge C (pc := 115) hm 178 dX0_measure_115 rfl (fun hm => ?_) (fun hm => ?_)
  · refine v_iinc C (pc := 178) 1 4 [(4, .int (x4 + 1)), (0, .ref (ad (4 + i0))), (1, .ref (ad 3)), (2, .ref (ad 18)), (3, .int x3), (5, .int x5)] dX0_measure_178 rfl rfl (by decide) rfl ?_
    refine v_goto C (pc := 181) 94 dX0_measure_181 rfl ?_
    exact v_sub [1, 2, 3, 4, 0] rfl (hk94 _ _ _ hm)
  · refine v_aload_n C (pc := 118) 0 dX0_measure_118 rfl rfl ?_
    refine v_aload_n C (pc := 119) 1 dX0_measure_119 rfl rfl ?_
    refine v_aload_n C (pc := 120) 2 dX0_measure_120 rfl rfl ?_
    refine v_iload C (pc := 121) 4 dX0_measure_121 rfl ?_
    refine ldX2_queue C (pc := 123) hm dX0_measure_123 (fun hm => ?_)
    refine v_iload C (pc := 124) 5 dX0_measure_124 rfl ?_
    refine kX0_106 C (Nat.le_of_ble_eq_true rfl) (Nat.le_of_ble_eq_true rfl) hi0 (pc := 126) hm (Nat.le_of_ble_eq_true rfl) dX0_measure_126 (fun r10 S20 hm => ?_)
    refine v_istore C (pc := 129) [(6, .int r10), (0, .ref (ad (4 + i0))), (1, .ref (ad 3)), (2, .ref (ad 18)), (3, .int x3), (4, .int x4), (5, .int x5)] dX0_measure_129 (by decide) rfl ?_
    refine v_iload C (pc := 131) 0 dX0_measure_131 rfl ?_
    refine v_if_lt C (pc := 133) hm 172 dX0_measure_133 rfl (fun hm => ?_) (fun hm => ?_)
    · exact v_sub [1, 2, 3, 4, 5, 6] rfl (vX0_measure_172 C hr hQ (N := N) hi0 hk94 hk111 hm)
    · refine v_aload_n C (pc := 136) 1 dX0_measure_136 rfl rfl ?_
      refine gX0_22 C hi0 (pc := 137) dX0_measure_137 ?_
      refine v_iload C (pc := 140) 0 dX0_measure_140 rfl ?_
      refine ldX0_distances C hi0 (pc := 142) hm dX0_measure_142 (fun hm => ?_)
      refine v_if_ge C (pc := 143) hm 172 dX0_measure_143 rfl (fun hm => ?_) (fun hm => ?_)
      · exact v_sub [1, 2, 3, 4, 5, 6] rfl (vX0_measure_172 C hr hQ (N := N) hi0 hk94 hk111 hm)
      · refine v_aload_n C (pc := 146) 1 dX0_measure_146 rfl rfl ?_
        refine gX0_22 C hi0 (pc := 147) dX0_measure_147 ?_
        refine v_iload C (pc := 150) 0 dX0_measure_150 rfl ?_
        refine v_aload_n C (pc := 152) 1 dX0_measure_152 rfl rfl ?_
        refine gX0_22 C hi0 (pc := 153) dX0_measure_153 ?_
        refine v_aload_n C (pc := 156) 3 dX0_measure_156 rfl rfl ?_
        refine v_iload C (pc := 157) 5 dX0_measure_157 rfl ?_
        refine ldX2_queue C (pc := 159) hm dX0_measure_159 (fun hm => ?_)
        refine ldX0_distances C hi0 (pc := 160) hm dX0_measure_160 (fun hm => ?_)
        refine v_iconst C (pc := 161) 1 dX0_measure_161 rfl ?_
        refine v_iadd C (pc := 162) dX0_measure_162 ?_
        refine stX0_distances C hi0 (pc := 163) hm dX0_measure_163 (fun S21 hm => ?_)
        refine v_aload_n C (pc := 164) 3 dX0_measure_164 rfl rfl ?_
        refine v_iload_n C (pc := 165) 4 dX0_measure_165 rfl rfl ?_
        refine v_iload C (pc := 166) 0 dX0_measure_166 rfl ?_
        refine stX2_queue C (pc := 168) hm dX0_measure_168 (fun S22 hm => ?_)
        refine v_iinc C (pc := 169) 1 4 [(3, .int (x3 + 1)), (6, .int r10), (0, .ref (ad (4 + i0))), (1, .ref (ad 3)), (2, .ref (ad 18)), (4, .int x4), (5, .int x5)] dX0_measure_169 rfl rfl (by decide) rfl ?_
        exact v_sub [2, 3, 4, 0, 5, 6] rfl (vX0_measure_172 C hr hQ (N := N) hi0 hk94 hk111 hm)
theorem vX0_measure_111 {p : Program} {l : Launch} {e : Env} {s : State} {m : MethodId} {args : Array Value} {below : List Frame} {meth : Method} {c : Code} {Q : State → Prop} {D : va_G} {ad : Nat → Nat} {cA : Nat → ClassId} (C : Ok p s m args c D cA (xW ad cA) (xA ad) (xS ad) RX0 cX0_measure 7) (hr : Rt meth none) {r : Unit × St} (hQ : Q = MQ below (Qo D (xW ad cA) (xA ad) (none) r.2) args s 0 0 (xA ad)) {N : Nat} {i0 : Nat} (hi0 : i0 < 5) {k94 : Int32 → Int32 → St → Option (Unit × St)} (hk94 : ∀ (x3 : Int32) (x4 : Int32) (S : St), k94 x3 x4 S = some r → V p l e rmX0_measure s m args below meth c Q D (xW ad cA) (xA ad) 7 S 94 [(0, .ref (ad (4 + i0))), (1, .ref (ad 3)), (2, .ref (ad 18)), (3, .int x3), (4, .int x4)] []) (n : Nat) : ∀ (x3 : Int32) (x4 : Int32) (x5 : Int32) (S : St), fX0_measure_111 N i0 k94 n x3 x4 x5 S = some r → V p l e rmX0_measure s m args below meth c Q D (xW ad cA) (xA ad) 7 S 111 [(0, .ref (ad (4 + i0))), (1, .ref (ad 3)), (2, .ref (ad 18)), (3, .int x3), (4, .int x4), (5, .int x5)] [] := by
  induction n with
  | zero => intro _ _ _ _  hm; exact absurd hm (by intro h; cases h)
  | succ n ih => intro _ _ _ _  hm; exact vX0_measure_111b C hr hQ (N := N) hi0 hk94 ih  hm
def fX0_measure_94b (N : Nat) (i0 : Nat)  (k94 : Int32 → Int32 → St → Option (Unit × St)) (x3 : Int32) (x4 : Int32) (S : St) : Option (Unit × St) := if x3 ≤ x4 then (fX0_measure_184 N i0 S) else (if 256 ≤ x4 then (fX0_measure_184 N i0 S) else (fX0_measure_111 N i0 k94 N x3 x4 0 S))
def fX0_measure_94 (N : Nat) (i0 : Nat)  : Nat → Int32 → Int32 → St → Option (Unit × St)
  | 0 => fun _ _ _ => none
  | n + 1 => fun x3 x4 S => fX0_measure_94b N i0  (fX0_measure_94 N i0  n) x3 x4 S
set_option maxRecDepth 20000 in
theorem vX0_measure_94b {p : Program} {l : Launch} {e : Env} {s : State} {m : MethodId} {args : Array Value} {below : List Frame} {meth : Method} {c : Code} {Q : State → Prop} {D : va_G} {ad : Nat → Nat} {cA : Nat → ClassId} (C : Ok p s m args c D cA (xW ad cA) (xA ad) (xS ad) RX0 cX0_measure 7) (hr : Rt meth none) {r : Unit × St} (hQ : Q = MQ below (Qo D (xW ad cA) (xA ad) (none) r.2) args s 0 0 (xA ad)) {N : Nat} {i0 : Nat} (hi0 : i0 < 5)  {k94 : Int32 → Int32 → St → Option (Unit × St)} (hk94 : ∀ (x3 : Int32) (x4 : Int32) (S : St), k94 x3 x4 S = some r → V p l e rmX0_measure s m args below meth c Q D (xW ad cA) (xA ad) 7 S 94 [(0, .ref (ad (4 + i0))), (1, .ref (ad 3)), (2, .ref (ad 18)), (3, .int x3), (4, .int x4)] []) {x3 : Int32} {x4 : Int32}  {S : St} (hm : fX0_measure_94b N i0  k94 x3 x4 S = some r) : V p l e rmX0_measure s m args below meth c Q D (xW ad cA) (xA ad) 7 S 94 [(0, .ref (ad (4 + i0))), (1, .ref (ad 3)), (2, .ref (ad 18)), (3, .int x3), (4, .int x4)] [] := by
  unfold fX0_measure_94b at hm
  refine v_iload C (pc := 94) 4 dX0_measure_94 rfl ?_
  refine v_iload_n C (pc := 96) 3 dX0_measure_96 rfl rfl ?_
  refine v_icmp_ge C (pc := 97) hm 184 dX0_measure_97 rfl (fun hm => ?_) (fun hm => ?_)
  · exact v_sub [] rfl (vX0_measure_184 C hr hQ (N := N) hi0 hm)
  · refine v_iload C (pc := 100) 4 dX0_measure_100 rfl ?_
    refine v_sipush C (pc := 102) 256 dX0_measure_102 rfl ?_
    refine v_icmp_ge C (pc := 105) hm 184 dX0_measure_105 rfl (fun hm => ?_) (fun hm => ?_)
    · exact v_sub [] rfl (vX0_measure_184 C hr hQ (N := N) hi0 hm)
    · refine v_iconst C (pc := 108) 0 dX0_measure_108 rfl ?_
      refine v_istore C (pc := 109) [(5, .int 0), (0, .ref (ad (4 + i0))), (1, .ref (ad 3)), (2, .ref (ad 18)), (3, .int x3), (4, .int x4)] dX0_measure_109 (by decide) rfl ?_
      exact v_sub [1, 2, 3, 4, 5, 0] rfl (vX0_measure_111 C hr hQ (N := N) hi0 hk94 N _ _ _ _ hm)
theorem vX0_measure_94 {p : Program} {l : Launch} {e : Env} {s : State} {m : MethodId} {args : Array Value} {below : List Frame} {meth : Method} {c : Code} {Q : State → Prop} {D : va_G} {ad : Nat → Nat} {cA : Nat → ClassId} (C : Ok p s m args c D cA (xW ad cA) (xA ad) (xS ad) RX0 cX0_measure 7) (hr : Rt meth none) {r : Unit × St} (hQ : Q = MQ below (Qo D (xW ad cA) (xA ad) (none) r.2) args s 0 0 (xA ad)) {N : Nat} {i0 : Nat} (hi0 : i0 < 5)  (n : Nat) : ∀ (x3 : Int32) (x4 : Int32) (S : St), fX0_measure_94 N i0  n x3 x4 S = some r → V p l e rmX0_measure s m args below meth c Q D (xW ad cA) (xA ad) 7 S 94 [(0, .ref (ad (4 + i0))), (1, .ref (ad 3)), (2, .ref (ad 18)), (3, .int x3), (4, .int x4)] [] := by
  induction n with
  | zero => intro _ _ _  hm; exact absurd hm (by intro h; cases h)
  | succ n ih => intro _ _ _  hm; exact vX0_measure_94b C hr hQ (N := N) hi0  ih  hm
def fX0_measure_13b (N : Nat) (i0 : Nat)  (k13 : Int32 → Int32 → St → Option (Unit × St)) (x3 : Int32) (x4 : Int32) (S : St) : Option (Unit × St) := if 4 ≤ x4 then (fX0_measure_94 N i0 N x3 0 S) else (nm ((64 * x4) + (S.1 (15 + i0))) fun y8 => if (S.1 (20 + i0)) = 4 then (fX0_measure_48 N i0 k13 x3 x4 y8 S) else (if (S.1 (20 + i0)) = x4 then (fX0_measure_48 N i0 k13 x3 x4 y8 S) else (fX0_measure_53 N i0 k13 false x3 x4 y8 S)))
def fX0_measure_13 (N : Nat) (i0 : Nat)  : Nat → Int32 → Int32 → St → Option (Unit × St)
  | 0 => fun _ _ _ => none
  | n + 1 => fun x3 x4 S => fX0_measure_13b N i0  (fX0_measure_13 N i0  n) x3 x4 S
set_option maxRecDepth 20000 in
theorem vX0_measure_13b {p : Program} {l : Launch} {e : Env} {s : State} {m : MethodId} {args : Array Value} {below : List Frame} {meth : Method} {c : Code} {Q : State → Prop} {D : va_G} {ad : Nat → Nat} {cA : Nat → ClassId} (C : Ok p s m args c D cA (xW ad cA) (xA ad) (xS ad) RX0 cX0_measure 7) (hr : Rt meth none) {r : Unit × St} (hQ : Q = MQ below (Qo D (xW ad cA) (xA ad) (none) r.2) args s 0 0 (xA ad)) {N : Nat} {i0 : Nat} (hi0 : i0 < 5)  {k13 : Int32 → Int32 → St → Option (Unit × St)} (hk13 : ∀ (x3 : Int32) (x4 : Int32) (S : St), k13 x3 x4 S = some r → V p l e rmX0_measure s m args below meth c Q D (xW ad cA) (xA ad) 7 S 13 [(0, .ref (ad (4 + i0))), (1, .ref (ad 3)), (2, .ref (ad 18)), (3, .int x3), (4, .int x4)] []) {x3 : Int32} {x4 : Int32}  {S : St} (hm : fX0_measure_13b N i0  k13 x3 x4 S = some r) : V p l e rmX0_measure s m args below meth c Q D (xW ad cA) (xA ad) 7 S 13 [(0, .ref (ad (4 + i0))), (1, .ref (ad 3)), (2, .ref (ad 18)), (3, .int x3), (4, .int x4)] [] := by
  unfold fX0_measure_13b at hm
  refine v_iload C (pc := 13) 4 dX0_measure_13 rfl ?_
  refine v_iconst C (pc := 15) 4 dX0_measure_15 rfl ?_
  refine v_icmp_ge C (pc := 16) hm 91 dX0_measure_16 rfl (fun hm => ?_) (fun hm => ?_)
  · refine v_iconst C (pc := 91) 0 dX0_measure_91 rfl ?_
    refine v_istore C (pc := 92) [(4, .int 0), (0, .ref (ad (4 + i0))), (1, .ref (ad 3)), (2, .ref (ad 18)), (3, .int x3)] dX0_measure_92 (by decide) rfl ?_
    exact v_sub [1, 2, 3, 4, 0] rfl (vX0_measure_94 C hr hQ (N := N) hi0 N _ _ _ hm)
  · refine v_bipush C (pc := 19) 64 dX0_measure_19 rfl ?_
    refine v_iload C (pc := 21) 4 dX0_measure_21 rfl ?_
    refine v_imul C (pc := 23) dX0_measure_23 ?_
    refine v_aload_n C (pc := 24) 0 dX0_measure_24 rfl rfl ?_
    refine gX0_32 C hi0 (pc := 25) dX0_measure_25 ?_
    refine v_iadd C (pc := 28) dX0_measure_28 ?_
    refine v_istoreN C (pc := 29) [(0, .ref (ad (4 + i0))), (1, .ref (ad 3)), (2, .ref (ad 18)), (3, .int x3), (4, .int x4)] hm dX0_measure_29 (by decide) rfl (fun y8 hm => ?_)
    refine v_aload_n C (pc := 31) 1 dX0_measure_31 rfl rfl ?_
    refine gX0_35 C hi0 (pc := 32) dX0_measure_32 ?_
    refine v_iconst C (pc := 35) 4 dX0_measure_35 rfl ?_
    refine v_icmp_eq C (pc := 36) hm 48 dX0_measure_36 rfl (fun hm => ?_) (fun hm => ?_)
    · exact v_sub [1, 2, 3, 4, 5, 0] rfl (vX0_measure_48 C hr hQ (N := N) hi0 hk13 hm)
    · refine v_aload_n C (pc := 39) 1 dX0_measure_39 rfl rfl ?_
      refine gX0_35 C hi0 (pc := 40) dX0_measure_40 ?_
      refine v_iload C (pc := 43) 5 dX0_measure_43 rfl ?_
      refine v_icmp_ne C (pc := 45) hm 52 dX0_measure_45 rfl (fun hm => ?_) (fun hm => ?_)
      · refine v_iconst C (pc := 52) 0 dX0_measure_52 rfl ?_
        exact v_sub [1, 2, 3, 4, 5, 0] rfl (vX0_measure_53 C hr hQ (N := N) hi0 hk13 hm)
      · exact v_sub [1, 2, 3, 4, 5, 0] rfl (vX0_measure_48 C hr hQ (N := N) hi0 hk13 hm)
theorem vX0_measure_13 {p : Program} {l : Launch} {e : Env} {s : State} {m : MethodId} {args : Array Value} {below : List Frame} {meth : Method} {c : Code} {Q : State → Prop} {D : va_G} {ad : Nat → Nat} {cA : Nat → ClassId} (C : Ok p s m args c D cA (xW ad cA) (xA ad) (xS ad) RX0 cX0_measure 7) (hr : Rt meth none) {r : Unit × St} (hQ : Q = MQ below (Qo D (xW ad cA) (xA ad) (none) r.2) args s 0 0 (xA ad)) {N : Nat} {i0 : Nat} (hi0 : i0 < 5)  (n : Nat) : ∀ (x3 : Int32) (x4 : Int32) (S : St), fX0_measure_13 N i0  n x3 x4 S = some r → V p l e rmX0_measure s m args below meth c Q D (xW ad cA) (xA ad) 7 S 13 [(0, .ref (ad (4 + i0))), (1, .ref (ad 3)), (2, .ref (ad 18)), (3, .int x3), (4, .int x4)] [] := by
  induction n with
  | zero => intro _ _ _  hm; exact absurd hm (by intro h; cases h)
  | succ n ih => intro _ _ _  hm; exact vX0_measure_13b C hr hQ (N := N) hi0  ih  hm
def fX0_measure (N : Nat) (i0 : Nat)  (S : St) : Option (Unit × St) := stp (fA S (14 + i0) (fil 256 (-1) (S.2.2.1 (14 + i0)))) fun S23 => fX0_measure_13 N i0 N 0 0 S23
set_option maxRecDepth 20000 in
theorem vX0_measure {p : Program} {l : Launch} {e : Env} {s : State} {m : MethodId} {args : Array Value} {below : List Frame} {meth : Method} {c : Code} {Q : State → Prop} {D : va_G} {ad : Nat → Nat} {cA : Nat → ClassId} (C : Ok p s m args c D cA (xW ad cA) (xA ad) (xS ad) RX0 cX0_measure 7) (hr : Rt meth none) {r : Unit × St} (hQ : Q = MQ below (Qo D (xW ad cA) (xA ad) (none) r.2) args s 0 0 (xA ad)) {N : Nat} {i0 : Nat} (hi0 : i0 < 5)  {S : St} (hm : fX0_measure N i0  S = some r) : V p l e rmX0_measure s m args below meth c Q D (xW ad cA) (xA ad) 7 S 0 [(0, .ref (ad (4 + i0))), (1, .ref (ad 3)), (2, .ref (ad 18))] [] := by
  unfold fX0_measure at hm
  refine v_aload_n C (pc := 0) 0 dX0_measure_0 rfl rfl ?_
  refine gX0_22 C hi0 (pc := 1) dX0_measure_1 ?_
  refine v_iconst C (pc := 4) (-1) dX0_measure_4 rfl ?_
  refine kfX0_41_X0_distances C hi0 (Nat.le_of_ble_eq_true rfl) (Nat.le_of_ble_eq_true rfl) (pc := 5) hm (Nat.le_of_ble_eq_true rfl) dX0_measure_5 (fun S23 hm => ?_)
  refine v_iconst C (pc := 8) 0 dX0_measure_8 rfl ?_
  refine v_istore_n C (pc := 9) [(3, .int 0), (0, .ref (ad (4 + i0))), (1, .ref (ad 3)), (2, .ref (ad 18))] dX0_measure_9 rfl (by decide) rfl ?_
  refine v_iconst C (pc := 10) 0 dX0_measure_10 rfl ?_
  refine v_istore C (pc := 11) [(4, .int 0), (3, .int 0), (0, .ref (ad (4 + i0))), (1, .ref (ad 3)), (2, .ref (ad 18))] dX0_measure_11 (by decide) rfl ?_
  exact v_sub [2, 3, 4, 1, 0] rfl (vX0_measure_13 C hr hQ (N := N) hi0 N _ _ _ hm)
theorem mX0_measure {l : Launch} {D : va_G} {ad : Nat → Nat} {cA : Nat → ClassId} (hD : ∀ S, va_D (xA ad) (xW ad cA S)) {N : Nat} {i0 : Nat} (hi0 : i0 < 5)  {S : St} {r : Unit × St} (hm : fX0_measure N i0  S = some r) : Met l yX0_measure (wsm yX0_measure cX0_measure 7 none) rmX0_measure (va_Pc [.ref (ad (4 + i0)), .ref (ad 3), .ref (ad 18)] (Pre D cA (xW ad cA) (xS ad) S)) (Qo D (xW ad cA) (xA ad) (none) r.2) 0 0 (xA ad) := met_of [.ref (ad (4 + i0)), .ref (ad 3), .ref (ad 18)] (by decide) (Nat.le_of_ble_eq_true rfl) hD (xS_mv ad) (xS_kp ad) (fun p e s m below meth c C hr => vX0_measure C hr rfl (N := N) hi0 hm)
-- X1_begin
def rmX1_begin : Room := { frames := 0, cells := 0, slots := 0, locals := 0 }
def fX1_begin (N : Nat) (p1 : Int64) (S : St) : Option (Unit × St) := ck 0 201 (stp (sL S 11 (Int32.toNatClampNeg 0) p1) fun S4 => stp (sI S4 28 0) fun S5 => stp (sI S5 29 0) fun S6 => some ((), S6))
set_option maxRecDepth 20000 in
theorem vX1_begin {p : Program} {l : Launch} {e : Env} {s : State} {m : MethodId} {args : Array Value} {below : List Frame} {meth : Method} {c : Code} {Q : State → Prop} {D : va_G} {ad : Nat → Nat} {cA : Nat → ClassId} (C : Ok p s m args c D cA (xW ad cA) (xA ad) (xS ad) RX1 cX1_begin 3) (hr : Rt meth none) {r : Unit × St} (hQ : Q = MQ below (Qo D (xW ad cA) (xA ad) (none) r.2) args s 0 0 (xA ad)) {N : Nat} {p1 : Int64} {S : St} (hm : fX1_begin N p1 S = some r) : V p l e rmX1_begin s m args below meth c Q D (xW ad cA) (xA ad) 3 S 0 [(0, .ref (ad 12)), (1, .long p1)] [] := by
  unfold fX1_begin at hm
  refine v_aload_n C (pc := 0) 0 dX1_begin_0 rfl rfl ?_
  refine gX1_9 C (pc := 1) dX1_begin_1 ?_
  refine v_iconst C (pc := 4) 0 dX1_begin_4 rfl ?_
  refine v_lload_n C (pc := 5) 1 dX1_begin_5 rfl rfl ?_
  refine stX1_arrangements C (pc := 6) hm dX1_begin_6 (fun S4 hm => ?_)
  refine v_aload_n C (pc := 7) 0 dX1_begin_7 rfl rfl ?_
  refine v_iconst C (pc := 8) 0 dX1_begin_8 rfl ?_
  refine pX1_22 C (pc := 9) hm dX1_begin_9 (fun S5 hm => ?_)
  refine v_aload_n C (pc := 12) 0 dX1_begin_12 rfl rfl ?_
  refine v_iconst C (pc := 13) 0 dX1_begin_13 rfl ?_
  refine pX1_26 C (pc := 14) hm dX1_begin_14 (fun S6 hm => ?_)
  exact v_vret C hr hQ (x := ()) (pc := 17) hm dX1_begin_17
theorem mX1_begin {l : Launch} {D : va_G} {ad : Nat → Nat} {cA : Nat → ClassId} (hD : ∀ S, va_D (xA ad) (xW ad cA S)) {N : Nat} {p1 : Int64} {S : St} {r : Unit × St} (hm : fX1_begin N p1 S = some r) : Met l yX1_begin (wsm yX1_begin cX1_begin 3 none) rmX1_begin (va_Pc [.ref (ad 12), .long p1] (Pre D cA (xW ad cA) (xS ad) S)) (Qo D (xW ad cA) (xA ad) (none) r.2) 0 0 (xA ad) := met_of [.ref (ad 12), .long p1] (by decide) (Nat.le_of_ble_eq_true rfl) hD (xS_mv ad) (xS_kp ad) (fun p e s m below meth c C hr => vX1_begin C hr rfl (N := N)  hm)
-- X1_present
def rmX1_present : Room := { frames := 0, cells := 0, slots := 0, locals := 0 }
def fX1_present (N : Nat)  (S : St) : Option (Int64 × St) := ck (S.1 28) 201 (some ((S.2.2.2 11 (Int32.toNatClampNeg (S.1 28))), S))
set_option maxRecDepth 20000 in
theorem vX1_present {p : Program} {l : Launch} {e : Env} {s : State} {m : MethodId} {args : Array Value} {below : List Frame} {meth : Method} {c : Code} {Q : State → Prop} {D : va_G} {ad : Nat → Nat} {cA : Nat → ClassId} (C : Ok p s m args c D cA (xW ad cA) (xA ad) (xS ad) RX1 cX1_present 1) (hr : Rt meth (some .long)) {r : Int64 × St} (hQ : Q = MQ below (Qo D (xW ad cA) (xA ad) (some (.long r.1)) r.2) args s 0 0 (xA ad)) {N : Nat}  {S : St} (hm : fX1_present N  S = some r) : V p l e rmX1_present s m args below meth c Q D (xW ad cA) (xA ad) 1 S 0 [(0, .ref (ad 12))] [] := by
  unfold fX1_present at hm
  refine v_aload_n C (pc := 0) 0 dX1_present_0 rfl rfl ?_
  refine gX1_9 C (pc := 1) dX1_present_1 ?_
  refine v_aload_n C (pc := 4) 0 dX1_present_4 rfl rfl ?_
  refine gX1_22 C (pc := 5) dX1_present_5 ?_
  refine ldX1_arrangements C (pc := 8) hm dX1_present_8 (fun hm => ?_)
  exact v_lret C hr hQ (pc := 9) hm dX1_present_9
theorem mX1_present {l : Launch} {D : va_G} {ad : Nat → Nat} {cA : Nat → ClassId} (hD : ∀ S, va_D (xA ad) (xW ad cA S)) {N : Nat}  {S : St} {r : Int64 × St} (hm : fX1_present N  S = some r) : Met l yX1_present (wsm yX1_present cX1_present 1 (some .long)) rmX1_present (va_Pc [.ref (ad 12)] (Pre D cA (xW ad cA) (xS ad) S)) (Qo D (xW ad cA) (xA ad) (some (.long r.1)) r.2) 0 0 (xA ad) := met_of [.ref (ad 12)] (by decide) (Nat.le_of_ble_eq_true rfl) hD (xS_mv ad) (xS_kp ad) (fun p e s m below meth c C hr => vX1_present C hr rfl (N := N)  hm)
-- X1_add
def rmX1_add : Room := { frames := 0, cells := 0, slots := 0, locals := 0 }
def fX1_add (N : Nat) (p1 : Int32) (p2 : Int32) (p3 : Int64) (S : St) : Option (Unit × St) := if (S.1 28) < 200 then (ck (S.1 28) 200 (stp (sA S 26 (Int32.toNatClampNeg (S.1 28)) p1) fun S6 => ck (S6.1 28) 201 (ck ((S6.1 28) + 1) 201 (stp (sA S6 27 (Int32.toNatClampNeg ((S6.1 28) + 1)) ((S6.2.2.1 27 (Int32.toNatClampNeg (S6.1 28))) + p2)) fun S7 => ck ((S7.1 28) + 1) 201 (stp (sL S7 11 (Int32.toNatClampNeg ((S7.1 28) + 1)) p3) fun S8 => stp (sI S8 28 ((S8.1 28) + 1)) fun S9 => stp (sI S9 29 (S9.1 28)) fun S10 => some ((), S10)))))) else (some ((), S))
set_option maxRecDepth 20000 in
theorem vX1_add {p : Program} {l : Launch} {e : Env} {s : State} {m : MethodId} {args : Array Value} {below : List Frame} {meth : Method} {c : Code} {Q : State → Prop} {D : va_G} {ad : Nat → Nat} {cA : Nat → ClassId} (C : Ok p s m args c D cA (xW ad cA) (xA ad) (xS ad) RX1 cX1_add 5) (hr : Rt meth none) {r : Unit × St} (hQ : Q = MQ below (Qo D (xW ad cA) (xA ad) (none) r.2) args s 0 0 (xA ad)) {N : Nat} {p1 : Int32} {p2 : Int32} {p3 : Int64} {S : St} (hm : fX1_add N p1 p2 p3 S = some r) : V p l e rmX1_add s m args below meth c Q D (xW ad cA) (xA ad) 5 S 0 [(0, .ref (ad 12)), (1, .int p1), (2, .int p2), (3, .long p3)] [] := by
  unfold fX1_add at hm
  refine v_aload_n C (pc := 0) 0 dX1_add_0 rfl rfl ?_
  refine gX1_22 C (pc := 1) dX1_add_1 ?_
  refine v_sipush C (pc := 4) 200 dX1_add_4 rfl ?_
  refine v_icmp_lt C (pc := 7) hm 11 dX1_add_7 rfl (fun hm => ?_) (fun hm => ?_)
  · refine v_aload_n C (pc := 11) 0 dX1_add_11 rfl rfl ?_
    refine gX1_15 C (pc := 12) dX1_add_12 ?_
    refine v_aload_n C (pc := 15) 0 dX1_add_15 rfl rfl ?_
    refine gX1_22 C (pc := 16) dX1_add_16 ?_
    refine v_iload_n C (pc := 19) 1 dX1_add_19 rfl rfl ?_
    refine stX1_moves C (pc := 20) hm dX1_add_20 (fun S6 hm => ?_)
    refine v_aload_n C (pc := 21) 0 dX1_add_21 rfl rfl ?_
    refine gX1_19 C (pc := 22) dX1_add_22 ?_
    refine v_aload_n C (pc := 25) 0 dX1_add_25 rfl rfl ?_
    refine gX1_22 C (pc := 26) dX1_add_26 ?_
    refine v_iconst C (pc := 29) 1 dX1_add_29 rfl ?_
    refine v_iadd C (pc := 30) dX1_add_30 ?_
    refine v_aload_n C (pc := 31) 0 dX1_add_31 rfl rfl ?_
    refine gX1_19 C (pc := 32) dX1_add_32 ?_
    refine v_aload_n C (pc := 35) 0 dX1_add_35 rfl rfl ?_
    refine gX1_22 C (pc := 36) dX1_add_36 ?_
    refine ldX1_efforts C (pc := 39) hm dX1_add_39 (fun hm => ?_)
    refine v_iload_n C (pc := 40) 2 dX1_add_40 rfl rfl ?_
    refine v_iadd C (pc := 41) dX1_add_41 ?_
    refine stX1_efforts C (pc := 42) hm dX1_add_42 (fun S7 hm => ?_)
    refine v_aload_n C (pc := 43) 0 dX1_add_43 rfl rfl ?_
    refine gX1_9 C (pc := 44) dX1_add_44 ?_
    refine v_aload_n C (pc := 47) 0 dX1_add_47 rfl rfl ?_
    refine gX1_22 C (pc := 48) dX1_add_48 ?_
    refine v_iconst C (pc := 51) 1 dX1_add_51 rfl ?_
    refine v_iadd C (pc := 52) dX1_add_52 ?_
    refine v_lload_n C (pc := 53) 3 dX1_add_53 rfl rfl ?_
    refine stX1_arrangements C (pc := 54) hm dX1_add_54 (fun S8 hm => ?_)
    refine v_aload_n C (pc := 55) 0 dX1_add_55 rfl rfl ?_
    refine v_dup C (pc := 56) dX1_add_56 rfl ?_
    refine gX1_22 C (pc := 57) dX1_add_57 ?_
    refine v_iconst C (pc := 60) 1 dX1_add_60 rfl ?_
    refine v_iadd C (pc := 61) dX1_add_61 ?_
    refine pX1_22 C (pc := 62) hm dX1_add_62 (fun S9 hm => ?_)
    refine v_aload_n C (pc := 65) 0 dX1_add_65 rfl rfl ?_
    refine v_aload_n C (pc := 66) 0 dX1_add_66 rfl rfl ?_
    refine gX1_22 C (pc := 67) dX1_add_67 ?_
    refine pX1_26 C (pc := 70) hm dX1_add_70 (fun S10 hm => ?_)
    exact v_vret C hr hQ (x := ()) (pc := 73) hm dX1_add_73
  · exact v_vret C hr hQ (x := ()) (pc := 10) hm dX1_add_10
theorem mX1_add {l : Launch} {D : va_G} {ad : Nat → Nat} {cA : Nat → ClassId} (hD : ∀ S, va_D (xA ad) (xW ad cA S)) {N : Nat} {p1 : Int32} {p2 : Int32} {p3 : Int64} {S : St} {r : Unit × St} (hm : fX1_add N p1 p2 p3 S = some r) : Met l yX1_add (wsm yX1_add cX1_add 5 none) rmX1_add (va_Pc [.ref (ad 12), .int p1, .int p2, .long p3] (Pre D cA (xW ad cA) (xS ad) S)) (Qo D (xW ad cA) (xA ad) (none) r.2) 0 0 (xA ad) := met_of [.ref (ad 12), .int p1, .int p2, .long p3] (by decide) (Nat.le_of_ble_eq_true rfl) hD (xS_mv ad) (xS_kp ad) (fun p e s m below meth c C hr => vX1_add C hr rfl (N := N)  hm)
-- X7_clear
theorem kfX7_39_X7_kinds {p : Program} {l : Launch} {e : Env} {R : Room} {s : State} {m : MethodId} {args : Array Value} {below : List Frame} {meth : Method} {c : Code} {Q : State → Prop} {D : va_G} {ad : Nat → Nat} {cA : Nat → ClassId} {cc : ByteArray} {nL : Nat} {S : St} {pc : Nat} {lv : List (Nat × Value)} {st : List Value} {ρ : Type} {res : ρ} (C : Ok p s m args c D cA (xW ad cA) (xA ad) (xS ad) RX7 cc nL) (hfr : 0 + 1 ≤ R.frames) (hlo : 8 + (4 + 11) + 0 ≤ R.locals) {x : Int32} {E : St → Option ρ} (hm : stp (fA S 3 (fil 64 x (S.2.2.1 3))) E = some res) (hcat : (st.map fun v => v.category).sum ≤ 8) (hd : decode cc pc = .ok (.invokestatic 39, 3)) (k : ∀ S, E S = some res → V p l e R s m args below meth c Q D (xW ad cA) (xA ad) nL S (pc + 3) lv st) : V p l e R s m args below meth c Q D (xW ad cA) (xA ad) nL S pc lv (.int x :: .ref (ad 19) :: st) := v_callS C (gm (i := 433) (by decide +kernel) rfl : Cond.methodLink RX7 39 yJ7_fill_53178 ∈ gw_tbl) infJ7_fill_53178 (rm2 := rmZ) ⟨rfl, rfl⟩ hfr hlo (met_fillI C.2.2.2.2.2.2.1 C.2.2.2.2.2.2.2.2.1 C.2.2.2.2.2.2.2.2.2 (by decide) (fun S => aX7_kinds ad cA S) (fun S g => wX7_kinds ad cA S g) S x) (As := [.ref (ad 19), .int x]) rfl rfl hcat hd (k _ hm)
theorem infJ7_fill_d0a16 : InfS yJ7_fill_d0a16 cJ7_fill_d0a16 5 none 2 := ⟨⟨gm (i := 60) (by decide +kernel) rfl, gm (i := 436) (by decide +kernel) rfl, by decide +kernel⟩, gm (i := 435) (by decide +kernel) rfl⟩
theorem kfX7_45_X7_oneWaysFor {p : Program} {l : Launch} {e : Env} {R : Room} {s : State} {m : MethodId} {args : Array Value} {below : List Frame} {meth : Method} {c : Code} {Q : State → Prop} {D : va_G} {ad : Nat → Nat} {cA : Nat → ClassId} {cc : ByteArray} {nL : Nat} {S : St} {pc : Nat} {lv : List (Nat × Value)} {st : List Value} {ρ : Type} {res : ρ} (C : Ok p s m args c D cA (xW ad cA) (xA ad) (xS ad) RX7 cc nL) (hfr : 0 + 1 ≤ R.frames) (hlo : 8 + (5 + 11) + 0 ≤ R.locals) {x : Int64} {E : St → Option ρ} (hm : stp (fL S 1 (fil 4 x (S.2.2.2 1))) E = some res) (hcat : (st.map fun v => v.category).sum ≤ 8) (hd : decode cc pc = .ok (.invokestatic 45, 3)) (k : ∀ S, E S = some res → V p l e R s m args below meth c Q D (xW ad cA) (xA ad) nL S (pc + 3) lv st) : V p l e R s m args below meth c Q D (xW ad cA) (xA ad) nL S pc lv (.long x :: .ref (ad 20) :: st) := v_callS C (gm (i := 434) (by decide +kernel) rfl : Cond.methodLink RX7 45 yJ7_fill_d0a16 ∈ gw_tbl) infJ7_fill_d0a16 (rm2 := rmZ) ⟨rfl, rfl⟩ hfr hlo (met_fillL C.2.2.2.2.2.2.1 C.2.2.2.2.2.2.2.2.1 C.2.2.2.2.2.2.2.2.2 (by decide) (fun S => aX7_oneWaysFor ad cA S) (fun S g => wX7_oneWaysFor ad cA S g) S x) (As := [.ref (ad 20), .long x]) rfl rfl hcat hd (k _ hm)
theorem kfX7_45_X7_plates {p : Program} {l : Launch} {e : Env} {R : Room} {s : State} {m : MethodId} {args : Array Value} {below : List Frame} {meth : Method} {c : Code} {Q : State → Prop} {D : va_G} {ad : Nat → Nat} {cA : Nat → ClassId} {cc : ByteArray} {nL : Nat} {S : St} {pc : Nat} {lv : List (Nat × Value)} {st : List Value} {ρ : Type} {res : ρ} (C : Ok p s m args c D cA (xW ad cA) (xA ad) (xS ad) RX7 cc nL) (hfr : 0 + 1 ≤ R.frames) (hlo : 8 + (5 + 11) + 0 ≤ R.locals) {x : Int64} {E : St → Option ρ} (hm : stp (fL S 2 (fil 4 x (S.2.2.2 2))) E = some res) (hcat : (st.map fun v => v.category).sum ≤ 8) (hd : decode cc pc = .ok (.invokestatic 45, 3)) (k : ∀ S, E S = some res → V p l e R s m args below meth c Q D (xW ad cA) (xA ad) nL S (pc + 3) lv st) : V p l e R s m args below meth c Q D (xW ad cA) (xA ad) nL S pc lv (.long x :: .ref (ad 21) :: st) := v_callS C (gm (i := 434) (by decide +kernel) rfl : Cond.methodLink RX7 45 yJ7_fill_d0a16 ∈ gw_tbl) infJ7_fill_d0a16 (rm2 := rmZ) ⟨rfl, rfl⟩ hfr hlo (met_fillL C.2.2.2.2.2.2.1 C.2.2.2.2.2.2.2.2.1 C.2.2.2.2.2.2.2.2.2 (by decide) (fun S => aX7_plates ad cA S) (fun S g => wX7_plates ad cA S g) S x) (As := [.ref (ad 21), .long x]) rfl rfl hcat hd (k _ hm)
theorem kfX7_45_X7_gates {p : Program} {l : Launch} {e : Env} {R : Room} {s : State} {m : MethodId} {args : Array Value} {below : List Frame} {meth : Method} {c : Code} {Q : State → Prop} {D : va_G} {ad : Nat → Nat} {cA : Nat → ClassId} {cc : ByteArray} {nL : Nat} {S : St} {pc : Nat} {lv : List (Nat × Value)} {st : List Value} {ρ : Type} {res : ρ} (C : Ok p s m args c D cA (xW ad cA) (xA ad) (xS ad) RX7 cc nL) (hfr : 0 + 1 ≤ R.frames) (hlo : 8 + (5 + 11) + 0 ≤ R.locals) {x : Int64} {E : St → Option ρ} (hm : stp (fL S 3 (fil 4 x (S.2.2.2 3))) E = some res) (hcat : (st.map fun v => v.category).sum ≤ 8) (hd : decode cc pc = .ok (.invokestatic 45, 3)) (k : ∀ S, E S = some res → V p l e R s m args below meth c Q D (xW ad cA) (xA ad) nL S (pc + 3) lv st) : V p l e R s m args below meth c Q D (xW ad cA) (xA ad) nL S pc lv (.long x :: .ref (ad 22) :: st) := v_callS C (gm (i := 434) (by decide +kernel) rfl : Cond.methodLink RX7 45 yJ7_fill_d0a16 ∈ gw_tbl) infJ7_fill_d0a16 (rm2 := rmZ) ⟨rfl, rfl⟩ hfr hlo (met_fillL C.2.2.2.2.2.2.1 C.2.2.2.2.2.2.2.2.1 C.2.2.2.2.2.2.2.2.2 (by decide) (fun S => aX7_gates ad cA S) (fun S g => wX7_gates ad cA S g) S x) (As := [.ref (ad 22), .long x]) rfl rfl hcat hd (k _ hm)
def rmX7_clear : Room := { frames := 1, cells := 0, slots := 0, locals := 24 }
def fX7_clear (N : Nat) (p1 : Int32) (p2 : Int32) (S : St) : Option (Unit × St) := stp (sI S 3 p1) fun S9 => stp (sI S9 4 p2) fun S10 => stp (sJ S10 0 0) fun S11 => stp (sJ S11 1 0) fun S12 => stp (fA S12 3 (fil 64 0 (S12.2.2.1 3))) fun S13 => stp (fL S13 1 (fil 4 0 (S13.2.2.2 1))) fun S14 => stp (fL S14 2 (fil 4 0 (S14.2.2.2 2))) fun S15 => stp (fL S15 3 (fil 4 0 (S15.2.2.2 3))) fun S16 => some ((), S16)
set_option maxRecDepth 20000 in
theorem vX7_clear {p : Program} {l : Launch} {e : Env} {s : State} {m : MethodId} {args : Array Value} {below : List Frame} {meth : Method} {c : Code} {Q : State → Prop} {D : va_G} {ad : Nat → Nat} {cA : Nat → ClassId} (C : Ok p s m args c D cA (xW ad cA) (xA ad) (xS ad) RX7 cX7_clear 3) (hr : Rt meth none) {r : Unit × St} (hQ : Q = MQ below (Qo D (xW ad cA) (xA ad) (none) r.2) args s 0 0 (xA ad)) {N : Nat} {p1 : Int32} {p2 : Int32} {S : St} (hm : fX7_clear N p1 p2 S = some r) : V p l e rmX7_clear s m args below meth c Q D (xW ad cA) (xA ad) 3 S 0 [(0, .ref (ad 3)), (1, .int p1), (2, .int p2)] [] := by
  unfold fX7_clear at hm
  refine v_aload_n C (pc := 0) 0 dX7_clear_0 rfl rfl ?_
  refine v_iload_n C (pc := 1) 1 dX7_clear_1 rfl rfl ?_
  refine pX7_9 C (pc := 2) hm dX7_clear_2 (fun S9 hm => ?_)
  refine v_aload_n C (pc := 5) 0 dX7_clear_5 rfl rfl ?_
  refine v_iload_n C (pc := 6) 2 dX7_clear_6 rfl rfl ?_
  refine pX7_15 C (pc := 7) hm dX7_clear_7 (fun S10 hm => ?_)
  refine v_aload_n C (pc := 10) 0 dX7_clear_10 rfl rfl ?_
  refine v_lconst C (pc := 11) 0 dX7_clear_11 rfl ?_
  refine pX7_22 C (pc := 12) hm dX7_clear_12 (fun S11 hm => ?_)
  refine v_aload_n C (pc := 15) 0 dX7_clear_15 rfl rfl ?_
  refine v_lconst C (pc := 16) 0 dX7_clear_16 rfl ?_
  refine pX7_26 C (pc := 17) hm dX7_clear_17 (fun S12 hm => ?_)
  refine v_aload_n C (pc := 20) 0 dX7_clear_20 rfl rfl ?_
  refine gX7_18 C (pc := 21) dX7_clear_21 ?_
  refine v_iconst C (pc := 24) 0 dX7_clear_24 rfl ?_
  refine kfX7_39_X7_kinds C (Nat.le_of_ble_eq_true rfl) (Nat.le_of_ble_eq_true rfl) (pc := 25) hm (Nat.le_of_ble_eq_true rfl) dX7_clear_25 (fun S13 hm => ?_)
  refine v_aload_n C (pc := 28) 0 dX7_clear_28 rfl rfl ?_
  refine gX7_29 C (pc := 29) dX7_clear_29 ?_
  refine v_lconst C (pc := 32) 0 dX7_clear_32 rfl ?_
  refine kfX7_45_X7_oneWaysFor C (Nat.le_of_ble_eq_true rfl) (Nat.le_of_ble_eq_true rfl) (pc := 33) hm (Nat.le_of_ble_eq_true rfl) dX7_clear_33 (fun S14 hm => ?_)
  refine v_aload_n C (pc := 36) 0 dX7_clear_36 rfl rfl ?_
  refine gX7_33 C (pc := 37) dX7_clear_37 ?_
  refine v_lconst C (pc := 40) 0 dX7_clear_40 rfl ?_
  refine kfX7_45_X7_plates C (Nat.le_of_ble_eq_true rfl) (Nat.le_of_ble_eq_true rfl) (pc := 41) hm (Nat.le_of_ble_eq_true rfl) dX7_clear_41 (fun S15 hm => ?_)
  refine v_aload_n C (pc := 44) 0 dX7_clear_44 rfl rfl ?_
  refine gX7_36 C (pc := 45) dX7_clear_45 ?_
  refine v_lconst C (pc := 48) 0 dX7_clear_48 rfl ?_
  refine kfX7_45_X7_gates C (Nat.le_of_ble_eq_true rfl) (Nat.le_of_ble_eq_true rfl) (pc := 49) hm (Nat.le_of_ble_eq_true rfl) dX7_clear_49 (fun S16 hm => ?_)
  exact v_vret C hr hQ (x := ()) (pc := 52) hm dX7_clear_52
theorem mX7_clear {l : Launch} {D : va_G} {ad : Nat → Nat} {cA : Nat → ClassId} (hD : ∀ S, va_D (xA ad) (xW ad cA S)) {N : Nat} {p1 : Int32} {p2 : Int32} {S : St} {r : Unit × St} (hm : fX7_clear N p1 p2 S = some r) : Met l yX7_clear (wsm yX7_clear cX7_clear 3 none) rmX7_clear (va_Pc [.ref (ad 3), .int p1, .int p2] (Pre D cA (xW ad cA) (xS ad) S)) (Qo D (xW ad cA) (xA ad) (none) r.2) 0 0 (xA ad) := met_of [.ref (ad 3), .int p1, .int p2] (by decide) (Nat.le_of_ble_eq_true rfl) hD (xS_mv ad) (xS_kp ad) (fun p e s m below meth c C hr => vX7_clear C hr rfl (N := N)  hm)
-- X2_clear
theorem infX0_clear : InfV yX0_clear cX0_clear 1 none 0 := ⟨⟨gm (i := 59) (by decide +kernel) rfl, gm (i := 440) (by decide +kernel) rfl, by decide +kernel⟩, gm (i := 438) (by decide +kernel) rfl, gm (i := 439) (by decide +kernel) rfl⟩
theorem kX2_46 {p : Program} {l : Launch} {e : Env} {R : Room} {s : State} {m : MethodId} {args : Array Value} {below : List Frame} {meth : Method} {c : Code} {Q : State → Prop} {D : va_G} {ad : Nat → Nat} {cA : Nat → ClassId} {cc : ByteArray} {nL : Nat} {S : St} {pc : Nat} {lv : List (Nat × Value)} {st : List Value} {ρ : Type} {res : ρ} (C : Ok p s m args c D cA (xW ad cA) (xA ad) (xS ad) RX2 cc nL) (hfr : rmX0_clear.frames + 1 ≤ R.frames) (hlo : 8 + (1 + 11) + rmX0_clear.locals ≤ R.locals) {i : Nat} (hi : i < 5) {N : Nat}  {E : Unit → St → Option ρ} (hm : bd (fX0_clear N i S) E = some res) (hcat : (st.map fun v => v.category).sum ≤ 8) (hd : decode cc pc = .ok (.invokevirtual 46, 3)) (k : ∀ r S, E r S = some res → V p l e R s m args below meth c Q D (xW ad cA) (xA ad) nL S (pc + 3) lv (st)) : V p l e R s m args below meth c Q D (xW ad cA) (xA ad) nL S pc lv (.ref (ad (4 + i)) :: st) := by
  obtain ⟨r, S1, h1, h2⟩ := bd_some hm
  exact v_callV C (gm (i := 437) (by decide +kernel) rfl : Cond.methodLink RX2 46 yX0_clear ∈ gw_tbl) infX0_clear (rm2 := rmX0_clear) ⟨rfl, rfl⟩ hfr hlo (mX0_clear C.2.2.2.2.2.2.1 hi h1) (As := []) (oX0 ad cA i hi S) rfl rfl rfl rfl hcat hd (k r S1 h2)
theorem infX7_clear : InfV yX7_clear cX7_clear 3 none 2 := ⟨⟨gm (i := 58) (by decide +kernel) rfl, gm (i := 432) (by decide +kernel) rfl, by decide +kernel⟩, gm (i := 430) (by decide +kernel) rfl, gm (i := 431) (by decide +kernel) rfl⟩
theorem kX2_42 {p : Program} {l : Launch} {e : Env} {R : Room} {s : State} {m : MethodId} {args : Array Value} {below : List Frame} {meth : Method} {c : Code} {Q : State → Prop} {D : va_G} {ad : Nat → Nat} {cA : Nat → ClassId} {cc : ByteArray} {nL : Nat} {S : St} {pc : Nat} {lv : List (Nat × Value)} {st : List Value} {ρ : Type} {res : ρ} (C : Ok p s m args c D cA (xW ad cA) (xA ad) (xS ad) RX2 cc nL) (hfr : rmX7_clear.frames + 1 ≤ R.frames) (hlo : 8 + (3 + 11) + rmX7_clear.locals ≤ R.locals) {N : Nat} {p1 : Int32} {p2 : Int32} {E : Unit → St → Option ρ} (hm : bd (fX7_clear N p1 p2 S) E = some res) (hcat : (st.map fun v => v.category).sum ≤ 8) (hd : decode cc pc = .ok (.invokevirtual 42, 3)) (k : ∀ r S, E r S = some res → V p l e R s m args below meth c Q D (xW ad cA) (xA ad) nL S (pc + 3) lv (st)) : V p l e R s m args below meth c Q D (xW ad cA) (xA ad) nL S pc lv (.int p2 :: .int p1 :: .ref (ad 3) :: st) := by
  obtain ⟨r, S1, h1, h2⟩ := bd_some hm
  exact v_callV C (gm (i := 429) (by decide +kernel) rfl : Cond.methodLink RX2 42 yX7_clear ∈ gw_tbl) infX7_clear (rm2 := rmX7_clear) ⟨rfl, rfl⟩ hfr hlo (mX7_clear C.2.2.2.2.2.2.1 h1) (As := [.int p1, .int p2]) (oX7 ad cA S) rfl rfl rfl rfl hcat hd (k r S1 h2)
def rmX2_clear : Room := { frames := 3, cells := 0, slots := 0, locals := 63 }
def fX2_clear_11b (N : Nat)  (k11 : Int32 → St → Option (Unit × St)) (x3 : Int32) (S : St) : Option (Unit × St) := if 5 ≤ x3 then (some ((), S)) else (ck x3 5 (bd (fX0_clear N (Int32.toNatClampNeg x3) S) fun r7 S4 => k11 (x3 + 1) S4))
def fX2_clear_11 (N : Nat)  : Nat → Int32 → St → Option (Unit × St)
  | 0 => fun _ _ => none
  | n + 1 => fun x3 S => fX2_clear_11b N  (fX2_clear_11 N  n) x3 S
set_option maxRecDepth 20000 in
theorem vX2_clear_11b {p : Program} {l : Launch} {e : Env} {s : State} {m : MethodId} {args : Array Value} {below : List Frame} {meth : Method} {c : Code} {Q : State → Prop} {D : va_G} {ad : Nat → Nat} {cA : Nat → ClassId} (C : Ok p s m args c D cA (xW ad cA) (xA ad) (xS ad) RX2 cX2_clear 4) (hr : Rt meth none) {r : Unit × St} (hQ : Q = MQ below (Qo D (xW ad cA) (xA ad) (none) r.2) args s 0 0 (xA ad)) {N : Nat}  {k11 : Int32 → St → Option (Unit × St)} (hk11 : ∀ (x3 : Int32) (S : St), k11 x3 S = some r → V p l e rmX2_clear s m args below meth c Q D (xW ad cA) (xA ad) 4 S 11 [(0, .ref (ad 2)), (3, .int x3)] []) {x3 : Int32}  {S : St} (hm : fX2_clear_11b N  k11 x3 S = some r) : V p l e rmX2_clear s m args below meth c Q D (xW ad cA) (xA ad) 4 S 11 [(0, .ref (ad 2)), (3, .int x3)] [] := by
  unfold fX2_clear_11b at hm
  refine v_iload_n C (pc := 11) 1 dX2_clear_11 rfl rfl ?_
  refine v_iconst C (pc := 12) 5 dX2_clear_12 rfl ?_
  refine v_icmp_ge C (pc := 13) hm 31 dX2_clear_13 rfl (fun hm => ?_) (fun hm => ?_)
  · exact v_vret C hr hQ (x := ()) (pc := 31) hm dX2_clear_31
  · refine v_aload_n C (pc := 16) 0 dX2_clear_16 rfl rfl ?_
    refine gX2_20 C (pc := 17) dX2_clear_17 ?_
    refine v_iload_n C (pc := 20) 1 dX2_clear_20 rfl rfl ?_
    refine ldX2_blocks C (pc := 21) hm dX2_clear_21 (fun hb6 hm => ?_)
    refine kX2_46 C (Nat.le_of_ble_eq_true rfl) (Nat.le_of_ble_eq_true rfl) hb6 (pc := 22) hm (Nat.le_of_ble_eq_true rfl) dX2_clear_22 (fun r7 S4 hm => ?_)
    refine v_iinc C (pc := 25) 1 1 [(3, .int (x3 + 1)), (0, .ref (ad 2))] dX2_clear_25 rfl rfl (by decide) rfl ?_
    refine v_goto C (pc := 28) 11 dX2_clear_28 rfl ?_
    exact v_sub [1, 0] rfl (hk11 _ _ hm)
theorem vX2_clear_11 {p : Program} {l : Launch} {e : Env} {s : State} {m : MethodId} {args : Array Value} {below : List Frame} {meth : Method} {c : Code} {Q : State → Prop} {D : va_G} {ad : Nat → Nat} {cA : Nat → ClassId} (C : Ok p s m args c D cA (xW ad cA) (xA ad) (xS ad) RX2 cX2_clear 4) (hr : Rt meth none) {r : Unit × St} (hQ : Q = MQ below (Qo D (xW ad cA) (xA ad) (none) r.2) args s 0 0 (xA ad)) {N : Nat}  (n : Nat) : ∀ (x3 : Int32) (S : St), fX2_clear_11 N  n x3 S = some r → V p l e rmX2_clear s m args below meth c Q D (xW ad cA) (xA ad) 4 S 11 [(0, .ref (ad 2)), (3, .int x3)] [] := by
  induction n with
  | zero => intro _ _  hm; exact absurd hm (by intro h; cases h)
  | succ n ih => intro _ _  hm; exact vX2_clear_11b C hr hQ (N := N)   ih  hm
def fX2_clear (N : Nat) (p1 : Int32) (p2 : Int32) (S : St) : Option (Unit × St) := bd (fX7_clear N p1 p2 S) fun r8 S5 => fX2_clear_11 N N 0 S5
set_option maxRecDepth 20000 in
theorem vX2_clear {p : Program} {l : Launch} {e : Env} {s : State} {m : MethodId} {args : Array Value} {below : List Frame} {meth : Method} {c : Code} {Q : State → Prop} {D : va_G} {ad : Nat → Nat} {cA : Nat → ClassId} (C : Ok p s m args c D cA (xW ad cA) (xA ad) (xS ad) RX2 cX2_clear 4) (hr : Rt meth none) {r : Unit × St} (hQ : Q = MQ below (Qo D (xW ad cA) (xA ad) (none) r.2) args s 0 0 (xA ad)) {N : Nat} {p1 : Int32} {p2 : Int32} {S : St} (hm : fX2_clear N p1 p2 S = some r) : V p l e rmX2_clear s m args below meth c Q D (xW ad cA) (xA ad) 4 S 0 [(0, .ref (ad 2)), (1, .int p1), (2, .int p2)] [] := by
  unfold fX2_clear at hm
  refine v_aload_n C (pc := 0) 0 dX2_clear_0 rfl rfl ?_
  refine gX2_12 C (pc := 1) dX2_clear_1 ?_
  refine v_iload_n C (pc := 4) 1 dX2_clear_4 rfl rfl ?_
  refine v_iload_n C (pc := 5) 2 dX2_clear_5 rfl rfl ?_
  refine kX2_42 C (Nat.le_of_ble_eq_true rfl) (Nat.le_of_ble_eq_true rfl) (pc := 6) hm (Nat.le_of_ble_eq_true rfl) dX2_clear_6 (fun r8 S5 hm => ?_)
  refine v_iconst C (pc := 9) 0 dX2_clear_9 rfl ?_
  refine v_istore_n C (pc := 10) [(3, .int 0), (0, .ref (ad 2)), (1, .int p1), (2, .int p2)] dX2_clear_10 rfl (by decide) rfl ?_
  exact v_sub [1, 0] rfl (vX2_clear_11 C hr hQ (N := N) N _ _ hm)
theorem mX2_clear {l : Launch} {D : va_G} {ad : Nat → Nat} {cA : Nat → ClassId} (hD : ∀ S, va_D (xA ad) (xW ad cA S)) {N : Nat} {p1 : Int32} {p2 : Int32} {S : St} {r : Unit × St} (hm : fX2_clear N p1 p2 S = some r) : Met l yX2_clear (wsm yX2_clear cX2_clear 4 none) rmX2_clear (va_Pc [.ref (ad 2), .int p1, .int p2] (Pre D cA (xW ad cA) (xS ad) S)) (Qo D (xW ad cA) (xA ad) (none) r.2) 0 0 (xA ad) := met_of [.ref (ad 2), .int p1, .int p2] (by decide) (Nat.le_of_ble_eq_true rfl) hD (xS_mv ad) (xS_kp ad) (fun p e s m below meth c C hr => vX2_clear C hr rfl (N := N)  hm)
-- X2_has
def rmX2_has : Room := { frames := 0, cells := 0, slots := 0, locals := 0 }
def fX2_has_26 (N : Nat)  (s0 : Bool) (S : St) : Option (Bool × St) := some (s0, S)
set_option maxRecDepth 20000 in
theorem vX2_has_26 {p : Program} {l : Launch} {e : Env} {s : State} {m : MethodId} {args : Array Value} {below : List Frame} {meth : Method} {c : Code} {Q : State → Prop} {D : va_G} {ad : Nat → Nat} {cA : Nat → ClassId} (C : Ok p s m args c D cA (xW ad cA) (xA ad) (xS ad) RX2 cX2_has 2) (hr : Rt meth (some .boolean)) {r : Bool × St} (hQ : Q = MQ below (Qo D (xW ad cA) (xA ad) (some (.int (b2i r.1))) r.2) args s 0 0 (xA ad)) {N : Nat}  {s0 : Bool}  {S : St} (hm : fX2_has_26 N  s0 S = some r) : V p l e rmX2_has s m args below meth c Q D (xW ad cA) (xA ad) 2 S 26 [] [.int (b2i s0)] := by
  unfold fX2_has_26 at hm
  exact v_zret C hr hQ (x := s0) (pc := 26) hm dX2_has_26
def fX2_has_25 (N : Nat)   (S : St) : Option (Bool × St) := fX2_has_26 N false S
set_option maxRecDepth 20000 in
theorem vX2_has_25 {p : Program} {l : Launch} {e : Env} {s : State} {m : MethodId} {args : Array Value} {below : List Frame} {meth : Method} {c : Code} {Q : State → Prop} {D : va_G} {ad : Nat → Nat} {cA : Nat → ClassId} (C : Ok p s m args c D cA (xW ad cA) (xA ad) (xS ad) RX2 cX2_has 2) (hr : Rt meth (some .boolean)) {r : Bool × St} (hQ : Q = MQ below (Qo D (xW ad cA) (xA ad) (some (.int (b2i r.1))) r.2) args s 0 0 (xA ad)) {N : Nat}    {S : St} (hm : fX2_has_25 N   S = some r) : V p l e rmX2_has s m args below meth c Q D (xW ad cA) (xA ad) 2 S 25 [] [] := by
  unfold fX2_has_25 at hm
  refine v_iconst C (pc := 25) 0 dX2_has_25 rfl ?_
  exact (vX2_has_26 C hr hQ (N := N) hm)
def fX2_has (N : Nat) (p1 : Int32) (S : St) : Option (Bool × St) := if p1 < 0 then (fX2_has_25 N S) else (if 5 ≤ p1 then (fX2_has_25 N S) else (ck p1 5 (if (S.1 (5 + (Int32.toNatClampNeg p1))) ≤ 0 then (fX2_has_25 N S) else (fX2_has_26 N true S))))
set_option maxRecDepth 20000 in
theorem vX2_has {p : Program} {l : Launch} {e : Env} {s : State} {m : MethodId} {args : Array Value} {below : List Frame} {meth : Method} {c : Code} {Q : State → Prop} {D : va_G} {ad : Nat → Nat} {cA : Nat → ClassId} (C : Ok p s m args c D cA (xW ad cA) (xA ad) (xS ad) RX2 cX2_has 2) (hr : Rt meth (some .boolean)) {r : Bool × St} (hQ : Q = MQ below (Qo D (xW ad cA) (xA ad) (some (.int (b2i r.1))) r.2) args s 0 0 (xA ad)) {N : Nat} {p1 : Int32} {S : St} (hm : fX2_has N p1 S = some r) : V p l e rmX2_has s m args below meth c Q D (xW ad cA) (xA ad) 2 S 0 [(0, .ref (ad 2)), (1, .int p1)] [] := by
  unfold fX2_has at hm
  refine v_iload_n C (pc := 0) 1 dX2_has_0 rfl rfl ?_
  refine v_if_lt C (pc := 1) hm 25 dX2_has_1 rfl (fun hm => ?_) (fun hm => ?_)
  · exact v_sub [] rfl (vX2_has_25 C hr hQ (N := N) hm)
  · refine v_iload_n C (pc := 4) 1 dX2_has_4 rfl rfl ?_
    refine v_iconst C (pc := 5) 5 dX2_has_5 rfl ?_
    refine v_icmp_ge C (pc := 6) hm 25 dX2_has_6 rfl (fun hm => ?_) (fun hm => ?_)
    · exact v_sub [] rfl (vX2_has_25 C hr hQ (N := N) hm)
    · refine v_aload_n C (pc := 9) 0 dX2_has_9 rfl rfl ?_
      refine gX2_20 C (pc := 10) dX2_has_10 ?_
      refine v_iload_n C (pc := 13) 1 dX2_has_13 rfl rfl ?_
      refine ldX2_blocks C (pc := 14) hm dX2_has_14 (fun hb2 hm => ?_)
      refine gX2_48 C hb2 (pc := 15) dX2_has_15 ?_
      refine v_if_le C (pc := 18) hm 25 dX2_has_18 rfl (fun hm => ?_) (fun hm => ?_)
      · exact v_sub [] rfl (vX2_has_25 C hr hQ (N := N) hm)
      · refine v_iconst C (pc := 21) 1 dX2_has_21 rfl ?_
        refine v_goto C (pc := 22) 26 dX2_has_22 rfl ?_
        exact v_sub [] rfl (vX2_has_26 C hr hQ (N := N) hm)
theorem mX2_has {l : Launch} {D : va_G} {ad : Nat → Nat} {cA : Nat → ClassId} (hD : ∀ S, va_D (xA ad) (xW ad cA S)) {N : Nat} {p1 : Int32} {S : St} {r : Bool × St} (hm : fX2_has N p1 S = some r) : Met l yX2_has (wsm yX2_has cX2_has 2 (some .boolean)) rmX2_has (va_Pc [.ref (ad 2), .int p1] (Pre D cA (xW ad cA) (xS ad) S)) (Qo D (xW ad cA) (xA ad) (some (.int (b2i r.1))) r.2) 0 0 (xA ad) := met_of [.ref (ad 2), .int p1] (by decide) (Nat.le_of_ble_eq_true rfl) hD (xS_mv ad) (xS_kp ad) (fun p e s m below meth c C hr => vX2_has C hr rfl (N := N)  hm)
-- X2_blockCount
theorem infX2_has : InfV yX2_has cX2_has 2 (some .boolean) 1 := ⟨⟨gm (i := 57) (by decide +kernel) rfl, gm (i := 504) (by decide +kernel) rfl, by decide +kernel⟩, gm (i := 502) (by decide +kernel) rfl, gm (i := 503) (by decide +kernel) rfl⟩
theorem kX2_51 {p : Program} {l : Launch} {e : Env} {R : Room} {s : State} {m : MethodId} {args : Array Value} {below : List Frame} {meth : Method} {c : Code} {Q : State → Prop} {D : va_G} {ad : Nat → Nat} {cA : Nat → ClassId} {cc : ByteArray} {nL : Nat} {S : St} {pc : Nat} {lv : List (Nat × Value)} {st : List Value} {ρ : Type} {res : ρ} (C : Ok p s m args c D cA (xW ad cA) (xA ad) (xS ad) RX2 cc nL) (hfr : rmX2_has.frames + 1 ≤ R.frames) (hlo : 8 + (2 + 11) + rmX2_has.locals ≤ R.locals) {N : Nat} {p1 : Int32} {E : Bool → St → Option ρ} (hm : bd (fX2_has N p1 S) E = some res) (hcat : (st.map fun v => v.category).sum ≤ 8) (hd : decode cc pc = .ok (.invokevirtual 51, 3)) (k : ∀ r S, E r S = some res → V p l e R s m args below meth c Q D (xW ad cA) (xA ad) nL S (pc + 3) lv (.int (b2i r) :: st)) : V p l e R s m args below meth c Q D (xW ad cA) (xA ad) nL S pc lv (.int p1 :: .ref (ad 2) :: st) := by
  obtain ⟨r, S1, h1, h2⟩ := bd_some hm
  exact v_callV C (gm (i := 501) (by decide +kernel) rfl : Cond.methodLink RX2 51 yX2_has ∈ gw_tbl) infX2_has (rm2 := rmX2_has) ⟨rfl, rfl⟩ hfr hlo (mX2_has C.2.2.2.2.2.2.1 h1) (As := [.int p1]) (oX2 ad cA S) rfl rfl rfl rfl hcat hd (k r S1 h2)
def rmX2_blockCount : Room := { frames := 1, cells := 0, slots := 0, locals := 21 }
def fX2_blockCount_20 (N : Nat) (k4 : Int32 → Int32 → St → Option (Int32 × St)) (x1 : Int32) (x2 : Int32) (S : St) : Option (Int32 × St) := k4 x1 (x2 + 1) S
set_option maxRecDepth 20000 in
theorem vX2_blockCount_20 {p : Program} {l : Launch} {e : Env} {s : State} {m : MethodId} {args : Array Value} {below : List Frame} {meth : Method} {c : Code} {Q : State → Prop} {D : va_G} {ad : Nat → Nat} {cA : Nat → ClassId} (C : Ok p s m args c D cA (xW ad cA) (xA ad) (xS ad) RX2 cX2_blockCount 3) (hr : Rt meth (some .int)) {r : Int32 × St} (hQ : Q = MQ below (Qo D (xW ad cA) (xA ad) (some (.int r.1)) r.2) args s 0 0 (xA ad)) {N : Nat} {k4 : Int32 → Int32 → St → Option (Int32 × St)} (hk4 : ∀ (x1 : Int32) (x2 : Int32) (S : St), k4 x1 x2 S = some r → V p l e rmX2_blockCount s m args below meth c Q D (xW ad cA) (xA ad) 3 S 4 [(0, .ref (ad 2)), (1, .int x1), (2, .int x2)] []) {x1 : Int32} {x2 : Int32}  {S : St} (hm : fX2_blockCount_20 N k4 x1 x2 S = some r) : V p l e rmX2_blockCount s m args below meth c Q D (xW ad cA) (xA ad) 3 S 20 [(0, .ref (ad 2)), (1, .int x1), (2, .int x2)] [] := by
  unfold fX2_blockCount_20 at hm
  refine v_iinc C (pc := 20) 1 2 [(2, .int (x2 + 1)), (0, .ref (ad 2)), (1, .int x1)] dX2_blockCount_20 rfl rfl (by decide) rfl ?_
  refine v_goto C (pc := 23) 4 dX2_blockCount_23 rfl ?_
  exact v_sub [1, 2, 0] rfl (hk4 _ _ _ hm)
def fX2_blockCount_4b (N : Nat)  (k4 : Int32 → Int32 → St → Option (Int32 × St)) (x1 : Int32) (x2 : Int32) (S : St) : Option (Int32 × St) := if 5 ≤ x2 then (some (x1, S)) else (bd (fX2_has N x2 S) fun r3 S3 => if (b2i r3) = 0 then (fX2_blockCount_20 N k4 x1 x2 S3) else (fX2_blockCount_20 N k4 (x1 + 1) x2 S3))
def fX2_blockCount_4 (N : Nat)  : Nat → Int32 → Int32 → St → Option (Int32 × St)
  | 0 => fun _ _ _ => none
  | n + 1 => fun x1 x2 S => fX2_blockCount_4b N  (fX2_blockCount_4 N  n) x1 x2 S
set_option maxRecDepth 20000 in
theorem vX2_blockCount_4b {p : Program} {l : Launch} {e : Env} {s : State} {m : MethodId} {args : Array Value} {below : List Frame} {meth : Method} {c : Code} {Q : State → Prop} {D : va_G} {ad : Nat → Nat} {cA : Nat → ClassId} (C : Ok p s m args c D cA (xW ad cA) (xA ad) (xS ad) RX2 cX2_blockCount 3) (hr : Rt meth (some .int)) {r : Int32 × St} (hQ : Q = MQ below (Qo D (xW ad cA) (xA ad) (some (.int r.1)) r.2) args s 0 0 (xA ad)) {N : Nat}  {k4 : Int32 → Int32 → St → Option (Int32 × St)} (hk4 : ∀ (x1 : Int32) (x2 : Int32) (S : St), k4 x1 x2 S = some r → V p l e rmX2_blockCount s m args below meth c Q D (xW ad cA) (xA ad) 3 S 4 [(0, .ref (ad 2)), (1, .int x1), (2, .int x2)] []) {x1 : Int32} {x2 : Int32}  {S : St} (hm : fX2_blockCount_4b N  k4 x1 x2 S = some r) : V p l e rmX2_blockCount s m args below meth c Q D (xW ad cA) (xA ad) 3 S 4 [(0, .ref (ad 2)), (1, .int x1), (2, .int x2)] [] := by
  unfold fX2_blockCount_4b at hm
  refine v_iload_n C (pc := 4) 2 dX2_blockCount_4 rfl rfl ?_
  refine v_iconst C (pc := 5) 5 dX2_blockCount_5 rfl ?_
  refine v_icmp_ge C (pc := 6) hm 26 dX2_blockCount_6 rfl (fun hm => ?_) (fun hm => ?_)
  · refine v_iload_n C (pc := 26) 1 dX2_blockCount_26 rfl rfl ?_
    exact v_iret C hr hQ (pc := 27) hm dX2_blockCount_27
  · refine v_aload_n C (pc := 9) 0 dX2_blockCount_9 rfl rfl ?_
    refine v_iload_n C (pc := 10) 2 dX2_blockCount_10 rfl rfl ?_
    refine kX2_51 C (Nat.le_of_ble_eq_true rfl) (Nat.le_of_ble_eq_true rfl) (pc := 11) hm (Nat.le_of_ble_eq_true rfl) dX2_blockCount_11 (fun r3 S3 hm => ?_)
    refine v_if_eq C (pc := 14) hm 20 dX2_blockCount_14 rfl (fun hm => ?_) (fun hm => ?_)
    · exact (vX2_blockCount_20 C hr hQ (N := N) hk4 hm)
    · refine v_iinc C (pc := 17) 1 1 [(1, .int (x1 + 1)), (0, .ref (ad 2)), (2, .int x2)] dX2_blockCount_17 rfl rfl (by decide) rfl ?_
      exact v_sub [1, 0, 2] rfl (vX2_blockCount_20 C hr hQ (N := N) hk4 hm)
theorem vX2_blockCount_4 {p : Program} {l : Launch} {e : Env} {s : State} {m : MethodId} {args : Array Value} {below : List Frame} {meth : Method} {c : Code} {Q : State → Prop} {D : va_G} {ad : Nat → Nat} {cA : Nat → ClassId} (C : Ok p s m args c D cA (xW ad cA) (xA ad) (xS ad) RX2 cX2_blockCount 3) (hr : Rt meth (some .int)) {r : Int32 × St} (hQ : Q = MQ below (Qo D (xW ad cA) (xA ad) (some (.int r.1)) r.2) args s 0 0 (xA ad)) {N : Nat}  (n : Nat) : ∀ (x1 : Int32) (x2 : Int32) (S : St), fX2_blockCount_4 N  n x1 x2 S = some r → V p l e rmX2_blockCount s m args below meth c Q D (xW ad cA) (xA ad) 3 S 4 [(0, .ref (ad 2)), (1, .int x1), (2, .int x2)] [] := by
  induction n with
  | zero => intro _ _ _  hm; exact absurd hm (by intro h; cases h)
  | succ n ih => intro _ _ _  hm; exact vX2_blockCount_4b C hr hQ (N := N)   ih  hm
def fX2_blockCount (N : Nat)  (S : St) : Option (Int32 × St) := fX2_blockCount_4 N N 0 0 S
set_option maxRecDepth 20000 in
theorem vX2_blockCount {p : Program} {l : Launch} {e : Env} {s : State} {m : MethodId} {args : Array Value} {below : List Frame} {meth : Method} {c : Code} {Q : State → Prop} {D : va_G} {ad : Nat → Nat} {cA : Nat → ClassId} (C : Ok p s m args c D cA (xW ad cA) (xA ad) (xS ad) RX2 cX2_blockCount 3) (hr : Rt meth (some .int)) {r : Int32 × St} (hQ : Q = MQ below (Qo D (xW ad cA) (xA ad) (some (.int r.1)) r.2) args s 0 0 (xA ad)) {N : Nat}  {S : St} (hm : fX2_blockCount N  S = some r) : V p l e rmX2_blockCount s m args below meth c Q D (xW ad cA) (xA ad) 3 S 0 [(0, .ref (ad 2))] [] := by
  unfold fX2_blockCount at hm
  refine v_iconst C (pc := 0) 0 dX2_blockCount_0 rfl ?_
  refine v_istore_n C (pc := 1) [(1, .int 0), (0, .ref (ad 2))] dX2_blockCount_1 rfl (by decide) rfl ?_
  refine v_iconst C (pc := 2) 0 dX2_blockCount_2 rfl ?_
  refine v_istore_n C (pc := 3) [(2, .int 0), (1, .int 0), (0, .ref (ad 2))] dX2_blockCount_3 rfl (by decide) rfl ?_
  exact v_sub [2, 1, 0] rfl (vX2_blockCount_4 C hr hQ (N := N) N _ _ _ hm)
theorem mX2_blockCount {l : Launch} {D : va_G} {ad : Nat → Nat} {cA : Nat → ClassId} (hD : ∀ S, va_D (xA ad) (xW ad cA S)) {N : Nat}  {S : St} {r : Int32 × St} (hm : fX2_blockCount N  S = some r) : Met l yX2_blockCount (wsm yX2_blockCount cX2_blockCount 3 (some .int)) rmX2_blockCount (va_Pc [.ref (ad 2)] (Pre D cA (xW ad cA) (xS ad) S)) (Qo D (xW ad cA) (xA ad) (some (.int r.1)) r.2) 0 0 (xA ad) := met_of [.ref (ad 2)] (by decide) (Nat.le_of_ble_eq_true rfl) hD (xS_mv ad) (xS_kp ad) (fun p e s m below meth c C hr => vX2_blockCount C hr rfl (N := N)  hm)
-- X2_weightOf
def rmX2_weightOf : Room := { frames := 0, cells := 0, slots := 0, locals := 0 }
def fX2_weightOf_29 (N : Nat) (k4 : Int32 → Int32 → Int32 → St → Option (Int32 × St)) (x1 : Int32) (x2 : Int32) (x3 : Int32) (S : St) : Option (Int32 × St) := k4 x1 x2 (x3 + 1) S
set_option maxRecDepth 20000 in
theorem vX2_weightOf_29 {p : Program} {l : Launch} {e : Env} {s : State} {m : MethodId} {args : Array Value} {below : List Frame} {meth : Method} {c : Code} {Q : State → Prop} {D : va_G} {ad : Nat → Nat} {cA : Nat → ClassId} (C : Ok p s m args c D cA (xW ad cA) (xA ad) (xS ad) RX2 cX2_weightOf 4) (hr : Rt meth (some .int)) {r : Int32 × St} (hQ : Q = MQ below (Qo D (xW ad cA) (xA ad) (some (.int r.1)) r.2) args s 0 0 (xA ad)) {N : Nat} {k4 : Int32 → Int32 → Int32 → St → Option (Int32 × St)} (hk4 : ∀ (x1 : Int32) (x2 : Int32) (x3 : Int32) (S : St), k4 x1 x2 x3 S = some r → V p l e rmX2_weightOf s m args below meth c Q D (xW ad cA) (xA ad) 4 S 4 [(0, .ref (ad 2)), (1, .int x1), (2, .int x2), (3, .int x3)] []) {x1 : Int32} {x2 : Int32} {x3 : Int32}  {S : St} (hm : fX2_weightOf_29 N k4 x1 x2 x3 S = some r) : V p l e rmX2_weightOf s m args below meth c Q D (xW ad cA) (xA ad) 4 S 29 [(0, .ref (ad 2)), (1, .int x1), (2, .int x2), (3, .int x3)] [] := by
  unfold fX2_weightOf_29 at hm
  refine v_iinc C (pc := 29) 1 3 [(3, .int (x3 + 1)), (0, .ref (ad 2)), (1, .int x1), (2, .int x2)] dX2_weightOf_29 rfl rfl (by decide) rfl ?_
  refine v_goto C (pc := 32) 4 dX2_weightOf_32 rfl ?_
  exact v_sub [1, 2, 3, 0] rfl (hk4 _ _ _ _ hm)
def fX2_weightOf_4b (N : Nat)  (k4 : Int32 → Int32 → Int32 → St → Option (Int32 × St)) (x1 : Int32) (x2 : Int32) (x3 : Int32) (S : St) : Option (Int32 × St) := if 5 ≤ x3 then (some (x2, S)) else (if ((x1 >>> (x3 &&& 31)) &&& 1) = 0 then (fX2_weightOf_29 N k4 x1 x2 x3 S) else (ck x3 5 (nm (x2 + (S.1 (10 + (Int32.toNatClampNeg x3)))) fun y6 => fX2_weightOf_29 N k4 x1 y6 x3 S)))
def fX2_weightOf_4 (N : Nat)  : Nat → Int32 → Int32 → Int32 → St → Option (Int32 × St)
  | 0 => fun _ _ _ _ => none
  | n + 1 => fun x1 x2 x3 S => fX2_weightOf_4b N  (fX2_weightOf_4 N  n) x1 x2 x3 S
set_option maxRecDepth 20000 in
theorem vX2_weightOf_4b {p : Program} {l : Launch} {e : Env} {s : State} {m : MethodId} {args : Array Value} {below : List Frame} {meth : Method} {c : Code} {Q : State → Prop} {D : va_G} {ad : Nat → Nat} {cA : Nat → ClassId} (C : Ok p s m args c D cA (xW ad cA) (xA ad) (xS ad) RX2 cX2_weightOf 4) (hr : Rt meth (some .int)) {r : Int32 × St} (hQ : Q = MQ below (Qo D (xW ad cA) (xA ad) (some (.int r.1)) r.2) args s 0 0 (xA ad)) {N : Nat}  {k4 : Int32 → Int32 → Int32 → St → Option (Int32 × St)} (hk4 : ∀ (x1 : Int32) (x2 : Int32) (x3 : Int32) (S : St), k4 x1 x2 x3 S = some r → V p l e rmX2_weightOf s m args below meth c Q D (xW ad cA) (xA ad) 4 S 4 [(0, .ref (ad 2)), (1, .int x1), (2, .int x2), (3, .int x3)] []) {x1 : Int32} {x2 : Int32} {x3 : Int32}  {S : St} (hm : fX2_weightOf_4b N  k4 x1 x2 x3 S = some r) : V p l e rmX2_weightOf s m args below meth c Q D (xW ad cA) (xA ad) 4 S 4 [(0, .ref (ad 2)), (1, .int x1), (2, .int x2), (3, .int x3)] [] := by
  unfold fX2_weightOf_4b at hm
  refine v_iload_n C (pc := 4) 3 dX2_weightOf_4 rfl rfl ?_
  refine v_iconst C (pc := 5) 5 dX2_weightOf_5 rfl ?_
  refine v_icmp_ge C (pc := 6) hm 35 dX2_weightOf_6 rfl (fun hm => ?_) (fun hm => ?_)
  · refine v_iload_n C (pc := 35) 2 dX2_weightOf_35 rfl rfl ?_
    exact v_iret C hr hQ (pc := 36) hm dX2_weightOf_36
  · refine v_iload_n C (pc := 9) 1 dX2_weightOf_9 rfl rfl ?_
    refine v_iload_n C (pc := 10) 3 dX2_weightOf_10 rfl rfl ?_
    refine v_ishr C (pc := 11) dX2_weightOf_11 ?_
    refine v_iconst C (pc := 12) 1 dX2_weightOf_12 rfl ?_
    refine v_iand C (pc := 13) dX2_weightOf_13 ?_
    refine v_if_eq C (pc := 14) hm 29 dX2_weightOf_14 rfl (fun hm => ?_) (fun hm => ?_)
    · exact (vX2_weightOf_29 C hr hQ (N := N) hk4 hm)
    · refine v_iload_n C (pc := 17) 2 dX2_weightOf_17 rfl rfl ?_
      refine v_aload_n C (pc := 18) 0 dX2_weightOf_18 rfl rfl ?_
      refine gX2_20 C (pc := 19) dX2_weightOf_19 ?_
      refine v_iload_n C (pc := 22) 3 dX2_weightOf_22 rfl rfl ?_
      refine ldX2_blocks C (pc := 23) hm dX2_weightOf_23 (fun hb5 hm => ?_)
      refine gX2_55 C hb5 (pc := 24) dX2_weightOf_24 ?_
      refine v_iadd C (pc := 27) dX2_weightOf_27 ?_
      refine v_istore_nN C (pc := 28) [(0, .ref (ad 2)), (1, .int x1), (3, .int x3)] hm dX2_weightOf_28 rfl (by decide) rfl (fun y6 hm => ?_)
      exact v_sub [1, 2, 0, 3] rfl (vX2_weightOf_29 C hr hQ (N := N) hk4 hm)
theorem vX2_weightOf_4 {p : Program} {l : Launch} {e : Env} {s : State} {m : MethodId} {args : Array Value} {below : List Frame} {meth : Method} {c : Code} {Q : State → Prop} {D : va_G} {ad : Nat → Nat} {cA : Nat → ClassId} (C : Ok p s m args c D cA (xW ad cA) (xA ad) (xS ad) RX2 cX2_weightOf 4) (hr : Rt meth (some .int)) {r : Int32 × St} (hQ : Q = MQ below (Qo D (xW ad cA) (xA ad) (some (.int r.1)) r.2) args s 0 0 (xA ad)) {N : Nat}  (n : Nat) : ∀ (x1 : Int32) (x2 : Int32) (x3 : Int32) (S : St), fX2_weightOf_4 N  n x1 x2 x3 S = some r → V p l e rmX2_weightOf s m args below meth c Q D (xW ad cA) (xA ad) 4 S 4 [(0, .ref (ad 2)), (1, .int x1), (2, .int x2), (3, .int x3)] [] := by
  induction n with
  | zero => intro _ _ _ _  hm; exact absurd hm (by intro h; cases h)
  | succ n ih => intro _ _ _ _  hm; exact vX2_weightOf_4b C hr hQ (N := N)   ih  hm
def fX2_weightOf (N : Nat) (p1 : Int32) (S : St) : Option (Int32 × St) := fX2_weightOf_4 N N p1 0 0 S
set_option maxRecDepth 20000 in
theorem vX2_weightOf {p : Program} {l : Launch} {e : Env} {s : State} {m : MethodId} {args : Array Value} {below : List Frame} {meth : Method} {c : Code} {Q : State → Prop} {D : va_G} {ad : Nat → Nat} {cA : Nat → ClassId} (C : Ok p s m args c D cA (xW ad cA) (xA ad) (xS ad) RX2 cX2_weightOf 4) (hr : Rt meth (some .int)) {r : Int32 × St} (hQ : Q = MQ below (Qo D (xW ad cA) (xA ad) (some (.int r.1)) r.2) args s 0 0 (xA ad)) {N : Nat} {p1 : Int32} {S : St} (hm : fX2_weightOf N p1 S = some r) : V p l e rmX2_weightOf s m args below meth c Q D (xW ad cA) (xA ad) 4 S 0 [(0, .ref (ad 2)), (1, .int p1)] [] := by
  unfold fX2_weightOf at hm
  refine v_iconst C (pc := 0) 0 dX2_weightOf_0 rfl ?_
  refine v_istore_n C (pc := 1) [(2, .int 0), (0, .ref (ad 2)), (1, .int p1)] dX2_weightOf_1 rfl (by decide) rfl ?_
  refine v_iconst C (pc := 2) 0 dX2_weightOf_2 rfl ?_
  refine v_istore_n C (pc := 3) [(3, .int 0), (2, .int 0), (0, .ref (ad 2)), (1, .int p1)] dX2_weightOf_3 rfl (by decide) rfl ?_
  exact v_sub [2, 3, 1, 0] rfl (vX2_weightOf_4 C hr hQ (N := N) N _ _ _ _ hm)
theorem mX2_weightOf {l : Launch} {D : va_G} {ad : Nat → Nat} {cA : Nat → ClassId} (hD : ∀ S, va_D (xA ad) (xW ad cA S)) {N : Nat} {p1 : Int32} {S : St} {r : Int32 × St} (hm : fX2_weightOf N p1 S = some r) : Met l yX2_weightOf (wsm yX2_weightOf cX2_weightOf 4 (some .int)) rmX2_weightOf (va_Pc [.ref (ad 2), .int p1] (Pre D cA (xW ad cA) (xS ad) S)) (Qo D (xW ad cA) (xA ad) (some (.int r.1)) r.2) 0 0 (xA ad) := met_of [.ref (ad 2), .int p1] (by decide) (Nat.le_of_ble_eq_true rfl) hD (xS_mv ad) (xS_kp ad) (fun p e s m below meth c C hr => vX2_weightOf C hr rfl (N := N)  hm)
-- X8_placementIn
def rmX8_placementIn : Room := { frames := 0, cells := 0, slots := 0, locals := 0 }
def fX8_placementIn (N : Nat) (p1 : Int64) (p2 : Int32) (S : St) : Option (Int32 × St) := some (((Int64.toInt32 (UInt64.toInt64 (Int64.toUInt64 p1 >>> ((Int32.toInt64 (8 * p2)).toUInt64 &&& Int64.toUInt64 63)))) &&& 255), S)
set_option maxRecDepth 20000 in
theorem vX8_placementIn {p : Program} {l : Launch} {e : Env} {s : State} {m : MethodId} {args : Array Value} {below : List Frame} {meth : Method} {c : Code} {Q : State → Prop} {D : va_G} {ad : Nat → Nat} {cA : Nat → ClassId} (C : Ok p s m args c D cA (xW ad cA) (xA ad) (xS ad) RX8 cX8_placementIn 3) (hr : Rt meth (some .int)) {r : Int32 × St} (hQ : Q = MQ below (Qo D (xW ad cA) (xA ad) (some (.int r.1)) r.2) args s 0 0 (xA ad)) {N : Nat} {p1 : Int64} {p2 : Int32} {S : St} (hm : fX8_placementIn N p1 p2 S = some r) : V p l e rmX8_placementIn s m args below meth c Q D (xW ad cA) (xA ad) 3 S 0 [(0, .long p1), (2, .int p2)] [] := by
  unfold fX8_placementIn at hm
  refine v_lload_n C (pc := 0) 0 dX8_placementIn_0 rfl rfl ?_
  refine v_bipush C (pc := 1) 8 dX8_placementIn_1 rfl ?_
  refine v_iload_n C (pc := 3) 1 dX8_placementIn_3 rfl rfl ?_
  refine v_imul C (pc := 4) dX8_placementIn_4 ?_
  refine v_lushr C (pc := 5) dX8_placementIn_5 ?_
  refine v_l2i C (pc := 6) dX8_placementIn_6 ?_
  refine v_sipush C (pc := 7) 255 dX8_placementIn_7 rfl ?_
  refine v_iand C (pc := 10) dX8_placementIn_10 ?_
  exact v_iret C hr hQ (pc := 11) hm dX8_placementIn_11
theorem mX8_placementIn {l : Launch} {D : va_G} {ad : Nat → Nat} {cA : Nat → ClassId} (hD : ∀ S, va_D (xA ad) (xW ad cA S)) {N : Nat} {p1 : Int64} {p2 : Int32} {S : St} {r : Int32 × St} (hm : fX8_placementIn N p1 p2 S = some r) : Met l yX8_placementIn (wsm yX8_placementIn cX8_placementIn 3 (some .int)) rmX8_placementIn (va_Pc [.long p1, .int p2] (Pre D cA (xW ad cA) (xS ad) S)) (Qo D (xW ad cA) (xA ad) (some (.int r.1)) r.2) 0 0 (xA ad) := met_of [.long p1, .int p2] (by decide) (Nat.le_of_ble_eq_true rfl) hD (xS_mv ad) (xS_kp ad) (fun p e s m below meth c C hr => vX8_placementIn C hr rfl (N := N)  hm)
-- X2_boundOf
theorem infX8_placementIn : InfS yX8_placementIn cX8_placementIn 3 (some .int) 2 := ⟨⟨gm (i := 55) (by decide +kernel) rfl, gm (i := 523) (by decide +kernel) rfl, by decide +kernel⟩, gm (i := 522) (by decide +kernel) rfl⟩
theorem kX2_61 {p : Program} {l : Launch} {e : Env} {R : Room} {s : State} {m : MethodId} {args : Array Value} {below : List Frame} {meth : Method} {c : Code} {Q : State → Prop} {D : va_G} {ad : Nat → Nat} {cA : Nat → ClassId} {cc : ByteArray} {nL : Nat} {S : St} {pc : Nat} {lv : List (Nat × Value)} {st : List Value} {ρ : Type} {res : ρ} (C : Ok p s m args c D cA (xW ad cA) (xA ad) (xS ad) RX2 cc nL) (hfr : rmX8_placementIn.frames + 1 ≤ R.frames) (hlo : 8 + (3 + 11) + rmX8_placementIn.locals ≤ R.locals) {N : Nat} {p1 : Int64} {p2 : Int32} {E : Int32 → St → Option ρ} (hm : bd (fX8_placementIn N p1 p2 S) E = some res) (hcat : (st.map fun v => v.category).sum ≤ 8) (hd : decode cc pc = .ok (.invokestatic 61, 3)) (k : ∀ r S, E r S = some res → V p l e R s m args below meth c Q D (xW ad cA) (xA ad) nL S (pc + 3) lv (.int r :: st)) : V p l e R s m args below meth c Q D (xW ad cA) (xA ad) nL S pc lv (.int p2 :: .long p1 :: st) := by
  obtain ⟨r, S1, h1, h2⟩ := bd_some hm
  exact v_callSN C (C.2.2.2.2.2.2.2.1.2.2.2.2 _ (by decide +kernel) : va_Nw (Cond.methodLinkNest RX2 61 yX8_placementIn "BlockYard") s) infX8_placementIn (rm2 := rmX8_placementIn) ⟨rfl, rfl⟩ hfr hlo (mX8_placementIn C.2.2.2.2.2.2.1 h1) (As := [.long p1, .int p2]) rfl rfl hcat hd (k r S1 h2)
theorem kmX2_65 {p : Program} {l : Launch} {e : Env} {R : Room} {s : State} {m : MethodId} {args : Array Value} {below : List Frame} {meth : Method} {c : Code} {Q : State → Prop} {D : va_G} {ad : Nat → Nat} {cA : Nat → ClassId} {cc : ByteArray} {nL : Nat} {S : St} {pc : Nat} {lv : List (Nat × Value)} {st : List Value} (C : Ok p s m args c D cA (xW ad cA) (xA ad) (xS ad) RX2 cc nL) (hf : 1 ≤ R.frames) (hlo : (st.map fun v => v.category).sum + 13 ≤ R.locals) {x y : Int32} (hd : decode cc pc = .ok (.invokestatic 65, 3)) (k : V p l e R s m args below meth c Q D (xW ad cA) (xA ad) nL S (pc + 3) lv (.int (if x < y then y else x) :: st)) : V p l e R s m args below meth c Q D (xW ad cA) (xA ad) nL S pc lv (.int y :: .int x :: st) := v_max C (gm (i := 731) (by decide +kernel) rfl) (gm (i := 575) (by decide +kernel) rfl) (gm (i := 66) (by decide +kernel) rfl) (gm (i := 576) (by decide +kernel) rfl) hf hlo hd k
def rmX2_boundOf : Room := { frames := 1, cells := 0, slots := 0, locals := 22 }
def fX2_boundOf_5b (N : Nat)  (k5 : Int64 → Int32 → Int32 → St → Option (Int32 × St)) (x1 : Int64) (x3 : Int32) (x4 : Int32) (S : St) : Option (Int32 × St) := if 5 ≤ x4 then (some (x3, S)) else (ck x4 5 (bd (fX8_placementIn N x1 x4 S) fun r10 S3 => ck r10 256 (nm (S3.2.2.1 (14 + (Int32.toNatClampNeg x4)) (Int32.toNatClampNeg r10)) fun y11 => if 0 ≤ y11 then (nm (if x3 < y11 then y11 else x3) fun y12 => k5 x1 y12 (x4 + 1) S3) else (some ((-1), S3)))))
def fX2_boundOf_5 (N : Nat)  : Nat → Int64 → Int32 → Int32 → St → Option (Int32 × St)
  | 0 => fun _ _ _ _ => none
  | n + 1 => fun x1 x3 x4 S => fX2_boundOf_5b N  (fX2_boundOf_5 N  n) x1 x3 x4 S
set_option maxRecDepth 20000 in
theorem vX2_boundOf_5b {p : Program} {l : Launch} {e : Env} {s : State} {m : MethodId} {args : Array Value} {below : List Frame} {meth : Method} {c : Code} {Q : State → Prop} {D : va_G} {ad : Nat → Nat} {cA : Nat → ClassId} (C : Ok p s m args c D cA (xW ad cA) (xA ad) (xS ad) RX2 cX2_boundOf 6) (hr : Rt meth (some .int)) {r : Int32 × St} (hQ : Q = MQ below (Qo D (xW ad cA) (xA ad) (some (.int r.1)) r.2) args s 0 0 (xA ad)) {N : Nat}  {k5 : Int64 → Int32 → Int32 → St → Option (Int32 × St)} (hk5 : ∀ (x1 : Int64) (x3 : Int32) (x4 : Int32) (S : St), k5 x1 x3 x4 S = some r → V p l e rmX2_boundOf s m args below meth c Q D (xW ad cA) (xA ad) 6 S 5 [(0, .ref (ad 2)), (1, .long x1), (3, .int x3), (4, .int x4)] []) {x1 : Int64} {x3 : Int32} {x4 : Int32}  {S : St} (hm : fX2_boundOf_5b N  k5 x1 x3 x4 S = some r) : V p l e rmX2_boundOf s m args below meth c Q D (xW ad cA) (xA ad) 6 S 5 [(0, .ref (ad 2)), (1, .long x1), (3, .int x3), (4, .int x4)] [] := by
  unfold fX2_boundOf_5b at hm
  refine v_iload C (pc := 5) 3 dX2_boundOf_5 rfl ?_
  refine v_iconst C (pc := 7) 5 dX2_boundOf_7 rfl ?_
  refine v_icmp_ge C (pc := 8) hm 50 dX2_boundOf_8 rfl (fun hm => ?_) (fun hm => ?_)
  · refine v_iload_n C (pc := 50) 2 dX2_boundOf_50 rfl rfl ?_
    exact v_iret C hr hQ (pc := 51) hm dX2_boundOf_51
  · refine v_aload_n C (pc := 11) 0 dX2_boundOf_11 rfl rfl ?_
    refine gX2_20 C (pc := 12) dX2_boundOf_12 ?_
    refine v_iload C (pc := 15) 3 dX2_boundOf_15 rfl ?_
    refine ldX2_blocks C (pc := 17) hm dX2_boundOf_17 (fun hb9 hm => ?_)
    refine gX2_58 C hb9 (pc := 18) dX2_boundOf_18 ?_
    refine v_lload_n C (pc := 21) 1 dX2_boundOf_21 rfl rfl ?_
    refine v_iload C (pc := 22) 3 dX2_boundOf_22 rfl ?_
    refine kX2_61 C (Nat.le_of_ble_eq_true rfl) (Nat.le_of_ble_eq_true rfl) (pc := 24) hm (Nat.le_of_ble_eq_true rfl) dX2_boundOf_24 (fun r10 S3 hm => ?_)
    refine ldX0_distances C hb9 (pc := 27) hm dX2_boundOf_27 (fun hm => ?_)
    refine v_istoreN C (pc := 28) [(0, .ref (ad 2)), (1, .long x1), (3, .int x3), (4, .int x4)] hm dX2_boundOf_28 (by decide) rfl (fun y11 hm => ?_)
    refine v_iload C (pc := 30) 0 dX2_boundOf_30 rfl ?_
    refine v_if_ge C (pc := 32) hm 37 dX2_boundOf_32 rfl (fun hm => ?_) (fun hm => ?_)
    · refine v_iload_n C (pc := 37) 3 dX2_boundOf_37 rfl rfl ?_
      refine v_iload C (pc := 38) 0 dX2_boundOf_38 rfl ?_
      refine kmX2_65 C (Nat.le_of_ble_eq_true rfl) (Nat.le_of_ble_eq_true rfl) (pc := 40) dX2_boundOf_40 ?_
      refine v_istore_nN C (pc := 43) [(5, .int y11), (0, .ref (ad 2)), (1, .long x1), (4, .int x4)] hm dX2_boundOf_43 rfl (by decide) rfl (fun y12 hm => ?_)
      refine v_iinc C (pc := 44) 1 4 [(4, .int (x4 + 1)), (3, .int y12), (5, .int y11), (0, .ref (ad 2)), (1, .long x1)] dX2_boundOf_44 rfl rfl (by decide) rfl ?_
      refine v_goto C (pc := 47) 5 dX2_boundOf_47 rfl ?_
      exact v_sub [3, 4, 1, 0] rfl (hk5 _ _ _ _ hm)
    · refine v_iconst C (pc := 35) (-1) dX2_boundOf_35 rfl ?_
      exact v_iret C hr hQ (pc := 36) hm dX2_boundOf_36
theorem vX2_boundOf_5 {p : Program} {l : Launch} {e : Env} {s : State} {m : MethodId} {args : Array Value} {below : List Frame} {meth : Method} {c : Code} {Q : State → Prop} {D : va_G} {ad : Nat → Nat} {cA : Nat → ClassId} (C : Ok p s m args c D cA (xW ad cA) (xA ad) (xS ad) RX2 cX2_boundOf 6) (hr : Rt meth (some .int)) {r : Int32 × St} (hQ : Q = MQ below (Qo D (xW ad cA) (xA ad) (some (.int r.1)) r.2) args s 0 0 (xA ad)) {N : Nat}  (n : Nat) : ∀ (x1 : Int64) (x3 : Int32) (x4 : Int32) (S : St), fX2_boundOf_5 N  n x1 x3 x4 S = some r → V p l e rmX2_boundOf s m args below meth c Q D (xW ad cA) (xA ad) 6 S 5 [(0, .ref (ad 2)), (1, .long x1), (3, .int x3), (4, .int x4)] [] := by
  induction n with
  | zero => intro _ _ _ _  hm; exact absurd hm (by intro h; cases h)
  | succ n ih => intro _ _ _ _  hm; exact vX2_boundOf_5b C hr hQ (N := N)   ih  hm
def fX2_boundOf (N : Nat) (p1 : Int64) (S : St) : Option (Int32 × St) := fX2_boundOf_5 N N p1 0 0 S
set_option maxRecDepth 20000 in
theorem vX2_boundOf {p : Program} {l : Launch} {e : Env} {s : State} {m : MethodId} {args : Array Value} {below : List Frame} {meth : Method} {c : Code} {Q : State → Prop} {D : va_G} {ad : Nat → Nat} {cA : Nat → ClassId} (C : Ok p s m args c D cA (xW ad cA) (xA ad) (xS ad) RX2 cX2_boundOf 6) (hr : Rt meth (some .int)) {r : Int32 × St} (hQ : Q = MQ below (Qo D (xW ad cA) (xA ad) (some (.int r.1)) r.2) args s 0 0 (xA ad)) {N : Nat} {p1 : Int64} {S : St} (hm : fX2_boundOf N p1 S = some r) : V p l e rmX2_boundOf s m args below meth c Q D (xW ad cA) (xA ad) 6 S 0 [(0, .ref (ad 2)), (1, .long p1)] [] := by
  unfold fX2_boundOf at hm
  refine v_iconst C (pc := 0) 0 dX2_boundOf_0 rfl ?_
  refine v_istore_n C (pc := 1) [(3, .int 0), (0, .ref (ad 2)), (1, .long p1)] dX2_boundOf_1 rfl (by decide) rfl ?_
  refine v_iconst C (pc := 2) 0 dX2_boundOf_2 rfl ?_
  refine v_istore C (pc := 3) [(4, .int 0), (3, .int 0), (0, .ref (ad 2)), (1, .long p1)] dX2_boundOf_3 (by decide) rfl ?_
  exact v_sub [2, 3, 1, 0] rfl (vX2_boundOf_5 C hr hQ (N := N) N _ _ _ _ hm)
theorem mX2_boundOf {l : Launch} {D : va_G} {ad : Nat → Nat} {cA : Nat → ClassId} (hD : ∀ S, va_D (xA ad) (xW ad cA S)) {N : Nat} {p1 : Int64} {S : St} {r : Int32 × St} (hm : fX2_boundOf N p1 S = some r) : Met l yX2_boundOf (wsm yX2_boundOf cX2_boundOf 6 (some .int)) rmX2_boundOf (va_Pc [.ref (ad 2), .long p1] (Pre D cA (xW ad cA) (xS ad) S)) (Qo D (xW ad cA) (xA ad) (some (.int r.1)) r.2) 0 0 (xA ad) := met_of [.ref (ad 2), .long p1] (by decide) (Nat.le_of_ble_eq_true rfl) hD (xS_mv ad) (xS_kp ad) (fun p e s m below meth c C hr => vX2_boundOf C hr rfl (N := N)  hm)
-- X6_at
def rmX6_at : Room := { frames := 0, cells := 0, slots := 0, locals := 0 }
def fX6_at_22 (N : Nat)  (s0 : Int32) (S : St) : Option (Int32 × St) := nch s0 (some (s0, S))
set_option maxRecDepth 20000 in
theorem vX6_at_22 {p : Program} {l : Launch} {e : Env} {s : State} {m : MethodId} {args : Array Value} {below : List Frame} {meth : Method} {c : Code} {Q : State → Prop} {D : va_G} {ad : Nat → Nat} {cA : Nat → ClassId} (C : Ok p s m args c D cA (xW ad cA) (xA ad) (xS ad) RX6 cX6_at 2) (hr : Rt meth (some .char)) {r : Int32 × St} (hQ : Q = MQ below (Qo D (xW ad cA) (xA ad) (some (.int r.1)) r.2) args s 0 0 (xA ad)) {N : Nat}  {s0 : Int32}  {S : St} (hm : fX6_at_22 N  s0 S = some r) : V p l e rmX6_at s m args below meth c Q D (xW ad cA) (xA ad) 2 S 22 [] [.int s0] := by
  unfold fX6_at_22 at hm
  exact v_cretN C hr hQ (pc := 22) hm dX6_at_22
def fX6_at_21 (N : Nat)   (S : St) : Option (Int32 × St) := fX6_at_22 N 0 S
set_option maxRecDepth 20000 in
theorem vX6_at_21 {p : Program} {l : Launch} {e : Env} {s : State} {m : MethodId} {args : Array Value} {below : List Frame} {meth : Method} {c : Code} {Q : State → Prop} {D : va_G} {ad : Nat → Nat} {cA : Nat → ClassId} (C : Ok p s m args c D cA (xW ad cA) (xA ad) (xS ad) RX6 cX6_at 2) (hr : Rt meth (some .char)) {r : Int32 × St} (hQ : Q = MQ below (Qo D (xW ad cA) (xA ad) (some (.int r.1)) r.2) args s 0 0 (xA ad)) {N : Nat}    {S : St} (hm : fX6_at_21 N   S = some r) : V p l e rmX6_at s m args below meth c Q D (xW ad cA) (xA ad) 2 S 21 [] [] := by
  unfold fX6_at_21 at hm
  refine v_iconst C (pc := 21) 0 dX6_at_21 rfl ?_
  exact (vX6_at_22 C hr hQ (N := N) hm)
def fX6_at (N : Nat) (p1 : Int32) (S : St) : Option (Int32 × St) := if p1 < 0 then (fX6_at_21 N S) else (if (S.1 1) ≤ p1 then (fX6_at_21 N S) else (ck p1 80 (fX6_at_22 N (S.2.2.1 0 (Int32.toNatClampNeg p1)) S)))
set_option maxRecDepth 20000 in
theorem vX6_at {p : Program} {l : Launch} {e : Env} {s : State} {m : MethodId} {args : Array Value} {below : List Frame} {meth : Method} {c : Code} {Q : State → Prop} {D : va_G} {ad : Nat → Nat} {cA : Nat → ClassId} (C : Ok p s m args c D cA (xW ad cA) (xA ad) (xS ad) RX6 cX6_at 2) (hr : Rt meth (some .char)) {r : Int32 × St} (hQ : Q = MQ below (Qo D (xW ad cA) (xA ad) (some (.int r.1)) r.2) args s 0 0 (xA ad)) {N : Nat} {p1 : Int32} {S : St} (hm : fX6_at N p1 S = some r) : V p l e rmX6_at s m args below meth c Q D (xW ad cA) (xA ad) 2 S 0 [(0, .ref (ad 1)), (1, .int p1)] [] := by
  unfold fX6_at at hm
  refine v_iload_n C (pc := 0) 1 dX6_at_0 rfl rfl ?_
  refine v_if_lt C (pc := 1) hm 21 dX6_at_1 rfl (fun hm => ?_) (fun hm => ?_)
  · exact v_sub [] rfl (vX6_at_21 C hr hQ (N := N) hm)
  · refine v_iload_n C (pc := 4) 1 dX6_at_4 rfl rfl ?_
    refine v_aload_n C (pc := 5) 0 dX6_at_5 rfl rfl ?_
    refine gX6_15 C (pc := 6) dX6_at_6 ?_
    refine v_icmp_ge C (pc := 9) hm 21 dX6_at_9 rfl (fun hm => ?_) (fun hm => ?_)
    · exact v_sub [] rfl (vX6_at_21 C hr hQ (N := N) hm)
    · refine v_aload_n C (pc := 12) 0 dX6_at_12 rfl rfl ?_
      refine gX6_9 C (pc := 13) dX6_at_13 ?_
      refine v_iload_n C (pc := 16) 1 dX6_at_16 rfl rfl ?_
      refine ldX6_signs C (pc := 17) hm dX6_at_17 (fun hm => ?_)
      refine v_goto C (pc := 18) 22 dX6_at_18 rfl ?_
      exact v_sub [] rfl (vX6_at_22 C hr hQ (N := N) hm)
theorem mX6_at {l : Launch} {D : va_G} {ad : Nat → Nat} {cA : Nat → ClassId} (hD : ∀ S, va_D (xA ad) (xW ad cA S)) {N : Nat} {p1 : Int32} {S : St} {r : Int32 × St} (hm : fX6_at N p1 S = some r) : Met l yX6_at (wsm yX6_at cX6_at 2 (some .char)) rmX6_at (va_Pc [.ref (ad 1), .int p1] (Pre D cA (xW ad cA) (xS ad) S)) (Qo D (xW ad cA) (xA ad) (some (.int r.1)) r.2) 0 0 (xA ad) := met_of [.ref (ad 1), .int p1] (by decide) (Nat.le_of_ble_eq_true rfl) hD (xS_mv ad) (xS_kp ad) (fun p e s m below meth c C hr => vX6_at C hr rfl (N := N)  hm)
-- X3_endRow
def rmX3_endRow : Room := { frames := 0, cells := 0, slots := 0, locals := 0 }
def fX3_endRow_55 (N : Nat)   (S : St) : Option (Bool × St) := some (false, S)
set_option maxRecDepth 20000 in
theorem vX3_endRow_55 {p : Program} {l : Launch} {e : Env} {s : State} {m : MethodId} {args : Array Value} {below : List Frame} {meth : Method} {c : Code} {Q : State → Prop} {D : va_G} {ad : Nat → Nat} {cA : Nat → ClassId} (C : Ok p s m args c D cA (xW ad cA) (xA ad) (xS ad) RX3 cX3_endRow 2) (hr : Rt meth (some .boolean)) {r : Bool × St} (hQ : Q = MQ below (Qo D (xW ad cA) (xA ad) (some (.int (b2i r.1))) r.2) args s 0 0 (xA ad)) {N : Nat}    {S : St} (hm : fX3_endRow_55 N   S = some r) : V p l e rmX3_endRow s m args below meth c Q D (xW ad cA) (xA ad) 2 S 55 [] [] := by
  unfold fX3_endRow_55 at hm
  refine v_iconst C (pc := 55) 0 dX3_endRow_55 rfl ?_
  exact v_zret C hr hQ (x := false) (pc := 56) hm dX3_endRow_56
def fX3_endRow_39 (N : Nat)  (s0 : Bool) (S : St) : Option (Bool × St) := if (b2i s0) = 0 then (fX3_endRow_55 N S) else (if ((S.1 26) + 1) < 8 then (stp (sI S 25 (S.1 27)) fun S4 => stp (sI S4 26 ((S4.1 26) + 1)) fun S5 => stp (sI S5 27 0) fun S6 => some (true, S6)) else (fX3_endRow_55 N S))
set_option maxRecDepth 20000 in
theorem vX3_endRow_39 {p : Program} {l : Launch} {e : Env} {s : State} {m : MethodId} {args : Array Value} {below : List Frame} {meth : Method} {c : Code} {Q : State → Prop} {D : va_G} {ad : Nat → Nat} {cA : Nat → ClassId} (C : Ok p s m args c D cA (xW ad cA) (xA ad) (xS ad) RX3 cX3_endRow 2) (hr : Rt meth (some .boolean)) {r : Bool × St} (hQ : Q = MQ below (Qo D (xW ad cA) (xA ad) (some (.int (b2i r.1))) r.2) args s 0 0 (xA ad)) {N : Nat}  {s0 : Bool}  {S : St} (hm : fX3_endRow_39 N  s0 S = some r) : V p l e rmX3_endRow s m args below meth c Q D (xW ad cA) (xA ad) 2 S 39 [(0, .ref (ad 9))] [.int (b2i s0)] := by
  unfold fX3_endRow_39 at hm
  refine v_istore_n C (pc := 39) [(1, .int (b2i s0)), (0, .ref (ad 9))] dX3_endRow_39 rfl (by decide) rfl ?_
  refine v_iload_n C (pc := 40) 0 dX3_endRow_40 rfl rfl ?_
  refine v_if_eq C (pc := 41) hm 55 dX3_endRow_41 rfl (fun hm => ?_) (fun hm => ?_)
  · exact v_sub [] rfl (vX3_endRow_55 C hr hQ (N := N) hm)
  · refine v_aload_n C (pc := 44) 1 dX3_endRow_44 rfl rfl ?_
    refine gX3_25 C (pc := 45) dX3_endRow_45 ?_
    refine v_iconst C (pc := 48) 1 dX3_endRow_48 rfl ?_
    refine v_iadd C (pc := 49) dX3_endRow_49 ?_
    refine v_bipush C (pc := 50) 8 dX3_endRow_50 rfl ?_
    refine v_icmp_lt C (pc := 52) hm 57 dX3_endRow_52 rfl (fun hm => ?_) (fun hm => ?_)
    · refine v_aload_n C (pc := 57) 1 dX3_endRow_57 rfl rfl ?_
      refine v_aload_n C (pc := 58) 1 dX3_endRow_58 rfl rfl ?_
      refine gX3_28 C (pc := 59) dX3_endRow_59 ?_
      refine pX3_21 C (pc := 62) hm dX3_endRow_62 (fun S4 hm => ?_)
      refine v_aload_n C (pc := 65) 1 dX3_endRow_65 rfl rfl ?_
      refine v_dup C (pc := 66) dX3_endRow_66 rfl ?_
      refine gX3_25 C (pc := 67) dX3_endRow_67 ?_
      refine v_iconst C (pc := 70) 1 dX3_endRow_70 rfl ?_
      refine v_iadd C (pc := 71) dX3_endRow_71 ?_
      refine pX3_25 C (pc := 72) hm dX3_endRow_72 (fun S5 hm => ?_)
      refine v_aload_n C (pc := 75) 1 dX3_endRow_75 rfl rfl ?_
      refine v_iconst C (pc := 76) 0 dX3_endRow_76 rfl ?_
      refine pX3_28 C (pc := 77) hm dX3_endRow_77 (fun S6 hm => ?_)
      refine v_iconst C (pc := 80) 1 dX3_endRow_80 rfl ?_
      exact v_zret C hr hQ (x := true) (pc := 81) hm dX3_endRow_81
    · exact v_sub [] rfl (vX3_endRow_55 C hr hQ (N := N) hm)
def fX3_endRow (N : Nat)  (S : St) : Option (Bool × St) := if (S.1 26) = 0 then (if (S.1 27) < 3 then (fX3_endRow_39 N false S) else (fX3_endRow_39 N true S)) else (if (S.1 27) = (S.1 25) then (fX3_endRow_39 N true S) else (fX3_endRow_39 N false S))
set_option maxRecDepth 20000 in
theorem vX3_endRow {p : Program} {l : Launch} {e : Env} {s : State} {m : MethodId} {args : Array Value} {below : List Frame} {meth : Method} {c : Code} {Q : State → Prop} {D : va_G} {ad : Nat → Nat} {cA : Nat → ClassId} (C : Ok p s m args c D cA (xW ad cA) (xA ad) (xS ad) RX3 cX3_endRow 2) (hr : Rt meth (some .boolean)) {r : Bool × St} (hQ : Q = MQ below (Qo D (xW ad cA) (xA ad) (some (.int (b2i r.1))) r.2) args s 0 0 (xA ad)) {N : Nat}  {S : St} (hm : fX3_endRow N  S = some r) : V p l e rmX3_endRow s m args below meth c Q D (xW ad cA) (xA ad) 2 S 0 [(0, .ref (ad 9))] [] := by
  unfold fX3_endRow at hm
  refine v_aload_n C (pc := 0) 0 dX3_endRow_0 rfl rfl ?_
  refine gX3_25 C (pc := 1) dX3_endRow_1 ?_
  refine v_if_ne C (pc := 4) hm 23 dX3_endRow_4 rfl (fun hm => ?_) (fun hm => ?_)
  · refine v_aload_n C (pc := 23) 0 dX3_endRow_23 rfl rfl ?_
    refine gX3_28 C (pc := 24) dX3_endRow_24 ?_
    refine v_aload_n C (pc := 27) 0 dX3_endRow_27 rfl rfl ?_
    refine gX3_21 C (pc := 28) dX3_endRow_28 ?_
    refine v_icmp_ne C (pc := 31) hm 38 dX3_endRow_31 rfl (fun hm => ?_) (fun hm => ?_)
    · refine v_iconst C (pc := 38) 0 dX3_endRow_38 rfl ?_
      exact (vX3_endRow_39 C hr hQ (N := N) hm)
    · refine v_iconst C (pc := 34) 1 dX3_endRow_34 rfl ?_
      refine v_goto C (pc := 35) 39 dX3_endRow_35 rfl ?_
      exact (vX3_endRow_39 C hr hQ (N := N) hm)
  · refine v_aload_n C (pc := 7) 0 dX3_endRow_7 rfl rfl ?_
    refine gX3_28 C (pc := 8) dX3_endRow_8 ?_
    refine v_iconst C (pc := 11) 3 dX3_endRow_11 rfl ?_
    refine v_icmp_lt C (pc := 12) hm 19 dX3_endRow_12 rfl (fun hm => ?_) (fun hm => ?_)
    · refine v_iconst C (pc := 19) 0 dX3_endRow_19 rfl ?_
      refine v_goto C (pc := 20) 39 dX3_endRow_20 rfl ?_
      exact (vX3_endRow_39 C hr hQ (N := N) hm)
    · refine v_iconst C (pc := 15) 1 dX3_endRow_15 rfl ?_
      refine v_goto C (pc := 16) 39 dX3_endRow_16 rfl ?_
      exact (vX3_endRow_39 C hr hQ (N := N) hm)
theorem mX3_endRow {l : Launch} {D : va_G} {ad : Nat → Nat} {cA : Nat → ClassId} (hD : ∀ S, va_D (xA ad) (xW ad cA S)) {N : Nat}  {S : St} {r : Bool × St} (hm : fX3_endRow N  S = some r) : Met l yX3_endRow (wsm yX3_endRow cX3_endRow 2 (some .boolean)) rmX3_endRow (va_Pc [.ref (ad 9)] (Pre D cA (xW ad cA) (xS ad) S)) (Qo D (xW ad cA) (xA ad) (some (.int (b2i r.1))) r.2) 0 0 (xA ad) := met_of [.ref (ad 9)] (by decide) (Nat.le_of_ble_eq_true rfl) hD (xS_mv ad) (xS_kp ad) (fun p e s m below meth c C hr => vX3_endRow C hr rfl (N := N)  hm)
-- X3_isPivot
def rmX3_isPivot : Room := { frames := 0, cells := 0, slots := 0, locals := 0 }
def fX3_isPivot_17 (N : Nat)  (s0 : Bool) (S : St) : Option (Bool × St) := some (s0, S)
set_option maxRecDepth 20000 in
theorem vX3_isPivot_17 {p : Program} {l : Launch} {e : Env} {s : State} {m : MethodId} {args : Array Value} {below : List Frame} {meth : Method} {c : Code} {Q : State → Prop} {D : va_G} {ad : Nat → Nat} {cA : Nat → ClassId} (C : Ok p s m args c D cA (xW ad cA) (xA ad) (xS ad) RX3 cX3_isPivot 1) (hr : Rt meth (some .boolean)) {r : Bool × St} (hQ : Q = MQ below (Qo D (xW ad cA) (xA ad) (some (.int (b2i r.1))) r.2) args s 0 0 (xA ad)) {N : Nat}  {s0 : Bool}  {S : St} (hm : fX3_isPivot_17 N  s0 S = some r) : V p l e rmX3_isPivot s m args below meth c Q D (xW ad cA) (xA ad) 1 S 17 [] [.int (b2i s0)] := by
  unfold fX3_isPivot_17 at hm
  exact v_zret C hr hQ (x := s0) (pc := 17) hm dX3_isPivot_17
def fX3_isPivot_16 (N : Nat)   (S : St) : Option (Bool × St) := fX3_isPivot_17 N false S
set_option maxRecDepth 20000 in
theorem vX3_isPivot_16 {p : Program} {l : Launch} {e : Env} {s : State} {m : MethodId} {args : Array Value} {below : List Frame} {meth : Method} {c : Code} {Q : State → Prop} {D : va_G} {ad : Nat → Nat} {cA : Nat → ClassId} (C : Ok p s m args c D cA (xW ad cA) (xA ad) (xS ad) RX3 cX3_isPivot 1) (hr : Rt meth (some .boolean)) {r : Bool × St} (hQ : Q = MQ below (Qo D (xW ad cA) (xA ad) (some (.int (b2i r.1))) r.2) args s 0 0 (xA ad)) {N : Nat}    {S : St} (hm : fX3_isPivot_16 N   S = some r) : V p l e rmX3_isPivot s m args below meth c Q D (xW ad cA) (xA ad) 1 S 16 [] [] := by
  unfold fX3_isPivot_16 at hm
  refine v_iconst C (pc := 16) 0 dX3_isPivot_16 rfl ?_
  exact (vX3_isPivot_17 C hr hQ (N := N) hm)
def fX3_isPivot (N : Nat) (p1 : Int32) (S : St) : Option (Bool × St) := if p1 < 65 then (fX3_isPivot_16 N S) else (if 70 ≤ p1 then (fX3_isPivot_16 N S) else (fX3_isPivot_17 N true S))
set_option maxRecDepth 20000 in
theorem vX3_isPivot {p : Program} {l : Launch} {e : Env} {s : State} {m : MethodId} {args : Array Value} {below : List Frame} {meth : Method} {c : Code} {Q : State → Prop} {D : va_G} {ad : Nat → Nat} {cA : Nat → ClassId} (C : Ok p s m args c D cA (xW ad cA) (xA ad) (xS ad) RX3 cX3_isPivot 1) (hr : Rt meth (some .boolean)) {r : Bool × St} (hQ : Q = MQ below (Qo D (xW ad cA) (xA ad) (some (.int (b2i r.1))) r.2) args s 0 0 (xA ad)) {N : Nat} {p1 : Int32} {S : St} (hm : fX3_isPivot N p1 S = some r) : V p l e rmX3_isPivot s m args below meth c Q D (xW ad cA) (xA ad) 1 S 0 [(0, .int p1)] [] := by
  unfold fX3_isPivot at hm
  refine v_iload_n C (pc := 0) 0 dX3_isPivot_0 rfl rfl ?_
  refine v_bipush C (pc := 1) 65 dX3_isPivot_1 rfl ?_
  refine v_icmp_lt C (pc := 3) hm 16 dX3_isPivot_3 rfl (fun hm => ?_) (fun hm => ?_)
  · exact v_sub [] rfl (vX3_isPivot_16 C hr hQ (N := N) hm)
  · refine v_iload_n C (pc := 6) 0 dX3_isPivot_6 rfl rfl ?_
    refine v_bipush C (pc := 7) 70 dX3_isPivot_7 rfl ?_
    refine v_icmp_ge C (pc := 9) hm 16 dX3_isPivot_9 rfl (fun hm => ?_) (fun hm => ?_)
    · exact v_sub [] rfl (vX3_isPivot_16 C hr hQ (N := N) hm)
    · refine v_iconst C (pc := 12) 1 dX3_isPivot_12 rfl ?_
      refine v_goto C (pc := 13) 17 dX3_isPivot_13 rfl ?_
      exact v_sub [] rfl (vX3_isPivot_17 C hr hQ (N := N) hm)
theorem mX3_isPivot {l : Launch} {D : va_G} {ad : Nat → Nat} {cA : Nat → ClassId} (hD : ∀ S, va_D (xA ad) (xW ad cA S)) {N : Nat} {p1 : Int32} {S : St} {r : Bool × St} (hm : fX3_isPivot N p1 S = some r) : Met l yX3_isPivot (wsm yX3_isPivot cX3_isPivot 1 (some .boolean)) rmX3_isPivot (va_Pc [.int p1] (Pre D cA (xW ad cA) (xS ad) S)) (Qo D (xW ad cA) (xA ad) (some (.int (b2i r.1))) r.2) 0 0 (xA ad) := met_of [.int p1] (by decide) (Nat.le_of_ble_eq_true rfl) hD (xS_mv ad) (xS_kp ad) (fun p e s m below meth c C hr => vX3_isPivot C hr rfl (N := N)  hm)
-- X3_blockOf
theorem infX3_isPivot : InfS yX3_isPivot cX3_isPivot 1 (some .boolean) 1 := ⟨⟨gm (i := 61) (by decide +kernel) rfl, gm (i := 404) (by decide +kernel) rfl, by decide +kernel⟩, gm (i := 403) (by decide +kernel) rfl⟩
theorem kX3_69 {p : Program} {l : Launch} {e : Env} {R : Room} {s : State} {m : MethodId} {args : Array Value} {below : List Frame} {meth : Method} {c : Code} {Q : State → Prop} {D : va_G} {ad : Nat → Nat} {cA : Nat → ClassId} {cc : ByteArray} {nL : Nat} {S : St} {pc : Nat} {lv : List (Nat × Value)} {st : List Value} {ρ : Type} {res : ρ} (C : Ok p s m args c D cA (xW ad cA) (xA ad) (xS ad) RX3 cc nL) (hfr : rmX3_isPivot.frames + 1 ≤ R.frames) (hlo : 8 + (1 + 11) + rmX3_isPivot.locals ≤ R.locals) {N : Nat} {p1 : Int32} {E : Bool → St → Option ρ} (hm : bd (fX3_isPivot N p1 S) E = some res) (hcat : (st.map fun v => v.category).sum ≤ 8) (hd : decode cc pc = .ok (.invokestatic 69, 3)) (k : ∀ r S, E r S = some res → V p l e R s m args below meth c Q D (xW ad cA) (xA ad) nL S (pc + 3) lv (.int (b2i r) :: st)) : V p l e R s m args below meth c Q D (xW ad cA) (xA ad) nL S pc lv (.int p1 :: st) := by
  obtain ⟨r, S1, h1, h2⟩ := bd_some hm
  exact v_callS C (gm (i := 402) (by decide +kernel) rfl : Cond.methodLink RX3 69 yX3_isPivot ∈ gw_tbl) infX3_isPivot (rm2 := rmX3_isPivot) ⟨rfl, rfl⟩ hfr hlo (mX3_isPivot C.2.2.2.2.2.2.1 h1) (As := [.int p1]) rfl rfl hcat hd (k r S1 h2)
def rmX3_blockOf : Room := { frames := 1, cells := 0, slots := 0, locals := 20 }
def fX3_blockOf_32 (N : Nat)  (s0 : Int32) (S : St) : Option (Int32 × St) := some (s0, S)
set_option maxRecDepth 20000 in
theorem vX3_blockOf_32 {p : Program} {l : Launch} {e : Env} {s : State} {m : MethodId} {args : Array Value} {below : List Frame} {meth : Method} {c : Code} {Q : State → Prop} {D : va_G} {ad : Nat → Nat} {cA : Nat → ClassId} (C : Ok p s m args c D cA (xW ad cA) (xA ad) (xS ad) RX3 cX3_blockOf 1) (hr : Rt meth (some .int)) {r : Int32 × St} (hQ : Q = MQ below (Qo D (xW ad cA) (xA ad) (some (.int r.1)) r.2) args s 0 0 (xA ad)) {N : Nat}  {s0 : Int32}  {S : St} (hm : fX3_blockOf_32 N  s0 S = some r) : V p l e rmX3_blockOf s m args below meth c Q D (xW ad cA) (xA ad) 1 S 32 [] [.int s0] := by
  unfold fX3_blockOf_32 at hm
  exact v_iret C hr hQ (pc := 32) hm dX3_blockOf_32
def fX3_blockOf_31 (N : Nat)   (S : St) : Option (Int32 × St) := fX3_blockOf_32 N (-1) S
set_option maxRecDepth 20000 in
theorem vX3_blockOf_31 {p : Program} {l : Launch} {e : Env} {s : State} {m : MethodId} {args : Array Value} {below : List Frame} {meth : Method} {c : Code} {Q : State → Prop} {D : va_G} {ad : Nat → Nat} {cA : Nat → ClassId} (C : Ok p s m args c D cA (xW ad cA) (xA ad) (xS ad) RX3 cX3_blockOf 1) (hr : Rt meth (some .int)) {r : Int32 × St} (hQ : Q = MQ below (Qo D (xW ad cA) (xA ad) (some (.int r.1)) r.2) args s 0 0 (xA ad)) {N : Nat}    {S : St} (hm : fX3_blockOf_31 N   S = some r) : V p l e rmX3_blockOf s m args below meth c Q D (xW ad cA) (xA ad) 1 S 31 [] [] := by
  unfold fX3_blockOf_31 at hm
  refine v_iconst C (pc := 31) (-1) dX3_blockOf_31 rfl ?_
  exact (vX3_blockOf_32 C hr hQ (N := N) hm)
def fX3_blockOf (N : Nat) (p1 : Int32) (S : St) : Option (Int32 × St) := bd (fX3_isPivot N p1 S) fun r2 S2 => if (b2i r2) = 0 then (if p1 < 97 then (fX3_blockOf_31 N S2) else (if 102 ≤ p1 then (fX3_blockOf_31 N S2) else (fX3_blockOf_32 N (p1 - 97) S2))) else (some ((p1 - 65), S2))
set_option maxRecDepth 20000 in
theorem vX3_blockOf {p : Program} {l : Launch} {e : Env} {s : State} {m : MethodId} {args : Array Value} {below : List Frame} {meth : Method} {c : Code} {Q : State → Prop} {D : va_G} {ad : Nat → Nat} {cA : Nat → ClassId} (C : Ok p s m args c D cA (xW ad cA) (xA ad) (xS ad) RX3 cX3_blockOf 1) (hr : Rt meth (some .int)) {r : Int32 × St} (hQ : Q = MQ below (Qo D (xW ad cA) (xA ad) (some (.int r.1)) r.2) args s 0 0 (xA ad)) {N : Nat} {p1 : Int32} {S : St} (hm : fX3_blockOf N p1 S = some r) : V p l e rmX3_blockOf s m args below meth c Q D (xW ad cA) (xA ad) 1 S 0 [(0, .int p1)] [] := by
  unfold fX3_blockOf at hm
  refine v_iload_n C (pc := 0) 0 dX3_blockOf_0 rfl rfl ?_
  refine kX3_69 C (Nat.le_of_ble_eq_true rfl) (Nat.le_of_ble_eq_true rfl) (pc := 1) hm (Nat.le_of_ble_eq_true rfl) dX3_blockOf_1 (fun r2 S2 hm => ?_)
  refine v_if_eq C (pc := 4) hm 12 dX3_blockOf_4 rfl (fun hm => ?_) (fun hm => ?_)
  · refine v_iload_n C (pc := 12) 0 dX3_blockOf_12 rfl rfl ?_
    refine v_bipush C (pc := 13) 97 dX3_blockOf_13 rfl ?_
    refine v_icmp_lt C (pc := 15) hm 31 dX3_blockOf_15 rfl (fun hm => ?_) (fun hm => ?_)
    · exact v_sub [] rfl (vX3_blockOf_31 C hr hQ (N := N) hm)
    · refine v_iload_n C (pc := 18) 0 dX3_blockOf_18 rfl rfl ?_
      refine v_bipush C (pc := 19) 102 dX3_blockOf_19 rfl ?_
      refine v_icmp_ge C (pc := 21) hm 31 dX3_blockOf_21 rfl (fun hm => ?_) (fun hm => ?_)
      · exact v_sub [] rfl (vX3_blockOf_31 C hr hQ (N := N) hm)
      · refine v_iload_n C (pc := 24) 0 dX3_blockOf_24 rfl rfl ?_
        refine v_bipush C (pc := 25) 97 dX3_blockOf_25 rfl ?_
        refine v_isub C (pc := 27) dX3_blockOf_27 ?_
        refine v_goto C (pc := 28) 32 dX3_blockOf_28 rfl ?_
        exact v_sub [] rfl (vX3_blockOf_32 C hr hQ (N := N) hm)
  · refine v_iload_n C (pc := 7) 0 dX3_blockOf_7 rfl rfl ?_
    refine v_bipush C (pc := 8) 65 dX3_blockOf_8 rfl ?_
    refine v_isub C (pc := 10) dX3_blockOf_10 ?_
    exact v_iret C hr hQ (pc := 11) hm dX3_blockOf_11
theorem mX3_blockOf {l : Launch} {D : va_G} {ad : Nat → Nat} {cA : Nat → ClassId} (hD : ∀ S, va_D (xA ad) (xW ad cA S)) {N : Nat} {p1 : Int32} {S : St} {r : Int32 × St} (hm : fX3_blockOf N p1 S = some r) : Met l yX3_blockOf (wsm yX3_blockOf cX3_blockOf 1 (some .int)) rmX3_blockOf (va_Pc [.int p1] (Pre D cA (xW ad cA) (xS ad) S)) (Qo D (xW ad cA) (xA ad) (some (.int r.1)) r.2) 0 0 (xA ad) := met_of [.int p1] (by decide) (Nat.le_of_ble_eq_true rfl) hD (xS_mv ad) (xS_kp ad) (fun p e s m below meth c C hr => vX3_blockOf C hr rfl (N := N)  hm)
-- X8_placeOf
def rmX8_placeOf_KIND_LETTERS : Room := { frames := 0, cells := 0, slots := 0, locals := 0 }
def fX8_placeOf_KIND_LETTERS_2b (N : Nat)  (k2 : Int32 → Int32 → St → Option (Int32 × St)) (x0 : Int32) (x2 : Int32) (S : St) : Option (Int32 × St) := if (Int32.ofNat 6) ≤ x2 then (some ((-1), S)) else (ck x2 6 (if (tKL (Int32.toNatClampNeg x2)) = x0 then (some (x2, S)) else (k2 x0 (x2 + 1) S)))
def fX8_placeOf_KIND_LETTERS_2 (N : Nat)  : Nat → Int32 → Int32 → St → Option (Int32 × St)
  | 0 => fun _ _ _ => none
  | n + 1 => fun x0 x2 S => fX8_placeOf_KIND_LETTERS_2b N  (fX8_placeOf_KIND_LETTERS_2 N  n) x0 x2 S
set_option maxRecDepth 20000 in
theorem vX8_placeOf_KIND_LETTERS_2b {p : Program} {l : Launch} {e : Env} {s : State} {m : MethodId} {args : Array Value} {below : List Frame} {meth : Method} {c : Code} {Q : State → Prop} {D : va_G} {ad : Nat → Nat} {cA : Nat → ClassId} (C : Ok p s m args c D cA (xW ad cA) (xA ad) (xS ad) RX8 cX8_placeOf 3) (hr : Rt meth (some .int)) {r : Int32 × St} (hQ : Q = MQ below (Qo D (xW ad cA) (xA ad) (some (.int r.1)) r.2) args s 0 0 (xA ad)) {N : Nat}  {k2 : Int32 → Int32 → St → Option (Int32 × St)} (hk2 : ∀ (x0 : Int32) (x2 : Int32) (S : St), k2 x0 x2 S = some r → V p l e rmX8_placeOf_KIND_LETTERS s m args below meth c Q D (xW ad cA) (xA ad) 3 S 2 [(0, .int x0), (1, .ref (ad 200)), (2, .int x2)] []) {x0 : Int32} {x2 : Int32}  {S : St} (hm : fX8_placeOf_KIND_LETTERS_2b N  k2 x0 x2 S = some r) : V p l e rmX8_placeOf_KIND_LETTERS s m args below meth c Q D (xW ad cA) (xA ad) 3 S 2 [(0, .int x0), (1, .ref (ad 200)), (2, .int x2)] [] := by
  unfold fX8_placeOf_KIND_LETTERS_2b at hm
  refine v_iload_n C (pc := 2) 2 dX8_placeOf_2 rfl rfl ?_
  refine v_aload_n C (pc := 3) 1 dX8_placeOf_3 rfl rfl ?_
  refine v_tablen C (pc := 4) C.2.2.2.2.2.2.2.1.1.2 dX8_placeOf_4 ?_
  refine v_icmp_ge C (pc := 5) hm 23 dX8_placeOf_5 rfl (fun hm => ?_) (fun hm => ?_)
  · refine v_iconst C (pc := 23) (-1) dX8_placeOf_23 rfl ?_
    exact v_iret C hr hQ (pc := 24) hm dX8_placeOf_24
  · refine v_aload_n C (pc := 8) 1 dX8_placeOf_8 rfl rfl ?_
    refine v_iload_n C (pc := 9) 2 dX8_placeOf_9 rfl rfl ?_
    refine v_tabc C (pc := 10) C.2.2.2.2.2.2.2.1.1.2 hm dX8_placeOf_10 (fun hm => ?_)
    refine v_iload_n C (pc := 11) 0 dX8_placeOf_11 rfl rfl ?_
    refine v_icmp_ne C (pc := 12) hm 17 dX8_placeOf_12 rfl (fun hm => ?_) (fun hm => ?_)
    · refine v_iinc C (pc := 17) 1 2 [(2, .int (x2 + 1)), (0, .int x0), (1, .ref (ad 200))] dX8_placeOf_17 rfl rfl (by decide) rfl ?_
      refine v_goto C (pc := 20) 2 dX8_placeOf_20 rfl ?_
      exact v_sub [1, 2, 0] rfl (hk2 _ _ _ hm)
    · refine v_iload_n C (pc := 15) 2 dX8_placeOf_15 rfl rfl ?_
      exact v_iret C hr hQ (pc := 16) hm dX8_placeOf_16
theorem vX8_placeOf_KIND_LETTERS_2 {p : Program} {l : Launch} {e : Env} {s : State} {m : MethodId} {args : Array Value} {below : List Frame} {meth : Method} {c : Code} {Q : State → Prop} {D : va_G} {ad : Nat → Nat} {cA : Nat → ClassId} (C : Ok p s m args c D cA (xW ad cA) (xA ad) (xS ad) RX8 cX8_placeOf 3) (hr : Rt meth (some .int)) {r : Int32 × St} (hQ : Q = MQ below (Qo D (xW ad cA) (xA ad) (some (.int r.1)) r.2) args s 0 0 (xA ad)) {N : Nat}  (n : Nat) : ∀ (x0 : Int32) (x2 : Int32) (S : St), fX8_placeOf_KIND_LETTERS_2 N  n x0 x2 S = some r → V p l e rmX8_placeOf_KIND_LETTERS s m args below meth c Q D (xW ad cA) (xA ad) 3 S 2 [(0, .int x0), (1, .ref (ad 200)), (2, .int x2)] [] := by
  induction n with
  | zero => intro _ _ _  hm; exact absurd hm (by intro h; cases h)
  | succ n ih => intro _ _ _  hm; exact vX8_placeOf_KIND_LETTERS_2b C hr hQ (N := N)   ih  hm
def fX8_placeOf_KIND_LETTERS (N : Nat) (p1 : Int32) (S : St) : Option (Int32 × St) := fX8_placeOf_KIND_LETTERS_2 N N p1 0 S
set_option maxRecDepth 20000 in
theorem vX8_placeOf_KIND_LETTERS {p : Program} {l : Launch} {e : Env} {s : State} {m : MethodId} {args : Array Value} {below : List Frame} {meth : Method} {c : Code} {Q : State → Prop} {D : va_G} {ad : Nat → Nat} {cA : Nat → ClassId} (C : Ok p s m args c D cA (xW ad cA) (xA ad) (xS ad) RX8 cX8_placeOf 3) (hr : Rt meth (some .int)) {r : Int32 × St} (hQ : Q = MQ below (Qo D (xW ad cA) (xA ad) (some (.int r.1)) r.2) args s 0 0 (xA ad)) {N : Nat} {p1 : Int32} {S : St} (hm : fX8_placeOf_KIND_LETTERS N p1 S = some r) : V p l e rmX8_placeOf_KIND_LETTERS s m args below meth c Q D (xW ad cA) (xA ad) 3 S 0 [(0, .int p1), (1, .ref (ad 200))] [] := by
  unfold fX8_placeOf_KIND_LETTERS at hm
  refine v_iconst C (pc := 0) 0 dX8_placeOf_0 rfl ?_
  refine v_istore_n C (pc := 1) [(2, .int 0), (0, .int p1), (1, .ref (ad 200))] dX8_placeOf_1 rfl (by decide) rfl ?_
  exact v_sub [1, 2, 0] rfl (vX8_placeOf_KIND_LETTERS_2 C hr hQ (N := N) N _ _ _ hm)
theorem mX8_placeOf_KIND_LETTERS {l : Launch} {D : va_G} {ad : Nat → Nat} {cA : Nat → ClassId} (hD : ∀ S, va_D (xA ad) (xW ad cA S)) {N : Nat} {p1 : Int32} {S : St} {r : Int32 × St} (hm : fX8_placeOf_KIND_LETTERS N p1 S = some r) : Met l yX8_placeOf (wsm yX8_placeOf cX8_placeOf 3 (some .int)) rmX8_placeOf_KIND_LETTERS (va_Pc [.int p1, .ref (ad 200)] (Pre D cA (xW ad cA) (xS ad) S)) (Qo D (xW ad cA) (xA ad) (some (.int r.1)) r.2) 0 0 (xA ad) := met_of [.int p1, .ref (ad 200)] (by decide) (Nat.le_of_ble_eq_true rfl) hD (xS_mv ad) (xS_kp ad) (fun p e s m below meth c C hr => vX8_placeOf_KIND_LETTERS C hr rfl (N := N)  hm)
-- X8_placeOf
def rmX8_placeOf_GROUND : Room := { frames := 0, cells := 0, slots := 0, locals := 0 }
def fX8_placeOf_GROUND_2b (N : Nat)  (k2 : Int32 → Int32 → St → Option (Int32 × St)) (x0 : Int32) (x2 : Int32) (S : St) : Option (Int32 × St) := if (Int32.ofNat 14) ≤ x2 then (some ((-1), S)) else (ck x2 14 (if (tGR (Int32.toNatClampNeg x2)) = x0 then (some (x2, S)) else (k2 x0 (x2 + 1) S)))
def fX8_placeOf_GROUND_2 (N : Nat)  : Nat → Int32 → Int32 → St → Option (Int32 × St)
  | 0 => fun _ _ _ => none
  | n + 1 => fun x0 x2 S => fX8_placeOf_GROUND_2b N  (fX8_placeOf_GROUND_2 N  n) x0 x2 S
set_option maxRecDepth 20000 in
theorem vX8_placeOf_GROUND_2b {p : Program} {l : Launch} {e : Env} {s : State} {m : MethodId} {args : Array Value} {below : List Frame} {meth : Method} {c : Code} {Q : State → Prop} {D : va_G} {ad : Nat → Nat} {cA : Nat → ClassId} (C : Ok p s m args c D cA (xW ad cA) (xA ad) (xS ad) RX8 cX8_placeOf 3) (hr : Rt meth (some .int)) {r : Int32 × St} (hQ : Q = MQ below (Qo D (xW ad cA) (xA ad) (some (.int r.1)) r.2) args s 0 0 (xA ad)) {N : Nat}  {k2 : Int32 → Int32 → St → Option (Int32 × St)} (hk2 : ∀ (x0 : Int32) (x2 : Int32) (S : St), k2 x0 x2 S = some r → V p l e rmX8_placeOf_GROUND s m args below meth c Q D (xW ad cA) (xA ad) 3 S 2 [(0, .int x0), (1, .ref (ad 201)), (2, .int x2)] []) {x0 : Int32} {x2 : Int32}  {S : St} (hm : fX8_placeOf_GROUND_2b N  k2 x0 x2 S = some r) : V p l e rmX8_placeOf_GROUND s m args below meth c Q D (xW ad cA) (xA ad) 3 S 2 [(0, .int x0), (1, .ref (ad 201)), (2, .int x2)] [] := by
  unfold fX8_placeOf_GROUND_2b at hm
  refine v_iload_n C (pc := 2) 2 dX8_placeOf_2 rfl rfl ?_
  refine v_aload_n C (pc := 3) 1 dX8_placeOf_3 rfl rfl ?_
  refine v_tablen C (pc := 4) C.2.2.2.2.2.2.2.1.2.1.2 dX8_placeOf_4 ?_
  refine v_icmp_ge C (pc := 5) hm 23 dX8_placeOf_5 rfl (fun hm => ?_) (fun hm => ?_)
  · refine v_iconst C (pc := 23) (-1) dX8_placeOf_23 rfl ?_
    exact v_iret C hr hQ (pc := 24) hm dX8_placeOf_24
  · refine v_aload_n C (pc := 8) 1 dX8_placeOf_8 rfl rfl ?_
    refine v_iload_n C (pc := 9) 2 dX8_placeOf_9 rfl rfl ?_
    refine v_tabc C (pc := 10) C.2.2.2.2.2.2.2.1.2.1.2 hm dX8_placeOf_10 (fun hm => ?_)
    refine v_iload_n C (pc := 11) 0 dX8_placeOf_11 rfl rfl ?_
    refine v_icmp_ne C (pc := 12) hm 17 dX8_placeOf_12 rfl (fun hm => ?_) (fun hm => ?_)
    · refine v_iinc C (pc := 17) 1 2 [(2, .int (x2 + 1)), (0, .int x0), (1, .ref (ad 201))] dX8_placeOf_17 rfl rfl (by decide) rfl ?_
      refine v_goto C (pc := 20) 2 dX8_placeOf_20 rfl ?_
      exact v_sub [1, 2, 0] rfl (hk2 _ _ _ hm)
    · refine v_iload_n C (pc := 15) 2 dX8_placeOf_15 rfl rfl ?_
      exact v_iret C hr hQ (pc := 16) hm dX8_placeOf_16
theorem vX8_placeOf_GROUND_2 {p : Program} {l : Launch} {e : Env} {s : State} {m : MethodId} {args : Array Value} {below : List Frame} {meth : Method} {c : Code} {Q : State → Prop} {D : va_G} {ad : Nat → Nat} {cA : Nat → ClassId} (C : Ok p s m args c D cA (xW ad cA) (xA ad) (xS ad) RX8 cX8_placeOf 3) (hr : Rt meth (some .int)) {r : Int32 × St} (hQ : Q = MQ below (Qo D (xW ad cA) (xA ad) (some (.int r.1)) r.2) args s 0 0 (xA ad)) {N : Nat}  (n : Nat) : ∀ (x0 : Int32) (x2 : Int32) (S : St), fX8_placeOf_GROUND_2 N  n x0 x2 S = some r → V p l e rmX8_placeOf_GROUND s m args below meth c Q D (xW ad cA) (xA ad) 3 S 2 [(0, .int x0), (1, .ref (ad 201)), (2, .int x2)] [] := by
  induction n with
  | zero => intro _ _ _  hm; exact absurd hm (by intro h; cases h)
  | succ n ih => intro _ _ _  hm; exact vX8_placeOf_GROUND_2b C hr hQ (N := N)   ih  hm
def fX8_placeOf_GROUND (N : Nat) (p1 : Int32) (S : St) : Option (Int32 × St) := fX8_placeOf_GROUND_2 N N p1 0 S
set_option maxRecDepth 20000 in
theorem vX8_placeOf_GROUND {p : Program} {l : Launch} {e : Env} {s : State} {m : MethodId} {args : Array Value} {below : List Frame} {meth : Method} {c : Code} {Q : State → Prop} {D : va_G} {ad : Nat → Nat} {cA : Nat → ClassId} (C : Ok p s m args c D cA (xW ad cA) (xA ad) (xS ad) RX8 cX8_placeOf 3) (hr : Rt meth (some .int)) {r : Int32 × St} (hQ : Q = MQ below (Qo D (xW ad cA) (xA ad) (some (.int r.1)) r.2) args s 0 0 (xA ad)) {N : Nat} {p1 : Int32} {S : St} (hm : fX8_placeOf_GROUND N p1 S = some r) : V p l e rmX8_placeOf_GROUND s m args below meth c Q D (xW ad cA) (xA ad) 3 S 0 [(0, .int p1), (1, .ref (ad 201))] [] := by
  unfold fX8_placeOf_GROUND at hm
  refine v_iconst C (pc := 0) 0 dX8_placeOf_0 rfl ?_
  refine v_istore_n C (pc := 1) [(2, .int 0), (0, .int p1), (1, .ref (ad 201))] dX8_placeOf_1 rfl (by decide) rfl ?_
  exact v_sub [1, 2, 0] rfl (vX8_placeOf_GROUND_2 C hr hQ (N := N) N _ _ _ hm)
theorem mX8_placeOf_GROUND {l : Launch} {D : va_G} {ad : Nat → Nat} {cA : Nat → ClassId} (hD : ∀ S, va_D (xA ad) (xW ad cA S)) {N : Nat} {p1 : Int32} {S : St} {r : Int32 × St} (hm : fX8_placeOf_GROUND N p1 S = some r) : Met l yX8_placeOf (wsm yX8_placeOf cX8_placeOf 3 (some .int)) rmX8_placeOf_GROUND (va_Pc [.int p1, .ref (ad 201)] (Pre D cA (xW ad cA) (xS ad) S)) (Qo D (xW ad cA) (xA ad) (some (.int r.1)) r.2) 0 0 (xA ad) := met_of [.int p1, .ref (ad 201)] (by decide) (Nat.le_of_ble_eq_true rfl) hD (xS_mv ad) (xS_kp ad) (fun p e s m below meth c C hr => vX8_placeOf_GROUND C hr rfl (N := N)  hm)
-- X3_groundOf
theorem infX8_placeOf : InfS yX8_placeOf cX8_placeOf 3 (some .int) 2 := ⟨⟨gm (i := 55) (by decide +kernel) rfl, gm (i := 412) (by decide +kernel) rfl, by decide +kernel⟩, gm (i := 411) (by decide +kernel) rfl⟩
theorem kX3_123_GROUND {p : Program} {l : Launch} {e : Env} {R : Room} {s : State} {m : MethodId} {args : Array Value} {below : List Frame} {meth : Method} {c : Code} {Q : State → Prop} {D : va_G} {ad : Nat → Nat} {cA : Nat → ClassId} {cc : ByteArray} {nL : Nat} {S : St} {pc : Nat} {lv : List (Nat × Value)} {st : List Value} {ρ : Type} {res : ρ} (C : Ok p s m args c D cA (xW ad cA) (xA ad) (xS ad) RX3 cc nL) (hfr : rmX8_placeOf_GROUND.frames + 1 ≤ R.frames) (hlo : 8 + (3 + 11) + rmX8_placeOf_GROUND.locals ≤ R.locals) {N : Nat} {p1 : Int32} {E : Int32 → St → Option ρ} (hm : bd (fX8_placeOf_GROUND N p1 S) E = some res) (hcat : (st.map fun v => v.category).sum ≤ 8) (hd : decode cc pc = .ok (.invokestatic 123, 3)) (k : ∀ r S, E r S = some res → V p l e R s m args below meth c Q D (xW ad cA) (xA ad) nL S (pc + 3) lv (.int r :: st)) : V p l e R s m args below meth c Q D (xW ad cA) (xA ad) nL S pc lv (.ref (ad 201) :: .int p1 :: st) := by
  obtain ⟨r, S1, h1, h2⟩ := bd_some hm
  exact v_callSN C (C.2.2.2.2.2.2.2.1.2.2.2.2 _ (by decide +kernel) : va_Nw (Cond.methodLinkNest RX3 123 yX8_placeOf "BlockYard") s) infX8_placeOf (rm2 := rmX8_placeOf_GROUND) ⟨rfl, rfl⟩ hfr hlo (mX8_placeOf_GROUND C.2.2.2.2.2.2.1 h1) (As := [.int p1, .ref (ad 201)]) rfl rfl hcat hd (k r S1 h2)
def rmX3_groundOf : Room := { frames := 1, cells := 0, slots := 0, locals := 22 }
def fX3_groundOf (N : Nat) (p1 : Int32) (S : St) : Option (Int32 × St) := bd (fX8_placeOf_GROUND N p1 S) fun r2 S2 => some (r2, S2)
set_option maxRecDepth 20000 in
theorem vX3_groundOf {p : Program} {l : Launch} {e : Env} {s : State} {m : MethodId} {args : Array Value} {below : List Frame} {meth : Method} {c : Code} {Q : State → Prop} {D : va_G} {ad : Nat → Nat} {cA : Nat → ClassId} (C : Ok p s m args c D cA (xW ad cA) (xA ad) (xS ad) RX3 cX3_groundOf 1) (hr : Rt meth (some .int)) {r : Int32 × St} (hQ : Q = MQ below (Qo D (xW ad cA) (xA ad) (some (.int r.1)) r.2) args s 0 0 (xA ad)) {N : Nat} {p1 : Int32} {S : St} (hm : fX3_groundOf N p1 S = some r) : V p l e rmX3_groundOf s m args below meth c Q D (xW ad cA) (xA ad) 1 S 0 [(0, .int p1)] [] := by
  unfold fX3_groundOf at hm
  refine v_iload_n C (pc := 0) 0 dX3_groundOf_0 rfl rfl ?_
  refine v_gets C (pc := 1) C.2.2.2.2.2.2.2.1.2.1.1 flX3_119 rfl dX3_groundOf_1 ?_
  refine kX3_123_GROUND C (Nat.le_of_ble_eq_true rfl) (Nat.le_of_ble_eq_true rfl) (pc := 4) hm (Nat.le_of_ble_eq_true rfl) dX3_groundOf_4 (fun r2 S2 hm => ?_)
  exact v_iret C hr hQ (pc := 7) hm dX3_groundOf_7
theorem mX3_groundOf {l : Launch} {D : va_G} {ad : Nat → Nat} {cA : Nat → ClassId} (hD : ∀ S, va_D (xA ad) (xW ad cA S)) {N : Nat} {p1 : Int32} {S : St} {r : Int32 × St} (hm : fX3_groundOf N p1 S = some r) : Met l yX3_groundOf (wsm yX3_groundOf cX3_groundOf 1 (some .int)) rmX3_groundOf (va_Pc [.int p1] (Pre D cA (xW ad cA) (xS ad) S)) (Qo D (xW ad cA) (xA ad) (some (.int r.1)) r.2) 0 0 (xA ad) := met_of [.int p1] (by decide) (Nat.le_of_ble_eq_true rfl) hD (xS_mv ad) (xS_kp ad) (fun p e s m below meth c C hr => vX3_groundOf C hr rfl (N := N)  hm)
-- X3_addBlockCell
def rmX3_addBlockCell : Room := { frames := 0, cells := 0, slots := 0, locals := 0 }
def fX3_addBlockCell_24 (N : Nat)   (S : St) : Option (Bool × St) := some (false, S)
set_option maxRecDepth 20000 in
theorem vX3_addBlockCell_24 {p : Program} {l : Launch} {e : Env} {s : State} {m : MethodId} {args : Array Value} {below : List Frame} {meth : Method} {c : Code} {Q : State → Prop} {D : va_G} {ad : Nat → Nat} {cA : Nat → ClassId} (C : Ok p s m args c D cA (xW ad cA) (xA ad) (xS ad) RX3 cX3_addBlockCell 4) (hr : Rt meth (some .boolean)) {r : Bool × St} (hQ : Q = MQ below (Qo D (xW ad cA) (xA ad) (some (.int (b2i r.1))) r.2) args s 0 0 (xA ad)) {N : Nat}    {S : St} (hm : fX3_addBlockCell_24 N   S = some r) : V p l e rmX3_addBlockCell s m args below meth c Q D (xW ad cA) (xA ad) 4 S 24 [] [] := by
  unfold fX3_addBlockCell_24 at hm
  refine v_iconst C (pc := 24) 0 dX3_addBlockCell_24 rfl ?_
  exact v_zret C hr hQ (x := false) (pc := 25) hm dX3_addBlockCell_25
def fX3_addBlockCell_64 (N : Nat)  (x1 : Int32) (S : St) : Option (Bool × St) := ck x1 5 (ck x1 5 (stp (sA S 19 (Int32.toNatClampNeg x1) ((S.2.2.1 19 (Int32.toNatClampNeg x1)) + 1)) fun S6 => some (true, S6)))
set_option maxRecDepth 20000 in
theorem vX3_addBlockCell_64 {p : Program} {l : Launch} {e : Env} {s : State} {m : MethodId} {args : Array Value} {below : List Frame} {meth : Method} {c : Code} {Q : State → Prop} {D : va_G} {ad : Nat → Nat} {cA : Nat → ClassId} (C : Ok p s m args c D cA (xW ad cA) (xA ad) (xS ad) RX3 cX3_addBlockCell 4) (hr : Rt meth (some .boolean)) {r : Bool × St} (hQ : Q = MQ below (Qo D (xW ad cA) (xA ad) (some (.int (b2i r.1))) r.2) args s 0 0 (xA ad)) {N : Nat}  {x1 : Int32}  {S : St} (hm : fX3_addBlockCell_64 N  x1 S = some r) : V p l e rmX3_addBlockCell s m args below meth c Q D (xW ad cA) (xA ad) 4 S 64 [(0, .ref (ad 9)), (1, .int x1)] [] := by
  unfold fX3_addBlockCell_64 at hm
  refine v_aload_n C (pc := 64) 0 dX3_addBlockCell_64 rfl rfl ?_
  refine gX3_9 C (pc := 65) dX3_addBlockCell_65 ?_
  refine v_iload_n C (pc := 68) 1 dX3_addBlockCell_68 rfl rfl ?_
  refine v_dup2 C (pc := 69) dX3_addBlockCell_69 rfl rfl ?_
  refine ldX3_cellCounts C (pc := 70) hm dX3_addBlockCell_70 (fun hm => ?_)
  refine v_iconst C (pc := 71) 1 dX3_addBlockCell_71 rfl ?_
  refine v_iadd C (pc := 72) dX3_addBlockCell_72 ?_
  refine stX3_cellCounts C (pc := 73) hm dX3_addBlockCell_73 (fun S6 hm => ?_)
  refine v_iconst C (pc := 74) 1 dX3_addBlockCell_74 rfl ?_
  exact v_zret C hr hQ (x := true) (pc := 75) hm dX3_addBlockCell_75
def fX3_addBlockCell_42 (N : Nat)  (x1 : Int32) (x2 : Int32) (S : St) : Option (Bool × St) := if x2 = 0 then (fX3_addBlockCell_64 N x1 S) else (ck x1 5 (stp (sA S 21 (Int32.toNatClampNeg x1) ((8 * (S.1 26)) + (S.1 27))) fun S5 => fX3_addBlockCell_64 N x1 S5))
set_option maxRecDepth 20000 in
theorem vX3_addBlockCell_42 {p : Program} {l : Launch} {e : Env} {s : State} {m : MethodId} {args : Array Value} {below : List Frame} {meth : Method} {c : Code} {Q : State → Prop} {D : va_G} {ad : Nat → Nat} {cA : Nat → ClassId} (C : Ok p s m args c D cA (xW ad cA) (xA ad) (xS ad) RX3 cX3_addBlockCell 4) (hr : Rt meth (some .boolean)) {r : Bool × St} (hQ : Q = MQ below (Qo D (xW ad cA) (xA ad) (some (.int (b2i r.1))) r.2) args s 0 0 (xA ad)) {N : Nat}  {x1 : Int32} {x2 : Int32}  {S : St} (hm : fX3_addBlockCell_42 N  x1 x2 S = some r) : V p l e rmX3_addBlockCell s m args below meth c Q D (xW ad cA) (xA ad) 4 S 42 [(0, .ref (ad 9)), (1, .int x1), (2, .int x2)] [] := by
  unfold fX3_addBlockCell_42 at hm
  refine v_iload_n C (pc := 42) 2 dX3_addBlockCell_42 rfl rfl ?_
  refine v_if_eq C (pc := 43) hm 64 dX3_addBlockCell_43 rfl (fun hm => ?_) (fun hm => ?_)
  · exact v_sub [0, 1] rfl (vX3_addBlockCell_64 C hr hQ (N := N) hm)
  · refine v_aload_n C (pc := 46) 0 dX3_addBlockCell_46 rfl rfl ?_
    refine gX3_18 C (pc := 47) dX3_addBlockCell_47 ?_
    refine v_iload_n C (pc := 50) 1 dX3_addBlockCell_50 rfl rfl ?_
    refine v_bipush C (pc := 51) 8 dX3_addBlockCell_51 rfl ?_
    refine v_aload_n C (pc := 53) 0 dX3_addBlockCell_53 rfl rfl ?_
    refine gX3_25 C (pc := 54) dX3_addBlockCell_54 ?_
    refine v_imul C (pc := 57) dX3_addBlockCell_57 ?_
    refine v_aload_n C (pc := 58) 0 dX3_addBlockCell_58 rfl rfl ?_
    refine gX3_28 C (pc := 59) dX3_addBlockCell_59 ?_
    refine v_iadd C (pc := 62) dX3_addBlockCell_62 ?_
    refine stX3_pivots C (pc := 63) hm dX3_addBlockCell_63 (fun S5 hm => ?_)
    exact v_sub [0, 1] rfl (vX3_addBlockCell_64 C hr hQ (N := N) hm)
def fX3_addBlockCell_26 (N : Nat)  (x1 : Int32) (x2 : Int32) (x3 : Int32) (S : St) : Option (Bool × St) := ck x1 5 (if (S.2.2.1 19 (Int32.toNatClampNeg x1)) = 0 then (ck x1 5 (stp (sA S 20 (Int32.toNatClampNeg x1) x3) fun S4 => fX3_addBlockCell_42 N x1 x2 S4)) else (fX3_addBlockCell_42 N x1 x2 S))
set_option maxRecDepth 20000 in
theorem vX3_addBlockCell_26 {p : Program} {l : Launch} {e : Env} {s : State} {m : MethodId} {args : Array Value} {below : List Frame} {meth : Method} {c : Code} {Q : State → Prop} {D : va_G} {ad : Nat → Nat} {cA : Nat → ClassId} (C : Ok p s m args c D cA (xW ad cA) (xA ad) (xS ad) RX3 cX3_addBlockCell 4) (hr : Rt meth (some .boolean)) {r : Bool × St} (hQ : Q = MQ below (Qo D (xW ad cA) (xA ad) (some (.int (b2i r.1))) r.2) args s 0 0 (xA ad)) {N : Nat}  {x1 : Int32} {x2 : Int32} {x3 : Int32}  {S : St} (hm : fX3_addBlockCell_26 N  x1 x2 x3 S = some r) : V p l e rmX3_addBlockCell s m args below meth c Q D (xW ad cA) (xA ad) 4 S 26 [(0, .ref (ad 9)), (1, .int x1), (2, .int x2), (3, .int x3)] [] := by
  unfold fX3_addBlockCell_26 at hm
  refine v_aload_n C (pc := 26) 0 dX3_addBlockCell_26 rfl rfl ?_
  refine gX3_9 C (pc := 27) dX3_addBlockCell_27 ?_
  refine v_iload_n C (pc := 30) 1 dX3_addBlockCell_30 rfl rfl ?_
  refine ldX3_cellCounts C (pc := 31) hm dX3_addBlockCell_31 (fun hm => ?_)
  refine v_if_ne C (pc := 32) hm 42 dX3_addBlockCell_32 rfl (fun hm => ?_) (fun hm => ?_)
  · exact v_sub [0, 1, 2] rfl (vX3_addBlockCell_42 C hr hQ (N := N) hm)
  · refine v_aload_n C (pc := 35) 0 dX3_addBlockCell_35 rfl rfl ?_
    refine gX3_15 C (pc := 36) dX3_addBlockCell_36 ?_
    refine v_iload_n C (pc := 39) 1 dX3_addBlockCell_39 rfl rfl ?_
    refine v_iload_n C (pc := 40) 3 dX3_addBlockCell_40 rfl rfl ?_
    refine stX3_firstPlaces C (pc := 41) hm dX3_addBlockCell_41 (fun S4 hm => ?_)
    exact v_sub [0, 1, 2] rfl (vX3_addBlockCell_42 C hr hQ (N := N) hm)
def fX3_addBlockCell (N : Nat) (p1 : Int32) (p2 : Int32) (p3 : Int32) (S : St) : Option (Bool × St) := ck p1 5 (if 5 ≤ (S.2.2.1 19 (Int32.toNatClampNeg p1)) then (fX3_addBlockCell_24 N S) else (if p2 = 0 then (fX3_addBlockCell_26 N p1 p2 p3 S) else (ck p1 5 (if (S.2.2.1 21 (Int32.toNatClampNeg p1)) = (-1) then (fX3_addBlockCell_26 N p1 p2 p3 S) else (fX3_addBlockCell_24 N S)))))
set_option maxRecDepth 20000 in
theorem vX3_addBlockCell {p : Program} {l : Launch} {e : Env} {s : State} {m : MethodId} {args : Array Value} {below : List Frame} {meth : Method} {c : Code} {Q : State → Prop} {D : va_G} {ad : Nat → Nat} {cA : Nat → ClassId} (C : Ok p s m args c D cA (xW ad cA) (xA ad) (xS ad) RX3 cX3_addBlockCell 4) (hr : Rt meth (some .boolean)) {r : Bool × St} (hQ : Q = MQ below (Qo D (xW ad cA) (xA ad) (some (.int (b2i r.1))) r.2) args s 0 0 (xA ad)) {N : Nat} {p1 : Int32} {p2 : Int32} {p3 : Int32} {S : St} (hm : fX3_addBlockCell N p1 p2 p3 S = some r) : V p l e rmX3_addBlockCell s m args below meth c Q D (xW ad cA) (xA ad) 4 S 0 [(0, .ref (ad 9)), (1, .int p1), (2, .int p2), (3, .int p3)] [] := by
  unfold fX3_addBlockCell at hm
  refine v_aload_n C (pc := 0) 0 dX3_addBlockCell_0 rfl rfl ?_
  refine gX3_9 C (pc := 1) dX3_addBlockCell_1 ?_
  refine v_iload_n C (pc := 4) 1 dX3_addBlockCell_4 rfl rfl ?_
  refine ldX3_cellCounts C (pc := 5) hm dX3_addBlockCell_5 (fun hm => ?_)
  refine v_iconst C (pc := 6) 5 dX3_addBlockCell_6 rfl ?_
  refine v_icmp_ge C (pc := 7) hm 24 dX3_addBlockCell_7 rfl (fun hm => ?_) (fun hm => ?_)
  · exact v_sub [] rfl (vX3_addBlockCell_24 C hr hQ (N := N) hm)
  · refine v_iload_n C (pc := 10) 2 dX3_addBlockCell_10 rfl rfl ?_
    refine v_if_eq C (pc := 11) hm 26 dX3_addBlockCell_11 rfl (fun hm => ?_) (fun hm => ?_)
    · exact (vX3_addBlockCell_26 C hr hQ (N := N) hm)
    · refine v_aload_n C (pc := 14) 0 dX3_addBlockCell_14 rfl rfl ?_
      refine gX3_18 C (pc := 15) dX3_addBlockCell_15 ?_
      refine v_iload_n C (pc := 18) 1 dX3_addBlockCell_18 rfl rfl ?_
      refine ldX3_pivots C (pc := 19) hm dX3_addBlockCell_19 (fun hm => ?_)
      refine v_iconst C (pc := 20) (-1) dX3_addBlockCell_20 rfl ?_
      refine v_icmp_eq C (pc := 21) hm 26 dX3_addBlockCell_21 rfl (fun hm => ?_) (fun hm => ?_)
      · exact (vX3_addBlockCell_26 C hr hQ (N := N) hm)
      · exact v_sub [] rfl (vX3_addBlockCell_24 C hr hQ (N := N) hm)
theorem mX3_addBlockCell {l : Launch} {D : va_G} {ad : Nat → Nat} {cA : Nat → ClassId} (hD : ∀ S, va_D (xA ad) (xW ad cA S)) {N : Nat} {p1 : Int32} {p2 : Int32} {p3 : Int32} {S : St} {r : Bool × St} (hm : fX3_addBlockCell N p1 p2 p3 S = some r) : Met l yX3_addBlockCell (wsm yX3_addBlockCell cX3_addBlockCell 4 (some .boolean)) rmX3_addBlockCell (va_Pc [.ref (ad 9), .int p1, .int p2, .int p3] (Pre D cA (xW ad cA) (xS ad) S)) (Qo D (xW ad cA) (xA ad) (some (.int (b2i r.1))) r.2) 0 0 (xA ad) := met_of [.ref (ad 9), .int p1, .int p2, .int p3] (by decide) (Nat.le_of_ble_eq_true rfl) hD (xS_mv ad) (xS_kp ad) (fun p e s m below meth c C hr => vX3_addBlockCell C hr rfl (N := N)  hm)
-- X3_addCell
theorem infX3_blockOf : InfS yX3_blockOf cX3_blockOf 1 (some .int) 1 := ⟨⟨gm (i := 61) (by decide +kernel) rfl, gm (i := 401) (by decide +kernel) rfl, by decide +kernel⟩, gm (i := 400) (by decide +kernel) rfl⟩
theorem kX3_62 {p : Program} {l : Launch} {e : Env} {R : Room} {s : State} {m : MethodId} {args : Array Value} {below : List Frame} {meth : Method} {c : Code} {Q : State → Prop} {D : va_G} {ad : Nat → Nat} {cA : Nat → ClassId} {cc : ByteArray} {nL : Nat} {S : St} {pc : Nat} {lv : List (Nat × Value)} {st : List Value} {ρ : Type} {res : ρ} (C : Ok p s m args c D cA (xW ad cA) (xA ad) (xS ad) RX3 cc nL) (hfr : rmX3_blockOf.frames + 1 ≤ R.frames) (hlo : 8 + (1 + 11) + rmX3_blockOf.locals ≤ R.locals) {N : Nat} {p1 : Int32} {E : Int32 → St → Option ρ} (hm : bd (fX3_blockOf N p1 S) E = some res) (hcat : (st.map fun v => v.category).sum ≤ 8) (hd : decode cc pc = .ok (.invokestatic 62, 3)) (k : ∀ r S, E r S = some res → V p l e R s m args below meth c Q D (xW ad cA) (xA ad) nL S (pc + 3) lv (.int r :: st)) : V p l e R s m args below meth c Q D (xW ad cA) (xA ad) nL S pc lv (.int p1 :: st) := by
  obtain ⟨r, S1, h1, h2⟩ := bd_some hm
  exact v_callS C (gm (i := 399) (by decide +kernel) rfl : Cond.methodLink RX3 62 yX3_blockOf ∈ gw_tbl) infX3_blockOf (rm2 := rmX3_blockOf) ⟨rfl, rfl⟩ hfr hlo (mX3_blockOf C.2.2.2.2.2.2.1 h1) (As := [.int p1]) rfl rfl hcat hd (k r S1 h2)
theorem infX3_addBlockCell : InfV yX3_addBlockCell cX3_addBlockCell 4 (some .boolean) 3 := ⟨⟨gm (i := 61) (by decide +kernel) rfl, gm (i := 416) (by decide +kernel) rfl, by decide +kernel⟩, gm (i := 415) (by decide +kernel) rfl, gm (i := 2) (by decide +kernel) rfl⟩
theorem kX3_73 {p : Program} {l : Launch} {e : Env} {R : Room} {s : State} {m : MethodId} {args : Array Value} {below : List Frame} {meth : Method} {c : Code} {Q : State → Prop} {D : va_G} {ad : Nat → Nat} {cA : Nat → ClassId} {cc : ByteArray} {nL : Nat} {S : St} {pc : Nat} {lv : List (Nat × Value)} {st : List Value} {ρ : Type} {res : ρ} (C : Ok p s m args c D cA (xW ad cA) (xA ad) (xS ad) RX3 cc nL) (hfr : rmX3_addBlockCell.frames + 1 ≤ R.frames) (hlo : 8 + (4 + 11) + rmX3_addBlockCell.locals ≤ R.locals) {N : Nat} {p1 : Int32} {p2 : Int32} {p3 : Int32} {E : Bool → St → Option ρ} (hm : bd (fX3_addBlockCell N p1 p2 p3 S) E = some res) (hcat : (st.map fun v => v.category).sum ≤ 8) (hd : decode cc pc = .ok (.invokevirtual 73, 3)) (k : ∀ r S, E r S = some res → V p l e R s m args below meth c Q D (xW ad cA) (xA ad) nL S (pc + 3) lv (.int (b2i r) :: st)) : V p l e R s m args below meth c Q D (xW ad cA) (xA ad) nL S pc lv (.int p3 :: .int p2 :: .int p1 :: .ref (ad 9) :: st) := by
  obtain ⟨r, S1, h1, h2⟩ := bd_some hm
  exact v_callV C (gm (i := 413) (by decide +kernel) rfl : Cond.methodLink RX3 73 yX3_addBlockCell ∈ gw_tbl) infX3_addBlockCell (rm2 := rmX3_addBlockCell) ⟨rfl, rfl⟩ hfr hlo (mX3_addBlockCell C.2.2.2.2.2.2.1 h1) (As := [.int p1, .int p2, .int p3]) (oX3 ad cA S) rfl rfl rfl rfl hcat hd (k r S1 h2)
theorem infX3_groundOf : InfS yX3_groundOf cX3_groundOf 1 (some .int) 1 := ⟨⟨gm (i := 61) (by decide +kernel) rfl, gm (i := 407) (by decide +kernel) rfl, by decide +kernel⟩, gm (i := 406) (by decide +kernel) rfl⟩
theorem kX3_66 {p : Program} {l : Launch} {e : Env} {R : Room} {s : State} {m : MethodId} {args : Array Value} {below : List Frame} {meth : Method} {c : Code} {Q : State → Prop} {D : va_G} {ad : Nat → Nat} {cA : Nat → ClassId} {cc : ByteArray} {nL : Nat} {S : St} {pc : Nat} {lv : List (Nat × Value)} {st : List Value} {ρ : Type} {res : ρ} (C : Ok p s m args c D cA (xW ad cA) (xA ad) (xS ad) RX3 cc nL) (hfr : rmX3_groundOf.frames + 1 ≤ R.frames) (hlo : 8 + (1 + 11) + rmX3_groundOf.locals ≤ R.locals) {N : Nat} {p1 : Int32} {E : Int32 → St → Option ρ} (hm : bd (fX3_groundOf N p1 S) E = some res) (hcat : (st.map fun v => v.category).sum ≤ 8) (hd : decode cc pc = .ok (.invokestatic 66, 3)) (k : ∀ r S, E r S = some res → V p l e R s m args below meth c Q D (xW ad cA) (xA ad) nL S (pc + 3) lv (.int r :: st)) : V p l e R s m args below meth c Q D (xW ad cA) (xA ad) nL S pc lv (.int p1 :: st) := by
  obtain ⟨r, S1, h1, h2⟩ := bd_some hm
  exact v_callS C (gm (i := 405) (by decide +kernel) rfl : Cond.methodLink RX3 66 yX3_groundOf ∈ gw_tbl) infX3_groundOf (rm2 := rmX3_groundOf) ⟨rfl, rfl⟩ hfr hlo (mX3_groundOf C.2.2.2.2.2.2.1 h1) (As := [.int p1]) rfl rfl hcat hd (k r S1 h2)
def rmX3_addCell : Room := { frames := 2, cells := 0, slots := 0, locals := 42 }
def fX3_addCell_47 (N : Nat)  (s0 : Bool) (S : St) : Option (Bool × St) := stp (sI S 27 ((S.1 27) + 1)) fun S6 => some (s0, S6)
set_option maxRecDepth 20000 in
theorem vX3_addCell_47 {p : Program} {l : Launch} {e : Env} {s : State} {m : MethodId} {args : Array Value} {below : List Frame} {meth : Method} {c : Code} {Q : State → Prop} {D : va_G} {ad : Nat → Nat} {cA : Nat → ClassId} (C : Ok p s m args c D cA (xW ad cA) (xA ad) (xS ad) RX3 cX3_addCell 5) (hr : Rt meth (some .boolean)) {r : Bool × St} (hQ : Q = MQ below (Qo D (xW ad cA) (xA ad) (some (.int (b2i r.1))) r.2) args s 0 0 (xA ad)) {N : Nat}  {s0 : Bool}  {S : St} (hm : fX3_addCell_47 N  s0 S = some r) : V p l e rmX3_addCell s m args below meth c Q D (xW ad cA) (xA ad) 5 S 47 [(0, .ref (ad 9))] [.int (b2i s0)] := by
  unfold fX3_addCell_47 at hm
  refine v_istore C (pc := 47) [(4, .int (b2i s0)), (0, .ref (ad 9))] dX3_addCell_47 (by decide) rfl ?_
  refine v_aload_n C (pc := 49) 1 dX3_addCell_49 rfl rfl ?_
  refine v_dup C (pc := 50) dX3_addCell_50 rfl ?_
  refine gX3_28 C (pc := 51) dX3_addCell_51 ?_
  refine v_iconst C (pc := 54) 1 dX3_addCell_54 rfl ?_
  refine v_iadd C (pc := 55) dX3_addCell_55 ?_
  refine pX3_28 C (pc := 56) hm dX3_addCell_56 (fun S6 hm => ?_)
  refine v_iload C (pc := 59) 0 dX3_addCell_59 rfl ?_
  exact v_zret C hr hQ (x := s0) (pc := 61) hm dX3_addCell_61
def fX3_addCell (N : Nat) (p1 : Int32) (p2 : Int32) (S : St) : Option (Bool × St) := if (S.1 27) < (S.1 25) then (bd (fX3_blockOf N p1 S) fun r5 S7 => if 0 ≤ r5 then (bd (fX3_isPivot N p1 S7) fun r6 S8 => bd (fX3_addBlockCell N r5 (b2i r6) p2 S8) fun r7 S9 => fX3_addCell_47 N r7 S9) else (bd (fX3_groundOf N p1 S7) fun r8 S10 => if r8 < 0 then (fX3_addCell_47 N false S10) else (fX3_addCell_47 N true S10))) else (some (false, S))
set_option maxRecDepth 20000 in
theorem vX3_addCell {p : Program} {l : Launch} {e : Env} {s : State} {m : MethodId} {args : Array Value} {below : List Frame} {meth : Method} {c : Code} {Q : State → Prop} {D : va_G} {ad : Nat → Nat} {cA : Nat → ClassId} (C : Ok p s m args c D cA (xW ad cA) (xA ad) (xS ad) RX3 cX3_addCell 5) (hr : Rt meth (some .boolean)) {r : Bool × St} (hQ : Q = MQ below (Qo D (xW ad cA) (xA ad) (some (.int (b2i r.1))) r.2) args s 0 0 (xA ad)) {N : Nat} {p1 : Int32} {p2 : Int32} {S : St} (hm : fX3_addCell N p1 p2 S = some r) : V p l e rmX3_addCell s m args below meth c Q D (xW ad cA) (xA ad) 5 S 0 [(0, .ref (ad 9)), (1, .int p1), (2, .int p2)] [] := by
  unfold fX3_addCell at hm
  refine v_aload_n C (pc := 0) 0 dX3_addCell_0 rfl rfl ?_
  refine gX3_28 C (pc := 1) dX3_addCell_1 ?_
  refine v_aload_n C (pc := 4) 0 dX3_addCell_4 rfl rfl ?_
  refine gX3_21 C (pc := 5) dX3_addCell_5 ?_
  refine v_icmp_lt C (pc := 8) hm 13 dX3_addCell_8 rfl (fun hm => ?_) (fun hm => ?_)
  · refine v_iload_n C (pc := 13) 1 dX3_addCell_13 rfl rfl ?_
    refine kX3_62 C (Nat.le_of_ble_eq_true rfl) (Nat.le_of_ble_eq_true rfl) (pc := 14) hm (Nat.le_of_ble_eq_true rfl) dX3_addCell_14 (fun r5 S7 hm => ?_)
    refine v_istore_n C (pc := 17) [(3, .int r5), (0, .ref (ad 9)), (1, .int p1), (2, .int p2)] dX3_addCell_17 rfl (by decide) rfl ?_
    refine v_iload_n C (pc := 18) 0 dX3_addCell_18 rfl rfl ?_
    refine v_if_ge C (pc := 19) hm 37 dX3_addCell_19 rfl (fun hm => ?_) (fun hm => ?_)
    · refine v_aload_n C (pc := 37) 1 dX3_addCell_37 rfl rfl ?_
      refine v_iload_n C (pc := 38) 0 dX3_addCell_38 rfl rfl ?_
      refine v_iload_n C (pc := 39) 2 dX3_addCell_39 rfl rfl ?_
      refine kX3_69 C (Nat.le_of_ble_eq_true rfl) (Nat.le_of_ble_eq_true rfl) (pc := 40) hm (Nat.le_of_ble_eq_true rfl) dX3_addCell_40 (fun r6 S8 hm => ?_)
      refine v_iload_n C (pc := 43) 3 dX3_addCell_43 rfl rfl ?_
      refine kX3_73 C (Nat.le_of_ble_eq_true rfl) (Nat.le_of_ble_eq_true rfl) (pc := 44) hm (Nat.le_of_ble_eq_true rfl) dX3_addCell_44 (fun r7 S9 hm => ?_)
      exact v_sub [1] rfl (vX3_addCell_47 C hr hQ (N := N) hm)
    · refine v_iload_n C (pc := 22) 2 dX3_addCell_22 rfl rfl ?_
      refine kX3_66 C (Nat.le_of_ble_eq_true rfl) (Nat.le_of_ble_eq_true rfl) (pc := 23) hm (Nat.le_of_ble_eq_true rfl) dX3_addCell_23 (fun r8 S10 hm => ?_)
      refine v_if_lt C (pc := 26) hm 33 dX3_addCell_26 rfl (fun hm => ?_) (fun hm => ?_)
      · refine v_iconst C (pc := 33) 0 dX3_addCell_33 rfl ?_
        refine v_goto C (pc := 34) 47 dX3_addCell_34 rfl ?_
        exact v_sub [1] rfl (vX3_addCell_47 C hr hQ (N := N) hm)
      · refine v_iconst C (pc := 29) 1 dX3_addCell_29 rfl ?_
        refine v_goto C (pc := 30) 47 dX3_addCell_30 rfl ?_
        exact v_sub [1] rfl (vX3_addCell_47 C hr hQ (N := N) hm)
  · refine v_iconst C (pc := 11) 0 dX3_addCell_11 rfl ?_
    exact v_zret C hr hQ (x := false) (pc := 12) hm dX3_addCell_12
theorem mX3_addCell {l : Launch} {D : va_G} {ad : Nat → Nat} {cA : Nat → ClassId} (hD : ∀ S, va_D (xA ad) (xW ad cA S)) {N : Nat} {p1 : Int32} {p2 : Int32} {S : St} {r : Bool × St} (hm : fX3_addCell N p1 p2 S = some r) : Met l yX3_addCell (wsm yX3_addCell cX3_addCell 5 (some .boolean)) rmX3_addCell (va_Pc [.ref (ad 9), .int p1, .int p2] (Pre D cA (xW ad cA) (xS ad) S)) (Qo D (xW ad cA) (xA ad) (some (.int (b2i r.1))) r.2) 0 0 (xA ad) := met_of [.ref (ad 9), .int p1, .int p2] (by decide) (Nat.le_of_ble_eq_true rfl) hD (xS_mv ad) (xS_kp ad) (fun p e s m below meth c C hr => vX3_addCell C hr rfl (N := N)  hm)
