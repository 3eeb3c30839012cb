-- X9_readLevel
theorem infX9_findFault : InfV yX9_findFault cX9_findFault 6 (some .int) 0 := ⟨⟨gm (i := 65) (by decide +kernel) rfl, gm (i := 954) (by decide +kernel) rfl, by decide +kernel⟩, gm (i := 953) (by decide +kernel) rfl, gm (i := 18) (by decide +kernel) rfl⟩
theorem kX9_149 {p : Program} {l : Launch} {e : Env} {R : Room} {s : State} {m : MethodId} {args : Array Value} {below : List Frame} {meth : Method} {c : Code} {Q : State → Prop} {D : va_G} {ad : Nat → Nat} {cA : Nat → ClassId} {cc : ByteArray} {nL : Nat} {S : St} {pc : Nat} {lv : List (Nat × Value)} {st : List Value} {ρ : Type} {res : ρ} (C : Ok p s m args c D cA (mW ad cA) (mA ad) mS RX9 cc nL) (hfr : rmX9_findFault.frames + 1 ≤ R.frames) (hlo : 8 + (6 + 11) + rmX9_findFault.locals ≤ R.locals) {N : Nat}  {E : Int32 → St → Option ρ} (hm : bd (fX9_findFault N  S) E = some res) (hcat : (st.map fun v => v.category).sum ≤ 8) (hd : decode cc pc = .ok (.invokevirtual 149, 3)) (k : ∀ r S, E r S = some res → V p l e R s m args below meth c Q D (mW ad cA) (mA ad) nL S (pc + 3) lv (.int r :: st)) : V p l e R s m args below meth c Q D (mW ad cA) (mA ad) nL S pc lv (.ref (ad 0) :: st) := by
  obtain ⟨r, S1, h1, h2⟩ := bd_some hm
  exact v_callV C (gm (i := 951) (by decide +kernel) rfl : Cond.methodLink RX9 149 yX9_findFault ∈ gw_tbl) infX9_findFault (rm2 := rmX9_findFault) ⟨rfl, rfl⟩ hfr hlo (mX9_findFault C.2.2.2.2.2.2.1 h1) (As := []) (oX9 ad cA S) rfl rfl rfl rfl hcat hd (k r S1 h2)
def rmX9_readLevel : Room := { frames := 4, cells := 0, slots := 0, locals := 92 }
def fX9_readLevel_219 (N : Nat) (k60 : Int32 → Int32 → St → Option (Int32 × St)) (s0 : Bool) (s1 : Int32) (x3 : Int32) (S : St) : Option (Int32 × St) := nm (s1 + (b2i s0)) fun y4 => k60 y4 (x3 + 1) S
set_option maxRecDepth 20000 in
theorem vX9_readLevel_219 {p : Program} {l : Launch} {e : Env} {s : State} {m : MethodId} {args : Array Value} {below : List Frame} {meth : Method} {c : Code} {Q : State → Prop} {D : va_G} {ad : Nat → Nat} {cA : Nat → ClassId} (C : Ok p s m args c D cA (mW ad cA) (mA ad) mS RX9 cX9_readLevel 5) (hr : Rt meth (some .int)) {r : Int32 × St} (hQ : Q = MQ below (Qo D (mW ad cA) (mA ad) (some (.int r.1)) r.2) args s 0 0 (mA ad)) {N : Nat} {k60 : Int32 → Int32 → St → Option (Int32 × St)} (hk60 : ∀ (x2 : Int32) (x3 : Int32) (S : St), k60 x2 x3 S = some r → V p l e rmX9_readLevel s m args below meth c Q D (mW ad cA) (mA ad) 5 S 60 [(0, .ref (ad 0)), (2, .int x2), (3, .int x3)] []) {s0 : Bool} {s1 : Int32} {x3 : Int32}  {S : St} (hm : fX9_readLevel_219 N k60 s0 s1 x3 S = some r) : V p l e rmX9_readLevel s m args below meth c Q D (mW ad cA) (mA ad) 5 S 219 [(0, .ref (ad 0)), (3, .int x3)] [.int (b2i s0), .int s1] := by
  unfold fX9_readLevel_219 at hm
  refine v_iadd C (pc := 219) dX9_readLevel_219 ?_
  refine v_istore_nN C (pc := 220) [(0, .ref (ad 0)), (3, .int x3)] hm dX9_readLevel_220 rfl (by decide) rfl (fun y4 hm => ?_)
  refine v_iinc C (pc := 221) 1 2 [(3, .int (x3 + 1)), (2, .int y4), (0, .ref (ad 0))] dX9_readLevel_221 rfl rfl (by decide) rfl ?_
  refine v_goto C (pc := 224) 60 dX9_readLevel_224 rfl ?_
  exact v_sub [2, 1, 0] rfl (hk60 _ _ _ hm)
def fX9_readLevel_203 (N : Nat) (k60 : Int32 → Int32 → St → Option (Int32 × St)) (s0 : Int32) (s1 : Int32) (x2 : Int32) (x3 : Int32) (S : St) : Option (Int32 × St) := ck s1 5 (stp (sA S 9 (Int32.toNatClampNeg s1) s0) fun S37 => ck x3 5 (if (S37.2.2.1 2 (Int32.toNatClampNeg x3)) = 0 then (fX9_readLevel_219 N k60 false x2 x3 S37) else (fX9_readLevel_219 N k60 true x2 x3 S37)))
set_option maxRecDepth 20000 in
theorem vX9_readLevel_203 {p : Program} {l : Launch} {e : Env} {s : State} {m : MethodId} {args : Array Value} {below : List Frame} {meth : Method} {c : Code} {Q : State → Prop} {D : va_G} {ad : Nat → Nat} {cA : Nat → ClassId} (C : Ok p s m args c D cA (mW ad cA) (mA ad) mS RX9 cX9_readLevel 5) (hr : Rt meth (some .int)) {r : Int32 × St} (hQ : Q = MQ below (Qo D (mW ad cA) (mA ad) (some (.int r.1)) r.2) args s 0 0 (mA ad)) {N : Nat} {k60 : Int32 → Int32 → St → Option (Int32 × St)} (hk60 : ∀ (x2 : Int32) (x3 : Int32) (S : St), k60 x2 x3 S = some r → V p l e rmX9_readLevel s m args below meth c Q D (mW ad cA) (mA ad) 5 S 60 [(0, .ref (ad 0)), (2, .int x2), (3, .int x3)] []) {s0 : Int32} {s1 : Int32} {x2 : Int32} {x3 : Int32}  {S : St} (hm : fX9_readLevel_203 N k60 s0 s1 x2 x3 S = some r) : V p l e rmX9_readLevel s m args below meth c Q D (mW ad cA) (mA ad) 5 S 203 [(0, .ref (ad 0)), (2, .int x2), (3, .int x3)] [.int s0, .int s1, .ref (ad 10)] := by
  unfold fX9_readLevel_203 at hm
  refine stX9_placeOf C (pc := 203) hm dX9_readLevel_203 (fun S37 hm => ?_)
  refine v_iload_n C (pc := 204) 1 dX9_readLevel_204 rfl rfl ?_
  refine v_aload_n C (pc := 205) 0 dX9_readLevel_205 rfl rfl ?_
  refine gX9_16 C (pc := 206) dX9_readLevel_206 ?_
  refine v_iload_n C (pc := 209) 2 dX9_readLevel_209 rfl rfl ?_
  refine ldX9_cells C (pc := 210) hm dX9_readLevel_210 (fun hm => ?_)
  refine v_if_ne C (pc := 211) hm 218 dX9_readLevel_211 rfl (fun hm => ?_) (fun hm => ?_)
  · refine v_iconst C (pc := 218) 1 dX9_readLevel_218 rfl ?_
    exact v_sub [0, 2] rfl (vX9_readLevel_219 C hr hQ (N := N) hk60 hm)
  · refine v_iconst C (pc := 214) 0 dX9_readLevel_214 rfl ?_
    refine v_goto C (pc := 215) 219 dX9_readLevel_215 rfl ?_
    exact v_sub [0, 2] rfl (vX9_readLevel_219 C hr hQ (N := N) hk60 hm)
def fX9_readLevel_80b (N : Nat) (k60 : Int32 → Int32 → St → Option (Int32 × St)) (k80 : Int32 → Int32 → Int32 → St → Option (Int32 × St)) (x2 : Int32) (x3 : Int32) (x4 : Int32) (S : St) : Option (Int32 × St) := ck x3 5 (if (S.2.2.1 2 (Int32.toNatClampNeg x3)) ≤ x4 then (ck x3 5 (stp (sA S 5 (Int32.toNatClampNeg x3) 1) fun S33 => ck x3 5 (stp (sA S33 8 (Int32.toNatClampNeg x3) (-1)) fun S34 => ck x3 5 (if (S34.2.2.1 2 (Int32.toNatClampNeg x3)) = 0 then (fX9_readLevel_203 N k60 0 x3 x2 x3 S34) else (ck x3 5 (ck x3 5 (fX9_readLevel_203 N k60 ((8 * (S34.2.2.1 17 (Int32.toNatClampNeg x3))) + (S34.2.2.1 16 (Int32.toNatClampNeg x3))) x3 x2 x3 S34))))))) else (ck ((5 * x3) + x4) 25 (ck x3 5 (ck ((5 * x3) + x4) 25 (stp (sA S 3 (Int32.toNatClampNeg ((5 * x3) + x4)) ((S.2.2.1 13 (Int32.toNatClampNeg ((5 * x3) + x4))) - (S.2.2.1 16 (Int32.toNatClampNeg x3)))) fun S35 => ck ((5 * x3) + x4) 25 (ck x3 5 (ck ((5 * x3) + x4) 25 (stp (sA S35 4 (Int32.toNatClampNeg ((5 * x3) + x4)) ((S35.2.2.1 14 (Int32.toNatClampNeg ((5 * x3) + x4))) - (S35.2.2.1 17 (Int32.toNatClampNeg x3)))) fun S36 => k80 x2 x3 (x4 + 1) S36))))))))
def fX9_readLevel_80 (N : Nat) (k60 : Int32 → Int32 → St → Option (Int32 × St)) : Nat → Int32 → Int32 → Int32 → St → Option (Int32 × St)
  | 0 => fun _ _ _ _ => none
  | n + 1 => fun x2 x3 x4 S => fX9_readLevel_80b N k60 (fX9_readLevel_80 N k60 n) x2 x3 x4 S
set_option maxRecDepth 20000 in
theorem vX9_readLevel_80b {p : Program} {l : Launch} {e : Env} {s : State} {m : MethodId} {args : Array Value} {below : List Frame} {meth : Method} {c : Code} {Q : State → Prop} {D : va_G} {ad : Nat → Nat} {cA : Nat → ClassId} (C : Ok p s m args c D cA (mW ad cA) (mA ad) mS RX9 cX9_readLevel 5) (hr : Rt meth (some .int)) {r : Int32 × St} (hQ : Q = MQ below (Qo D (mW ad cA) (mA ad) (some (.int r.1)) r.2) args s 0 0 (mA ad)) {N : Nat} {k60 : Int32 → Int32 → St → Option (Int32 × St)} (hk60 : ∀ (x2 : Int32) (x3 : Int32) (S : St), k60 x2 x3 S = some r → V p l e rmX9_readLevel s m args below meth c Q D (mW ad cA) (mA ad) 5 S 60 [(0, .ref (ad 0)), (2, .int x2), (3, .int x3)] []) {k80 : Int32 → Int32 → Int32 → St → Option (Int32 × St)} (hk80 : ∀ (x2 : Int32) (x3 : Int32) (x4 : Int32) (S : St), k80 x2 x3 x4 S = some r → V p l e rmX9_readLevel s m args below meth c Q D (mW ad cA) (mA ad) 5 S 80 [(0, .ref (ad 0)), (2, .int x2), (3, .int x3), (4, .int x4)] []) {x2 : Int32} {x3 : Int32} {x4 : Int32}  {S : St} (hm : fX9_readLevel_80b N k60 k80 x2 x3 x4 S = some r) : V p l e rmX9_readLevel s m args below meth c Q D (mW ad cA) (mA ad) 5 S 80 [(0, .ref (ad 0)), (2, .int x2), (3, .int x3), (4, .int x4)] [] := by
  unfold fX9_readLevel_80b at hm
  refine v_iload C (pc := 80) 3 dX9_readLevel_80 rfl ?_
  refine v_aload_n C (pc := 82) 0 dX9_readLevel_82 rfl rfl ?_
  refine gX9_16 C (pc := 83) dX9_readLevel_83 ?_
  refine v_iload_n C (pc := 86) 2 dX9_readLevel_86 rfl rfl ?_
  refine ldX9_cells C (pc := 87) hm dX9_readLevel_87 (fun hm => ?_)
  refine v_icmp_ge C (pc := 88) hm 155 dX9_readLevel_88 rfl (fun hm => ?_) (fun hm => ?_)
  · refine v_aload_n C (pc := 155) 0 dX9_readLevel_155 rfl rfl ?_
    refine gX9_25 C (pc := 156) dX9_readLevel_156 ?_
    refine v_iload_n C (pc := 159) 2 dX9_readLevel_159 rfl rfl ?_
    refine v_iconst C (pc := 160) 1 dX9_readLevel_160 rfl ?_
    refine stX9_weightOf C (pc := 161) hm dX9_readLevel_161 (fun S33 hm => ?_)
    refine v_aload_n C (pc := 162) 0 dX9_readLevel_162 rfl rfl ?_
    refine gX9_34 C (pc := 163) dX9_readLevel_163 ?_
    refine v_iload_n C (pc := 166) 2 dX9_readLevel_166 rfl rfl ?_
    refine v_iconst C (pc := 167) (-1) dX9_readLevel_167 rfl ?_
    refine stX9_goalTurn C (pc := 168) hm dX9_readLevel_168 (fun S34 hm => ?_)
    refine v_aload_n C (pc := 169) 0 dX9_readLevel_169 rfl rfl ?_
    refine gX9_37 C (pc := 170) dX9_readLevel_170 ?_
    refine v_iload_n C (pc := 173) 2 dX9_readLevel_173 rfl rfl ?_
    refine v_aload_n C (pc := 174) 0 dX9_readLevel_174 rfl rfl ?_
    refine gX9_16 C (pc := 175) dX9_readLevel_175 ?_
    refine v_iload_n C (pc := 178) 2 dX9_readLevel_178 rfl rfl ?_
    refine ldX9_cells C (pc := 179) hm dX9_readLevel_179 (fun hm => ?_)
    refine v_if_ne C (pc := 180) hm 187 dX9_readLevel_180 rfl (fun hm => ?_) (fun hm => ?_)
    · refine v_bipush C (pc := 187) 8 dX9_readLevel_187 rfl ?_
      refine v_aload_n C (pc := 189) 0 dX9_readLevel_189 rfl rfl ?_
      refine gX9_62 C (pc := 190) dX9_readLevel_190 ?_
      refine v_iload_n C (pc := 193) 2 dX9_readLevel_193 rfl rfl ?_
      refine ldX9_pivotY C (pc := 194) hm dX9_readLevel_194 (fun hm => ?_)
      refine v_imul C (pc := 195) dX9_readLevel_195 ?_
      refine v_aload_n C (pc := 196) 0 dX9_readLevel_196 rfl rfl ?_
      refine gX9_59 C (pc := 197) dX9_readLevel_197 ?_
      refine v_iload_n C (pc := 200) 2 dX9_readLevel_200 rfl rfl ?_
      refine ldX9_pivotX C (pc := 201) hm dX9_readLevel_201 (fun hm => ?_)
      refine v_iadd C (pc := 202) dX9_readLevel_202 ?_
      exact v_sub [0, 1, 2] rfl (vX9_readLevel_203 C hr hQ (N := N) hk60 hm)
    · refine v_iconst C (pc := 183) 0 dX9_readLevel_183 rfl ?_
      refine v_goto C (pc := 184) 203 dX9_readLevel_184 rfl ?_
      exact v_sub [0, 1, 2] rfl (vX9_readLevel_203 C hr hQ (N := N) hk60 hm)
  · refine v_aload_n C (pc := 91) 0 dX9_readLevel_91 rfl rfl ?_
    refine gX9_19 C (pc := 92) dX9_readLevel_92 ?_
    refine v_iconst C (pc := 95) 5 dX9_readLevel_95 rfl ?_
    refine v_iload_n C (pc := 96) 2 dX9_readLevel_96 rfl rfl ?_
    refine v_imul C (pc := 97) dX9_readLevel_97 ?_
    refine v_iload C (pc := 98) 3 dX9_readLevel_98 rfl ?_
    refine v_iadd C (pc := 100) dX9_readLevel_100 ?_
    refine v_aload_n C (pc := 101) 0 dX9_readLevel_101 rfl rfl ?_
    refine gX9_50 C (pc := 102) dX9_readLevel_102 ?_
    refine v_iconst C (pc := 105) 5 dX9_readLevel_105 rfl ?_
    refine v_iload_n C (pc := 106) 2 dX9_readLevel_106 rfl rfl ?_
    refine v_imul C (pc := 107) dX9_readLevel_107 ?_
    refine v_iload C (pc := 108) 3 dX9_readLevel_108 rfl ?_
    refine v_iadd C (pc := 110) dX9_readLevel_110 ?_
    refine ldX9_readX C (pc := 111) hm dX9_readLevel_111 (fun hm => ?_)
    refine v_aload_n C (pc := 112) 0 dX9_readLevel_112 rfl rfl ?_
    refine gX9_59 C (pc := 113) dX9_readLevel_113 ?_
    refine v_iload_n C (pc := 116) 2 dX9_readLevel_116 rfl rfl ?_
    refine ldX9_pivotX C (pc := 117) hm dX9_readLevel_117 (fun hm => ?_)
    refine v_isub C (pc := 118) dX9_readLevel_118 ?_
    refine stX9_offX C (pc := 119) hm dX9_readLevel_119 (fun S35 hm => ?_)
    refine v_aload_n C (pc := 120) 0 dX9_readLevel_120 rfl rfl ?_
    refine gX9_22 C (pc := 121) dX9_readLevel_121 ?_
    refine v_iconst C (pc := 124) 5 dX9_readLevel_124 rfl ?_
    refine v_iload_n C (pc := 125) 2 dX9_readLevel_125 rfl rfl ?_
    refine v_imul C (pc := 126) dX9_readLevel_126 ?_
    refine v_iload C (pc := 127) 3 dX9_readLevel_127 rfl ?_
    refine v_iadd C (pc := 129) dX9_readLevel_129 ?_
    refine v_aload_n C (pc := 130) 0 dX9_readLevel_130 rfl rfl ?_
    refine gX9_53 C (pc := 131) dX9_readLevel_131 ?_
    refine v_iconst C (pc := 134) 5 dX9_readLevel_134 rfl ?_
    refine v_iload_n C (pc := 135) 2 dX9_readLevel_135 rfl rfl ?_
    refine v_imul C (pc := 136) dX9_readLevel_136 ?_
    refine v_iload C (pc := 137) 3 dX9_readLevel_137 rfl ?_
    refine v_iadd C (pc := 139) dX9_readLevel_139 ?_
    refine ldX9_readY C (pc := 140) hm dX9_readLevel_140 (fun hm => ?_)
    refine v_aload_n C (pc := 141) 0 dX9_readLevel_141 rfl rfl ?_
    refine gX9_62 C (pc := 142) dX9_readLevel_142 ?_
    refine v_iload_n C (pc := 145) 2 dX9_readLevel_145 rfl rfl ?_
    refine ldX9_pivotY C (pc := 146) hm dX9_readLevel_146 (fun hm => ?_)
    refine v_isub C (pc := 147) dX9_readLevel_147 ?_
    refine stX9_offY C (pc := 148) hm dX9_readLevel_148 (fun S36 hm => ?_)
    refine v_iinc C (pc := 149) 1 3 [(4, .int (x4 + 1)), (0, .ref (ad 0)), (2, .int x2), (3, .int x3)] dX9_readLevel_149 rfl rfl (by decide) rfl ?_
    refine v_goto C (pc := 152) 80 dX9_readLevel_152 rfl ?_
    exact v_sub [1, 2, 3, 0] rfl (hk80 _ _ _ _ hm)
theorem vX9_readLevel_80 {p : Program} {l : Launch} {e : Env} {s : State} {m : MethodId} {args : Array Value} {below : List Frame} {meth : Method} {c : Code} {Q : State → Prop} {D : va_G} {ad : Nat → Nat} {cA : Nat → ClassId} (C : Ok p s m args c D cA (mW ad cA) (mA ad) mS RX9 cX9_readLevel 5) (hr : Rt meth (some .int)) {r : Int32 × St} (hQ : Q = MQ below (Qo D (mW ad cA) (mA ad) (some (.int r.1)) r.2) args s 0 0 (mA ad)) {N : Nat} {k60 : Int32 → Int32 → St → Option (Int32 × St)} (hk60 : ∀ (x2 : Int32) (x3 : Int32) (S : St), k60 x2 x3 S = some r → V p l e rmX9_readLevel s m args below meth c Q D (mW ad cA) (mA ad) 5 S 60 [(0, .ref (ad 0)), (2, .int x2), (3, .int x3)] []) (n : Nat) : ∀ (x2 : Int32) (x3 : Int32) (x4 : Int32) (S : St), fX9_readLevel_80 N k60 n x2 x3 x4 S = some r → V p l e rmX9_readLevel s m args below meth c Q D (mW ad cA) (mA ad) 5 S 80 [(0, .ref (ad 0)), (2, .int x2), (3, .int x3), (4, .int x4)] [] := by
  induction n with
  | zero => intro _ _ _ _  hm; exact absurd hm (by intro h; cases h)
  | succ n ih => intro _ _ _ _  hm; exact vX9_readLevel_80b C hr hQ (N := N)  hk60 ih  hm
def fX9_readLevel_239b (N : Nat)  (k239 : Int32 → Int32 → St → Option (Int32 × St)) (x2 : Int32) (x3 : Int32) (S : St) : Option (Int32 × St) := if 4 ≤ x3 then (some (x2, S)) else (ck x3 4 (stp (sA S 22 (Int32.toNatClampNeg x3) (vp_nar .boolean 0)) fun S38 => k239 x2 (x3 + 1) S38))
def fX9_readLevel_239 (N : Nat)  : Nat → Int32 → Int32 → St → Option (Int32 × St)
  | 0 => fun _ _ _ => none
  | n + 1 => fun x2 x3 S => fX9_readLevel_239b N  (fX9_readLevel_239 N  n) x2 x3 S
set_option maxRecDepth 20000 in
theorem vX9_readLevel_239b {p : Program} {l : Launch} {e : Env} {s : State} {m : MethodId} {args : Array Value} {below : List Frame} {meth : Method} {c : Code} {Q : State → Prop} {D : va_G} {ad : Nat → Nat} {cA : Nat → ClassId} (C : Ok p s m args c D cA (mW ad cA) (mA ad) mS RX9 cX9_readLevel 5) (hr : Rt meth (some .int)) {r : Int32 × St} (hQ : Q = MQ below (Qo D (mW ad cA) (mA ad) (some (.int r.1)) r.2) args s 0 0 (mA ad)) {N : Nat}  {k239 : Int32 → Int32 → St → Option (Int32 × St)} (hk239 : ∀ (x2 : Int32) (x3 : Int32) (S : St), k239 x2 x3 S = some r → V p l e rmX9_readLevel s m args below meth c Q D (mW ad cA) (mA ad) 5 S 239 [(0, .ref (ad 0)), (2, .int x2), (3, .int x3)] []) {x2 : Int32} {x3 : Int32}  {S : St} (hm : fX9_readLevel_239b N  k239 x2 x3 S = some r) : V p l e rmX9_readLevel s m args below meth c Q D (mW ad cA) (mA ad) 5 S 239 [(0, .ref (ad 0)), (2, .int x2), (3, .int x3)] [] := by
  unfold fX9_readLevel_239b at hm
  refine v_iload_n C (pc := 239) 2 dX9_readLevel_239 rfl rfl ?_
  refine v_iconst C (pc := 240) 4 dX9_readLevel_240 rfl ?_
  refine v_icmp_ge C (pc := 241) hm 257 dX9_readLevel_241 rfl (fun hm => ?_) (fun hm => ?_)
  · refine v_iload_n C (pc := 257) 1 dX9_readLevel_257 rfl rfl ?_
    exact v_iret C hr hQ (pc := 258) hm dX9_readLevel_258
  · refine v_aload_n C (pc := 244) 0 dX9_readLevel_244 rfl rfl ?_
    refine gX9_84 C (pc := 245) dX9_readLevel_245 ?_
    refine v_iload_n C (pc := 248) 2 dX9_readLevel_248 rfl rfl ?_
    refine v_iconst C (pc := 249) 0 dX9_readLevel_249 rfl ?_
    refine stX9_isSaved C (pc := 250) hm dX9_readLevel_250 (fun S38 hm => ?_)
    refine v_iinc C (pc := 251) 1 2 [(3, .int (x3 + 1)), (0, .ref (ad 0)), (2, .int x2)] dX9_readLevel_251 rfl rfl (by decide) rfl ?_
    refine v_goto C (pc := 254) 239 dX9_readLevel_254 rfl ?_
    exact v_sub [1, 2, 0] rfl (hk239 _ _ _ hm)
theorem vX9_readLevel_239 {p : Program} {l : Launch} {e : Env} {s : State} {m : MethodId} {args : Array Value} {below : List Frame} {meth : Method} {c : Code} {Q : State → Prop} {D : va_G} {ad : Nat → Nat} {cA : Nat → ClassId} (C : Ok p s m args c D cA (mW ad cA) (mA ad) mS RX9 cX9_readLevel 5) (hr : Rt meth (some .int)) {r : Int32 × St} (hQ : Q = MQ below (Qo D (mW ad cA) (mA ad) (some (.int r.1)) r.2) args s 0 0 (mA ad)) {N : Nat}  (n : Nat) : ∀ (x2 : Int32) (x3 : Int32) (S : St), fX9_readLevel_239 N  n x2 x3 S = some r → V p l e rmX9_readLevel s m args below meth c Q D (mW ad cA) (mA ad) 5 S 239 [(0, .ref (ad 0)), (2, .int x2), (3, .int x3)] [] := by
  induction n with
  | zero => intro _ _ _  hm; exact absurd hm (by intro h; cases h)
  | succ n ih => intro _ _ _  hm; exact vX9_readLevel_239b C hr hQ (N := N)   ih  hm
def fX9_readLevel_60b (N : Nat)  (k60 : Int32 → Int32 → St → Option (Int32 × St)) (x2 : Int32) (x3 : Int32) (S : St) : Option (Int32 × St) := if 5 ≤ x3 then (stp (sI S 8 0) fun S30 => stp (sI S30 9 0) fun S31 => fX9_readLevel_239 N N x2 0 S31) else (ck x3 5 (ck x3 5 (stp (sA S 2 (Int32.toNatClampNeg x3) (S.2.2.1 12 (Int32.toNatClampNeg x3))) fun S32 => fX9_readLevel_80 N k60 N x2 x3 0 S32)))
def fX9_readLevel_60 (N : Nat)  : Nat → Int32 → Int32 → St → Option (Int32 × St)
  | 0 => fun _ _ _ => none
  | n + 1 => fun x2 x3 S => fX9_readLevel_60b N  (fX9_readLevel_60 N  n) x2 x3 S
set_option maxRecDepth 20000 in
theorem vX9_readLevel_60b {p : Program} {l : Launch} {e : Env} {s : State} {m : MethodId} {args : Array Value} {below : List Frame} {meth : Method} {c : Code} {Q : State → Prop} {D : va_G} {ad : Nat → Nat} {cA : Nat → ClassId} (C : Ok p s m args c D cA (mW ad cA) (mA ad) mS RX9 cX9_readLevel 5) (hr : Rt meth (some .int)) {r : Int32 × St} (hQ : Q = MQ below (Qo D (mW ad cA) (mA ad) (some (.int r.1)) r.2) args s 0 0 (mA ad)) {N : Nat}  {k60 : Int32 → Int32 → St → Option (Int32 × St)} (hk60 : ∀ (x2 : Int32) (x3 : Int32) (S : St), k60 x2 x3 S = some r → V p l e rmX9_readLevel s m args below meth c Q D (mW ad cA) (mA ad) 5 S 60 [(0, .ref (ad 0)), (2, .int x2), (3, .int x3)] []) {x2 : Int32} {x3 : Int32}  {S : St} (hm : fX9_readLevel_60b N  k60 x2 x3 S = some r) : V p l e rmX9_readLevel s m args below meth c Q D (mW ad cA) (mA ad) 5 S 60 [(0, .ref (ad 0)), (2, .int x2), (3, .int x3)] [] := by
  unfold fX9_readLevel_60b at hm
  refine v_iload_n C (pc := 60) 2 dX9_readLevel_60 rfl rfl ?_
  refine v_iconst C (pc := 61) 5 dX9_readLevel_61 rfl ?_
  refine v_icmp_ge C (pc := 62) hm 227 dX9_readLevel_62 rfl (fun hm => ?_) (fun hm => ?_)
  · refine v_aload_n C (pc := 227) 0 dX9_readLevel_227 rfl rfl ?_
    refine v_iconst C (pc := 228) 0 dX9_readLevel_228 rfl ?_
    refine pX9_153 C (pc := 229) hm dX9_readLevel_229 (fun S30 hm => ?_)
    refine v_aload_n C (pc := 232) 0 dX9_readLevel_232 rfl rfl ?_
    refine v_iconst C (pc := 233) 0 dX9_readLevel_233 rfl ?_
    refine pX9_156 C (pc := 234) hm dX9_readLevel_234 (fun S31 hm => ?_)
    refine v_iconst C (pc := 237) 0 dX9_readLevel_237 rfl ?_
    refine v_istore_n C (pc := 238) [(3, .int 0), (0, .ref (ad 0)), (2, .int x2)] dX9_readLevel_238 rfl (by decide) rfl ?_
    exact v_sub [1, 2, 0] rfl (vX9_readLevel_239 C hr hQ (N := N) N _ _ _ hm)
  · refine v_aload_n C (pc := 65) 0 dX9_readLevel_65 rfl rfl ?_
    refine gX9_16 C (pc := 66) dX9_readLevel_66 ?_
    refine v_iload_n C (pc := 69) 2 dX9_readLevel_69 rfl rfl ?_
    refine v_aload_n C (pc := 70) 0 dX9_readLevel_70 rfl rfl ?_
    refine gX9_47 C (pc := 71) dX9_readLevel_71 ?_
    refine v_iload_n C (pc := 74) 2 dX9_readLevel_74 rfl rfl ?_
    refine ldX9_readCells C (pc := 75) hm dX9_readLevel_75 (fun hm => ?_)
    refine stX9_cells C (pc := 76) hm dX9_readLevel_76 (fun S32 hm => ?_)
    refine v_iconst C (pc := 77) 0 dX9_readLevel_77 rfl ?_
    refine v_istore C (pc := 78) [(4, .int 0), (0, .ref (ad 0)), (2, .int x2), (3, .int x3)] dX9_readLevel_78 (by decide) rfl ?_
    exact v_sub [1, 2, 3, 0] rfl (vX9_readLevel_80 C hr hQ (N := N) hk60 N _ _ _ _ hm)
theorem vX9_readLevel_60 {p : Program} {l : Launch} {e : Env} {s : State} {m : MethodId} {args : Array Value} {below : List Frame} {meth : Method} {c : Code} {Q : State → Prop} {D : va_G} {ad : Nat → Nat} {cA : Nat → ClassId} (C : Ok p s m args c D cA (mW ad cA) (mA ad) mS RX9 cX9_readLevel 5) (hr : Rt meth (some .int)) {r : Int32 × St} (hQ : Q = MQ below (Qo D (mW ad cA) (mA ad) (some (.int r.1)) r.2) args s 0 0 (mA ad)) {N : Nat}  (n : Nat) : ∀ (x2 : Int32) (x3 : Int32) (S : St), fX9_readLevel_60 N  n x2 x3 S = some r → V p l e rmX9_readLevel s m args below meth c Q D (mW ad cA) (mA ad) 5 S 60 [(0, .ref (ad 0)), (2, .int x2), (3, .int x3)] [] := by
  induction n with
  | zero => intro _ _ _  hm; exact absurd hm (by intro h; cases h)
  | succ n ih => intro _ _ _  hm; exact vX9_readLevel_60b C hr hQ (N := N)   ih  hm
def fX9_readLevel_32b (N : Nat)  (k32 : Int32 → St → Option (Int32 × St)) (x2 : Int32) (S : St) : Option (Int32 × St) := if 64 ≤ x2 then (fX9_readLevel_60 N N 0 0 S) else (ck x2 64 (ck x2 64 (stp (sA S 1 (Int32.toNatClampNeg x2) (S.2.2.1 11 (Int32.toNatClampNeg x2))) fun S29 => k32 (x2 + 1) S29)))
def fX9_readLevel_32 (N : Nat)  : Nat → Int32 → St → Option (Int32 × St)
  | 0 => fun _ _ => none
  | n + 1 => fun x2 S => fX9_readLevel_32b N  (fX9_readLevel_32 N  n) x2 S
set_option maxRecDepth 20000 in
theorem vX9_readLevel_32b {p : Program} {l : Launch} {e : Env} {s : State} {m : MethodId} {args : Array Value} {below : List Frame} {meth : Method} {c : Code} {Q : State → Prop} {D : va_G} {ad : Nat → Nat} {cA : Nat → ClassId} (C : Ok p s m args c D cA (mW ad cA) (mA ad) mS RX9 cX9_readLevel 5) (hr : Rt meth (some .int)) {r : Int32 × St} (hQ : Q = MQ below (Qo D (mW ad cA) (mA ad) (some (.int r.1)) r.2) args s 0 0 (mA ad)) {N : Nat}  {k32 : Int32 → St → Option (Int32 × St)} (hk32 : ∀ (x2 : Int32) (S : St), k32 x2 S = some r → V p l e rmX9_readLevel s m args below meth c Q D (mW ad cA) (mA ad) 5 S 32 [(0, .ref (ad 0)), (2, .int x2)] []) {x2 : Int32}  {S : St} (hm : fX9_readLevel_32b N  k32 x2 S = some r) : V p l e rmX9_readLevel s m args below meth c Q D (mW ad cA) (mA ad) 5 S 32 [(0, .ref (ad 0)), (2, .int x2)] [] := by
  unfold fX9_readLevel_32b at hm
  refine v_iload_n C (pc := 32) 1 dX9_readLevel_32 rfl rfl ?_
  refine v_bipush C (pc := 33) 64 dX9_readLevel_33 rfl ?_
  refine v_icmp_ge C (pc := 35) hm 56 dX9_readLevel_35 rfl (fun hm => ?_) (fun hm => ?_)
  · refine v_iconst C (pc := 56) 0 dX9_readLevel_56 rfl ?_
    refine v_istore_n C (pc := 57) [(2, .int 0), (0, .ref (ad 0))] dX9_readLevel_57 rfl (by decide) rfl ?_
    refine v_iconst C (pc := 58) 0 dX9_readLevel_58 rfl ?_
    refine v_istore_n C (pc := 59) [(3, .int 0), (2, .int 0), (0, .ref (ad 0))] dX9_readLevel_59 rfl (by decide) rfl ?_
    exact v_sub [2, 1, 0] rfl (vX9_readLevel_60 C hr hQ (N := N) N _ _ _ hm)
  · refine v_aload_n C (pc := 38) 0 dX9_readLevel_38 rfl rfl ?_
    refine gX9_13 C (pc := 39) dX9_readLevel_39 ?_
    refine v_iload_n C (pc := 42) 1 dX9_readLevel_42 rfl rfl ?_
    refine v_aload_n C (pc := 43) 0 dX9_readLevel_43 rfl rfl ?_
    refine gX9_44 C (pc := 44) dX9_readLevel_44 ?_
    refine v_iload_n C (pc := 47) 1 dX9_readLevel_47 rfl rfl ?_
    refine ldX9_readKind C (pc := 48) hm dX9_readLevel_48 (fun hm => ?_)
    refine stX9_kindOf C (pc := 49) hm dX9_readLevel_49 (fun S29 hm => ?_)
    refine v_iinc C (pc := 50) 1 1 [(2, .int (x2 + 1)), (0, .ref (ad 0))] dX9_readLevel_50 rfl rfl (by decide) rfl ?_
    refine v_goto C (pc := 53) 32 dX9_readLevel_53 rfl ?_
    exact v_sub [1, 0] rfl (hk32 _ _ hm)
theorem vX9_readLevel_32 {p : Program} {l : Launch} {e : Env} {s : State} {m : MethodId} {args : Array Value} {below : List Frame} {meth : Method} {c : Code} {Q : State → Prop} {D : va_G} {ad : Nat → Nat} {cA : Nat → ClassId} (C : Ok p s m args c D cA (mW ad cA) (mA ad) mS RX9 cX9_readLevel 5) (hr : Rt meth (some .int)) {r : Int32 × St} (hQ : Q = MQ below (Qo D (mW ad cA) (mA ad) (some (.int r.1)) r.2) args s 0 0 (mA ad)) {N : Nat}  (n : Nat) : ∀ (x2 : Int32) (S : St), fX9_readLevel_32 N  n x2 S = some r → V p l e rmX9_readLevel s m args below meth c Q D (mW ad cA) (mA ad) 5 S 32 [(0, .ref (ad 0)), (2, .int x2)] [] := by
  induction n with
  | zero => intro _ _  hm; exact absurd hm (by intro h; cases h)
  | succ n ih => intro _ _  hm; exact vX9_readLevel_32b C hr hQ (N := N)   ih  hm
def fX9_readLevel (N : Nat)  (S : St) : Option (Int32 × St) := bd (fX9_findFault N  S) fun r5 S39 => if r5 < 0 then (stp (sI S39 0 (S39.1 4)) fun S40 => stp (sI S40 1 (S40.1 5)) fun S41 => fX9_readLevel_32 N N 0 S41) else (some (((-100) - r5), S39))
set_option maxRecDepth 20000 in
theorem vX9_readLevel {p : Program} {l : Launch} {e : Env} {s : State} {m : MethodId} {args : Array Value} {below : List Frame} {meth : Method} {c : Code} {Q : State → Prop} {D : va_G} {ad : Nat → Nat} {cA : Nat → ClassId} (C : Ok p s m args c D cA (mW ad cA) (mA ad) mS RX9 cX9_readLevel 5) (hr : Rt meth (some .int)) {r : Int32 × St} (hQ : Q = MQ below (Qo D (mW ad cA) (mA ad) (some (.int r.1)) r.2) args s 0 0 (mA ad)) {N : Nat}  {S : St} (hm : fX9_readLevel N  S = some r) : V p l e rmX9_readLevel s m args below meth c Q D (mW ad cA) (mA ad) 5 S 0 [(0, .ref (ad 0))] [] := by
  unfold fX9_readLevel at hm
  refine v_aload_n C (pc := 0) 0 dX9_readLevel_0 rfl rfl ?_
  refine kX9_149 C (Nat.le_of_ble_eq_true rfl) (Nat.le_of_ble_eq_true rfl) (pc := 1) hm (Nat.le_of_ble_eq_true rfl) dX9_readLevel_1 (fun r5 S39 hm => ?_)
  refine v_istore_n C (pc := 4) [(1, .int r5), (0, .ref (ad 0))] dX9_readLevel_4 rfl (by decide) rfl ?_
  refine v_iload_n C (pc := 5) 0 dX9_readLevel_5 rfl rfl ?_
  refine v_if_lt C (pc := 6) hm 14 dX9_readLevel_6 rfl (fun hm => ?_) (fun hm => ?_)
  · refine v_aload_n C (pc := 14) 1 dX9_readLevel_14 rfl rfl ?_
    refine v_aload_n C (pc := 15) 1 dX9_readLevel_15 rfl rfl ?_
    refine gX9_140 C (pc := 16) dX9_readLevel_16 ?_
    refine pX9_109 C (pc := 19) hm dX9_readLevel_19 (fun S40 hm => ?_)
    refine v_aload_n C (pc := 22) 1 dX9_readLevel_22 rfl rfl ?_
    refine v_aload_n C (pc := 23) 1 dX9_readLevel_23 rfl rfl ?_
    refine gX9_146 C (pc := 24) dX9_readLevel_24 ?_
    refine pX9_113 C (pc := 27) hm dX9_readLevel_27 (fun S41 hm => ?_)
    refine v_iconst C (pc := 30) 0 dX9_readLevel_30 rfl ?_
    refine v_istore_n C (pc := 31) [(2, .int 0), (1, .int r5), (0, .ref (ad 0))] dX9_readLevel_31 rfl (by decide) rfl ?_
    exact v_sub [2, 0] rfl (vX9_readLevel_32 C hr hQ (N := N) N _ _ hm)
  · refine v_bipush C (pc := 9) (-100) dX9_readLevel_9 rfl ?_
    refine v_iload_n C (pc := 11) 0 dX9_readLevel_11 rfl rfl ?_
    refine v_isub C (pc := 12) dX9_readLevel_12 ?_
    exact v_iret C hr hQ (pc := 13) hm dX9_readLevel_13
theorem mX9_readLevel {l : Launch} {D : va_G} {ad : Nat → Nat} {cA : Nat → ClassId} (hD : ∀ S, va_D (mA ad) (mW ad cA S)) {N : Nat}  {S : St} {r : Int32 × St} (hm : fX9_readLevel N  S = some r) : Met l yX9_readLevel (wsm yX9_readLevel cX9_readLevel 5 (some .int)) rmX9_readLevel (va_Pc [.ref (ad 0)] (Pre D cA (mW ad cA) mS S)) (Qo D (mW ad cA) (mA ad) (some (.int r.1)) r.2) 0 0 (mA ad) := met_of [.ref (ad 0)] (by decide) (Nat.le_of_ble_eq_true rfl) hD (fun _ _ _ _ h => h) (fun _ _ _ _ h => h) (fun p e s m below meth c C hr => vX9_readLevel C hr rfl (N := N)  hm)
-- X9_packed
def rmX9_packed : Room := { frames := 0, cells := 0, slots := 0, locals := 0 }
def fX9_packed_4b (N : Nat)  (k4 : Int64 → Int32 → St → Option (Int64 × St)) (x1 : Int64) (x3 : Int32) (S : St) : Option (Int64 × St) := if x3 < 0 then (some (x1, S)) else (ck x3 5 (nm ((x1 * 256) + (Int32.toInt64 (S.2.2.1 9 (Int32.toNatClampNeg x3)))) fun y2 => k4 y2 (x3 + (-1)) S))
def fX9_packed_4 (N : Nat)  : Nat → Int64 → Int32 → St → Option (Int64 × St)
  | 0 => fun _ _ _ => none
  | n + 1 => fun x1 x3 S => fX9_packed_4b N  (fX9_packed_4 N  n) x1 x3 S
set_option maxRecDepth 20000 in
theorem vX9_packed_4b {p : Program} {l : Launch} {e : Env} {s : State} {m : MethodId} {args : Array Value} {below : List Frame} {meth : Method} {c : Code} {Q : State → Prop} {D : va_G} {ad : Nat → Nat} {cA : Nat → ClassId} (C : Ok p s m args c D cA (mW ad cA) (mA ad) mS RX9 cX9_packed 4) (hr : Rt meth (some .long)) {r : Int64 × St} (hQ : Q = MQ below (Qo D (mW ad cA) (mA ad) (some (.long r.1)) r.2) args s 0 0 (mA ad)) {N : Nat}  {k4 : Int64 → Int32 → St → Option (Int64 × St)} (hk4 : ∀ (x1 : Int64) (x3 : Int32) (S : St), k4 x1 x3 S = some r → V p l e rmX9_packed s m args below meth c Q D (mW ad cA) (mA ad) 4 S 4 [(0, .ref (ad 0)), (1, .long x1), (3, .int x3)] []) {x1 : Int64} {x3 : Int32}  {S : St} (hm : fX9_packed_4b N  k4 x1 x3 S = some r) : V p l e rmX9_packed s m args below meth c Q D (mW ad cA) (mA ad) 4 S 4 [(0, .ref (ad 0)), (1, .long x1), (3, .int x3)] [] := by
  unfold fX9_packed_4b at hm
  refine v_iload_n C (pc := 4) 2 dX9_packed_4 rfl rfl ?_
  refine v_if_lt C (pc := 5) hm 28 dX9_packed_5 rfl (fun hm => ?_) (fun hm => ?_)
  · refine v_lload_n C (pc := 28) 1 dX9_packed_28 rfl rfl ?_
    exact v_lret C hr hQ (pc := 29) hm dX9_packed_29
  · refine v_lload_n C (pc := 8) 1 dX9_packed_8 rfl rfl ?_
    refine v_ldc2 C (pc := 9) dX9_packed_9 clX9_159 ?_
    refine v_lmul C (pc := 12) dX9_packed_12 ?_
    refine v_aload_n C (pc := 13) 0 dX9_packed_13 rfl rfl ?_
    refine gX9_37 C (pc := 14) dX9_packed_14 ?_
    refine v_iload_n C (pc := 17) 2 dX9_packed_17 rfl rfl ?_
    refine ldX9_placeOf C (pc := 18) hm dX9_packed_18 (fun hm => ?_)
    refine v_i2l C (pc := 19) dX9_packed_19 ?_
    refine v_ladd C (pc := 20) dX9_packed_20 ?_
    refine v_lstore_nN C (pc := 21) [(0, .ref (ad 0)), (3, .int x3)] hm dX9_packed_21 rfl (by decide) rfl (fun y2 hm => ?_)
    refine v_iinc C (pc := 22) (-1) 2 [(3, .int (x3 + (-1))), (1, .long y2), (0, .ref (ad 0))] dX9_packed_22 rfl rfl (by decide) rfl ?_
    refine v_goto C (pc := 25) 4 dX9_packed_25 rfl ?_
    exact v_sub [2, 1, 0] rfl (hk4 _ _ _ hm)
theorem vX9_packed_4 {p : Program} {l : Launch} {e : Env} {s : State} {m : MethodId} {args : Array Value} {below : List Frame} {meth : Method} {c : Code} {Q : State → Prop} {D : va_G} {ad : Nat → Nat} {cA : Nat → ClassId} (C : Ok p s m args c D cA (mW ad cA) (mA ad) mS RX9 cX9_packed 4) (hr : Rt meth (some .long)) {r : Int64 × St} (hQ : Q = MQ below (Qo D (mW ad cA) (mA ad) (some (.long r.1)) r.2) args s 0 0 (mA ad)) {N : Nat}  (n : Nat) : ∀ (x1 : Int64) (x3 : Int32) (S : St), fX9_packed_4 N  n x1 x3 S = some r → V p l e rmX9_packed s m args below meth c Q D (mW ad cA) (mA ad) 4 S 4 [(0, .ref (ad 0)), (1, .long x1), (3, .int x3)] [] := by
  induction n with
  | zero => intro _ _ _  hm; exact absurd hm (by intro h; cases h)
  | succ n ih => intro _ _ _  hm; exact vX9_packed_4b C hr hQ (N := N)   ih  hm
def fX9_packed (N : Nat)  (S : St) : Option (Int64 × St) := fX9_packed_4 N N 0 4 S
set_option maxRecDepth 20000 in
theorem vX9_packed {p : Program} {l : Launch} {e : Env} {s : State} {m : MethodId} {args : Array Value} {below : List Frame} {meth : Method} {c : Code} {Q : State → Prop} {D : va_G} {ad : Nat → Nat} {cA : Nat → ClassId} (C : Ok p s m args c D cA (mW ad cA) (mA ad) mS RX9 cX9_packed 4) (hr : Rt meth (some .long)) {r : Int64 × St} (hQ : Q = MQ below (Qo D (mW ad cA) (mA ad) (some (.long r.1)) r.2) args s 0 0 (mA ad)) {N : Nat}  {S : St} (hm : fX9_packed N  S = some r) : V p l e rmX9_packed s m args below meth c Q D (mW ad cA) (mA ad) 4 S 0 [(0, .ref (ad 0))] [] := by
  unfold fX9_packed at hm
  refine v_lconst C (pc := 0) 0 dX9_packed_0 rfl ?_
  refine v_lstore_n C (pc := 1) [(1, .long 0), (0, .ref (ad 0))] dX9_packed_1 rfl (by decide) rfl ?_
  refine v_iconst C (pc := 2) 4 dX9_packed_2 rfl ?_
  refine v_istore_n C (pc := 3) [(3, .int 4), (1, .long 0), (0, .ref (ad 0))] dX9_packed_3 rfl (by decide) rfl ?_
  exact v_sub [2, 1, 0] rfl (vX9_packed_4 C hr hQ (N := N) N _ _ _ hm)
theorem mX9_packed {l : Launch} {D : va_G} {ad : Nat → Nat} {cA : Nat → ClassId} (hD : ∀ S, va_D (mA ad) (mW ad cA S)) {N : Nat}  {S : St} {r : Int64 × St} (hm : fX9_packed N  S = some r) : Met l yX9_packed (wsm yX9_packed cX9_packed 4 (some .long)) rmX9_packed (va_Pc [.ref (ad 0)] (Pre D cA (mW ad cA) mS S)) (Qo D (mW ad cA) (mA ad) (some (.long r.1)) r.2) 0 0 (mA ad) := met_of [.ref (ad 0)] (by decide) (Nat.le_of_ble_eq_true rfl) hD (fun _ _ _ _ h => h) (fun _ _ _ _ h => h) (fun p e s m below meth c C hr => vX9_packed C hr rfl (N := N)  hm)
-- X9_unpack
def rmX9_unpack : Room := { frames := 0, cells := 0, slots := 0, locals := 0 }
def fX9_unpack_5b (N : Nat)  (k5 : Int64 → Int32 → St → Option (Unit × St)) (x3 : Int64) (x5 : Int32) (S : St) : Option (Unit × St) := if 5 ≤ x5 then (some ((), S)) else (ck x5 5 (stp (sA S 9 (Int32.toNatClampNeg x5) (Int64.toInt32 (x3 - x3 / 256 * 256))) fun S3 => nm (x3 / 256) fun y3 => k5 y3 (x5 + 1) S3))
def fX9_unpack_5 (N : Nat)  : Nat → Int64 → Int32 → St → Option (Unit × St)
  | 0 => fun _ _ _ => none
  | n + 1 => fun x3 x5 S => fX9_unpack_5b N  (fX9_unpack_5 N  n) x3 x5 S
set_option maxRecDepth 20000 in
theorem vX9_unpack_5b {p : Program} {l : Launch} {e : Env} {s : State} {m : MethodId} {args : Array Value} {below : List Frame} {meth : Method} {c : Code} {Q : State → Prop} {D : va_G} {ad : Nat → Nat} {cA : Nat → ClassId} (C : Ok p s m args c D cA (mW ad cA) (mA ad) mS RX9 cX9_unpack 6) (hr : Rt meth none) {r : Unit × St} (hQ : Q = MQ below (Qo D (mW ad cA) (mA ad) (none) r.2) args s 0 0 (mA ad)) {N : Nat}  {k5 : Int64 → Int32 → St → Option (Unit × St)} (hk5 : ∀ (x3 : Int64) (x5 : Int32) (S : St), k5 x3 x5 S = some r → V p l e rmX9_unpack s m args below meth c Q D (mW ad cA) (mA ad) 6 S 5 [(0, .ref (ad 0)), (3, .long x3), (5, .int x5)] []) {x3 : Int64} {x5 : Int32}  {S : St} (hm : fX9_unpack_5b N  k5 x3 x5 S = some r) : V p l e rmX9_unpack s m args below meth c Q D (mW ad cA) (mA ad) 6 S 5 [(0, .ref (ad 0)), (3, .long x3), (5, .int x5)] [] := by
  unfold fX9_unpack_5b at hm
  refine v_iload C (pc := 5) 2 dX9_unpack_5 rfl ?_
  refine v_iconst C (pc := 7) 5 dX9_unpack_7 rfl ?_
  refine v_icmp_ge C (pc := 8) hm 36 dX9_unpack_8 rfl (fun hm => ?_) (fun hm => ?_)
  · exact v_vret C hr hQ (x := ()) (pc := 36) hm dX9_unpack_36
  · refine v_aload_n C (pc := 11) 0 dX9_unpack_11 rfl rfl ?_
    refine gX9_37 C (pc := 12) dX9_unpack_12 ?_
    refine v_iload C (pc := 15) 2 dX9_unpack_15 rfl ?_
    refine v_lload_n C (pc := 17) 1 dX9_unpack_17 rfl rfl ?_
    refine v_ldc2 C (pc := 18) dX9_unpack_18 clX9_159 ?_
    refine v_lrem C (pc := 21) dX9_unpack_21 (by decide) ?_
    refine v_l2i C (pc := 22) dX9_unpack_22 ?_
    refine stX9_placeOf C (pc := 23) hm dX9_unpack_23 (fun S3 hm => ?_)
    refine v_lload_n C (pc := 24) 1 dX9_unpack_24 rfl rfl ?_
    refine v_ldc2 C (pc := 25) dX9_unpack_25 clX9_159 ?_
    refine v_ldiv C (pc := 28) dX9_unpack_28 (by decide) ?_
    refine v_lstore_nN C (pc := 29) [(0, .ref (ad 0)), (5, .int x5)] hm dX9_unpack_29 rfl (by decide) rfl (fun y3 hm => ?_)
    refine v_iinc C (pc := 30) 1 2 [(5, .int (x5 + 1)), (3, .long y3), (0, .ref (ad 0))] dX9_unpack_30 rfl rfl (by decide) rfl ?_
    refine v_goto C (pc := 33) 5 dX9_unpack_33 rfl ?_
    exact v_sub [2, 1, 0] rfl (hk5 _ _ _ hm)
theorem vX9_unpack_5 {p : Program} {l : Launch} {e : Env} {s : State} {m : MethodId} {args : Array Value} {below : List Frame} {meth : Method} {c : Code} {Q : State → Prop} {D : va_G} {ad : Nat → Nat} {cA : Nat → ClassId} (C : Ok p s m args c D cA (mW ad cA) (mA ad) mS RX9 cX9_unpack 6) (hr : Rt meth none) {r : Unit × St} (hQ : Q = MQ below (Qo D (mW ad cA) (mA ad) (none) r.2) args s 0 0 (mA ad)) {N : Nat}  (n : Nat) : ∀ (x3 : Int64) (x5 : Int32) (S : St), fX9_unpack_5 N  n x3 x5 S = some r → V p l e rmX9_unpack s m args below meth c Q D (mW ad cA) (mA ad) 6 S 5 [(0, .ref (ad 0)), (3, .long x3), (5, .int x5)] [] := by
  induction n with
  | zero => intro _ _ _  hm; exact absurd hm (by intro h; cases h)
  | succ n ih => intro _ _ _  hm; exact vX9_unpack_5b C hr hQ (N := N)   ih  hm
def fX9_unpack (N : Nat) (p1 : Int64) (S : St) : Option (Unit × St) := fX9_unpack_5 N N p1 0 S
set_option maxRecDepth 20000 in
theorem vX9_unpack {p : Program} {l : Launch} {e : Env} {s : State} {m : MethodId} {args : Array Value} {below : List Frame} {meth : Method} {c : Code} {Q : State → Prop} {D : va_G} {ad : Nat → Nat} {cA : Nat → ClassId} (C : Ok p s m args c D cA (mW ad cA) (mA ad) mS RX9 cX9_unpack 6) (hr : Rt meth none) {r : Unit × St} (hQ : Q = MQ below (Qo D (mW ad cA) (mA ad) (none) r.2) args s 0 0 (mA ad)) {N : Nat} {p1 : Int64} {S : St} (hm : fX9_unpack N p1 S = some r) : V p l e rmX9_unpack s m args below meth c Q D (mW ad cA) (mA ad) 6 S 0 [(0, .ref (ad 0)), (1, .long p1)] [] := by
  unfold fX9_unpack at hm
  refine v_lload_n C (pc := 0) 1 dX9_unpack_0 rfl rfl ?_
  refine v_lstore_n C (pc := 1) [(3, .long p1), (0, .ref (ad 0)), (1, .long p1)] dX9_unpack_1 rfl (by decide) rfl ?_
  refine v_iconst C (pc := 2) 0 dX9_unpack_2 rfl ?_
  refine v_istore C (pc := 3) [(5, .int 0), (3, .long p1), (0, .ref (ad 0)), (1, .long p1)] dX9_unpack_3 (by decide) rfl ?_
  exact v_sub [2, 1, 0] rfl (vX9_unpack_5 C hr hQ (N := N) N _ _ _ hm)
theorem mX9_unpack {l : Launch} {D : va_G} {ad : Nat → Nat} {cA : Nat → ClassId} (hD : ∀ S, va_D (mA ad) (mW ad cA S)) {N : Nat} {p1 : Int64} {S : St} {r : Unit × St} (hm : fX9_unpack N p1 S = some r) : Met l yX9_unpack (wsm yX9_unpack cX9_unpack 6 none) rmX9_unpack (va_Pc [.ref (ad 0), .long p1] (Pre D cA (mW ad cA) mS S)) (Qo D (mW ad cA) (mA ad) (none) r.2) 0 0 (mA ad) := met_of [.ref (ad 0), .long p1] (by decide) (Nat.le_of_ble_eq_true rfl) hD (fun _ _ _ _ h => h) (fun _ _ _ _ h => h) (fun p e s m below meth c C hr => vX9_unpack C hr rfl (N := N)  hm)
-- X9_layOwners
theorem infX9_cellY : InfV yX9_cellY cX9_cellY 4 (some .int) 3 := ⟨⟨gm (i := 65) (by decide +kernel) rfl, gm (i := 991) (by decide +kernel) rfl, by decide +kernel⟩, gm (i := 990) (by decide +kernel) rfl, gm (i := 24) (by decide +kernel) rfl⟩
theorem kX9_161 {p : Program} {l : Launch} {e : Env} {R : Room} {s : State} {m : MethodId} {args : Array Value} {below : List Frame} {meth : Method} {c : Code} {Q : State → Prop} {D : va_G} {ad : Nat → Nat} {cA : Nat → ClassId} {cc : ByteArray} {nL : Nat} {S : St} {pc : Nat} {lv : List (Nat × Value)} {st : List Value} {ρ : Type} {res : ρ} (C : Ok p s m args c D cA (mW ad cA) (mA ad) mS RX9 cc nL) (hfr : rmX9_cellY.frames + 1 ≤ R.frames) (hlo : 8 + (4 + 11) + rmX9_cellY.locals ≤ R.locals) {N : Nat} {p1 : Int32} {p2 : Int32} {p3 : Int32} {E : Int32 → St → Option ρ} (hm : bd (fX9_cellY N p1 p2 p3 S) E = some res) (hcat : (st.map fun v => v.category).sum ≤ 8) (hd : decode cc pc = .ok (.invokevirtual 161, 3)) (k : ∀ r S, E r S = some res → V p l e R s m args below meth c Q D (mW ad cA) (mA ad) nL S (pc + 3) lv (.int r :: st)) : V p l e R s m args below meth c Q D (mW ad cA) (mA ad) nL S pc lv (.int p3 :: .int p2 :: .int p1 :: .ref (ad 0) :: st) := by
  obtain ⟨r, S1, h1, h2⟩ := bd_some hm
  exact v_callV C (gm (i := 988) (by decide +kernel) rfl : Cond.methodLink RX9 161 yX9_cellY ∈ gw_tbl) infX9_cellY (rm2 := rmX9_cellY) ⟨rfl, rfl⟩ hfr hlo (mX9_cellY C.2.2.2.2.2.2.1 h1) (As := [.int p1, .int p2, .int p3]) (oX9 ad cA S) rfl rfl rfl rfl hcat hd (k r S1 h2)
theorem infX9_cellX : InfV yX9_cellX cX9_cellX 4 (some .int) 3 := ⟨⟨gm (i := 65) (by decide +kernel) rfl, gm (i := 998) (by decide +kernel) rfl, by decide +kernel⟩, gm (i := 997) (by decide +kernel) rfl, gm (i := 25) (by decide +kernel) rfl⟩
theorem kX9_164 {p : Program} {l : Launch} {e : Env} {R : Room} {s : State} {m : MethodId} {args : Array Value} {below : List Frame} {meth : Method} {c : Code} {Q : State → Prop} {D : va_G} {ad : Nat → Nat} {cA : Nat → ClassId} {cc : ByteArray} {nL : Nat} {S : St} {pc : Nat} {lv : List (Nat × Value)} {st : List Value} {ρ : Type} {res : ρ} (C : Ok p s m args c D cA (mW ad cA) (mA ad) mS RX9 cc nL) (hfr : rmX9_cellX.frames + 1 ≤ R.frames) (hlo : 8 + (4 + 11) + rmX9_cellX.locals ≤ R.locals) {N : Nat} {p1 : Int32} {p2 : Int32} {p3 : Int32} {E : Int32 → St → Option ρ} (hm : bd (fX9_cellX N p1 p2 p3 S) E = some res) (hcat : (st.map fun v => v.category).sum ≤ 8) (hd : decode cc pc = .ok (.invokevirtual 164, 3)) (k : ∀ r S, E r S = some res → V p l e R s m args below meth c Q D (mW ad cA) (mA ad) nL S (pc + 3) lv (.int r :: st)) : V p l e R s m args below meth c Q D (mW ad cA) (mA ad) nL S pc lv (.int p3 :: .int p2 :: .int p1 :: .ref (ad 0) :: st) := by
  obtain ⟨r, S1, h1, h2⟩ := bd_some hm
  exact v_callV C (gm (i := 995) (by decide +kernel) rfl : Cond.methodLink RX9 164 yX9_cellX ∈ gw_tbl) infX9_cellX (rm2 := rmX9_cellX) ⟨rfl, rfl⟩ hfr hlo (mX9_cellX C.2.2.2.2.2.2.1 h1) (As := [.int p1, .int p2, .int p3]) (oX9 ad cA S) rfl rfl rfl rfl hcat hd (k r S1 h2)
def rmX9_layOwners : Room := { frames := 2, cells := 0, slots := 0, locals := 45 }
def fX9_layOwners_144b (N : Nat) (k43 : Int32 → St → Option (Unit × St)) (k144 : Int32 → Int32 → Int32 → St → Option (Unit × St)) (x1 : Int32) (x2 : Int32) (x3 : Int32) (S : St) : Option (Unit × St) := if 4 ≤ x3 then (k43 (x1 + 1) S) else (ck x3 4 (ck x1 5 (ck x3 4 (stp (sA S 19 (Int32.toNatClampNeg x3) ((S.2.2.1 19 (Int32.toNatClampNeg x3)) + (((x2 >>> (x3 &&& 31)) &&& 1) * (S.2.2.1 5 (Int32.toNatClampNeg x1))))) fun S26 => k144 x1 x2 (x3 + 1) S26))))
def fX9_layOwners_144 (N : Nat) (k43 : Int32 → St → Option (Unit × St)) : Nat → Int32 → Int32 → Int32 → St → Option (Unit × St)
  | 0 => fun _ _ _ _ => none
  | n + 1 => fun x1 x2 x3 S => fX9_layOwners_144b N k43 (fX9_layOwners_144 N k43 n) x1 x2 x3 S
set_option maxRecDepth 20000 in
theorem vX9_layOwners_144b {p : Program} {l : Launch} {e : Env} {s : State} {m : MethodId} {args : Array Value} {below : List Frame} {meth : Method} {c : Code} {Q : State → Prop} {D : va_G} {ad : Nat → Nat} {cA : Nat → ClassId} (C : Ok p s m args c D cA (mW ad cA) (mA ad) mS RX9 cX9_layOwners 5) (hr : Rt meth none) {r : Unit × St} (hQ : Q = MQ below (Qo D (mW ad cA) (mA ad) (none) r.2) args s 0 0 (mA ad)) {N : Nat} {k43 : Int32 → St → Option (Unit × St)} (hk43 : ∀ (x1 : Int32) (S : St), k43 x1 S = some r → V p l e rmX9_layOwners s m args below meth c Q D (mW ad cA) (mA ad) 5 S 43 [(0, .ref (ad 0)), (1, .int x1)] []) {k144 : Int32 → Int32 → Int32 → St → Option (Unit × St)} (hk144 : ∀ (x1 : Int32) (x2 : Int32) (x3 : Int32) (S : St), k144 x1 x2 x3 S = some r → V p l e rmX9_layOwners s m args below meth c Q D (mW ad cA) (mA ad) 5 S 144 [(0, .ref (ad 0)), (1, .int x1), (2, .int x2), (3, .int x3)] []) {x1 : Int32} {x2 : Int32} {x3 : Int32}  {S : St} (hm : fX9_layOwners_144b N k43 k144 x1 x2 x3 S = some r) : V p l e rmX9_layOwners s m args below meth c Q D (mW ad cA) (mA ad) 5 S 144 [(0, .ref (ad 0)), (1, .int x1), (2, .int x2), (3, .int x3)] [] := by
  unfold fX9_layOwners_144b at hm
  refine v_iload_n C (pc := 144) 3 dX9_layOwners_144 rfl rfl ?_
  refine v_iconst C (pc := 145) 4 dX9_layOwners_145 rfl ?_
  refine v_icmp_ge C (pc := 146) hm 176 dX9_layOwners_146 rfl (fun hm => ?_) (fun hm => ?_)
  · refine v_iinc C (pc := 176) 1 1 [(1, .int (x1 + 1)), (0, .ref (ad 0)), (2, .int x2), (3, .int x3)] dX9_layOwners_176 rfl rfl (by decide) rfl ?_
    refine v_goto C (pc := 179) 43 dX9_layOwners_179 rfl ?_
    exact v_sub [1, 0] rfl (hk43 _ _ hm)
  · refine v_aload_n C (pc := 149) 0 dX9_layOwners_149 rfl rfl ?_
    refine gX9_68 C (pc := 150) dX9_layOwners_150 ?_
    refine v_iload_n C (pc := 153) 3 dX9_layOwners_153 rfl rfl ?_
    refine v_dup2 C (pc := 154) dX9_layOwners_154 rfl rfl ?_
    refine ldX9_loadOf C (pc := 155) hm dX9_layOwners_155 (fun hm => ?_)
    refine v_iload_n C (pc := 156) 2 dX9_layOwners_156 rfl rfl ?_
    refine v_iload_n C (pc := 157) 3 dX9_layOwners_157 rfl rfl ?_
    refine v_ishr C (pc := 158) dX9_layOwners_158 ?_
    refine v_iconst C (pc := 159) 1 dX9_layOwners_159 rfl ?_
    refine v_iand C (pc := 160) dX9_layOwners_160 ?_
    refine v_aload_n C (pc := 161) 0 dX9_layOwners_161 rfl rfl ?_
    refine gX9_25 C (pc := 162) dX9_layOwners_162 ?_
    refine v_iload_n C (pc := 165) 1 dX9_layOwners_165 rfl rfl ?_
    refine ldX9_weightOf C (pc := 166) hm dX9_layOwners_166 (fun hm => ?_)
    refine v_imul C (pc := 167) dX9_layOwners_167 ?_
    refine v_iadd C (pc := 168) dX9_layOwners_168 ?_
    refine stX9_loadOf C (pc := 169) hm dX9_layOwners_169 (fun S26 hm => ?_)
    refine v_iinc C (pc := 170) 1 3 [(3, .int (x3 + 1)), (0, .ref (ad 0)), (1, .int x1), (2, .int x2)] dX9_layOwners_170 rfl rfl (by decide) rfl ?_
    refine v_goto C (pc := 173) 144 dX9_layOwners_173 rfl ?_
    exact v_sub [1, 2, 3, 0] rfl (hk144 _ _ _ _ hm)
theorem vX9_layOwners_144 {p : Program} {l : Launch} {e : Env} {s : State} {m : MethodId} {args : Array Value} {below : List Frame} {meth : Method} {c : Code} {Q : State → Prop} {D : va_G} {ad : Nat → Nat} {cA : Nat → ClassId} (C : Ok p s m args c D cA (mW ad cA) (mA ad) mS RX9 cX9_layOwners 5) (hr : Rt meth none) {r : Unit × St} (hQ : Q = MQ below (Qo D (mW ad cA) (mA ad) (none) r.2) args s 0 0 (mA ad)) {N : Nat} {k43 : Int32 → St → Option (Unit × St)} (hk43 : ∀ (x1 : Int32) (S : St), k43 x1 S = some r → V p l e rmX9_layOwners s m args below meth c Q D (mW ad cA) (mA ad) 5 S 43 [(0, .ref (ad 0)), (1, .int x1)] []) (n : Nat) : ∀ (x1 : Int32) (x2 : Int32) (x3 : Int32) (S : St), fX9_layOwners_144 N k43 n x1 x2 x3 S = some r → V p l e rmX9_layOwners s m args below meth c Q D (mW ad cA) (mA ad) 5 S 144 [(0, .ref (ad 0)), (1, .int x1), (2, .int x2), (3, .int x3)] [] := by
  induction n with
  | zero => intro _ _ _ _  hm; exact absurd hm (by intro h; cases h)
  | succ n ih => intro _ _ _ _  hm; exact vX9_layOwners_144b C hr hQ (N := N)  hk43 ih  hm
def fX9_layOwners_134 (N : Nat) (k43 : Int32 → St → Option (Unit × St)) (k52 : Int32 → Int32 → Int32 → St → Option (Unit × St)) (s0 : Int32) (s1 : Int32) (x1 : Int32) (x3 : Int32) (S : St) : Option (Unit × St) := nm (s1 ||| s0) fun y20 => k52 x1 y20 (x3 + 1) S
set_option maxRecDepth 20000 in
theorem vX9_layOwners_134 {p : Program} {l : Launch} {e : Env} {s : State} {m : MethodId} {args : Array Value} {below : List Frame} {meth : Method} {c : Code} {Q : State → Prop} {D : va_G} {ad : Nat → Nat} {cA : Nat → ClassId} (C : Ok p s m args c D cA (mW ad cA) (mA ad) mS RX9 cX9_layOwners 5) (hr : Rt meth none) {r : Unit × St} (hQ : Q = MQ below (Qo D (mW ad cA) (mA ad) (none) r.2) args s 0 0 (mA ad)) {N : Nat} {k43 : Int32 → St → Option (Unit × St)} (hk43 : ∀ (x1 : Int32) (S : St), k43 x1 S = some r → V p l e rmX9_layOwners s m args below meth c Q D (mW ad cA) (mA ad) 5 S 43 [(0, .ref (ad 0)), (1, .int x1)] []) {k52 : Int32 → Int32 → Int32 → St → Option (Unit × St)} (hk52 : ∀ (x1 : Int32) (x2 : Int32) (x3 : Int32) (S : St), k52 x1 x2 x3 S = some r → V p l e rmX9_layOwners s m args below meth c Q D (mW ad cA) (mA ad) 5 S 52 [(0, .ref (ad 0)), (1, .int x1), (2, .int x2), (3, .int x3)] []) {s0 : Int32} {s1 : Int32} {x1 : Int32} {x3 : Int32}  {S : St} (hm : fX9_layOwners_134 N k43 k52 s0 s1 x1 x3 S = some r) : V p l e rmX9_layOwners s m args below meth c Q D (mW ad cA) (mA ad) 5 S 134 [(0, .ref (ad 0)), (1, .int x1), (3, .int x3)] [.int s0, .int s1] := by
  unfold fX9_layOwners_134 at hm
  refine v_ior C (pc := 134) dX9_layOwners_134 ?_
  refine v_istore_nN C (pc := 135) [(0, .ref (ad 0)), (1, .int x1), (3, .int x3)] hm dX9_layOwners_135 rfl (by decide) rfl (fun y20 hm => ?_)
  refine v_iinc C (pc := 136) 1 3 [(3, .int (x3 + 1)), (2, .int y20), (0, .ref (ad 0)), (1, .int x1)] dX9_layOwners_136 rfl rfl (by decide) rfl ?_
  refine v_goto C (pc := 139) 52 dX9_layOwners_139 rfl ?_
  exact v_sub [2, 3, 1, 0] rfl (hk52 _ _ _ _ hm)
def fX9_layOwners_52b (N : Nat) (k43 : Int32 → St → Option (Unit × St)) (k52 : Int32 → Int32 → Int32 → St → Option (Unit × St)) (x1 : Int32) (x2 : Int32) (x3 : Int32) (S : St) : Option (Unit × St) := ck x1 5 (if (S.2.2.1 2 (Int32.toNatClampNeg x1)) ≤ x3 then (fX9_layOwners_144 N k43 N x1 x2 0 S) else (ck x1 5 (bd (fX9_cellY N x1 x3 (S.2.2.1 9 (Int32.toNatClampNeg x1)) S) fun r16 S22 => ck x1 5 (bd (fX9_cellX N x1 x3 (S22.2.2.1 9 (Int32.toNatClampNeg x1)) S22) fun r17 S23 => nm ((8 * r16) + r17) fun y18 => ck y18 64 (stp (sA S23 18 (Int32.toNatClampNeg y18) x1) fun S24 => ck y18 64 (bd (fX9_in N (S24.2.2.1 1 (Int32.toNatClampNeg y18)) 6 9 S24) fun r19 S25 => if (b2i r19) = 0 then (fX9_layOwners_134 N k43 k52 0 x2 x1 x3 S25) else (ck y18 64 (fX9_layOwners_134 N k43 k52 (1 <<< (((S25.2.2.1 1 (Int32.toNatClampNeg y18)) - 6) &&& 31)) x2 x1 x3 S25))))))))
def fX9_layOwners_52 (N : Nat) (k43 : Int32 → St → Option (Unit × St)) : Nat → Int32 → Int32 → Int32 → St → Option (Unit × St)
  | 0 => fun _ _ _ _ => none
  | n + 1 => fun x1 x2 x3 S => fX9_layOwners_52b N k43 (fX9_layOwners_52 N k43 n) x1 x2 x3 S
set_option maxRecDepth 20000 in
theorem vX9_layOwners_52b {p : Program} {l : Launch} {e : Env} {s : State} {m : MethodId} {args : Array Value} {below : List Frame} {meth : Method} {c : Code} {Q : State → Prop} {D : va_G} {ad : Nat → Nat} {cA : Nat → ClassId} (C : Ok p s m args c D cA (mW ad cA) (mA ad) mS RX9 cX9_layOwners 5) (hr : Rt meth none) {r : Unit × St} (hQ : Q = MQ below (Qo D (mW ad cA) (mA ad) (none) r.2) args s 0 0 (mA ad)) {N : Nat} {k43 : Int32 → St → Option (Unit × St)} (hk43 : ∀ (x1 : Int32) (S : St), k43 x1 S = some r → V p l e rmX9_layOwners s m args below meth c Q D (mW ad cA) (mA ad) 5 S 43 [(0, .ref (ad 0)), (1, .int x1)] []) {k52 : Int32 → Int32 → Int32 → St → Option (Unit × St)} (hk52 : ∀ (x1 : Int32) (x2 : Int32) (x3 : Int32) (S : St), k52 x1 x2 x3 S = some r → V p l e rmX9_layOwners s m args below meth c Q D (mW ad cA) (mA ad) 5 S 52 [(0, .ref (ad 0)), (1, .int x1), (2, .int x2), (3, .int x3)] []) {x1 : Int32} {x2 : Int32} {x3 : Int32}  {S : St} (hm : fX9_layOwners_52b N k43 k52 x1 x2 x3 S = some r) : V p l e rmX9_layOwners s m args below meth c Q D (mW ad cA) (mA ad) 5 S 52 [(0, .ref (ad 0)), (1, .int x1), (2, .int x2), (3, .int x3)] [] := by
  unfold fX9_layOwners_52b at hm
  refine v_iload_n C (pc := 52) 3 dX9_layOwners_52 rfl rfl ?_
  refine v_aload_n C (pc := 53) 0 dX9_layOwners_53 rfl rfl ?_
  refine gX9_16 C (pc := 54) dX9_layOwners_54 ?_
  refine v_iload_n C (pc := 57) 1 dX9_layOwners_57 rfl rfl ?_
  refine ldX9_cells C (pc := 58) hm dX9_layOwners_58 (fun hm => ?_)
  refine v_icmp_ge C (pc := 59) hm 142 dX9_layOwners_59 rfl (fun hm => ?_) (fun hm => ?_)
  · refine v_iconst C (pc := 142) 0 dX9_layOwners_142 rfl ?_
    refine v_istore_n C (pc := 143) [(3, .int 0), (0, .ref (ad 0)), (1, .int x1), (2, .int x2)] dX9_layOwners_143 rfl (by decide) rfl ?_
    exact v_sub [1, 2, 3, 0] rfl (vX9_layOwners_144 C hr hQ (N := N) hk43 N _ _ _ _ hm)
  · refine v_bipush C (pc := 62) 8 dX9_layOwners_62 rfl ?_
    refine v_aload_n C (pc := 64) 0 dX9_layOwners_64 rfl rfl ?_
    refine v_iload_n C (pc := 65) 1 dX9_layOwners_65 rfl rfl ?_
    refine v_iload_n C (pc := 66) 3 dX9_layOwners_66 rfl rfl ?_
    refine v_aload_n C (pc := 67) 0 dX9_layOwners_67 rfl rfl ?_
    refine gX9_37 C (pc := 68) dX9_layOwners_68 ?_
    refine v_iload_n C (pc := 71) 1 dX9_layOwners_71 rfl rfl ?_
    refine ldX9_placeOf C (pc := 72) hm dX9_layOwners_72 (fun hm => ?_)
    refine kX9_161 C (Nat.le_of_ble_eq_true rfl) (Nat.le_of_ble_eq_true rfl) (pc := 73) hm (Nat.le_of_ble_eq_true rfl) dX9_layOwners_73 (fun r16 S22 hm => ?_)
    refine v_imul C (pc := 76) dX9_layOwners_76 ?_
    refine v_aload_n C (pc := 77) 0 dX9_layOwners_77 rfl rfl ?_
    refine v_iload_n C (pc := 78) 1 dX9_layOwners_78 rfl rfl ?_
    refine v_iload_n C (pc := 79) 3 dX9_layOwners_79 rfl rfl ?_
    refine v_aload_n C (pc := 80) 0 dX9_layOwners_80 rfl rfl ?_
    refine gX9_37 C (pc := 81) dX9_layOwners_81 ?_
    refine v_iload_n C (pc := 84) 1 dX9_layOwners_84 rfl rfl ?_
    refine ldX9_placeOf C (pc := 85) hm dX9_layOwners_85 (fun hm => ?_)
    refine kX9_164 C (Nat.le_of_ble_eq_true rfl) (Nat.le_of_ble_eq_true rfl) (pc := 86) hm (Nat.le_of_ble_eq_true rfl) dX9_layOwners_86 (fun r17 S23 hm => ?_)
    refine v_iadd C (pc := 89) dX9_layOwners_89 ?_
    refine v_istoreN C (pc := 90) [(0, .ref (ad 0)), (1, .int x1), (2, .int x2), (3, .int x3)] hm dX9_layOwners_90 (by decide) rfl (fun y18 hm => ?_)
    refine v_aload_n C (pc := 92) 1 dX9_layOwners_92 rfl rfl ?_
    refine gX9_65 C (pc := 93) dX9_layOwners_93 ?_
    refine v_iload C (pc := 96) 0 dX9_layOwners_96 rfl ?_
    refine v_iload_n C (pc := 98) 2 dX9_layOwners_98 rfl rfl ?_
    refine stX9_ownerOf C (pc := 99) hm dX9_layOwners_99 (fun S24 hm => ?_)
    refine v_iload_n C (pc := 100) 3 dX9_layOwners_100 rfl rfl ?_
    refine v_aload_n C (pc := 101) 1 dX9_layOwners_101 rfl rfl ?_
    refine gX9_13 C (pc := 102) dX9_layOwners_102 ?_
    refine v_iload C (pc := 105) 0 dX9_layOwners_105 rfl ?_
    refine ldX9_kindOf C (pc := 107) hm dX9_layOwners_107 (fun hm => ?_)
    refine v_bipush C (pc := 108) 6 dX9_layOwners_108 rfl ?_
    refine v_bipush C (pc := 110) 9 dX9_layOwners_110 rfl ?_
    refine kX9_119 C (Nat.le_of_ble_eq_true rfl) (Nat.le_of_ble_eq_true rfl) (pc := 112) hm (Nat.le_of_ble_eq_true rfl) dX9_layOwners_112 (fun r19 S25 hm => ?_)
    refine v_if_eq C (pc := 115) hm 133 dX9_layOwners_115 rfl (fun hm => ?_) (fun hm => ?_)
    · refine v_iconst C (pc := 133) 0 dX9_layOwners_133 rfl ?_
      exact v_sub [1, 2, 4] rfl (vX9_layOwners_134 C hr hQ (N := N) hk43 hk52 hm)
    · refine v_iconst C (pc := 118) 1 dX9_layOwners_118 rfl ?_
      refine v_aload_n C (pc := 119) 1 dX9_layOwners_119 rfl rfl ?_
      refine gX9_13 C (pc := 120) dX9_layOwners_120 ?_
      refine v_iload C (pc := 123) 0 dX9_layOwners_123 rfl ?_
      refine ldX9_kindOf C (pc := 125) hm dX9_layOwners_125 (fun hm => ?_)
      refine v_bipush C (pc := 126) 6 dX9_layOwners_126 rfl ?_
      refine v_isub C (pc := 128) dX9_layOwners_128 ?_
      refine v_ishl C (pc := 129) dX9_layOwners_129 ?_
      refine v_goto C (pc := 130) 134 dX9_layOwners_130 rfl ?_
      exact v_sub [1, 2, 4] rfl (vX9_layOwners_134 C hr hQ (N := N) hk43 hk52 hm)
theorem vX9_layOwners_52 {p : Program} {l : Launch} {e : Env} {s : State} {m : MethodId} {args : Array Value} {below : List Frame} {meth : Method} {c : Code} {Q : State → Prop} {D : va_G} {ad : Nat → Nat} {cA : Nat → ClassId} (C : Ok p s m args c D cA (mW ad cA) (mA ad) mS RX9 cX9_layOwners 5) (hr : Rt meth none) {r : Unit × St} (hQ : Q = MQ below (Qo D (mW ad cA) (mA ad) (none) r.2) args s 0 0 (mA ad)) {N : Nat} {k43 : Int32 → St → Option (Unit × St)} (hk43 : ∀ (x1 : Int32) (S : St), k43 x1 S = some r → V p l e rmX9_layOwners s m args below meth c Q D (mW ad cA) (mA ad) 5 S 43 [(0, .ref (ad 0)), (1, .int x1)] []) (n : Nat) : ∀ (x1 : Int32) (x2 : Int32) (x3 : Int32) (S : St), fX9_layOwners_52 N k43 n x1 x2 x3 S = some r → V p l e rmX9_layOwners s m args below meth c Q D (mW ad cA) (mA ad) 5 S 52 [(0, .ref (ad 0)), (1, .int x1), (2, .int x2), (3, .int x3)] [] := by
  induction n with
  | zero => intro _ _ _ _  hm; exact absurd hm (by intro h; cases h)
  | succ n ih => intro _ _ _ _  hm; exact vX9_layOwners_52b C hr hQ (N := N)  hk43 ih  hm
def fX9_layOwners_43b (N : Nat)  (k43 : Int32 → St → Option (Unit × St)) (x1 : Int32) (S : St) : Option (Unit × St) := if 5 ≤ x1 then (some ((), S)) else (fX9_layOwners_52 N k43 N x1 0 0 S)
def fX9_layOwners_43 (N : Nat)  : Nat → Int32 → St → Option (Unit × St)
  | 0 => fun _ _ => none
  | n + 1 => fun x1 S => fX9_layOwners_43b N  (fX9_layOwners_43 N  n) x1 S
set_option maxRecDepth 20000 in
theorem vX9_layOwners_43b {p : Program} {l : Launch} {e : Env} {s : State} {m : MethodId} {args : Array Value} {below : List Frame} {meth : Method} {c : Code} {Q : State → Prop} {D : va_G} {ad : Nat → Nat} {cA : Nat → ClassId} (C : Ok p s m args c D cA (mW ad cA) (mA ad) mS RX9 cX9_layOwners 5) (hr : Rt meth none) {r : Unit × St} (hQ : Q = MQ below (Qo D (mW ad cA) (mA ad) (none) r.2) args s 0 0 (mA ad)) {N : Nat}  {k43 : Int32 → St → Option (Unit × St)} (hk43 : ∀ (x1 : Int32) (S : St), k43 x1 S = some r → V p l e rmX9_layOwners s m args below meth c Q D (mW ad cA) (mA ad) 5 S 43 [(0, .ref (ad 0)), (1, .int x1)] []) {x1 : Int32}  {S : St} (hm : fX9_layOwners_43b N  k43 x1 S = some r) : V p l e rmX9_layOwners s m args below meth c Q D (mW ad cA) (mA ad) 5 S 43 [(0, .ref (ad 0)), (1, .int x1)] [] := by
  unfold fX9_layOwners_43b at hm
  refine v_iload_n C (pc := 43) 1 dX9_layOwners_43 rfl rfl ?_
  refine v_iconst C (pc := 44) 5 dX9_layOwners_44 rfl ?_
  refine v_icmp_ge C (pc := 45) hm 182 dX9_layOwners_45 rfl (fun hm => ?_) (fun hm => ?_)
  · exact v_vret C hr hQ (x := ()) (pc := 182) hm dX9_layOwners_182
  · refine v_iconst C (pc := 48) 0 dX9_layOwners_48 rfl ?_
    refine v_istore_n C (pc := 49) [(2, .int 0), (0, .ref (ad 0)), (1, .int x1)] dX9_layOwners_49 rfl (by decide) rfl ?_
    refine v_iconst C (pc := 50) 0 dX9_layOwners_50 rfl ?_
    refine v_istore_n C (pc := 51) [(3, .int 0), (2, .int 0), (0, .ref (ad 0)), (1, .int x1)] dX9_layOwners_51 rfl (by decide) rfl ?_
    exact v_sub [2, 3, 1, 0] rfl (vX9_layOwners_52 C hr hQ (N := N) hk43 N _ _ _ _ hm)
theorem vX9_layOwners_43 {p : Program} {l : Launch} {e : Env} {s : State} {m : MethodId} {args : Array Value} {below : List Frame} {meth : Method} {c : Code} {Q : State → Prop} {D : va_G} {ad : Nat → Nat} {cA : Nat → ClassId} (C : Ok p s m args c D cA (mW ad cA) (mA ad) mS RX9 cX9_layOwners 5) (hr : Rt meth none) {r : Unit × St} (hQ : Q = MQ below (Qo D (mW ad cA) (mA ad) (none) r.2) args s 0 0 (mA ad)) {N : Nat}  (n : Nat) : ∀ (x1 : Int32) (S : St), fX9_layOwners_43 N  n x1 S = some r → V p l e rmX9_layOwners s m args below meth c Q D (mW ad cA) (mA ad) 5 S 43 [(0, .ref (ad 0)), (1, .int x1)] [] := by
  induction n with
  | zero => intro _ _  hm; exact absurd hm (by intro h; cases h)
  | succ n ih => intro _ _  hm; exact vX9_layOwners_43b C hr hQ (N := N)   ih  hm
def fX9_layOwners_23b (N : Nat)  (k23 : Int32 → St → Option (Unit × St)) (x1 : Int32) (S : St) : Option (Unit × St) := if 4 ≤ x1 then (fX9_layOwners_43 N N 0 S) else (ck x1 4 (stp (sA S 19 (Int32.toNatClampNeg x1) 0) fun S21 => k23 (x1 + 1) S21))
def fX9_layOwners_23 (N : Nat)  : Nat → Int32 → St → Option (Unit × St)
  | 0 => fun _ _ => none
  | n + 1 => fun x1 S => fX9_layOwners_23b N  (fX9_layOwners_23 N  n) x1 S
set_option maxRecDepth 20000 in
theorem vX9_layOwners_23b {p : Program} {l : Launch} {e : Env} {s : State} {m : MethodId} {args : Array Value} {below : List Frame} {meth : Method} {c : Code} {Q : State → Prop} {D : va_G} {ad : Nat → Nat} {cA : Nat → ClassId} (C : Ok p s m args c D cA (mW ad cA) (mA ad) mS RX9 cX9_layOwners 5) (hr : Rt meth none) {r : Unit × St} (hQ : Q = MQ below (Qo D (mW ad cA) (mA ad) (none) r.2) args s 0 0 (mA ad)) {N : Nat}  {k23 : Int32 → St → Option (Unit × St)} (hk23 : ∀ (x1 : Int32) (S : St), k23 x1 S = some r → V p l e rmX9_layOwners s m args below meth c Q D (mW ad cA) (mA ad) 5 S 23 [(0, .ref (ad 0)), (1, .int x1)] []) {x1 : Int32}  {S : St} (hm : fX9_layOwners_23b N  k23 x1 S = some r) : V p l e rmX9_layOwners s m args below meth c Q D (mW ad cA) (mA ad) 5 S 23 [(0, .ref (ad 0)), (1, .int x1)] [] := by
  unfold fX9_layOwners_23b at hm
  refine v_iload_n C (pc := 23) 1 dX9_layOwners_23 rfl rfl ?_
  refine v_iconst C (pc := 24) 4 dX9_layOwners_24 rfl ?_
  refine v_icmp_ge C (pc := 25) hm 41 dX9_layOwners_25 rfl (fun hm => ?_) (fun hm => ?_)
  · refine v_iconst C (pc := 41) 0 dX9_layOwners_41 rfl ?_
    refine v_istore_n C (pc := 42) [(1, .int 0), (0, .ref (ad 0))] dX9_layOwners_42 rfl (by decide) rfl ?_
    exact v_sub [1, 0] rfl (vX9_layOwners_43 C hr hQ (N := N) N _ _ hm)
  · refine v_aload_n C (pc := 28) 0 dX9_layOwners_28 rfl rfl ?_
    refine gX9_68 C (pc := 29) dX9_layOwners_29 ?_
    refine v_iload_n C (pc := 32) 1 dX9_layOwners_32 rfl rfl ?_
    refine v_iconst C (pc := 33) 0 dX9_layOwners_33 rfl ?_
    refine stX9_loadOf C (pc := 34) hm dX9_layOwners_34 (fun S21 hm => ?_)
    refine v_iinc C (pc := 35) 1 1 [(1, .int (x1 + 1)), (0, .ref (ad 0))] dX9_layOwners_35 rfl rfl (by decide) rfl ?_
    refine v_goto C (pc := 38) 23 dX9_layOwners_38 rfl ?_
    exact v_sub [1, 0] rfl (hk23 _ _ hm)
theorem vX9_layOwners_23 {p : Program} {l : Launch} {e : Env} {s : State} {m : MethodId} {args : Array Value} {below : List Frame} {meth : Method} {c : Code} {Q : State → Prop} {D : va_G} {ad : Nat → Nat} {cA : Nat → ClassId} (C : Ok p s m args c D cA (mW ad cA) (mA ad) mS RX9 cX9_layOwners 5) (hr : Rt meth none) {r : Unit × St} (hQ : Q = MQ below (Qo D (mW ad cA) (mA ad) (none) r.2) args s 0 0 (mA ad)) {N : Nat}  (n : Nat) : ∀ (x1 : Int32) (S : St), fX9_layOwners_23 N  n x1 S = some r → V p l e rmX9_layOwners s m args below meth c Q D (mW ad cA) (mA ad) 5 S 23 [(0, .ref (ad 0)), (1, .int x1)] [] := by
  induction n with
  | zero => intro _ _  hm; exact absurd hm (by intro h; cases h)
  | succ n ih => intro _ _  hm; exact vX9_layOwners_23b C hr hQ (N := N)   ih  hm
def fX9_layOwners_2b (N : Nat)  (k2 : Int32 → St → Option (Unit × St)) (x1 : Int32) (S : St) : Option (Unit × St) := if 64 ≤ x1 then (fX9_layOwners_23 N N 0 S) else (ck x1 64 (stp (sA S 18 (Int32.toNatClampNeg x1) (-1)) fun S20 => k2 (x1 + 1) S20))
def fX9_layOwners_2 (N : Nat)  : Nat → Int32 → St → Option (Unit × St)
  | 0 => fun _ _ => none
  | n + 1 => fun x1 S => fX9_layOwners_2b N  (fX9_layOwners_2 N  n) x1 S
set_option maxRecDepth 20000 in
theorem vX9_layOwners_2b {p : Program} {l : Launch} {e : Env} {s : State} {m : MethodId} {args : Array Value} {below : List Frame} {meth : Method} {c : Code} {Q : State → Prop} {D : va_G} {ad : Nat → Nat} {cA : Nat → ClassId} (C : Ok p s m args c D cA (mW ad cA) (mA ad) mS RX9 cX9_layOwners 5) (hr : Rt meth none) {r : Unit × St} (hQ : Q = MQ below (Qo D (mW ad cA) (mA ad) (none) r.2) args s 0 0 (mA ad)) {N : Nat}  {k2 : Int32 → St → Option (Unit × St)} (hk2 : ∀ (x1 : Int32) (S : St), k2 x1 S = some r → V p l e rmX9_layOwners s m args below meth c Q D (mW ad cA) (mA ad) 5 S 2 [(0, .ref (ad 0)), (1, .int x1)] []) {x1 : Int32}  {S : St} (hm : fX9_layOwners_2b N  k2 x1 S = some r) : V p l e rmX9_layOwners s m args below meth c Q D (mW ad cA) (mA ad) 5 S 2 [(0, .ref (ad 0)), (1, .int x1)] [] := by
  unfold fX9_layOwners_2b at hm
  refine v_iload_n C (pc := 2) 1 dX9_layOwners_2 rfl rfl ?_
  refine v_bipush C (pc := 3) 64 dX9_layOwners_3 rfl ?_
  refine v_icmp_ge C (pc := 5) hm 21 dX9_layOwners_5 rfl (fun hm => ?_) (fun hm => ?_)
  · refine v_iconst C (pc := 21) 0 dX9_layOwners_21 rfl ?_
    refine v_istore_n C (pc := 22) [(1, .int 0), (0, .ref (ad 0))] dX9_layOwners_22 rfl (by decide) rfl ?_
    exact v_sub [1, 0] rfl (vX9_layOwners_23 C hr hQ (N := N) N _ _ hm)
  · refine v_aload_n C (pc := 8) 0 dX9_layOwners_8 rfl rfl ?_
    refine gX9_65 C (pc := 9) dX9_layOwners_9 ?_
    refine v_iload_n C (pc := 12) 1 dX9_layOwners_12 rfl rfl ?_
    refine v_iconst C (pc := 13) (-1) dX9_layOwners_13 rfl ?_
    refine stX9_ownerOf C (pc := 14) hm dX9_layOwners_14 (fun S20 hm => ?_)
    refine v_iinc C (pc := 15) 1 1 [(1, .int (x1 + 1)), (0, .ref (ad 0))] dX9_layOwners_15 rfl rfl (by decide) rfl ?_
    refine v_goto C (pc := 18) 2 dX9_layOwners_18 rfl ?_
    exact v_sub [1, 0] rfl (hk2 _ _ hm)
theorem vX9_layOwners_2 {p : Program} {l : Launch} {e : Env} {s : State} {m : MethodId} {args : Array Value} {below : List Frame} {meth : Method} {c : Code} {Q : State → Prop} {D : va_G} {ad : Nat → Nat} {cA : Nat → ClassId} (C : Ok p s m args c D cA (mW ad cA) (mA ad) mS RX9 cX9_layOwners 5) (hr : Rt meth none) {r : Unit × St} (hQ : Q = MQ below (Qo D (mW ad cA) (mA ad) (none) r.2) args s 0 0 (mA ad)) {N : Nat}  (n : Nat) : ∀ (x1 : Int32) (S : St), fX9_layOwners_2 N  n x1 S = some r → V p l e rmX9_layOwners s m args below meth c Q D (mW ad cA) (mA ad) 5 S 2 [(0, .ref (ad 0)), (1, .int x1)] [] := by
  induction n with
  | zero => intro _ _  hm; exact absurd hm (by intro h; cases h)
  | succ n ih => intro _ _  hm; exact vX9_layOwners_2b C hr hQ (N := N)   ih  hm
def fX9_layOwners (N : Nat)  (S : St) : Option (Unit × St) := fX9_layOwners_2 N N 0 S
set_option maxRecDepth 20000 in
theorem vX9_layOwners {p : Program} {l : Launch} {e : Env} {s : State} {m : MethodId} {args : Array Value} {below : List Frame} {meth : Method} {c : Code} {Q : State → Prop} {D : va_G} {ad : Nat → Nat} {cA : Nat → ClassId} (C : Ok p s m args c D cA (mW ad cA) (mA ad) mS RX9 cX9_layOwners 5) (hr : Rt meth none) {r : Unit × St} (hQ : Q = MQ below (Qo D (mW ad cA) (mA ad) (none) r.2) args s 0 0 (mA ad)) {N : Nat}  {S : St} (hm : fX9_layOwners N  S = some r) : V p l e rmX9_layOwners s m args below meth c Q D (mW ad cA) (mA ad) 5 S 0 [(0, .ref (ad 0))] [] := by
  unfold fX9_layOwners at hm
  refine v_iconst C (pc := 0) 0 dX9_layOwners_0 rfl ?_
  refine v_istore_n C (pc := 1) [(1, .int 0), (0, .ref (ad 0))] dX9_layOwners_1 rfl (by decide) rfl ?_
  exact v_sub [1, 0] rfl (vX9_layOwners_2 C hr hQ (N := N) N _ _ hm)
theorem mX9_layOwners {l : Launch} {D : va_G} {ad : Nat → Nat} {cA : Nat → ClassId} (hD : ∀ S, va_D (mA ad) (mW ad cA S)) {N : Nat}  {S : St} {r : Unit × St} (hm : fX9_layOwners N  S = some r) : Met l yX9_layOwners (wsm yX9_layOwners cX9_layOwners 5 none) rmX9_layOwners (va_Pc [.ref (ad 0)] (Pre D cA (mW ad cA) mS S)) (Qo D (mW ad cA) (mA ad) (none) r.2) 0 0 (mA ad) := met_of [.ref (ad 0)] (by decide) (Nat.le_of_ble_eq_true rfl) hD (fun _ _ _ _ h => h) (fun _ _ _ _ h => h) (fun p e s m below meth c C hr => vX9_layOwners C hr rfl (N := N)  hm)
-- X9_isPassable
theorem infX9_isInYard : InfV yX9_isInYard cX9_isInYard 3 (some .boolean) 2 := ⟨⟨gm (i := 65) (by decide +kernel) rfl, gm (i := 1015) (by decide +kernel) rfl, by decide +kernel⟩, gm (i := 1014) (by decide +kernel) rfl, gm (i := 27) (by decide +kernel) rfl⟩
theorem kX9_167 {p : Program} {l : Launch} {e : Env} {R : Room} {s : State} {m : MethodId} {args : Array Value} {below : List Frame} {meth : Method} {c : Code} {Q : State → Prop} {D : va_G} {ad : Nat → Nat} {cA : Nat → ClassId} {cc : ByteArray} {nL : Nat} {S : St} {pc : Nat} {lv : List (Nat × Value)} {st : List Value} {ρ : Type} {res : ρ} (C : Ok p s m args c D cA (mW ad cA) (mA ad) mS RX9 cc nL) (hfr : rmX9_isInYard.frames + 1 ≤ R.frames) (hlo : 8 + (3 + 11) + rmX9_isInYard.locals ≤ R.locals) {N : Nat} {p1 : Int32} {p2 : Int32} {E : Bool → St → Option ρ} (hm : bd (fX9_isInYard N p1 p2 S) E = some res) (hcat : (st.map fun v => v.category).sum ≤ 8) (hd : decode cc pc = .ok (.invokevirtual 167, 3)) (k : ∀ r S, E r S = some res → V p l e R s m args below meth c Q D (mW ad cA) (mA ad) nL S (pc + 3) lv (.int (b2i r) :: st)) : V p l e R s m args below meth c Q D (mW ad cA) (mA ad) nL S pc lv (.int p2 :: .int p1 :: .ref (ad 0) :: st) := by
  obtain ⟨r, S1, h1, h2⟩ := bd_some hm
  exact v_callV C (gm (i := 1012) (by decide +kernel) rfl : Cond.methodLink RX9 167 yX9_isInYard ∈ gw_tbl) infX9_isInYard (rm2 := rmX9_isInYard) ⟨rfl, rfl⟩ hfr hlo (mX9_isInYard C.2.2.2.2.2.2.1 h1) (As := [.int p1, .int p2]) (oX9 ad cA S) rfl rfl rfl rfl hcat hd (k r S1 h2)
theorem infX9_kindAt : InfV yX9_kindAt cX9_kindAt 3 (some .int) 2 := ⟨⟨gm (i := 65) (by decide +kernel) rfl, gm (i := 1027) (by decide +kernel) rfl, by decide +kernel⟩, gm (i := 1026) (by decide +kernel) rfl, gm (i := 30) (by decide +kernel) rfl⟩
theorem kX9_171 {p : Program} {l : Launch} {e : Env} {R : Room} {s : State} {m : MethodId} {args : Array Value} {below : List Frame} {meth : Method} {c : Code} {Q : State → Prop} {D : va_G} {ad : Nat → Nat} {cA : Nat → ClassId} {cc : ByteArray} {nL : Nat} {S : St} {pc : Nat} {lv : List (Nat × Value)} {st : List Value} {ρ : Type} {res : ρ} (C : Ok p s m args c D cA (mW ad cA) (mA ad) mS RX9 cc nL) (hfr : rmX9_kindAt.frames + 1 ≤ R.frames) (hlo : 8 + (3 + 11) + rmX9_kindAt.locals ≤ R.locals) {N : Nat} {p1 : Int32} {p2 : Int32} {E : Int32 → St → Option ρ} (hm : bd (fX9_kindAt N p1 p2 S) E = some res) (hcat : (st.map fun v => v.category).sum ≤ 8) (hd : decode cc pc = .ok (.invokevirtual 171, 3)) (k : ∀ r S, E r S = some res → V p l e R s m args below meth c Q D (mW ad cA) (mA ad) nL S (pc + 3) lv (.int r :: st)) : V p l e R s m args below meth c Q D (mW ad cA) (mA ad) nL S pc lv (.int p2 :: .int p1 :: .ref (ad 0) :: st) := by
  obtain ⟨r, S1, h1, h2⟩ := bd_some hm
  exact v_callV C (gm (i := 1024) (by decide +kernel) rfl : Cond.methodLink RX9 171 yX9_kindAt ∈ gw_tbl) infX9_kindAt (rm2 := rmX9_kindAt) ⟨rfl, rfl⟩ hfr hlo (mX9_kindAt C.2.2.2.2.2.2.1 h1) (As := [.int p1, .int p2]) (oX9 ad cA S) rfl rfl rfl rfl hcat hd (k r S1 h2)
def rmX9_isPassable : Room := { frames := 2, cells := 0, slots := 0, locals := 44 }
def fX9_isPassable_19 (N : Nat)   (S : St) : Option (Bool × St) := some (false, S)
set_option maxRecDepth 20000 in
theorem vX9_isPassable_19 {p : Program} {l : Launch} {e : Env} {s : State} {m : MethodId} {args : Array Value} {below : List Frame} {meth : Method} {c : Code} {Q : State → Prop} {D : va_G} {ad : Nat → Nat} {cA : Nat → ClassId} (C : Ok p s m args c D cA (mW ad cA) (mA ad) mS RX9 cX9_isPassable 5) (hr : Rt meth (some .boolean)) {r : Bool × St} (hQ : Q = MQ below (Qo D (mW ad cA) (mA ad) (some (.int (b2i r.1))) r.2) args s 0 0 (mA ad)) {N : Nat}    {S : St} (hm : fX9_isPassable_19 N   S = some r) : V p l e rmX9_isPassable s m args below meth c Q D (mW ad cA) (mA ad) 5 S 19 [] [] := by
  unfold fX9_isPassable_19 at hm
  refine v_iconst C (pc := 19) 0 dX9_isPassable_19 rfl ?_
  exact v_zret C hr hQ (x := false) (pc := 20) hm dX9_isPassable_20
def fX9_isPassable_74 (N : Nat)  (s0 : Bool) (S : St) : Option (Bool × St) := some (s0, S)
set_option maxRecDepth 20000 in
theorem vX9_isPassable_74 {p : Program} {l : Launch} {e : Env} {s : State} {m : MethodId} {args : Array Value} {below : List Frame} {meth : Method} {c : Code} {Q : State → Prop} {D : va_G} {ad : Nat → Nat} {cA : Nat → ClassId} (C : Ok p s m args c D cA (mW ad cA) (mA ad) mS RX9 cX9_isPassable 5) (hr : Rt meth (some .boolean)) {r : Bool × St} (hQ : Q = MQ below (Qo D (mW ad cA) (mA ad) (some (.int (b2i r.1))) r.2) args s 0 0 (mA ad)) {N : Nat}  {s0 : Bool}  {S : St} (hm : fX9_isPassable_74 N  s0 S = some r) : V p l e rmX9_isPassable s m args below meth c Q D (mW ad cA) (mA ad) 5 S 74 [] [.int (b2i s0)] := by
  unfold fX9_isPassable_74 at hm
  exact v_zret C hr hQ (x := s0) (pc := 74) hm dX9_isPassable_74
def fX9_isPassable_69 (N : Nat)   (S : St) : Option (Bool × St) := fX9_isPassable_74 N true S
set_option maxRecDepth 20000 in
theorem vX9_isPassable_69 {p : Program} {l : Launch} {e : Env} {s : State} {m : MethodId} {args : Array Value} {below : List Frame} {meth : Method} {c : Code} {Q : State → Prop} {D : va_G} {ad : Nat → Nat} {cA : Nat → ClassId} (C : Ok p s m args c D cA (mW ad cA) (mA ad) mS RX9 cX9_isPassable 5) (hr : Rt meth (some .boolean)) {r : Bool × St} (hQ : Q = MQ below (Qo D (mW ad cA) (mA ad) (some (.int (b2i r.1))) r.2) args s 0 0 (mA ad)) {N : Nat}    {S : St} (hm : fX9_isPassable_69 N   S = some r) : V p l e rmX9_isPassable s m args below meth c Q D (mW ad cA) (mA ad) 5 S 69 [] [] := by
  unfold fX9_isPassable_69 at hm
  refine v_iconst C (pc := 69) 1 dX9_isPassable_69 rfl ?_
  refine v_goto C (pc := 70) 74 dX9_isPassable_70 rfl ?_
  exact (vX9_isPassable_74 C hr hQ (N := N) hm)
def fX9_isPassable (N : Nat) (p1 : Int32) (p2 : Int32) (p3 : Int32) (S : St) : Option (Bool × St) := bd (fX9_isInYard N p2 p3 S) fun r5 S4 => if (b2i r5) = 0 then (fX9_isPassable_19 N S4) else (bd (fX9_kindAt N p2 p3 S4) fun r6 S5 => if r6 = 1 then (fX9_isPassable_19 N S5) else (bd (fX9_kindAt N p2 p3 S5) fun r7 S6 => nm (r7 - 10) fun y8 => if y8 < 0 then (fX9_isPassable_69 N S6) else (ck y8 4 (ck y8 4 (if (S6.2.2.1 0 (Int32.toNatClampNeg y8)) ≤ (S6.2.2.1 19 (Int32.toNatClampNeg y8)) then (fX9_isPassable_69 N S6) else (ck ((8 * p3) + p2) 64 (if (S6.2.2.1 18 (Int32.toNatClampNeg ((8 * p3) + p2))) = p1 then (fX9_isPassable_69 N S6) else (fX9_isPassable_74 N false S6))))))))
set_option maxRecDepth 20000 in
theorem vX9_isPassable {p : Program} {l : Launch} {e : Env} {s : State} {m : MethodId} {args : Array Value} {below : List Frame} {meth : Method} {c : Code} {Q : State → Prop} {D : va_G} {ad : Nat → Nat} {cA : Nat → ClassId} (C : Ok p s m args c D cA (mW ad cA) (mA ad) mS RX9 cX9_isPassable 5) (hr : Rt meth (some .boolean)) {r : Bool × St} (hQ : Q = MQ below (Qo D (mW ad cA) (mA ad) (some (.int (b2i r.1))) r.2) args s 0 0 (mA ad)) {N : Nat} {p1 : Int32} {p2 : Int32} {p3 : Int32} {S : St} (hm : fX9_isPassable N p1 p2 p3 S = some r) : V p l e rmX9_isPassable s m args below meth c Q D (mW ad cA) (mA ad) 5 S 0 [(0, .ref (ad 0)), (1, .int p1), (2, .int p2), (3, .int p3)] [] := by
  unfold fX9_isPassable at hm
  refine v_aload_n C (pc := 0) 0 dX9_isPassable_0 rfl rfl ?_
  refine v_iload_n C (pc := 1) 2 dX9_isPassable_1 rfl rfl ?_
  refine v_iload_n C (pc := 2) 3 dX9_isPassable_2 rfl rfl ?_
  refine kX9_167 C (Nat.le_of_ble_eq_true rfl) (Nat.le_of_ble_eq_true rfl) (pc := 3) hm (Nat.le_of_ble_eq_true rfl) dX9_isPassable_3 (fun r5 S4 hm => ?_)
  refine v_if_eq C (pc := 6) hm 19 dX9_isPassable_6 rfl (fun hm => ?_) (fun hm => ?_)
  · exact v_sub [] rfl (vX9_isPassable_19 C hr hQ (N := N) hm)
  · refine v_aload_n C (pc := 9) 0 dX9_isPassable_9 rfl rfl ?_
    refine v_iload_n C (pc := 10) 2 dX9_isPassable_10 rfl rfl ?_
    refine v_iload_n C (pc := 11) 3 dX9_isPassable_11 rfl rfl ?_
    refine kX9_171 C (Nat.le_of_ble_eq_true rfl) (Nat.le_of_ble_eq_true rfl) (pc := 12) hm (Nat.le_of_ble_eq_true rfl) dX9_isPassable_12 (fun r6 S5 hm => ?_)
    refine v_iconst C (pc := 15) 1 dX9_isPassable_15 rfl ?_
    refine v_icmp_ne C (pc := 16) hm 21 dX9_isPassable_16 rfl (fun hm => ?_) (fun hm => ?_)
    · refine v_aload_n C (pc := 21) 0 dX9_isPassable_21 rfl rfl ?_
      refine v_iload_n C (pc := 22) 2 dX9_isPassable_22 rfl rfl ?_
      refine v_iload_n C (pc := 23) 3 dX9_isPassable_23 rfl rfl ?_
      refine kX9_171 C (Nat.le_of_ble_eq_true rfl) (Nat.le_of_ble_eq_true rfl) (pc := 24) hm (Nat.le_of_ble_eq_true rfl) dX9_isPassable_24 (fun r7 S6 hm => ?_)
      refine v_bipush C (pc := 27) 10 dX9_isPassable_27 rfl ?_
      refine v_isub C (pc := 29) dX9_isPassable_29 ?_
      refine v_istoreN C (pc := 30) [(0, .ref (ad 0)), (1, .int p1), (2, .int p2), (3, .int p3)] hm dX9_isPassable_30 (by decide) rfl (fun y8 hm => ?_)
      refine v_iload C (pc := 32) 0 dX9_isPassable_32 rfl ?_
      refine v_if_lt C (pc := 34) hm 69 dX9_isPassable_34 rfl (fun hm => ?_) (fun hm => ?_)
      · exact v_sub [] rfl (vX9_isPassable_69 C hr hQ (N := N) hm)
      · refine v_aload_n C (pc := 37) 1 dX9_isPassable_37 rfl rfl ?_
        refine gX9_68 C (pc := 38) dX9_isPassable_38 ?_
        refine v_iload C (pc := 41) 0 dX9_isPassable_41 rfl ?_
        refine ldX9_loadOf C (pc := 43) hm dX9_isPassable_43 (fun hm => ?_)
        refine v_aload_n C (pc := 44) 1 dX9_isPassable_44 rfl rfl ?_
        refine gX9_7 C (pc := 45) dX9_isPassable_45 ?_
        refine v_iload C (pc := 48) 0 dX9_isPassable_48 rfl ?_
        refine ldX9_threshold C (pc := 50) hm dX9_isPassable_50 (fun hm => ?_)
        refine v_icmp_ge C (pc := 51) hm 69 dX9_isPassable_51 rfl (fun hm => ?_) (fun hm => ?_)
        · exact v_sub [] rfl (vX9_isPassable_69 C hr hQ (N := N) hm)
        · refine v_aload_n C (pc := 54) 1 dX9_isPassable_54 rfl rfl ?_
          refine gX9_65 C (pc := 55) dX9_isPassable_55 ?_
          refine v_bipush C (pc := 58) 8 dX9_isPassable_58 rfl ?_
          refine v_iload_n C (pc := 60) 4 dX9_isPassable_60 rfl rfl ?_
          refine v_imul C (pc := 61) dX9_isPassable_61 ?_
          refine v_iload_n C (pc := 62) 3 dX9_isPassable_62 rfl rfl ?_
          refine v_iadd C (pc := 63) dX9_isPassable_63 ?_
          refine ldX9_ownerOf C (pc := 64) hm dX9_isPassable_64 (fun hm => ?_)
          refine v_iload_n C (pc := 65) 2 dX9_isPassable_65 rfl rfl ?_
          refine v_icmp_ne C (pc := 66) hm 73 dX9_isPassable_66 rfl (fun hm => ?_) (fun hm => ?_)
          · refine v_iconst C (pc := 73) 0 dX9_isPassable_73 rfl ?_
            exact v_sub [] rfl (vX9_isPassable_74 C hr hQ (N := N) hm)
          · exact v_sub [] rfl (vX9_isPassable_69 C hr hQ (N := N) hm)
    · exact v_sub [] rfl (vX9_isPassable_19 C hr hQ (N := N) hm)
theorem mX9_isPassable {l : Launch} {D : va_G} {ad : Nat → Nat} {cA : Nat → ClassId} (hD : ∀ S, va_D (mA ad) (mW ad cA S)) {N : Nat} {p1 : Int32} {p2 : Int32} {p3 : Int32} {S : St} {r : Bool × St} (hm : fX9_isPassable N p1 p2 p3 S = some r) : Met l yX9_isPassable (wsm yX9_isPassable cX9_isPassable 5 (some .boolean)) rmX9_isPassable (va_Pc [.ref (ad 0), .int p1, .int p2, .int p3] (Pre D cA (mW ad cA) mS S)) (Qo D (mW ad cA) (mA ad) (some (.int (b2i r.1))) r.2) 0 0 (mA ad) := met_of [.ref (ad 0), .int p1, .int p2, .int p3] (by decide) (Nat.le_of_ble_eq_true rfl) hD (fun _ _ _ _ h => h) (fun _ _ _ _ h => h) (fun p e s m below meth c C hr => vX9_isPassable C hr rfl (N := N)  hm)
-- X9_maySlide
theorem infX9_stepX : InfS yX9_stepX cX9_stepX 1 (some .int) 1 := ⟨⟨gm (i := 65) (by decide +kernel) rfl, gm (i := 1008) (by decide +kernel) rfl, by decide +kernel⟩, gm (i := 1007) (by decide +kernel) rfl⟩
theorem kX9_175 {p : Program} {l : Launch} {e : Env} {R : Room} {s : State} {m : MethodId} {args : Array Value} {below : List Frame} {meth : Method} {c : Code} {Q : State → Prop} {D : va_G} {ad : Nat → Nat} {cA : Nat → ClassId} {cc : ByteArray} {nL : Nat} {S : St} {pc : Nat} {lv : List (Nat × Value)} {st : List Value} {ρ : Type} {res : ρ} (C : Ok p s m args c D cA (mW ad cA) (mA ad) mS RX9 cc nL) (hfr : rmX9_stepX.frames + 1 ≤ R.frames) (hlo : 8 + (1 + 11) + rmX9_stepX.locals ≤ R.locals) {N : Nat} {p1 : Int32} {E : Int32 → St → Option ρ} (hm : bd (fX9_stepX N p1 S) E = some res) (hcat : (st.map fun v => v.category).sum ≤ 8) (hd : decode cc pc = .ok (.invokestatic 175, 3)) (k : ∀ r S, E r S = some res → V p l e R s m args below meth c Q D (mW ad cA) (mA ad) nL S (pc + 3) lv (.int r :: st)) : V p l e R s m args below meth c Q D (mW ad cA) (mA ad) nL S pc lv (.int p1 :: st) := by
  obtain ⟨r, S1, h1, h2⟩ := bd_some hm
  exact v_callS C (gm (i := 1006) (by decide +kernel) rfl : Cond.methodLink RX9 175 yX9_stepX ∈ gw_tbl) infX9_stepX (rm2 := rmX9_stepX) ⟨rfl, rfl⟩ hfr hlo (mX9_stepX C.2.2.2.2.2.2.1 h1) (As := [.int p1]) rfl rfl hcat hd (k r S1 h2)
theorem infX9_stepY : InfS yX9_stepY cX9_stepY 1 (some .int) 1 := ⟨⟨gm (i := 65) (by decide +kernel) rfl, gm (i := 1011) (by decide +kernel) rfl, by decide +kernel⟩, gm (i := 1010) (by decide +kernel) rfl⟩
theorem kX9_179 {p : Program} {l : Launch} {e : Env} {R : Room} {s : State} {m : MethodId} {args : Array Value} {below : List Frame} {meth : Method} {c : Code} {Q : State → Prop} {D : va_G} {ad : Nat → Nat} {cA : Nat → ClassId} {cc : ByteArray} {nL : Nat} {S : St} {pc : Nat} {lv : List (Nat × Value)} {st : List Value} {ρ : Type} {res : ρ} (C : Ok p s m args c D cA (mW ad cA) (mA ad) mS RX9 cc nL) (hfr : rmX9_stepY.frames + 1 ≤ R.frames) (hlo : 8 + (1 + 11) + rmX9_stepY.locals ≤ R.locals) {N : Nat} {p1 : Int32} {E : Int32 → St → Option ρ} (hm : bd (fX9_stepY N p1 S) E = some res) (hcat : (st.map fun v => v.category).sum ≤ 8) (hd : decode cc pc = .ok (.invokestatic 179, 3)) (k : ∀ r S, E r S = some res → V p l e R s m args below meth c Q D (mW ad cA) (mA ad) nL S (pc + 3) lv (.int r :: st)) : V p l e R s m args below meth c Q D (mW ad cA) (mA ad) nL S pc lv (.int p1 :: st) := by
  obtain ⟨r, S1, h1, h2⟩ := bd_some hm
  exact v_callS C (gm (i := 1009) (by decide +kernel) rfl : Cond.methodLink RX9 179 yX9_stepY ∈ gw_tbl) infX9_stepY (rm2 := rmX9_stepY) ⟨rfl, rfl⟩ hfr hlo (mX9_stepY C.2.2.2.2.2.2.1 h1) (As := [.int p1]) rfl rfl hcat hd (k r S1 h2)
theorem infX9_isPassable : InfV yX9_isPassable cX9_isPassable 5 (some .boolean) 3 := ⟨⟨gm (i := 65) (by decide +kernel) rfl, gm (i := 1023) (by decide +kernel) rfl, by decide +kernel⟩, gm (i := 1022) (by decide +kernel) rfl, gm (i := 29) (by decide +kernel) rfl⟩
theorem kX9_185 {p : Program} {l : Launch} {e : Env} {R : Room} {s : State} {m : MethodId} {args : Array Value} {below : List Frame} {meth : Method} {c : Code} {Q : State → Prop} {D : va_G} {ad : Nat → Nat} {cA : Nat → ClassId} {cc : ByteArray} {nL : Nat} {S : St} {pc : Nat} {lv : List (Nat × Value)} {st : List Value} {ρ : Type} {res : ρ} (C : Ok p s m args c D cA (mW ad cA) (mA ad) mS RX9 cc nL) (hfr : rmX9_isPassable.frames + 1 ≤ R.frames) (hlo : 8 + (5 + 11) + rmX9_isPassable.locals ≤ R.locals) {N : Nat} {p1 : Int32} {p2 : Int32} {p3 : Int32} {E : Bool → St → Option ρ} (hm : bd (fX9_isPassable N p1 p2 p3 S) E = some res) (hcat : (st.map fun v => v.category).sum ≤ 8) (hd : decode cc pc = .ok (.invokevirtual 185, 3)) (k : ∀ r S, E r S = some res → V p l e R s m args below meth c Q D (mW ad cA) (mA ad) nL S (pc + 3) lv (.int (b2i r) :: st)) : V p l e R s m args below meth c Q D (mW ad cA) (mA ad) nL S pc lv (.int p3 :: .int p2 :: .int p1 :: .ref (ad 0) :: st) := by
  obtain ⟨r, S1, h1, h2⟩ := bd_some hm
  exact v_callV C (gm (i := 1020) (by decide +kernel) rfl : Cond.methodLink RX9 185 yX9_isPassable ∈ gw_tbl) infX9_isPassable (rm2 := rmX9_isPassable) ⟨rfl, rfl⟩ hfr hlo (mX9_isPassable C.2.2.2.2.2.2.1 h1) (As := [.int p1, .int p2, .int p3]) (oX9 ad cA S) rfl rfl rfl rfl hcat hd (k r S1 h2)
def rmX9_maySlide : Room := { frames := 3, cells := 0, slots := 0, locals := 68 }
def fX9_maySlide_92 (N : Nat)   (S : St) : Option (Bool × St) := some (false, S)
set_option maxRecDepth 20000 in
theorem vX9_maySlide_92 {p : Program} {l : Launch} {e : Env} {s : State} {m : MethodId} {args : Array Value} {below : List Frame} {meth : Method} {c : Code} {Q : State → Prop} {D : va_G} {ad : Nat → Nat} {cA : Nat → ClassId} (C : Ok p s m args c D cA (mW ad cA) (mA ad) mS RX9 cX9_maySlide 6) (hr : Rt meth (some .boolean)) {r : Bool × St} (hQ : Q = MQ below (Qo D (mW ad cA) (mA ad) (some (.int (b2i r.1))) r.2) args s 0 0 (mA ad)) {N : Nat}    {S : St} (hm : fX9_maySlide_92 N   S = some r) : V p l e rmX9_maySlide s m args below meth c Q D (mW ad cA) (mA ad) 6 S 92 [] [] := by
  unfold fX9_maySlide_92 at hm
  refine v_iconst C (pc := 92) 0 dX9_maySlide_92 rfl ?_
  exact v_zret C hr hQ (x := false) (pc := 93) hm dX9_maySlide_93
def fX9_maySlide_94 (N : Nat) (k2 : Int32 → Int32 → Int32 → St → Option (Bool × St)) (x1 : Int32) (x2 : Int32) (x3 : Int32) (S : St) : Option (Bool × St) := k2 x1 x2 (x3 + 1) S
set_option maxRecDepth 20000 in
theorem vX9_maySlide_94 {p : Program} {l : Launch} {e : Env} {s : State} {m : MethodId} {args : Array Value} {below : List Frame} {meth : Method} {c : Code} {Q : State → Prop} {D : va_G} {ad : Nat → Nat} {cA : Nat → ClassId} (C : Ok p s m args c D cA (mW ad cA) (mA ad) mS RX9 cX9_maySlide 6) (hr : Rt meth (some .boolean)) {r : Bool × St} (hQ : Q = MQ below (Qo D (mW ad cA) (mA ad) (some (.int (b2i r.1))) r.2) args s 0 0 (mA ad)) {N : Nat} {k2 : Int32 → Int32 → Int32 → St → Option (Bool × St)} (hk2 : ∀ (x1 : Int32) (x2 : Int32) (x3 : Int32) (S : St), k2 x1 x2 x3 S = some r → V p l e rmX9_maySlide s m args below meth c Q D (mW ad cA) (mA ad) 6 S 2 [(0, .ref (ad 0)), (1, .int x1), (2, .int x2), (3, .int x3)] []) {x1 : Int32} {x2 : Int32} {x3 : Int32}  {S : St} (hm : fX9_maySlide_94 N k2 x1 x2 x3 S = some r) : V p l e rmX9_maySlide s m args below meth c Q D (mW ad cA) (mA ad) 6 S 94 [(0, .ref (ad 0)), (1, .int x1), (2, .int x2), (3, .int x3)] [] := by
  unfold fX9_maySlide_94 at hm
  refine v_iinc C (pc := 94) 1 3 [(3, .int (x3 + 1)), (0, .ref (ad 0)), (1, .int x1), (2, .int x2)] dX9_maySlide_94 rfl rfl (by decide) rfl ?_
  refine v_goto C (pc := 97) 2 dX9_maySlide_97 rfl ?_
  exact v_sub [1, 2, 3, 0] rfl (hk2 _ _ _ _ hm)
def fX9_maySlide_2b (N : Nat)  (k2 : Int32 → Int32 → Int32 → St → Option (Bool × St)) (x1 : Int32) (x2 : Int32) (x3 : Int32) (S : St) : Option (Bool × St) := ck x1 5 (if (S.2.2.1 2 (Int32.toNatClampNeg x1)) ≤ x3 then (some (true, S)) else (ck x1 5 (bd (fX9_cellX N x1 x3 (S.2.2.1 9 (Int32.toNatClampNeg x1)) S) fun r21 S17 => bd (fX9_stepX N x2 S17) fun r22 S18 => nm (r21 + r22) fun y23 => ck x1 5 (bd (fX9_cellY N x1 x3 (S18.2.2.1 9 (Int32.toNatClampNeg x1)) S18) fun r24 S19 => bd (fX9_stepY N x2 S19) fun r25 S20 => nm (r24 + r25) fun y26 => bd (fX9_isPassable N x1 y23 y26 S20) fun r27 S21 => if (b2i r27) = 0 then (fX9_maySlide_92 N S21) else (bd (fX9_kindAt N y23 y26 S21) fun r28 S22 => bd (fX9_in N r28 2 5 S22) fun r29 S23 => if (b2i r29) = 0 then (fX9_maySlide_94 N k2 x1 x2 x3 S23) else (bd (fX9_kindAt N y23 y26 S23) fun r30 S24 => if r30 = (2 + x2) then (fX9_maySlide_94 N k2 x1 x2 x3 S24) else (fX9_maySlide_92 N S24)))))))
def fX9_maySlide_2 (N : Nat)  : Nat → Int32 → Int32 → Int32 → St → Option (Bool × St)
  | 0 => fun _ _ _ _ => none
  | n + 1 => fun x1 x2 x3 S => fX9_maySlide_2b N  (fX9_maySlide_2 N  n) x1 x2 x3 S
set_option maxRecDepth 20000 in
theorem vX9_maySlide_2b {p : Program} {l : Launch} {e : Env} {s : State} {m : MethodId} {args : Array Value} {below : List Frame} {meth : Method} {c : Code} {Q : State → Prop} {D : va_G} {ad : Nat → Nat} {cA : Nat → ClassId} (C : Ok p s m args c D cA (mW ad cA) (mA ad) mS RX9 cX9_maySlide 6) (hr : Rt meth (some .boolean)) {r : Bool × St} (hQ : Q = MQ below (Qo D (mW ad cA) (mA ad) (some (.int (b2i r.1))) r.2) args s 0 0 (mA ad)) {N : Nat}  {k2 : Int32 → Int32 → Int32 → St → Option (Bool × St)} (hk2 : ∀ (x1 : Int32) (x2 : Int32) (x3 : Int32) (S : St), k2 x1 x2 x3 S = some r → V p l e rmX9_maySlide s m args below meth c Q D (mW ad cA) (mA ad) 6 S 2 [(0, .ref (ad 0)), (1, .int x1), (2, .int x2), (3, .int x3)] []) {x1 : Int32} {x2 : Int32} {x3 : Int32}  {S : St} (hm : fX9_maySlide_2b N  k2 x1 x2 x3 S = some r) : V p l e rmX9_maySlide s m args below meth c Q D (mW ad cA) (mA ad) 6 S 2 [(0, .ref (ad 0)), (1, .int x1), (2, .int x2), (3, .int x3)] [] := by
  unfold fX9_maySlide_2b at hm
  refine v_iload_n C (pc := 2) 3 dX9_maySlide_2 rfl rfl ?_
  refine v_aload_n C (pc := 3) 0 dX9_maySlide_3 rfl rfl ?_
  refine gX9_16 C (pc := 4) dX9_maySlide_4 ?_
  refine v_iload_n C (pc := 7) 1 dX9_maySlide_7 rfl rfl ?_
  refine ldX9_cells C (pc := 8) hm dX9_maySlide_8 (fun hm => ?_)
  refine v_icmp_ge C (pc := 9) hm 100 dX9_maySlide_9 rfl (fun hm => ?_) (fun hm => ?_)
  · refine v_iconst C (pc := 100) 1 dX9_maySlide_100 rfl ?_
    exact v_zret C hr hQ (x := true) (pc := 101) hm dX9_maySlide_101
  · refine v_aload_n C (pc := 12) 0 dX9_maySlide_12 rfl rfl ?_
    refine v_iload_n C (pc := 13) 1 dX9_maySlide_13 rfl rfl ?_
    refine v_iload_n C (pc := 14) 3 dX9_maySlide_14 rfl rfl ?_
    refine v_aload_n C (pc := 15) 0 dX9_maySlide_15 rfl rfl ?_
    refine gX9_37 C (pc := 16) dX9_maySlide_16 ?_
    refine v_iload_n C (pc := 19) 1 dX9_maySlide_19 rfl rfl ?_
    refine ldX9_placeOf C (pc := 20) hm dX9_maySlide_20 (fun hm => ?_)
    refine kX9_164 C (Nat.le_of_ble_eq_true rfl) (Nat.le_of_ble_eq_true rfl) (pc := 21) hm (Nat.le_of_ble_eq_true rfl) dX9_maySlide_21 (fun r21 S17 hm => ?_)
    refine v_iload_n C (pc := 24) 2 dX9_maySlide_24 rfl rfl ?_
    refine kX9_175 C (Nat.le_of_ble_eq_true rfl) (Nat.le_of_ble_eq_true rfl) (pc := 25) hm (Nat.le_of_ble_eq_true rfl) dX9_maySlide_25 (fun r22 S18 hm => ?_)
    refine v_iadd C (pc := 28) dX9_maySlide_28 ?_
    refine v_istoreN C (pc := 29) [(0, .ref (ad 0)), (1, .int x1), (2, .int x2), (3, .int x3)] hm dX9_maySlide_29 (by decide) rfl (fun y23 hm => ?_)
    refine v_aload_n C (pc := 31) 1 dX9_maySlide_31 rfl rfl ?_
    refine v_iload_n C (pc := 32) 2 dX9_maySlide_32 rfl rfl ?_
    refine v_iload_n C (pc := 33) 4 dX9_maySlide_33 rfl rfl ?_
    refine v_aload_n C (pc := 34) 1 dX9_maySlide_34 rfl rfl ?_
    refine gX9_37 C (pc := 35) dX9_maySlide_35 ?_
    refine v_iload_n C (pc := 38) 2 dX9_maySlide_38 rfl rfl ?_
    refine ldX9_placeOf C (pc := 39) hm dX9_maySlide_39 (fun hm => ?_)
    refine kX9_161 C (Nat.le_of_ble_eq_true rfl) (Nat.le_of_ble_eq_true rfl) (pc := 40) hm (Nat.le_of_ble_eq_true rfl) dX9_maySlide_40 (fun r24 S19 hm => ?_)
    refine v_iload_n C (pc := 43) 3 dX9_maySlide_43 rfl rfl ?_
    refine kX9_179 C (Nat.le_of_ble_eq_true rfl) (Nat.le_of_ble_eq_true rfl) (pc := 44) hm (Nat.le_of_ble_eq_true rfl) dX9_maySlide_44 (fun r25 S20 hm => ?_)
    refine v_iadd C (pc := 47) dX9_maySlide_47 ?_
    refine v_istoreN C (pc := 48) [(4, .int y23), (0, .ref (ad 0)), (1, .int x1), (2, .int x2), (3, .int x3)] hm dX9_maySlide_48 (by decide) rfl (fun y26 hm => ?_)
    refine v_aload_n C (pc := 50) 2 dX9_maySlide_50 rfl rfl ?_
    refine v_iload_n C (pc := 51) 3 dX9_maySlide_51 rfl rfl ?_
    refine v_iload C (pc := 52) 1 dX9_maySlide_52 rfl ?_
    refine v_iload C (pc := 54) 0 dX9_maySlide_54 rfl ?_
    refine kX9_185 C (Nat.le_of_ble_eq_true rfl) (Nat.le_of_ble_eq_true rfl) (pc := 56) hm (Nat.le_of_ble_eq_true rfl) dX9_maySlide_56 (fun r27 S21 hm => ?_)
    refine v_if_eq C (pc := 59) hm 92 dX9_maySlide_59 rfl (fun hm => ?_) (fun hm => ?_)
    · exact v_sub [] rfl (vX9_maySlide_92 C hr hQ (N := N) hm)
    · refine v_aload_n C (pc := 62) 2 dX9_maySlide_62 rfl rfl ?_
      refine v_iload C (pc := 63) 1 dX9_maySlide_63 rfl ?_
      refine v_iload C (pc := 65) 0 dX9_maySlide_65 rfl ?_
      refine kX9_171 C (Nat.le_of_ble_eq_true rfl) (Nat.le_of_ble_eq_true rfl) (pc := 67) hm (Nat.le_of_ble_eq_true rfl) dX9_maySlide_67 (fun r28 S22 hm => ?_)
      refine v_iconst C (pc := 70) 2 dX9_maySlide_70 rfl ?_
      refine v_iconst C (pc := 71) 5 dX9_maySlide_71 rfl ?_
      refine kX9_119 C (Nat.le_of_ble_eq_true rfl) (Nat.le_of_ble_eq_true rfl) (pc := 72) hm (Nat.le_of_ble_eq_true rfl) dX9_maySlide_72 (fun r29 S23 hm => ?_)
      refine v_if_eq C (pc := 75) hm 94 dX9_maySlide_75 rfl (fun hm => ?_) (fun hm => ?_)
      · exact v_sub [2, 3, 4, 5] rfl (vX9_maySlide_94 C hr hQ (N := N) hk2 hm)
      · refine v_aload_n C (pc := 78) 2 dX9_maySlide_78 rfl rfl ?_
        refine v_iload C (pc := 79) 1 dX9_maySlide_79 rfl ?_
        refine v_iload C (pc := 81) 0 dX9_maySlide_81 rfl ?_
        refine kX9_171 C (Nat.le_of_ble_eq_true rfl) (Nat.le_of_ble_eq_true rfl) (pc := 83) hm (Nat.le_of_ble_eq_true rfl) dX9_maySlide_83 (fun r30 S24 hm => ?_)
        refine v_iconst C (pc := 86) 2 dX9_maySlide_86 rfl ?_
        refine v_iload_n C (pc := 87) 4 dX9_maySlide_87 rfl rfl ?_
        refine v_iadd C (pc := 88) dX9_maySlide_88 ?_
        refine v_icmp_eq C (pc := 89) hm 94 dX9_maySlide_89 rfl (fun hm => ?_) (fun hm => ?_)
        · exact v_sub [2, 3, 4, 5] rfl (vX9_maySlide_94 C hr hQ (N := N) hk2 hm)
        · exact v_sub [] rfl (vX9_maySlide_92 C hr hQ (N := N) hm)
theorem vX9_maySlide_2 {p : Program} {l : Launch} {e : Env} {s : State} {m : MethodId} {args : Array Value} {below : List Frame} {meth : Method} {c : Code} {Q : State → Prop} {D : va_G} {ad : Nat → Nat} {cA : Nat → ClassId} (C : Ok p s m args c D cA (mW ad cA) (mA ad) mS RX9 cX9_maySlide 6) (hr : Rt meth (some .boolean)) {r : Bool × St} (hQ : Q = MQ below (Qo D (mW ad cA) (mA ad) (some (.int (b2i r.1))) r.2) args s 0 0 (mA ad)) {N : Nat}  (n : Nat) : ∀ (x1 : Int32) (x2 : Int32) (x3 : Int32) (S : St), fX9_maySlide_2 N  n x1 x2 x3 S = some r → V p l e rmX9_maySlide s m args below meth c Q D (mW ad cA) (mA ad) 6 S 2 [(0, .ref (ad 0)), (1, .int x1), (2, .int x2), (3, .int x3)] [] := by
  induction n with
  | zero => intro _ _ _ _  hm; exact absurd hm (by intro h; cases h)
  | succ n ih => intro _ _ _ _  hm; exact vX9_maySlide_2b C hr hQ (N := N)   ih  hm
def fX9_maySlide (N : Nat) (p1 : Int32) (p2 : Int32) (S : St) : Option (Bool × St) := fX9_maySlide_2 N N p1 p2 0 S
set_option maxRecDepth 20000 in
theorem vX9_maySlide {p : Program} {l : Launch} {e : Env} {s : State} {m : MethodId} {args : Array Value} {below : List Frame} {meth : Method} {c : Code} {Q : State → Prop} {D : va_G} {ad : Nat → Nat} {cA : Nat → ClassId} (C : Ok p s m args c D cA (mW ad cA) (mA ad) mS RX9 cX9_maySlide 6) (hr : Rt meth (some .boolean)) {r : Bool × St} (hQ : Q = MQ below (Qo D (mW ad cA) (mA ad) (some (.int (b2i r.1))) r.2) args s 0 0 (mA ad)) {N : Nat} {p1 : Int32} {p2 : Int32} {S : St} (hm : fX9_maySlide N p1 p2 S = some r) : V p l e rmX9_maySlide s m args below meth c Q D (mW ad cA) (mA ad) 6 S 0 [(0, .ref (ad 0)), (1, .int p1), (2, .int p2)] [] := by
  unfold fX9_maySlide at hm
  refine v_iconst C (pc := 0) 0 dX9_maySlide_0 rfl ?_
  refine v_istore_n C (pc := 1) [(3, .int 0), (0, .ref (ad 0)), (1, .int p1), (2, .int p2)] dX9_maySlide_1 rfl (by decide) rfl ?_
  exact v_sub [1, 2, 3, 0] rfl (vX9_maySlide_2 C hr hQ (N := N) N _ _ _ _ hm)
theorem mX9_maySlide {l : Launch} {D : va_G} {ad : Nat → Nat} {cA : Nat → ClassId} (hD : ∀ S, va_D (mA ad) (mW ad cA S)) {N : Nat} {p1 : Int32} {p2 : Int32} {S : St} {r : Bool × St} (hm : fX9_maySlide N p1 p2 S = some r) : Met l yX9_maySlide (wsm yX9_maySlide cX9_maySlide 6 (some .boolean)) rmX9_maySlide (va_Pc [.ref (ad 0), .int p1, .int p2] (Pre D cA (mW ad cA) mS S)) (Qo D (mW ad cA) (mA ad) (some (.int (b2i r.1))) r.2) 0 0 (mA ad) := met_of [.ref (ad 0), .int p1, .int p2] (by decide) (Nat.le_of_ble_eq_true rfl) hD (fun _ _ _ _ h => h) (fun _ _ _ _ h => h) (fun p e s m below meth c C hr => vX9_maySlide C hr rfl (N := N)  hm)
-- X9_pushed
theorem infX9_maySlide : InfV yX9_maySlide cX9_maySlide 6 (some .boolean) 2 := ⟨⟨gm (i := 65) (by decide +kernel) rfl, gm (i := 1019) (by decide +kernel) rfl, by decide +kernel⟩, gm (i := 1018) (by decide +kernel) rfl, gm (i := 28) (by decide +kernel) rfl⟩
theorem kX9_182 {p : Program} {l : Launch} {e : Env} {R : Room} {s : State} {m : MethodId} {args : Array Value} {below : List Frame} {meth : Method} {c : Code} {Q : State → Prop} {D : va_G} {ad : Nat → Nat} {cA : Nat → ClassId} {cc : ByteArray} {nL : Nat} {S : St} {pc : Nat} {lv : List (Nat × Value)} {st : List Value} {ρ : Type} {res : ρ} (C : Ok p s m args c D cA (mW ad cA) (mA ad) mS RX9 cc nL) (hfr : rmX9_maySlide.frames + 1 ≤ R.frames) (hlo : 8 + (6 + 11) + rmX9_maySlide.locals ≤ R.locals) {N : Nat} {p1 : Int32} {p2 : Int32} {E : Bool → St → Option ρ} (hm : bd (fX9_maySlide N p1 p2 S) E = some res) (hcat : (st.map fun v => v.category).sum ≤ 8) (hd : decode cc pc = .ok (.invokevirtual 182, 3)) (k : ∀ r S, E r S = some res → V p l e R s m args below meth c Q D (mW ad cA) (mA ad) nL S (pc + 3) lv (.int (b2i r) :: st)) : V p l e R s m args below meth c Q D (mW ad cA) (mA ad) nL S pc lv (.int p2 :: .int p1 :: .ref (ad 0) :: st) := by
  obtain ⟨r, S1, h1, h2⟩ := bd_some hm
  exact v_callV C (gm (i := 1016) (by decide +kernel) rfl : Cond.methodLink RX9 182 yX9_maySlide ∈ gw_tbl) infX9_maySlide (rm2 := rmX9_maySlide) ⟨rfl, rfl⟩ hfr hlo (mX9_maySlide C.2.2.2.2.2.2.1 h1) (As := [.int p1, .int p2]) (oX9 ad cA S) rfl rfl rfl rfl hcat hd (k r S1 h2)
def rmX9_pushed : Room := { frames := 4, cells := 0, slots := 0, locals := 93 }
def fX9_pushed_202 (N : Nat) (k162 : Int32 → Int32 → Int32 → Int32 → St → Option (Int32 × St)) (x2 : Int32) (x3 : Int32) (x5 : Int32) (x6 : Int32) (S : St) : Option (Int32 × St) := k162 x2 x3 x5 (x6 + 1) S
set_option maxRecDepth 20000 in
theorem vX9_pushed_202 {p : Program} {l : Launch} {e : Env} {s : State} {m : MethodId} {args : Array Value} {below : List Frame} {meth : Method} {c : Code} {Q : State → Prop} {D : va_G} {ad : Nat → Nat} {cA : Nat → ClassId} (C : Ok p s m args c D cA (mW ad cA) (mA ad) mS RX9 cX9_pushed 10) (hr : Rt meth (some .int)) {r : Int32 × St} (hQ : Q = MQ below (Qo D (mW ad cA) (mA ad) (some (.int r.1)) r.2) args s 0 0 (mA ad)) {N : Nat} {k162 : Int32 → Int32 → Int32 → Int32 → St → Option (Int32 × St)} (hk162 : ∀ (x2 : Int32) (x3 : Int32) (x5 : Int32) (x6 : Int32) (S : St), k162 x2 x3 x5 x6 S = some r → V p l e rmX9_pushed s m args below meth c Q D (mW ad cA) (mA ad) 10 S 162 [(0, .ref (ad 0)), (2, .int x2), (3, .int x3), (5, .int x5), (6, .int x6)] []) {x2 : Int32} {x3 : Int32} {x5 : Int32} {x6 : Int32}  {S : St} (hm : fX9_pushed_202 N k162 x2 x3 x5 x6 S = some r) : V p l e rmX9_pushed s m args below meth c Q D (mW ad cA) (mA ad) 10 S 202 [(0, .ref (ad 0)), (2, .int x2), (3, .int x3), (5, .int x5), (6, .int x6)] [] := by
  unfold fX9_pushed_202 at hm
  refine v_iinc C (pc := 202) 1 4 [(6, .int (x6 + 1)), (0, .ref (ad 0)), (2, .int x2), (3, .int x3), (5, .int x5)] dX9_pushed_202 rfl rfl (by decide) rfl ?_
  refine v_goto C (pc := 205) 162 dX9_pushed_205 rfl ?_
  exact v_sub [1, 2, 3, 4, 0] rfl (hk162 _ _ _ _ _ hm)
def fX9_pushed_222 (N : Nat)  (s0 : Int32) (S : St) : Option (Int32 × St) := some (s0, S)
set_option maxRecDepth 20000 in
theorem vX9_pushed_222 {p : Program} {l : Launch} {e : Env} {s : State} {m : MethodId} {args : Array Value} {below : List Frame} {meth : Method} {c : Code} {Q : State → Prop} {D : va_G} {ad : Nat → Nat} {cA : Nat → ClassId} (C : Ok p s m args c D cA (mW ad cA) (mA ad) mS RX9 cX9_pushed 10) (hr : Rt meth (some .int)) {r : Int32 × St} (hQ : Q = MQ below (Qo D (mW ad cA) (mA ad) (some (.int r.1)) r.2) args s 0 0 (mA ad)) {N : Nat}  {s0 : Int32}  {S : St} (hm : fX9_pushed_222 N  s0 S = some r) : V p l e rmX9_pushed s m args below meth c Q D (mW ad cA) (mA ad) 10 S 222 [] [.int s0] := by
  unfold fX9_pushed_222 at hm
  exact v_iret C hr hQ (pc := 222) hm dX9_pushed_222
def fX9_pushed_162b (N : Nat)  (k162 : Int32 → Int32 → Int32 → Int32 → St → Option (Int32 × St)) (x2 : Int32) (x3 : Int32) (x5 : Int32) (x6 : Int32) (S : St) : Option (Int32 × St) := if 5 ≤ x6 then (if (S.1 2) < x5 then (fX9_pushed_222 N 0 S) else (fX9_pushed_222 N x3 S)) else (if ((x3 >>> (x6 &&& 31)) &&& 1) = 1 then (ck x6 5 (nm (x5 + (S.2.2.1 5 (Int32.toNatClampNeg x6))) fun y38 => bd (fX9_maySlide N x6 x2 S) fun r39 S23 => if (b2i r39) = 0 then (some (0, S23)) else (fX9_pushed_202 N k162 x2 x3 y38 x6 S23))) else (fX9_pushed_202 N k162 x2 x3 x5 x6 S))
def fX9_pushed_162 (N : Nat)  : Nat → Int32 → Int32 → Int32 → Int32 → St → Option (Int32 × St)
  | 0 => fun _ _ _ _ _ => none
  | n + 1 => fun x2 x3 x5 x6 S => fX9_pushed_162b N  (fX9_pushed_162 N  n) x2 x3 x5 x6 S
set_option maxRecDepth 20000 in
theorem vX9_pushed_162b {p : Program} {l : Launch} {e : Env} {s : State} {m : MethodId} {args : Array Value} {below : List Frame} {meth : Method} {c : Code} {Q : State → Prop} {D : va_G} {ad : Nat → Nat} {cA : Nat → ClassId} (C : Ok p s m args c D cA (mW ad cA) (mA ad) mS RX9 cX9_pushed 10) (hr : Rt meth (some .int)) {r : Int32 × St} (hQ : Q = MQ below (Qo D (mW ad cA) (mA ad) (some (.int r.1)) r.2) args s 0 0 (mA ad)) {N : Nat}  {k162 : Int32 → Int32 → Int32 → Int32 → St → Option (Int32 × St)} (hk162 : ∀ (x2 : Int32) (x3 : Int32) (x5 : Int32) (x6 : Int32) (S : St), k162 x2 x3 x5 x6 S = some r → V p l e rmX9_pushed s m args below meth c Q D (mW ad cA) (mA ad) 10 S 162 [(0, .ref (ad 0)), (2, .int x2), (3, .int x3), (5, .int x5), (6, .int x6)] []) {x2 : Int32} {x3 : Int32} {x5 : Int32} {x6 : Int32}  {S : St} (hm : fX9_pushed_162b N  k162 x2 x3 x5 x6 S = some r) : V p l e rmX9_pushed s m args below meth c Q D (mW ad cA) (mA ad) 10 S 162 [(0, .ref (ad 0)), (2, .int x2), (3, .int x3), (5, .int x5), (6, .int x6)] [] := by
  unfold fX9_pushed_162b at hm
  refine v_iload C (pc := 162) 4 dX9_pushed_162 rfl ?_
  refine v_iconst C (pc := 164) 5 dX9_pushed_164 rfl ?_
  refine v_icmp_ge C (pc := 165) hm 208 dX9_pushed_165 rfl (fun hm => ?_) (fun hm => ?_)
  · refine v_iload C (pc := 208) 3 dX9_pushed_208 rfl ?_
    refine v_aload_n C (pc := 210) 0 dX9_pushed_210 rfl rfl ?_
    refine gX9_116 C (pc := 211) dX9_pushed_211 ?_
    refine v_icmp_gt C (pc := 214) hm 221 dX9_pushed_214 rfl (fun hm => ?_) (fun hm => ?_)
    · refine v_iconst C (pc := 221) 0 dX9_pushed_221 rfl ?_
      exact v_sub [] rfl (vX9_pushed_222 C hr hQ (N := N) hm)
    · refine v_iload_n C (pc := 217) 2 dX9_pushed_217 rfl rfl ?_
      refine v_goto C (pc := 218) 222 dX9_pushed_218 rfl ?_
      exact v_sub [] rfl (vX9_pushed_222 C hr hQ (N := N) hm)
  · refine v_iload_n C (pc := 168) 2 dX9_pushed_168 rfl rfl ?_
    refine v_iload C (pc := 169) 4 dX9_pushed_169 rfl ?_
    refine v_ishr C (pc := 171) dX9_pushed_171 ?_
    refine v_iconst C (pc := 172) 1 dX9_pushed_172 rfl ?_
    refine v_iand C (pc := 173) dX9_pushed_173 ?_
    refine v_iconst C (pc := 174) 1 dX9_pushed_174 rfl ?_
    refine v_icmp_ne C (pc := 175) hm 202 dX9_pushed_175 rfl (fun hm => ?_) (fun hm => ?_)
    · exact (vX9_pushed_202 C hr hQ (N := N) hk162 hm)
    · refine v_iload C (pc := 178) 3 dX9_pushed_178 rfl ?_
      refine v_aload_n C (pc := 180) 0 dX9_pushed_180 rfl rfl ?_
      refine gX9_25 C (pc := 181) dX9_pushed_181 ?_
      refine v_iload C (pc := 184) 4 dX9_pushed_184 rfl ?_
      refine ldX9_weightOf C (pc := 186) hm dX9_pushed_186 (fun hm => ?_)
      refine v_iadd C (pc := 187) dX9_pushed_187 ?_
      refine v_istoreN C (pc := 188) [(0, .ref (ad 0)), (2, .int x2), (3, .int x3), (6, .int x6)] hm dX9_pushed_188 (by decide) rfl (fun y38 hm => ?_)
      refine v_aload_n C (pc := 190) 1 dX9_pushed_190 rfl rfl ?_
      refine v_iload C (pc := 191) 4 dX9_pushed_191 rfl ?_
      refine v_iload_n C (pc := 193) 2 dX9_pushed_193 rfl rfl ?_
      refine kX9_182 C (Nat.le_of_ble_eq_true rfl) (Nat.le_of_ble_eq_true rfl) (pc := 194) hm (Nat.le_of_ble_eq_true rfl) dX9_pushed_194 (fun r39 S23 hm => ?_)
      refine v_if_ne C (pc := 197) hm 202 dX9_pushed_197 rfl (fun hm => ?_) (fun hm => ?_)
      · exact v_sub [1, 2, 3, 0, 4] rfl (vX9_pushed_202 C hr hQ (N := N) hk162 hm)
      · refine v_iconst C (pc := 200) 0 dX9_pushed_200 rfl ?_
        exact v_iret C hr hQ (pc := 201) hm dX9_pushed_201
theorem vX9_pushed_162 {p : Program} {l : Launch} {e : Env} {s : State} {m : MethodId} {args : Array Value} {below : List Frame} {meth : Method} {c : Code} {Q : State → Prop} {D : va_G} {ad : Nat → Nat} {cA : Nat → ClassId} (C : Ok p s m args c D cA (mW ad cA) (mA ad) mS RX9 cX9_pushed 10) (hr : Rt meth (some .int)) {r : Int32 × St} (hQ : Q = MQ below (Qo D (mW ad cA) (mA ad) (some (.int r.1)) r.2) args s 0 0 (mA ad)) {N : Nat}  (n : Nat) : ∀ (x2 : Int32) (x3 : Int32) (x5 : Int32) (x6 : Int32) (S : St), fX9_pushed_162 N  n x2 x3 x5 x6 S = some r → V p l e rmX9_pushed s m args below meth c Q D (mW ad cA) (mA ad) 10 S 162 [(0, .ref (ad 0)), (2, .int x2), (3, .int x3), (5, .int x5), (6, .int x6)] [] := by
  induction n with
  | zero => intro _ _ _ _ _  hm; exact absurd hm (by intro h; cases h)
  | succ n ih => intro _ _ _ _ _  hm; exact vX9_pushed_162b C hr hQ (N := N)   ih  hm
def fX9_pushed_139 (N : Nat) (k7 : Int32 → Int32 → Int32 → St → Option (Int32 × St)) (k19 : Int32 → Int32 → Int32 → Int32 → St → Option (Int32 × St)) (k28 : Int32 → Int32 → Int32 → Int32 → Int32 → St → Option (Int32 × St)) (s0 : Int32) (s1 : Int32) (x2 : Int32) (x4 : Int32) (x5 : Int32) (x6 : Int32) (S : St) : Option (Int32 × St) := nm (s1 ||| s0) fun y37 => k28 x2 y37 x4 x5 (x6 + 1) S
set_option maxRecDepth 20000 in
theorem vX9_pushed_139 {p : Program} {l : Launch} {e : Env} {s : State} {m : MethodId} {args : Array Value} {below : List Frame} {meth : Method} {c : Code} {Q : State → Prop} {D : va_G} {ad : Nat → Nat} {cA : Nat → ClassId} (C : Ok p s m args c D cA (mW ad cA) (mA ad) mS RX9 cX9_pushed 10) (hr : Rt meth (some .int)) {r : Int32 × St} (hQ : Q = MQ below (Qo D (mW ad cA) (mA ad) (some (.int r.1)) r.2) args s 0 0 (mA ad)) {N : Nat} {k7 : Int32 → Int32 → Int32 → St → Option (Int32 × St)} (hk7 : ∀ (x2 : Int32) (x3 : Int32) (x4 : Int32) (S : St), k7 x2 x3 x4 S = some r → V p l e rmX9_pushed s m args below meth c Q D (mW ad cA) (mA ad) 10 S 7 [(0, .ref (ad 0)), (2, .int x2), (3, .int x3), (4, .int x4)] []) {k19 : Int32 → Int32 → Int32 → Int32 → St → Option (Int32 × St)} (hk19 : ∀ (x2 : Int32) (x3 : Int32) (x4 : Int32) (x5 : Int32) (S : St), k19 x2 x3 x4 x5 S = some r → V p l e rmX9_pushed s m args below meth c Q D (mW ad cA) (mA ad) 10 S 19 [(0, .ref (ad 0)), (2, .int x2), (3, .int x3), (4, .int x4), (5, .int x5)] []) {k28 : Int32 → Int32 → Int32 → Int32 → Int32 → St → Option (Int32 × St)} (hk28 : ∀ (x2 : Int32) (x3 : Int32) (x4 : Int32) (x5 : Int32) (x6 : Int32) (S : St), k28 x2 x3 x4 x5 x6 S = some r → V p l e rmX9_pushed s m args below meth c Q D (mW ad cA) (mA ad) 10 S 28 [(0, .ref (ad 0)), (2, .int x2), (3, .int x3), (4, .int x4), (5, .int x5), (6, .int x6)] []) {s0 : Int32} {s1 : Int32} {x2 : Int32} {x4 : Int32} {x5 : Int32} {x6 : Int32}  {S : St} (hm : fX9_pushed_139 N k7 k19 k28 s0 s1 x2 x4 x5 x6 S = some r) : V p l e rmX9_pushed s m args below meth c Q D (mW ad cA) (mA ad) 10 S 139 [(0, .ref (ad 0)), (2, .int x2), (4, .int x4), (5, .int x5), (6, .int x6)] [.int s0, .int s1] := by
  unfold fX9_pushed_139 at hm
  refine v_ior C (pc := 139) dX9_pushed_139 ?_
  refine v_istore_nN C (pc := 140) [(0, .ref (ad 0)), (2, .int x2), (4, .int x4), (5, .int x5), (6, .int x6)] hm dX9_pushed_140 rfl (by decide) rfl (fun y37 hm => ?_)
  refine v_iinc C (pc := 141) 1 5 [(6, .int (x6 + 1)), (3, .int y37), (0, .ref (ad 0)), (2, .int x2), (4, .int x4), (5, .int x5)] dX9_pushed_141 rfl rfl (by decide) rfl ?_
  refine v_goto C (pc := 144) 28 dX9_pushed_144 rfl ?_
  exact v_sub [2, 3, 1, 4, 5, 0] rfl (hk28 _ _ _ _ _ _ hm)
def fX9_pushed_123 (N : Nat) (k7 : Int32 → Int32 → Int32 → St → Option (Int32 × St)) (k19 : Int32 → Int32 → Int32 → Int32 → St → Option (Int32 × St)) (k28 : Int32 → Int32 → Int32 → Int32 → Int32 → St → Option (Int32 × St)) (s0 : Int32) (x2 : Int32) (x3 : Int32) (x4 : Int32) (x5 : Int32) (x6 : Int32) (S : St) : Option (Int32 × St) := if s0 < 0 then (fX9_pushed_139 N k7 k19 k28 0 x3 x2 x4 x5 x6 S) else (fX9_pushed_139 N k7 k19 k28 (1 <<< (s0 &&& 31)) x3 x2 x4 x5 x6 S)
set_option maxRecDepth 20000 in
theorem vX9_pushed_123 {p : Program} {l : Launch} {e : Env} {s : State} {m : MethodId} {args : Array Value} {below : List Frame} {meth : Method} {c : Code} {Q : State → Prop} {D : va_G} {ad : Nat → Nat} {cA : Nat → ClassId} (C : Ok p s m args c D cA (mW ad cA) (mA ad) mS RX9 cX9_pushed 10) (hr : Rt meth (some .int)) {r : Int32 × St} (hQ : Q = MQ below (Qo D (mW ad cA) (mA ad) (some (.int r.1)) r.2) args s 0 0 (mA ad)) {N : Nat} {k7 : Int32 → Int32 → Int32 → St → Option (Int32 × St)} (hk7 : ∀ (x2 : Int32) (x3 : Int32) (x4 : Int32) (S : St), k7 x2 x3 x4 S = some r → V p l e rmX9_pushed s m args below meth c Q D (mW ad cA) (mA ad) 10 S 7 [(0, .ref (ad 0)), (2, .int x2), (3, .int x3), (4, .int x4)] []) {k19 : Int32 → Int32 → Int32 → Int32 → St → Option (Int32 × St)} (hk19 : ∀ (x2 : Int32) (x3 : Int32) (x4 : Int32) (x5 : Int32) (S : St), k19 x2 x3 x4 x5 S = some r → V p l e rmX9_pushed s m args below meth c Q D (mW ad cA) (mA ad) 10 S 19 [(0, .ref (ad 0)), (2, .int x2), (3, .int x3), (4, .int x4), (5, .int x5)] []) {k28 : Int32 → Int32 → Int32 → Int32 → Int32 → St → Option (Int32 × St)} (hk28 : ∀ (x2 : Int32) (x3 : Int32) (x4 : Int32) (x5 : Int32) (x6 : Int32) (S : St), k28 x2 x3 x4 x5 x6 S = some r → V p l e rmX9_pushed s m args below meth c Q D (mW ad cA) (mA ad) 10 S 28 [(0, .ref (ad 0)), (2, .int x2), (3, .int x3), (4, .int x4), (5, .int x5), (6, .int x6)] []) {s0 : Int32} {x2 : Int32} {x3 : Int32} {x4 : Int32} {x5 : Int32} {x6 : Int32}  {S : St} (hm : fX9_pushed_123 N k7 k19 k28 s0 x2 x3 x4 x5 x6 S = some r) : V p l e rmX9_pushed s m args below meth c Q D (mW ad cA) (mA ad) 10 S 123 [(0, .ref (ad 0)), (2, .int x2), (3, .int x3), (4, .int x4), (5, .int x5), (6, .int x6)] [.int s0] := by
  unfold fX9_pushed_123 at hm
  refine v_istore C (pc := 123) [(9, .int s0), (0, .ref (ad 0)), (2, .int x2), (3, .int x3), (4, .int x4), (5, .int x5), (6, .int x6)] dX9_pushed_123 (by decide) rfl ?_
  refine v_iload_n C (pc := 125) 3 dX9_pushed_125 rfl rfl ?_
  refine v_iload C (pc := 126) 0 dX9_pushed_126 rfl ?_
  refine v_if_lt C (pc := 128) hm 138 dX9_pushed_128 rfl (fun hm => ?_) (fun hm => ?_)
  · refine v_iconst C (pc := 138) 0 dX9_pushed_138 rfl ?_
    exact v_sub [1, 2, 4, 5, 6] rfl (vX9_pushed_139 C hr hQ (N := N) hk7 hk19 hk28 hm)
  · refine v_iconst C (pc := 131) 1 dX9_pushed_131 rfl ?_
    refine v_iload C (pc := 132) 0 dX9_pushed_132 rfl ?_
    refine v_ishl C (pc := 134) dX9_pushed_134 ?_
    refine v_goto C (pc := 135) 139 dX9_pushed_135 rfl ?_
    exact v_sub [1, 2, 4, 5, 6] rfl (vX9_pushed_139 C hr hQ (N := N) hk7 hk19 hk28 hm)
def fX9_pushed_147 (N : Nat) (k7 : Int32 → Int32 → Int32 → St → Option (Int32 × St)) (k19 : Int32 → Int32 → Int32 → Int32 → St → Option (Int32 × St)) (x2 : Int32) (x3 : Int32) (x4 : Int32) (x5 : Int32) (S : St) : Option (Int32 × St) := k19 x2 x3 x4 (x5 + 1) S
set_option maxRecDepth 20000 in
theorem vX9_pushed_147 {p : Program} {l : Launch} {e : Env} {s : State} {m : MethodId} {args : Array Value} {below : List Frame} {meth : Method} {c : Code} {Q : State → Prop} {D : va_G} {ad : Nat → Nat} {cA : Nat → ClassId} (C : Ok p s m args c D cA (mW ad cA) (mA ad) mS RX9 cX9_pushed 10) (hr : Rt meth (some .int)) {r : Int32 × St} (hQ : Q = MQ below (Qo D (mW ad cA) (mA ad) (some (.int r.1)) r.2) args s 0 0 (mA ad)) {N : Nat} {k7 : Int32 → Int32 → Int32 → St → Option (Int32 × St)} (hk7 : ∀ (x2 : Int32) (x3 : Int32) (x4 : Int32) (S : St), k7 x2 x3 x4 S = some r → V p l e rmX9_pushed s m args below meth c Q D (mW ad cA) (mA ad) 10 S 7 [(0, .ref (ad 0)), (2, .int x2), (3, .int x3), (4, .int x4)] []) {k19 : Int32 → Int32 → Int32 → Int32 → St → Option (Int32 × St)} (hk19 : ∀ (x2 : Int32) (x3 : Int32) (x4 : Int32) (x5 : Int32) (S : St), k19 x2 x3 x4 x5 S = some r → V p l e rmX9_pushed s m args below meth c Q D (mW ad cA) (mA ad) 10 S 19 [(0, .ref (ad 0)), (2, .int x2), (3, .int x3), (4, .int x4), (5, .int x5)] []) {x2 : Int32} {x3 : Int32} {x4 : Int32} {x5 : Int32}  {S : St} (hm : fX9_pushed_147 N k7 k19 x2 x3 x4 x5 S = some r) : V p l e rmX9_pushed s m args below meth c Q D (mW ad cA) (mA ad) 10 S 147 [(0, .ref (ad 0)), (2, .int x2), (3, .int x3), (4, .int x4), (5, .int x5)] [] := by
  unfold fX9_pushed_147 at hm
  refine v_iinc C (pc := 147) 1 4 [(5, .int (x5 + 1)), (0, .ref (ad 0)), (2, .int x2), (3, .int x3), (4, .int x4)] dX9_pushed_147 rfl rfl (by decide) rfl ?_
  refine v_goto C (pc := 150) 19 dX9_pushed_150 rfl ?_
  exact v_sub [1, 2, 3, 4, 0] rfl (hk19 _ _ _ _ _ hm)
def fX9_pushed_28b (N : Nat) (k7 : Int32 → Int32 → Int32 → St → Option (Int32 × St)) (k19 : Int32 → Int32 → Int32 → Int32 → St → Option (Int32 × St)) (k28 : Int32 → Int32 → Int32 → Int32 → Int32 → St → Option (Int32 × St)) (x2 : Int32) (x3 : Int32) (x4 : Int32) (x5 : Int32) (x6 : Int32) (S : St) : Option (Int32 × St) := ck x5 5 (if (S.2.2.1 2 (Int32.toNatClampNeg x5)) ≤ x6 then (fX9_pushed_147 N k7 k19 x2 x3 x4 x5 S) else (if ((x4 >>> (x5 &&& 31)) &&& 1) = 1 then (ck x5 5 (bd (fX9_cellX N x5 x6 (S.2.2.1 9 (Int32.toNatClampNeg x5)) S) fun r30 S18 => bd (fX9_stepX N x2 S18) fun r31 S19 => nm (r30 + r31) fun y32 => ck x5 5 (bd (fX9_cellY N x5 x6 (S19.2.2.1 9 (Int32.toNatClampNeg x5)) S19) fun r33 S20 => bd (fX9_stepY N x2 S20) fun r34 S21 => nm (r33 + r34) fun y35 => bd (fX9_isInYard N y32 y35 S21) fun r36 S22 => if (b2i r36) = 0 then (fX9_pushed_123 N k7 k19 k28 (-1) x2 x3 x4 x5 x6 S22) else (ck ((8 * y35) + y32) 64 (fX9_pushed_123 N k7 k19 k28 (S22.2.2.1 18 (Int32.toNatClampNeg ((8 * y35) + y32))) x2 x3 x4 x5 x6 S22))))) else (fX9_pushed_147 N k7 k19 x2 x3 x4 x5 S)))
def fX9_pushed_28 (N : Nat) (k7 : Int32 → Int32 → Int32 → St → Option (Int32 × St)) (k19 : Int32 → Int32 → Int32 → Int32 → St → Option (Int32 × St)) : Nat → Int32 → Int32 → Int32 → Int32 → Int32 → St → Option (Int32 × St)
  | 0 => fun _ _ _ _ _ _ => none
  | n + 1 => fun x2 x3 x4 x5 x6 S => fX9_pushed_28b N k7 k19 (fX9_pushed_28 N k7 k19 n) x2 x3 x4 x5 x6 S
set_option maxRecDepth 20000 in
theorem vX9_pushed_28b {p : Program} {l : Launch} {e : Env} {s : State} {m : MethodId} {args : Array Value} {below : List Frame} {meth : Method} {c : Code} {Q : State → Prop} {D : va_G} {ad : Nat → Nat} {cA : Nat → ClassId} (C : Ok p s m args c D cA (mW ad cA) (mA ad) mS RX9 cX9_pushed 10) (hr : Rt meth (some .int)) {r : Int32 × St} (hQ : Q = MQ below (Qo D (mW ad cA) (mA ad) (some (.int r.1)) r.2) args s 0 0 (mA ad)) {N : Nat} {k7 : Int32 → Int32 → Int32 → St → Option (Int32 × St)} (hk7 : ∀ (x2 : Int32) (x3 : Int32) (x4 : Int32) (S : St), k7 x2 x3 x4 S = some r → V p l e rmX9_pushed s m args below meth c Q D (mW ad cA) (mA ad) 10 S 7 [(0, .ref (ad 0)), (2, .int x2), (3, .int x3), (4, .int x4)] []) {k19 : Int32 → Int32 → Int32 → Int32 → St → Option (Int32 × St)} (hk19 : ∀ (x2 : Int32) (x3 : Int32) (x4 : Int32) (x5 : Int32) (S : St), k19 x2 x3 x4 x5 S = some r → V p l e rmX9_pushed s m args below meth c Q D (mW ad cA) (mA ad) 10 S 19 [(0, .ref (ad 0)), (2, .int x2), (3, .int x3), (4, .int x4), (5, .int x5)] []) {k28 : Int32 → Int32 → Int32 → Int32 → Int32 → St → Option (Int32 × St)} (hk28 : ∀ (x2 : Int32) (x3 : Int32) (x4 : Int32) (x5 : Int32) (x6 : Int32) (S : St), k28 x2 x3 x4 x5 x6 S = some r → V p l e rmX9_pushed s m args below meth c Q D (mW ad cA) (mA ad) 10 S 28 [(0, .ref (ad 0)), (2, .int x2), (3, .int x3), (4, .int x4), (5, .int x5), (6, .int x6)] []) {x2 : Int32} {x3 : Int32} {x4 : Int32} {x5 : Int32} {x6 : Int32}  {S : St} (hm : fX9_pushed_28b N k7 k19 k28 x2 x3 x4 x5 x6 S = some r) : V p l e rmX9_pushed s m args below meth c Q D (mW ad cA) (mA ad) 10 S 28 [(0, .ref (ad 0)), (2, .int x2), (3, .int x3), (4, .int x4), (5, .int x5), (6, .int x6)] [] := by
  unfold fX9_pushed_28b at hm
  refine v_iload C (pc := 28) 5 dX9_pushed_28 rfl ?_
  refine v_aload_n C (pc := 30) 0 dX9_pushed_30 rfl rfl ?_
  refine gX9_16 C (pc := 31) dX9_pushed_31 ?_
  refine v_iload C (pc := 34) 4 dX9_pushed_34 rfl ?_
  refine ldX9_cells C (pc := 36) hm dX9_pushed_36 (fun hm => ?_)
  refine v_icmp_ge C (pc := 37) hm 147 dX9_pushed_37 rfl (fun hm => ?_) (fun hm => ?_)
  · exact v_sub [0, 1, 2, 3, 4] rfl (vX9_pushed_147 C hr hQ (N := N) hk7 hk19 hm)
  · refine v_iload C (pc := 40) 3 dX9_pushed_40 rfl ?_
    refine v_iload C (pc := 42) 4 dX9_pushed_42 rfl ?_
    refine v_ishr C (pc := 44) dX9_pushed_44 ?_
    refine v_iconst C (pc := 45) 1 dX9_pushed_45 rfl ?_
    refine v_iand C (pc := 46) dX9_pushed_46 ?_
    refine v_iconst C (pc := 47) 1 dX9_pushed_47 rfl ?_
    refine v_icmp_ne C (pc := 48) hm 147 dX9_pushed_48 rfl (fun hm => ?_) (fun hm => ?_)
    · exact v_sub [0, 1, 2, 3, 4] rfl (vX9_pushed_147 C hr hQ (N := N) hk7 hk19 hm)
    · refine v_aload_n C (pc := 51) 0 dX9_pushed_51 rfl rfl ?_
      refine v_iload C (pc := 52) 4 dX9_pushed_52 rfl ?_
      refine v_iload C (pc := 54) 5 dX9_pushed_54 rfl ?_
      refine v_aload_n C (pc := 56) 0 dX9_pushed_56 rfl rfl ?_
      refine gX9_37 C (pc := 57) dX9_pushed_57 ?_
      refine v_iload C (pc := 60) 4 dX9_pushed_60 rfl ?_
      refine ldX9_placeOf C (pc := 62) hm dX9_pushed_62 (fun hm => ?_)
      refine kX9_164 C (Nat.le_of_ble_eq_true rfl) (Nat.le_of_ble_eq_true rfl) (pc := 63) hm (Nat.le_of_ble_eq_true rfl) dX9_pushed_63 (fun r30 S18 hm => ?_)
      refine v_iload_n C (pc := 66) 1 dX9_pushed_66 rfl rfl ?_
      refine kX9_175 C (Nat.le_of_ble_eq_true rfl) (Nat.le_of_ble_eq_true rfl) (pc := 67) hm (Nat.le_of_ble_eq_true rfl) dX9_pushed_67 (fun r31 S19 hm => ?_)
      refine v_iadd C (pc := 70) dX9_pushed_70 ?_
      refine v_istoreN C (pc := 71) [(0, .ref (ad 0)), (2, .int x2), (3, .int x3), (4, .int x4), (5, .int x5), (6, .int x6)] hm dX9_pushed_71 (by decide) rfl (fun y32 hm => ?_)
      refine v_aload_n C (pc := 73) 1 dX9_pushed_73 rfl rfl ?_
      refine v_iload C (pc := 74) 5 dX9_pushed_74 rfl ?_
      refine v_iload C (pc := 76) 6 dX9_pushed_76 rfl ?_
      refine v_aload_n C (pc := 78) 1 dX9_pushed_78 rfl rfl ?_
      refine gX9_37 C (pc := 79) dX9_pushed_79 ?_
      refine v_iload C (pc := 82) 5 dX9_pushed_82 rfl ?_
      refine ldX9_placeOf C (pc := 84) hm dX9_pushed_84 (fun hm => ?_)
      refine kX9_161 C (Nat.le_of_ble_eq_true rfl) (Nat.le_of_ble_eq_true rfl) (pc := 85) hm (Nat.le_of_ble_eq_true rfl) dX9_pushed_85 (fun r33 S20 hm => ?_)
      refine v_iload_n C (pc := 88) 2 dX9_pushed_88 rfl rfl ?_
      refine kX9_179 C (Nat.le_of_ble_eq_true rfl) (Nat.le_of_ble_eq_true rfl) (pc := 89) hm (Nat.le_of_ble_eq_true rfl) dX9_pushed_89 (fun r34 S21 hm => ?_)
      refine v_iadd C (pc := 92) dX9_pushed_92 ?_
      refine v_istoreN C (pc := 93) [(7, .int y32), (0, .ref (ad 0)), (2, .int x2), (3, .int x3), (4, .int x4), (5, .int x5), (6, .int x6)] hm dX9_pushed_93 (by decide) rfl (fun y35 hm => ?_)
      refine v_aload_n C (pc := 95) 2 dX9_pushed_95 rfl rfl ?_
      refine v_iload C (pc := 96) 1 dX9_pushed_96 rfl ?_
      refine v_iload C (pc := 98) 0 dX9_pushed_98 rfl ?_
      refine kX9_167 C (Nat.le_of_ble_eq_true rfl) (Nat.le_of_ble_eq_true rfl) (pc := 100) hm (Nat.le_of_ble_eq_true rfl) dX9_pushed_100 (fun r36 S22 hm => ?_)
      refine v_if_eq C (pc := 103) hm 122 dX9_pushed_103 rfl (fun hm => ?_) (fun hm => ?_)
      · refine v_iconst C (pc := 122) (-1) dX9_pushed_122 rfl ?_
        exact v_sub [2, 3, 4, 5, 6, 7] rfl (vX9_pushed_123 C hr hQ (N := N) hk7 hk19 hk28 hm)
      · refine v_aload_n C (pc := 106) 2 dX9_pushed_106 rfl rfl ?_
        refine gX9_65 C (pc := 107) dX9_pushed_107 ?_
        refine v_bipush C (pc := 110) 8 dX9_pushed_110 rfl ?_
        refine v_iload C (pc := 112) 0 dX9_pushed_112 rfl ?_
        refine v_imul C (pc := 114) dX9_pushed_114 ?_
        refine v_iload C (pc := 115) 1 dX9_pushed_115 rfl ?_
        refine v_iadd C (pc := 117) dX9_pushed_117 ?_
        refine ldX9_ownerOf C (pc := 118) hm dX9_pushed_118 (fun hm => ?_)
        refine v_goto C (pc := 119) 123 dX9_pushed_119 rfl ?_
        exact v_sub [2, 3, 4, 5, 6, 7] rfl (vX9_pushed_123 C hr hQ (N := N) hk7 hk19 hk28 hm)
theorem vX9_pushed_28 {p : Program} {l : Launch} {e : Env} {s : State} {m : MethodId} {args : Array Value} {below : List Frame} {meth : Method} {c : Code} {Q : State → Prop} {D : va_G} {ad : Nat → Nat} {cA : Nat → ClassId} (C : Ok p s m args c D cA (mW ad cA) (mA ad) mS RX9 cX9_pushed 10) (hr : Rt meth (some .int)) {r : Int32 × St} (hQ : Q = MQ below (Qo D (mW ad cA) (mA ad) (some (.int r.1)) r.2) args s 0 0 (mA ad)) {N : Nat} {k7 : Int32 → Int32 → Int32 → St → Option (Int32 × St)} (hk7 : ∀ (x2 : Int32) (x3 : Int32) (x4 : Int32) (S : St), k7 x2 x3 x4 S = some r → V p l e rmX9_pushed s m args below meth c Q D (mW ad cA) (mA ad) 10 S 7 [(0, .ref (ad 0)), (2, .int x2), (3, .int x3), (4, .int x4)] []) {k19 : Int32 → Int32 → Int32 → Int32 → St → Option (Int32 × St)} (hk19 : ∀ (x2 : Int32) (x3 : Int32) (x4 : Int32) (x5 : Int32) (S : St), k19 x2 x3 x4 x5 S = some r → V p l e rmX9_pushed s m args below meth c Q D (mW ad cA) (mA ad) 10 S 19 [(0, .ref (ad 0)), (2, .int x2), (3, .int x3), (4, .int x4), (5, .int x5)] []) (n : Nat) : ∀ (x2 : Int32) (x3 : Int32) (x4 : Int32) (x5 : Int32) (x6 : Int32) (S : St), fX9_pushed_28 N k7 k19 n x2 x3 x4 x5 x6 S = some r → V p l e rmX9_pushed s m args below meth c Q D (mW ad cA) (mA ad) 10 S 28 [(0, .ref (ad 0)), (2, .int x2), (3, .int x3), (4, .int x4), (5, .int x5), (6, .int x6)] [] := by
  induction n with
  | zero => intro _ _ _ _ _ _  hm; exact absurd hm (by intro h; cases h)
  | succ n ih => intro _ _ _ _ _ _  hm; exact vX9_pushed_28b C hr hQ (N := N)  hk7 hk19 ih  hm
def fX9_pushed_19b (N : Nat) (k7 : Int32 → Int32 → Int32 → St → Option (Int32 × St)) (k19 : Int32 → Int32 → Int32 → Int32 → St → Option (Int32 × St)) (x2 : Int32) (x3 : Int32) (x4 : Int32) (x5 : Int32) (S : St) : Option (Int32 × St) := if 5 ≤ x5 then (k7 x2 x3 x4 S) else (fX9_pushed_28 N k7 k19 N x2 x3 x4 x5 0 S)
def fX9_pushed_19 (N : Nat) (k7 : Int32 → Int32 → Int32 → St → Option (Int32 × St)) : Nat → Int32 → Int32 → Int32 → Int32 → St → Option (Int32 × St)
  | 0 => fun _ _ _ _ _ => none
  | n + 1 => fun x2 x3 x4 x5 S => fX9_pushed_19b N k7 (fX9_pushed_19 N k7 n) x2 x3 x4 x5 S
set_option maxRecDepth 20000 in
theorem vX9_pushed_19b {p : Program} {l : Launch} {e : Env} {s : State} {m : MethodId} {args : Array Value} {below : List Frame} {meth : Method} {c : Code} {Q : State → Prop} {D : va_G} {ad : Nat → Nat} {cA : Nat → ClassId} (C : Ok p s m args c D cA (mW ad cA) (mA ad) mS RX9 cX9_pushed 10) (hr : Rt meth (some .int)) {r : Int32 × St} (hQ : Q = MQ below (Qo D (mW ad cA) (mA ad) (some (.int r.1)) r.2) args s 0 0 (mA ad)) {N : Nat} {k7 : Int32 → Int32 → Int32 → St → Option (Int32 × St)} (hk7 : ∀ (x2 : Int32) (x3 : Int32) (x4 : Int32) (S : St), k7 x2 x3 x4 S = some r → V p l e rmX9_pushed s m args below meth c Q D (mW ad cA) (mA ad) 10 S 7 [(0, .ref (ad 0)), (2, .int x2), (3, .int x3), (4, .int x4)] []) {k19 : Int32 → Int32 → Int32 → Int32 → St → Option (Int32 × St)} (hk19 : ∀ (x2 : Int32) (x3 : Int32) (x4 : Int32) (x5 : Int32) (S : St), k19 x2 x3 x4 x5 S = some r → V p l e rmX9_pushed s m args below meth c Q D (mW ad cA) (mA ad) 10 S 19 [(0, .ref (ad 0)), (2, .int x2), (3, .int x3), (4, .int x4), (5, .int x5)] []) {x2 : Int32} {x3 : Int32} {x4 : Int32} {x5 : Int32}  {S : St} (hm : fX9_pushed_19b N k7 k19 x2 x3 x4 x5 S = some r) : V p l e rmX9_pushed s m args below meth c Q D (mW ad cA) (mA ad) 10 S 19 [(0, .ref (ad 0)), (2, .int x2), (3, .int x3), (4, .int x4), (5, .int x5)] [] := by
  unfold fX9_pushed_19b at hm
  refine v_iload C (pc := 19) 4 dX9_pushed_19 rfl ?_
  refine v_iconst C (pc := 21) 5 dX9_pushed_21 rfl ?_
  refine v_icmp_ge C (pc := 22) hm 153 dX9_pushed_22 rfl (fun hm => ?_) (fun hm => ?_)
  · refine v_goto C (pc := 153) 7 dX9_pushed_153 rfl ?_
    exact v_sub [0, 1, 2, 3] rfl (hk7 _ _ _ _ hm)
  · refine v_iconst C (pc := 25) 0 dX9_pushed_25 rfl ?_
    refine v_istore C (pc := 26) [(6, .int 0), (0, .ref (ad 0)), (2, .int x2), (3, .int x3), (4, .int x4), (5, .int x5)] dX9_pushed_26 (by decide) rfl ?_
    exact v_sub [1, 2, 3, 4, 5, 0] rfl (vX9_pushed_28 C hr hQ (N := N) hk7 hk19 N _ _ _ _ _ _ hm)
theorem vX9_pushed_19 {p : Program} {l : Launch} {e : Env} {s : State} {m : MethodId} {args : Array Value} {below : List Frame} {meth : Method} {c : Code} {Q : State → Prop} {D : va_G} {ad : Nat → Nat} {cA : Nat → ClassId} (C : Ok p s m args c D cA (mW ad cA) (mA ad) mS RX9 cX9_pushed 10) (hr : Rt meth (some .int)) {r : Int32 × St} (hQ : Q = MQ below (Qo D (mW ad cA) (mA ad) (some (.int r.1)) r.2) args s 0 0 (mA ad)) {N : Nat} {k7 : Int32 → Int32 → Int32 → St → Option (Int32 × St)} (hk7 : ∀ (x2 : Int32) (x3 : Int32) (x4 : Int32) (S : St), k7 x2 x3 x4 S = some r → V p l e rmX9_pushed s m args below meth c Q D (mW ad cA) (mA ad) 10 S 7 [(0, .ref (ad 0)), (2, .int x2), (3, .int x3), (4, .int x4)] []) (n : Nat) : ∀ (x2 : Int32) (x3 : Int32) (x4 : Int32) (x5 : Int32) (S : St), fX9_pushed_19 N k7 n x2 x3 x4 x5 S = some r → V p l e rmX9_pushed s m args below meth c Q D (mW ad cA) (mA ad) 10 S 19 [(0, .ref (ad 0)), (2, .int x2), (3, .int x3), (4, .int x4), (5, .int x5)] [] := by
  induction n with
  | zero => intro _ _ _ _ _  hm; exact absurd hm (by intro h; cases h)
  | succ n ih => intro _ _ _ _ _  hm; exact vX9_pushed_19b C hr hQ (N := N)  hk7 ih  hm
def fX9_pushed_7b (N : Nat)  (k7 : Int32 → Int32 → Int32 → St → Option (Int32 × St)) (x2 : Int32) (x3 : Int32) (x4 : Int32) (S : St) : Option (Int32 × St) := if x4 = x3 then (fX9_pushed_162 N N x2 x3 0 0 S) else (fX9_pushed_19 N k7 N x2 x3 x3 0 S)
def fX9_pushed_7 (N : Nat)  : Nat → Int32 → Int32 → Int32 → St → Option (Int32 × St)
  | 0 => fun _ _ _ _ => none
  | n + 1 => fun x2 x3 x4 S => fX9_pushed_7b N  (fX9_pushed_7 N  n) x2 x3 x4 S
set_option maxRecDepth 20000 in
theorem vX9_pushed_7b {p : Program} {l : Launch} {e : Env} {s : State} {m : MethodId} {args : Array Value} {below : List Frame} {meth : Method} {c : Code} {Q : State → Prop} {D : va_G} {ad : Nat → Nat} {cA : Nat → ClassId} (C : Ok p s m args c D cA (mW ad cA) (mA ad) mS RX9 cX9_pushed 10) (hr : Rt meth (some .int)) {r : Int32 × St} (hQ : Q = MQ below (Qo D (mW ad cA) (mA ad) (some (.int r.1)) r.2) args s 0 0 (mA ad)) {N : Nat}  {k7 : Int32 → Int32 → Int32 → St → Option (Int32 × St)} (hk7 : ∀ (x2 : Int32) (x3 : Int32) (x4 : Int32) (S : St), k7 x2 x3 x4 S = some r → V p l e rmX9_pushed s m args below meth c Q D (mW ad cA) (mA ad) 10 S 7 [(0, .ref (ad 0)), (2, .int x2), (3, .int x3), (4, .int x4)] []) {x2 : Int32} {x3 : Int32} {x4 : Int32}  {S : St} (hm : fX9_pushed_7b N  k7 x2 x3 x4 S = some r) : V p l e rmX9_pushed s m args below meth c Q D (mW ad cA) (mA ad) 10 S 7 [(0, .ref (ad 0)), (2, .int x2), (3, .int x3), (4, .int x4)] [] := by
  unfold fX9_pushed_7b at hm
  refine v_iload C (pc := 7) 3 dX9_pushed_7 rfl ?_
  refine v_iload_n C (pc := 9) 2 dX9_pushed_9 rfl rfl ?_
  refine v_icmp_eq C (pc := 10) hm 156 dX9_pushed_10 rfl (fun hm => ?_) (fun hm => ?_)
  · refine v_iconst C (pc := 156) 0 dX9_pushed_156 rfl ?_
    refine v_istore C (pc := 157) [(5, .int 0), (0, .ref (ad 0)), (2, .int x2), (3, .int x3), (4, .int x4)] dX9_pushed_157 (by decide) rfl ?_
    refine v_iconst C (pc := 159) 0 dX9_pushed_159 rfl ?_
    refine v_istore C (pc := 160) [(6, .int 0), (5, .int 0), (0, .ref (ad 0)), (2, .int x2), (3, .int x3), (4, .int x4)] dX9_pushed_160 (by decide) rfl ?_
    exact v_sub [2, 3, 4, 1, 0] rfl (vX9_pushed_162 C hr hQ (N := N) N _ _ _ _ _ hm)
  · refine v_iload_n C (pc := 13) 2 dX9_pushed_13 rfl rfl ?_
    refine v_istore C (pc := 14) [(4, .int x3), (0, .ref (ad 0)), (2, .int x2), (3, .int x3)] dX9_pushed_14 (by decide) rfl ?_
    refine v_iconst C (pc := 16) 0 dX9_pushed_16 rfl ?_
    refine v_istore C (pc := 17) [(5, .int 0), (4, .int x3), (0, .ref (ad 0)), (2, .int x2), (3, .int x3)] dX9_pushed_17 (by decide) rfl ?_
    exact v_sub [2, 3, 4, 1, 0] rfl (vX9_pushed_19 C hr hQ (N := N) hk7 N _ _ _ _ _ hm)
theorem vX9_pushed_7 {p : Program} {l : Launch} {e : Env} {s : State} {m : MethodId} {args : Array Value} {below : List Frame} {meth : Method} {c : Code} {Q : State → Prop} {D : va_G} {ad : Nat → Nat} {cA : Nat → ClassId} (C : Ok p s m args c D cA (mW ad cA) (mA ad) mS RX9 cX9_pushed 10) (hr : Rt meth (some .int)) {r : Int32 × St} (hQ : Q = MQ below (Qo D (mW ad cA) (mA ad) (some (.int r.1)) r.2) args s 0 0 (mA ad)) {N : Nat}  (n : Nat) : ∀ (x2 : Int32) (x3 : Int32) (x4 : Int32) (S : St), fX9_pushed_7 N  n x2 x3 x4 S = some r → V p l e rmX9_pushed s m args below meth c Q D (mW ad cA) (mA ad) 10 S 7 [(0, .ref (ad 0)), (2, .int x2), (3, .int x3), (4, .int x4)] [] := by
  induction n with
  | zero => intro _ _ _ _  hm; exact absurd hm (by intro h; cases h)
  | succ n ih => intro _ _ _ _  hm; exact vX9_pushed_7b C hr hQ (N := N)   ih  hm
def fX9_pushed (N : Nat) (p1 : Int32) (p2 : Int32) (S : St) : Option (Int32 × St) := nm (1 <<< (p1 &&& 31)) fun y40 => fX9_pushed_7 N N p2 y40 0 S
set_option maxRecDepth 20000 in
theorem vX9_pushed {p : Program} {l : Launch} {e : Env} {s : State} {m : MethodId} {args : Array Value} {below : List Frame} {meth : Method} {c : Code} {Q : State → Prop} {D : va_G} {ad : Nat → Nat} {cA : Nat → ClassId} (C : Ok p s m args c D cA (mW ad cA) (mA ad) mS RX9 cX9_pushed 10) (hr : Rt meth (some .int)) {r : Int32 × St} (hQ : Q = MQ below (Qo D (mW ad cA) (mA ad) (some (.int r.1)) r.2) args s 0 0 (mA ad)) {N : Nat} {p1 : Int32} {p2 : Int32} {S : St} (hm : fX9_pushed N p1 p2 S = some r) : V p l e rmX9_pushed s m args below meth c Q D (mW ad cA) (mA ad) 10 S 0 [(0, .ref (ad 0)), (1, .int p1), (2, .int p2)] [] := by
  unfold fX9_pushed at hm
  refine v_iconst C (pc := 0) 1 dX9_pushed_0 rfl ?_
  refine v_iload_n C (pc := 1) 1 dX9_pushed_1 rfl rfl ?_
  refine v_ishl C (pc := 2) dX9_pushed_2 ?_
  refine v_istore_nN C (pc := 3) [(0, .ref (ad 0)), (1, .int p1), (2, .int p2)] hm dX9_pushed_3 rfl (by decide) rfl (fun y40 hm => ?_)
  refine v_iconst C (pc := 4) 0 dX9_pushed_4 rfl ?_
  refine v_istore C (pc := 5) [(4, .int 0), (3, .int y40), (0, .ref (ad 0)), (1, .int p1), (2, .int p2)] dX9_pushed_5 (by decide) rfl ?_
  exact v_sub [2, 4, 1, 0] rfl (vX9_pushed_7 C hr hQ (N := N) N _ _ _ _ hm)
theorem mX9_pushed {l : Launch} {D : va_G} {ad : Nat → Nat} {cA : Nat → ClassId} (hD : ∀ S, va_D (mA ad) (mW ad cA S)) {N : Nat} {p1 : Int32} {p2 : Int32} {S : St} {r : Int32 × St} (hm : fX9_pushed N p1 p2 S = some r) : Met l yX9_pushed (wsm yX9_pushed cX9_pushed 10 (some .int)) rmX9_pushed (va_Pc [.ref (ad 0), .int p1, .int p2] (Pre D cA (mW ad cA) mS S)) (Qo D (mW ad cA) (mA ad) (some (.int r.1)) r.2) 0 0 (mA ad) := met_of [.ref (ad 0), .int p1, .int p2] (by decide) (Nat.le_of_ble_eq_true rfl) hD (fun _ _ _ _ h => h) (fun _ _ _ _ h => h) (fun p e s m below meth c C hr => vX9_pushed C hr rfl (N := N)  hm)
