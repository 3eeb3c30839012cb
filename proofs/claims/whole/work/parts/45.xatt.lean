/-! a whole push of the class -/
theorem psb_fr {g : Lv} {wt th p : Nat → Nat} {b : Nat} {x y : Int} (h : psb g wt th p b x y = true) : fr g x y = true := by
  unfold psb at h
  unfold fr
  rw [Bool.and_eq_true, Bool.and_eq_true] at h
  rw [h.1, h.2.1]
  rfl
theorem sld_cell {g : Lv} {wt th p : Nat → Nat} (hw : wfL g) (hok : okA g p) {q k : Nat} (hq : q < 5) (hk : k < 4) (h0 : 0 < gN g q) (h : sld g wt th p q k = true) : ∃ n : Nat, pbI (p q) k = (n : Int) ∧ n < 256 ∧ plc g q n = true ∧ ∀ i, cx g q i n = cx g q i (p q) + dX k ∧ cy g q i n = cy g q i (p q) + dY k := by
  have hall : ∀ i, i < gN g q → fr g (cx g q i (p q) + dX k) (cy g q i (p q) + dY k) = true := fun i hi => by
    have h1 := allB_iff.mp h i hi
    unfold sl1 at h1
    rw [Bool.and_eq_true] at h1
    exact psb_fr h1.1
  obtain ⟨ip, hip, hpiv⟩ := hw.2.2.2.2 q hq h0
  have hc := piv (p := p q) hpiv
  have hin := (fr_in (hall ip hip)).1
  rw [hc.1, hc.2] at hin
  obtain ⟨n, e1, e2, e3⟩ := pb_cell hw (hok.1 q hq).1 hk hin
  exact ⟨n, e1, e2, allB_iff.mpr fun i hi => by rw [(e3 q i).1, (e3 q i).2]; exact hall i hi, e3 q⟩
theorem psh_out {g : Lv} {wt th p : Nat → Nat} {st b k q : Nat} (hq : q < 5) (h1 : (pset g p b k).testBit q = true) (h2 : sld g wt th p q k = false) : psh g wt th st p b k = 0 := by
  unfold psh
  have : (allB 5 fun q => !(pset g p b k).testBit q || sld g wt th p q k) = false := allB_f.mpr ⟨q, hq, by rw [h1, h2]; rfl⟩
  rw [this, Bool.false_and, if_neg (by simp)]
theorem psh_heavy {g : Lv} {wt th p : Nat → Nat} {st b k : Nat} (h : st < wsN wt (pset g p b k) 5) : psh g wt th st p b k = 0 := by
  unfold psh
  rw [decide_eq_false (p := wsN wt (pset g p b k) 5 ≤ st) (by omega), Bool.and_false, if_neg (by simp)]
theorem x_push26 {N : Nat} {g : Lv} {X : St} {wt th p : Nat → Nat} {j v b k st : Nat} (hN : 100 ≤ N) (hj : j < 2) (hg : xY g X) (hB : xB g X) (hw : wfL g) (hok : okA g p) (hwt : xW8 g wt X) (hw9 : ∀ b, wt b ≤ 9) (hst : X.1 2 = zI st) (hst2 : st ≤ 45) (hb : b < 5) (hk : k < 4) :
    ∀ (d n at0 s cnt P vb : Nat) (pu : Nat → Nat) (Y : St), at0 + d = 5 → d < n → at0 ≤ cnt → pI g wt th p v j b k X Y s cnt pu → P < 32 → (∀ o, o < 5 → (P.testBit o = true ↔ ∃ i, i < at0 ∧ pu i = o)) → (∀ q, q < 5 → P.testBit q = true → sld g wt th p q k = true ∧ ∀ o, o < 5 → hit g p k q o = true → s.testBit o = true) → wsN wt P 5 ≤ st → vb < 2 ^ 40 → (∀ q, q < 5 → ((upk vb q : Nat) : Int) = p2I p P k q) →
      ∃ v2 Y2, fX4_push_26 N j n (zI k) (zI s) (zI cnt) (zI (wsN wt P 5 : Nat)) (lN vb) (zI at0) Y = some (zI (psh g wt th st p b k : Nat), Y2) ∧ agm j X Y2 ∧ xMv g wt th p v j Y2 ∧ (psh g wt th st p b k ≠ 0 → Y2.2.1 (8 + j) = lN v2 ∧ v2 < 2 ^ 40 ∧ ∀ q, q < 5 → ((upk v2 q : Nat) : Int) = p2I p (psh g wt th st p b k) k q) := by
  have fin : ∀ (s cnt P vb : Nat) (pu : Nat → Nat) (Y : St), pI g wt th p v j b k X Y s cnt pu → P < 32 → (∀ o, o < 5 → (P.testBit o = true ↔ ∃ i, i < cnt ∧ pu i = o)) → (∀ q, q < 5 → P.testBit q = true → sld g wt th p q k = true ∧ ∀ o, o < 5 → hit g p k q o = true → s.testBit o = true) → wsN wt P 5 ≤ st → vb < 2 ^ 40 → (∀ q, q < 5 → ((upk vb q : Nat) : Int) = p2I p P k q) →
      ∃ v2 Y2, fX4_push_230 N j (zI s) (lN vb) Y = some (zI (psh g wt th st p b k : Nat), Y2) ∧ agm j X Y2 ∧ xMv g wt th p v j Y2 ∧ (psh g wt th st p b k ≠ 0 → Y2.2.1 (8 + j) = lN v2 ∧ v2 < 2 ^ 40 ∧ ∀ q, q < 5 → ((upk v2 q : Nat) : Int) = p2I p (psh g wt th st p b k) k q) := by
    intro s cnt P vb pu Y hI hP hP2 hP3 hP4 hvb hvb2
    obtain ⟨i1, i2, ⟨i3, i3'⟩, i4, i5, i6, i7, i8⟩ := hI
    have hsP : s = P := set_ext i1 hP fun r hr => by
      cases hs : s.testBit r
      · cases hp : P.testBit r
        · rfl
        · obtain ⟨i, a1, a2⟩ := (hP2 r hr).mp hp
          have := (i4 i a1).2.2.2
          rw [a2, hs] at this
          cases this
      · exact ((hP2 r hr).mpr (i5 r hr hs)).symm
    subst hsP
    have hps : pset g p b k = s := set_ext (pset_lt hb) i1 fun r hr => by
      cases hs : s.testBit r
      · cases hp : (pset g p b k).testBit r
        · rfl
        · have := clo_sub (g := g) (p := p) (k := k) (s := s) (fun q hq h => (hP3 q hq h).2) 5 (2 ^ b) (fun o ho h => by
            rw [tb_pow] at h
            rw [← of_decide_eq_true h]
            exact i8) r hr hp
          rw [hs] at this
          cases this
      · exact i7 r hr hs
    have he : psh g wt th st p b k = s := by
      unfold psh
      have : (allB 5 fun q => !(pset g p b k).testBit q || sld g wt th p q k) = true := allB_iff.mpr fun q hq => by
        rw [hps]
        cases hs : s.testBit q
        · rfl
        · rw [(hP3 q hq hs).1]; rfl
      rw [this, hps, decide_eq_true hP4]
      rfl
    refine ⟨vb, sJ Y (8 + j) (lN vb), ?_, agr.sJ i3 (k := 8 + j) (by simp) _, i3'.s8 hj _, fun _ => ⟨sJ_same _ _ _, hvb, by rw [he]; exact hvb2⟩⟩
    unfold fX4_push_230
    rw [stp_ok, he]
  intro d
  induction d with
  | zero =>
    intro n at0 s cnt P vb pu Y had hd hac hI hP hP2 hP3 hP4 hvb hvb2
    obtain ⟨n, rfl⟩ : ∃ n', n = n' + 1 := ⟨n - 1, by omega⟩
    have hc := cnt5_le s
    have hcs := hI.2.1
    have hcat : at0 = cnt := by omega
    subst hcat
    obtain ⟨v2, Y2, e, r⟩ := fin s at0 P vb pu Y hI hP hP2 hP3 hP4 hvb hvb2
    refine ⟨v2, Y2, ?_, r⟩
    show fX4_push_26b N j (fX4_push_26 N j n) (zI k) (zI s) (zI at0) (zI (wsN wt P 5 : Nat)) (lN vb) (zI at0) Y = _
    unfold fX4_push_26b
    rw [i_le (by omega) (by omega), if_pos (by omega)]
    exact e
  | succ d ih =>
    intro n at0 s cnt P vb pu Y had hd hac hI hP hP2 hP3 hP4 hvb hvb2
    obtain ⟨n, rfl⟩ : ∃ n', n = n' + 1 := ⟨n - 1, by omega⟩
    have hc := cnt5_le s
    have hcs := hI.2.1
    show ∃ v2 Y2, fX4_push_26b N j (fX4_push_26 N j n) (zI k) (zI s) (zI cnt) (zI (wsN wt P 5 : Nat)) (lN vb) (zI at0) Y = some (zI (psh g wt th st p b k : Nat), Y2) ∧ agm j X Y2 ∧ xMv g wt th p v j Y2 ∧ (psh g wt th st p b k ≠ 0 → Y2.2.1 (8 + j) = lN v2 ∧ v2 < 2 ^ 40 ∧ ∀ q, q < 5 → ((upk v2 q : Nat) : Int) = p2I p (psh g wt th st p b k) k q)
    unfold fX4_push_26b
    by_cases hcat : at0 = cnt
    · subst hcat
      rw [i_le (by omega) (by omega), if_pos (by omega)]
      exact fin s at0 P vb pu Y hI hP hP2 hP3 hP4 hvb hvb2
    · rw [i_le (by omega) (by omega), if_neg (by omega), zl5, i_le (by omega) (by omega), if_neg (by omega), ck_z (by omega) (by omega) (by omega), nm_ok, z_cl (by omega) (by omega), show ((at0 : Int)).toNat = at0 by omega]
      have hI0 := hI
      obtain ⟨i1, i2, ⟨i3, i3'⟩, i4, i5, i6, i7, i8⟩ := hI
      obtain ⟨u1, u2, u3, u4⟩ := i4 at0 (by omega)
      have hYY := i3.xY hj hg
      have hYB := i3.xB hj hB
      have hYw := i3.xW8 hwt
      have hqF := i7 _ u2 u4
      have hp256 := (hok.1 _ u2).1
      generalize hq : pu at0 = q at u1 u2 u3 u4 hqF hp256
      have hPq : P.testBit q = false := by
        cases h : P.testBit q
        · rfl
        · obtain ⟨i, a1, a2⟩ := (hP2 q u2).mp h
          have := i6 i (by omega) at0 (by omega) (a2.trans hq.symm)
          omega
      rw [u1, ck_z (by omega) (by omega) (by omega), ck_z (by omega) (by omega) (by omega), nm_ok, ck_z (by omega) (by omega) (by omega), z_cl (by omega) (by omega), show ((q : Int)).toNat = q by omega, i3'.2.1 q u2, x_afterPush hYY hYB hw u2 u3 hp256 hk, bd_ok, nm_ok, okP_sld hw hok i3' u2, hYw q u2 u3, zA, i3.1 2 (by simp), hst]
      have hw5 := wsN_bd hw9 P 5
      have hwq := hw9 q
      cases hsl : sld g wt th p q k
      · rw [if_neg (c := false = true) (by simp), zl0, i_lt (by omega) (by omega), if_pos (by omega)]
        refine ⟨0, Y, ?_, i3, i3', fun h => absurd (psh_out u2 hqF hsl) h⟩
        unfold fX4_push_129
        rw [psh_out u2 hqF hsl]
        rfl
      · rw [if_pos (c := true = true) rfl]
        obtain ⟨nq, e1, e2, e3, e4⟩ := sld_cell hw hok u2 hk u3 hsl
        rw [e1, zl0, i_lt (by omega) (by omega), if_neg (by omega), i_le (by omega) (by omega)]
        have hadd : wsN wt (P ||| 2 ^ q) 5 = wsN wt P 5 + wt q := by rw [wsN_add hPq, if_pos u2]
        have hPP : ∀ o, o < 5 → ((P ||| 2 ^ q).testBit o = true ↔ ∃ i, i < at0 + 1 ∧ pu i = o) := fun o ho => by
          rw [Nat.testBit_or, tb_pow, Bool.or_eq_true]
          constructor
          · rintro (h | h)
            · obtain ⟨i, a1, a2⟩ := (hP2 o ho).mp h
              exact ⟨i, by omega, a2⟩
            · exact ⟨at0, by omega, hq.trans (of_decide_eq_true h)⟩
          · rintro ⟨i, a1, a2⟩
            by_cases hi : i = at0
            · right
              exact decide_eq_true (by rw [← a2, hi, hq])
            · left
              exact (hP2 o ho).mpr ⟨i, by omega, a2⟩
        by_cases hwl : wsN wt P 5 + wt q ≤ st
        · rw [if_pos (by omega)]
          obtain ⟨w, w1, w2, w3⟩ := x_withPlacement (N := N) (X := Y) hvb u2 e2
          rw [w1, bd_ok]
          obtain ⟨s2, cnt2, pu2, Y2, f1, f2, f3, f4, f5, f6⟩ := x_push145 (N := N) hj hB hw hok hb u2 u3 e2 e3 e4 (fX4_push_26 N j n) (zI ((wsN wt P 5 : Nat) + (wt q : Nat) : Int)) (lN w) at0 (by omega) hqF 5 0 N s cnt pu Y (by omega) (by omega) hI0 (fun o2 h => by omega)
          have f1' : fX4_push_145 N j (fX4_push_26 N j n) N (zI k) (zI s) (zI cnt) (zI ((wsN wt P 5 : Nat) + (wt q : Nat) : Int)) (lN w) (zI at0) q (zI nq) (zI 0) Y = _ := f1
          rw [f1', show ((wsN wt P 5 : Nat) + (wt q : Nat) : Int) = ((wsN wt (P ||| 2 ^ q) 5 : Nat) : Int) by omega]
          refine ih n (at0 + 1) s2 cnt2 (P ||| 2 ^ q) w pu2 Y2 (by omega) (by omega) (by omega) f2 (or_lt (n := 5) hP (pow5 q u2)) (fun o ho => ?_) (fun q2 hq2 h => ?_) (by omega) w2 (fun q2 hq2 => ?_)
          · rw [hPP o ho]
            constructor
            · rintro ⟨i, a1, a2⟩
              exact ⟨i, a1, by rw [f5 i (by omega)]; exact a2⟩
            · rintro ⟨i, a1, a2⟩
              exact ⟨i, a1, by rw [← f5 i (by omega)]; exact a2⟩
          · by_cases h3 : q2 = q
            · subst h3
              exact ⟨hsl, f3⟩
            · rw [Nat.testBit_or, tb_pow, decide_eq_false (fun z => h3 z.symm), Bool.or_false] at h
              exact ⟨(hP3 q2 hq2 h).1, fun o ho hh => f6 o ho ((hP3 q2 hq2 h).2 o ho hh)⟩
          · rw [w3 q2 hq2]
            unfold p2I
            by_cases h3 : q2 = q
            · subst h3
              rw [if_pos rfl, Nat.testBit_or, tb_pow, decide_eq_true rfl, Bool.or_true, if_pos rfl, e1]
            · rw [if_neg h3, Nat.testBit_or, tb_pow, decide_eq_false (fun z => h3 z.symm), Bool.or_false]
              exact hvb2 q2 hq2
        · rw [if_neg (by omega)]
          have hle : wsN wt (P ||| 2 ^ q) 5 ≤ wsN wt (pset g p b k) 5 := wsN_mono (fun o ho h => by
            obtain ⟨i, a1, a2⟩ := (hPP o ho).mp h
            have := i7 _ (i4 i (by omega)).2.1 (i4 i (by omega)).2.2.2
            rw [a2] at this
            exact this) 5 (by omega)
          have h0 : psh g wt th st p b k = 0 := psh_heavy (by omega)
          refine ⟨0, Y, ?_, i3, i3', fun h => absurd h0 h⟩
          unfold fX4_push_129
          rw [h0]
          rfl
theorem x_push {N : Nat} {g : Lv} {X : St} {wt th p : Nat → Nat} {j v b k st : Nat} (hN : 100 ≤ N) (hj : j < 2) (hg : xY g X) (hB : xB g X) (hw : wfL g) (hok : okA g p) (hwt : xW8 g wt X) (hw9 : ∀ b, wt b ≤ 9) (hst : X.1 2 = zI st) (hst2 : st ≤ 45) (hm : xMv g wt th p v j X) (hv : enc p v) (hb : b < 5) (hb0 : 0 < gN g b) (hk : k < 4) :
      ∃ v2 Y2, fX4_push N j (zI b) (zI k) X = some (zI (psh g wt th st p b k : Nat), Y2) ∧ agm j X Y2 ∧ xMv g wt th p v j Y2 ∧ (psh g wt th st p b k ≠ 0 → Y2.2.1 (8 + j) = lN v2 ∧ v2 < 2 ^ 40 ∧ ∀ q, q < 5 → ((upk v2 q : Nat) : Int) = p2I p (psh g wt th st p b k) k q) := by
  unfold fX4_push
  rw [zl1, zl31, z_one (by omega), nm_ok, nm_ok, zl0, ck_z (by omega) (by omega) (by omega), stp_ok, hm.1, z_cl (by omega) (by omega)]
  have hcb : cnt5 (2 ^ b) = 1 := by
    have : ∀ b, b < 5 → cnt5 (2 ^ b) = 1 := by decide
    exact this b hb
  exact x_push26 (N := N) (X := X) hN hj hg hB hw hok hwt hw9 hst hst2 hb hk 5 N 0 (2 ^ b) 1 0 v (fun _ => b) (sA X (24 + j) 0 (zI b)) (by omega) (by omega) (by omega)
    ⟨pow5 b hb, hcb, ⟨agr.sA (agr.rf _) (k := 24 + j) (by simp) _ _, hm.s24 hj _ _⟩, fun i hi => by
      have : i = 0 := by omega
      subst this
      exact ⟨sA_same _ _ _ _, hb, hb0, by rw [tb_pow, decide_eq_true rfl]⟩, fun o ho h => ⟨0, by omega, by rw [tb_pow] at h; exact of_decide_eq_true h⟩, fun i hi i2 hi2 _ => by omega, fun o ho h => by
      rw [tb_pow] at h
      rw [← of_decide_eq_true h]
      exact pset_b hb, by rw [tb_pow, decide_eq_true rfl]⟩ (by omega) (fun o ho => Iff.intro (fun h => by rw [Nat.zero_testBit] at h; exact Bool.noConfusion h) (fun h => by obtain ⟨i, a1, _⟩ := h; omega)) (fun q hq h => by rw [Nat.zero_testBit] at h; exact Bool.noConfusion h) (by
      have : ∀ n, wsN wt 0 n = 0 := fun n => by
        induction n with
        | zero => rfl
        | succ n ih => unfold wsN; rw [ih, Nat.zero_testBit]; rfl
      rw [this]; omega) hv.1 (fun q hq => by rw [hv.2 q hq]; unfold p2I; rw [Nat.zero_testBit]; rfl)
/-! a turn, and a whole attempt -/
theorem t0_tc1 {g : Lv} {X : St} {wt th p : Nat → Nat} {v j b : Nat} (hg : xY g X) (hw : wfL g) (hok : okA g p) (hm : xMv g wt th p v j X) (hb : b < 5) : t0 g ((((X.2.1 (6 + j)) ||| (X.2.1 (4 + j))) &&& ((X.2.2.2 (9 + j) b) ^^^ (-1))) ||| X.2.1 0 ||| X.2.1 1) = tc1 g wt th p b := by
  funext x y
  unfold t0 tc1 psb
  by_cases h : inY g x y
  · obtain ⟨c, c1, c2, c3, c4, c5⟩ := celN hw h
    rw [decide_eq_true h, ← c5, bit_or, bit_or, bit_and, bit_or, bit_not _ c2, hm.2.2.1 b hb c c2, hm.2.2.2.1 c c2, hm.2.2.2.2 c c2, hg.2.2.2.1 c c2, hg.2.2.2.2.1 c c2, c3, c4]
    have ho : decide (ow g p c = (b : Int)) = hasC g b (p b) c := by
      cases hh : hasC g b (p b) c
      · exact decide_eq_false fun z => by rw [(ow_iff hok hb).mp z] at hh; cases hh
      · exact decide_eq_true ((ow_iff hok hb).mpr hh)
    have ho2 : decide (ow g p c < 0) = !(anyB 5 fun b => hasC g b (p b) c) := by
      cases hh : (anyB 5 fun b => hasC g b (p b) c)
      · exact decide_eq_true ((owN_neg 5).mpr hh)
      · exact decide_eq_false fun z => by rw [(owN_neg 5).mp z] at hh; cases hh
    rw [ho, ho2]
    have hga : decide (10 ≤ kd g x y) = !decide (kd g x y < 10) := by
      by_cases h10 : kd g x y < 10
      · rw [decide_eq_true h10, decide_eq_false (p := 10 ≤ kd g x y) (by omega)]; rfl
      · rw [decide_eq_false h10, decide_eq_true (p := 10 ≤ kd g x y) (by omega)]; rfl
    have hgb : decide (ld g wt p (kd g x y - 10) < th (kd g x y - 10)) = !decide (th (kd g x y - 10) ≤ ld g wt p (kd g x y - 10)) := by
      by_cases h10 : th (kd g x y - 10) ≤ ld g wt p (kd g x y - 10)
      · rw [decide_eq_true h10, decide_eq_false (p := ld g wt p (kd g x y - 10) < th (kd g x y - 10)) (by omega)]; rfl
      · rw [decide_eq_false h10, decide_eq_true (p := ld g wt p (kd g x y - 10) < th (kd g x y - 10)) (by omega)]; rfl
    rw [hga, hgb]
    generalize (kd g x y == 1) = A
    generalize decide (kd g x y < 10) = B
    generalize decide (th (kd g x y - 10) ≤ ld g wt p (kd g x y - 10)) = C
    generalize decide (2 ≤ kd g x y ∧ kd g x y ≤ 5) = D
    generalize hasC g b (p b) c = E
    generalize (anyB 5 fun b => hasC g b (p b) c) = F
    revert A B C D E F
    decide
  · rw [decide_eq_false h]
    rfl
theorem x_attempt_no {N : Nat} {g : Lv} {X : St} {j : Nat} {k : Int32} (hB : xB g X) (hw : wfL g) {b : Int} (hb : -2147483648 ≤ b ∧ b < 2147483648) (h : ¬ (0 ≤ b ∧ b < 5 ∧ 0 < gN g b.toNat)) : fX4_attempt N j (zI b) k X = some (0, X) := by
  unfold fX4_attempt
  rw [x_has hB hw hb, bd_ok, zl0, i_d, if_neg h]
theorem x_attempt {N : Nat} {g : Lv} {X : St} {wt th p : Nat → Nat} {j v b k st : Nat} (hN : 100 ≤ N) (hj : j < 2) (hg : xY g X) (hB : xB g X) (hw : wfL g) (hok : okA g p) (hwt : xW8 g wt X) (hw9 : ∀ b, wt b ≤ 9) (hst : X.1 2 = zI st) (hst2 : st ≤ 45) (hm : xMv g wt th p v j X) (hv : enc p v) (hb : b < 5) (hb0 : 0 < gN g b) (hk : k < 6) :
      ∃ v2 Y2, fX4_attempt N j (zI b) (zI k) X = some (zI (mvs g wt th st p b k : Nat), Y2) ∧ agm j X Y2 ∧ xMv g wt th p v j Y2 ∧ (mvs g wt th st p b k ≠ 0 → Y2.2.1 (8 + j) = lN v2 ∧ v2 < 2 ^ 40 ∧ ∀ q, q < 5 → ((upk v2 q : Nat) : Int) = p2I p (mvs g wt th st p b k) k q) := by
  unfold fX4_attempt mvs
  rw [x_has hB hw (by omega), bd_ok, zl0, i_d, if_pos ⟨by omega, by omega, by simpa using hb0⟩, zl4, i_le (by omega) (by omega)]
  by_cases hk4 : k < 4
  · rw [if_neg (by omega), if_pos hk4]
    obtain ⟨v2, Y2, e, r⟩ := x_push hN hj hg hB hw hok hwt hw9 hst hst2 hm hv hb hb0 hk4
    exact ⟨v2, Y2, by rw [e, bd_ok], r⟩
  · rw [if_pos (by omega), if_neg hk4, ck_z (by omega) (by omega) (by omega), nm_ok, ck_z (by omega) (by omega) (by omega), ck_z (by omega) (by omega) (by omega), z_cl (by omega) (by omega), show ((b : Int)).toNat = b by omega, hm.2.1 b hb, x_afterTurn hN hg hB hw hb (hok.1 b hb).1 hk (by omega), bd_ok]
    have he : okT g b (p b) (k == 4) ((((X.2.1 (6 + j)) ||| (X.2.1 (4 + j))) &&& ((X.2.2.2 (9 + j) b) ^^^ (-1))) ||| X.2.1 0 ||| X.2.1 1) = trn g wt th p b (k == 4) := by
      unfold okT trn
      rw [t0_tc1 hg hw hok hm hb]
    rw [he]
    cases ht : trn g wt th p b (k == 4)
    · rw [if_neg (c := false = true) (by simp), if_neg (c := false = true) (by simp), i_le (by omega) (by omega), if_neg (by omega)]
      exact ⟨0, X, rfl, agr.rf _, hm, fun h => absurd rfl h⟩
    · rw [if_pos (c := true = true) rfl, if_pos (c := true = true) rfl]
      obtain ⟨nq, hnq, hnq2⟩ : ∃ nq : Nat, pbI (p b) k = (nq : Int) ∧ nq < 256 := by
        unfold pbI
        rw [if_neg hk4]
        exact ⟨_, rfl, Nat.mod_lt _ (by decide)⟩
      rw [hnq, i_le (by omega) (by omega), if_pos (by omega), hm.1]
      obtain ⟨w, w1, w2, w3⟩ := x_withPlacement (N := N) (X := X) hv.1 hb hnq2
      rw [w1, bd_ok, stp_ok, zl1, zl31, z_one (by omega)]
      refine ⟨w, _, rfl, agr.sJ (agr.rf _) (k := 8 + j) (by simp) _, hm.s8 hj _, fun _ => ⟨sJ_same _ _ _, w2, fun q hq => ?_⟩⟩
      rw [w3 q hq]
      unfold p2I
      rw [tb_pow]
      by_cases h3 : q = b
      · subst h3
        rw [if_pos rfl, decide_eq_true rfl, if_pos rfl, hnq]
      · rw [if_neg h3, decide_eq_false (fun z => h3 z.symm), hv.2 q hq]
        rfl
