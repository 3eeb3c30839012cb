/-! a whole push of the class -/
theorem psb_fr {g : Lv} {wt th p : Nat → Nat} {b : Nat} {x y : Int} (h : psb g wt th p b x y = true) : fr g x y = true := by
  unfold psb at h
  unfold fr
  rw [Bool.and_eq_true, Bool.and_eq_true] at h
  rw [h.1, h.2.1]
  rfl
theorem sld_cell {g : Lv} {wt th p : Nat → Nat} (hw : wfL g) (hok : okA g p) {q k : Nat} (hq : q < 5) (hk : k < 4) (h0 : 0 < gN g q) (h : sld g wt th p q k = true) : ∃ n : Nat, pbI (p q) k = (n : Int) ∧ n < 256 ∧ plc g q n = true ∧ ∀ i, cx g q i n = cx g q i (p q) + dX k ∧ cy g q i n = cy g q i (p q) + dY k := by
  have hall : ∀ i, i < gN g q → fr g (cx g q i (p q) + dX k) (cy g q i (p q) + dY k) = true := fun i hi => by
    have h1 := allB_iff.mp h i hi
    unfold sl1 at h1
    rw [Bool.and_eq_true] at h1
    exact psb_fr h1.1
  obtain ⟨ip, hip, hpiv⟩ := hw.2.2.2.2 q hq h0
  have hc := piv (p := p q) hpiv
  have hin := (fr_in (hall ip hip)).1
  rw [hc.1, hc.2] at hin
  obtain ⟨n, e1, e2, e3⟩ := pb_cell hw (hok.1 q hq).1 hk hin
  exact ⟨n, e1, e2, allB_iff.mpr fun i hi => by rw [(e3 q i).1, (e3 q i).2]; exact hall i hi, e3 q⟩
theorem psh_out {g : Lv} {wt th p : Nat → Nat} {st b k q : Nat} (hq : q < 5) (h1 : (pset g p b k).testBit q = true) (h2 : sld g wt th p q k = false) : psh g wt th st p b k = 0 := by
  unfold psh
  have : (allB 5 fun q => !(pset g p b k).testBit q || sld g wt th p q k) = false := allB_f.mpr ⟨q, hq, by rw [h1, h2]; rfl⟩
  rw [this, Bool.false_and, if_neg (by simp)]
theorem psh_heavy {g : Lv} {wt th p : Nat → Nat} {st b k : Nat} (h : st < wsN wt (pset g p b k) 5) : psh g wt th st p b k = 0 := by
  unfold psh
  rw [decide_eq_false (p := wsN wt (pset g p b k) 5 ≤ st) (by omega), Bool.and_false, if_neg (by simp)]
theorem x_push26 {N : Nat} {g : Lv} {X : St} {wt th p : Nat → Nat} {j v b k st : Nat} (hN : 100 ≤ N) (hj : j < 2) (hg : xY g X) (hB : xB g X) (hw : wfL g) (hok : okA g p) (hwt : xW8 g wt X) (hw9 : ∀ b, wt b ≤ 9) (hst : X.1 2 = zI st) (hst2 : st ≤ 45) (hb : b < 5) (hk : k < 4) :
    ∀ (d n at0 s cnt P vb : Nat) (pu : Nat → Nat) (Y : St), at0 + d = 5 → d < n → at0 ≤ cnt → pI g wt th p v j b k X Y s cnt pu → P < 32 → (∀ o, o < 5 → (P.testBit o = true ↔ ∃ i, i < at0 ∧ pu i = o)) → (∀ q, q < 5 → P.testBit q = true → sld g wt th p q k = true ∧ ∀ o, o < 5 → hit g p k q o = true → s.testBit o = true) → wsN wt P 5 ≤ st → vb < 2 ^ 40 → (∀ q, q < 5 → ((upk vb q : Nat) : Int) = p2I p P k q) →
      ∃ v2 Y2, fX4_push_26 N j n (zI k) (zI s) (zI cnt) (zI (wsN wt P 5 : Nat)) (lN vb) (zI at0) Y = some (zI (psh g wt th st p b k : Nat), Y2) ∧ agm j X Y2 ∧ xMv g wt th p v j Y2 ∧ (psh g wt th st p b k ≠ 0 → Y2.2.1 (8 + j) = lN v2 ∧ v2 < 2 ^ 40 ∧ ∀ q, q < 5 → ((upk v2 q : Nat) : Int) = p2I p (psh g wt th st p b k) k q) := by
  intro d
  induction d with
  | zero =>
    intro at0 n s cnt P vb pu Y had hd hac hI hP hP2 hP3 hP4 hvb hvb2
    sorry
  | succ d ih =>
    intro at0 n s cnt P vb pu Y had hd hac hI hP hP2 hP3 hP4 hvb hvb2
    sorry
