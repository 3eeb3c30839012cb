/-! the class holds a level -/
def iny (g : Lv) (c : Nat) : Bool := decide (c % 8 < gC g) && decide (c / 8 < gR g)
def xY (g : Lv) (X : St) : Prop := X.1 3 = zI (gC g) ∧ X.1 4 = zI (gR g) ∧ (∀ x y : Nat, x < gC g → y < gR g → X.2.2.1 3 (8 * y + x) = zI (gK g (8 * y + x))) ∧ (∀ c, c < 64 → bit (X.2.1 0) c = (iny g c && (gK g c == 1))) ∧ (∀ c, c < 64 → bit (X.2.1 1) c = (iny g c && decide (2 ≤ gK g c ∧ gK g c ≤ 5))) ∧ (∀ k, k < 4 → ∀ c, c < 64 → bit (X.2.2.2 1 k) c = (iny g c && (gK g c == 2 + k))) ∧ (∀ r, r < 4 → ∀ c, c < 64 → bit (X.2.2.2 2 r) c = (iny g c && (gK g c == 6 + r))) ∧ ∀ r, r < 4 → ∀ c, c < 64 → bit (X.2.2.2 3 r) c = (iny g c && (gK g c == 10 + r))
def xB (g : Lv) (X : St) : Prop := ∀ b, b < 5 → X.1 (5 + b) = zI (gN g b) ∧ (∀ o, o < 4 → ∀ i, i < gN g b → X.2.2.1 (4 + b) (5 * o + i) = zI (rX o (gX g b i) (gY g b i)) ∧ X.2.2.1 (9 + b) (5 * o + i) = zI (rY o (gX g b i) (gY g b i))) ∧ (0 < gN g b → ∀ p, p < 256 → ∀ c, c < 64 → bit (X.2.2.2 (4 + b) p) c = (plc g b p && hasC g b p c))
theorem xY.ag {g : Lv} {is js as ls : List Nat} {X X2 : St} (h : xY g X) (a : agr is js as ls X X2) (i3 : 3 ∉ is) (i4 : 4 ∉ is) (j0 : 0 ∉ js) (j1 : 1 ∉ js) (a3 : 3 ∉ as) (l1 : 1 ∉ ls) (l2 : 2 ∉ ls) (l3 : 3 ∉ ls) : xY g X2 := by
  unfold xY
  rw [a.1 3 i3, a.1 4 i4, a.2.1 0 j0, a.2.1 1 j1, a.2.2.1 3 a3, a.2.2.2 1 l1, a.2.2.2 2 l2, a.2.2.2 3 l3]
  exact h
theorem xB.ag {g : Lv} {is js as ls : List Nat} {X X2 : St} (h : xB g X) (a : agr is js as ls X X2) (i5 : ∀ b, b < 5 → 5 + b ∉ is) (a4 : ∀ b, b < 5 → 4 + b ∉ as) (a9 : ∀ b, b < 5 → 9 + b ∉ as) (l4 : ∀ b, b < 5 → 4 + b ∉ ls) : xB g X2 := by
  intro b hb
  rw [a.1 _ (i5 b hb), a.2.2.1 _ (a4 b hb), a.2.2.1 _ (a9 b hb), a.2.2.2 _ (l4 b hb)]
  exact h b hb
theorem x_cellAt {N : Nat} {g : Lv} {X : St} (hg : xY g X) (hw : wfL g) {x y : Int} (hx : -2147483648 ≤ x ∧ x < 2147483648) (hy : -2147483648 ≤ y ∧ y < 2147483648) : fX7_cellAt N (zI x) (zI y) X = some (zI (if inY g x y then 8 * y + x else -1), X) := by
  unfold fX7_cellAt fX7_cellAt_33 fX7_cellAt_34
  obtain ⟨⟨w1, w2, w3, w4⟩, -⟩ := hw
  rw [hg.1, hg.2.1, zl0, i_lt hx (by omega), i_le (by omega) hx, i_lt hy (by omega), i_le (by omega) hy, zl8, zM, zA, zlm1]
  by_cases h1 : x < 0
  · rw [if_pos h1, if_neg (by omega)]
  · rw [if_neg h1]
    by_cases h2 : (gC g : Int) ≤ x
    · rw [if_pos h2, if_neg (by omega)]
    · rw [if_neg h2]
      by_cases h3 : y < 0
      · rw [if_pos h3, if_neg (by omega)]
      · rw [if_neg h3]
        by_cases h4 : (gR g : Int) ≤ y
        · rw [if_pos h4, if_neg (by omega)]
        · rw [if_neg h4, if_pos (by omega)]
theorem tSX_d : ∀ k, k < 4 → tSX k = zI (dX k) := by decide +kernel
theorem tSY_d : ∀ k, k < 4 → tSY k = zI (dY k) := by decide +kernel
theorem z_a7 {p : Nat} (hp : p < 256) : zI (p : Int) &&& 7 = zI ((p % 8 : Nat)) := by
  rw [z_nI, z_nI]
  exact (by decide +kernel : ∀ p, p < 256 → nI p &&& 7 = nI (p % 8)) p hp
theorem z_r7 {p : Nat} (hp : p < 256) : (zI (p : Int) >>> (3 &&& 31)) &&& 7 = zI ((p / 8 % 8 : Nat)) := by
  rw [z_nI, z_nI]
  exact (by decide +kernel : ∀ p, p < 256 → (nI p >>> (3 &&& 31)) &&& 7 = nI (p / 8 % 8)) p hp
theorem z_a255 {p : Nat} (hp : p < 1000) : zI (p : Int) &&& 255 = zI ((p % 256 : Nat)) := by
  rw [z_nI, z_nI]
  exact (by decide +kernel : ∀ p, p < 1000 → nI p &&& 255 = nI (p % 256)) p hp
theorem x_shifted {N : Nat} {g : Lv} {X : St} (hg : xY g X) (hw : wfL g) {p k : Nat} (hp : p < 256) (hk : k < 6) : fX7_shifted N (zI p) (zI k) X = some (zI (if k < 4 ∧ ¬ inY g (((p % 8 : Nat) : Int) + dX k) (((p / 8 % 8 : Nat) : Int) + dY k) then -1 else pbI p k), X) := by
  unfold fX7_shifted fX7_shifted_82 fX7_shifted_83 fX7_shifted_110 fX7_shifted_15
  obtain ⟨⟨w1, w2, w3, w4⟩, -⟩ := hw
  by_cases h4 : k < 4
  · have d1 := dX_bd k
    have d2 := dY_bd k
    rw [zl4, i_lt (by omega) (by omega), if_pos (by omega), ck_z (by omega) (by omega) (by omega), ck_z (by omega) (by omega) (by omega), z_cl (by omega) (by omega), show ((k : Int)).toNat = k by omega, tSX_d k h4, tSY_d k h4, z_a7 hp, z_r7 hp, zA, zA, nm_ok, nm_ok, hg.1, hg.2.1, zl0, i_lt (by omega) (by omega), i_le (by omega) (by omega), i_lt (by omega) (by omega), i_le (by omega) (by omega)]
    rw [i_b, i_b, ck_z (by omega) (by omega) (by omega), ck_z (by omega) (by omega) (by omega), zl8, zM, zA, zA]
    unfold pbI
    rw [if_pos h4]
    by_cases h : inY g (((p % 8 : Nat) : Int) + dX k) (((p / 8 % 8 : Nat) : Int) + dY k)
    · rw [if_neg (c := k < 4 ∧ ¬ inY g (((p % 8 : Nat) : Int) + dX k) (((p / 8 % 8 : Nat) : Int) + dY k)) (fun z => z.2 h)]
      obtain ⟨a1, a2, a3, a4⟩ := h
      rw [if_neg (by omega), if_neg (by omega), if_neg (by omega), if_neg (by omega), if_pos rfl]
    · rw [if_pos (c := k < 4 ∧ ¬ inY g (((p % 8 : Nat) : Int) + dX k) (((p / 8 % 8 : Nat) : Int) + dY k)) ⟨h4, h⟩]
      have e : ∀ (A B : Option (Int32 × St)), (if (((p % 8 : Nat) : Int) + dX k) < 0 then A else if (gC g : Int) ≤ ((p % 8 : Nat) : Int) + dX k then A else if ((p / 8 % 8 : Nat) : Int) + dY k < 0 then A else if (gR g : Int) ≤ ((p / 8 % 8 : Nat) : Int) + dY k then A else B) = A := by
        intro A B
        by_cases h1 : (((p % 8 : Nat) : Int) + dX k) < 0
        · rw [if_pos h1]
        · rw [if_neg h1]
          by_cases h2 : (gC g : Int) ≤ ((p % 8 : Nat) : Int) + dX k
          · rw [if_pos h2]
          · rw [if_neg h2]
            by_cases h3 : ((p / 8 % 8 : Nat) : Int) + dY k < 0
            · rw [if_pos h3]
            · rw [if_neg h3]
              by_cases h5 : (gR g : Int) ≤ ((p / 8 % 8 : Nat) : Int) + dY k
              · rw [if_pos h5]
              · exact absurd (by omega) h
      rw [e]
      rfl
  · rw [zl4, i_lt (by omega) (by omega), if_neg (by omega), i_eq (by omega) (by omega), if_neg (c := k < 4 ∧ ¬ inY g (((p % 8 : Nat) : Int) + dX k) (((p / 8 % 8 : Nat) : Int) + dY k)) (fun z => h4 z.1)]
    unfold pbI
    rw [if_neg h4, zl64, zl1, zl3, zM, zM, zA, zA]
    by_cases h5 : k = 4
    · rw [if_pos (by omega), if_pos h5, show ((p : Int) + 64 * 1) = ((p + 64 : Nat) : Int) by omega, z_a255 (by omega)]
    · rw [if_neg (by omega), if_neg h5, show ((p : Int) + 64 * 3) = ((p + 192 : Nat) : Int) by omega, z_a255 (by omega)]
theorem celN {g : Lv} (hw : wfL g) {x y : Int} (h : inY g x y) : ∃ c : Nat, (c : Int) = 8 * y + x ∧ c < 64 ∧ iny g c = true ∧ gK g c = kd g x y ∧ c = (8 * y + x).toNat := by
  obtain ⟨q1, q2, q3, q4⟩ := cel_in hw h
  obtain ⟨a1, a2, a3, a4⟩ := h
  refine ⟨(8 * y + x).toNat, by omega, by omega, ?_, rfl, rfl⟩
  unfold iny
  rw [decide_eq_true (by omega), decide_eq_true (by omega)]
  rfl
theorem hasC_cell {g : Lv} {b p i c : Nat} (hi : i < gN g b) (h : (c : Int) = 8 * cy g b i p + cx g b i p) : hasC g b p c = true := anyB_iff.mpr ⟨i, hi, decide_eq_true h.symm⟩
theorem x_fits {N : Nat} {g : Lv} {X : St} (hB : xB g X) (hw : wfL g) {b p : Nat} (hb : b < 5) (hn : 0 < gN g b) (hp : p < 256) : fX0_fits N b (zI p) X = some (plc g b p, X) := by
  unfold fX0_fits fX0_fits_16
  have h := (hB b hb).2.2 hn p hp
  rw [ck_z (by omega) (by omega) (by omega), z_cl (by omega) (by omega), show ((p : Int)).toNat = p by omega, i_l0]
  cases hpl : plc g b p
  · rw [if_pos]
    exact bit_zero.mpr fun c hc => by rw [h c hc, hpl]; rfl
  · rw [if_neg]
    intro hz
    obtain ⟨c, h1, h2, -⟩ := celN hw (plc_in hpl hn).1
    have := bit_zero.mp hz c h2
    rw [h c h2, hpl, hasC_cell hn h1] at this
    cases this
/-! behind a push: the cells go along -/
theorem pb_cell {g : Lv} (hw : wfL g) {p k : Nat} (hp : p < 256) (hk : k < 4) (h : inY g (((p % 8 : Nat) : Int) + dX k) (((p / 8 % 8 : Nat) : Int) + dY k)) : ∃ q : Nat, pbI p k = (q : Int) ∧ q < 256 ∧ ∀ b i, cx g b i q = cx g b i p + dX k ∧ cy g b i q = cy g b i p + dY k := by
  obtain ⟨⟨w1, w2, w3, w4⟩, -⟩ := hw
  obtain ⟨a1, a2, a3, a4⟩ := h
  have e : pbI p k = (p : Int) + dX k + 8 * dY k := by unfold pbI; rw [if_pos hk]
  refine ⟨(pbI p k).toNat, by omega, by omega, fun b i => ?_⟩
  have e1 : (pbI p k).toNat / 64 = p / 64 := by omega
  have e2 : (((pbI p k).toNat % 8 : Nat) : Int) = ((p % 8 : Nat) : Int) + dX k := by omega
  have e3 : (((pbI p k).toNat / 8 % 8 : Nat) : Int) = ((p / 8 % 8 : Nat) : Int) + dY k := by omega
  unfold cx cy
  rw [e1, e2, e3]
  omega
/-- what the class asks of a push of one block, barred cells by their bits -/
def okP (g : Lv) (b p k : Nat) (w : Int64) : Bool := allB (gN g b) fun i => fr g (cx g b i p + dX k) (cy g b i p + dY k) && (!(bit w (8 * (cy g b i p + dY k) + (cx g b i p + dX k)).toNat) && (!(decide (2 ≤ kd g (cx g b i p + dX k) (cy g b i p + dY k) ∧ kd g (cx g b i p + dX k) (cy g b i p + dY k) ≤ 5)) || decide (kd g (cx g b i p + dX k) (cy g b i p + dY k) = 2 + k)))
theorem fr_in {g : Lv} {x y : Int} (h : fr g x y = true) : inY g x y ∧ kd g x y ≠ 1 := by
  unfold fr at h
  simp at h
  exact ⟨⟨h.1.1, h.1.2.1, h.1.2.2.1, h.1.2.2.2⟩, h.2⟩
theorem piv {g : Lv} {b p i : Nat} (h : gX g b i = 0 ∧ gY g b i = 0) : cx g b i p = ((p % 8 : Nat) : Int) ∧ cy g b i p = ((p / 8 % 8 : Nat) : Int) := by
  unfold cx cy rX rY
  rw [h.1, h.2]
  simp
theorem x_afterPush {N : Nat} {g : Lv} {X : St} (hg : xY g X) (hB : xB g X) (hw : wfL g) {b p k : Nat} {w : Int64} (hb : b < 5) (hn : 0 < gN g b) (hp : p < 256) (hk : k < 4) : fX0_afterPush N b (zI p) (zI k) w X = some (zI (if okP g b p k w then pbI p k else -1), X) := by
  unfold fX0_afterPush fX0_afterPush_22 fX0_afterPush_65
  rw [x_shifted hg hw hp (by omega), bd_ok]
  obtain ⟨ip, hip, hpiv⟩ := hw.2.2.2.2 b hb hn
  have hc := piv (p := p) hpiv
  by_cases h : inY g (((p % 8 : Nat) : Int) + dX k) (((p / 8 % 8 : Nat) : Int) + dY k)
  · rw [if_neg (c := k < 4 ∧ ¬ inY g (((p % 8 : Nat) : Int) + dX k) (((p / 8 % 8 : Nat) : Int) + dY k)) (fun z => z.2 h)]
    obtain ⟨q, e1, e2, e3⟩ := pb_cell hw hp hk h
    rw [e1, zl0, i_lt (by omega) (by omega), if_neg (by omega), x_fits hB hw hb hn e2, bd_ok, i_b]
    cases hpl : plc g b q
    · have : okP g b p k w = false := by
        obtain ⟨i, h1, h2⟩ := allB_f.mp hpl
        rw [(e3 b i).1, (e3 b i).2] at h2
        exact allB_f.mpr ⟨i, h1, by rw [h2]; rfl⟩
      rw [this, if_neg (by simp), if_neg (by simp)]
      rfl
    · rw [if_pos rfl, ck_z (by omega) (by omega) (by omega), nm_ok, ck_z (by omega) (by omega) (by omega), z_cl (by omega) (by omega), z_cl (by omega) (by omega), show ((k : Int)).toNat = k by omega, show ((q : Int)).toNat = q by omega, i_l0z]
      have key : ((X.2.2.2 (4 + b) q) &&& (w ||| ((X.2.1 1) &&& ((X.2.2.2 1 k) ^^^ (-1)))) = 0) ↔ okP g b p k w = true := by
        rw [bit_zero]
        constructor
        · intro hz
          refine allB_iff.mpr fun i hi => ?_
          have hfr := allB_iff.mp hpl i hi
          rw [(e3 b i).1, (e3 b i).2] at hfr
          obtain ⟨c, c1, c2, c3, c4, c5⟩ := celN hw (fr_in hfr).1
          have h1 := hz c c2
          rw [bit_and, bit_or, bit_and, bit_not _ c2, (hB b hb).2.2 hn q e2 c c2, hpl, hasC_cell hi (by rw [(e3 b i).1, (e3 b i).2]; exact c1), hg.2.2.2.2.1 c c2, hg.2.2.2.2.2.1 k hk c c2, c3, c4] at h1
          rw [hfr, ← c5]
          simp only [Bool.true_and] at h1 ⊢
          generalize kd g (cx g b i p + dX k) (cy g b i p + dY k) = K at h1 ⊢
          cases hbw : bit w c
          · rw [hbw] at h1
            simp only [Bool.false_or] at h1
            by_cases h5 : 2 ≤ K ∧ K ≤ 5
            · rw [decide_eq_true h5] at h1 ⊢
              simp at h1
              simp [h1]
            · rw [decide_eq_false h5]
              rfl
          · rw [hbw] at h1
            simp at h1
        · intro hok c hc2
          rw [bit_and, bit_or, bit_and, bit_not _ hc2, (hB b hb).2.2 hn q e2 c hc2, hpl, Bool.true_and]
          cases hh : hasC g b q c
          · rfl
          · obtain ⟨i, hi, hci⟩ := anyB_iff.mp hh
            have hci := of_decide_eq_true hci
            rw [(e3 b i).1, (e3 b i).2] at hci
            have h1 := allB_iff.mp hok i hi
            simp only [Bool.and_eq_true] at h1
            obtain ⟨hfr, hbw, how⟩ := h1
            obtain ⟨c', c1, c2, c3, c4, c5⟩ := celN hw (fr_in hfr).1
            have hcc : c = c' := by omega
            subst hcc
            rw [← c5] at hbw
            rw [hg.2.2.2.2.1 c hc2, hg.2.2.2.2.2.1 k hk c hc2, c3, c4]
            generalize kd g (cx g b i p + dX k) (cy g b i p + dY k) = K at how ⊢
            simp only [Bool.not_eq_true'] at hbw
            rw [hbw]
            simp only [Bool.true_and, Bool.false_or]
            by_cases h5 : 2 ≤ K ∧ K ≤ 5
            · rw [decide_eq_true h5] at how
              simp at how
              simp [how]
            · rw [decide_eq_false h5]
              rfl
      by_cases hz : ((X.2.2.2 (4 + b) q) &&& (w ||| ((X.2.1 1) &&& ((X.2.2.2 1 k) ^^^ (-1)))) = 0)
      · rw [if_pos hz, if_pos (key.mp hz)]
      · rw [if_neg hz, if_neg (fun z => hz (key.mpr z))]
        rfl
  · have : okP g b p k w = false := by
      refine allB_f.mpr ⟨ip, hip, ?_⟩
      unfold fr
      rw [hc.1, hc.2, decide_eq_false h]
      rfl
    rw [if_pos (c := k < 4 ∧ ¬ inY g (((p % 8 : Nat) : Int) + dX k) (((p / 8 % 8 : Nat) : Int) + dY k)) ⟨hk, h⟩, zl0, i_lt (by omega) (by omega), if_pos (by omega), this]
    rfl
