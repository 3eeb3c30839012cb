/-! the level that a text tells -/
def lvOf (s : Sc) : Lv := (sW s, sY s + 1, fun q => (sK s q).toNat, sN s, fun b i => if 0 ≤ sP s b then (sU s b i : Int) - sP s b % 8 else 0, fun b i => if 0 ≤ sP s b then (sV s b i : Int) - sP s b / 8 else 0)
def arOf (s : Sc) (b : Nat) : Nat := (sP s b).toNat
theorem lq_C (s : Sc) : gC (lvOf s) = sW s := rfl
theorem lq_R (s : Sc) : gR (lvOf s) = sY s + 1 := rfl
theorem lq_K (s : Sc) (q : Nat) : gK (lvOf s) q = (sK s q).toNat := rfl
theorem lq_N (s : Sc) (b : Nat) : gN (lvOf s) b = sN s b := rfl
theorem lq_X {s : Sc} {b : Nat} (h : 0 ≤ sP s b) (i : Nat) : gX (lvOf s) b i = (sU s b i : Int) - sP s b % 8 := if_pos h
theorem lq_Y {s : Sc} {b : Nat} (h : 0 ≤ sP s b) (i : Nat) : gY (lvOf s) b i = (sV s b i : Int) - sP s b / 8 := if_pos h
def pivs (s : Sc) : Prop := ∀ b, b < 5 → 0 < sN s b → 0 ≤ sP s b
theorem lq_wf {c : Nat → Nat} {n : Nat} (h : full c n) (hp : pivs (sc c n)) : wfL (lvOf (sc c n)) := by
  obtain ⟨i1, i2, i3⟩ := iv_all n h.1
  have h2 := h.2.1
  have w := i1.2.2 (by omega)
  have y7 := i1.1
  refine ⟨⟨w.2.1, w.2.2.1, by rw [lq_R]; omega, by rw [lq_R]; omega⟩, fun q => ?_, i2.1, fun b i => ?_, fun b hb hn => ?_⟩
  · have := i2.2.1 q
    rw [lq_K]; omega
  · have u := i2.2.2.1 b i
    have p := sP_bd i2 b
    by_cases hP : 0 ≤ sP (sc c n) b
    · rw [lq_X hP, lq_Y hP]; omega
    · have e1 : gX (lvOf (sc c n)) b i = 0 := if_neg hP
      have e2 : gY (lvOf (sc c n)) b i = 0 := if_neg hP
      rw [e1, e2]; omega
  · rw [lq_N] at hn
    have hP := hp b hb hn
    rcases i2.2.2.2 b with z | ⟨i, hi, z⟩
    · omega
    · have u := i2.2.2.1 b i
      refine ⟨i, hi, ?_, ?_⟩
      · rw [lq_X hP]; omega
      · rw [lq_Y hP]; omega
theorem lq_cell {c : Nat → Nat} {n : Nat} (h : full c n) {b i : Nat} (hi : i < sN (sc c n) b) : sU (sc c n) b i < sW (sc c n) ∧ sV (sc c n) b i ≤ sY (sc c n) ∧ (sW (sc c n) + 1) * sV (sc c n) b i + sU (sc c n) b i < n ∧ bo (c ((sW (sc c n) + 1) * sV (sc c n) b i + sU (sc c n) b i)) = (b : Int) := by
  obtain ⟨i1, i2, i3⟩ := iv_all n h.1
  obtain ⟨τ, t1, t2, t3, t4, t5⟩ := i3 b i hi
  have p0 := pos_at h (show τ ≤ n by omega)
  have p1 := (pos_at h (show τ + 1 ≤ n by omega)).2.1
  rw [sc_C t2] at p1
  have p1' : sX (sc c τ) + 1 ≤ sW (sc c n) := p1
  rw [t4, t5] at p0
  rw [t4] at p1'
  rw [← p0.1]
  exact ⟨by omega, p0.2.2.2, t1, t3⟩
theorem ar_lt {s : Sc} (h2 : iv2 s) (b : Nat) : arOf s b < 64 := by
  have := sP_bd h2 b
  unfold arOf
  omega
theorem lq_cx {s : Sc} (h2 : iv2 s) {b : Nat} (hP : 0 ≤ sP s b) (i : Nat) : cx (lvOf s) b i (arOf s b) = (sU s b i : Int) ∧ cy (lvOf s) b i (arOf s b) = (sV s b i : Int) := by
  have p := sP_bd h2 b
  have hz : arOf s b / 64 = 0 := by have := ar_lt h2 b; omega
  unfold cx cy
  rw [hz, lq_X hP, lq_Y hP]
  unfold rX rY
  rw [if_pos rfl, if_pos rfl]
  unfold arOf
  omega
theorem lq_ok {c : Nat → Nat} {n : Nat} (h : full c n) (hp : pivs (sc c n)) : okA (lvOf (sc c n)) (arOf (sc c n)) := by
  obtain ⟨i1, i2, i3⟩ := iv_all n h.1
  have h2 := h.2.1
  have w := i1.2.2 (by omega)
  have key : ∀ b, b < 5 → ∀ i, i < sN (sc c n) b → cx (lvOf (sc c n)) b i (arOf (sc c n) b) = (sU (sc c n) b i : Int) ∧ cy (lvOf (sc c n)) b i (arOf (sc c n) b) = (sV (sc c n) b i : Int) := fun b hb i hi => lq_cx i2 (hp b hb (by omega)) i
  refine ⟨fun b hb => ⟨by have := ar_lt i2 b; omega, fun hz => ?_, ?_⟩, fun b hb d hd hbd q hq => ?_⟩
  · have p := sP_bd i2 b
    have := p.2.2 hz
    unfold arOf
    omega
  · unfold plc
    rw [allB_iff]
    intro i hi
    obtain ⟨e1, e2⟩ := key b hb i hi
    obtain ⟨l1, l2, l3, l4⟩ := lq_cell h hi
    rw [e1, e2]
    unfold fr kd
    rw [decide_eq_true ⟨by omega, by rw [lq_C]; omega, by omega, by rw [lq_R]; omega⟩, lq_K, show (8 * (sV (sc c n) b i : Int) + (sU (sc c n) b i : Int)).toNat = 8 * sV (sc c n) b i + sU (sc c n) b i by omega, kind_in h l1 l2]
    have : kd1 (c ((sW (sc c n) + 1) * sV (sc c n) b i + sU (sc c n) b i)) = 0 := if_pos (by omega)
    rw [this]
    rfl
  · obtain ⟨q1, q2⟩ := hq
    unfold hasC at q1 q2
    obtain ⟨i, hi, e1⟩ := anyB_iff.mp q1
    obtain ⟨j, hj, e2⟩ := anyB_iff.mp q2
    have e1 := of_decide_eq_true e1
    have e2 := of_decide_eq_true e2
    obtain ⟨k1, k2⟩ := key b hb i hi
    obtain ⟨k3, k4⟩ := key d hd j hj
    obtain ⟨l1, l2, l3, l4⟩ := lq_cell h hi
    obtain ⟨m1, m2, m3, m4⟩ := lq_cell h hj
    rw [k1, k2] at e1
    rw [k3, k4] at e2
    have z1 : sU (sc c n) b i = sU (sc c n) d j := by omega
    have z2 : sV (sc c n) b i = sV (sc c n) d j := by omega
    rw [z1, z2, m4] at l4
    omega
