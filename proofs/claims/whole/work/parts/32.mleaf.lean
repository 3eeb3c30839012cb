/-! the reference holds a level -/
def mL (g : Lv) (M : St) : Prop := M.1 0 = zI (gC g) ∧ M.1 1 = zI (gR g) ∧ (∀ x y : Nat, x < gC g → y < gR g → M.2.2.1 1 (8 * y + x) = zI (gK g (8 * y + x))) ∧ (∀ b, b < 5 → M.2.2.1 2 b = zI (gN g b)) ∧ ∀ b, b < 5 → ∀ i, i < gN g b → M.2.2.1 3 (5 * b + i) = zI (gX g b i) ∧ M.2.2.1 4 (5 * b + i) = zI (gY g b i)
def mPl (p : Nat → Nat) (M : St) : Prop := ∀ b, b < 5 → M.2.2.1 9 b = zI (p b)
def mW8 (wt : Nat → Nat) (M : St) : Prop := ∀ b, b < 5 → M.2.2.1 5 b = zI (wt b)
theorem mL.ag {g : Lv} {is js as ls : List Nat} {M M2 : St} (h : mL g M) (a : agr is js as ls M M2) (h0 : 0 ∉ is) (h1 : 1 ∉ is) (a1 : 1 ∉ as) (a2 : 2 ∉ as) (a3 : 3 ∉ as) (a4 : 4 ∉ as) : mL g M2 := by
  obtain ⟨e0, e1, e2, e3, e4⟩ := h
  unfold mL
  rw [a.1 0 h0, a.1 1 h1, a.2.2.1 1 a1, a.2.2.1 2 a2, a.2.2.1 3 a3, a.2.2.1 4 a4]
  exact ⟨e0, e1, e2, e3, e4⟩
theorem mPl.ag {p : Nat → Nat} {is js as ls : List Nat} {M M2 : St} (h : mPl p M) (a : agr is js as ls M M2) (h9 : 9 ∉ as) : mPl p M2 := by
  unfold mPl
  rw [a.2.2.1 9 h9]
  exact h
theorem mW8.ag {w : Nat → Nat} {is js as ls : List Nat} {M M2 : St} (h : mW8 w M) (a : agr is js as ls M M2) (h9 : 5 ∉ as) : mW8 w M2 := by
  unfold mW8
  rw [a.2.2.1 5 h9]
  exact h
theorem m_in {N : Nat} {v a b : Int} {M : St} (hv : -2147483648 ≤ v ∧ v < 2147483648) (ha : -2147483648 ≤ a ∧ a < 2147483648) (hb : -2147483648 ≤ b ∧ b < 2147483648) : fX9_in N (zI v) (zI a) (zI b) M = some (decide (a ≤ v ∧ v ≤ b), M) := by
  unfold fX9_in fX9_in_14 fX9_in_15
  rw [i_lt hv ha, i_lt hb hv]
  by_cases h1 : v < a
  · rw [if_pos h1, decide_eq_false (by omega)]
  · rw [if_neg h1]
    by_cases h2 : b < v
    · rw [if_pos h2, decide_eq_false (by omega)]
    · rw [if_neg h2, decide_eq_true (by omega)]
theorem m_noBlock {N : Nat} {g : Lv} {M : St} (hg : mL g M) (hw : wfL g) {b : Int} (hb : -2147483648 ≤ b ∧ b < 2147483648) : fX9_noBlock N (zI b) M = some (!decide (0 ≤ b ∧ b < 5 ∧ 0 < gN g b.toNat), M) := by
  unfold fX9_noBlock fX9_noBlock_18 fX9_noBlock_23
  rw [zl0, zl4, m_in hb (by omega) (by omega), bd_ok, i_d]
  by_cases h1 : 0 ≤ b ∧ b ≤ 4
  · rw [if_pos h1, ck_z h1.1 (by omega) (by omega), z_cl h1.1 (by omega), hg.2.2.2.1 b.toNat (by omega)]
    have hn := hw.2.2.1 b.toNat
    rw [i_eq (by omega) (by omega)]
    by_cases h2 : gN g b.toNat = 0
    · rw [if_pos (by omega), decide_eq_false (by omega)]; rfl
    · rw [if_neg (by omega), decide_eq_true (by omega)]; rfl
  · rw [if_neg h1, decide_eq_false (by omega)]; rfl
theorem m_isInYard {N : Nat} {g : Lv} {M : St} (hg : mL g M) (hw : wfL g) {x y : Int} (hx : -2147483648 ≤ x ∧ x < 2147483648) (hy : -2147483648 ≤ y ∧ y < 2147483648) : fX9_isInYard N (zI x) (zI y) M = some (decide (inY g x y), M) := by
  unfold fX9_isInYard fX9_isInYard_32 fX9_isInYard_33
  obtain ⟨⟨w1, w2, w3, w4⟩, -⟩ := hw
  rw [hg.1, zl0, zl1, zS, m_in hx (by omega) (by omega), bd_ok, i_d, hg.2.1, zS, m_in hy (by omega) (by omega), bd_ok, i_d]
  by_cases h1 : 0 ≤ x ∧ x ≤ (gC g : Int) - 1
  · rw [if_pos h1]
    by_cases h2 : 0 ≤ y ∧ y ≤ (gR g : Int) - 1
    · rw [if_pos h2, decide_eq_true (by omega)]
    · rw [if_neg h2, decide_eq_false (by omega)]
  · rw [if_neg h1, decide_eq_false (by omega)]
theorem m_kindAt {N : Nat} {g : Lv} {M : St} (hg : mL g M) (hw : wfL g) {x y : Int} (h : inY g x y) : fX9_kindAt N (zI x) (zI y) M = some (zI (kd g x y), M) := by
  unfold fX9_kindAt
  obtain ⟨⟨w1, w2, w3, w4⟩, -⟩ := hw
  obtain ⟨h1, h2, h3, h4⟩ := h
  rw [zl8, zM, zA, ck_z (by omega) (by omega) (by omega), z_cl (by omega) (by omega)]
  have e : (8 * y + x).toNat = 8 * y.toNat + x.toNat := by omega
  have := hg.2.2.1 x.toNat y.toNat (by omega) (by omega)
  rw [e, this]
  unfold kd
  rw [e]
theorem m_turnedX {N : Nat} {a b : Int} {o : Nat} {M : St} (ho : o < 4) : fX9_turnedX N (zI a) (zI b) (zI o) M = some (zI (rX o a b), M) := by
  unfold fX9_turnedX fX9_turnedX_29 rX
  rw [zl0, zl1, zl2, i_eq (by omega) (by omega), i_eq (by omega) (by omega), i_eq (by omega) (by omega), zN, zN]
  by_cases h0 : o = 0
  · simp [h0]
  · by_cases h1 : o = 1
    · simp [h1]
    · by_cases h2 : o = 2
      · simp [h2]
      · rw [if_neg (by omega), if_neg (by omega), if_neg (by omega), if_neg h0, if_neg h1, if_neg h2]
theorem m_turnedY {N : Nat} {a b : Int} {o : Nat} {M : St} (ho : o < 4) : fX9_turnedY N (zI a) (zI b) (zI o) M = some (zI (rY o a b), M) := by
  unfold fX9_turnedY fX9_turnedY_29 rY
  rw [zl0, zl1, zl2, i_eq (by omega) (by omega), i_eq (by omega) (by omega), i_eq (by omega) (by omega), zN, zN]
  by_cases h0 : o = 0
  · simp [h0]
  · by_cases h1 : o = 1
    · simp [h1]
    · by_cases h2 : o = 2
      · simp [h2]
      · rw [if_neg (by omega), if_neg (by omega), if_neg (by omega), if_neg h0, if_neg h1, if_neg h2]
theorem m_cellX {N : Nat} {g : Lv} {M : St} (hg : mL g M) (hw : wfL g) {b i p : Nat} (hb : b < 5) (hi : i < gN g b) (hp : p < 256) : fX9_cellX N (zI b) (zI i) (zI p) M = some (zI (cx g b i p), M) := by
  unfold fX9_cellX
  have hn := hw.2.2.1 b
  rw [zl5, zM, zA, ck_z (by omega) (by omega) (by omega), ck_z (by omega) (by omega) (by omega), z_cl (by omega) (by omega)]
  have e : ((5 * (b : Int) + (i : Int))).toNat = 5 * b + i := by omega
  obtain ⟨e1, e2⟩ := hg.2.2.2.2 b hb i hi
  rw [e, e1, e2, zl64, z_div (by omega) (by omega) (by omega) (by omega), show ((p : Int) / 64) = ((p / 64 : Nat) : Int) by omega, m_turnedX (by omega), bd_ok, zl8, z_rem (by omega) (by omega) (by omega) (by omega), zA]
  unfold cx
  rw [show ((p : Int) % 8) = ((p % 8 : Nat) : Int) by omega]
theorem m_cellY {N : Nat} {g : Lv} {M : St} (hg : mL g M) (hw : wfL g) {b i p : Nat} (hb : b < 5) (hi : i < gN g b) (hp : p < 256) : fX9_cellY N (zI b) (zI i) (zI p) M = some (zI (cy g b i p), M) := by
  unfold fX9_cellY
  have hn := hw.2.2.1 b
  rw [zl5, zM, zA, ck_z (by omega) (by omega) (by omega), ck_z (by omega) (by omega) (by omega), z_cl (by omega) (by omega)]
  have e : ((5 * (b : Int) + (i : Int))).toNat = 5 * b + i := by omega
  obtain ⟨e1, e2⟩ := hg.2.2.2.2 b hb i hi
  rw [e, e1, e2, zl64, z_div (by omega) (by omega) (by omega) (by omega), show ((p : Int) / 64) = ((p / 64 : Nat) : Int) by omega, m_turnedY (by omega), bd_ok, zl8, z_div (by omega) (by omega) (by omega) (by omega), show ((p : Int) / 8) = ((p / 8 : Nat) : Int) by omega, z_rem (by omega) (by omega) (by omega) (by omega), zA]
  unfold cy
  rw [show (((p / 8 : Nat) : Int) % 8) = ((p / 8 % 8 : Nat) : Int) by omega]
def dX (k : Nat) : Int := if k = 0 then 1 else if k = 2 then -1 else 0
def dY (k : Nat) : Int := if k = 1 then 1 else if k = 3 then -1 else 0
theorem dX_bd (k : Nat) : -1 ≤ dX k ∧ dX k ≤ 1 := by unfold dX; split <;> (try split) <;> omega
theorem dY_bd (k : Nat) : -1 ≤ dY k ∧ dY k ≤ 1 := by unfold dY; split <;> (try split) <;> omega
theorem m_stepX {N k : Nat} {M : St} (hk : k < 6) : fX9_stepX N (zI k) M = some (zI (dX k), M) := by
  unfold fX9_stepX fX9_stepX_18 dX
  rw [zl0, zl1, zl2, zN, i_eq (by omega) (by omega), i_eq (by omega) (by omega)]
  by_cases h0 : k = 0
  · simp [h0]
  · by_cases h2 : k = 2
    · simp [h2]
    · rw [if_neg (by omega), if_neg (by omega), if_neg h0, if_neg h2]
theorem m_stepY {N k : Nat} {M : St} (hk : k < 6) : fX9_stepY N (zI k) M = some (zI (dY k), M) := by
  unfold fX9_stepY fX9_stepY_19 dY
  rw [zl0, zl1, zl3, zN, i_eq (by omega) (by omega), i_eq (by omega) (by omega)]
  by_cases h0 : k = 1
  · simp [h0]
  · by_cases h2 : k = 3
    · simp [h2]
    · rw [if_neg (by omega), if_neg (by omega), if_neg h0, if_neg h2]
