/-! a property of a block -/
theorem k_block {N : Nat} : ∀ (p1 p2 : Int32) (X M : St), Rel X M → ∃ r X2 M2, fX8_block N p1 p2 X = some (r, X2) ∧ fX9_block N p1 p2 M = some (r, M2) ∧ Rel X2 M2 := by
  rintro p1 p2 X M ⟨g, wt, th, st, gx, gy, gt, D, p, h⟩
  obtain ⟨q, rfl, hq⟩ := z_ex p1
  obtain ⟨w, rfl, hw2⟩ := z_ex p2
  have hw := h.1.1
  unfold fX8_block fX9_block fX8_block_23 fX9_block_32
  rw [zlm1, zlm3, zlm7, zl0, zl1, zl2, zl3, zl4, zl5, zl6, zl7, zl8, zl64, x_has h.2.2.1.2.1 hw hq, bd_ok, m_noBlock h.2.2.2.1.1 hw hq, bd_ok, i_d, i_b]
  by_cases hB : 0 ≤ q ∧ q < 5 ∧ 0 < gN g q.toNat
  · obtain ⟨b, rfl⟩ : ∃ b : Nat, q = (b : Int) := ⟨q.toNat, by omega⟩
    rw [if_pos hB, decide_eq_true hB, if_neg (c := (!true) = true) (by simp)]
    rw [show ((b : Int)).toNat = b by omega] at hB
    have hb5 : b < 5 := by omega
    have hck : ∀ (E : Option (Int32 × St)), ck (zI b) 5 E = E := fun E => ck_z (by omega) (by omega) (by omega)
    have hcl : Int32.toNatClampNeg (zI (b : Int)) = b := by rw [z_cl (by omega) (by omega)]; omega
    have hp2 := (h.2.1.1 b hb5).1
    have hen := pkA_enc fun b hb => (h.2.1.1 b hb).1
    have hG := h.2.2.2.1.2.2.2.2.1 b hb5
    have hxG := h.2.2.2.2.2.1 b hb5 hB.2.2
    obtain ⟨hgb1, hgb2, hgb3, hgb4, hgb5, hgb6⟩ := h.1.2.2.2.2.1 b
    simp only [hck, hcl]
    rw [m_in hw2 (by omega) (by omega), bd_ok, i_d, i_lt (by omega) (by omega), i_le (by omega) (by omega), i_lt (by omega) (by omega)]
    by_cases hW : 0 ≤ w ∧ w ≤ 7
    · rw [if_neg (by omega), if_pos (by omega)]
      by_cases h5 : w < 5
      · rw [if_pos h5, if_neg (c := 5 ≤ w ∧ w ≤ 7) (by omega), x_present h.2.2.2.2.2.2.1, bd_ok, x_placementIn hen.1 hb5, bd_ok, hen.2 b hb5, x_columnOf hp2, bd_ok, x_rowOf hp2, bd_ok, x_orientationOf hp2, bd_ok, h.2.2.2.2.1 b hb5]
        obtain rfl | rfl | rfl | rfl | rfl : w = 0 ∨ w = 1 ∨ w = 2 ∨ w = 3 ∨ w = 4 := by omega
        · simp only [if_false, if_true, eq_self]
          rw [z_rem (by omega) (by omega) (by omega) (by omega), show (p b : Int) % 8 = ((p b % 8 : Nat) : Int) by omega]
          exact ⟨_, X, M, rfl, rfl, h.rel⟩
        · simp only [show ¬ zI 1 = zI 0 by decide, if_false, if_true, eq_self]
          rw [z_div (by omega) (by omega) (by omega) (by omega), z_rem (by omega) (by omega) (by omega) (by omega), show (p b : Int) / 8 % 8 = ((p b / 8 % 8 : Nat) : Int) by omega]
          exact ⟨_, X, M, rfl, rfl, h.rel⟩
        · simp only [show ¬ zI 2 = zI 0 by decide, show ¬ zI 2 = zI 1 by decide, if_false, if_true, eq_self]
          rw [z_div (by omega) (by omega) (by omega) (by omega), show (p b : Int) / 64 = ((p b / 64 : Nat) : Int) by omega]
          exact ⟨_, X, M, rfl, rfl, h.rel⟩
        · simp only [show ¬ zI 3 = zI 0 by decide, show ¬ zI 3 = zI 1 by decide, show ¬ zI 3 = zI 2 by decide, if_false, if_true, eq_self]
          rw [h.2.2.1.2.2.1 b hb5 hB.2.2, h.2.2.2.1.2.2.1 b hb5]
          exact ⟨_, X, M, rfl, rfl, h.rel⟩
        · simp only [show ¬ zI 4 = zI 0 by decide, show ¬ zI 4 = zI 1 by decide, show ¬ zI 4 = zI 2 by decide, show ¬ zI 4 = zI 3 by decide, if_false, if_true, eq_self]
          rw [(h.2.2.1.2.1 b hb5).1, h.2.2.2.1.1.2.2.2.1 b hb5]
          exact ⟨_, X, M, rfl, rfl, h.rel⟩
      · unfold fX0_goalProperty fX0_hasGoal fX0_hasGoal_13 fX0_goalProperty_41
        rw [if_neg h5, if_pos (c := 5 ≤ w ∧ w ≤ 7) (by omega), hG.2.2, i_le (by omega) (by omega), zlm1, zlm7, zl0, zl2, zS]
        by_cases hgt : 0 ≤ gt b
        · obtain ⟨x1, x2, x3⟩ := hxG.1 hgt
          obtain ⟨c1, c2, c3, c4⟩ := cel_in hw x1
          obtain ⟨cc, hcc⟩ : ∃ cc : Nat, (cc : Int) = 8 * gy b + gx b := ⟨(8 * gy b + gx b).toNat, by omega⟩
          rw [if_pos hgt, x2, ← hcc, i_eq (a := (cc : Int)) (b := -1) (by omega) (by omega), if_neg (c := (cc : Int) = -1) (by omega), bd_ok, i_b, if_pos (c := true = true) rfl, x2, ← hcc, x_columnOf (show cc < 256 by omega), bd_ok, x_rowOf (show cc < 256 by omega), bd_ok, x3, hG.1, hG.2.1]
          obtain rfl | rfl | rfl : w = 5 ∨ w = 6 ∨ w = 7 := by omega
          · rw [show (5 : Int) - 5 = 0 from rfl]
            simp only [show ¬ zI 5 = zI 0 by decide, show ¬ zI 5 = zI 1 by decide, show ¬ zI 5 = zI 2 by decide, show ¬ zI 5 = zI 3 by decide, show ¬ zI 5 = zI 4 by decide, show ¬ zI 0 = zI 2 by decide, if_false, if_true, eq_self]
            rw [bd_ok, show ((cc % 8 : Nat) : Int) = gx b by omega]
            exact ⟨_, X, M, rfl, rfl, h.rel⟩
          · rw [show (6 : Int) - 5 = 1 from rfl]
            simp only [show ¬ zI 6 = zI 0 by decide, show ¬ zI 6 = zI 1 by decide, show ¬ zI 6 = zI 2 by decide, show ¬ zI 6 = zI 3 by decide, show ¬ zI 6 = zI 4 by decide, show ¬ zI 6 = zI 5 by decide, show ¬ zI 1 = zI 2 by decide, show ¬ zI 1 = zI 0 by decide, if_false, if_true, eq_self]
            rw [bd_ok, show ((cc / 8 % 8 : Nat) : Int) = gy b by omega]
            exact ⟨_, X, M, rfl, rfl, h.rel⟩
          · rw [show (7 : Int) - 5 = 2 from rfl]
            simp only [show ¬ zI 7 = zI 0 by decide, show ¬ zI 7 = zI 1 by decide, show ¬ zI 7 = zI 2 by decide, show ¬ zI 7 = zI 3 by decide, show ¬ zI 7 = zI 4 by decide, show ¬ zI 7 = zI 5 by decide, show ¬ zI 7 = zI 6 by decide, if_false, if_true, eq_self]
            rw [bd_ok]
            exact ⟨_, X, M, rfl, rfl, h.rel⟩
        · obtain ⟨x1, x2⟩ := hxG.2 (by omega)
          rw [if_neg hgt, x1, if_pos (c := zI (-1) = zI (-1)) rfl, bd_ok, i_b, if_neg (c := false = true) (by simp), bd_ok]
          exact ⟨_, X, M, rfl, rfl, h.rel⟩
    · have e8 : ∀ c : Int, 0 ≤ c → c < 8 → ¬ zI w = zI c := fun c hc hc2 => by rw [z_eq (by omega) (by omega)]; omega
      rw [if_neg (c := 5 ≤ w ∧ w ≤ 7) (by omega)]
      simp only [e8 0 (by omega) (by omega), e8 1 (by omega) (by omega), e8 2 (by omega) (by omega), e8 3 (by omega) (by omega), e8 4 (by omega) (by omega), e8 5 (by omega) (by omega), e8 6 (by omega) (by omega), e8 7 (by omega) (by omega), if_false]
      by_cases h0 : w < 0
      · rw [if_pos h0]; exact ⟨_, X, M, rfl, rfl, h.rel⟩
      · rw [if_neg h0, if_neg (by omega)]; exact ⟨_, X, M, rfl, rfl, h.rel⟩
  · rw [if_neg hB, decide_eq_false hB, if_pos (c := (!false) = true) rfl]
    exact ⟨_, X, M, rfl, rfl, h.rel⟩
