/-! weights; save and restore -/
theorem k_setWeight {N : Nat} : ∀ (p1 p2 : Int32) (X M : St), Rel X M → ∃ r X2 M2, fX8_setWeight N p1 p2 X = some (r, X2) ∧ fX9_setWeight N p1 p2 M = some (r, M2) ∧ Rel X2 M2 := by
  rintro p1 p2 X M ⟨g, wt, th, st, gx, gy, gt, D, p, h⟩
  obtain ⟨q, rfl, hq⟩ := z_ex p1
  obtain ⟨x, rfl, hx⟩ := z_ex p2
  have hw := h.1.1
  unfold fX8_setWeight fX9_setWeight fX8_setWeight_24
  rw [x_has h.2.2.1.2.1 hw hq, bd_ok, m_noBlock h.2.2.2.1.1 hw hq, bd_ok, zl0, i_d]
  by_cases hB : 0 ≤ q ∧ q < 5 ∧ 0 < gN g q.toNat
  · rw [if_pos hB, decide_eq_true hB, i_b, if_neg (c := (!true) = true) (by simp), zl1, show (9 : Int32) = zI 9 from rfl, m_in hx (by omega) (by omega), bd_ok, i_d, i_lt (by omega) (by omega), i_le (by omega) (by omega)]
    by_cases hr : 1 ≤ x ∧ x ≤ 9
    · obtain ⟨i, rfl⟩ : ∃ i : Nat, q = (i : Int) := ⟨q.toNat, by omega⟩
      rw [show ((i : Int)).toNat = i by omega] at hB
      have hi5 : i < 5 := by omega
      rw [if_neg (by omega), if_pos (by omega), if_pos hr, ck_z (by omega) (by omega) (by omega), ck_z (by omega) (by omega) (by omega), nm_ok, nm_ok, ck_z (by omega) (by omega) (by omega), ck_z (by omega) (by omega) (by omega), z_cl (by omega) (by omega), show ((i : Int)).toNat = i by omega, stp_ok, stp_ok]
      unfold fX5_forget
      rw [stp_ok, bd_ok, h.2.2.1.2.2.1 i hi5 hB.2.2, h.2.2.2.1.2.2.1 i hi5]
      have a : agr [10 + i, 32] [] [] [] X (sI (sI X (10 + i) (zI x)) 32 0) := agr.sI (agr.sI (agr.rf _) (by simp) _) (by simp) _
      have m : agr [] [] [5] [] M (sA M 5 i (zI x)) := agr.sA (agr.rf _) (by simp) _ _
      obtain ⟨h1, h2, h3, h4, h5, h6, h7, h8, h9, h10⟩ := h
      have hw9 : ∀ r, (if r = i then x.toNat else wt r) ≤ 9 := fun r => by
        have := h1.2.2.1 r
        split <;> omega
      refine ⟨_, _, _, rfl, rfl, g, fun r => if r = i then x.toNat else wt r, th, st, gx, gy, gt, D, p, ⟨h1.1, h1.2.1, hw9, h1.2.2.2⟩, h2, ⟨h3.1.ag a (by simp; omega) (by simp; omega) (by simp) (by simp) (by simp) (by simp) (by simp) (by simp), h3.2.1.ag a (fun b hb => by simp; omega) (fun b hb => by simp) (fun b hb => by simp) (fun b hb => by simp), fun b hb hn => ?_, h3.2.2.2.1, by rw [a.1 2 (by simp; omega)]; exact h3.2.2.2.2.1, h3.2.2.2.2.2⟩, ⟨h4.1.ag m (by decide) (by decide) (by decide) (by decide) (by decide) (by decide), h4.2.1.ag m (by decide), fun b hb => ?_, h4.2.2.2.1, h4.2.2.2.2.1, h4.2.2.2.2.2⟩, h5, fun b hb hn => by rw [a.1 (15 + b) (by simp; omega), a.1 (20 + b) (by simp; omega)]; exact h6 b hb hn, ?_, ?_, ?_, Or.inl (sI_same _ _ _)⟩
      · rw [sI_ne _ _ (by omega)]
        dsimp only
        by_cases hbi : b = i
        · subst hbi; rw [sI_same, if_pos rfl, show ((x.toNat : Nat) : Int) = x by omega]
        · rw [sI_ne _ _ (by omega), if_neg hbi]; exact h3.2.2.1 b hb hn
      · dsimp only
        by_cases hbi : b = i
        · subst hbi; rw [sA_same, if_pos rfl, show ((x.toNat : Nat) : Int) = x by omega]
        · rw [sA_oth _ _ hbi, if_neg hbi]; exact h4.2.2.1 b hb
      · unfold rHi
        rw [a.1 28 (by simp; omega), a.1 29 (by simp; omega), m.2.2.1 20 (by decide), m.2.2.1 21 (by decide)]; exact h7
      · unfold rSl
        rw [a.1 0 (by simp; omega), m.2.2.1 22 (by decide)]; exact h8
      · unfold rTx
        rw [a.1 1 (by simp; omega), m.2.2.1 10 (by decide)]; exact h9
    · rw [if_neg hr]
      by_cases h0 : x < 1
      · rw [if_pos h0]; exact ⟨_, X, M, rfl, rfl, h.rel⟩
      · rw [if_neg h0, if_neg (by omega)]; exact ⟨_, X, M, rfl, rfl, h.rel⟩
  · rw [if_neg hB, decide_eq_false hB, i_b, if_pos (c := (!false) = true) rfl]
    exact ⟨_, X, M, rfl, rfl, h.rel⟩
theorem x_isSlot {N : Nat} {x : Int} {X : St} (hx : -2147483648 ≤ x ∧ x < 2147483648) : fX8_isSlot N (zI x) X = some (decide (0 ≤ x ∧ x ≤ 3), X) := by
  unfold fX8_isSlot fX8_isSlot_13 fX8_isSlot_14
  rw [zl0, i_lt (by omega) (by omega), zl4, i_le (by omega) (by omega)]
  by_cases h : x < 0
  · rw [if_pos h, decide_eq_false (by omega)]
  · rw [if_neg h]
    by_cases h2 : 4 ≤ x
    · rw [if_pos h2, decide_eq_false (by omega)]
    · rw [if_neg h2, decide_eq_true (by omega)]
theorem x_isEmpty {N : Nat} {X : St} {s i : Nat} (hs : s < 16) (hi : i < 4) (h : X.1 0 = zI s) : fX8_isEmptySlot N (zI i) X = some (!(s.testBit i), X) := by
  unfold fX8_isEmptySlot fX8_isEmptySlot_16
  rw [h, zl31, zl1, zl0, i_bit0 (by omega) (by omega)]
  cases s.testBit i
  · rfl
  · rfl
