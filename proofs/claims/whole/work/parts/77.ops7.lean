/-! move, and what is set -/
theorem k_move {N : Nat} (hN : 3000 ≤ N) : ∀ (p1 p2 : Int32) (X M : St), Rel X M → ∃ r X2 M2, fX8_move N p1 p2 X = some (r, X2) ∧ fX9_move N p1 p2 M = some (r, M2) ∧ Rel X2 M2 := by
  rintro p1 p2 X M ⟨g, wt, th, st, gx, gy, gt, D, p, h⟩
  obtain ⟨b, rfl, hb⟩ := z_ex p1
  obtain ⟨k, rfl, hk⟩ := z_ex p2
  have hw := h.1.1
  unfold fX8_move fX8_moved fX9_move fX9_moveBarred fX9_moveBarred_27 fX8_moved_23 fX8_moved_43
  rw [x_has h.2.2.1.2.1 hw hb, bd_ok, m_noBlock h.2.2.2.1.1 hw hb, bd_ok, zl0, i_d]
  by_cases hB : 0 ≤ b ∧ b < 5 ∧ 0 < gN g b.toNat
  · rw [if_pos hB, decide_eq_true hB, i_b, if_neg (c := (!true) = true) (by simp), i_lt (by omega) (by omega), show (6 : Int32) = zI 6 from rfl, i_lt (by omega) (by omega), zl5, m_in hk (by omega) (by omega), bd_ok, i_d]
    by_cases hK : 0 ≤ k ∧ k ≤ 5
    · obtain ⟨bn, rfl⟩ : ∃ bn : Nat, b = (bn : Int) := ⟨b.toNat, by omega⟩
      obtain ⟨kn, rfl⟩ : ∃ kn : Nat, k = (kn : Int) := ⟨k.toNat, by omega⟩
      rw [show ((bn : Int)).toNat = bn by omega] at hB
      have hb5 : bn < 5 := by omega
      have hk6 : kn < 6 := by omega
      rw [if_neg (by omega), if_pos (by omega), if_pos hK, bd_ok, i_le (by omega) (by omega), if_pos (by omega)]
      obtain ⟨v, Y, e1, a1, v1⟩ := k_movedX hN h hb5 hB.2.2 hk6
      obtain ⟨M2, e2, a2⟩ := m_movedBy (N := N) (by omega) h.2.2.2.1.1 hw h.2.2.2.1.2.1 h.1.2.1 h.2.2.2.1.2.2.1 h.1.2.2.1 h.2.2.2.2.1 h.2.1 h.2.2.2.1.2.2.2.1 h.1.2.2.2.1 hb5 hk6
      have hm32 := mvs_lt (g := g) (wt := wt) (th := th) (st := st) (p := p) (k := kn) hb5
      rw [e1, bd_ok, e2, bd_ok, i_eq (by omega) (by omega), i_eq (by omega) (by omega)]
      have hR := (h.same (agm0_xs a1) (a2.wk (by simp) (by simp) (by simp) (by simp)) (a2.2.2.1 9 (by decide))).rel
      by_cases h0 : mvs g wt th st p bn kn = 0
      · rw [if_pos (by omega), if_pos (by omega), bd_ok, show (-4 : Int32) = zI (-4) from rfl, i_le (by omega) (by omega), if_neg (by omega)]
        exact ⟨_, Y, M2, rfl, rfl, hR⟩
      · obtain ⟨md, kn2, ar, mv, ef, h1, h2, h3, h4, h5, h6, h7, h8, h9, h10⟩ := h.2.2.2.2.2.2.1
        rw [if_neg (by omega), if_neg (by omega), bd_ok, i_le (by omega) (by omega), if_pos (by omega), a1.1 28 (by simp), h3, a2.1 8 (by decide), h5, show (200 : Int32) = zI 200 from rfl, i_lt (by omega) (by omega), i_eq (by omega) (by omega)]
        by_cases hf : md = 200
        · rw [if_neg (by omega), if_pos (by omega)]
          exact ⟨_, Y, M2, rfl, rfl, hR⟩
        · obtain ⟨v2, v3⟩ := v1 h0
          obtain ⟨Y2, M3, f1, f2, f3, f4, f5⟩ := k_make hN h hb5 hB.2.2 hk6 h0 h3 (by omega) a1 (by rw [← v3]; exact v2) a2
          rw [if_pos (by omega), if_neg (by omega), f1, bd_ok, f2, bd_ok, f3, f4]
          exact ⟨_, Y2, M3, rfl, rfl, f5.rel⟩
    · rw [if_neg hK, bd_ok, show (-3 : Int32) = zI (-3) from rfl, i_le (by omega) (by omega), if_neg (c := (0 : Int) ≤ -3) (by omega)]
      by_cases h0 : k < 0
      · rw [if_pos h0, bd_ok, i_le (by omega) (by omega), if_neg (c := (0 : Int) ≤ -3) (by omega)]; exact ⟨_, X, M, rfl, rfl, h.rel⟩
      · rw [if_neg h0, if_neg (by omega), bd_ok, i_le (by omega) (by omega), if_neg (c := (0 : Int) ≤ -3) (by omega)]; exact ⟨_, X, M, rfl, rfl, h.rel⟩
  · rw [if_neg hB, decide_eq_false hB, i_b, if_pos (c := (!false) = true) rfl, bd_ok, bd_ok, zlm1, i_le (by omega) (by omega), if_neg (c := (0 : Int) ≤ -1) (by omega), i_le (by omega) (by omega), if_neg (c := (0 : Int) ≤ -1) (by omega)]
    exact ⟨_, X, M, rfl, rfl, h.rel⟩
theorem k_setStrength {N : Nat} : ∀ (p1 : Int32) (X M : St), Rel X M → ∃ r X2 M2, fX8_setStrength N p1 X = some (r, X2) ∧ fX9_setStrength N p1 M = some (r, M2) ∧ Rel X2 M2 := by
  rintro p1 X M ⟨g, wt, th, st, gx, gy, gt, D, p, h⟩
  obtain ⟨x, rfl, hx⟩ := z_ex p1
  unfold fX8_setStrength fX9_setStrength fX8_setStrength_11
  rw [zl1, show (45 : Int32) = zI 45 from rfl, m_in hx (by omega) (by omega), bd_ok, zl0, i_d, i_lt (by omega) (by omega), i_le (by omega) (by omega)]
  by_cases hr : 1 ≤ x ∧ x ≤ 45
  · rw [if_neg (by omega), if_pos (by omega), if_pos hr, nm_ok, nm_ok, stp_ok, stp_ok]
    unfold fX5_forget
    rw [stp_ok, bd_ok, h.2.2.1.2.2.2.2.1, h.2.2.2.1.2.2.2.1]
    have a : agr [2, 32] [] [] [] X (sI (sI X 2 (zI x)) 32 0) := agr.sI (agr.sI (agr.rf _) (by simp) _) (by simp) _
    have m : agr [2] [] [] [] M (sI M 2 (zI x)) := agr.sI (agr.rf _) (by simp) _
    obtain ⟨h1, h2, h3, h4, h5, h6, h7, h8, h9, h10⟩ := h
    refine ⟨_, _, _, rfl, rfl, g, wt, th, x.toNat, gx, gy, gt, D, p, ⟨h1.1, h1.2.1, h1.2.2.1, by omega, h1.2.2.2.2⟩, h2, ⟨h3.1.ag a (by decide) (by decide) (by decide) (by decide) (by decide) (by decide) (by decide) (by decide), h3.2.1.ag a (fun b hb => by simp; omega) (fun b hb => by simp) (fun b hb => by simp) (fun b hb => by simp), fun b hb hn => by rw [a.1 _ (by simp; omega)]; exact h3.2.2.1 b hb hn, h3.2.2.2.1, ?_, h3.2.2.2.2.2⟩, ⟨h4.1.ag m (by decide) (by decide) (by decide) (by decide) (by decide) (by decide), h4.2.1, h4.2.2.1, ?_, h4.2.2.2.2.1, h4.2.2.2.2.2⟩, h5, fun b hb hn => by rw [a.1 (15 + b) (by simp; omega), a.1 (20 + b) (by simp; omega)]; exact h6 b hb hn, ?_, ?_, ?_, Or.inl (sI_same _ _ _)⟩
    · rw [sI_ne _ _ (by decide), sI_same, show ((x.toNat : Nat) : Int) = x by omega]
    · rw [sI_same, show ((x.toNat : Nat) : Int) = x by omega]
    · unfold rHi
      rw [a.1 28 (by decide), a.1 29 (by decide), m.1 8 (by decide), m.1 9 (by decide)]; exact h7
    · unfold rSl
      rw [a.1 0 (by decide)]; exact h8
    · unfold rTx
      rw [a.1 1 (by decide), m.1 3 (by decide)]; exact h9
  · rw [if_neg hr]
    by_cases h0 : x < 1
    · rw [if_pos h0]; exact ⟨_, X, M, rfl, rfl, h.rel⟩
    · rw [if_neg h0, if_neg (by omega)]; exact ⟨_, X, M, rfl, rfl, h.rel⟩
theorem k_setThreshold {N : Nat} : ∀ (p1 p2 : Int32) (X M : St), Rel X M → ∃ r X2 M2, fX8_setThreshold N p1 p2 X = some (r, X2) ∧ fX9_setThreshold N p1 p2 M = some (r, M2) ∧ Rel X2 M2 := by
  rintro p1 p2 X M ⟨g, wt, th, st, gx, gy, gt, D, p, h⟩
  obtain ⟨q, rfl, hq⟩ := z_ex p1
  obtain ⟨x, rfl, hx⟩ := z_ex p2
  unfold fX8_setThreshold fX9_setThreshold fX8_setThreshold_18 fX9_setThreshold_17
  rw [x_isGroup hq, bd_ok, m_isGroup hq, bd_ok, zl0, i_d, i_d]
  by_cases hg : 0 ≤ q ∧ q ≤ 3
  · rw [if_pos hg, if_pos hg, zl1, show (45 : Int32) = zI 45 from rfl, m_in hx (by omega) (by omega), bd_ok, i_d, i_lt (by omega) (by omega), i_le (by omega) (by omega)]
    by_cases hr : 1 ≤ x ∧ x ≤ 45
    · obtain ⟨i, rfl⟩ : ∃ i : Nat, q = (i : Int) := ⟨q.toNat, by omega⟩
      have hi4 : i < 4 := by omega
      rw [if_neg (by omega), if_pos (by omega), if_pos hr, ck_z (by omega) (by omega) (by omega), ck_z (by omega) (by omega) (by omega), nm_ok, nm_ok, ck_z (by omega) (by omega) (by omega), ck_z (by omega) (by omega) (by omega), z_cl (by omega) (by omega), show ((i : Int)).toNat = i by omega, stp_ok, stp_ok]
      unfold fX5_forget
      rw [stp_ok, bd_ok, h.2.2.1.2.2.2.1 i hi4, h.2.2.2.1.2.1 i hi4]
      have a : agr [32] [] [1] [] X (sI (sA X 1 i (zI x)) 32 0) := agr.sI (agr.sA (agr.rf _) (by simp) _ _) (by simp) _
      have m : agr [] [] [0] [] M (sA M 0 i (zI x)) := agr.sA (agr.rf _) (by simp) _ _
      obtain ⟨h1, h2, h3, h4, h5, h6, h7, h8, h9, h10⟩ := h
      have hth : ∀ r, (if r = i then x.toNat else th r) ≤ 45 := fun r => by
        have := h1.2.1 r
        split <;> omega
      refine ⟨_, _, _, rfl, rfl, g, wt, fun r => if r = i then x.toNat else th r, st, gx, gy, gt, D, p, ⟨h1.1, hth, h1.2.2⟩, h2, ⟨h3.1.ag a (by decide) (by decide) (by decide) (by decide) (by decide) (by decide) (by decide) (by decide), h3.2.1.ag a (fun b hb => by simp; omega) (fun b hb => by simp; omega) (fun b hb => by simp; omega) (fun b hb => by simp), fun b hb hn => by rw [a.1 _ (by simp; omega)]; exact h3.2.2.1 b hb hn, fun r hr4 => ?_, by rw [a.1 2 (by decide)]; exact h3.2.2.2.2.1, fun b hb P hP => by rw [a.2.2.1 _ (by simp; omega)]; exact h3.2.2.2.2.2 b hb P hP⟩, ⟨h4.1.ag m (by decide) (by decide) (by decide) (by decide) (by decide) (by decide), fun r hr4 => ?_, h4.2.2.1.ag m (by decide), h4.2.2.2.1, h4.2.2.2.2.1, h4.2.2.2.2.2⟩, h5, fun b hb hn => by rw [a.1 (15 + b) (by simp; omega), a.1 (20 + b) (by simp; omega)]; exact h6 b hb hn, ?_, ?_, ?_, Or.inl (sI_same _ _ _)⟩
      · show (sA X 1 i (zI x)).2.2.1 1 r = zI ((if r = i then x.toNat else th r : Nat))
        by_cases hri : r = i
        · subst hri; rw [sA_same, if_pos rfl, show ((x.toNat : Nat) : Int) = x by omega]
        · rw [sA_oth _ _ hri, if_neg hri]; exact h3.2.2.2.1 r hr4
      · show (sA M 0 i (zI x)).2.2.1 0 r = zI ((if r = i then x.toNat else th r : Nat))
        by_cases hri : r = i
        · subst hri; rw [sA_same, if_pos rfl, show ((x.toNat : Nat) : Int) = x by omega]
        · rw [sA_oth _ _ hri, if_neg hri]; exact h4.2.1 r hr4
      · unfold rHi
        rw [a.1 28 (by decide), a.1 29 (by decide), a.2.2.1 27 (by decide), a.2.2.1 26 (by decide), m.2.2.1 20 (by decide), m.2.2.1 21 (by decide)]; exact h7
      · unfold rSl
        rw [a.1 0 (by decide), m.2.2.1 22 (by decide)]; exact h8
      · unfold rTx
        rw [a.1 1 (by decide), a.2.2.1 0 (by decide), m.2.2.1 10 (by decide)]; exact h9
    · rw [if_neg hr]
      by_cases h0 : x < 1
      · rw [if_pos h0]; exact ⟨_, X, M, rfl, rfl, h.rel⟩
      · rw [if_neg h0, if_neg (by omega)]; exact ⟨_, X, M, rfl, rfl, h.rel⟩
  · rw [if_neg hg, if_neg hg]
    exact ⟨_, X, M, rfl, rfl, h.rel⟩
