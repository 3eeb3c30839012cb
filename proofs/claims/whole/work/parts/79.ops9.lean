/-! save and restore -/
theorem pow4 : ∀ i, i < 4 → 2 ^ i < 2 ^ 4 := by decide
theorem nar1 : vp_nar .boolean 1 = 1 := rfl
theorem k_save {N : Nat} (hN : 3000 ≤ N) : ∀ (p1 : Int32) (X M : St), Rel X M → ∃ r X2 M2, fX8_save N p1 X = some (r, X2) ∧ fX9_save N p1 M = some (r, M2) ∧ Rel X2 M2 := by
  rintro p1 X M ⟨g, wt, th, st, gx, gy, gt, D, p, h⟩
  obtain ⟨x, rfl, hx⟩ := z_ex p1
  unfold fX8_save fX9_save fX9_save_26 fX8_save_50
  rw [x_isSlot hx, bd_ok, zl0, zl3, m_in hx (by omega) (by omega), bd_ok, i_d, i_d]
  by_cases hg : 0 ≤ x ∧ x ≤ 3
  · obtain ⟨i, rfl⟩ : ∃ i : Nat, x = (i : Int) := ⟨x.toNat, by omega⟩
    have hi4 : i < 4 := by omega
    obtain ⟨s, sc, s1, s2, s3, s4⟩ := h.2.2.2.2.2.2.2.1
    obtain ⟨hv, hu⟩ := okA_pk h.2.1
    have P1 : mPl p (sA M 22 i 1) := fun q hq => h.2.2.2.2.1 q hq
    rw [if_pos hg, if_pos hg, x_isEmpty s1 hi4 s2, bd_ok, x_present h.2.2.2.2.2.2.1, bd_ok, ck_z (by omega) (by omega) (by omega), ck_z (by omega) (by omega) (by omega), ck_z (by omega) (by omega) (by omega), ck_z (by omega) (by omega) (by omega), z_cl (by omega) (by omega), show ((i : Int)).toNat = i by omega, stp_ok, stp_ok, stp_ok, stp_ok, nar1, m_packed (by omega) P1 (fun b hb => (h.2.1.1 b hb).1), bd_ok, ck_z (by omega) (by omega) (by omega), stp_ok, s3 i hi4, show (sL X 0 i (lN (pkA p))).1 0 = X.1 0 from rfl, s2, zl1, zl31, z_one (by omega), z_or, i_b, i_eq (by split <;> omega) (by omega), bd_ok, ck_z (by omega) (by omega) (by omega), stp_ok]
    have a : agr [0] [] [] [0] X (sI (sL X 0 i (lN (pkA p))) 0 (zI (s ||| 2 ^ i : Nat))) := agr.sI (agr.sL (agr.rf _) (by simp) _ _) (by simp) _
    have m : agr [] [] [22] [2] M (sL (sA M 22 i (zI 1)) 2 i (lN (pkA p))) := agr.sL (agr.sA (agr.rf _) (by simp) _ _) (by simp) _ _
    have hR : Rel (sI (sL X 0 i (lN (pkA p))) 0 (zI (s ||| 2 ^ i : Nat))) (sL (sA M 22 i (zI 1)) 2 i (lN (pkA p))) := by
      refine (h.hs (p2 := p) (agr.wk a (by simp) (by simp) (by simp) (by simp)) (agr.wk m (by simp) (by simp) (by simp) (by simp)) h.2.1 (fun q hq => h.2.2.2.2.1 q hq) ?_ ⟨s ||| 2 ^ i, fun j => if j = i then pkA p else sc j, or_lt (n := 4) s1 (pow4 i hi4), sI_same _ _ _, fun j hj => ?_, fun j hj hj2 => ?_⟩).rel
      · unfold rHi
        rw [a.1 28 (by decide), a.1 29 (by decide), a.2.2.2 11 (by decide), m.2.2.2 0 (by decide), m.2.2.2 1 (by decide), m.2.2.1 20 (by decide), m.2.2.1 21 (by decide)]
        exact h.2.2.2.2.2.2.1
      · show (sA M 22 i (zI 1)).2.2.1 22 j = _
        rw [Nat.testBit_or, tb_pow]
        by_cases hji : j = i
        · rw [hji, sA_same, decide_eq_true rfl, Bool.or_true, if_pos rfl]
        · rw [sA_oth _ _ hji, decide_eq_false (fun z => hji z.symm), Bool.or_false]
          exact s3 j hj
      · show (sL (sA M 22 i (zI 1)) 2 i (lN (pkA p))).2.2.2 2 j = lN (if j = i then pkA p else sc j) ∧ (sL X 0 i (lN (pkA p))).2.2.2 0 j = lN (if j = i then pkA p else sc j) ∧ okv g (if j = i then pkA p else sc j)
        by_cases hji : j = i
        · rw [if_pos hji, hji, sL_same, sL_same]
          exact ⟨rfl, rfl, hv⟩
        · rw [Nat.testBit_or, tb_pow, decide_eq_false (fun z => hji z.symm), Bool.or_false] at hj2
          rw [if_neg hji, sL_oth _ _ hji, sL_oth _ _ hji]
          exact s4 j hj hj2
    cases hb : s.testBit i
    · rw [if_pos (c := (!false) = true) rfl, if_neg (c := false = true) (by simp), if_pos (c := (0 : Int) = 0) rfl]
      exact ⟨_, _, _, rfl, rfl, hR⟩
    · rw [if_neg (c := (!true) = true) (by simp), if_pos (c := true = true) rfl, if_neg (c := (1 : Int) = 0) (by omega)]
      exact ⟨_, _, _, rfl, rfl, hR⟩
  · rw [if_neg hg, if_neg hg]
    exact ⟨_, X, M, rfl, rfl, h.rel⟩
