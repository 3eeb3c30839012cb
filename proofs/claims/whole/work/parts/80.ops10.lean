/-! restore; size -/
theorem lN_rem64 {v : Nat} (hv : v < 2 ^ 62) : lN v - lN v / 256 * 256 = lN (v % 256) := by
  rw [lN_div hv, show (256 : Int64) = lN 256 from rfl, lN_mul, lN_sub (by omega), show v - v / 256 * 256 = v % 256 by omega]
theorem k_restore {N : Nat} (hN : 3000 ≤ N) : ∀ (p1 : Int32) (X M : St), Rel X M → ∃ r X2 M2, fX8_restore N p1 X = some (r, X2) ∧ fX9_restore N p1 M = some (r, M2) ∧ Rel X2 M2 := by
  rintro p1 X M ⟨g, wt, th, st, gx, gy, gt, D, p, h⟩
  obtain ⟨x, rfl, hx⟩ := z_ex p1
  unfold fX8_restore fX9_restore
  rw [x_isSlot hx, bd_ok, zl0, zl3, m_in hx (by omega) (by omega), bd_ok, i_d, i_d]
  by_cases hg : 0 ≤ x ∧ x ≤ 3
  · obtain ⟨i, rfl⟩ : ∃ i : Nat, x = (i : Int) := ⟨x.toNat, by omega⟩
    have hi4 : i < 4 := by omega
    obtain ⟨s, sc, s1, s2, s3, s4⟩ := h.2.2.2.2.2.2.2.1
    rw [if_pos hg, if_pos hg, x_isEmpty s1 hi4 s2, bd_ok, ck_z (by omega) (by omega) (by omega), z_cl (by omega) (by omega), show ((i : Int)).toNat = i by omega, s3 i hi4, i_b, i_eq (by split <;> omega) (by omega)]
    cases hb : s.testBit i
    · rw [if_pos (c := (!false) = true) rfl, if_neg (c := false = true) (by simp), if_pos (c := (0 : Int) = 0) rfl]
      exact ⟨_, X, M, rfl, rfl, h.rel⟩
    · obtain ⟨t1, t2, t3⟩ := s4 i hi4 hb
      have hpe := pkA_enc (p := p) fun b hb => (h.2.1.1 b hb).1
      rw [if_neg (c := (!true) = true) (by simp), if_pos (c := true = true) rfl, if_neg (c := (1 : Int) = 0) (by omega), x_present h.2.2.2.2.2.2.1, bd_ok, ck_z (by omega) (by omega) (by omega), t2, m_packed (by omega) h.2.2.2.2.1 (fun b hb => (h.2.1.1 b hb).1), bd_ok, ck_z (by omega) (by omega) (by omega), t1]
      obtain ⟨Z, e, a, q⟩ := m_unpack (N := N) (M := M) (by omega) (upk_enc t3.1)
      unfold fX1_begin
      rw [e, bd_ok, zl0, ck_z (by omega) (by omega) (by omega), z_cl (by omega) (by omega), stp_ok, stp_ok, stp_ok, bd_ok]
      have lx : ∀ (d b m : Nat), b + d = 5 → d < m → fX8_restore_48 N m (zI i) (lN (pkA p)) (zI (cnB b (fun b => decide (p b ≠ upk (sc i) b)) : Nat)) (zI b) (sI (sI (sL X 11 (Int.toNat 0) (lN (sc i))) 28 (zI 0)) 29 (zI 0)) = some (zI (cnB 5 (fun b => decide (p b ≠ upk (sc i) b)) : Nat), (sI (sI (sL X 11 (Int.toNat 0) (lN (sc i))) 28 (zI 0)) 29 (zI 0))) := by
        intro d
        induction d with
        | zero =>
          intro b m hb5 hm
          obtain ⟨m, rfl⟩ : ∃ n', m = n' + 1 := ⟨m - 1, by omega⟩
          show fX8_restore_48b N (fX8_restore_48 N m) _ _ _ (zI b) _ = _
          unfold fX8_restore_48b
          rw [zl5, i_le (by omega) (by omega), if_pos (by omega), show b = 5 by omega]
        | succ d ih =>
          intro b m hb5 hm
          obtain ⟨m, rfl⟩ : ∃ n', m = n' + 1 := ⟨m - 1, by omega⟩
          have hi := ih (b + 1) m (by omega) (by omega)
          have ee : cnB (b + 1) (fun b => decide (p b ≠ upk (sc i) b)) = cnB b (fun b => decide (p b ≠ upk (sc i) b)) + (if decide (p b ≠ upk (sc i) b) then 1 else 0) := rfl
          rw [ee] at hi
          have hp1 := (h.2.1.1 b (by omega)).1
          have hp2 := upk_lt (sc i) b
          show fX8_restore_48b N (fX8_restore_48 N m) _ _ _ (zI b) _ = _
          unfold fX8_restore_48b fX8_restore_77
          rw [zl5, i_le (by omega) (by omega), if_neg (by omega), x_placementIn hpe.1 (by omega), bd_ok, hpe.2 b (by omega), ck_z (by omega) (by omega) (by omega), z_cl (by omega) (by omega), show ((i : Int)).toNat = i by omega, show (sI (sI (sL X 11 (Int.toNat 0) (lN (sc i))) 28 (zI 0)) 29 (zI 0)).2.2.2 0 = X.2.2.2 0 from rfl, t2, x_placementIn t3.1 (by omega), bd_ok, i_eq (by omega) (by omega), zl1, zA, zA]
          by_cases hpp : p b = upk (sc i) b
          · rw [if_pos (by omega)]
            rw [decide_eq_false (fun z => z hpp)] at hi
            exact hi
          · rw [if_neg (by omega)]
            rw [decide_eq_true hpp] at hi
            exact hi
      have lm : ∀ (d b m : Nat), b + d = 5 → d < m → fX9_restore_45 N m (lN (pkA p / 2 ^ (8 * b))) (zI (cnB b (fun b => decide (p b ≠ upk (sc i) b)) : Nat)) (zI b) Z = some (zI (cnB 5 (fun b => decide (p b ≠ upk (sc i) b)) : Nat), sI (sI Z 8 (zI 0)) 9 (zI 0)) := by
        intro d
        induction d with
        | zero =>
          intro b m hb5 hm
          obtain ⟨m, rfl⟩ : ∃ n', m = n' + 1 := ⟨m - 1, by omega⟩
          show fX9_restore_45b N (fX9_restore_45 N m) _ _ (zI b) Z = _
          unfold fX9_restore_45b
          rw [zl5, i_le (by omega) (by omega), if_pos (by omega), stp_ok, stp_ok, show b = 5 by omega]
          rfl
        | succ d ih =>
          intro b m hb5 hm
          obtain ⟨m, rfl⟩ : ∃ n', m = n' + 1 := ⟨m - 1, by omega⟩
          have hi := ih (b + 1) m (by omega) (by omega)
          have ee : cnB (b + 1) (fun b => decide (p b ≠ upk (sc i) b)) = cnB b (fun b => decide (p b ≠ upk (sc i) b)) + (if decide (p b ≠ upk (sc i) b) then 1 else 0) := rfl
          rw [ee] at hi
          have hp1 := (h.2.1.1 b (by omega)).1
          have hp2 := upk_lt (sc i) b
          have hlt : pkA p / 2 ^ (8 * b) < 2 ^ 62 := Nat.lt_of_le_of_lt (Nat.div_le_self _ _) (Nat.lt_trans hpe.1 (by decide))
          have hu : pkA p / 2 ^ (8 * b) % 256 = p b := hpe.2 b (by omega)
          have e8 : pkA p / 2 ^ (8 * b) / 256 = pkA p / 2 ^ (8 * (b + 1)) := by
            rw [Nat.div_div_eq_div_mul, show 8 * (b + 1) = 8 * b + 8 by omega, Nat.pow_add]
          show fX9_restore_45b N (fX9_restore_45 N m) _ _ (zI b) Z = _
          unfold fX9_restore_45b fX9_restore_75
          rw [zl5, i_le (by omega) (by omega), if_neg (by omega), ck_z (by omega) (by omega) (by omega), z_cl (by omega) (by omega), show ((b : Int)).toNat = b by omega, q b (by omega), lN_rem64 hlt, hu, i2l_bv (by omega), zl0, i_ll (by omega) (by omega), bb0, bb0, nm_ok, nm_ok, nm_ok, nm_ok, zA, zA, lN_div hlt, e8, zl1, zA]
          by_cases hpp : p b = upk (sc i) b
          · rw [if_pos hpp]
            rw [decide_eq_false (fun z => z hpp)] at hi
            exact hi
          · rw [if_neg hpp]
            rw [decide_eq_true hpp] at hi
            exact hi
      have ex := lx 5 0 N (by omega) (by omega)
      have em := lm 5 0 N (by omega) (by omega)
      rw [Nat.mul_zero, Nat.pow_zero, Nat.div_one] at em
      have ex' : fX8_restore_48 N N (zI i) (lN (pkA p)) (zI 0) (zI 0) (sI (sI (sL X 11 (Int.toNat 0) (lN (sc i))) 28 (zI 0)) 29 (zI 0)) = _ := ex
      have em' : fX9_restore_45 N N (lN (pkA p)) (zI 0) (zI 0) Z = _ := em
      rw [ex', em']
      have AX : agr [28, 29] [] [] [11] X (sI (sI (sL X 11 (Int.toNat 0) (lN (sc i))) 28 (zI 0)) 29 (zI 0)) := agr.sI (agr.sI (agr.sL (agr.rf _) (by simp) _ _) (by simp) _) (by simp) _
      have AM : agr [8, 9] [] [9] [] M (sI (sI Z 8 (zI 0)) 9 (zI 0)) := agr.sI (agr.sI (a.wk (by simp) (by simp) (by simp) (by simp)) (by simp) _) (by simp) _
      obtain ⟨md, kn, ar, mv, ef, g1, g2, g3, g4, g5, g6, g7, g8, g9, g10⟩ := h.2.2.2.2.2.2.1
      refine ⟨_, _, _, rfl, rfl, (h.hs (p2 := upk (sc i)) (AX.wk (by simp) (by simp) (by simp) (by simp)) (AM.wk (by simp) (by simp) (by simp) (by simp)) t3.2 (fun b hb => q b hb) ⟨0, 0, fun _ => sc i, mv, ef, by omega, by omega, rfl, rfl, rfl, rfl, (pk_upk t3.1).symm, fun k hk => ?_, fun k hk => by omega, g10⟩ (h.2.2.2.2.2.2.2.1.ag AX AM (by decide) (by decide) (by decide) (by decide))).rel⟩
      have : k = 0 := by omega
      subst this
      refine ⟨sL_same X 11 0 (lN (sc i)), t3, ?_⟩
      rw [AX.2.2.1 27 (by decide)]
      exact (g8 0 (by omega)).2.2
  · rw [if_neg hg, if_neg hg]
    exact ⟨_, X, M, rfl, rfl, h.rel⟩
