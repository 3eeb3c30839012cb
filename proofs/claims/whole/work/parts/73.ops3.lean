/-! distances and solutions, asked -/
theorem xD_sign {g : Lv} {gx gy gt : Nat → Int} {D : Nat → Nat → Int} {X : St} (hX : xD g gt D X) (hD : hasD g gx gy gt D) {b P : Nat} (hb : b < 5) (hn : 0 < gN g b) (hP : P < 256) (hpl : plc g b P = true) : X.2.2.1 (14 + b) P = zI (D b P) := by
  rw [hX b hb P hP]
  by_cases hgt : 0 ≤ gt b
  · rw [if_pos ⟨hn, hgt⟩]
  · rw [if_neg (fun z => hgt z.2)]
    have : D b P = 0 := (isD_0 (hD b hb hn) hP).mpr (by unfold glb; rw [hpl, decide_eq_true (p := gt b < 0) (by omega)]; rfl)
    rw [this]
theorem k_distance {N : Nat} (hN : 3000 ≤ N) : ∀ (p1 : Int32) (X M : St), Rel X M → ∃ r X2 M2, fX8_distance N p1 X = some (r, X2) ∧ fX9_distance N p1 M = some (r, M2) ∧ Rel X2 M2 := by
  rintro p1 X M ⟨g, wt, th, st, gx, gy, gt, D, p, h⟩
  obtain ⟨b, rfl, hb⟩ := z_ex p1
  have hw := h.1.1
  have hD := h.1.2.2.2.2.2
  unfold fX8_distance fX9_distance fX8_distance_48 fX9_distance_43
  rw [x_has h.2.2.1.2.1 hw hb, bd_ok, m_noBlock h.2.2.2.1.1 hw hb, bd_ok, zl0, i_d]
  by_cases hB : 0 ≤ b ∧ b < 5 ∧ 0 < gN g b.toNat
  · obtain ⟨bn, rfl⟩ : ∃ bn : Nat, b = (bn : Int) := ⟨b.toNat, by omega⟩
    rw [if_pos hB, decide_eq_true hB, i_b, if_neg (c := (!true) = true) (by simp)]
    rw [show ((bn : Int)).toNat = bn by omega] at hB
    have hb5 : bn < 5 := by omega
    have hp2 := (h.2.1.1 bn hb5).1
    obtain ⟨Y, f, e1, a1, d1, v1, _⟩ := m_findFar (N := N) (by omega) h.2.2.2.1.1 hw h.2.2.2.1.2.2.2.2.1 h.1.2.2.2.2.1 hb5 hB.2.2
    have hbd := isD_bd d1 hp2
    have hen := pkA_enc fun b hb => (h.2.1.1 b hb).1
    rw [e1, bd_ok, ck_z (by omega) (by omega) (by omega), ck_z (by omega) (by omega) (by omega), z_cl (by omega) (by omega), show ((bn : Int)).toNat = bn by omega, a1.2.2.1 9 (by decide), h.2.2.2.2.1 bn hb5, zl256, zM, zA, ck_z (by omega) (by omega) (by omega), z_cl (by omega) (by omega), show ((256 * (bn : Int) + (p bn : Int))).toNat = 256 * bn + p bn by omega, v1 _ hp2, nm_ok, x_present h.2.2.2.2.2.2.1, bd_ok, x_placementIn hen.1 hb5, bd_ok, hen.2 bn hb5, ck_z (by omega) (by omega) (by omega), z_cl (by omega) (by omega), show ((p bn : Int)).toNat = p bn by omega, xD_sign h.2.2.1.2.2.2.2.2 hD hb5 hB.2.2 hp2 (h.2.1.1 bn hb5).2.2, isD_uniq (hD bn hb5 hB.2.2) d1 hp2, nm_ok]
    have hR := (h.same (agr.rf _) (a1.wk (by simp) (by simp) (by simp) (by simp)) (a1.2.2.1 9 (by decide))).rel
    by_cases h0 : zI 0 ≤ zI (f (p bn))
    · rw [if_pos h0, if_pos h0]; exact ⟨_, X, Y, rfl, rfl, hR⟩
    · rw [if_neg h0, if_neg h0]; exact ⟨_, X, Y, rfl, rfl, hR⟩
  · rw [if_neg hB, decide_eq_false hB, i_b, if_pos (c := (!false) = true) rfl]
    exact ⟨_, X, M, rfl, rfl, h.rel⟩
theorem k_isDead {N : Nat} (hN : 3000 ≤ N) : ∀ (p1 p2 p3 p4 : Int32) (X M : St), Rel X M → ∃ r X2 M2, fX8_isDead N p1 p2 p3 p4 X = some (r, X2) ∧ fX9_isDead N p1 p2 p3 p4 M = some (r, M2) ∧ Rel X2 M2 := by
  rintro p1 p2 p3 p4 X M ⟨g, wt, th, st, gx, gy, gt, D, p, h⟩
  obtain ⟨b, rfl, hb⟩ := z_ex p1
  obtain ⟨x, rfl, hx⟩ := z_ex p2
  obtain ⟨y, rfl, hy⟩ := z_ex p3
  obtain ⟨o, rfl, ho⟩ := z_ex p4
  have hw := h.1.1
  have hD := h.1.2.2.2.2.2
  unfold fX8_isDead fX9_isDead fX8_isDead_99 fX9_isDead_88 fX8_isDead_46
  rw [x_has h.2.2.1.2.1 hw hb, bd_ok, m_noBlock h.2.2.2.1.1 hw hb, bd_ok, zl0, i_d]
  by_cases hB : 0 ≤ b ∧ b < 5 ∧ 0 < gN g b.toNat
  · obtain ⟨bn, rfl⟩ : ∃ bn : Nat, b = (bn : Int) := ⟨b.toNat, by omega⟩
    rw [if_pos hB, decide_eq_true hB, i_b, if_neg (c := (!true) = true) (by simp), x_cellAt h.2.2.1.1 hw hx hy, bd_ok, m_isInYard h.2.2.2.1.1 hw hx hy, bd_ok, i_d]
    rw [show ((bn : Int)).toNat = bn by omega] at hB
    have hb5 : bn < 5 := by omega
    by_cases hi : inY g x y
    · obtain ⟨c1, c2, c3, c4⟩ := cel_in hw hi
      rw [if_pos hi, if_pos hi, i_le (by omega) (by omega), if_pos (by omega), zl3, m_in ho (by omega) (by omega), bd_ok, i_d, i_lt (by omega) (by omega), zl4, i_lt (by omega) (by omega)]
      by_cases hO : 0 ≤ o ∧ o ≤ 3
      · obtain ⟨P, hP⟩ : ∃ P : Nat, (P : Int) = 64 * o + (8 * y + x) := ⟨(64 * o + (8 * y + x)).toNat, by omega⟩
        have hP2 : P < 256 := by omega
        rw [if_neg (by omega), if_pos (by omega), if_pos hO, ck_z (by omega) (by omega) (by omega), show (64 : Int32) = zI 64 from rfl, zM, zA, ← hP, nm_ok, z_cl (by omega) (by omega), show ((bn : Int)).toNat = bn by omega, x_fits h.2.2.1.2.1 hw hb5 hB.2.2 hP2, bd_ok, i_b, zl8, zM, zA, zA, show 64 * o + 8 * y + x = (P : Int) by omega, nm_ok, m_isPlacement (by omega) h.2.2.2.1.1 hw hb5 hB.2.2 hP2, bd_ok, i_b]
        cases hpl : plc g bn P
        · rw [if_neg (c := false = true) (by simp), if_neg (c := false = true) (by simp)]
          exact ⟨_, X, M, rfl, rfl, h.rel⟩
        · obtain ⟨Y, f, e1, a1, d1, v1, _⟩ := m_findFar (N := N) (by omega) h.2.2.2.1.1 hw h.2.2.2.1.2.2.2.2.1 h.1.2.2.2.2.1 hb5 hB.2.2
          rw [if_pos (c := true = true) rfl, if_pos (c := true = true) rfl, ck_z (by omega) (by omega) (by omega), z_cl (by omega) (by omega), show ((P : Int)).toNat = P by omega, xD_sign h.2.2.1.2.2.2.2.2 hD hb5 hB.2.2 hP2 hpl, isD_uniq (hD bn hb5 hB.2.2) d1 hP2, e1, bd_ok, zl256, zM, zA, ck_z (by omega) (by omega) (by omega), z_cl (by omega) (by omega), show ((256 * (bn : Int) + (P : Int))).toNat = 256 * bn + P by omega, v1 _ hP2]
          have hR := (h.same (agr.rf _) (a1.wk (by simp) (by simp) (by simp) (by simp)) (a1.2.2.1 9 (by decide))).rel
          by_cases h0 : zI 0 ≤ zI (f P)
          · rw [if_pos h0, if_pos h0]; exact ⟨_, X, Y, rfl, rfl, hR⟩
          · rw [if_neg h0, if_neg h0]; exact ⟨_, X, Y, rfl, rfl, hR⟩
      · rw [if_neg hO]
        by_cases h0 : o < 0
        · rw [if_pos h0]; exact ⟨_, X, M, rfl, rfl, h.rel⟩
        · rw [if_neg h0, if_neg (by omega)]; exact ⟨_, X, M, rfl, rfl, h.rel⟩
    · rw [if_neg hi, if_neg hi, i_le (by omega) (by omega), if_neg (by omega)]
      exact ⟨_, X, M, rfl, rfl, h.rel⟩
  · rw [if_neg hB, decide_eq_false hB, i_b, if_pos (c := (!false) = true) rfl]
    exact ⟨_, X, M, rfl, rfl, h.rel⟩
theorem k_deadCount {N : Nat} (hN : 3000 ≤ N) : ∀ (p1 : Int32) (X M : St), Rel X M → ∃ r X2 M2, fX8_deadCount N p1 X = some (r, X2) ∧ fX9_deadCount N p1 M = some (r, M2) ∧ Rel X2 M2 := by
  rintro p1 X M ⟨g, wt, th, st, gx, gy, gt, D, p, h⟩
  obtain ⟨b, rfl, hb⟩ := z_ex p1
  have hw := h.1.1
  have hD := h.1.2.2.2.2.2
  unfold fX8_deadCount fX9_deadCount
  rw [x_has h.2.2.1.2.1 hw hb, bd_ok, m_noBlock h.2.2.2.1.1 hw hb, bd_ok, zl0, i_d]
  by_cases hB : 0 ≤ b ∧ b < 5 ∧ 0 < gN g b.toNat
  · obtain ⟨bn, rfl⟩ : ∃ bn : Nat, b = (bn : Int) := ⟨b.toNat, by omega⟩
    rw [if_pos hB, decide_eq_true hB, i_b, if_neg (c := (!true) = true) (by simp)]
    rw [show ((bn : Int)).toNat = bn by omega] at hB
    have hb5 : bn < 5 := by omega
    obtain ⟨Y, f, e1, a1, d1, v1, _⟩ := m_findFar (N := N) (by omega) h.2.2.2.1.1 hw h.2.2.2.1.2.2.2.2.1 h.1.2.2.2.2.1 hb5 hB.2.2
    have hgY := h.2.2.2.1.1.ag a1 (by decide) (by decide) (by decide) (by decide) (by decide) (by decide)
    rw [ck_z (by omega) (by omega) (by omega), z_cl (by omega) (by omega), show ((bn : Int)).toNat = bn by omega, e1, bd_ok]
    have lx : ∀ (d P m : Nat), P + d = 256 → d < m → fX8_deadCount_28 N m bn (zI (cnB P (fun P => plc g bn P && decide (f P < 0)) : Nat)) (zI P) X = some (zI (cnB 256 (fun P => plc g bn P && decide (f P < 0)) : Nat), X) := by
      intro d
      induction d with
      | zero =>
        intro P m hP hm
        obtain ⟨m, rfl⟩ : ∃ n', m = n' + 1 := ⟨m - 1, by omega⟩
        have : P = 256 := by omega
        subst this
        show fX8_deadCount_28b N (fX8_deadCount_28 N m) bn _ (zI (256 : Nat)) X = _
        unfold fX8_deadCount_28b
        rw [zl256, i_le (by omega) (by omega), if_pos (by omega)]
      | succ d ih =>
        intro P m hP hm
        obtain ⟨m, rfl⟩ : ∃ n', m = n' + 1 := ⟨m - 1, by omega⟩
        have hP2 : P < 256 := by omega
        have hi := ih (P + 1) m (by omega) (by omega)
        have ee : cnB (P + 1) (fun P => plc g bn P && decide (f P < 0)) = cnB P (fun P => plc g bn P && decide (f P < 0)) + (if (plc g bn P && decide (f P < 0)) then 1 else 0) := rfl
        rw [ee] at hi
        have hbd := isD_bd d1 hP2
        show fX8_deadCount_28b N (fX8_deadCount_28 N m) bn _ (zI P) X = _
        unfold fX8_deadCount_28b fX8_deadCount_58
        rw [zl256, i_le (by omega) (by omega), if_neg (by omega), x_fits h.2.2.1.2.1 hw hb5 hB.2.2 hP2, bd_ok, zl0, i_b, zl1, zA]
        cases hpl : plc g bn P
        · rw [if_neg (c := false = true) (by simp)]
          rw [hpl, Bool.false_and, if_neg (c := false = true) (by simp)] at hi
          exact hi
        · rw [if_pos (c := true = true) rfl, ck_z (by omega) (by omega) (by omega), z_cl (by omega) (by omega), show ((P : Int)).toNat = P by omega, xD_sign h.2.2.1.2.2.2.2.2 hD hb5 hB.2.2 hP2 hpl, isD_uniq (hD bn hb5 hB.2.2) d1 hP2, i_le (by omega) (by omega), zA]
          rw [hpl, Bool.true_and] at hi
          by_cases h0 : 0 ≤ f P
          · rw [if_pos h0]
            rw [decide_eq_false (p := f P < 0) (by omega)] at hi
            exact hi
          · rw [if_neg h0]
            rw [decide_eq_true (p := f P < 0) (by omega)] at hi
            exact hi
    have lm : ∀ (d P m : Nat), P + d = 256 → d < m → fX9_deadCount_19 N m (zI bn) (zI (cnB P (fun P => plc g bn P && decide (f P < 0)) : Nat)) (zI P) Y = some (zI (cnB 256 (fun P => plc g bn P && decide (f P < 0)) : Nat), Y) := by
      intro d
      induction d with
      | zero =>
        intro P m hP hm
        obtain ⟨m, rfl⟩ : ∃ n', m = n' + 1 := ⟨m - 1, by omega⟩
        have : P = 256 := by omega
        subst this
        show fX9_deadCount_19b N (fX9_deadCount_19 N m) (zI bn) _ (zI (256 : Nat)) Y = _
        unfold fX9_deadCount_19b
        rw [zl256, i_le (by omega) (by omega), if_pos (by omega)]
      | succ d ih =>
        intro P m hP hm
        obtain ⟨m, rfl⟩ : ∃ n', m = n' + 1 := ⟨m - 1, by omega⟩
        have hP2 : P < 256 := by omega
        have hi := ih (P + 1) m (by omega) (by omega)
        have ee : cnB (P + 1) (fun P => plc g bn P && decide (f P < 0)) = cnB P (fun P => plc g bn P && decide (f P < 0)) + (if (plc g bn P && decide (f P < 0)) then 1 else 0) := rfl
        rw [ee] at hi
        have hbd := isD_bd d1 hP2
        show fX9_deadCount_19b N (fX9_deadCount_19 N m) (zI bn) _ (zI P) Y = _
        unfold fX9_deadCount_19b fX9_deadCount_55 fX9_deadCount_56
        rw [zl256, i_le (by omega) (by omega), if_neg (by omega), m_isPlacement (by omega) hgY hw hb5 hB.2.2 hP2, bd_ok, zl0, i_b, zl1, zA, bb0, bb0, nm_ok, nm_ok, zA, zA]
        cases hpl : plc g bn P
        · rw [if_neg (c := false = true) (by simp)]
          rw [hpl, Bool.false_and, if_neg (c := false = true) (by simp)] at hi
          exact hi
        · rw [if_pos (c := true = true) rfl, zM, zA, ck_z (by omega) (by omega) (by omega), z_cl (by omega) (by omega), show ((256 * (bn : Int) + (P : Int))).toNat = 256 * bn + P by omega, v1 _ hP2, i_le (by omega) (by omega)]
          rw [hpl, Bool.true_and] at hi
          by_cases h0 : 0 ≤ f P
          · rw [if_pos h0]
            rw [decide_eq_false (p := f P < 0) (by omega)] at hi
            exact hi
          · rw [if_neg h0]
            rw [decide_eq_true (p := f P < 0) (by omega)] at hi
            exact hi
    have e2 : fX8_deadCount_28 N N bn (zI 0) (zI 0) X = _ := lx 256 0 N (by omega) (by omega)
    have e3 : fX9_deadCount_19 N N (zI bn) (zI 0) (zI 0) Y = _ := lm 256 0 N (by omega) (by omega)
    rw [e2, e3]
    exact ⟨_, X, Y, rfl, rfl, (h.same (agr.rf _) (a1.wk (by simp) (by simp) (by simp) (by simp)) (a1.2.2.1 9 (by decide))).rel⟩
  · rw [if_neg hB, decide_eq_false hB, i_b, if_pos (c := (!false) = true) rfl]
    exact ⟨_, X, M, rfl, rfl, h.rel⟩
