/-! the calls that ask -/
theorem k_clearText {N : Nat} : ∀ (X M : St), Rel X M → ∃ r X2 M2, fX8_clearText N X = some (r, X2) ∧ fX9_clearText N M = some (r, M2) ∧ Rel X2 M2 := by
  rintro X M ⟨g, wt, th, st, gx, gy, gt, D, p, h⟩
  obtain ⟨n, c, t1, t2, t3, t4⟩ := h.2.2.2.2.2.2.2.2.1
  refine ⟨zI n, sI X 1 0, sI M 3 0, ?_, ?_, ?_⟩
  · unfold fX8_clearText; rw [nm_ok, stp_ok, t2]
  · unfold fX9_clearText; rw [nm_ok, stp_ok, t3]
  · obtain ⟨h1, h2, h3, h4, h5, h6, h7, h8, h9, h10⟩ := h
    refine ⟨g, wt, th, st, gx, gy, gt, D, p, h1, h2, ?_, ?_, h5, ?_, ?_, ?_, ⟨0, c, by omega, rfl, rfl, fun i hi => by omega⟩, ?_⟩
    · have a : agr [1] [] [] [] X (sI X 1 0) := agr.sI (agr.rf _) (by simp) _
      exact ⟨h3.1.ag a (by decide) (by decide) (by decide) (by decide) (by decide) (by decide) (by decide) (by decide), h3.2.1.ag a (fun b hb => by simp; omega) (fun b hb => by simp) (fun b hb => by simp) (fun b hb => by simp), fun b hb hn => by rw [a.1 _ (by simp; omega)]; exact h3.2.2.1 b hb hn, h3.2.2.2.1, by rw [a.1 2 (by decide)]; exact h3.2.2.2.2.1, h3.2.2.2.2.2⟩
    · have a : agr [3] [] [] [] M (sI M 3 0) := agr.sI (agr.rf _) (by simp) _
      exact ⟨h4.1.ag a (by decide) (by decide) (by decide) (by decide) (by decide) (by decide), h4.2.1, h4.2.2.1, by rw [a.1 2 (by decide)]; exact h4.2.2.2.1, h4.2.2.2.2.1, h4.2.2.2.2.2⟩
    · intro b hb hn
      rw [sI_ne _ _ (by omega), sI_ne _ _ (by omega)]; exact h6 b hb hn
    · unfold rHi
      rw [sI_ne _ _ (by decide), sI_ne _ _ (by decide), sI_ne _ _ (by decide), sI_ne _ _ (by decide)]; exact h7
    · unfold rSl
      rw [sI_ne _ _ (by decide)]; exact h8
    · unfold rCa
      rw [sI_ne _ _ (by decide), sI_ne _ _ (by decide)]; exact h10
theorem k_cell {N : Nat} : ∀ (p1 p2 : Int32) (X M : St), Rel X M → ∃ r X2 M2, fX8_cell N p1 p2 X = some (r, X2) ∧ fX9_cell N p1 p2 M = some (r, M2) ∧ Rel X2 M2 := by
  rintro p1 p2 X M ⟨g, wt, th, st, gx, gy, gt, D, p, h⟩
  obtain ⟨x, rfl, hx⟩ := z_ex p1
  obtain ⟨y, rfl, hy⟩ := z_ex p2
  have hw := h.1.1
  have hX := h.2.2.1.1
  have hM := h.2.2.2.1.1
  refine ⟨zI (if inY g x y then (kd g x y : Int) else -2), X, M, ?_, ?_, h.rel⟩
  · unfold fX8_cell fX8_cell_34
    rw [x_cellAt hX hw hx hy, bd_ok, zl0]
    by_cases hi : inY g x y
    · obtain ⟨c1, c2, c3, c4⟩ := cel_in hw hi
      rw [if_pos hi, if_pos hi, i_le (by omega) (by omega), if_pos (by omega), ck_z (by omega) (by omega) (by omega), z_cl (by omega) (by omega)]
      have := hX.2.2.1 x.toNat y.toNat (by omega) (by omega)
      rw [show 8 * y.toNat + x.toNat = (8 * y + x).toNat by omega] at this
      rw [this]
      rfl
    · rw [if_neg hi, if_neg hi, i_le (by omega) (by omega), if_neg (by omega)]
      rfl
  · unfold fX9_cell fX9_cell_20
    rw [m_isInYard hM hw hx hy, bd_ok, zl0, i_d]
    by_cases hi : inY g x y
    · rw [if_pos hi, if_pos hi, m_kindAt hM hw hi, bd_ok]
    · rw [if_neg hi, if_neg hi]
      rfl
theorem k_moveAt {N : Nat} : ∀ (p1 : Int32) (X M : St), Rel X M → ∃ r X2 M2, fX8_moveAt N p1 X = some (r, X2) ∧ fX9_moveAt N p1 M = some (r, M2) ∧ Rel X2 M2 := by
  rintro p1 X M ⟨g, wt, th, st, gx, gy, gt, D, p, h⟩
  obtain ⟨x, rfl, hx⟩ := z_ex p1
  obtain ⟨md, kn, ar, mv, ef, h1, h2, h3, h4, h5, h6, h7, h8, h9, h10⟩ := h.2.2.2.2.2.2.1
  refine ⟨if 0 ≤ x then (if (md : Int) ≤ x then -7 else mv x.toNat) else -3, X, M, ?_, ?_, h.rel⟩
  · unfold fX8_moveAt fX8_moveAt_32
    rw [zl0, i_le (by omega) (by omega), h3, i_le (by omega) (by omega)]
    by_cases hx0 : 0 ≤ x
    · rw [if_pos hx0, if_pos hx0]
      by_cases hm : (md : Int) ≤ x
      · rw [if_pos hm, if_pos hm]
      · rw [if_neg hm, if_neg hm, ck_z (by omega) (by omega) (by omega), z_cl (by omega) (by omega), (h9 x.toNat (by omega)).2.2.1]
    · rw [if_neg hx0, if_neg hx0]
  · unfold fX9_moveAt fX9_moveAt_28
    rw [zl0, i_le (by omega) (by omega), h5, i_le (by omega) (by omega)]
    by_cases hx0 : 0 ≤ x
    · rw [if_pos hx0, if_pos hx0]
      by_cases hm : (md : Int) ≤ x
      · rw [if_pos hm, if_pos hm]
      · rw [if_neg hm, if_neg hm, ck_z (by omega) (by omega) (by omega), z_cl (by omega) (by omega), (h9 x.toNat (by omega)).2.2.2.1]
    · rw [if_neg hx0, if_neg hx0]
theorem es_bd {ef : Nat → Nat} (h : ∀ k, ef k ≤ 45) : ∀ n, es ef n ≤ 45 * n := by
  intro n
  induction n with
  | zero => simp [es]
  | succ n ih => unfold es; have := h n; omega
theorem k_effort {N : Nat} (hN : 3000 ≤ N) : ∀ (X M : St), Rel X M → ∃ r X2 M2, fX8_effort N X = some (r, X2) ∧ fX9_effort N M = some (r, M2) ∧ Rel X2 M2 := by
  rintro X M ⟨g, wt, th, st, gx, gy, gt, D, p, h⟩
  obtain ⟨md, kn, ar, mv, ef, h1, h2, h3, h4, h5, h6, h7, h8, h9, h10⟩ := h.2.2.2.2.2.2.1
  refine ⟨zI (es ef md : Nat), X, M, ?_, ?_, h.rel⟩
  · unfold fX8_effort
    rw [h3, ck_z (by omega) (by omega) (by omega), z_cl (by omega) (by omega), show ((md : Int)).toNat = md by omega, (h8 md h1).2.2]
  · have lp : ∀ (d k m : Nat), k + d = md → d < m → fX9_effort_4 N m (zI (es ef k : Nat)) (zI k) M = some (zI (es ef md : Nat), M) := by
      intro d
      induction d with
      | zero =>
        intro k m hk hm
        obtain ⟨m, rfl⟩ : ∃ n', m = n' + 1 := ⟨m - 1, by omega⟩
        show fX9_effort_4b N (fX9_effort_4 N m) (zI (es ef k : Nat)) (zI k) M = _
        unfold fX9_effort_4b
        rw [h5, i_le (by omega) (by omega), if_pos (by omega), show k = md by omega]
      | succ d ih =>
        intro k m hk hm
        obtain ⟨m, rfl⟩ : ∃ n', m = n' + 1 := ⟨m - 1, by omega⟩
        show fX9_effort_4b N (fX9_effort_4 N m) (zI (es ef k : Nat)) (zI k) M = _
        unfold fX9_effort_4b
        rw [h5, i_le (by omega) (by omega), if_neg (by omega), ck_z (by omega) (by omega) (by omega), z_cl (by omega) (by omega), show ((k : Int)).toNat = k by omega, (h9 k (by omega)).2.2.2.2, zA, nm_ok, zl1, zA]
        exact ih (k + 1) m (by omega) (by omega)
    exact lp md 0 N (by omega) (by omega)
theorem k_isSolved {N : Nat} (hN : 3000 ≤ N) : ∀ (X M : St), Rel X M → ∃ r X2 M2, fX8_isSolved N X = some (r, X2) ∧ fX9_isSolved N M = some (r, M2) ∧ Rel X2 M2 := by
  rintro X M ⟨g, wt, th, st, gx, gy, gt, D, p, h⟩
  have hok := h.2.1
  have hpb : ∀ b, b < 5 → p b < 256 := fun b hb => (hok.1 b hb).1
  have hD := h.1.2.2.2.2.2
  have hsv := sv_iff hD hok
  have hlb := lbN_bd hD hpb 5 (by omega)
  refine ⟨b2i (sv g gx gy gt p), X, M, ?_, ?_, h.rel⟩
  · unfold fX8_isSolved fX8_isSolved_22
    rw [x_present h.2.2.2.2.2.2.1, bd_ok, x_boundOf (by omega) h.2.2.1.2.2.2.2.2 hD hok (pkA_enc hpb), bd_ok, zl0, i_eq (by split <;> omega) (by omega)]
    cases hs : sv g gx gy gt p
    · rw [if_neg (fun z => by rw [hsv.mpr z] at hs; cases hs)]
    · rw [if_pos (hsv.mp hs)]
  · unfold fX9_isSolved fX9_isSolved_12
    rw [m_isSolvedNow (by omega) h.2.2.2.1.1 h.1.1 h.2.2.2.1.2.2.2.2.1 h.1.2.2.2.2.1 h.2.2.2.2.1 hpb, bd_ok, zl0, i_b]
    cases hs : sv g gx gy gt p
    · rw [if_neg (c := false = true) (by simp)]
    · rw [if_pos (c := true = true) rfl]
theorem k_lowerBound {N : Nat} (hN : 3000 ≤ N) : ∀ (X M : St), Rel X M → ∃ r X2 M2, fX8_lowerBound N X = some (r, X2) ∧ fX9_lowerBound N M = some (r, M2) ∧ Rel X2 M2 := by
  rintro X M ⟨g, wt, th, st, gx, gy, gt, D, p, h⟩
  have hok := h.2.1
  have hpb : ∀ b, b < 5 → p b < 256 := fun b hb => (hok.1 b hb).1
  have hD := h.1.2.2.2.2.2
  have hlb := lbN_bd hD hpb 5 (by omega)
  obtain ⟨Y, e, a⟩ := m_lowerBound (N := N) (by omega) h.2.2.2.1.1 h.1.1 h.2.2.2.1.2.2.2.2.1 h.1.2.2.2.2.1 hD h.2.2.2.2.1 hpb
  refine ⟨_, X, Y, ?_, e, (h.same (agr.rf _) (a.wk (by simp) (by simp) (by simp) (by simp)) (a.2.2.1 9 (by decide))).rel⟩
  unfold fX8_lowerBound fX8_lowerBound_25
  rw [x_present h.2.2.2.2.2.2.1, bd_ok, x_boundOf (by omega) h.2.2.1.2.2.2.2.2 hD hok (pkA_enc hpb), bd_ok, zl0]
  cases dd g D p
  · rw [if_neg (c := false = true) (by simp), if_neg (c := false = true) (by simp), i_le (by omega) (by omega), if_pos hlb.1]
  · rw [if_pos (c := true = true) rfl, if_pos (c := true = true) rfl, i_le (by omega) (by omega), if_neg (by omega)]
    rfl
theorem k_reachable {N : Nat} (hN : 3000 ≤ N) : ∀ (p1 : Int32) (X M : St), Rel X M → ∃ r X2 M2, fX8_reachable N p1 X = some (r, X2) ∧ fX9_reachable N p1 M = some (r, M2) ∧ Rel X2 M2 := by
  rintro p1 X M ⟨g, wt, th, st, gx, gy, gt, D, p, h⟩
  obtain ⟨j, rfl, hj⟩ := z_ex p1
  obtain ⟨Y, e, a, q⟩ := m_reachable (N := N) (by omega) h.1 h.2.2.2.1 h.2.2.2.2.1 h.2.1 hj
  unfold fX8_reachable fX8_reachable_9
  rw [e, zl0, i_lt (by omega) (by omega), zl4, i_le (by omega) (by omega)]
  have hm : MS M Y := a.wk (by simp) (by simp) (by simp) (by simp)
  by_cases h0 : j < 0
  · rw [if_pos h0]
    exact ⟨_, X, Y, rfl, by rw [if_neg (fun z => by omega)]; rfl, (h.scr (agr.rf _) hm q).rel⟩
  · rw [if_neg h0]
    by_cases h4 : j ≤ 4
    · rw [if_pos h4]
      obtain ⟨X2, e2, a2⟩ := x_countWithin (N := N) (gx := gx) (gy := gy) hN h.1 h.2.2.1 h.2.1 (most := j.toNat) (by omega)
      rw [show ((j.toNat : Nat) : Int) = j by omega] at e2
      rw [x_present h.2.2.2.2.2.2.1, bd_ok, e2, bd_ok]
      exact ⟨_, X2, Y, rfl, by rw [if_pos ⟨by omega, h4⟩], (h.scr (a2.wk (by simp) (by simp) (by simp) (by simp)) hm q).rel⟩
    · rw [if_neg h4]
      exact ⟨_, X, Y, rfl, by rw [if_neg (fun z => by omega)]; rfl, (h.scr (agr.rf _) hm q).rel⟩
