/-! a goal set -/
theorem sA_id {M : St} {k b : Nat} {v : Int32} (h : M.2.2.1 k b = v) : sA M k b v = M := by
  have e2 : (sA M k b v).2.2.1 = M.2.2.1 := by
    funext q
    by_cases hk : q = k
    · subst hk
      funext i
      by_cases hib : i = b
      · subst hib; rw [sA_same, h]
      · rw [sA_oth _ _ hib]
    · rw [sA_ne _ _ _ hk]
  exact Prod.ext rfl (Prod.ext rfl (Prod.ext e2 rfl))
theorem k_setGoal {N : Nat} (hN : 3000 ≤ N) : ∀ (p1 p2 p3 p4 : Int32) (X M : St), Rel X M → ∃ r X2 M2, fX8_setGoal N p1 p2 p3 p4 X = some (r, X2) ∧ fX9_setGoal N p1 p2 p3 p4 M = some (r, M2) ∧ Rel X2 M2 := by
  rintro p1 p2 p3 p4 X M ⟨g, wt, th, st, gx, gy, gt, D, p, h⟩
  obtain ⟨q, rfl, hq⟩ := z_ex p1
  obtain ⟨x, rfl, hx⟩ := z_ex p2
  obtain ⟨y, rfl, hy⟩ := z_ex p3
  obtain ⟨o, rfl, ho⟩ := z_ex p4
  have hw := h.1.1
  unfold fX8_setGoal fX9_setGoal fX8_setGoal_46 fX9_setGoal_70
  rw [x_has h.2.2.1.2.1 hw hq, bd_ok, m_noBlock h.2.2.2.1.1 hw hq, bd_ok, zl0, i_d]
  by_cases hB : 0 ≤ q ∧ q < 5 ∧ 0 < gN g q.toNat
  · obtain ⟨b, rfl⟩ : ∃ b : Nat, q = (b : Int) := ⟨q.toNat, by omega⟩
    rw [if_pos hB, decide_eq_true hB, i_b, if_neg (c := (!true) = true) (by simp), x_cellAt h.2.2.1.1 hw hx hy, bd_ok, m_isInYard h.2.2.2.1.1 hw hx hy, bd_ok, i_d]
    rw [show ((b : Int)).toNat = b by omega] at hB
    have hb5 : b < 5 := by omega
    by_cases hi : inY g x y
    · obtain ⟨c1, c2, c3, c4⟩ := cel_in hw hi
      rw [if_pos hi, if_pos hi, i_le (by omega) (by omega), if_pos (by omega), zl4, m_in ho (by omega) (by omega), bd_ok, i_d, i_lt (by omega) (by omega), i_le (by omega) (by omega)]
      by_cases hO : 0 ≤ o ∧ o ≤ 4
      · rw [if_neg (by omega), if_pos (by omega), if_pos hO]
        obtain ⟨hgb1, hgb2, hgb3, hgb4, hgb5, hgb6⟩ := h.1.2.2.2.2.1 b
        have hG := h.2.2.2.1.2.2.2.2.1
        have hxG := h.2.2.2.2.2.1 b hb5 hB.2.2
        have eX : ∀ (E1 E2 : Option (Int32 × St)), (if X.1 (15 + b) = zI (8 * y + x) then (if X.1 (20 + b) = zI o then E1 else E2) else E2) = if gt b = o ∧ gx b = x ∧ gy b = y then E1 else E2 := by
          intro E1 E2
          by_cases hgt : 0 ≤ gt b
          · obtain ⟨x1, x2, x3⟩ := hxG.1 hgt
            obtain ⟨d1, d2, d3, d4⟩ := cel_in hw x1
            rw [x2, x3, i_eq (by omega) (by omega), i_eq (by omega) (by omega)]
            by_cases hs : gt b = o ∧ gx b = x ∧ gy b = y
            · rw [if_pos hs, if_pos (by omega), if_pos hs.1]
            · rw [if_neg hs]
              by_cases hc : 8 * gy b + gx b = 8 * y + x
              · rw [if_pos hc, if_neg (by omega)]
              · rw [if_neg hc]
          · obtain ⟨x1, x2⟩ := hxG.2 (by omega)
            rw [x1, i_eq (by omega) (by omega), if_neg (by omega), if_neg (by omega)]
        rw [ck_z (by omega) (by omega) (by omega), ck_z (by omega) (by omega) (by omega), ck_z (by omega) (by omega) (by omega), ck_z (by omega) (by omega) (by omega), z_cl (by omega) (by omega), show ((b : Int)).toNat = b by omega, eX, (hG b hb5).1, (hG b hb5).2.1, (hG b hb5).2.2, i_eq (by omega) (by omega), i_eq (by omega) (by omega), i_eq (by omega) (by omega)]
        by_cases hs : gt b = o ∧ gx b = x ∧ gy b = y
        · rw [if_pos hs, if_pos hs.1, if_pos hs.2.1, if_pos hs.2.2]
          unfold fX9_setGoal_71 fX9_setGoal_105
          rw [ck_z (by omega) (by omega) (by omega), z_cl (by omega) (by omega), show ((b : Int)).toNat = b by omega, sA_id (by rw [(hG b hb5).1, hs.2.1]), stp_ok, ck_z (by omega) (by omega) (by omega), sA_id (by rw [(hG b hb5).2.1, hs.2.2]), stp_ok, ck_z (by omega) (by omega) (by omega), sA_id (by rw [(hG b hb5).2.2, hs.1]), stp_ok]
          exact ⟨_, X, M, rfl, rfl, h.rel⟩
        · have eM : ∀ (E1 E2 : Option (Int32 × St)), (if gt b = o then (if gx b = x then (if gy b = y then E1 else E2) else E2) else E2) = E2 := by
            intro E1 E2
            by_cases u1 : gt b = o
            · rw [if_pos u1]
              by_cases u2 : gx b = x
              · rw [if_pos u2, if_neg (fun u3 => hs ⟨u1, u2, u3⟩)]
              · rw [if_neg u2]
            · rw [if_neg u1]
          rw [if_neg hs, eM]
          unfold fX9_setGoal_71 fX9_setGoal_105 fX8_setGoal_82 fX0_aimAt fX5_forget
          rw [ck_z (by omega) (by omega) (by omega), z_cl (by omega) (by omega), show ((b : Int)).toNat = b by omega, stp_ok, stp_ok, bd_ok, stp_ok, ck_z (by omega) (by omega) (by omega), stp_ok, ck_z (by omega) (by omega) (by omega), stp_ok]
          have aX1 : agr [15 + b, 20 + b, 32] [] [2, 14 + b] [] X (sI (sI X (15 + b) (zI (8 * y + x))) (20 + b) (zI o)) := agr.sI (agr.sI (agr.rf _) (by simp) _) (by simp) _
          obtain ⟨Y, f, e1, a1, d1, v1⟩ := x_measure (N := N) (g := g) (X := sI (sI X (15 + b) (zI (8 * y + x))) (20 + b) (zI o)) (b := b) (gx := fun c => if c = b then x else gx c) (gy := fun c => if c = b then y else gy c) (gt := fun c => if c = b then o else gt c) (by omega) (h.2.2.1.1.ag aX1 (by simp; omega) (by simp; omega) (by simp) (by simp) (by simp; omega) (by simp) (by simp) (by simp)) (h.2.2.1.2.1.ag aX1 (fun c hc => by simp; omega) (fun c hc => by simp; omega) (fun c hc => by simp; omega) (fun c hc => by simp)) hw hb5 hB.2.2 (by simp only [if_true]; exact hi) (by simp only [if_true]; exact hO) (by rw [sI_ne _ _ (by omega), sI_same]; simp only [if_true]) (by rw [sI_same]; simp only [if_true])
          rw [e1, bd_ok, stp_ok, bd_ok]
          have aY : agr [15 + b, 20 + b, 32] [] [2, 14 + b] [] X (sI Y 32 (zI 0)) := agr.sI (aX1.tr (a1.wk (by simp) (by simp) (by simp) (by simp))) (by simp) _
          refine ⟨_, _, _, rfl, rfl, (h.goal (b := b) (gx2 := fun c => if c = b then x else gx c) (gy2 := fun c => if c = b then y else gy c) (gt2 := fun c => if c = b then o else gt c) (D2 := fun c => if c = b then f else D c) hb5 aY (agr.sA (agr.sA (agr.sA (agr.rf _) (by simp) _ _) (by simp) _ _) (by simp) _ _) (fun c => ?_) (fun c hc hn => ?_) (fun c hc => ?_) (fun c hc hn => ?_) (fun c hc P hP => ?_) (sI_same _ _ _)).rel⟩
          · obtain ⟨k1, k2, k3, k4, k5, k6⟩ := h.1.2.2.2.2.1 c
            dsimp only
            split <;> omega
          · dsimp only
            by_cases hcb : c = b
            · subst hcb
              rw [if_pos rfl]
              exact d1
            · rw [if_neg hcb, glb_off (gx := gx) (gy := gy) (gt := gt) (by rw [if_neg hcb]) (by rw [if_neg hcb]) (by rw [if_neg hcb])]
              exact h.1.2.2.2.2.2 c hc hn
          · dsimp only
            by_cases hcb : c = b
            · subst hcb
              rw [if_pos rfl, if_pos rfl, if_pos rfl, sA_ne _ _ _ (by decide), sA_ne _ _ _ (by decide), sA_same, sA_ne _ _ _ (by decide), sA_same, sA_same]
              exact ⟨rfl, rfl, rfl⟩
            · rw [if_neg hcb, if_neg hcb, if_neg hcb, sA_ne _ _ _ (show 6 ≠ 8 by decide), sA_ne _ _ _ (show 6 ≠ 7 by decide), sA_oth _ _ hcb, sA_ne _ _ _ (show 7 ≠ 8 by decide), sA_oth _ _ hcb, sA_ne _ _ _ (show 7 ≠ 6 by decide), sA_oth _ _ hcb, sA_ne _ _ _ (show 8 ≠ 7 by decide), sA_ne _ _ _ (show 8 ≠ 6 by decide)]
              exact hG c hc
          · have q1 : ∀ q, q ≠ 32 → (sI Y 32 (zI 0)).1 q = (sI (sI X (15 + b) (zI (8 * y + x))) (20 + b) (zI o)).1 q := fun q hq => by rw [sI_ne _ _ hq, a1.1 q (by simp)]
            rw [q1 _ (by omega), q1 _ (by omega)]
            dsimp only
            by_cases hcb : c = b
            · subst hcb
              rw [if_pos rfl, if_pos rfl, if_pos rfl, sI_same, sI_ne _ _ (by omega), sI_same]
              exact ⟨fun _ => ⟨hi, rfl, rfl⟩, fun z => by omega⟩
            · rw [if_neg hcb, if_neg hcb, if_neg hcb, sI_ne _ _ (by omega), sI_ne _ _ (by omega), sI_ne _ _ (by omega), sI_ne _ _ (by omega)]
              exact h.2.2.2.2.2.1 c hc hn
          · dsimp only
            show Y.2.2.1 (14 + c) P = _
            by_cases hcb : c = b
            · subst hcb
              simp only [if_true]
              rw [if_pos ⟨hB.2.2, hO.1⟩]
              exact v1 P hP
            · simp only [hcb, if_false]
              rw [a1.2.2.1 _ (by simp; omega)]
              exact h.2.2.1.2.2.2.2.2 c hc P hP
      · rw [if_neg hO]
        by_cases h0 : o < 0
        · rw [if_pos h0]; exact ⟨_, X, M, rfl, rfl, h.rel⟩
        · rw [if_neg h0, if_neg (by omega)]; exact ⟨_, X, M, rfl, rfl, h.rel⟩
    · rw [if_neg hi, if_neg hi, i_le (by omega) (by omega), if_neg (by omega)]
      exact ⟨_, X, M, rfl, rfl, h.rel⟩
  · rw [if_neg hB, decide_eq_false hB, i_b, if_pos (c := (!false) = true) rfl]
    exact ⟨_, X, M, rfl, rfl, h.rel⟩
