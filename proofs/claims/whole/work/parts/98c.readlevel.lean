/-! a level read -/
theorem k_readLevel {N : Nat} (hN : 3000 ≤ N) : ∀ (X M : St), Rel X M → ∃ r X2 M2, fX8_readLevel N X = some (r, X2) ∧ fX9_readLevel N M = some (r, M2) ∧ Rel X2 M2 := by
  rintro X M ⟨g0, wt, th, st, gx, gy, gt, D, p, h⟩
  obtain ⟨n, c, t1, t2, t3, t4⟩ := h.2.2.2.2.2.2.2.2.1
  have tX : txX n c X := ⟨t1, t2, fun i hi => ⟨(t4 i hi).1, (t4 i hi).2.2⟩⟩
  have tM : txM n c M := ⟨t1, t3, fun i hi => ⟨(t4 i hi).2.1, (t4 i hi).2.2⟩⟩
  obtain ⟨r, Y, Z, e1, e2, e3, e4, aY, aZ, e5⟩ := fault_both (N := N) (by omega) tX tM
  unfold fX8_readLevel fX9_readLevel
  rw [e1, bd_ok, e2, bd_ok, zlm1, i_eq (by omega) (by omega), zl0, i_lt (by omega) (by omega)]
  by_cases hr : r = -1
  · obtain ⟨hf, qX, qM, z5, hpv⟩ := e5 hr
    have hp : pivs (sc c n) := hpv
    obtain ⟨i1, i2, i3⟩ := iv_all n hf.1
    have hw := lq_wf hf hp
    have hok := lq_ok hf hp
    obtain ⟨B, b1, b2, b3, b4, b5⟩ := x_build hN hf hp tX qX
    obtain ⟨M2, m1, m2, m3, m4, m5, m6, m7, m8, m9⟩ := m_readLevel (N := N) (by omega) i2 hp qM z5
    have aF : agr [0, 28, 29, 32] [] [] [11] B (sI (sI (sI (sI (sL B 11 0 (lN (pkA (arOf (sc c n))))) 28 (zI 0)) 29 (zI 0)) 0 (zI 0)) 32 (zI 0)) := agr.sI (agr.sI (agr.sI (agr.sI (agr.sL (agr.rf _) (by simp) _ _) (by simp) _) (by simp) _) (by simp) _) (by simp) _
    have gF : xY (lvOf (sc c n)) (sI (sI (sI (sI (sL B 11 0 (lN (pkA (arOf (sc c n))))) 28 (zI 0)) 29 (zI 0)) 0 (zI 0)) 32 (zI 0)) := b3.ag aF (by decide) (by decide) (by decide) (by decide) (by decide) (by decide) (by decide) (by decide)
    have BF : xB (lvOf (sc c n)) (sI (sI (sI (sI (sL B 11 0 (lN (pkA (arOf (sc c n))))) 28 (zI 0)) 29 (zI 0)) 0 (zI 0)) 32 (zI 0)) := b4.ag aF (fun b hb => by simp; omega) (fun b hb => by simp) (fun b hb => by simp) (fun b hb => by simp; omega)
    have eX : (bd (fX3_build N Y) fun r7 S8 => bd (fX1_begin N r7 S8) fun r8 S9 => stp (sI S9 0 (zI 0)) fun S10 => bd (fX5_forget N S10) fun r9 S11 => bd (fX2_blockCount N S11) fun r10 S12 => some (r10, S12)) = some (zI (bcn (lvOf (sc c n)) 5 : Nat), sI (sI (sI (sI (sL B 11 0 (lN (pkA (arOf (sc c n))))) 28 (zI 0)) 29 (zI 0)) 0 (zI 0)) 32 (zI 0)) := by
      unfold fX1_begin fX5_forget
      rw [b1, bd_ok, zl0, ck_z (by omega) (by omega) (by omega), z_cl (by omega) (by omega), stp_ok, stp_ok, stp_ok, bd_ok, stp_ok, stp_ok, bd_ok, show ((0 : Int)).toNat = 0 from rfl, x_blockCount (by omega) BF hw, bd_ok]
    rw [zl0] at m1
    rw [if_pos hr, if_pos (by omega), eX, m1]
    generalize hF : (sI (sI (sI (sI (sL B 11 0 (lN (pkA (arOf (sc c n))))) 28 (zI 0)) 29 (zI 0)) 0 (zI 0)) 32 (zI 0)) = F at *
    have aT : agr [0, 3, 4, 5, 6, 7, 8, 9, 10, 11, 12, 13, 14, 15, 16, 17, 18, 19, 20, 21, 22, 23, 24, 25, 26, 27, 28, 29, 32] [0, 1] [3, 4, 5, 6, 7, 8, 9, 10, 11, 12, 13, 14, 15, 16, 17, 18, 19, 20, 21] [1, 2, 3, 4, 5, 6, 7, 8, 11] X F := ((agr.wk aY (by simp) (by simp) (by simp) (by simp)).tr (agr.wk b2 (by simp) (by simp) (by simp) (by simp))).tr (agr.wk aF (by simp) (by simp) (by simp) (by simp))
    have tF := tX.ag aT (by decide) (by decide)
    have tM2 := tM.ag m2 (by decide) (by decide)
    have hxb : ∀ b, b < 5 → F.1 (10 + b) = zI 1 ∧ F.1 (15 + b) = zI (-1) ∧ F.1 (20 + b) = zI 4 ∧ ∀ P, P < 256 → F.2.2.1 (14 + b) P = zI 0 := fun b hb => by
      rw [aF.1 (10 + b) (by simp; omega), aF.1 (15 + b) (by simp; omega), aF.1 (20 + b) (by simp; omega), aF.2.2.1 (14 + b) (by simp)]
      exact b5 b hb
    refine ⟨_, F, M2, rfl, rfl, lvOf (sc c n), fun _ => 1, th, st, gx, gy, fun _ => -1, fun b P => if plc (lvOf (sc c n)) b P then 0 else -1, arOf (sc c n), ⟨hw, h.1.2.1, fun _ => (by decide : 1 ≤ 9), h.1.2.2.2.1, fun b => ?_, fun b hb hn => D_none (by show (-1 : Int) < 0; omega)⟩, hok, ⟨gF, BF, fun b hb hn => (hxb b hb).1, fun k hk => ?_, ?_, fun b hb P hP => ?_⟩, ⟨⟨m3, m4, fun x y hx hy => ?_, fun b hb => (m6 b hb).1, fun b hb i hi => (m6 b hb).2.1 i hi⟩, h.2.2.2.1.2.1.ag m2 (by decide), fun b hb => (m6 b hb).2.2.1, ?_, fun b hb => ?_, fun z => by cases z⟩, fun b hb => (m6 b hb).2.2.2.2, fun b hb hn => ⟨fun z => absurd z (by show ¬ (0 : Int) ≤ -1; omega), fun _ => ⟨(hxb b hb).2.1, (hxb b hb).2.2.1⟩⟩, ?_, ?_, ?_, Or.inl ?_⟩
    · have := h.1.2.2.2.2.1 b
      show -1 ≤ gx b ∧ gx b < 100 ∧ -1 ≤ gy b ∧ gy b < 100 ∧ -1 ≤ (-1 : Int) ∧ (-1 : Int) ≤ 4
      omega
    · rw [aT.2.2.1 1 (by decide)]; exact h.2.2.1.2.2.2.1 k hk
    · rw [aT.1 2 (by decide)]; exact h.2.2.1.2.2.2.2.1
    · rw [(hxb b hb).2.2.2 P hP, if_neg (fun z => absurd z.2 (by show ¬ (0 : Int) ≤ -1; omega))]
    · rw [lq_C] at hx
      rw [lq_R] at hy
      have hy7 := i1.1
      have hW8 := (i1.2.2 (by have := hf.2.1; omega)).2.2.1
      have hk := kind_in hf hx (show y ≤ sY (sc c n) by omega)
      have hlt := grid_le hf (show x + 1 ≤ sW (sc c n) by omega) (show y ≤ sY (sc c n) by omega)
      have hk0 := ((hf.1 ((sW (sc c n) + 1) * y + x) (by omega)).2 (sign_in hf hx (by omega))).2.2.1
      rw [m5 (8 * y + x) (by omega) (by omega), lq_K]
      congr 1
      omega
    · rw [m2.1 2 (by decide)]; exact h.2.2.2.1.2.2.2.1
    · rw [m2.2.2.1 6 (by decide), m2.2.2.1 7 (by decide)]
      exact ⟨(h.2.2.2.1.2.2.2.2.1 b hb).1, (h.2.2.2.1.2.2.2.2.1 b hb).2.1, (m6 b hb).2.2.2.1⟩
    · obtain ⟨md, kn, ar, mv, ef, h1, h2, h3, h4, h5, h6, h7, h8, h9, h10⟩ := h.2.2.2.2.2.2.1
      refine ⟨0, 0, fun _ => pkA (arOf (sc c n)), fun _ => 0, fun _ => 0, Nat.le_refl 0, by omega, ?_, ?_, m7, m8, rfl, fun k hk => ?_, fun k hk => absurd hk (Nat.not_lt_zero _), fun k => (by decide : 0 ≤ 45)⟩
      · rw [← hF]; rfl
      · rw [← hF]; rfl
      · have : k = 0 := by omega
        subst this
        refine ⟨?_, (okA_pk hok).1, ?_⟩
        · rw [← hF]; rfl
        · rw [aT.2.2.1 27 (by decide)]; exact (h8 0 (Nat.zero_le _)).2.2
    · refine ⟨0, fun _ => 0, by omega, ?_, fun i hi => ?_, fun i hi hb => ?_⟩
      · rw [← hF]; rfl
      · rw [Nat.zero_testBit]; exact m9 i hi
      · rw [Nat.zero_testBit] at hb; cases hb
    · exact ⟨n, c, t1, tF.2.1, tM2.2.1, fun i hi => ⟨(tF.2.2 i hi).1, (tM2.2.2 i hi).1, (tF.2.2 i hi).2⟩⟩
    · rw [← hF]; rfl
  · rw [if_neg hr, if_neg (by omega), show (-100 : Int32) = zI (-100) from rfl, zS]
    exact ⟨_, Y, Z, rfl, rfl, (h.same (agr.wk aY (by simp) (by simp) (by simp) (by simp)) (agr.wk aZ (by simp) (by simp) (by simp) (by simp)) (aZ.2.2.1 9 (by decide))).rel⟩
