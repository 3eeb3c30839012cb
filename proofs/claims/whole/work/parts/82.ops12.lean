/-! type -/
theorem k_type {N : Nat} : ∀ (p1 : Int32) (X M : St), Rel X M → ∃ r X2 M2, fX8_type N p1 X = some (r, X2) ∧ fX9_type N p1 M = some (r, M2) ∧ Rel X2 M2 := by
  rintro p1 X M ⟨g, wt, th, st, gx, gy, gt, D, p, h⟩
  obtain ⟨n, c, t1, t2, t3, t4⟩ := h.2.2.2.2.2.2.2.2.1
  unfold fX8_type fX8_type_23 fX6_append fX9_type
  rw [t2, t3, show (80 : Int32) = zI 80 from rfl, i_lt (by omega) (by omega), i_eq (by omega) (by omega)]
  by_cases hn : n = 80
  · rw [if_neg (by omega), if_pos (by omega), bd_ok]
    exact ⟨_, X, M, rfl, rfl, h.rel⟩
  · obtain ⟨cv, hcv, hc2⟩ : ∃ cv : Nat, vp_nar .char p1 = zI (cv : Nat) ∧ cv < 65536 := by
      refine ⟨(p1.toUInt32 % 65536).toNat, ?_, ?_⟩
      · show (p1.toUInt32 % 65536).toInt32 = _
        generalize p1.toUInt32 % 65536 = u
        rw [z_nI]
        apply Int32.toBitVec_inj.mp
        show u.toBitVec = BitVec.ofNat 32 u.toNat
        apply BitVec.eq_of_toNat_eq
        rw [BitVec.toNat_ofNat]
        exact (Nat.mod_eq_of_lt u.toNat_lt).symm
      · rw [UInt32.toNat_mod]
        exact Nat.mod_lt _ (by decide)
    rw [if_pos (by omega), if_neg (by omega), ck_z (by omega) (by omega) (by omega), ck_z (by omega) (by omega) (by omega), stp_ok, stp_ok, stp_ok, z_cl (by omega) (by omega), show ((n : Int)).toNat = n by omega, hcv]
    have a : agr [1] [] [0] [] X (sI (sA X 0 n (zI cv)) 1 (zI ((n : Int) + 1))) := agr.sI (agr.sA (agr.rf _) (by simp) _ _) (by simp) _
    have m : agr [3] [] [10] [] M (sI (sA M 10 n (zI cv)) 3 (zI ((n : Int) + 1))) := agr.sI (agr.sA (agr.rf _) (by simp) _ _) (by simp) _
    have r1 : (sA X 0 n (zI cv)).1 1 = zI n := t2
    have r3 : (sA M 10 n (zI cv)).1 3 = zI n := t3
    rw [r1, zl1, zA, bd_ok, r3, zA, stp_ok, sI_same, sI_same]
    obtain ⟨h1, h2, h3, h4, h5, h6, h7, h8, h9, h10⟩ := h
    refine ⟨zI ((n : Int) + 1), sI (sA X 0 n (zI cv)) 1 (zI ((n : Int) + 1)), sI (sA M 10 n (zI cv)) 3 (zI ((n : Int) + 1)), rfl, rfl, g, wt, th, st, gx, gy, gt, D, p, h1, h2, ⟨h3.1.ag a (by decide) (by decide) (by decide) (by decide) (by decide) (by decide) (by decide) (by decide), h3.2.1.ag a (fun b hb => by simp; omega) (fun b hb => by simp) (fun b hb => by simp) (fun b hb => by simp), fun b hb hn => by rw [a.1 _ (by simp; omega)]; exact h3.2.2.1 b hb hn, fun r hr => by rw [a.2.2.1 1 (by decide)]; exact h3.2.2.2.1 r hr, by rw [a.1 2 (by decide)]; exact h3.2.2.2.2.1, fun b hb P hP => by rw [a.2.2.1 _ (by simp)]; exact h3.2.2.2.2.2 b hb P hP⟩, ⟨h4.1.ag m (by decide) (by decide) (by decide) (by decide) (by decide) (by decide), h4.2.1.ag m (by decide), h4.2.2.1.ag m (by decide), by rw [m.1 2 (by decide)]; exact h4.2.2.2.1, fun b hb => by rw [m.2.2.1 6 (by decide), m.2.2.1 7 (by decide), m.2.2.1 8 (by decide)]; exact h4.2.2.2.2.1 b hb, fun z => by cases z⟩, h5.ag m (by decide), fun b hb hn => by rw [a.1 (15 + b) (by simp; omega), a.1 (20 + b) (by simp; omega)]; exact h6 b hb hn, ?_, ?_, ⟨n + 1, fun i => if i = n then cv else c i, by omega, sI_same _ _ _, sI_same _ _ _, fun i hi => ?_⟩, ?_⟩
    · unfold rHi
      rw [a.1 28 (by decide), a.1 29 (by decide), m.1 8 (by decide), m.1 9 (by decide), a.2.2.1 27 (by decide), a.2.2.1 26 (by decide), m.2.2.1 20 (by decide), m.2.2.1 21 (by decide)]; exact h7
    · unfold rSl
      rw [a.1 0 (by decide), m.2.2.1 22 (by decide)]; exact h8
    · show (sA X 0 n (zI cv)).2.2.1 0 i = zI ((if i = n then cv else c i : Nat)) ∧ (sA M 10 n (zI cv)).2.2.1 10 i = zI ((if i = n then cv else c i : Nat)) ∧ (if i = n then cv else c i) < 65536
      by_cases hin : i = n
      · rw [if_pos hin, hin, sA_same, sA_same]; exact ⟨rfl, rfl, hc2⟩
      · rw [if_neg hin, sA_oth _ _ hin, sA_oth _ _ hin]; exact t4 i (by omega)
    · unfold rCa
      rw [a.1 32 (by decide), a.1 31 (by decide), a.2.2.1 31 (by decide)]; exact h10
