/-! solutions, asked -/
abbrev XS2 (X Y : St) : Prop := agr [25, 26, 27, 30, 31, 32] [2, 3, 4, 5, 6, 7, 8, 9, 10] [2, 19, 20, 21, 22, 23, 24, 25, 28, 29, 30, 31] [9, 10, 12] X Y
theorem RelP.scr2 {g : Lv} {wt th : Nat → Nat} {st : Nat} {gx gy gt : Nat → Int} {D : Nat → Nat → Int} {p : Nat → Nat} {X M X2 M2 : St} (h : RelP g wt th st gx gy gt D p X M) (a : XS2 X X2) (m : MS M M2) (hp : mPl p M2) (hca : rCa g wt th st gx gy gt D X2) : RelP g wt th st gx gy gt D p X2 M2 := by
  obtain ⟨h1, h2, ⟨e1, e2, e3, e4, e5, e6⟩, ⟨f1, f2, f3, f4, f5, f6⟩, h5, h6, h7, h8, h9, h10⟩ := h
  refine ⟨h1, h2, ⟨e1.ag a (by decide) (by decide) (by decide) (by decide) (by decide) (by decide) (by decide) (by decide), e2.ag a (fun b hb => by simp; omega) (fun b hb => by simp; omega) (fun b hb => by simp; omega) (fun b hb => by simp; omega), fun b hb hn => ?_, fun r hr => ?_, ?_, fun b hb P hP => ?_⟩, ⟨f1.ag m (by decide) (by decide) (by decide) (by decide) (by decide) (by decide), f2.ag m (by decide), f3.ag m (by decide), ?_, fun b hb => ?_, fun h => by cases h⟩, hp, fun b hb hn => ?_, ?_, ?_, ?_, ?_⟩
  · rw [a.1 _ (by simp; omega)]; exact e3 b hb hn
  · rw [a.2.2.1 1 (by decide)]; exact e4 r hr
  · rw [a.1 2 (by decide)]; exact e5
  · rw [a.2.2.1 _ (by simp; omega)]; exact e6 b hb P hP
  · rw [m.1 2 (by decide)]; exact f4
  · rw [m.2.2.1 6 (by decide), m.2.2.1 7 (by decide), m.2.2.1 8 (by decide)]; exact f5 b hb
  · rw [a.1 (15 + b) (by simp; omega), a.1 (20 + b) (by simp; omega)]; exact h6 b hb hn
  · unfold rHi
    rw [a.1 28 (by decide), a.1 29 (by decide), m.1 8 (by decide), m.1 9 (by decide), a.2.2.2 11 (by decide), a.2.2.1 27 (by decide), m.2.2.2 0 (by decide), m.2.2.2 1 (by decide), a.2.2.1 26 (by decide), m.2.2.1 20 (by decide), m.2.2.1 21 (by decide)]
    exact h7
  · unfold rSl
    rw [a.1 0 (by decide), m.2.2.1 22 (by decide), m.2.2.2 2 (by decide), a.2.2.2 0 (by decide)]
    exact h8
  · unfold rTx
    rw [a.1 1 (by decide), m.1 3 (by decide), a.2.2.1 0 (by decide), m.2.2.1 10 (by decide)]
    exact h9
  · exact hca
theorem pkA_cong {p q : Nat → Nat} (e : ∀ b, b < 5 → p b = q b) : pkA p = pkA q := by unfold pkA; rw [e 0 (by omega), e 1 (by omega), e 2 (by omega), e 3 (by omega), e 4 (by omega)]
theorem dd_cong {g : Lv} {D : Nat → Nat → Int} {p q : Nat → Nat} (e : ∀ b, b < 5 → p b = q b) : dd g D p = dd g D q := anyB_cong fun b hb => by rw [e b hb]
theorem sv_cong {g : Lv} {gx gy gt : Nat → Int} {p q : Nat → Nat} (e : ∀ b, b < 5 → p b = q b) : sv g gx gy gt p = sv g gx gy gt q := allB_cong fun b hb => by rw [e b hb]
theorem srS_cong {g : Lv} {wt th : Nat → Nat} {st : Nat} {gx gy gt : Nat → Int} {D : Nat → Nat → Int} {p q : Nat → Nat} (e : ∀ b, b < 5 → p b = q b) : srS g wt th st gx gy gt D p = srS g wt th st gx gy gt D q := by unfold srS; rw [pkA_cong e]
theorem sLen_cong {g : Lv} {wt th : Nat → Nat} {st : Nat} {gx gy gt : Nat → Int} {D : Nat → Nat → Int} {p q : Nat → Nat} (e : ∀ b, b < 5 → p b = q b) : sLen g wt th st gx gy gt D p = sLen g wt th st gx gy gt D q := by unfold sLen; rw [dd_cong e, sv_cong e, srS_cong e]
theorem sMov_cong {g : Lv} {wt th : Nat → Nat} {st : Nat} {gx gy gt : Nat → Int} {D : Nat → Nat → Int} {p q : Nat → Nat} (e : ∀ b, b < 5 → p b = q b) (j : Nat) : sMov g wt th st gx gy gt D p j = sMov g wt th st gx gy gt D q j := by unfold sMov; rw [srS_cong e]
theorem sLen_bd {g : Lv} {wt th : Nat → Nat} {st : Nat} {gx gy gt : Nat → Int} {D : Nat → Nat → Int} {p : Nat → Nat} (hw : wfL g) (hok : okA g p) : -7 ≤ sLen g wt th st gx gy gt D p ∧ sLen g wt th st gx gy gt D p < 1200 := by
  obtain ⟨w, w2⟩ := srS_w (wt := wt) (th := th) (st := st) (gx := gx) (gy := gy) (gt := gt) (D := D) hw hok
  have h1 := w.1
  have h2 := w.2.1
  have := tS_bd w ((srS g wt th st gx gy gt D p).2.1 - 1) (by omega)
  unfold sLen
  split
  · omega
  · split
    · omega
    · split
      · omega
      · split <;> omega
theorem x_solLen {N : Nat} {g : Lv} {wt th : Nat → Nat} {st : Nat} {gx gy gt : Nat → Int} {D : Nat → Nat → Int} {p : Nat → Nat} {X M : St} (hN : 3000 ≤ N) (h : RelP g wt th st gx gy gt D p X M) : ∃ Y, fX5_solutionLength N (lN (pkA p)) X = some (zI (sLen g wt th st gx gy gt D p), Y) ∧ XS2 X Y ∧ rCa g wt th st gx gy gt D Y ∧ ∀ j : Nat, (j : Int) < sLen g wt th st gx gy gt D p → Y.2.2.1 31 j = zI (sMov g wt th st gx gy gt D p j : Nat) := by
  obtain ⟨hv, hu⟩ := okA_pk h.2.1
  have eL : sLen g wt th st gx gy gt D (upk (pkA p)) = sLen g wt th st gx gy gt D p := sLen_cong hu
  have t16 : ∃ Y, fX5_solutionLength_16 N (lN (pkA p)) X = some (zI (sLen g wt th st gx gy gt D p), Y) ∧ XS2 X Y ∧ rCa g wt th st gx gy gt D Y ∧ ∀ j : Nat, (j : Int) < sLen g wt th st gx gy gt D p → Y.2.2.1 31 j = zI (sMov g wt th st gx gy gt D p j : Nat) := by
    obtain ⟨Y, e, a, hm⟩ := x_findSolution hN h.1 h.2.2.1 h.2.1
    unfold fX5_solutionLength_16 fX5_solutionLength_35
    rw [e, bd_ok, stp_ok, stp_ok, stp_ok]
    refine ⟨sI (sJ (sI Y 31 (zI (sLen g wt th st gx gy gt D p))) 10 (lN (pkA p))) 32 1, rfl, agr.sI (agr.sJ (agr.sI (a.wk (by simp) (by simp) (by simp) (by simp)) (by simp) _) (by simp) _) (by simp) _, Or.inr ⟨rfl, pkA p, hv, rfl, ?_, fun j hj => ?_⟩, hm⟩
    · rw [eL]; rfl
    · rw [eL] at hj
      rw [sMov_cong hu]
      exact hm j hj
  unfold fX5_solutionLength fX5_solutionLength_35
  rcases h.2.2.2.2.2.2.2.2.2 with h0 | ⟨h0, v, hv2, hj, hi, hm⟩
  · rw [h0, zl0, if_pos rfl]
    exact t16
  · rw [h0, zl0, i_eq (by omega) (by omega), if_neg (by omega), hj, i_ll hv2.1 hv.1]
    by_cases e : v = pkA p
    · rw [if_pos e, hi]
      subst e
      rw [eL]
      exact ⟨X, rfl, agr.rf _, h.2.2.2.2.2.2.2.2.2, fun j hj => by rw [hm j (by rw [eL]; exact hj), sMov_cong hu]⟩
    · rw [if_neg e]
      exact t16
theorem k_solve {N : Nat} (hN : 3000 ≤ N) : ∀ (X M : St), Rel X M → ∃ r X2 M2, fX8_solve N X = some (r, X2) ∧ fX9_solve N M = some (r, M2) ∧ Rel X2 M2 := by
  rintro X M ⟨g, wt, th, st, gx, gy, gt, D, p, h⟩
  obtain ⟨Y, e, a, c, m⟩ := x_solLen hN h
  obtain ⟨Z, e2, a2, q2⟩ := m_solve (N := N) (by omega) h.1 h.2.2.2.1 h.2.2.2.2.1 h.2.1
  unfold fX8_solve
  rw [x_present h.2.2.2.2.2.2.1, bd_ok, e, bd_ok, e2]
  exact ⟨_, Y, Z, rfl, rfl, (h.scr2 a (a2.wk (by simp) (by simp) (by simp) (by simp)) q2 c).rel⟩
theorem k_solution {N : Nat} (hN : 3000 ≤ N) : ∀ (p1 : Int32) (X M : St), Rel X M → ∃ r X2 M2, fX8_solution N p1 X = some (r, X2) ∧ fX9_solution N p1 M = some (r, M2) ∧ Rel X2 M2 := by
  rintro p1 X M ⟨g, wt, th, st, gx, gy, gt, D, p, h⟩
  obtain ⟨j, rfl, hj⟩ := z_ex p1
  obtain ⟨Z, e2, a2, q2⟩ := m_solution (N := N) (by omega) h.1 h.2.2.2.1 h.2.2.2.2.1 h.2.1 hj
  unfold fX8_solution fX8_solution_50
  rw [e2, zl0, i_le (by omega) (by omega)]
  by_cases h0 : j < 0
  · rw [if_neg (by omega), if_pos h0]
    exact ⟨_, X, Z, rfl, rfl, (h.scr (agr.rf _) (a2.wk (by simp) (by simp) (by simp) (by simp)) q2).rel⟩
  · obtain ⟨Y, e, a, c, m⟩ := x_solLen hN h
    have hbd := sLen_bd (wt := wt) (th := th) (st := st) (gx := gx) (gy := gy) (gt := gt) (D := D) h.1.1 h.2.1
    have hR := (h.scr2 a (a2.wk (by simp) (by simp) (by simp) (by simp)) q2 c).rel
    rw [if_pos (by omega), if_neg h0, x_present h.2.2.2.2.2.2.1, bd_ok, e, bd_ok, show (-6 : Int32) = zI (-6) from rfl, i_eq (by omega) (by omega), i_le (by omega) (by omega)]
    by_cases h6 : sLen g wt th st gx gy gt D p = -6
    · rw [if_pos h6, if_pos h6]
      exact ⟨_, Y, Z, rfl, rfl, hR⟩
    · rw [if_neg h6, if_neg h6]
      by_cases hle : sLen g wt th st gx gy gt D p ≤ j
      · rw [if_pos hle, if_pos hle]
        exact ⟨_, Y, Z, rfl, rfl, hR⟩
      · rw [if_neg hle, if_neg hle, ck_z (by omega) (by omega) (by omega), z_cl (by omega) (by omega), m j.toNat (by omega)]
        exact ⟨_, Y, Z, rfl, rfl, hR⟩
