/-! the class clears the level, and finds the placements -/
def xO (g : Lv) (b : Nat) (B : St) : Prop := B.1 (5 + b) = zI (gN g b) ∧ ∀ o, o < 4 → ∀ i, i < gN g b → B.2.2.1 (4 + b) (5 * o + i) = zI (rX o (gX g b i) (gY g b i)) ∧ B.2.2.1 (9 + b) (5 * o + i) = zI (rY o (gX g b i) (gY g b i))
theorem x_cellsIn {N : Nat} {g : Lv} {B : St} (hN : 100 ≤ N) (hg : xY g B) (hw : wfL g) {b p : Nat} (hO : xO g b B) (hp : p < 256) : ∃ w, fX0_cellsIn N b (zI p) B = some (w, B) ∧ ∀ q, q < 64 → bit w q = (plc g b p && hasC g b p q) := by
  have hn := hw.2.2.1 b
  have main : ∀ (d i m : Nat) (w : Int64), i + d = gN g b → d < m → (∀ j, j < i → fr g (cx g b j p) (cy g b j p) = true) → (∀ q, q < 64 → bit w q = anyB i fun j => decide (8 * cy g b j p + cx g b j p = (q : Int))) → ∃ w2, fX0_cellsIn_13 N b m (zI p) (zI (5 * (p / 64) : Nat)) w (zI (5 * (p / 64) + i : Nat)) B = some (w2, B) ∧ ∀ q, q < 64 → bit w2 q = (plc g b p && hasC g b p q) := by
    intro d
    induction d with
    | zero =>
      intro i m w h1 h2 h3 h4
      obtain ⟨m, rfl⟩ : ∃ n', m = n' + 1 := ⟨m - 1, by omega⟩
      have hi : i = gN g b := by omega
      subst hi
      refine ⟨w, ?_, fun q hq => ?_⟩
      · show fX0_cellsIn_13b N b (fX0_cellsIn_13 N b m) (zI p) _ w _ B = _
        unfold fX0_cellsIn_13b
        rw [hO.1, zA, i_le (by omega) (by omega), if_pos (by omega)]
      · rw [h4 q hq]
        have : plc g b p = true := by unfold plc; rw [allB_iff]; exact h3
        rw [this, Bool.true_and]
        rfl
    | succ d ih =>
      intro i m w h1 h2 h3 h4
      obtain ⟨m, rfl⟩ : ∃ n', m = n' + 1 := ⟨m - 1, by omega⟩
      have hi : i < gN g b := by omega
      obtain ⟨o1, o2⟩ := hO.2 (p / 64) (by omega) i hi
      have cb := cx_bd hw b i p
      have yb := cy_bd hw b i p
      have bad : fr g (cx g b i p) (cy g b i p) = false → ∀ q, q < 64 → bit (0 : Int64) q = (plc g b p && hasC g b p q) := by
        intro hf q hq
        have : plc g b p = false := by unfold plc; rw [allB_f]; exact ⟨i, hi, hf⟩
        rw [this, bit_0]; rfl
      show ∃ w2, fX0_cellsIn_13b N b (fX0_cellsIn_13 N b m) (zI p) _ w _ B = _ ∧ _
      unfold fX0_cellsIn_13b fX0_cellsIn_71
      rw [hO.1, zA, i_le (by omega) (by omega), if_neg (by omega), x_columnOf hp, bd_ok, ck_z (by omega) (by omega) (by omega), x_rowOf hp, bd_ok, ck_z (by omega) (by omega) (by omega), z_cl (by omega) (by omega), show (((5 * (p / 64) + i : Nat) : Int)).toNat = 5 * (p / 64) + i by omega, o1, o2, zA, zA, show ((p % 8 : Nat) : Int) + rX (p / 64) (gX g b i) (gY g b i) = cx g b i p from rfl, show ((p / 8 % 8 : Nat) : Int) + rY (p / 64) (gX g b i) (gY g b i) = cy g b i p from rfl, x_cellAt hg hw (by omega) (by omega), bd_ok]
      by_cases hin : inY g (cx g b i p) (cy g b i p)
      · obtain ⟨q0, k1, k2, k3, k4, k5⟩ := celN hw hin
        rw [if_pos hin, ← k1, zl0, i_lt (by omega) (by omega), if_neg (by omega), x_holds k2, bd_ok, i_b, hg.2.2.2.1 q0 k2, k3, k4, Bool.true_and]
        by_cases hwl : (kd g (cx g b i p) (cy g b i p) == 1) = true
        · rw [if_pos hwl]
          refine ⟨0, rfl, bad ?_⟩
          unfold fr
          rw [hwl, Bool.not_true, Bool.and_false]
        · have hfr : fr g (cx g b i p) (cy g b i p) = true := by
            unfold fr
            rw [decide_eq_true hin]
            cases hz : (kd g (cx g b i p) (cy g b i p) == 1)
            · rfl
            · exact absurd hz hwl
          rw [if_neg hwl, nm_ok, zl1, zA, show ((5 * (p / 64) + i : Nat) : Int) + 1 = ((5 * (p / 64) + (i + 1) : Nat) : Int) by omega]
          refine ih (i + 1) m _ (by omega) (by omega) (fun j hj => ?_) (fun q hq => ?_)
          · by_cases hji : j = i
            · subst hji; exact hfr
            · exact h3 j (by omega)
          · rw [bit_or, bit_one k2 hq, h4 q hq]
            show _ = (anyB i _ || decide (8 * cy g b i p + cx g b i p = (q : Int)))
            congr 1
            by_cases hqq : q = q0
            · rw [decide_eq_true hqq, decide_eq_true (by omega)]
            · rw [decide_eq_false hqq, decide_eq_false (by omega)]
      · rw [if_neg hin, zl0, i_lt (by omega) (by omega), if_pos (by omega)]
        refine ⟨0, rfl, bad ?_⟩
        unfold fr
        rw [decide_eq_false hin]; rfl
  unfold fX0_cellsIn
  rw [x_orientationOf hp, bd_ok, show (5 : Int32) = zI 5 from rfl, zM, nm_ok]
  exact main (gN g b) 0 N 0 (by omega) (by omega) (fun j hj => absurd hj (Nat.not_lt_zero _)) (fun q _ => by rw [bit_0]; rfl)
theorem x_findPl {N : Nat} {g : Lv} {B : St} (hN : 300 ≤ N) (hg : xY g B) (hw : wfL g) {b : Nat} (hb : b < 5) (hO : xO g b B) : ∃ B2, fX0_findPlacements N b B = some ((), B2) ∧ agr [] [] [] [4 + b] B B2 ∧ ∀ p, p < 256 → ∀ q, q < 64 → bit (B2.2.2.2 (4 + b) p) q = (plc g b p && hasC g b p q) := by
  have main : ∀ (d p m : Nat) (Y : St), p + d = 256 → d < m → agr [] [] [] [4 + b] B Y → (∀ r, r < p → ∀ q, q < 64 → bit (Y.2.2.2 (4 + b) r) q = (plc g b r && hasC g b r q)) → ∃ B2, fX0_findPlacements_2 N b m (zI p) Y = some ((), B2) ∧ agr [] [] [] [4 + b] B B2 ∧ ∀ r, r < 256 → ∀ q, q < 64 → bit (B2.2.2.2 (4 + b) r) q = (plc g b r && hasC g b r q) := by
    intro d
    induction d with
    | zero =>
      intro p m Y h1 h2 a k
      obtain ⟨m, rfl⟩ : ∃ n', m = n' + 1 := ⟨m - 1, by omega⟩
      refine ⟨Y, ?_, a, fun r hr => k r (by omega)⟩
      show fX0_findPlacements_2b N b (fX0_findPlacements_2 N b m) (zI p) Y = _
      unfold fX0_findPlacements_2b
      rw [zl256, i_le (by omega) (by omega), if_pos (by omega)]
    | succ d ih =>
      intro p m Y h1 h2 a k
      obtain ⟨m, rfl⟩ : ∃ n', m = n' + 1 := ⟨m - 1, by omega⟩
      have hgY : xY g Y := hg.ag a (by simp) (by simp) (by simp) (by simp) (by simp) (by simp; omega) (by simp; omega) (by simp; omega)
      have hOY : xO g b Y := by
        unfold xO
        rw [a.1 _ (by simp), a.2.2.1 _ (by simp), a.2.2.1 (9 + b) (by simp)]; exact hO
      obtain ⟨w, e1, e2⟩ := x_cellsIn (N := N) (B := Y) (by omega) hgY hw hOY (show p < 256 by omega)
      show ∃ B2, fX0_findPlacements_2b N b (fX0_findPlacements_2 N b m) (zI p) Y = _ ∧ _
      unfold fX0_findPlacements_2b
      rw [zl256, i_le (by omega) (by omega), if_neg (by omega), e1, bd_ok, ck_z (by omega) (by omega) (by omega), stp_ok, z_cl (by omega) (by omega), show ((p : Int)).toNat = p by omega, zl1, zA]
      refine ih (p + 1) m _ (by omega) (by omega) (agr.sL a (by simp) _ _) (fun r hr q hq => ?_)
      rw [sL_at]
      by_cases hrp : r = p
      · rw [if_pos hrp, hrp]; exact e2 q hq
      · rw [if_neg hrp]; exact k r (by omega) q hq
  unfold fX0_findPlacements
  exact main 256 0 N B (by omega) (by omega) (agr.rf _) (fun r hr => absurd hr (Nat.not_lt_zero _))
abbrev agC (Y C : St) : Prop := agr [3, 4, 5, 6, 7, 8, 9, 10, 11, 12, 13, 14, 15, 16, 17, 18, 19, 20, 21, 22, 23, 24] [0, 1] [3, 14, 15, 16, 17, 18] [1, 2, 3] Y C
def CB (C : St) (b : Nat) : Prop := C.1 (5 + b) = zI 0 ∧ C.1 (10 + b) = zI 1 ∧ C.1 (15 + b) = zI (-1) ∧ C.1 (20 + b) = zI 4 ∧ ∀ P, P < 256 → C.2.2.1 (14 + b) P = zI 0
theorem x_clear1 {N b : Nat} {Y : St} (hb : b < 5) : ∃ C, fX0_clear N b Y = some ((), C) ∧ agr [5 + b, 10 + b, 15 + b, 20 + b] [] [14 + b] [] Y C ∧ CB C b := by
  unfold fX0_clear fX0_dropGoal
  rw [stp_ok, stp_ok, stp_ok, stp_ok, stp_ok, bd_ok]
  refine ⟨_, rfl, agr.fA (agr.sI (agr.sI (agr.sI (agr.sI (agr.rf _) (by simp) _) (by simp) _) (by simp) _) (by simp) _) (by simp) _, ?_, ?_, ?_, ?_, fun P hP => ?_⟩
  · rw [fA_I, sI_ne _ _ (by omega), sI_ne _ _ (by omega), sI_ne _ _ (by omega), sI_same]; rfl
  · rw [fA_I, sI_ne _ _ (by omega), sI_ne _ _ (by omega), sI_same]; rfl
  · rw [fA_I, sI_ne _ _ (by omega), sI_same]; rfl
  · rw [fA_I, sI_same]; rfl
  · rw [fA_at]
    unfold fil
    rw [if_pos hP]; rfl
theorem x_clear {N W R : Nat} {Y : St} (hN : 100 ≤ N) : ∃ C, fX2_clear N (zI W) (zI R) Y = some ((), C) ∧ agC Y C ∧ C.1 3 = zI W ∧ C.1 4 = zI R ∧ (∀ q, q < 64 → C.2.2.1 3 q = zI 0) ∧ C.2.1 0 = 0 ∧ C.2.1 1 = 0 ∧ (∀ k, k < 4 → C.2.2.2 1 k = 0 ∧ C.2.2.2 2 k = 0 ∧ C.2.2.2 3 k = 0) ∧ ∀ b, b < 5 → CB C b := by
  have e7 : ∃ Z, fX7_clear N (zI W) (zI R) Y = some ((), Z) ∧ agC Y Z ∧ Z.1 3 = zI W ∧ Z.1 4 = zI R ∧ (∀ q, q < 64 → Z.2.2.1 3 q = zI 0) ∧ Z.2.1 0 = 0 ∧ Z.2.1 1 = 0 ∧ (∀ k, k < 4 → Z.2.2.2 1 k = 0 ∧ Z.2.2.2 2 k = 0 ∧ Z.2.2.2 3 k = 0) := by
    unfold fX7_clear
    rw [stp_ok, stp_ok, stp_ok, stp_ok, stp_ok, stp_ok, stp_ok, stp_ok]
    refine ⟨_, rfl, agr.fL (agr.fL (agr.fL (agr.fA (agr.sJ (agr.sJ (agr.sI (agr.sI (agr.rf _) (by simp) _) (by simp) _) (by simp) _) (by simp) _) (by simp) _) (by simp) _) (by simp) _) (by simp) _, rfl, rfl, fun q hq => ?_, rfl, rfl, fun k hk => ⟨?_, ?_, ?_⟩⟩
    · show fil 64 0 _ q = _
      unfold fil
      rw [if_pos hq]; rfl
    · show fil 4 0 _ k = _
      unfold fil
      rw [if_pos hk]
    · show fil 4 0 _ k = _
      unfold fil
      rw [if_pos hk]
    · show fil 4 0 _ k = _
      unfold fil
      rw [if_pos hk]
  obtain ⟨Z, z1, z2, z3, z4, z5, z6, z7, z8⟩ := e7
  have main : ∀ (d b m : Nat) (V : St), b + d = 5 → d < m → agr [5, 6, 7, 8, 9, 10, 11, 12, 13, 14, 15, 16, 17, 18, 19, 20, 21, 22, 23, 24] [] [14, 15, 16, 17, 18] [] Z V → (∀ e, e < b → CB V e) → ∃ C, fX2_clear_11 N m (zI b) V = some ((), C) ∧ agr [5, 6, 7, 8, 9, 10, 11, 12, 13, 14, 15, 16, 17, 18, 19, 20, 21, 22, 23, 24] [] [14, 15, 16, 17, 18] [] Z C ∧ ∀ e, e < 5 → CB C e := by
    intro d
    induction d with
    | zero =>
      intro b m V h1 h2 a k
      obtain ⟨m, rfl⟩ : ∃ n', m = n' + 1 := ⟨m - 1, by omega⟩
      refine ⟨V, ?_, a, fun e he => k e (by omega)⟩
      show fX2_clear_11b N (fX2_clear_11 N m) (zI b) V = _
      unfold fX2_clear_11b
      rw [zl5, i_le (by omega) (by omega), if_pos (by omega)]
    | succ d ih =>
      intro b m V h1 h2 a k
      obtain ⟨m, rfl⟩ : ∃ n', m = n' + 1 := ⟨m - 1, by omega⟩
      obtain ⟨C, c1, c2, c3⟩ := x_clear1 (N := N) (Y := V) (show b < 5 by omega)
      show ∃ C, fX2_clear_11b N (fX2_clear_11 N m) (zI b) V = _ ∧ _
      unfold fX2_clear_11b
      rw [zl5, i_le (by omega) (by omega), if_neg (by omega), ck_z (by omega) (by omega) (by omega), z_cl (by omega) (by omega), show ((b : Int)).toNat = b by omega, c1, bd_ok, zl1, zA]
      refine ih (b + 1) m C (by omega) (by omega) (a.tr (c2.wk (fun j hj => ?_) (fun j hj => ?_) (fun j hj => ?_) (fun j hj => ?_))) (fun e he => ?_)
      · simp at hj; simp; omega
      · cases hj
      · simp at hj; simp; omega
      · cases hj
      · by_cases heb : e = b
        · subst heb; exact c3
        · have := k e (by omega)
          unfold CB
          rw [c2.1 (5 + e) (by simp; omega), c2.1 (10 + e) (by simp; omega), c2.1 (15 + e) (by simp; omega), c2.1 (20 + e) (by simp; omega), c2.2.2.1 (14 + e) (by simp; omega)]
          exact this
  obtain ⟨C, c1, c2, c3⟩ := main 5 0 N Z (by omega) (by omega) (agr.rf _) (fun e he => absurd he (Nat.not_lt_zero _))
  unfold fX2_clear
  rw [z1, bd_ok, show fX2_clear_11 N N 0 Z = _ from c1]
  refine ⟨C, rfl, z2.tr (c2.wk (by simp) (by simp) (by simp) (by simp)), ?_, ?_, fun q hq => ?_, ?_, ?_, fun k hk => ?_, c3⟩
  · rw [c2.1 3 (by decide)]; exact z3
  · rw [c2.1 4 (by decide)]; exact z4
  · rw [c2.2.2.1 3 (by decide)]; exact z5 q hq
  · rw [c2.2.1 0 (by simp)]; exact z6
  · rw [c2.2.1 1 (by simp)]; exact z7
  · rw [c2.2.2.2 1 (by simp), c2.2.2.2 2 (by simp), c2.2.2.2 3 (by simp)]; exact z8 k hk
