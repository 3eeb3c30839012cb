/-! dead, solved, at least so many moves -/
def hasD (g : Lv) (gx gy gt : Nat → Int) (D : Nat → Nat → Int) : Prop := ∀ b, b < 5 → 0 < gN g b → isD (nxb g b) (glb g gx gy gt b) (D b)
def mD (g : Lv) (D : Nat → Nat → Int) (M : St) : Prop := ∀ b, b < 5 → 0 < gN g b → ∀ P, P < 256 → M.2.2.1 24 (256 * b + P) = zI (D b P)
def xD (g : Lv) (gt : Nat → Int) (D : Nat → Nat → Int) (X : St) : Prop := ∀ b, b < 5 → ∀ P, P < 256 → X.2.2.1 (14 + b) P = zI (if 0 < gN g b ∧ 0 ≤ gt b then D b P else 0)
theorem m_findAllFar {N : Nat} {g : Lv} {M : St} {gx gy gt : Nat → Int} {D : Nat → Nat → Int} (hN : 300 ≤ N) (hg : mL g M) (hw : wfL g) (hG : mG gx gy gt M) (hB : bG gx gy gt) (hD : hasD g gx gy gt D) : ∃ Y, fX9_findAllFar N M = some ((), Y) ∧ agr [6, 7] [] [23, 24] [] M Y ∧ mD g D Y := by
  have lp : ∀ (d b m : Nat) (Y : St), b + d = 5 → d < m → agr [6, 7] [] [23, 24] [] M Y → (∀ c, c < b → 0 < gN g c → ∀ P, P < 256 → Y.2.2.1 24 (256 * c + P) = zI (D c P)) → ∃ Y2, fX9_findAllFar_2 N m (zI b) Y = some ((), Y2) ∧ agr [6, 7] [] [23, 24] [] M Y2 ∧ mD g D Y2 := by
    intro d
    induction d with
    | zero =>
      intro b m Y hb hm ha hd
      obtain ⟨m, rfl⟩ : ∃ n', m = n' + 1 := ⟨m - 1, by omega⟩
      refine ⟨Y, ?_, ha, fun c hc => hd c (by omega)⟩
      show fX9_findAllFar_2b N (fX9_findAllFar_2 N m) (zI b) Y = _
      unfold fX9_findAllFar_2b
      rw [zl5, i_le (by omega) (by omega), if_pos (by omega)]
    | succ d ih =>
      intro b m Y hb hm ha hd
      obtain ⟨m, rfl⟩ : ∃ n', m = n' + 1 := ⟨m - 1, by omega⟩
      have hn5 := hw.2.2.1 b
      have hgY := hg.ag ha (by decide) (by decide) (by decide) (by decide) (by decide) (by decide)
      have hGY : mG gx gy gt Y := fun b hb => by rw [ha.2.2.1 6 (by decide), ha.2.2.1 7 (by decide), ha.2.2.1 8 (by decide)]; exact hG b hb
      show ∃ Y2, fX9_findAllFar_2b N (fX9_findAllFar_2 N m) (zI b) Y = some ((), Y2) ∧ agr [6, 7] [] [23, 24] [] M Y2 ∧ mD g D Y2
      unfold fX9_findAllFar_2b fX9_findAllFar_21
      rw [zl5, i_le (by omega) (by omega), if_neg (by omega), ck_z (by omega) (by omega) (by omega), z_cl (by omega) (by omega), show ((b : Int)).toNat = b by omega, hgY.2.2.2.1 b (by omega), zl0, i_le (by omega) (by omega), zl1, zA]
      by_cases hn : gN g b = 0
      · rw [if_pos (by omega)]
        exact ih (b + 1) m Y (by omega) (by omega) ha (fun c hc h => by
          by_cases hcb : c = b
          · subst hcb; omega
          · exact hd c (by omega) h)
      · rw [if_neg (by omega)]
        obtain ⟨Y2, f, e1, e2, e3, e4, e5⟩ := m_findFar hN hgY hw hGY hB (b := b) (by omega) (by omega)
        rw [e1, bd_ok]
        exact ih (b + 1) m Y2 (by omega) (by omega) (ha.tr e2) (fun c hc h P hP => by
          by_cases hcb : c = b
          · subst hcb
            rw [e4 P hP, isD_uniq e3 (hD c (by omega) h) hP]
          · rw [e5 _ (by omega)]
            exact hd c (by omega) h P hP)
  exact lp 5 0 N M (by omega) (by omega) (agr.rf _) (fun c hc => by omega)
def dd (g : Lv) (D : Nat → Nat → Int) (p : Nat → Nat) : Bool := anyB 5 fun b => decide (0 < gN g b) && decide (D b (p b) < 0)
theorem m_isDeadNow {N : Nat} {g : Lv} {M : St} {gx gy gt : Nat → Int} {D : Nat → Nat → Int} {p : Nat → Nat} (hN : 100 ≤ N) (hg : mL g M) (hw : wfL g) (hD : hasD g gx gy gt D) (hM : mD g D M) (hp : mPl p M) (hpb : ∀ b, b < 5 → p b < 256) : fX9_isDeadNow N M = some (dd g D p, M) := by
  have lp : ∀ (d b m : Nat), b + d = 5 → d < m → fX9_isDeadNow_4 N m (anyB b fun b => decide (0 < gN g b) && decide (D b (p b) < 0)) (zI b) M = some (dd g D p, M) := by
    intro d
    induction d with
    | zero =>
      intro b m hb hm
      obtain ⟨m, rfl⟩ : ∃ n', m = n' + 1 := ⟨m - 1, by omega⟩
      have : b = 5 := by omega
      subst this
      show fX9_isDeadNow_4b N (fX9_isDeadNow_4 N m) _ (zI (5 : Nat)) M = _
      unfold fX9_isDeadNow_4b
      rw [zl5, i_le (by omega) (by omega), if_pos (by omega)]
      rfl
    | succ d ih =>
      intro b m hb hm
      obtain ⟨m, rfl⟩ : ∃ n', m = n' + 1 := ⟨m - 1, by omega⟩
      have hn5 := hw.2.2.1 b
      have hb5 : b < 5 := by omega
      have h1 := hpb b hb5
      have hi := ih (b + 1) m (by omega) (by omega)
      have ee : (anyB (b + 1) fun b => decide (0 < gN g b) && decide (D b (p b) < 0)) = ((anyB b fun b => decide (0 < gN g b) && decide (D b (p b) < 0)) || (decide (0 < gN g b) && decide (D b (p b) < 0))) := rfl
      rw [ee] at hi
      show fX9_isDeadNow_4b N (fX9_isDeadNow_4 N m) _ (zI b) M = _
      unfold fX9_isDeadNow_4b fX9_isDeadNow_46 fX9_isDeadNow_42 fX9_isDeadNow_47
      rw [zl5, i_le (by omega) (by omega), if_neg (by omega), zl0, i_b, zl1, zA]
      cases hany : (anyB b fun b => decide (0 < gN g b) && decide (D b (p b) < 0))
      · rw [if_neg (c := false = true) (by simp), ck_z (by omega) (by omega) (by omega), z_cl (by omega) (by omega), show ((b : Int)).toNat = b by omega, hg.2.2.2.1 b hb5, i_le (by omega) (by omega), hp b hb5, zl256, zM, zA]
        rw [hany, Bool.false_or] at hi
        by_cases hn : gN g b = 0
        · rw [if_pos (by omega)]
          rw [decide_eq_false (p := 0 < gN g b) (by omega)] at hi
          exact hi
        · have hbd := isD_bd (hD b hb5 (by omega)) h1
          rw [if_neg (by omega), ck_z (by omega) (by omega) (by omega), ck_z (by omega) (by omega) (by omega), z_cl (by omega) (by omega), show ((256 * (b : Int) + (p b : Int))).toNat = 256 * b + p b by omega, hM b hb5 (by omega) _ h1, i_le (by omega) (by omega)]
          rw [decide_eq_true (p := 0 < gN g b) (by omega)] at hi
          by_cases h2 : 0 ≤ D b (p b)
          · rw [if_pos h2]
            rw [decide_eq_false (p := D b (p b) < 0) (by omega)] at hi
            exact hi
          · rw [if_neg h2]
            rw [decide_eq_true (p := D b (p b) < 0) (by omega)] at hi
            exact hi
      · rw [if_pos (c := true = true) rfl]
        rw [hany, Bool.true_or] at hi
        exact hi
  exact lp 5 0 N (by omega) (by omega)
def sv (g : Lv) (gx gy gt : Nat → Int) (p : Nat → Nat) : Bool := allB 5 fun b => decide (gN g b = 0) || (decide (gt b < 0) || atG gx gy gt b (p b))
theorem m_isSolvedNow {N : Nat} {g : Lv} {M : St} {gx gy gt : Nat → Int} {p : Nat → Nat} (hN : 100 ≤ N) (hg : mL g M) (hw : wfL g) (hG : mG gx gy gt M) (hB : bG gx gy gt) (hp : mPl p M) (hpb : ∀ b, b < 5 → p b < 256) : fX9_isSolvedNow N M = some (sv g gx gy gt p, M) := by
  have lp : ∀ (d b m : Nat), b + d = 5 → d < m → fX9_isSolvedNow_4 N m (allB b fun b => decide (gN g b = 0) || (decide (gt b < 0) || atG gx gy gt b (p b))) (zI b) M = some (sv g gx gy gt p, M) := by
    intro d
    induction d with
    | zero =>
      intro b m hb hm
      obtain ⟨m, rfl⟩ : ∃ n', m = n' + 1 := ⟨m - 1, by omega⟩
      have : b = 5 := by omega
      subst this
      show fX9_isSolvedNow_4b N (fX9_isSolvedNow_4 N m) _ (zI (5 : Nat)) M = _
      unfold fX9_isSolvedNow_4b
      rw [zl5, i_le (by omega) (by omega), if_pos (by omega)]
      rfl
    | succ d ih =>
      intro b m hb hm
      obtain ⟨m, rfl⟩ : ∃ n', m = n' + 1 := ⟨m - 1, by omega⟩
      have hn5 := hw.2.2.1 b
      have hb5 : b < 5 := by omega
      have h1 := hpb b hb5
      have hgb := hB b
      have hi := ih (b + 1) m (by omega) (by omega)
      have ee : (allB (b + 1) fun b => decide (gN g b = 0) || (decide (gt b < 0) || atG gx gy gt b (p b))) = ((allB b fun b => decide (gN g b = 0) || (decide (gt b < 0) || atG gx gy gt b (p b))) && (decide (gN g b = 0) || (decide (gt b < 0) || atG gx gy gt b (p b)))) := rfl
      rw [ee] at hi
      show fX9_isSolvedNow_4b N (fX9_isSolvedNow_4 N m) _ (zI b) M = _
      unfold fX9_isSolvedNow_4b fX9_isSolvedNow_49 fX9_isSolvedNow_45 fX9_isSolvedNow_50
      rw [zl5, i_le (by omega) (by omega), if_neg (by omega), zl0, i_b, zl1, zA]
      cases hall : (allB b fun b => decide (gN g b = 0) || (decide (gt b < 0) || atG gx gy gt b (p b)))
      · rw [if_neg (c := false = true) (by simp)]
        rw [hall, Bool.false_and] at hi
        exact hi
      · rw [if_pos (c := true = true) rfl, ck_z (by omega) (by omega) (by omega), z_cl (by omega) (by omega), show ((b : Int)).toNat = b by omega, hg.2.2.2.1 b hb5, i_eq (by omega) (by omega)]
        rw [hall, Bool.true_and] at hi
        by_cases hn : gN g b = 0
        · rw [if_pos (by omega)]
          rw [decide_eq_true hn] at hi
          exact hi
        · rw [decide_eq_false hn, Bool.false_or] at hi
          rw [if_neg (by omega), ck_z (by omega) (by omega) (by omega), (hG b hb5).2.2, i_lt (by omega) (by omega)]
          by_cases hgt : gt b < 0
          · rw [if_pos hgt]
            rw [decide_eq_true hgt] at hi
            exact hi
          · rw [decide_eq_false hgt, Bool.false_or] at hi
            rw [if_neg hgt, ck_z (by omega) (by omega) (by omega), hp b hb5, m_isAtGoal hG hB hb5 h1, bd_ok, i_b]
            cases ha : atG gx gy gt b (p b)
            · rw [if_neg (c := false = true) (by simp)]
              rw [ha] at hi
              exact hi
            · rw [if_pos (c := true = true) rfl]
              rw [ha] at hi
              exact hi
  exact lp 5 0 N (by omega) (by omega)
def lbN (g : Lv) (D : Nat → Nat → Int) (p : Nat → Nat) : Nat → Int
  | 0 => 0
  | n + 1 => if (if gN g n = 0 then 0 else D n (p n)) ≤ lbN g D p n then lbN g D p n else (if gN g n = 0 then 0 else D n (p n))
theorem lbN_bd {g : Lv} {gx gy gt : Nat → Int} {D : Nat → Nat → Int} {p : Nat → Nat} (hD : hasD g gx gy gt D) (hpb : ∀ b, b < 5 → p b < 256) : ∀ n, n ≤ 5 → 0 ≤ lbN g D p n ∧ lbN g D p n ≤ 300 := by
  intro n
  induction n with
  | zero => intro _; unfold lbN; omega
  | succ n ih =>
    intro hn
    have h1 := ih (by omega)
    unfold lbN
    by_cases h : gN g n = 0
    · rw [if_pos h]; split <;> omega
    · rw [if_neg h]
      have := isD_bd (hD n (by omega) (by omega)) (hpb n (by omega))
      split <;> omega
theorem m_lowerBound {N : Nat} {g : Lv} {M : St} {gx gy gt : Nat → Int} {D : Nat → Nat → Int} {p : Nat → Nat} (hN : 300 ≤ N) (hg : mL g M) (hw : wfL g) (hG : mG gx gy gt M) (hB : bG gx gy gt) (hD : hasD g gx gy gt D) (hp : mPl p M) (hpb : ∀ b, b < 5 → p b < 256) : ∃ Y, fX9_lowerBound N M = some (zI (if dd g D p then -7 else lbN g D p 5), Y) ∧ agr [6, 7] [] [23, 24] [] M Y := by
  obtain ⟨Y, e1, e2, e3⟩ := m_findAllFar hN hg hw hG hB hD
  have hgY := hg.ag e2 (by decide) (by decide) (by decide) (by decide) (by decide) (by decide)
  have hpY := hp.ag e2 (by decide)
  refine ⟨Y, ?_, e2⟩
  unfold fX9_lowerBound
  rw [e1, bd_ok, m_isDeadNow (by omega) hgY hw hD e3 hpY hpb, bd_ok, zl0, i_b]
  cases hdd : dd g D p
  · rw [if_neg (c := false = true) (by simp), if_neg (c := false = true) (by simp)]
    have lp : ∀ (d b m : Nat), b + d = 5 → d < m → fX9_lowerBound_18 N m (zI (lbN g D p b)) (zI b) Y = some (zI (lbN g D p 5), Y) := by
      intro d
      induction d with
      | zero =>
        intro b m hb hm
        obtain ⟨m, rfl⟩ : ∃ n', m = n' + 1 := ⟨m - 1, by omega⟩
        have : b = 5 := by omega
        subst this
        show fX9_lowerBound_18b N (fX9_lowerBound_18 N m) _ (zI (5 : Nat)) Y = _
        unfold fX9_lowerBound_18b
        rw [zl5, i_le (by omega) (by omega), if_pos (by omega)]
      | succ d ih =>
        intro b m hb hm
        obtain ⟨m, rfl⟩ : ∃ n', m = n' + 1 := ⟨m - 1, by omega⟩
        have hn5 := hw.2.2.1 b
        have hb5 : b < 5 := by omega
        have h1 := hpb b hb5
        have hi := ih (b + 1) m (by omega) (by omega)
        have hlb := lbN_bd hD hpb b (by omega)
        have ee : lbN g D p (b + 1) = if (if gN g b = 0 then 0 else D b (p b)) ≤ lbN g D p b then lbN g D p b else (if gN g b = 0 then 0 else D b (p b)) := rfl
        rw [ee] at hi
        show fX9_lowerBound_18b N (fX9_lowerBound_18 N m) _ (zI b) Y = _
        unfold fX9_lowerBound_18b fX9_lowerBound_53 fX9_lowerBound_64
        rw [zl5, i_le (by omega) (by omega), if_neg (by omega), ck_z (by omega) (by omega) (by omega), z_cl (by omega) (by omega), show ((b : Int)).toNat = b by omega, hgY.2.2.2.1 b hb5, zl0, i_eq (by omega) (by omega), zl1, zA]
        by_cases hn : gN g b = 0
        · rw [if_pos (by omega), i_le (by omega) (by omega)]
          rw [if_pos (c := gN g b = 0) hn] at hi
          by_cases h2 : 0 ≤ lbN g D p b
          · rw [if_pos h2]; rw [if_pos h2] at hi; exact hi
          · omega
        · have hbd := isD_bd (hD b hb5 (by omega)) h1
          rw [if_neg (by omega), ck_z (by omega) (by omega) (by omega), hpY b hb5, zl256, zM, zA, ck_z (by omega) (by omega) (by omega), z_cl (by omega) (by omega), show ((256 * (b : Int) + (p b : Int))).toNat = 256 * b + p b by omega, e3 b hb5 (by omega) _ h1, i_le (by omega) (by omega)]
          rw [if_neg (c := gN g b = 0) hn] at hi
          by_cases h2 : D b (p b) ≤ lbN g D p b
          · rw [if_pos h2]; rw [if_pos h2] at hi; exact hi
          · rw [if_neg h2]; rw [if_neg h2] at hi; exact hi
    exact lp 5 0 N (by omega) (by omega)
  · rw [if_pos (c := true = true) rfl, if_pos (c := true = true) rfl]
    rfl
theorem D_plc {g : Lv} {gx gy gt : Nat → Int} {D : Nat → Nat → Int} {p : Nat → Nat} (hD : hasD g gx gy gt D) (hok : okA g p) {b : Nat} (hb : b < 5) (hn : 0 < gN g b) (hgt : gt b < 0) : D b (p b) = 0 := (isD_0 (hD b hb hn) (hok.1 b hb).1).mpr (by unfold glb; rw [(hok.1 b hb).2.2, decide_eq_true hgt]; rfl)
theorem x_boundOf {N : Nat} {g : Lv} {X : St} {gx gy gt : Nat → Int} {D : Nat → Nat → Int} {p : Nat → Nat} {v : Nat} (hN : 100 ≤ N) (hX : xD g gt D X) (hD : hasD g gx gy gt D) (hok : okA g p) (hv : enc p v) : fX2_boundOf N (lN v) X = some (zI (if dd g D p then -1 else lbN g D p 5), X) := by
  have hpb : ∀ b, b < 5 → p b < 256 := fun b hb => (hok.1 b hb).1
  have lp : ∀ (d b m : Nat), b + d = 5 → d < m → (anyB b fun b => decide (0 < gN g b) && decide (D b (p b) < 0)) = false → fX2_boundOf_5 N m (lN v) (zI (lbN g D p b)) (zI b) X = some (zI (if dd g D p then -1 else lbN g D p 5), X) := by
    intro d
    induction d with
    | zero =>
      intro b m hb hm hpre
      obtain ⟨m, rfl⟩ : ∃ n', m = n' + 1 := ⟨m - 1, by omega⟩
      have : b = 5 := by omega
      subst this
      have hdd : dd g D p = false := hpre
      show fX2_boundOf_5b N (fX2_boundOf_5 N m) (lN v) _ (zI (5 : Nat)) X = _
      unfold fX2_boundOf_5b
      rw [zl5, i_le (by omega) (by omega), if_pos (by omega), hdd, if_neg (by simp)]
    | succ d ih =>
      intro b m hb hm hpre
      obtain ⟨m, rfl⟩ : ∃ n', m = n' + 1 := ⟨m - 1, by omega⟩
      have hb5 : b < 5 := by omega
      have h1 := hpb b hb5
      have hlb := lbN_bd hD hpb b (by omega)
      have ee : lbN g D p (b + 1) = if (if gN g b = 0 then 0 else D b (p b)) ≤ lbN g D p b then lbN g D p b else (if gN g b = 0 then 0 else D b (p b)) := rfl
      have hval : (if 0 < gN g b ∧ 0 ≤ gt b then D b (p b) else 0) = (if gN g b = 0 then 0 else D b (p b)) := by
        by_cases hn : gN g b = 0
        · rw [if_pos hn, if_neg (by omega)]
        · rw [if_neg hn]
          by_cases hgt : 0 ≤ gt b
          · rw [if_pos ⟨by omega, hgt⟩]
          · rw [if_neg (fun z => hgt z.2), D_plc hD hok hb5 (by omega) (by omega)]
      show fX2_boundOf_5b N (fX2_boundOf_5 N m) (lN v) _ (zI b) X = _
      unfold fX2_boundOf_5b
      rw [zl5, i_le (by omega) (by omega), if_neg (by omega), ck_z (by omega) (by omega) (by omega), x_placementIn hv.1 hb5, bd_ok, hv.2 b hb5, ck_z (by omega) (by omega) (by omega), z_cl (by omega) (by omega), z_cl (by omega) (by omega), show ((b : Int)).toNat = b by omega, show ((p b : Int)).toNat = p b by omega, hX b hb5 _ h1, hval, nm_ok, zl0]
      have hbv : -1 ≤ (if gN g b = 0 then 0 else D b (p b)) ∧ (if gN g b = 0 then 0 else D b (p b)) ≤ 300 := by
        by_cases hn : gN g b = 0
        · rw [if_pos hn]; omega
        · rw [if_neg hn]; exact isD_bd (hD b hb5 (by omega)) h1
      have hdz : (decide (0 < gN g b) && decide (D b (p b) < 0)) = decide ((if gN g b = 0 then 0 else D b (p b)) < 0) := by
        by_cases hn : gN g b = 0
        · rw [if_pos hn, decide_eq_false (p := 0 < gN g b) (by omega)]; rfl
        · rw [if_neg hn, decide_eq_true (p := 0 < gN g b) (by omega), Bool.true_and]
      generalize (if gN g b = 0 then 0 else D b (p b)) = w at *
      rw [i_le (by omega) (by omega)]
      by_cases hw0 : 0 ≤ w
      · rw [if_pos hw0, nm_ok, i_lt (by omega) (by omega), zl1, zA]
        have hi := ih (b + 1) m (by omega) (by omega) (by show ((anyB b fun b => decide (0 < gN g b) && decide (D b (p b) < 0)) || (decide (0 < gN g b) && decide (D b (p b) < 0))) = false; rw [hpre, hdz, decide_eq_false (by omega)]; rfl)
        rw [ee] at hi
        by_cases h2 : w ≤ lbN g D p b
        · rw [if_neg (by omega)]; rw [if_pos h2] at hi; exact hi
        · rw [if_pos (by omega)]; rw [if_neg h2] at hi; exact hi
      · have hdd : dd g D p = true := anyB_iff.mpr ⟨b, hb5, by rw [hdz]; exact decide_eq_true (by omega)⟩
        rw [if_neg hw0, hdd, if_pos rfl]
        rfl
  exact lp 5 0 N (by omega) (by omega) rfl
theorem sv_iff {g : Lv} {gx gy gt : Nat → Int} {D : Nat → Nat → Int} {p : Nat → Nat} (hD : hasD g gx gy gt D) (hok : okA g p) : sv g gx gy gt p = true ↔ (if dd g D p then -1 else lbN g D p 5) = 0 := by
  have hpb : ∀ b, b < 5 → p b < 256 := fun b hb => (hok.1 b hb).1
  have h1 : sv g gx gy gt p = true ↔ ∀ b, b < 5 → 0 < gN g b → D b (p b) = 0 := by
    unfold sv
    rw [allB_iff]
    constructor
    · intro h b hb hn
      have h2 := h b hb
      rw [decide_eq_false (p := gN g b = 0) (by omega), Bool.false_or] at h2
      exact (isD_0 (hD b hb hn) (hpb b hb)).mpr (by unfold glb; rw [(hok.1 b hb).2.2, h2]; rfl)
    · intro h b hb
      by_cases hn : gN g b = 0
      · rw [decide_eq_true hn]; rfl
      · have h2 := (isD_0 (hD b hb (by omega)) (hpb b hb)).mp (h b hb (by omega))
        unfold glb at h2
        rw [Bool.and_eq_true] at h2
        rw [h2.2, Bool.or_true]
  have h3 : ∀ n, n ≤ 5 → (lbN g D p n = 0 ↔ ∀ b, b < n → 0 < gN g b → D b (p b) ≤ 0) := by
    intro n
    induction n with
    | zero => intro _; exact ⟨fun _ b hb => by omega, fun _ => rfl⟩
    | succ n ih =>
      intro hn
      have h4 := ih (by omega)
      have h5 := lbN_bd hD hpb n (by omega)
      unfold lbN
      constructor
      · intro h b hb hb0
        by_cases hbn : b = n
        · subst hbn
          rw [if_neg (c := gN g b = 0) (by omega)] at h
          split at h <;> omega
        · refine h4.mp ?_ b (by omega) hb0
          split at h <;> omega
      · intro h
        have h6 := h4.mpr (fun b hb => h b (by omega))
        rw [h6]
        by_cases hn0 : gN g n = 0
        · rw [if_pos hn0, if_pos (by omega)]
        · rw [if_neg hn0, if_pos (h n (by omega) (by omega))]
  rw [h1]
  constructor
  · intro h
    have hdd : dd g D p = false := anyB_f.mpr fun b hb => by
      by_cases hn : gN g b = 0
      · rw [decide_eq_false (p := 0 < gN g b) (by omega)]; rfl
      · rw [h b hb (by omega)]; simp
    rw [hdd, if_neg (by simp)]
    exact (h3 5 (by omega)).mpr fun b hb hn => by rw [h b hb hn]; omega
  · intro h b hb hn
    cases hdd : dd g D p
    · rw [hdd, if_neg (by simp)] at h
      have h2 := (h3 5 (by omega)).mp h b hb hn
      have h4 := anyB_f.mp hdd b hb
      rw [decide_eq_true hn, Bool.true_and] at h4
      have := of_decide_eq_false h4
      omega
    · rw [hdd, if_pos rfl] at h
      omega
