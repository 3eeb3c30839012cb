/-! the reference lays the steps out, and finds how far -/
def qF (b : Nat) (nx : Nat → Nat → Int) (f : Nat → Int) (M : St) (F E : Nat) (Y : St) : Prop := agr [6, 7] [] [23, 24] [] M Y ∧ (∀ Q, Q < F → Y.2.2.1 24 (256 * b + Q) = zI (f Q)) ∧ (∀ Q k, k < 6 → 6 * Q + k < E → Y.2.2.1 23 (6 * Q + k) = zI (nx Q k)) ∧ ∀ j, j < 256 * b ∨ 256 * b + 256 ≤ j → Y.2.2.1 24 j = M.2.2.1 24 j
theorem qF.rg {b : Nat} {nx : Nat → Nat → Int} {f : Nat → Int} {M : St} {F E : Nat} {Y : St} (h : qF b nx f M F E Y) (u v : Int32) : qF b nx f M F E (rg Y u v) := ⟨agr.sI (agr.sI h.1 (k := 6) (by simp) _) (k := 7) (by simp) _, h.2⟩
theorem qF.s23 {b : Nat} {nx : Nat → Nat → Int} {f : Nat → Int} {M : St} {F P k : Nat} {Y : St} (hk : k < 6) (h : qF b nx f M F (6 * P + k) Y) : qF b nx f M F (6 * P + (k + 1)) (sA Y 23 (6 * P + k) (zI (nx P k))) := by
  refine ⟨agr.sA h.1 (k := 23) (by simp) _ _, fun Q hQ => ?_, fun Q q hq hE => ?_, fun j hj => ?_⟩
  · rw [sA_ne _ _ _ (by decide)]; exact h.2.1 Q hQ
  · by_cases e : 6 * Q + q = 6 * P + k
    · have e1 : Q = P := by omega
      have e2 : q = k := by omega
      subst e1; subst e2
      rw [sA_same]
    · rw [sA_oth _ _ e]; exact h.2.2.1 Q q hq (by omega)
  · rw [sA_ne _ _ _ (by decide)]; exact h.2.2.2 j hj
theorem qF.s24 {b : Nat} {nx : Nat → Nat → Int} {f : Nat → Int} {M : St} {P E : Nat} {Y : St} (hP : P < 256) (h : qF b nx f M P E Y) : qF b nx f M (P + 1) E (sA Y 24 (256 * b + P) (zI (f P))) := by
  refine ⟨agr.sA h.1 (k := 24) (by simp) _ _, fun Q hQ => ?_, fun Q q hq hE => ?_, fun j hj => ?_⟩
  · by_cases e : Q = P
    · subst e; rw [sA_same]
    · rw [sA_oth _ _ (by omega)]; exact h.2.1 Q (by omega)
  · rw [sA_ne _ _ _ (by decide)]; exact h.2.2.1 Q q hq hE
  · rw [sA_oth _ _ (by omega)]; exact h.2.2.2 j hj
theorem m_far58 {N : Nat} {g : Lv} {M : St} {b : Nat} {f : Nat → Int} (hN : 300 ≤ N) (hg : mL g M) (hw : wfL g) (hb : b < 5) {P : Nat} (hP : P < 256) (K : Int32 → Int32 → St → Option (Unit × St)) :
    ∀ (d k m : Nat) (Y : St), k + d = 6 → d < m → qF b (nxb g b) f M (P + 1) (6 * P + k) Y → ∃ Y2, fX9_findFar_58 N K m (zI b) (zI P) (plc g b P) (zI k) Y = K (zI b) (zI (P + 1 : Nat)) Y2 ∧ qF b (nxb g b) f M (P + 1) (6 * (P + 1)) Y2 := by
  intro d
  induction d with
  | zero =>
    intro k m Y hk hm hY
    obtain ⟨m, rfl⟩ : ∃ n', m = n' + 1 := ⟨m - 1, by omega⟩
    have : k = 6 := by omega
    subst this
    refine ⟨Y, ?_, hY⟩
    show fX9_findFar_58b N K (fX9_findFar_58 N K m) (zI b) (zI P) (plc g b P) (zI (6 : Nat)) Y = _
    unfold fX9_findFar_58b
    rw [zl6, i_le (by omega) (by omega), if_pos (by omega), zl1, zA]
    rfl
  | succ d ih =>
    intro k m Y hk hm hY
    obtain ⟨m, rfl⟩ : ∃ n', m = n' + 1 := ⟨m - 1, by omega⟩
    have hgY : ∀ Y2, qF b (nxb g b) f M (P + 1) (6 * P + k) Y2 → mL g Y2 := fun Y2 h => hg.ag h.1 (by decide) (by decide) (by decide) (by decide) (by decide) (by decide)
    have go : ∀ Y2, qF b (nxb g b) f M (P + 1) (6 * P + k) Y2 → ∃ Y3, fX9_findFar_114 N K (fX9_findFar_58 N K m) (stb g b P k) (zI b) (zI P) (plc g b P) (zI k) Y2 = K (zI b) (zI (P + 1 : Nat)) Y3 ∧ qF b (nxb g b) f M (P + 1) (6 * (P + 1)) Y3 := fun Y2 h2 => by
      have h3 := ih (k + 1) m (sA Y2 23 (6 * P + k) (zI (nxb g b P k))) (by omega) (by omega) (h2.s23 (by omega))
      unfold fX9_findFar_114 fX9_findFar_142
      rw [zl0, i_b]
      unfold nxb at h3
      cases hs : stb g b P k
      · rw [hs, if_neg (c := false = true) (by simp)] at h3
        rw [if_neg (c := false = true) (by simp), zl6, zM, zA, ck_z (by omega) (by omega) (by omega), z_cl (by omega) (by omega), show ((6 * (P : Int) + (k : Int))).toNat = 6 * P + k by omega, stp_ok, zl1, zN, zA]
        exact h3
      · rw [hs, if_pos (c := true = true) rfl] at h3
        rw [if_pos (c := true = true) rfl, m_placeBehind hP (by omega), bd_ok, zl6, zM, zA, ck_z (by omega) (by omega) (by omega), z_cl (by omega) (by omega), show ((6 * (P : Int) + (k : Int))).toNat = 6 * P + k by omega, stp_ok, zl1, zA]
        exact h3
    have t113 : ∀ Y2, qF b (nxb g b) f M (P + 1) (6 * P + k) Y2 → stb g b P k = false → ∃ Y3, fX9_findFar_113 N K (fX9_findFar_58 N K m) (zI b) (zI P) (plc g b P) (zI k) Y2 = K (zI b) (zI (P + 1 : Nat)) Y3 ∧ qF b (nxb g b) f M (P + 1) (6 * (P + 1)) Y3 := fun Y2 h2 hs => by
      have := go Y2 h2
      rw [hs] at this
      exact this
    have t109 : ∀ Y2, qF b (nxb g b) f M (P + 1) (6 * P + k) Y2 → stb g b P k = true → ∃ Y3, fX9_findFar_109 N K (fX9_findFar_58 N K m) (zI b) (zI P) (plc g b P) (zI k) Y2 = K (zI b) (zI (P + 1 : Nat)) Y3 ∧ qF b (nxb g b) f M (P + 1) (6 * (P + 1)) Y3 := fun Y2 h2 hs => by
      have := go Y2 h2
      rw [hs] at this
      exact this
    have t103 : ∀ cw : Bool, cw = (k == 4) → ¬ k < 4 → plc g b P = true → ∃ Y3, fX9_findFar_103 N K (fX9_findFar_58 N K m) cw (zI P) (zI b) (zI b) (zI P) (plc g b P) (zI k) Y = K (zI b) (zI (P + 1 : Nat)) Y3 ∧ qF b (nxb g b) f M (P + 1) (6 * (P + 1)) Y3 := fun cw hcw hk4 hpl => by
      unfold fX9_findFar_103
      obtain ⟨u, v, e⟩ := m_mayTurnAlone (N := N) (cw := cw) (by omega) (hgY Y hY) hw hb hP
      rw [e, bd_ok, zl0, i_b]
      have hst : stb g b P k = taB g b P cw := by unfold stb; rw [hpl, if_neg hk4, hcw]; rfl
      cases ht : taB g b P cw
      · rw [if_neg (c := false = true) (by simp)]
        exact t113 _ (hY.rg u v) (by rw [hst, ht])
      · rw [if_pos (c := true = true) rfl]
        exact t109 _ (hY.rg u v) (by rw [hst, ht])
    show ∃ Y2, fX9_findFar_58b N K (fX9_findFar_58 N K m) (zI b) (zI P) (plc g b P) (zI k) Y = K (zI b) (zI (P + 1 : Nat)) Y2 ∧ qF b (nxb g b) f M (P + 1) (6 * (P + 1)) Y2
    unfold fX9_findFar_58b
    rw [zl6, i_le (by omega) (by omega), if_neg (by omega), zl0, i_b]
    cases hpl : plc g b P
    · rw [if_neg (c := false = true) (by simp)]
      have := t113 Y hY (by unfold stb; rw [hpl]; rfl)
      rw [hpl] at this
      exact this
    · rw [if_pos (c := true = true) rfl, zl4, i_le (by omega) (by omega), i_eq (by omega) (by omega)]
      by_cases hk4 : k < 4
      · rw [if_neg (by omega), m_maySlideAlone (by omega) (hgY Y hY) hw hb hP hk4, bd_ok, i_b]
        have hst : stb g b P k = saB g b P k := by unfold stb; rw [hpl, if_pos hk4]; rfl
        cases hs : saB g b P k
        · rw [if_neg (c := false = true) (by simp)]
          have := t113 Y hY (by rw [hst, hs])
          rw [hpl] at this
          exact this
        · rw [if_pos (c := true = true) rfl]
          have := t109 Y hY (by rw [hst, hs])
          rw [hpl] at this
          exact this
      · rw [if_pos (by omega)]
        by_cases hk5 : k = 4
        · rw [if_pos (by omega)]
          have := t103 true (by rw [hk5]; rfl) hk4 hpl
          rw [hpl] at this
          exact this
        · rw [if_neg (by omega)]
          have := t103 false (by simpa using hk5) hk4 hpl
          rw [hpl] at this
          exact this
theorem m_findFar {N : Nat} {g : Lv} {M : St} {gx gy gt : Nat → Int} (hN : 300 ≤ N) (hg : mL g M) (hw : wfL g) (hG : mG gx gy gt M) (hB : bG gx gy gt) {b : Nat} (hb : b < 5) (h0 : 0 < gN g b) : ∃ Y f, fX9_findFar N (zI b) M = some ((), Y) ∧ agr [6, 7] [] [23, 24] [] M Y ∧ isD (nxb g b) (glb g gx gy gt b) f ∧ (∀ P, P < 256 → Y.2.2.1 24 (256 * b + P) = zI (f P)) ∧ ∀ j, j < 256 * b ∨ 256 * b + 256 ≤ j → Y.2.2.1 24 j = M.2.2.1 24 j := by
  have hnx := nxb_bd hw hb h0
  have lp : ∀ (d P m : Nat) (Y : St), P + d = 256 → d < m → qF b (nxb g b) (fun Q => if glb g gx gy gt b Q then 0 else -1) M P (6 * P) Y → ∃ Y2 f2, fX9_findFar_2 N m (zI b) (zI P) Y = some ((), Y2) ∧ mF b (nxb g b) M Y2 f2 ∧ isD (nxb g b) (glb g gx gy gt b) f2 := by
    intro d
    induction d with
    | zero =>
      intro P m Y hP hm hY
      obtain ⟨m, rfl⟩ : ∃ n', m = n' + 1 := ⟨m - 1, by omega⟩
      show ∃ Y2 f2, fX9_findFar_2b N (fX9_findFar_2 N m) (zI b) (zI P) Y = some ((), Y2) ∧ mF b (nxb g b) M Y2 f2 ∧ isD (nxb g b) (glb g gx gy gt b) f2
      unfold fX9_findFar_2b
      rw [zl256, i_le (by omega) (by omega), if_pos (by omega)]
      refine m_far159 hN hb hnx 256 0 N (fun Q => if glb g gx gy gt b Q then 0 else -1) Y (cnB_le _ _) (by omega) (by omega) ⟨hY.1, fun Q hQ => hY.2.1 Q (by omega), fun Q hQ k hk => hY.2.2.1 Q k hk (by omega), hY.2.2.2⟩ (fun Q hQ => ?_)
      dsimp only
      cases h : glb g gx gy gt b Q
      · exact Or.inl ⟨rfl, h⟩
      · exact Or.inr ⟨0, rfl, by omega, h, fun l hl => by omega⟩
    | succ d ih =>
      intro P m Y hP hm hY
      obtain ⟨m, rfl⟩ : ∃ n', m = n' + 1 := ⟨m - 1, by omega⟩
      have hPl : P < 256 := by omega
      have hgY := hg.ag hY.1 (by decide) (by decide) (by decide) (by decide) (by decide) (by decide)
      have hGY : mG gx gy gt Y := fun b hb => by rw [hY.1.2.2.1 6 (by decide), hY.1.2.2.1 7 (by decide), hY.1.2.2.1 8 (by decide)]; exact hG b hb
      have go : ∀ v : Int, v = (if glb g gx gy gt b P then 0 else -1) → ∃ Y2 f2, fX9_findFar_54 N (fX9_findFar_2 N m) (zI v) (zI 256 * zI b + zI P) (zI b) (zI P) (plc g b P) Y = some ((), Y2) ∧ mF b (nxb g b) M Y2 f2 ∧ isD (nxb g b) (glb g gx gy gt b) f2 := fun v hv => by
        unfold fX9_findFar_54
        rw [zM, zA, ck_z (by omega) (by omega) (by omega), z_cl (by omega) (by omega), show ((256 * (b : Int) + (P : Int))).toNat = 256 * b + P by omega, stp_ok, hv]
        obtain ⟨Y2, e, hY2⟩ := m_far58 (N := N) hN hg hw hb hPl (fX9_findFar_2 N m) 6 0 N _ (by omega) (by omega) (hY.s24 hPl)
        have e' : fX9_findFar_58 N (fX9_findFar_2 N m) N (zI b) (zI P) (plc g b P) 0 (sA Y 24 (256 * b + P) (zI (if glb g gx gy gt b P then 0 else -1))) = _ := e
        rw [e']
        exact ih (P + 1) m Y2 (by omega) (by omega) hY2
      have t49 : glb g gx gy gt b P = true → ∃ Y2 f2, fX9_findFar_49 N (fX9_findFar_2 N m) (zI 256 * zI b + zI P) (zI b) (zI P) (plc g b P) Y = some ((), Y2) ∧ mF b (nxb g b) M Y2 f2 ∧ isD (nxb g b) (glb g gx gy gt b) f2 := fun h => go 0 (by rw [h]; rfl)
      have t53 : glb g gx gy gt b P = false → ∃ Y2 f2, fX9_findFar_53 N (fX9_findFar_2 N m) (zI 256 * zI b + zI P) (zI b) (zI P) (plc g b P) Y = some ((), Y2) ∧ mF b (nxb g b) M Y2 f2 ∧ isD (nxb g b) (glb g gx gy gt b) f2 := fun h => by
        have := go (-1) (by rw [h]; rfl)
        unfold fX9_findFar_53
        rw [zlm1]
        exact this
      show ∃ Y2 f2, fX9_findFar_2b N (fX9_findFar_2 N m) (zI b) (zI P) Y = some ((), Y2) ∧ mF b (nxb g b) M Y2 f2 ∧ isD (nxb g b) (glb g gx gy gt b) f2
      unfold fX9_findFar_2b
      have hgb := hB b
      rw [zl256, i_le (by omega) (by omega), if_neg (by omega), m_isPlacement (by omega) hgY hw hb h0 hPl, bd_ok, zl0, i_b]
      cases hpl : plc g b P
      · rw [if_neg (c := false = true) (by simp)]
        have := t53 (by unfold glb; rw [hpl]; rfl)
        rw [hpl] at this
        exact this
      · rw [if_pos (c := true = true) rfl, ck_z (by omega) (by omega) (by omega), z_cl (by omega) (by omega), show ((b : Int)).toNat = b by omega, (hGY b hb).2.2, i_lt (by omega) (by omega)]
        by_cases hgt : gt b < 0
        · rw [if_pos hgt]
          have := t49 (by unfold glb; rw [hpl, decide_eq_true hgt]; rfl)
          rw [hpl] at this
          exact this
        · rw [if_neg hgt, m_isAtGoal hGY hB hb hPl, bd_ok, i_b]
          cases ha : atG gx gy gt b P
          · rw [if_neg (c := false = true) (by simp)]
            have := t53 (by unfold glb; rw [hpl, decide_eq_false hgt, ha]; rfl)
            rw [hpl] at this
            exact this
          · rw [if_pos (c := true = true) rfl]
            have := t49 (by unfold glb; rw [hpl, decide_eq_false hgt, ha]; rfl)
            rw [hpl] at this
            exact this
  obtain ⟨Y, f, e, h1, h2⟩ := lp 256 0 N M (by omega) (by omega) ⟨agr.rf _, fun Q hQ => by omega, fun Q k _ hQ => by omega, fun _ _ => rfl⟩
  exact ⟨Y, f, e, h1.1, h2, h1.2.1, h1.2.2.2⟩
