/-! moves that are made -/
theorem mvs_ex {g : Lv} {wt th : Nat → Nat} {st : Nat} {p : Nat → Nat} (hok : okA g p) {b k : Nat} (hb : b < 5) (hb0 : 0 < gN g b) : ∀ q, q < 5 → (mvs g wt th st p b k).testBit q = true → 0 < gN g q := by
  intro q hq h
  unfold mvs at h
  split at h
  · unfold psh at h
    split at h
    · exact pset_ex hok hb0 hq h
    · rw [Nat.zero_testBit] at h; cases h
  · split at h
    · rw [tb_pow] at h
      rw [← of_decide_eq_true h]; exact hb0
    · rw [Nat.zero_testBit] at h; cases h
theorem k_make0 {N : Nat} {g : Lv} {wt th : Nat → Nat} {st : Nat} {gx gy gt : Nat → Int} {D : Nat → Nat → Int} {p : Nat → Nat} {X M Y M1 : St} (hN : 3000 ≤ N) (h : RelP g wt th st gx gy gt D p X M) {b k md : Nat} (hb : b < 5) (hb0 : 0 < gN g b) (hk : k < 6) (hm0 : mvs g wt th st p b k ≠ 0) (hmd : X.1 28 = zI md) (hmd2 : md < 200) (aY : agm 0 X Y) (hY : Y.2.1 8 = lN (pkA (nxA g wt th st p b k))) (aM : agr [6, 7] [] [18, 19] [] M M1) : ∃ Y2 M2, fX8_makeMove N (zI b) (zI k) (zI (mvs g wt th st p b k : Nat)) Y = some ((), Y2) ∧ fX9_makes N (zI b) (zI k) (zI (mvs g wt th st p b k : Nat)) M1 = some ((), M2) ∧ Y2.1 28 = zI (md + 1 : Nat) ∧ M2.1 8 = zI (md + 1 : Nat) ∧ RelP g wt th st gx gy gt D (nxA g wt th st p b k) Y2 M2 ∧ XH X Y2 ∧ MH M M2 := by
  obtain ⟨n1, n2⟩ := nx_ok h.1.1 h.2.1 hb hb0 hk hm0
  obtain ⟨w1, w2⟩ := okA_pk n2
  have hm32 := mvs_lt (g := g) (wt := wt) (th := th) (st := st) (p := p) (k := k) hb
  obtain ⟨md', kn, ar, mv, ef, h1, h2, h3, h4, h5, h6, h7, h8, h9, h10⟩ := h.2.2.2.2.2.2.1
  have : md' = md := by
    rw [hmd] at h3
    have h3' := congrArg Int32.toInt h3
    rw [z_int (by omega) (by omega), z_int (by omega) (by omega)] at h3'
    omega
  subst this
  have hpb : ∀ b, b < 5 → p b < 256 := fun b hb => (h.2.1.1 b hb).1
  have hes := es_bd h10 md'
  have hws : wsN wt (mvs g wt th st p b k) 5 ≤ 9 * 5 := wsN_bd h.1.2.2.1 _ 5
  have Y28 : Y.1 28 = zI md' := by rw [aY.1 28 (by simp)]; exact h3
  have M8 : M1.1 8 = zI md' := by rw [aM.1 8 (by decide)]; exact h5
  generalize hS : mvs g wt th st p b k = s at *
  -- the class
  have eX : ∃ Y2, fX8_makeMove N (zI b) (zI k) (zI (s : Nat)) Y = some ((), Y2) ∧ Y2 = sI (sI (sL (sA (sA Y 26 md' (zI (10 * (b : Int) + (k : Int)))) 27 (md' + 1) (zI ((es ef md' : Int) + (wsN wt s 5 : Nat)))) 11 (md' + 1) (lN (pkA (nxA g wt th st p b k)))) 28 (zI ((md' : Int) + 1))) 29 (zI ((md' : Int) + 1)) := by
    refine ⟨_, ?_, rfl⟩
    unfold fX8_makeMove fX8_moveCode
    rw [bd_ok, x_weightOf (by omega) (aY.xW8 h.2.2.1.2.2.1) h.1.2.2.1 hm32 (fun q hq hh => mvs_ex (wt := wt) (th := th) (st := st) (k := k) h.2.1 hb hb0 q hq (by rw [hS]; exact hh)), bd_ok, hY]
    unfold fX1_add
    have r28 : ∀ (Z : St) (a i : Nat) (v : Int32), (sA Z a i v).1 28 = Z.1 28 := fun _ _ _ _ => rfl
    have r28l : ∀ (Z : St) (a i : Nat) (v : Int64), (sL Z a i v).1 28 = Z.1 28 := fun _ _ _ _ => rfl
    have v27 : Y.2.2.1 27 md' = zI (es ef md' : Nat) := by rw [aY.2.2.1 27 (by simp)]; exact (h8 md' h1).2.2
    rw [Y28, show (200 : Int32) = zI 200 from rfl, i_lt (by omega) (by omega), if_pos (by omega), ck_z (by omega) (by omega) (by omega), z_cl (by omega) (by omega), show ((md' : Int)).toNat = md' by omega, stp_ok, r28, Y28, ck_z (by omega) (by omega) (by omega), zl1, zA, ck_z (by omega) (by omega) (by omega), z_cl (a := (md' : Int)) (by omega) (by omega), show ((md' : Int)).toNat = md' by omega, z_cl (a := (md' : Int) + 1) (by omega) (by omega), show ((md' : Int) + 1).toNat = md' + 1 by omega, sA_ne _ _ _ (show 27 ≠ 26 by decide), v27, zA, stp_ok, r28, r28, Y28, zA, ck_z (by omega) (by omega) (by omega), z_cl (by omega) (by omega), show ((md' : Int) + 1).toNat = md' + 1 by omega, stp_ok, stp_ok, stp_ok, r28l, r28, r28, Y28, zA, sI_same, show (10 : Int32) = zI 10 from rfl, zM, zA, bd_ok]
  obtain ⟨Y2, eX1, eX2⟩ := eX
  -- the reference
  have P1 : mPl p M1 := h.2.2.2.2.1.ag aM (by decide)
  have W1 : mW8 wt M1 := h.2.2.2.1.2.2.1.ag aM (by decide)
  have W2 : mW8 wt (sA M1 20 md' (zI (10 * (b : Int) + (k : Int)))) := fun q hq => W1 q hq
  have P2 : mPl p (sA (sA M1 20 md' (zI (10 * (b : Int) + (k : Int)))) 21 md' (zI (wsN wt s 5 : Nat))) := fun q hq => P1 q hq
  obtain ⟨f, c1, c2⟩ := m_carryOut (N := N) (M := sL (sA (sA M1 20 md' (zI (10 * (b : Int) + (k : Int)))) 21 md' (zI (wsN wt s 5 : Nat))) 0 md' (lN (pkA p))) (s := s) (k := k) (by omega) (fun q hq => P1 q hq) hpb hm32 hk
  have Pn : mPl (nxA g wt th st p b k) (fA (sL (sA (sA M1 20 md' (zI (10 * (b : Int) + (k : Int)))) 21 md' (zI (wsN wt s 5 : Nat))) 0 md' (lN (pkA p))) 9 f) := fun q hq => by rw [fA_at, c2 q hq, n1 q hq]
  have eM : ∃ M2, fX9_makes N (zI b) (zI k) (zI (s : Nat)) M1 = some ((), M2) ∧ M2 = sI (sI (sL (fA (sL (sA (sA M1 20 md' (zI (10 * (b : Int) + (k : Int)))) 21 md' (zI (wsN wt s 5 : Nat))) 0 md' (lN (pkA p))) 9 f) 1 md' (lN (pkA (nxA g wt th st p b k)))) 8 (zI ((md' : Int) + 1))) 9 (zI ((md' : Int) + 1)) := by
    refine ⟨_, ?_, rfl⟩
    unfold fX9_makes
    have r8 : ∀ (Z : St) (a i : Nat) (v : Int32), (sA Z a i v).1 8 = Z.1 8 := fun _ _ _ _ => rfl
    have r8l : ∀ (Z : St) (a i : Nat) (v : Int64), (sL Z a i v).1 8 = Z.1 8 := fun _ _ _ _ => rfl
    have r8f : ∀ (Z : St) (a : Nat) (v : Nat → Int32), (fA Z a v).1 8 = Z.1 8 := fun _ _ _ => rfl
    rw [M8, ck_z (by omega) (by omega) (by omega), z_cl (by omega) (by omega), show ((md' : Int)).toNat = md' by omega, show (10 : Int32) = zI 10 from rfl, zM, zA, stp_ok, m_weightBy (by omega) W2 h.1.2.2.1 hm32, bd_ok, r8, M8, ck_z (by omega) (by omega) (by omega), z_cl (by omega) (by omega), show ((md' : Int)).toNat = md' by omega, stp_ok, m_packed (by omega) P2 hpb, bd_ok, r8, r8, M8, ck_z (by omega) (by omega) (by omega), z_cl (by omega) (by omega), show ((md' : Int)).toNat = md' by omega, stp_ok, c1, bd_ok, m_packed (by omega) Pn (fun b hb => (n2.1 b hb).1), bd_ok, r8f, r8l, r8, r8, M8, ck_z (by omega) (by omega) (by omega), z_cl (by omega) (by omega), show ((md' : Int)).toNat = md' by omega, stp_ok, stp_ok, stp_ok, r8l, r8f, r8l, r8, r8, M8, zl1, zA, sI_same]
  obtain ⟨M2, eM1, eM2⟩ := eM
  have AX : XH X Y2 := by rw [eX2]; exact agr.sI (agr.sI (agr.sL (agr.sA (agr.sA (agr.wk aY (by simp) (by simp) (by simp) (by simp)) (by simp) _ _) (by simp) _ _) (by simp) _ _) (by simp) _) (by simp) _
  have AM : MH M M2 := by rw [eM2]; exact agr.sI (agr.sI (agr.sL (agr.fA (agr.sL (agr.sA (agr.sA (agr.wk aM (by simp) (by simp) (by simp) (by simp)) (by simp) _ _) (by simp) _ _) (by simp) _ _) (by simp) _) (by simp) _ _) (by simp) _) (by simp) _
  have hX28 : Y2.1 28 = zI (md' + 1 : Nat) := by rw [eX2, sI_ne _ _ (by decide)]; exact sI_same _ _ _
  have hM8 : M2.1 8 = zI (md' + 1 : Nat) := by rw [eM2, sI_ne _ _ (by decide)]; exact sI_same _ _ _
  refine ⟨Y2, M2, eX1, eM1, hX28, hM8, h.hs AX AM n2 (by rw [eM2]; exact Pn) ⟨md' + 1, md' + 1, fun i => if i = md' + 1 then pkA (nxA g wt th st p b k) else ar i, fun i => if i = md' then zI (10 * (b : Int) + (k : Int)) else mv i, fun i => if i = md' then wsN wt s 5 else ef i, Nat.le_refl _, by omega, hX28, by rw [eX2]; exact sI_same _ _ _, hM8, by rw [eM2]; exact sI_same _ _ _, if_pos rfl, fun i hi => ?_, fun i hi => ?_, fun i => ?_⟩ ?_, AX, AM⟩
  · have ees : ∀ n, n ≤ md' → es (fun i => if i = md' then wsN wt s 5 else ef i) n = es ef n := by
      intro n
      induction n with
      | zero => intro _; rfl
      | succ n ih => intro hn; unfold es; rw [ih (by omega), if_neg (by omega)]
    have eL : Y2.2.2.2 11 = (sL (sA (sA Y 26 md' (zI (10 * (b : Int) + (k : Int)))) 27 (md' + 1) (zI ((es ef md' : Int) + (wsN wt s 5 : Nat)))) 11 (md' + 1) (lN (pkA (nxA g wt th st p b k)))).2.2.2 11 := by rw [eX2]; rfl
    have e27 : Y2.2.2.1 27 = (sA (sA Y 26 md' (zI (10 * (b : Int) + (k : Int)))) 27 (md' + 1) (zI ((es ef md' : Int) + (wsN wt s 5 : Nat)))).2.2.1 27 := by rw [eX2]; rfl
    rw [eL, e27]
    dsimp only
    by_cases hi2 : i = md' + 1
    · subst hi2
      rw [if_pos rfl, sL_same, sA_same]
      refine ⟨rfl, w1, ?_⟩
      show _ = zI ((es (fun i => if i = md' then wsN wt s 5 else ef i) md' + (if md' = md' then wsN wt s 5 else ef md') : Nat))
      rw [ees md' (by omega), if_pos rfl]
      rfl
    · rw [if_neg hi2, sL_oth _ _ hi2, sA_oth _ _ hi2, sA_ne _ _ _ (show 27 ≠ 26 by decide), ees i (by omega), show (sA (sA Y 26 md' (zI (10 * (b : Int) + (k : Int)))) 27 (md' + 1) (zI ((es ef md' : Int) + (wsN wt s 5 : Nat)))).2.2.2 11 = Y.2.2.2 11 from rfl, aY.2.2.2 11 (by simp), aY.2.2.1 27 (by simp)]
      exact h8 i (by omega)
  · have e0 : M2.2.2.2 0 = (sL (sA (sA M1 20 md' (zI (10 * (b : Int) + (k : Int)))) 21 md' (zI (wsN wt s 5 : Nat))) 0 md' (lN (pkA p))).2.2.2 0 := by rw [eM2]; rfl
    have e1 : M2.2.2.2 1 = (sL (fA (sL (sA (sA M1 20 md' (zI (10 * (b : Int) + (k : Int)))) 21 md' (zI (wsN wt s 5 : Nat))) 0 md' (lN (pkA p))) 9 f) 1 md' (lN (pkA (nxA g wt th st p b k)))).2.2.2 1 := by rw [eM2]; rfl
    have e20 : M2.2.2.1 20 = (sA M1 20 md' (zI (10 * (b : Int) + (k : Int)))).2.2.1 20 := by rw [eM2]; rfl
    have e21 : M2.2.2.1 21 = (sA (sA M1 20 md' (zI (10 * (b : Int) + (k : Int)))) 21 md' (zI (wsN wt s 5 : Nat))).2.2.1 21 := by rw [eM2]; rfl
    have e26 : Y2.2.2.1 26 = (sA Y 26 md' (zI (10 * (b : Int) + (k : Int)))).2.2.1 26 := by rw [eX2]; rfl
    rw [e0, e1, e20, e21, e26]
    dsimp only
    by_cases hi2 : i = md'
    · subst hi2
      rw [sL_same, sL_same, sA_same, sA_same, sA_same, if_pos rfl, if_neg (by omega), if_pos rfl, if_pos rfl, h7]
      exact ⟨rfl, rfl, rfl, rfl, rfl⟩
    · rw [sL_oth _ _ hi2, sL_oth _ _ hi2, sA_oth _ _ hi2, sA_oth _ _ hi2, sA_oth _ _ hi2, if_neg hi2, if_neg hi2, if_neg (by omega), if_neg (by omega), sA_ne _ _ _ (show 21 ≠ 20 by decide), show (sA (sA M1 20 md' (zI (10 * (b : Int) + (k : Int)))) 21 md' (zI (wsN wt s 5 : Nat))).2.2.2 0 = M1.2.2.2 0 from rfl, show (fA (sL (sA (sA M1 20 md' (zI (10 * (b : Int) + (k : Int)))) 21 md' (zI (wsN wt s 5 : Nat))) 0 md' (lN (pkA p))) 9 f).2.2.2 1 = M1.2.2.2 1 from rfl, aM.2.2.2 0 (by decide), aM.2.2.2 1 (by decide), aM.2.2.1 20 (by decide), aM.2.2.1 21 (by decide), aY.2.2.1 26 (by simp)]
      exact h9 i (by omega)
  · show (if i = md' then wsN wt s 5 else ef i) ≤ 45
    have := h10 i
    split <;> omega
  · have aX : agr [28, 29] [2, 4, 6, 8] [22, 24, 26, 27] [9, 11] X Y2 := by rw [eX2]; exact agr.sI (agr.sI (agr.sL (agr.sA (agr.sA (agr.wk aY (by simp) (by simp) (by simp) (by simp)) (by simp) _ _) (by simp) _ _) (by simp) _ _) (by simp) _) (by simp) _
    have aM2 : agr [6, 7, 8, 9] [] [9, 18, 19, 20, 21] [0, 1] M M2 := by rw [eM2]; exact agr.sI (agr.sI (agr.sL (agr.fA (agr.sL (agr.sA (agr.sA (agr.wk aM (by simp) (by simp) (by simp) (by simp)) (by simp) _ _) (by simp) _ _) (by simp) _ _) (by simp) _) (by simp) _ _) (by simp) _) (by simp) _
    exact h.2.2.2.2.2.2.2.1.ag aX aM2 (by decide) (by decide) (by decide) (by decide)
theorem k_make {N : Nat} {g : Lv} {wt th : Nat → Nat} {st : Nat} {gx gy gt : Nat → Int} {D : Nat → Nat → Int} {p : Nat → Nat} {X M Y M1 : St} (hN : 3000 ≤ N) (h : RelP g wt th st gx gy gt D p X M) {b k md : Nat} (hb : b < 5) (hb0 : 0 < gN g b) (hk : k < 6) (hm0 : mvs g wt th st p b k ≠ 0) (hmd : X.1 28 = zI md) (hmd2 : md < 200) (aY : agm 0 X Y) (hY : Y.2.1 8 = lN (pkA (nxA g wt th st p b k))) (aM : agr [6, 7] [] [18, 19] [] M M1) : ∃ Y2 M2, fX8_makeMove N (zI b) (zI k) (zI (mvs g wt th st p b k : Nat)) Y = some ((), Y2) ∧ fX9_makes N (zI b) (zI k) (zI (mvs g wt th st p b k : Nat)) M1 = some ((), M2) ∧ Y2.1 28 = zI (md + 1 : Nat) ∧ M2.1 8 = zI (md + 1 : Nat) ∧ RelP g wt th st gx gy gt D (nxA g wt th st p b k) Y2 M2 := by
  obtain ⟨Y2, M2, h1, h2, h3, h4, h5, _⟩ := k_make0 hN h hb hb0 hk hm0 hmd hmd2 aY hY aM
  exact ⟨Y2, M2, h1, h2, h3, h4, h5⟩
