/-! the reference takes the level over -/
def PB (s : Sc) (Y : St) (e : Nat) : Prop := Y.2.2.1 2 e = zI (sN s e : Nat) ∧ (∀ i, i < sN s e → Y.2.2.1 3 (5 * e + i) = zI (gX (lvOf s) e i) ∧ Y.2.2.1 4 (5 * e + i) = zI (gY (lvOf s) e i)) ∧ Y.2.2.1 5 e = zI 1 ∧ Y.2.2.1 8 e = zI (-1) ∧ Y.2.2.1 9 e = zI (arOf s e : Nat)
def PM (s : Sc) (Z : St) (b : Nat) (Y : St) : Prop := agr [] [] [2, 3, 4, 5, 8, 9] [] Z Y ∧ ∀ e, e < b → PB s Y e
theorem m_inner {N : Nat} {s : Sc} {M Z0 Z : St} (h2 : iv2 s) (hp : pivs s) (qM : QM s M Z0) (aZ : agr [0, 1] [] [1] [] Z0 Z) {b k : Nat} (hb : b < 5) {cnt : Nat} : ∀ (d i m : Nat) (Y : St), i + d = sN s b → d < m → PM s Z b Y → Y.2.2.1 2 b = zI (sN s b : Nat) → (∀ j, j < i → Y.2.2.1 3 (5 * b + j) = zI (gX (lvOf s) b j) ∧ Y.2.2.1 4 (5 * b + j) = zI (gY (lvOf s) b j)) → ∃ Y2, fX9_readLevel_80 N (fX9_readLevel_60 N k) m (zI cnt) (zI b) (zI i) Y = fX9_readLevel_60 N k (zI (cnt + (if 0 < sN s b then 1 else 0) : Nat)) (zI (b + 1 : Nat)) Y2 ∧ PM s Z (b + 1) Y2 := by
  have hn := h2.1 b
  have hP := sP_bd h2 b
  have hcl : (zI (b : Int)).toNatClampNeg = b := by rw [z_cl (by omega) (by omega)]; omega
  have hck : ∀ (E : Option (Int32 × St)), ck (zI b) 5 E = E := fun E => ck_z (by omega) (by omega) (by omega)
  obtain ⟨r1, r2, r3, r4, r5⟩ := qM.2.2.2 b hb
  intro d
  induction d with
  | zero =>
    intro i m Y h1 hm pY y2 y3
    obtain ⟨m, rfl⟩ : ∃ n', m = n' + 1 := ⟨m - 1, by omega⟩
    have hi : i = sN s b := by omega
    subst hi
    have aY : agr [0, 1] [] [1, 2, 3, 4, 5, 8, 9] [] Z0 Y := (aZ.wk (by simp) (by simp) (by simp) (by simp)).tr (agr.wk pY.1 (by simp) (by simp) (by simp) (by simp))
    have y16 : Y.2.2.1 16 b = Z0.2.2.1 16 b := by rw [aY.2.2.1 16 (by decide)]
    have y17 : Y.2.2.1 17 b = Z0.2.2.1 17 b := by rw [aY.2.2.1 17 (by decide)]
    have fin : ∀ v : Int32, v = zI (arOf s b : Nat) → PM s Z (b + 1) (sA (sA (sA Y 5 b 1) 8 b (-1)) 9 b v) := by
      intro v hv
      refine ⟨agr.sA (agr.sA (agr.sA pY.1 (by simp) _ _) (by simp) _ _) (by simp) _ _, fun e he => ?_⟩
      by_cases heb : e = b
      · subst heb
        refine ⟨y2, fun j hj => y3 j hj, ?_, ?_, ?_⟩
        · rw [sA_ne _ _ _ (by decide), sA_ne _ _ _ (by decide), sA_same]; rfl
        · rw [sA_ne _ _ _ (by decide), sA_same]; rfl
        · rw [sA_same, hv]
      · obtain ⟨u1, u2, u3, u4, u5⟩ := pY.2 e (by omega)
        refine ⟨u1, u2, ?_, ?_, ?_⟩
        · rw [sA_ne _ _ _ (by decide), sA_ne _ _ _ (by decide), sA_oth _ _ heb]; exact u3
        · rw [sA_ne _ _ _ (by decide), sA_oth _ _ heb, sA_ne _ _ _ (by decide)]; exact u4
        · rw [sA_oth _ _ heb, sA_ne _ _ _ (by decide), sA_ne _ _ _ (by decide)]; exact u5
    show ∃ Y2, fX9_readLevel_80b N (fX9_readLevel_60 N k) (fX9_readLevel_80 N (fX9_readLevel_60 N k) m) (zI cnt) (zI b) (zI (sN s b : Nat)) Y = _ ∧ _
    unfold fX9_readLevel_80b fX9_readLevel_203 fX9_readLevel_219
    simp only [hck, hcl, stp_ok, nm_ok]
    have g2 : ∀ (v : Int32), (sA (sA (sA Y 5 b 1) 8 b (-1)) 9 b v).2.2.1 2 b = zI (sN s b : Nat) := fun _ => y2
    have g2a : (sA (sA Y 5 b 1) 8 b (-1)).2.2.1 2 b = zI (sN s b : Nat) := y2
    have g16 : (sA (sA Y 5 b 1) 8 b (-1)).2.2.1 16 b = Z0.2.2.1 16 b := y16
    have g17 : (sA (sA Y 5 b 1) 8 b (-1)).2.2.1 17 b = Z0.2.2.1 17 b := y17
    simp only [g2, g2a, g16, g17]
    rw [y2, i_le (by omega) (by omega), if_pos (by omega)]
    by_cases h0 : sN s b = 0
    · have e0 : zI (sN s b : Nat) = 0 := by rw [h0]; rfl
      have har : arOf s b = 0 := by unfold arOf; have := hP.2.2 h0; omega
      rw [if_pos e0, if_pos e0, if_neg (by omega)]
      refine ⟨_, ?_, fin 0 (by rw [har]; rfl)⟩
      rw [b2i_f, zA, zl1, zA]
      congr 2
    · have e0 : ¬ zI (sN s b : Nat) = 0 := by
        rw [show (0 : Int32) = zI 0 from rfl, z_eq (by omega) (by omega)]; omega
      have hPb := hp b hb (by omega)
      have r5' := r5 hPb
      rw [if_neg e0, if_neg e0, if_pos (c := 0 < sN s b) (by omega), r5'.1, r5'.2, show (8 : Int32) = zI 8 from rfl, zM, zA]
      refine ⟨_, ?_, fin (zI (8 * (sP s b / 8) + sP s b % 8)) ?_⟩
      · rw [b2i_t, zA, show zI (b : Int) + 1 = zI ((b : Int) + 1) from zA _ 1]
        congr 2
      · unfold arOf
        congr 1
        omega
  | succ d ih =>
    intro i m Y h1 hm pY y2 y3
    obtain ⟨m, rfl⟩ : ∃ n', m = n' + 1 := ⟨m - 1, by omega⟩
    have aY : agr [0, 1] [] [1, 2, 3, 4, 5, 8, 9] [] Z0 Y := (aZ.wk (by simp) (by simp) (by simp) (by simp)).tr (agr.wk pY.1 (by simp) (by simp) (by simp) (by simp))
    have hPb := hp b hb (by omega)
    have r5' := r5 hPb
    have r2' := r2 i (by omega)
    have hu := h2.2.2.1 b i
    show ∃ Y2, fX9_readLevel_80b N (fX9_readLevel_60 N k) (fX9_readLevel_80 N (fX9_readLevel_60 N k) m) (zI cnt) (zI b) (zI i) Y = _ ∧ _
    have hck2 : ∀ (E : Option (Int32 × St)), ck (zI (5 * (b : Int) + (i : Int))) 25 E = E := fun E => ck_z (by omega) (by omega) (by omega)
    have hcl2 : (zI (5 * (b : Int) + (i : Int))).toNatClampNeg = 5 * b + i := by rw [z_cl (by omega) (by omega)]; omega
    unfold fX9_readLevel_80b
    rw [show (5 : Int32) = zI 5 from rfl, zM, zA]
    simp only [hck, hcl, hck2, hcl2, stp_ok]
    have g13 : Y.2.2.1 13 (5 * b + i) = zI (sU s b i : Nat) := by rw [aY.2.2.1 13 (by decide)]; exact r2'.1
    have g16 : Y.2.2.1 16 b = zI (sP s b % 8) := by rw [aY.2.2.1 16 (by decide)]; exact r5'.1
    have g14 : ∀ (v : Int32), (sA Y 3 (5 * b + i) v).2.2.1 14 (5 * b + i) = zI (sV s b i : Nat) := fun v => by
      show Y.2.2.1 14 (5 * b + i) = _
      rw [aY.2.2.1 14 (by decide)]; exact r2'.2
    have g17 : ∀ (v : Int32), (sA Y 3 (5 * b + i) v).2.2.1 17 b = zI (sP s b / 8) := fun v => by
      show Y.2.2.1 17 b = _
      rw [aY.2.2.1 17 (by decide)]; exact r5'.2
    simp only [g14, g17]
    rw [y2, i_le (by omega) (by omega), if_neg (by omega), g13, g16, zS, zS, zl1, zA, ← lq_X hPb, ← lq_Y hPb]
    refine ih (i + 1) m _ (by omega) (by omega) ⟨agr.sA (agr.sA pY.1 (by simp) _ _) (by simp) _ _, fun e he => ?_⟩ y2 (fun j hj => ?_)
    · obtain ⟨u1, u2, u3, u4, u5⟩ := pY.2 e he
      refine ⟨u1, fun j hj => ?_, u3, u4, u5⟩
      have := h2.1 e
      rw [sA_ne _ _ _ (by decide), sA_oth _ _ (by omega), sA_oth _ _ (by omega), sA_ne _ _ _ (by decide)]
      exact u2 j hj
    · by_cases hji : j = i
      · rw [hji, sA_ne _ _ _ (by decide), sA_same, sA_same]; exact ⟨rfl, rfl⟩
      · rw [sA_ne _ _ _ (by decide), sA_oth _ _ (by omega), sA_oth _ _ (by omega), sA_ne _ _ _ (by decide)]
        exact y3 j (by omega)
theorem m_readLevel {N : Nat} {s : Sc} {M Z : St} (hN : 100 ≤ N) (h2 : iv2 s) (hp : pivs s) (qM : QM s M Z) (h5 : Z.1 5 = zI (sY s + 1 : Nat)) : ∃ M2, (stp (sI Z 0 (Z.1 4)) fun S40 => stp (sI S40 1 (S40.1 5)) fun S41 => fX9_readLevel_32 N N 0 S41) = some (zI (bcn (lvOf s) 5 : Nat), M2) ∧ agr [0, 1, 4, 5, 8, 9] [] [1, 2, 3, 4, 5, 8, 9, 11, 12, 13, 14, 15, 16, 17, 22] [] M M2 ∧ M2.1 0 = zI (sW s : Nat) ∧ M2.1 1 = zI (sY s + 1 : Nat) ∧ (∀ q, q < 64 → 0 ≤ sK s q → M2.2.2.1 1 q = zI (sK s q)) ∧ (∀ b, b < 5 → PB s M2 b) ∧ M2.1 8 = zI 0 ∧ M2.1 9 = zI 0 ∧ ∀ i, i < 4 → M2.2.2.1 22 i = zI 0 := by
  have l22 : ∀ (d i m : Nat) (w : Int32) (Y : St), i + d = 4 → d < m → (∀ j, j < i → Y.2.2.1 22 j = zI 0) → ∃ Y2, fX9_readLevel_239 N m w (zI i) Y = some (w, Y2) ∧ agr [] [] [22] [] Y Y2 ∧ ∀ j, j < 4 → Y2.2.2.1 22 j = zI 0 := by
    intro d
    induction d with
    | zero =>
      intro i m w Y h1 hm hj
      obtain ⟨m, rfl⟩ : ∃ n', m = n' + 1 := ⟨m - 1, by omega⟩
      refine ⟨Y, ?_, agr.rf _, fun j hj4 => hj j (by omega)⟩
      show fX9_readLevel_239b N (fX9_readLevel_239 N m) w (zI i) Y = _
      unfold fX9_readLevel_239b
      rw [zl4, i_le (by omega) (by omega), if_pos (by omega)]
    | succ d ih =>
      intro i m w Y h1 hm hj
      obtain ⟨m, rfl⟩ : ∃ n', m = n' + 1 := ⟨m - 1, by omega⟩
      show ∃ Y2, fX9_readLevel_239b N (fX9_readLevel_239 N m) w (zI i) Y = _ ∧ _
      unfold fX9_readLevel_239b
      rw [zl4, i_le (by omega) (by omega), if_neg (by omega), ck_z (by omega) (by omega) (by omega), stp_ok, z_cl (by omega) (by omega), show ((i : Int)).toNat = i by omega, zl1, zA]
      obtain ⟨Y2, e1, e2, e3⟩ := ih (i + 1) m w (sA Y 22 i (vp_nar .boolean 0)) (by omega) (by omega) (fun j hji => by
        by_cases hj2 : j = i
        · subst hj2; rw [sA_same]; rfl
        · rw [sA_oth _ _ hj2]; exact hj j (by omega))
      exact ⟨Y2, e1, (agr.sA (agr.rf _) (by simp) _ _).tr e2, e3⟩
  have aZ : agr [0, 1] [] [1] [] Z (sI (sI Z 0 (zI (sW s : Nat))) 1 (zI (sY s + 1 : Nat))) := agr.sI (agr.sI (agr.rf _) (by simp) _) (by simp) _
  have l1 : ∀ (d q m : Nat) (Y : St), q + d = 64 → d < m → agr [] [] [1] [] (sI (sI Z 0 (zI (sW s : Nat))) 1 (zI (sY s + 1 : Nat))) Y → (∀ j, j < q → Y.2.2.1 1 j = Z.2.2.1 11 j) → ∃ Y2, fX9_readLevel_32 N m (zI q) Y = fX9_readLevel_60 N N (zI 0) (zI 0) Y2 ∧ agr [] [] [1] [] (sI (sI Z 0 (zI (sW s : Nat))) 1 (zI (sY s + 1 : Nat))) Y2 ∧ ∀ j, j < 64 → Y2.2.2.1 1 j = Z.2.2.1 11 j := by
    intro d
    induction d with
    | zero =>
      intro q m Y h1 hm a hj
      obtain ⟨m, rfl⟩ : ∃ n', m = n' + 1 := ⟨m - 1, by omega⟩
      refine ⟨Y, ?_, a, fun j hj4 => hj j (by omega)⟩
      show fX9_readLevel_32b N (fX9_readLevel_32 N m) (zI q) Y = _
      unfold fX9_readLevel_32b
      rw [show (64 : Int32) = zI 64 from rfl, i_le (by omega) (by omega), if_pos (by omega)]
      rfl
    | succ d ih =>
      intro q m Y h1 hm a hj
      obtain ⟨m, rfl⟩ : ∃ n', m = n' + 1 := ⟨m - 1, by omega⟩
      show ∃ Y2, fX9_readLevel_32b N (fX9_readLevel_32 N m) (zI q) Y = _ ∧ _
      unfold fX9_readLevel_32b
      rw [show (64 : Int32) = zI 64 from rfl, i_le (by omega) (by omega), if_neg (by omega), ck_z (by omega) (by omega) (by omega), ck_z (by omega) (by omega) (by omega), stp_ok, z_cl (by omega) (by omega), show ((q : Int)).toNat = q by omega, zl1, zA]
      refine ih (q + 1) m _ (by omega) (by omega) (agr.sA a (by simp) _ _) (fun j hjq => ?_)
      by_cases hj2 : j = q
      · subst hj2; rw [sA_same, a.2.2.1 11 (by decide)]; rfl
      · rw [sA_oth _ _ hj2]; exact hj j (by omega)
  rw [stp_ok, stp_ok, show (sI Z 0 (Z.1 4)).1 5 = zI (sY s + 1 : Nat) from h5, qM.2.1]
  obtain ⟨Z1, e1, a1, k1⟩ := l1 64 0 N _ (by omega) (by omega) (agr.rf _) (fun j hj => absurd hj (Nat.not_lt_zero _))
  rw [show fX9_readLevel_32 N N 0 _ = _ from e1]
  have aZ1 : agr [0, 1] [] [1] [] Z Z1 := aZ.tr (a1.wk (by simp) (by simp) (by simp) (by simp))
  have l60 : ∀ (d b m : Nat) (Y : St), b + d = 5 → d < m → PM s Z1 b Y → ∃ Y2, fX9_readLevel_60 N m (zI (bcn (lvOf s) b : Nat)) (zI b) Y = fX9_readLevel_239 N N (zI (bcn (lvOf s) 5 : Nat)) (zI 0) (sI (sI Y2 8 (zI 0)) 9 (zI 0)) ∧ PM s Z1 5 Y2 := by
    intro d
    induction d with
    | zero =>
      intro b m Y h1 hm pY
      obtain ⟨m, rfl⟩ : ∃ n', m = n' + 1 := ⟨m - 1, by omega⟩
      have : b = 5 := by omega
      subst this
      refine ⟨Y, ?_, pY⟩
      show fX9_readLevel_60b N (fX9_readLevel_60 N m) _ (zI (5 : Nat)) Y = _
      unfold fX9_readLevel_60b
      rw [zl5, i_le (by omega) (by omega), if_pos (by omega), stp_ok, stp_ok]
      rfl
    | succ d ih =>
      intro b m Y h1 hm pY
      obtain ⟨m, rfl⟩ : ∃ n', m = n' + 1 := ⟨m - 1, by omega⟩
      have hb : b < 5 := by omega
      show ∃ Y2, fX9_readLevel_60b N (fX9_readLevel_60 N m) _ (zI b) Y = _ ∧ _
      unfold fX9_readLevel_60b
      have hcl : (zI (b : Int)).toNatClampNeg = b := by rw [z_cl (by omega) (by omega)]; omega
      have y12 : Y.2.2.1 12 b = zI (sN s b : Nat) := by rw [pY.1.2.2.1 12 (by decide), aZ1.2.2.1 12 (by decide)]; exact (qM.2.2.2 b hb).1
      have hn := h2.1 b
      rw [zl5, i_le (by omega) (by omega), if_neg (by omega), ck_z (by omega) (by omega) (by omega), ck_z (by omega) (by omega) (by omega), stp_ok, hcl, y12]
      obtain ⟨Y2, g1, g2⟩ := m_inner (N := N) (Z := Z1) h2 hp qM aZ1 hb (k := m) (cnt := bcn (lvOf s) b) (sN s b) 0 N (sA Y 2 b (zI (sN s b : Nat))) (by omega) (by omega) ⟨agr.sA pY.1 (by simp) _ _, fun e he => by
        obtain ⟨u1, u2, u3, u4, u5⟩ := pY.2 e he
        exact ⟨by rw [sA_oth _ _ (by omega)]; exact u1, u2, u3, u4, u5⟩⟩ (sA_same _ _ _ _) (fun j hj => absurd hj (Nat.not_lt_zero _))
      rw [show fX9_readLevel_80 N (fX9_readLevel_60 N m) N (zI (bcn (lvOf s) b : Nat)) (zI b) 0 (sA Y 2 b (zI (sN s b : Nat))) = _ from g1]
      have ee : bcn (lvOf s) (b + 1) = bcn (lvOf s) b + (if 0 < sN s b then 1 else 0) := by
        show cnB b _ + (if decide (0 < sN s b) = true then 1 else 0) = cnB b _ + (if 0 < sN s b then 1 else 0)
        by_cases h0 : 0 < sN s b
        · rw [decide_eq_true h0, if_pos rfl, if_pos h0]
        · rw [decide_eq_false h0, if_neg (by simp), if_neg h0]
      have := ih (b + 1) m Y2 (by omega) (by omega) g2
      rw [ee] at this
      exact this
  obtain ⟨Y2, g1, g2⟩ := l60 5 0 N Z1 (by omega) (by omega) ⟨agr.rf _, fun e he => absurd he (Nat.not_lt_zero _)⟩
  obtain ⟨Y3, f1, f2, f3⟩ := l22 4 0 N (zI (bcn (lvOf s) 5 : Nat)) (sI (sI Y2 8 (zI 0)) 9 (zI 0)) (by omega) (by omega) (fun j hj => absurd hj (Nat.not_lt_zero _))
  rw [show fX9_readLevel_60 N N (zI 0) (zI 0) Z1 = _ from g1, show fX9_readLevel_239 N N (zI (bcn (lvOf s) 5 : Nat)) (zI 0) _ = _ from f1]
  have r1 : ∀ k, k ≠ 8 → k ≠ 9 → Y3.1 k = Z1.1 k := fun k h8 h9 => by rw [f2.1 k (by simp), sI_ne _ _ h9, sI_ne _ _ h8, g2.1.1 k (by simp)]
  have r2 : ∀ k, k ≠ 22 → Y3.2.2.1 k = Y2.2.2.1 k := fun k hk => f2.2.2.1 k (by simp; omega)
  refine ⟨Y3, rfl, ?_, ?_, ?_, fun q hq hk => ?_, fun b hb => ?_, ?_, ?_, f3⟩
  · exact ((((agr.wk qM.1 (by simp) (by simp) (by simp) (by simp)).tr (agr.wk aZ1 (by simp) (by simp) (by simp) (by simp))).tr (agr.wk g2.1 (by simp) (by simp) (by simp) (by simp))).tr (agr.sI (agr.sI (agr.rf _) (by simp) _) (by simp) _)).tr (agr.wk f2 (by simp) (by simp) (by simp) (by simp))
  · rw [r1 0 (by decide) (by decide), a1.1 0 (by simp)]; rfl
  · rw [r1 1 (by decide) (by decide), a1.1 1 (by simp)]; rfl
  · rw [r2 1 (by decide), g2.1.2.2.1 1 (by decide), k1 q hq]; exact qM.2.2.1 q hq hk
  · obtain ⟨u1, u2, u3, u4, u5⟩ := g2.2 b hb
    unfold PB
    rw [r2 2 (by decide), r2 3 (by decide), r2 4 (by decide), r2 5 (by decide), r2 8 (by decide), r2 9 (by decide)]
    exact ⟨u1, u2, u3, u4, u5⟩
  · rw [f2.1 8 (by simp), sI_ne _ _ (by decide), sI_same]
  · rw [f2.1 9 (by simp), sI_same]
