/-! calls of the history and of the slots -/
abbrev XH (X Y : St) : Prop := agr [0, 25, 26, 27, 28, 29, 30] [2, 3, 4, 5, 6, 7, 8, 9] [2, 19, 20, 21, 22, 23, 24, 25, 26, 27, 28, 29, 30] [0, 9, 10, 11, 12] X Y
abbrev MH (M Y : St) : Prop := agr [4, 5, 6, 7, 8, 9, 10, 11] [] [9, 11, 12, 13, 14, 15, 16, 17, 18, 19, 20, 21, 22, 23, 24, 25, 26, 27] [0, 1, 2, 3] M Y
theorem RelP.hs {g : Lv} {wt th : Nat → Nat} {st : Nat} {gx gy gt : Nat → Int} {D : Nat → Nat → Int} {p p2 : Nat → Nat} {X M X2 M2 : St} (h : RelP g wt th st gx gy gt D p X M) (a : XH X X2) (m : MH M M2) (hok : okA g p2) (hp : mPl p2 M2) (hh : rHi g (pkA p2) X2 M2) (hl : rSl g X2 M2) : RelP g wt th st gx gy gt D p2 X2 M2 := by
  obtain ⟨h1, h2, ⟨e1, e2, e3, e4, e5, e6⟩, ⟨f1, f2, f3, f4, f5, f6⟩, h5, h6, h7, h8, h9, h10⟩ := h
  refine ⟨h1, hok, ⟨e1.ag a (by decide) (by decide) (by decide) (by decide) (by decide) (by decide) (by decide) (by decide), e2.ag a (fun b hb => by simp; omega) (fun b hb => by simp; omega) (fun b hb => by simp; omega) (fun b hb => by simp; omega), fun b hb hn => ?_, fun r hr => ?_, ?_, fun b hb P hP => ?_⟩, ⟨f1.ag m (by decide) (by decide) (by decide) (by decide) (by decide) (by decide), f2.ag m (by decide), f3.ag m (by decide), ?_, fun b hb => ?_, fun h => by cases h⟩, hp, fun b hb hn => ?_, ?_, ?_, ?_, ?_⟩
  · rw [a.1 _ (by simp; omega)]; exact e3 b hb hn
  · rw [a.2.2.1 1 (by decide)]; exact e4 r hr
  · rw [a.1 2 (by decide)]; exact e5
  · rw [a.2.2.1 _ (by simp; omega)]; exact e6 b hb P hP
  · rw [m.1 2 (by decide)]; exact f4
  · rw [m.2.2.1 6 (by decide), m.2.2.1 7 (by decide), m.2.2.1 8 (by decide)]; exact f5 b hb
  · rw [a.1 (15 + b) (by simp; omega), a.1 (20 + b) (by simp; omega)]; exact h6 b hb hn
  · exact hh
  · exact hl
  · unfold rTx
    rw [a.1 1 (by decide), m.1 3 (by decide), a.2.2.1 0 (by decide), m.2.2.1 10 (by decide)]
    exact h9
  · unfold rCa
    rw [a.1 32 (by decide), a.2.1 10 (by decide), a.1 31 (by decide), a.2.2.1 31 (by decide)]
    exact h10
theorem rSl.ag {g : Lv} {X M X2 M2 : St} {is js as ls is2 js2 as2 ls2 : List Nat} (h : rSl g X M) (a : agr is js as ls X X2) (m : agr is2 js2 as2 ls2 M M2) (i0 : 0 ∉ is) (l0 : 0 ∉ ls) (a22 : 22 ∉ as2) (l2 : 2 ∉ ls2) : rSl g X2 M2 := by
  unfold rSl
  rw [a.1 0 i0, m.2.2.1 22 a22, m.2.2.2 2 l2, a.2.2.2 0 l0]
  exact h
theorem pk_upk {v : Nat} (h : v < 2 ^ 40) : pkA (upk v) = v := (enc_pk (upk_enc h)).symm
theorem k_undo {N : Nat} (hN : 3000 ≤ N) : ∀ (X M : St), Rel X M → ∃ r X2 M2, fX8_undo N X = some (r, X2) ∧ fX9_undo N M = some (r, M2) ∧ Rel X2 M2 := by
  rintro X M ⟨g, wt, th, st, gx, gy, gt, D, p, h⟩
  obtain ⟨md, kn, ar, mv, ef, h1, h2, h3, h4, h5, h6, h7, h8, h9, h10⟩ := h.2.2.2.2.2.2.1
  unfold fX8_undo fX9_undo
  rw [h3, h5, zl0, i_eq (by omega) (by omega), i_eq (by omega) (by omega)]
  by_cases hm : md = 0
  · rw [if_pos (by omega), if_pos (by omega)]
    exact ⟨_, X, M, rfl, rfl, h.rel⟩
  · rw [if_neg (by omega), if_neg (by omega), stp_ok, stp_ok, zl1, zS, sI_same, sI_same, show (md : Int) - 1 = ((md - 1 : Nat) : Int) by omega, ck_z (by omega) (by omega) (by omega), z_cl (by omega) (by omega), show ((md - 1 : Nat) : Int).toNat = md - 1 by omega, show (sI M 8 (zI (md - 1 : Nat))).2.2.2 0 = M.2.2.2 0 from rfl, (h9 (md - 1) (by omega)).1]
    have hov := (h8 (md - 1) (by omega)).2.1
    obtain ⟨Z, e, a, q⟩ := m_unpack (N := N) (M := sI M 8 (zI (md - 1 : Nat))) (by omega) (upk_enc hov.1)
    have hz8 : Z.1 8 = zI (md - 1 : Nat) := by rw [a.1 8 (by decide)]; exact sI_same _ _ _
    rw [e, bd_ok, hz8]
    have AX : XH X (sI X 28 (zI (md - 1 : Nat))) := agr.sI (agr.rf _) (by simp) _
    have AM : MH M Z := agr.tr (agr.sI (agr.rf _) (k := 8) (by simp) _) (a.wk (by simp) (by simp) (by simp) (by simp))
    refine ⟨_, _, Z, rfl, rfl, (h.hs (p2 := upk (ar (md - 1))) AX AM hov.2 q ⟨md - 1, kn, ar, mv, ef, by omega, h2, sI_same _ _ _, by rw [sI_ne _ _ (by decide)]; exact h4, hz8, by rw [a.1 9 (by decide), sI_ne _ _ (by decide)]; exact h6, (pk_upk hov.1).symm, h8, fun k hk => ?_, h10⟩ ?_).rel⟩
    · rw [a.2.2.2 0 (by decide), a.2.2.2 1 (by decide), a.2.2.1 20 (by decide), a.2.2.1 21 (by decide)]
      exact h9 k hk
    · exact h.2.2.2.2.2.2.2.1.ag (agr.sI (agr.rf (is := [28]) (js := []) (as := []) (ls := []) X) (by simp) _) (agr.tr (agr.sI (agr.rf (is := [8]) (js := []) (as := [9]) (ls := []) M) (k := 8) (by simp) _) (a.wk (by simp) (by simp) (by simp) (by simp))) (by decide) (by decide) (by decide) (by decide)
theorem k_redo {N : Nat} (hN : 3000 ≤ N) : ∀ (X M : St), Rel X M → ∃ r X2 M2, fX8_redo N X = some (r, X2) ∧ fX9_redo N M = some (r, M2) ∧ Rel X2 M2 := by
  rintro X M ⟨g, wt, th, st, gx, gy, gt, D, p, h⟩
  obtain ⟨md, kn, ar, mv, ef, h1, h2, h3, h4, h5, h6, h7, h8, h9, h10⟩ := h.2.2.2.2.2.2.1
  unfold fX8_redo fX9_redo
  rw [h3, h5, h4, h6, i_eq (by omega) (by omega), i_eq (by omega) (by omega)]
  by_cases hm : md = kn
  · rw [if_pos (by omega), if_pos (by omega)]
    exact ⟨_, X, M, rfl, rfl, h.rel⟩
  · rw [if_neg (by omega), if_neg (by omega), stp_ok, ck_z (by omega) (by omega) (by omega), z_cl (by omega) (by omega), show ((md : Int)).toNat = md by omega, (h9 md (by omega)).2.1, sI_same, zl1, zA]
    have hov := (h8 (md + 1) (by omega)).2.1
    obtain ⟨Z, e, a, q⟩ := m_unpack (N := N) (M := M) (by omega) (upk_enc hov.1)
    rw [e, bd_ok, stp_ok, a.1 8 (by decide), h5, zA, sI_same]
    have AX : XH X (sI X 28 (zI ((md : Int) + 1))) := agr.sI (agr.rf _) (by simp) _
    have AM : MH M (sI Z 8 (zI ((md : Int) + 1))) := agr.sI (a.wk (by simp) (by simp) (by simp) (by simp)) (by simp) _
    refine ⟨_, _, _, rfl, rfl, (h.hs (p2 := upk (ar (md + 1))) AX AM hov.2 q ⟨md + 1, kn, ar, mv, ef, by omega, h2, sI_same _ _ _, by rw [sI_ne _ _ (by decide)]; exact h4, sI_same _ _ _, by rw [sI_ne _ _ (by decide), a.1 9 (by decide)]; exact h6, (pk_upk hov.1).symm, h8, fun k hk => ?_, h10⟩ ?_).rel⟩
    · show Z.2.2.2 0 k = _ ∧ Z.2.2.2 1 k = _ ∧ _ ∧ Z.2.2.1 20 k = _ ∧ Z.2.2.1 21 k = _
      rw [a.2.2.2 0 (by decide), a.2.2.2 1 (by decide), a.2.2.1 20 (by decide), a.2.2.1 21 (by decide)]
      exact h9 k hk
    · exact h.2.2.2.2.2.2.2.1.ag (agr.sI (agr.rf (is := [28]) (js := []) (as := []) (ls := []) X) (by simp) _) (agr.sI (a.wk (is2 := [8]) (js2 := []) (as2 := [9]) (ls2 := []) (by simp) (by simp) (by simp) (by simp)) (by simp) _) (by decide) (by decide) (by decide) (by decide)
theorem x_weightOf {N : Nat} {g : Lv} {wt : Nat → Nat} {X : St} {s : Nat} (hN : 100 ≤ N) (hwt : xW8 g wt X) (hw9 : ∀ b, wt b ≤ 9) (hs : s < 32) (hex : ∀ b, b < 5 → s.testBit b = true → 0 < gN g b) : fX2_weightOf N (zI s) X = some (zI (wsN wt s 5 : Nat), X) := by
  have lp : ∀ (d b n : Nat), b + d = 5 → d < n → fX2_weightOf_4 N n (zI s) (zI (wsN wt s b : Nat)) (zI b) X = some (zI (wsN wt s 5 : Nat), X) := by
    intro d
    induction d with
    | zero =>
      intro b n hb hn
      obtain ⟨n, rfl⟩ : ∃ n', n = n' + 1 := ⟨n - 1, by omega⟩
      show fX2_weightOf_4b N (fX2_weightOf_4 N n) (zI s) (zI (wsN wt s b : Nat)) (zI b) X = _
      unfold fX2_weightOf_4b
      rw [zl5, i_le (by omega) (by omega), if_pos (by omega), show b = 5 by omega]
    | succ d ih =>
      intro b n hb hn
      obtain ⟨n, rfl⟩ : ∃ n', n = n' + 1 := ⟨n - 1, by omega⟩
      have hi := ih (b + 1) n (by omega) (by omega)
      have ee : wsN wt s (b + 1) = wsN wt s b + (if s.testBit b then wt b else 0) := rfl
      rw [ee] at hi
      show fX2_weightOf_4b N (fX2_weightOf_4 N n) (zI s) (zI (wsN wt s b : Nat)) (zI b) X = _
      unfold fX2_weightOf_4b fX2_weightOf_29
      rw [zl5, i_le (by omega) (by omega), if_neg (by omega), zl31, zl1, zl0, i_bit0 (by omega) (by omega), zA]
      by_cases hb2 : s.testBit b = true
      · rw [if_pos hb2] at hi
        rw [if_pos hb2, ck_z (by omega) (by omega) (by omega), z_cl (by omega) (by omega), show ((b : Int)).toNat = b by omega, hwt b (by omega) (hex b (by omega) hb2), zA, nm_ok]
        exact hi
      · rw [if_neg hb2] at hi
        rw [if_neg hb2]
        exact hi
  exact lp 5 0 N (by omega) (by omega)
