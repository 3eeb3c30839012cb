/-! the class builds the level -/
theorem vis_n {c : Nat → Nat} {n : Nat} (h : full c n) (q : Nat) : vis (sW (sc c n)) n q = iny (lvOf (sc c n)) q := by
  unfold vis iny
  rw [lq_C, lq_R]
  have hnn := n_of h
  by_cases h1 : q % 8 < sW (sc c n)
  · rw [decide_eq_true h1, Bool.true_and]
    by_cases h2 : q / 8 < sY (sc c n) + 1
    · have := grid_le h (show q % 8 + 1 ≤ sW (sc c n) by omega) (show q / 8 ≤ sY (sc c n) by omega)
      rw [decide_eq_true h2, decide_eq_true ⟨h1, by omega⟩]
    · have := Nat.mul_le_mul_left (sW (sc c n) + 1) (show sY (sc c n) + 1 ≤ q / 8 by omega)
      rw [Nat.mul_succ] at this
      rw [decide_eq_false h2, decide_eq_false (fun z => by have := z.2; omega)]
  · rw [decide_eq_false h1, Bool.false_and, decide_eq_false (fun z => h1 z.1)]
abbrev agBu (Y B : St) : Prop := agr [3, 4, 5, 6, 7, 8, 9, 10, 11, 12, 13, 14, 15, 16, 17, 18, 19, 20, 21, 22, 23, 24] [0, 1] [3, 4, 5, 6, 7, 8, 9, 10, 11, 12, 13, 14, 15, 16, 17, 18] [1, 2, 3, 4, 5, 6, 7, 8] Y B
theorem x_58 {N : Nat} {s : Sc} {B : St} (hN : 300 ≤ N) (h2 : iv2 s) (hp : pivs s) (hg : xY (lvOf s) B) (hw : wfL (lvOf s)) (hO : ∀ b, b < 5 → xO (lvOf s) b B) (h21 : ∀ b, b < 5 → B.2.2.1 21 b = zI (sP s b)) : ∀ (d b m v : Nat) (Y : St), b + d = 5 → d < m → v < 2 ^ 40 → (∀ j, j < 5 → upk v j = if j < b then arOf s j else 0) → agr [] [] [] [4, 5, 6, 7, 8] B Y → (∀ e, e < b → 0 < sN s e → ∀ p, p < 256 → ∀ q, q < 64 → bit (Y.2.2.2 (4 + e) p) q = (plc (lvOf s) e p && hasC (lvOf s) e p q)) → ∃ Y2, fX3_build_58 N m (lN v) (zI b) Y = some (lN (pkA (arOf s)), Y2) ∧ agr [] [] [] [4, 5, 6, 7, 8] B Y2 ∧ ∀ e, e < 5 → 0 < sN s e → ∀ p, p < 256 → ∀ q, q < 64 → bit (Y2.2.2.2 (4 + e) p) q = (plc (lvOf s) e p && hasC (lvOf s) e p q) := by
  intro d
  induction d with
  | zero =>
    intro b m v Y h1 h3 hv hu a k
    obtain ⟨m, rfl⟩ : ∃ n', m = n' + 1 := ⟨m - 1, by omega⟩
    refine ⟨Y, ?_, a, fun e he => k e (by omega)⟩
    show fX3_build_58b N (fX3_build_58 N m) (lN v) (zI b) Y = _
    unfold fX3_build_58b
    have : v = pkA (arOf s) := enc_pk ⟨hv, fun j hj => by rw [hu j hj, if_pos (by omega)]⟩
    rw [zl5, i_le (by omega) (by omega), if_pos (by omega), this]
  | succ d ih =>
    intro b m v Y h1 h3 hv hu a k
    obtain ⟨m, rfl⟩ : ∃ n', m = n' + 1 := ⟨m - 1, by omega⟩
    have hb : b < 5 := by omega
    have hP := sP_bd h2 b
    have e21 : Y.2.2.1 21 b = zI (sP s b) := by rw [a.2.2.1 21 (by simp)]; exact h21 b hb
    show ∃ Y2, fX3_build_58b N (fX3_build_58 N m) (lN v) (zI b) Y = _ ∧ _
    unfold fX3_build_58b fX3_build_103
    rw [zl5, i_le (by omega) (by omega), if_neg (by omega), ck_z (by omega) (by omega) (by omega), z_cl (by omega) (by omega), show ((b : Int)).toNat = b by omega, e21, zlm1, i_eq (by omega) (by omega)]
    by_cases hm1 : sP s b = -1
    · have hn0 : sN s b = 0 := by
        refine Classical.byContradiction fun z => ?_
        have := hp b hb (by omega)
        omega
      rw [if_pos hm1, zl1, zA]
      refine ih (b + 1) m v Y (by omega) (by omega) hv (fun j hj => ?_) a (fun e he => ?_)
      · rw [hu j hj]
        by_cases hjb : j = b
        · rw [if_neg (by omega), if_pos (by omega), hjb]; unfold arOf; omega
        · by_cases hj2 : j < b
          · rw [if_pos hj2, if_pos (by omega)]
          · rw [if_neg hj2, if_neg (by omega)]
      · by_cases heb : e = b
        · intro z; rw [heb] at z; omega
        · exact k e (by omega)
    · have har := ar_lt h2 b
      have hpe : sP s b = (arOf s b : Nat) := by unfold arOf; omega
      have hgY : xY (lvOf s) Y := hg.ag a (by simp) (by simp) (by simp) (by simp) (by simp) (by simp) (by simp) (by simp)
      have hOY : xO (lvOf s) b Y := by
        unfold xO
        rw [a.1 _ (by simp), a.2.2.1 (4 + b) (by simp), a.2.2.1 (9 + b) (by simp)]; exact hO b hb
      obtain ⟨Z, f1, f2, f3⟩ := x_findPl (N := N) (B := Y) hN hgY hw hb hOY
      obtain ⟨w, w1, w2, w3⟩ := x_withPlacement (N := N) (v := v) (b := b) (q := arOf s b) (X := Z) hv hb (by omega)
      have z21 : Z.2.2.1 21 b = zI (arOf s b : Nat) := by rw [f2.2.2.1 21 (by simp), e21, hpe]
      rw [if_neg hm1, ck_z (by omega) (by omega) (by omega), f1, bd_ok, ck_z (by omega) (by omega) (by omega), z21, w1, bd_ok, zl1, zA]
      refine ih (b + 1) m w Z (by omega) (by omega) w2 (fun j hj => ?_) (a.tr (f2.wk (by simp) (by simp) (by simp) (fun j hj => by simp at hj; simp; omega))) (fun e he => ?_)
      · rw [w3 j hj, hu j hj]
        by_cases hjb : j = b
        · rw [if_pos hjb, if_pos (by omega), hjb]
        · rw [if_neg hjb]
          by_cases hj2 : j < b
          · rw [if_pos hj2, if_pos (by omega)]
          · rw [if_neg hj2, if_neg (by omega)]
      · by_cases heb : e = b
        · subst heb; exact fun _ => f3
        · rw [f2.2.2.2 (4 + e) (by simp; omega)]; exact k e (by omega)
theorem x_build {N n : Nat} {c : Nat → Nat} {X Y : St} (hN : 3000 ≤ N) (h : full c n) (hp : pivs (sc c n)) (tX : txX n c X) (qX : QX (sc c n) X Y) : ∃ B, fX3_build N Y = some (lN (pkA (arOf (sc c n))), B) ∧ agBu Y B ∧ xY (lvOf (sc c n)) B ∧ xB (lvOf (sc c n)) B ∧ ∀ b, b < 5 → B.1 (10 + b) = zI 1 ∧ B.1 (15 + b) = zI (-1) ∧ B.1 (20 + b) = zI 4 ∧ ∀ P, P < 256 → B.2.2.1 (14 + b) P = zI 0 := by
  obtain ⟨i1, i2, i3⟩ := iv_all n h.1
  have hy2 := h.2.1
  have hyle := i1.1
  have hw := lq_wf h hp
  have tY := tX.ag qX.1 (by decide) (by decide)
  have y25 : Y.1 25 = zI (sW (sc c n) : Nat) := by rw [qX.2.1, if_neg (by omega)]
  have y26 := qX.2.2.1
  obtain ⟨C, c1, c2, c3, c4, c5, c6, c7, c8, c9⟩ := x_clear (N := N) (W := sW (sc c n)) (R := sY (sc c n) + 1) (Y := Y) (by omega)
  have b0 : BI c n C 0 C := by
    have hv : ∀ q, vis (sW (sc c n)) 0 q = false := fun q => decide_eq_false (fun z => absurd z.2 (Nat.not_lt_zero _))
    refine ⟨agr.rf _, ⟨fun q hq => ?_, fun q hq => ?_, fun q hq => ?_, fun k hk q hq => ?_, fun k hk q hq => ?_, fun k hk q hq => ?_⟩, fun b hb => ⟨(c9 b hb).1, fun o ho i hi => absurd hi (Nat.not_lt_zero _)⟩⟩
    · rw [c5 q hq, hv]; rfl
    · rw [c6, hv, bit_0]; rfl
    · rw [c7, hv, bit_0]; rfl
    · rw [(c8 k hk).1, hv, bit_0]; rfl
    · rw [(c8 k hk).2.1, hv, bit_0]; rfl
    · rw [(c8 k hk).2.2, hv, bit_0]; rfl
  have tC := tY.ag c2 (by decide) (by decide)
  have C25 : C.1 25 = zI (sW (sc c n) : Nat) := by rw [c2.1 25 (by decide)]; exact y25
  have C26 : C.1 26 = zI (sY (sc c n) : Nat) := by rw [c2.1 26 (by decide)]; exact y26
  have C21 : ∀ b, b < 5 → C.2.2.1 21 b = zI (sP (sc c n) b) := fun b hb => by rw [c2.2.2.1 21 (by decide)]; exact (qX.2.2.2.2 b hb).2.1
  obtain ⟨N', hN'⟩ : ∃ n', N = n' + 1 := ⟨N - 1, by omega⟩
  obtain ⟨B, e1, aB, bY, bB⟩ := x_cells (N := N) (by omega) h hp tC C25 C26 C21 n 0 0 N' N C (by omega) (by omega) (by omega) (by omega) (by omega) b0
  have hgB : xY (lvOf (sc c n)) B := by
    obtain ⟨k1, k2, k3, k4, k5, k6⟩ := bY
    refine ⟨?_, ?_, fun x y hx hy => ?_, fun q hq => ?_, fun q hq => ?_, fun k hk q hq => ?_, fun k hk q hq => ?_, fun k hk q hq => ?_⟩
    · rw [aB.1 3 (by decide)]; exact c3
    · rw [aB.1 4 (by decide)]; exact c4
    · rw [lq_C] at hx
      rw [lq_R] at hy
      have hy7 := i1.1
      have hW8 := (i1.2.2 (by omega)).2.2.1
      rw [k1 _ (by omega), vis_n h]
      have : iny (lvOf (sc c n)) (8 * y + x) = true := by
        unfold iny
        rw [lq_C, lq_R, decide_eq_true (by omega), decide_eq_true (by omega)]; rfl
      rw [this, if_pos rfl]
    · rw [← vis_n h]; exact k2 q hq
    · rw [← vis_n h]; exact k3 q hq
    · rw [← vis_n h]; exact k4 k hk q hq
    · rw [← vis_n h]; exact k5 k hk q hq
    · rw [← vis_n h]; exact k6 k hk q hq
  obtain ⟨B2, f1, f2, f3⟩ := x_58 (N := N) (B := B) (by omega) i2 hp hgB hw (fun b hb => bB b hb) (fun b hb => by rw [aB.2.2.1 21 (by decide)]; exact C21 b hb) 5 0 N 0 B (by omega) (by omega) (by omega) (fun j hj => by
    rw [if_neg (by omega)]
    unfold upk
    rw [Nat.zero_div]) (agr.rf _) (fun e he => absurd he (Nat.not_lt_zero _))
  have aC : agBu Y C := agr.wk c2 (by simp) (by simp) (by simp) (by simp)
  have aAll : agBu Y B2 := (aC.tr (aB.wk (by simp) (by simp) (by simp) (by simp))).tr (f2.wk (by simp) (by simp) (by simp) (by simp))
  refine ⟨B2, ?_, aAll, hgB.ag f2 (by simp) (by simp) (by simp) (by simp) (by simp) (by simp) (by simp) (by simp), fun b hb => ⟨?_, fun o ho i hi => ?_, fun hn => f3 b hb hn⟩, fun b hb => ?_⟩
  · unfold fX3_build
    rw [y25, y26, zl1, zA, show fX2_clear N (zI (sW (sc c n) : Nat)) (zI (((sY (sc c n) : Nat) : Int) + 1)) Y = _ from c1, bd_ok]
    have e16 : fX3_build_16 N N 0 C = fX3_build_26 N (fX3_build_16 N N') N (zI 0) (zI 0) C := by
      have : fX3_build_16 N N 0 C = fX3_build_16b N (fX3_build_16 N N') 0 C := by rw [hN']; rfl
      rw [this]
      unfold fX3_build_16b
      rw [C26, zl0, i_lt (by omega) (by omega), if_neg (by omega)]
    rw [e16, show fX3_build_26 N (fX3_build_16 N N') N (zI 0) (zI 0) C = _ from e1]
    exact f1
  · rw [f2.1 _ (by simp)]; exact (bB b hb).1
  · rw [f2.2.2.1 (4 + b) (by simp), f2.2.2.1 (9 + b) (by simp)]; exact (bB b hb).2 o ho i hi
  · obtain ⟨u1, u2, u3, u4, u5⟩ := c9 b hb
    rw [f2.1 (10 + b) (by simp), f2.1 (15 + b) (by simp), f2.1 (20 + b) (by simp), f2.2.2.1 (14 + b) (by simp), aB.1 (10 + b) (by simp; omega), aB.1 (15 + b) (by simp; omega), aB.1 (20 + b) (by simp; omega), aB.2.2.1 (14 + b) (by simp; omega)]
    exact ⟨u2, u3, u4, u5⟩
