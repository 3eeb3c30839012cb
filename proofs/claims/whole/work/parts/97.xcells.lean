/-! the class builds the cells -/
theorem BY.skip {g : Lv} {W τ τ2 q : Nat} {B : St} (h : BY g W τ B) (hk : gK g q = 0) (hv : ∀ z, z < 64 → vis W τ2 z = (vis W τ z || decide (z = q))) : BY g W τ2 B := by
  obtain ⟨h1, h2, h3, h4, h5, h6⟩ := h
  have f1 : ∀ (P : Nat → Bool), P 0 = false → ∀ z, z < 64 → (vis W τ2 z && P (gK g z)) = (vis W τ z && P (gK g z)) := fun P hP z hz => vs_f P (hv z hz) hk hP
  have e1 : ∀ m, 0 < m → ((fun x : Nat => x == m) 0) = false := fun m hm => by simp; omega
  refine ⟨fun z hz => ?_, fun z hz => ?_, fun z hz => ?_, fun k hk2 z hz => ?_, fun k hk2 z hz => ?_, fun k hk2 z hz => ?_⟩
  · rw [hv z hz, h1 z hz]
    by_cases hzq : z = q
    · subst hzq; rw [hk]; simp
    · rw [decide_eq_false hzq, Bool.or_false]
  · exact (h2 z hz).trans (f1 (fun x => x == 1) (e1 _ (by omega)) z hz).symm
  · exact (h3 z hz).trans (f1 (fun x => decide (2 ≤ x ∧ x ≤ 5)) (decide_eq_false (by omega)) z hz).symm
  · exact (h4 k hk2 z hz).trans (f1 (fun x => x == 2 + k) (e1 _ (by omega)) z hz).symm
  · exact (h5 k hk2 z hz).trans (f1 (fun x => x == 6 + k) (e1 _ (by omega)) z hz).symm
  · exact (h6 k hk2 z hz).trans (f1 (fun x => x == 10 + k) (e1 _ (by omega)) z hz).symm
theorem vis_s {W x y : Nat} (hx : x < W) (hW : W ≤ 8) (z : Nat) : vis W ((W + 1) * y + x + 1) z = (vis W ((W + 1) * y + x) z || decide (z = 8 * y + x)) := by
  unfold vis
  by_cases hz : z = 8 * y + x
  · have e1 : z % 8 = x := by omega
    have e2 : z / 8 = y := by omega
    rw [decide_eq_true hz, Bool.or_true, e1, e2, decide_eq_true (by omega)]
  · rw [decide_eq_false hz, Bool.or_false]
    have : z % 8 < W → (W + 1) * (z / 8) + z % 8 ≠ (W + 1) * y + x := fun h1 h2 => by
      obtain ⟨u1, u2⟩ := mul_uniq (show z % 8 ≤ W by omega) (show x ≤ W by omega) h2
      omega
    by_cases h1 : z % 8 < W
    · have := this h1
      by_cases h2 : (W + 1) * (z / 8) + z % 8 < (W + 1) * y + x
      · rw [decide_eq_true (by omega), decide_eq_true (by omega)]
      · rw [decide_eq_false (by omega), decide_eq_false (by omega)]
    · rw [decide_eq_false (by omega), decide_eq_false (by omega)]
theorem vis_e {W y : Nat} (z : Nat) : vis W ((W + 1) * y + W + 1) z = vis W ((W + 1) * y + W) z := by
  unfold vis
  by_cases h1 : z % 8 < W
  · have : (W + 1) * (z / 8) + z % 8 ≠ (W + 1) * y + W := fun h2 => by
      obtain ⟨u1, u2⟩ := mul_uniq (show z % 8 ≤ W by omega) (show W ≤ W by omega) h2
      omega
    by_cases h2 : (W + 1) * (z / 8) + z % 8 < (W + 1) * y + W
    · rw [decide_eq_true (by omega), decide_eq_true (by omega)]
    · rw [decide_eq_false (by omega), decide_eq_false (by omega)]
  · rw [decide_eq_false (by omega), decide_eq_false (by omega)]
def BB (g : Lv) (s : Sc) (B : St) : Prop := ∀ b, b < 5 → B.1 (5 + b) = zI (sN s b : Nat) ∧ ∀ o, o < 4 → ∀ i, i < sN s b → B.2.2.1 (4 + b) (5 * o + i) = zI (rX o (gX g b i) (gY g b i)) ∧ B.2.2.1 (9 + b) (5 * o + i) = zI (rY o (gX g b i) (gY g b i))
abbrev agB (C B : St) : Prop := agr [5, 6, 7, 8, 9] [0, 1] [3, 4, 5, 6, 7, 8, 9, 10, 11, 12, 13] [1, 2, 3] C B
def BI (c : Nat → Nat) (n : Nat) (C : St) (τ : Nat) (B : St) : Prop := agB C B ∧ BY (lvOf (sc c n)) (sW (sc c n)) τ B ∧ BB (lvOf (sc c n)) (sc c τ) B
theorem x_buildCell {N n : Nat} {c : Nat → Nat} {C B : St} (hN : 100 ≤ N) (h : full c n) (hp : pivs (sc c n)) (tC : txX n c C) (c25 : C.1 25 = zI (sW (sc c n) : Nat)) (c21 : ∀ b, b < 5 → C.2.2.1 21 b = zI (sP (sc c n) b)) {x y : Nat} (hx : x < sW (sc c n)) (hy : y ≤ sY (sc c n)) (hB : BI c n C ((sW (sc c n) + 1) * y + x) B) : ∃ B2, fX3_buildCell N (zI x) (zI y) B = some ((), B2) ∧ BI c n C ((sW (sc c n) + 1) * y + x + 1) B2 := by
  obtain ⟨i1, i2, i3⟩ := iv_all n h.1
  have hW := (i1.2.2 (by have := h.2.1; omega)).2.2.1
  have hY7 := i1.1
  have hlt := grid_le h (show x + 1 ≤ sW (sc c n) by omega) hy
  obtain ⟨p1, p2⟩ := pos_of h (Nat.le_of_lt hx) (show (sW (sc c n) + 1) * y + x ≤ n by omega)
  have h47 := sign_in h hx hy
  have hkin := kind_in h hx hy
  have ok := (h.1 ((sW (sc c n) + 1) * y + x) (by omega)).2 h47
  have hS := sc_C h47
  have hmono := fun b => sN_mono (c := c) (b := b) (n - ((sW (sc c n) + 1) * y + x + 1)) ((sW (sc c n) + 1) * y + x + 1)
  have hvis := fun z (_ : z < 64) => vis_s (y := y) hx hW z
  obtain ⟨a, bY, bB⟩ := hB
  have tB := tC.ag a (by decide) (by decide)
  have hn80 := tC.1
  have hct := (tC.2.2 ((sW (sc c n) + 1) * y + x) (by omega)).2
  have eat : fX6_at N (((B.1 25 + 1) * zI y) + zI x) B = some (zI (c ((sW (sc c n) + 1) * y + x) : Nat), B) := by
    rw [a.1 25 (by decide), c25, zl1, zA, zM, zA, show ((sW (sc c n) : Nat) : Int) + 1 = ((sW (sc c n) + 1 : Nat) : Int) by omega, ← Int.natCast_mul, ← Int.natCast_add, x_at tB (by omega), if_pos (by omega)]
  rw [show (sW (sc c n) + 1) * y + x + 1 + (n - ((sW (sc c n) + 1) * y + x + 1)) = n by omega] at hmono
  generalize hτ : (sW (sc c n) + 1) * y + x = τ at *
  have hbo := bo_bd (c τ)
  unfold fX3_buildCell fX3_buildCell_86
  rw [eat, bd_ok, x_blockOf hct, bd_ok, zl0, i_le (by omega) (by omega)]
  by_cases hb0 : 0 ≤ bo (c τ)
  · obtain ⟨b, hb⟩ : ∃ b : Nat, bo (c τ) = (b : Int) := ⟨(bo (c τ)).toNat, by omega⟩
    have hb5 : b < 5 := by omega
    obtain ⟨m1, m2⟩ := hmono b
    have eN : sN (sc c (τ + 1)) b = sN (sc c τ) b + 1 := by rw [hS]; exact cN_e hb.symm
    have hP := hp b hb5 (by omega)
    have hPb := sP_bd i2 b
    have hpe : sP (sc c n) b = (arOf (sc c n) b : Nat) := by unfold arOf; omega
    have har := ar_lt i2 b
    have hm5 := (ok.2.2.2 b hb.symm).1
    have hk0 : gK (lvOf (sc c n)) (8 * y + x) = 0 := by
      rw [lq_K, hkin]
      have : kd1 (c τ) = 0 := if_pos hb0
      rw [this]; rfl
    have eU := m2 (sN (sc c τ) b) (by omega)
    rw [hS, cU_e hb.symm, cV_e hb.symm, p1, p2] at eU
    have q21 : B.2.2.1 21 b = zI (arOf (sc c n) b : Nat) := by rw [a.2.2.1 21 (by decide), c21 b hb5, hpe]
    obtain ⟨B2, f1, f2, f3, f4, f5⟩ := x_addC (N := N) (B := B) (b := b) (m := sN (sc c τ) b) (a := (x : Int) - ((arOf (sc c n) b % 8 : Nat) : Int)) (d := (y : Int) - ((arOf (sc c n) b / 8 % 8 : Nat) : Int)) hN hb5 hm5 (bB b hb5).1
    rw [if_pos hb0, hb, ck_z (by omega) (by omega) (by omega), ck_z (by omega) (by omega) (by omega), z_cl (by omega) (by omega), show ((b : Int)).toNat = b by omega, q21, x_columnOf (by omega), bd_ok, ck_z (by omega) (by omega) (by omega), q21, x_rowOf (by omega), bd_ok, zS, zS, f1, bd_ok]
    have eX : gX (lvOf (sc c n)) b (sN (sc c τ) b) = (x : Int) - ((arOf (sc c n) b % 8 : Nat) : Int) := by
      rw [lq_X hP, eU.1]; omega
    have eY : gY (lvOf (sc c n)) b (sN (sc c τ) b) = (y : Int) - ((arOf (sc c n) b / 8 % 8 : Nat) : Int) := by
      rw [lq_Y hP, eU.2]; omega
    refine ⟨B2, rfl, a.tr (f2.wk (fun j hj => ?_) (fun j hj => ?_) (fun j hj => ?_) (fun j hj => ?_)), (bY.ag f2 (by simp) (by simp) (by simp; omega) (by simp) (by simp) (by simp)).skip hk0 hvis, fun e he => ?_⟩
    · simp at hj; simp; omega
    · cases hj
    · simp at hj; simp; omega
    · cases hj
    · by_cases heb : e = b
      · subst heb
        rw [eN]
        refine ⟨f3, fun o ho i hi => ?_⟩
        by_cases him : i = sN (sc c τ) e
        · rw [him, eX, eY]; exact f4 o ho
        · have := f5 o i (by omega) him
          rw [this.1, this.2]
          exact (bB e he).2 o ho i (by omega)
      · have eN2 : sN (sc c (τ + 1)) e = sN (sc c τ) e := by rw [hS]; exact cN_n (fun z => heb (by omega))
        rw [eN2, f2.1 _ (by simp; omega), f2.2.2.1 (4 + e) (by simp; omega), f2.2.2.1 (9 + e) (by simp; omega)]
        exact bB e he
  · have hk : kd1 (c τ) = grd (c τ) := if_neg hb0
    have hgb := grd_bd (c τ)
    have hg0 : 0 ≤ grd (c τ) := by have := ok.2.2.1; omega
    obtain ⟨kk, hkk⟩ : ∃ kk : Nat, grd (c τ) = (kk : Int) := ⟨(grd (c τ)).toNat, by omega⟩
    have hgK : gK (lvOf (sc c n)) (8 * y + x) = kk := by rw [lq_K, hkin, hk, hkk]; omega
    obtain ⟨B2, f1, f2, f3⟩ := x_put (N := N) (q := 8 * y + x) bY (by omega) hgK (by omega) hvis
    rw [if_neg hb0, x_groundOf hN hct, bd_ok, show (8 : Int32) = zI 8 from rfl, zM, zA, show 8 * (y : Int) + (x : Int) = ((8 * y + x : Nat) : Int) by omega, hkk, f1, bd_ok]
    refine ⟨B2, rfl, a.tr (f2.wk (by simp) (by simp) (by simp) (by simp)), f3, fun e he => ?_⟩
    have eN2 : sN (sc c (τ + 1)) e = sN (sc c τ) e := by rw [hS]; exact cN_n (fun z => by omega)
    rw [eN2, f2.1 _ (by simp), f2.2.2.1 (4 + e) (by simp; omega), f2.2.2.1 (9 + e) (by simp; omega)]
    exact bB e he
theorem x_cells {N n : Nat} {c : Nat → Nat} {C : St} (hN : 100 ≤ N) (h : full c n) (hp : pivs (sc c n)) (tC : txX n c C) (c25 : C.1 25 = zI (sW (sc c n) : Nat)) (c26 : C.1 26 = zI (sY (sc c n) : Nat)) (c21 : ∀ b, b < 5 → C.2.2.1 21 b = zI (sP (sc c n) b)) : ∀ (d y x m1 m2 : Nat) (B : St), (sW (sc c n) + 1) * y + x + d = n → x ≤ sW (sc c n) → y ≤ sY (sc c n) → 9 - y < m1 → 9 - x < m2 → BI c n C ((sW (sc c n) + 1) * y + x) B → ∃ B2, fX3_build_26 N (fX3_build_16 N m1) m2 (zI y) (zI x) B = fX3_build_58 N N 0 (zI 0) B2 ∧ BI c n C n B2 := by
  obtain ⟨i1, i2, i3⟩ := iv_all n h.1
  have hW := (i1.2.2 (by have := h.2.1; omega)).2.2.1
  have hY7 := i1.1
  have hnn := n_of h
  intro d
  induction d with
  | zero =>
    intro y x m1 m2 B h1 h2 h3 h4 h5 hB
    obtain ⟨m1, rfl⟩ : ∃ n', m1 = n' + 1 := ⟨m1 - 1, by omega⟩
    obtain ⟨m2, rfl⟩ : ∃ n', m2 = n' + 1 := ⟨m2 - 1, by omega⟩
    obtain ⟨u1, u2⟩ := mul_uniq h2 (Nat.le_refl (sW (sc c n))) (show (sW (sc c n) + 1) * y + x = (sW (sc c n) + 1) * sY (sc c n) + sW (sc c n) by omega)
    have e25 : B.1 25 = zI (sW (sc c n) : Nat) := by rw [hB.1.1 25 (by decide)]; exact c25
    have e26 : B.1 26 = zI (sY (sc c n) : Nat) := by rw [hB.1.1 26 (by decide)]; exact c26
    refine ⟨B, ?_, by rw [show (sW (sc c n) + 1) * y + x = n by omega] at hB; exact hB⟩
    show fX3_build_26b N (fX3_build_16 N (m1 + 1)) (fX3_build_26 N (fX3_build_16 N (m1 + 1)) m2) (zI y) (zI x) B = _
    unfold fX3_build_26b
    rw [e25, i_le (by omega) (by omega), if_pos (by omega)]
    show fX3_build_16b N (fX3_build_16 N m1) (zI y + 1) B = _
    unfold fX3_build_16b
    rw [e26, zl1, zA, i_lt (by omega) (by omega), if_pos (by omega)]
    rfl
  | succ d ih =>
    intro y x m1 m2 B h1 h2 h3 h4 h5 hB
    obtain ⟨m1, rfl⟩ : ∃ n', m1 = n' + 1 := ⟨m1 - 1, by omega⟩
    obtain ⟨m2, rfl⟩ : ∃ n', m2 = n' + 1 := ⟨m2 - 1, by omega⟩
    have e25 : B.1 25 = zI (sW (sc c n) : Nat) := by rw [hB.1.1 25 (by decide)]; exact c25
    have e26 : B.1 26 = zI (sY (sc c n) : Nat) := by rw [hB.1.1 26 (by decide)]; exact c26
    show ∃ B2, fX3_build_26b N (fX3_build_16 N (m1 + 1)) (fX3_build_26 N (fX3_build_16 N (m1 + 1)) m2) (zI y) (zI x) B = _ ∧ _
    unfold fX3_build_26b
    rw [e25, i_le (by omega) (by omega)]
    by_cases hxW : x = sW (sc c n)
    · rw [if_pos (by omega)]
      have hyH : y < sY (sc c n) := by
        refine Classical.byContradiction fun z => ?_
        have : y = sY (sc c n) := by omega
        rw [this, hxW] at h1
        omega
      have h47 := sign_end h hyH
      show ∃ B2, fX3_build_16b N (fX3_build_16 N m1) (zI y + 1) B = _ ∧ _
      unfold fX3_build_16b
      rw [e26, zl1, zA, i_lt (by omega) (by omega), if_neg (by omega)]
      have hms : (sW (sc c n) + 1) * (y + 1) = (sW (sc c n) + 1) * y + (sW (sc c n) + 1) := Nat.mul_succ _ _
      refine ih (y + 1) 0 m1 N B (by omega) (by omega) (by omega) (by omega) (by omega) ?_
      rw [hxW] at hB
      rw [show (sW (sc c n) + 1) * (y + 1) + 0 = (sW (sc c n) + 1) * y + sW (sc c n) + 1 by omega]
      refine ⟨hB.1, hB.2.1.cong (fun q _ => vis_e q), ?_⟩
      rw [sc_R h47]
      exact hB.2.2
    · rw [if_neg (by omega)]
      obtain ⟨B2, f1, f2⟩ := x_buildCell hN h hp tC c25 c21 (show x < sW (sc c n) by omega) h3 hB
      rw [f1, bd_ok, zl1, zA]
      exact ih y (x + 1) (m1 + 1) m2 B2 (by omega) (by omega) h3 (by omega) (by omega) f2
