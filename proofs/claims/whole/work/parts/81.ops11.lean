/-! size -/
def bcn (g : Lv) (n : Nat) : Nat := cnB n fun b => decide (0 < gN g b)
theorem x_blockCount {N : Nat} {g : Lv} {X : St} (hN : 100 ≤ N) (hB : xB g X) (hw : wfL g) : fX2_blockCount N X = some (zI (bcn g 5 : Nat), X) := by
  have lp : ∀ (d b n : Nat), b + d = 5 → d < n → fX2_blockCount_4 N n (zI (bcn g b : Nat)) (zI b) X = some (zI (bcn g 5 : Nat), X) := by
    intro d
    induction d with
    | zero =>
      intro b n hb hn
      obtain ⟨n, rfl⟩ : ∃ n', n = n' + 1 := ⟨n - 1, by omega⟩
      show fX2_blockCount_4b N (fX2_blockCount_4 N n) _ (zI b) X = _
      unfold fX2_blockCount_4b
      rw [zl5, i_le (by omega) (by omega), if_pos (by omega), show b = 5 by omega]
    | succ d ih =>
      intro b n hb hn
      obtain ⟨n, rfl⟩ : ∃ n', n = n' + 1 := ⟨n - 1, by omega⟩
      have hi := ih (b + 1) n (by omega) (by omega)
      have ee : bcn g (b + 1) = bcn g b + (if decide (0 < gN g b) then 1 else 0) := rfl
      rw [ee] at hi
      show fX2_blockCount_4b N (fX2_blockCount_4 N n) _ (zI b) X = _
      unfold fX2_blockCount_4b fX2_blockCount_20
      rw [zl5, i_le (by omega) (by omega), if_neg (by omega), x_has hB hw (by omega), bd_ok, zl0, i_d, show ((b : Int)).toNat = b by omega, zl1, zA, zA]
      by_cases h : 0 < gN g b
      · rw [if_pos ⟨by omega, by omega, h⟩]
        rw [decide_eq_true h] at hi
        exact hi
      · rw [if_neg (fun z => h z.2.2)]
        rw [decide_eq_false h] at hi
        exact hi
  exact lp 5 0 N (by omega) (by omega)
theorem k_size {N : Nat} (hN : 3000 ≤ N) : ∀ (p1 : Int32) (X M : St), Rel X M → ∃ r X2 M2, fX8_size N p1 X = some (r, X2) ∧ fX9_size N p1 M = some (r, M2) ∧ Rel X2 M2 := by
  rintro p1 X M ⟨g, wt, th, st, gx, gy, gt, D, p, h⟩
  have hw := h.1.1
  have hg := h.2.2.2.1.1
  have lp : ∀ (d b n : Nat), b + d = 5 → d < n → fX9_size_4 N n p1 (zI (bcn g b : Nat)) (zI b) M = if p1 = 0 then some (M.1 0, M) else if p1 = 1 then some (M.1 1, M) else if p1 = 2 then some (zI (bcn g 5 : Nat), M) else if p1 = 3 then some (M.1 2, M) else some (-3, M) := by
    intro d
    induction d with
    | zero =>
      intro b n hb hn
      obtain ⟨n, rfl⟩ : ∃ n', n = n' + 1 := ⟨n - 1, by omega⟩
      show fX9_size_4b N (fX9_size_4 N n) p1 _ (zI b) M = _
      unfold fX9_size_4b fX9_size_78
      rw [zl5, i_le (by omega) (by omega), if_pos (by omega), show b = 5 by omega]
    | succ d ih =>
      intro b n hb hn
      obtain ⟨n, rfl⟩ : ∃ n', n = n' + 1 := ⟨n - 1, by omega⟩
      have hn5 := hw.2.2.1 b
      have hi := ih (b + 1) n (by omega) (by omega)
      have ee : bcn g (b + 1) = bcn g b + (if decide (0 < gN g b) then 1 else 0) := rfl
      rw [ee] at hi
      rw [← hi]
      show fX9_size_4b N (fX9_size_4 N n) p1 _ (zI b) M = _
      unfold fX9_size_4b fX9_size_24
      rw [zl5, i_le (by omega) (by omega), if_neg (by omega), ck_z (by omega) (by omega) (by omega), z_cl (by omega) (by omega), show ((b : Int)).toNat = b by omega, hg.2.2.2.1 b (by omega), show (if zI (gN g b : Nat) = (0 : Int32) then nm (zI (bcn g b : Nat) + b2i false) (fun y3 => fX9_size_4 N n p1 y3 (zI b + 1) M) else nm (zI (bcn g b : Nat) + b2i true) (fun y3 => fX9_size_4 N n p1 y3 (zI b + 1) M)) = (if zI (gN g b : Nat) = zI 0 then nm (zI (bcn g b : Nat) + b2i false) (fun y3 => fX9_size_4 N n p1 y3 (zI b + 1) M) else nm (zI (bcn g b : Nat) + b2i true) (fun y3 => fX9_size_4 N n p1 y3 (zI b + 1) M)) from rfl, i_eq (by omega) (by omega), bb0, bb0, nm_ok, nm_ok, zA, zA, zl1, zA]
      by_cases h0 : 0 < gN g b
      · rw [if_neg (by omega), decide_eq_true h0]
        rfl
      · rw [if_pos (by omega), decide_eq_false h0]
        rfl
  have e := lp 5 0 N (by omega) (by omega)
  have e' : fX9_size N p1 M = _ := e
  unfold fX8_size
  rw [e', x_blockCount (by omega) h.2.2.1.2.1 hw, bd_ok, h.2.2.1.1.1, h.2.2.1.1.2.1, h.2.2.1.2.2.2.2.1, hg.1, hg.2.1, h.2.2.2.1.2.2.2.1]
  by_cases q0 : p1 = 0
  · rw [if_pos q0, if_pos q0]; exact ⟨_, X, M, rfl, rfl, h.rel⟩
  · rw [if_neg q0, if_neg q0]
    by_cases q1 : p1 = 1
    · rw [if_pos q1, if_pos q1]; exact ⟨_, X, M, rfl, rfl, h.rel⟩
    · rw [if_neg q1, if_neg q1]
      by_cases q2 : p1 = 2
      · rw [if_pos q2, if_pos q2]; exact ⟨_, X, M, rfl, rfl, h.rel⟩
      · rw [if_neg q2, if_neg q2]
        by_cases q3 : p1 = 3
        · rw [if_pos q3, if_pos q3]; exact ⟨_, X, M, rfl, rfl, h.rel⟩
        · rw [if_neg q3, if_neg q3]; exact ⟨_, X, M, rfl, rfl, h.rel⟩
