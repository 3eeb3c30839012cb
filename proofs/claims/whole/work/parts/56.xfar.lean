/-! the class finds how far -/
def rk (k : Nat) : Nat := if k < 2 then k + 2 else if k < 4 then k - 2 else if k = 4 then 5 else 4
theorem rk_x2 : ∀ k : Nat, k < 4 → zI (k : Int) ^^^ zI 2 = zI (rk k : Nat) ∧ rk k < 4 := by decide +kernel
theorem rk_x1 : ∀ k : Nat, k < 6 → 4 ≤ k → zI (k : Int) ^^^ zI 1 = zI (rk k : Nat) ∧ rk k < 6 ∧ 4 ≤ rk k := by decide +kernel
theorem rk_d : ∀ k : Nat, k < 4 → dX (rk k) = -dX k ∧ dY (rk k) = -dY k := by decide +kernel
def bfI (g : Lv) (b Q k : Nat) : Int := if k < 4 ∧ ¬ inY g (((Q % 8 : Nat) : Int) + dX (rk k)) (((Q / 8 % 8 : Nat) : Int) + dY (rk k)) then -1 else if stb g b (pbI Q (rk k)).toNat k then pbI Q (rk k) else -1
theorem t0_ta {g : Lv} {X : St} (hg : xY g X) (hw : wfL g) : t0 g (0 ||| X.2.1 0 ||| X.2.1 1) = ta g := by
  funext x y
  unfold t0 ta fr
  by_cases h : inY g x y
  · obtain ⟨c, c1, c2, c3, c4, c5⟩ := celN hw h
    rw [decide_eq_true h, ← c5, bit_or, bit_or, bit_0, hg.2.2.2.1 c c2, hg.2.2.2.2.1 c c2, c3, c4]
    cases (kd g x y == 1) <;> cases decide (2 ≤ kd g x y ∧ kd g x y ≤ 5) <;> rfl
  · rw [decide_eq_false h]; rfl
theorem pb_rg {g : Lv} (hw : wfL g) {Q k : Nat} (hQ : Q < 256) (hk : k < 6) (h : k < 4 → inY g (((Q % 8 : Nat) : Int) + dX k) (((Q / 8 % 8 : Nat) : Int) + dY k)) : ∃ P : Nat, pbI Q k = (P : Int) ∧ P < 256 := by
  by_cases hk4 : k < 4
  · obtain ⟨q, e1, e2, -⟩ := pb_cell hw hQ hk4 (h hk4)
    exact ⟨q, e1, e2⟩
  · unfold pbI
    rw [if_neg hk4]
    exact ⟨_, rfl, Nat.mod_lt _ (by decide)⟩
theorem x_before {N : Nat} {g : Lv} {X : St} (hN : 100 ≤ N) (hg : xY g X) (hB : xB g X) (hw : wfL g) {b Q k : Nat} (hb : b < 5) (h0 : 0 < gN g b) (hQ : Q < 256) (hk : k < 6) : fX0_placementBefore N b (zI Q) (zI k) X = some (zI (bfI g b Q k), X) := by
  have core : ∀ x4 : Bool, x4 = decide (k < 4) → rk k < 6 → (rk k < 4 ↔ k < 4) → fX0_placementBefore_28 N b (zI (rk k : Nat)) (zI Q) (zI k) x4 X = some (zI (bfI g b Q k), X) := by
    intro x4 hx4 hr6 hr4
    unfold fX0_placementBefore_28 fX0_placementBefore_47
    rw [x_shifted hg hw hQ hr6, bd_ok]
    unfold bfI
    by_cases h1 : k < 4 ∧ ¬ inY g (((Q % 8 : Nat) : Int) + dX (rk k)) (((Q / 8 % 8 : Nat) : Int) + dY (rk k))
    · rw [if_pos h1, if_pos (c := rk k < 4 ∧ ¬ inY g (((Q % 8 : Nat) : Int) + dX (rk k)) (((Q / 8 % 8 : Nat) : Int) + dY (rk k))) ⟨hr4.mpr h1.1, h1.2⟩, zl0, i_lt (by omega) (by omega), if_pos (by omega)]
      rfl
    · rw [if_neg h1, if_neg (c := rk k < 4 ∧ ¬ inY g (((Q % 8 : Nat) : Int) + dX (rk k)) (((Q / 8 % 8 : Nat) : Int) + dY (rk k))) (fun z => h1 ⟨hr4.mp z.1, z.2⟩)]
      obtain ⟨P, e1, e2⟩ := pb_rg hw hQ hr6 (fun h => Classical.byContradiction fun z => h1 ⟨hr4.mp h, z⟩)
      rw [e1, zl0, i_lt (by omega) (by omega), if_neg (by omega), x_fits hB hw hb h0 e2, bd_ok, i_b, show ((P : Int)).toNat = P by omega]
      unfold stb
      cases hpl : plc g b P
      · rw [if_neg (c := false = true) (by simp), Bool.false_and, if_neg (c := false = true) (by simp)]
        rfl
      · rw [if_pos (c := true = true) rfl, Bool.true_and, i_b, hx4]
        unfold fX0_placementBefore_75 fX0_placementBefore_88
        by_cases hk4 : k < 4
        · rw [decide_eq_true hk4, if_pos (c := true = true) rfl, x_afterPush hg hB hw hb h0 e2 hk4, bd_ok, if_pos hk4, okP_sa]
          cases hs : saB g b P k
          · rw [if_neg (c := false = true) (by simp), if_neg (c := false = true) (by simp), zl0, i_le (by omega) (by omega), if_neg (by omega)]
            rfl
          · rw [if_pos (c := true = true) rfl, if_pos (c := true = true) rfl]
            have hin : inY g (((P % 8 : Nat) : Int) + dX k) (((P / 8 % 8 : Nat) : Int) + dY k) := by
              obtain ⟨ip, hip, hpiv⟩ := hw.2.2.2.2 b hb h0
              have hc := piv (p := P) hpiv
              have h2 := allB_iff.mp hs ip hip
              unfold sa1 at h2
              rw [Bool.and_eq_true, hc.1, hc.2] at h2
              exact (fr_in h2.1).1
            obtain ⟨R, r1, r2⟩ := pb_rg hw e2 hk (fun _ => hin)
            rw [r1, zl0, i_le (by omega) (by omega), if_pos (by omega)]
        · rw [decide_eq_false hk4, if_neg (c := false = true) (by simp), x_afterTurn hN hg hB hw hb e2 hk (by omega), bd_ok, if_neg hk4]
          have he : okT g b P (k == 4) (0 ||| X.2.1 0 ||| X.2.1 1) = taB g b P (k == 4) := by
            unfold okT taB
            rw [t0_ta hg hw]
          rw [he]
          cases hs : taB g b P (k == 4)
          · rw [if_neg (c := false = true) (by simp), if_neg (c := false = true) (by simp), zl0, i_le (by omega) (by omega), if_neg (by omega)]
            rfl
          · rw [if_pos (c := true = true) rfl, if_pos (c := true = true) rfl]
            obtain ⟨R, r1, r2⟩ := pb_rg hw e2 hk (fun h => absurd h hk4)
            rw [r1, zl0, i_le (by omega) (by omega), if_pos (by omega)]
  unfold fX0_placementBefore fX0_placementBefore_10
  rw [zl4, i_le (by omega) (by omega)]
  by_cases hk4 : k < 4
  · obtain ⟨a1, a2⟩ := rk_x2 k hk4
    rw [if_neg (by omega), zl0, i_b, if_pos rfl, zl2, a1]
    exact core true (by rw [decide_eq_true hk4]) (by omega) ⟨fun _ => hk4, fun _ => a2⟩
  · obtain ⟨a1, a2, a3⟩ := rk_x1 k hk (by omega)
    rw [if_pos (by omega), zl0, i_b, if_neg (by simp), zl1, a1]
    exact core false (by rw [decide_eq_false hk4]) a2 ⟨fun h => by omega, fun h => absurd h hk4⟩
theorem bf_nx {g : Lv} (hw : wfL g) {b : Nat} (hb : b < 5) (h0 : 0 < gN g b) {P Q k : Nat} (hP : P < 256) (hQ : Q < 256) (hk : k < 6) : bfI g b Q k = (P : Int) ↔ nxb g b P k = (Q : Int) := by
  by_cases hk4 : k < 4
  · have hd := rk_d k hk4
    have hr := (rk_x2 k hk4).2
    have pbk : ∀ p, pbI p k = (p : Int) + dX k + 8 * dY k := fun p => by unfold pbI; rw [if_pos hk4]
    have pbr : ∀ p, pbI p (rk k) = (p : Int) + dX (rk k) + 8 * dY (rk k) := fun p => by unfold pbI; rw [if_pos hr]
    constructor
    · intro h
      unfold bfI at h
      split at h
      · omega
      · split at h
        · rename_i h2
          rw [h, show ((P : Int)).toNat = P by omega] at h2
          unfold nxb
          rw [h2, if_pos rfl, pbk]
          rw [pbr] at h
          omega
        · omega
    · intro h
      unfold nxb at h
      cases hs : stb g b P k
      · rw [hs, if_neg (by simp)] at h; omega
      · rw [hs, if_pos rfl] at h
        have hs2 := hs
        unfold stb at hs2
        rw [Bool.and_eq_true, if_pos hk4] at hs2
        obtain ⟨ip, hip, hpiv⟩ := hw.2.2.2.2 b hb h0
        have hc := piv (p := P) hpiv
        have hc2 := piv (p := Q) hpiv
        have h2 := allB_iff.mp hs2.2 ip hip
        unfold sa1 at h2
        rw [Bool.and_eq_true, hc.1, hc.2] at h2
        obtain ⟨q, e1, e2, e3⟩ := pb_cell hw hP hk4 (fr_in h2.1).1
        have : q = Q := by omega
        subst this
        have e4 := e3 b ip
        rw [hc.1, hc.2, hc2.1, hc2.2] at e4
        have hin := (plc_in hs2.1 hip).1
        rw [hc.1, hc.2] at hin
        unfold bfI
        have hpb : pbI q (rk k) = (P : Int) := by
          rw [pbr]
          rw [pbk] at h
          omega
        rw [if_neg (fun z => z.2 (by rw [hd.1, hd.2, e4.1, e4.2, Int.add_neg_cancel_right, Int.add_neg_cancel_right]; exact hin)), hpb, show ((P : Int)).toNat = P by omega, hs, if_pos rfl]
  · have hkk : k = 4 ∨ k = 5 := by omega
    have e1 : pbI P k = (Q : Int) ↔ pbI Q (rk k) = (P : Int) := by
      unfold pbI rk
      rcases hkk with h | h
      · subst h; simp; omega
      · subst h; simp; omega
    unfold bfI nxb
    rw [if_neg (fun z => hk4 z.1)]
    constructor
    · intro h
      split at h
      · rename_i h2
        rw [h, show ((P : Int)).toNat = P by omega] at h2
        rw [h2, if_pos rfl]
        exact e1.mpr h
      · omega
    · intro h
      split at h
      · rename_i h2
        rw [e1.mp h, show ((P : Int)).toNat = P by omega, h2, if_pos rfl]
      · omega
theorem bf_bd {g : Lv} (hw : wfL g) {b Q k : Nat} (hQ : Q < 256) (hk : k < 6) : -1 ≤ bfI g b Q k ∧ bfI g b Q k < 256 := by
  unfold bfI
  split
  · omega
  · rename_i h
    split
    · have hr6 : rk k < 6 ∧ (rk k < 4 → k < 4) := by
        have : ∀ k, k < 6 → rk k < 6 ∧ (rk k < 4 → k < 4) := by decide
        exact this k hk
      obtain ⟨P, e1, e2⟩ := pb_rg hw hQ hr6.1 (fun h4 => Classical.byContradiction fun z => h ⟨hr6.2 h4, z⟩)
      omega
    · omega
