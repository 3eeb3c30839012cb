/-! the start, and all calls -/
def g00 : Lv := (3, 3, fun _ => 0, fun _ => 0, fun _ _ => 0, fun _ _ => 0)
theorem rel_0 : Rel S0X S0M := by
  have hok : okA g00 (fun _ => 0) := by
    refine ⟨fun b hb => ⟨by show 0 < 256; omega, fun _ => rfl, rfl⟩, fun b hb d hd hbd c hc => ?_⟩
    have : hasC g00 b 0 c = false := rfl
    rw [this] at hc
    cases hc.1
  refine ⟨g00, fun _ => 0, fun _ => 1, 45, fun _ => 0, fun _ => 0, fun _ => 0, fun _ _ => 0, fun _ => 0, ⟨⟨by decide, fun _ => by show 0 ≤ 13; omega, fun _ => by show 0 ≤ 5; omega, fun _ _ => by show (-7 : Int) ≤ 0 ∧ (0 : Int) ≤ 7 ∧ (-7 : Int) ≤ 0 ∧ (0 : Int) ≤ 7; omega, fun b hb hn => absurd hn (Nat.lt_irrefl 0)⟩, fun _ => by show 1 ≤ 45; omega, fun _ => by show 0 ≤ 9; omega, by omega, fun _ => by show (-1 : Int) ≤ 0 ∧ (0 : Int) < 100 ∧ (-1 : Int) ≤ 0 ∧ (0 : Int) < 100 ∧ (-1 : Int) ≤ 0 ∧ (0 : Int) ≤ 4; omega, fun b hb hn => absurd hn (Nat.lt_irrefl 0)⟩, hok, ⟨⟨rfl, rfl, fun x y _ _ => rfl, fun q hq => ?_, fun q hq => ?_, fun k hk q hq => ?_, fun k hk q hq => ?_, fun k hk q hq => ?_⟩, fun b hb => ⟨(by decide +kernel : ∀ b, b < 5 → S0X.1 (5 + b) = zI (0 : Nat)) b hb, fun o ho i hi => absurd hi (Nat.not_lt_zero _), fun hn => absurd hn (Nat.lt_irrefl 0)⟩, fun b hb hn => absurd hn (Nat.lt_irrefl 0), (by decide +kernel : ∀ r, r < 4 → S0X.2.2.1 1 r = zI (1 : Nat)), rfl, fun b hb P hP => ?_⟩, ⟨⟨rfl, rfl, fun x y _ _ => rfl, fun b hb => rfl, fun b hb i hi => absurd hi (Nat.not_lt_zero _)⟩, (by decide +kernel : ∀ r, r < 4 → S0M.2.2.1 0 r = zI (1 : Nat)), fun b hb => rfl, rfl, fun b hb => ⟨rfl, rfl, rfl⟩, fun z => by cases z⟩, fun b hb => rfl, fun b hb hn => absurd hn (Nat.lt_irrefl 0), ⟨0, 0, fun _ => pkA (fun _ => 0), fun _ => 0, fun _ => 0, Nat.le_refl 0, by omega, rfl, rfl, rfl, rfl, rfl, fun k hk => ⟨rfl, (okA_pk hok).1, ?_⟩, fun k hk => absurd hk (Nat.not_lt_zero _), fun k => (by decide : 0 ≤ 45)⟩, ⟨0, fun _ => 0, by omega, rfl, fun i hi => ?_, fun i hi hb => ?_⟩, ⟨0, fun _ => 0, by omega, rfl, rfl, fun i hi => absurd hi (Nat.not_lt_zero _)⟩, Or.inl rfl⟩
  · show bit 0 q = (iny g00 q && (0 == 1))
    rw [bit_0]; simp
  · show bit 0 q = (iny g00 q && decide (2 ≤ 0 ∧ 0 ≤ 5))
    rw [bit_0]; simp
  · show bit 0 q = (iny g00 q && (0 == 2 + k))
    rw [bit_0, show ((0 : Nat) == 2 + k) = false by simp; omega]; simp
  · show bit 0 q = (iny g00 q && (0 == 6 + k))
    rw [bit_0, show ((0 : Nat) == 6 + k) = false by simp; omega]; simp
  · show bit 0 q = (iny g00 q && (0 == 10 + k))
    rw [bit_0, show ((0 : Nat) == 10 + k) = false by simp; omega]; simp
  · show S0X.2.2.1 (14 + b) P = zI (if 0 < gN g00 b ∧ (0 : Int) ≤ 0 then 0 else 0)
    rw [if_neg (fun z => absurd z.1 (Nat.lt_irrefl 0))]
    show (if 14 + b = 1 then (fil 4 1 (fun _ => 0)) else (fun _ => (0 : Int32))) P = zI 0
    rw [if_neg (by omega)]
    rfl
  · have : k = 0 := by omega
    subst this
    rfl
  · rw [Nat.zero_testBit]; rfl
  · rw [Nat.zero_testBit] at hb; cases hb
theorem keeps_all {N : Nat} (hN : 3000 ≤ N) : Keeps N Rel :=
  ⟨k_type, k_clearText, k_readLevel hN, k_readMoves hN, k_size hN, k_cell, k_blockAt hN, k_block, k_setWeight, k_setGoal hN, k_clearGoal, k_setThreshold, k_setStrength, k_load hN, k_isOpen hN, k_moved hN, k_move hN, k_possibleCount hN, k_possible hN, k_undo hN, k_redo hN, k_moveAt, k_effort hN, k_save hN, k_restore hN, k_isSolved hN, k_isDead hN, k_deadCount hN, k_distance hN, k_lowerBound hN, k_solve hN, k_solution hN, k_reachable hN⟩
