/-! the signs, on both sides -/
theorem plf_none {t : Nat → Nat} {c : Nat} (h : ∀ k, t k ≠ c) : ∀ d k, plf t c d k = -1 := by
  intro d
  induction d with
  | zero => intro k; rfl
  | succ d ih => intro k; unfold plf; rw [if_neg (h k)]; exact ih (k + 1)
theorem tg_lt (k : Nat) : tg k < 128 := by
  unfold tg
  split <;> omega
theorem tg_ok : ∀ k, k < 14 → tGR k = zI (tg k : Nat) := by decide +kernel
def mk1 (c : Nat) : Int := if c < 48 ∨ 51 < c then (if c < 119 ∨ 122 < c then (if c = 46 then 0 else if bo c < 0 then (if c = 35 then 1 else if c = 62 then 2 else if c = 118 then 3 else if c = 60 then 4 else if c = 94 then 5 else -1) else 0) else 10 + (c : Int) - 119) else 6 + (c : Int) - 48
theorem mk1_eq (c : Nat) : mk1 c = kd1 c := by
  by_cases h : c < 128
  · exact (by decide +kernel : ∀ c, c < 128 → mk1 c = kd1 c) c h
  · have hb : bo c = -1 := by unfold bo; rw [if_neg (by omega), if_neg (by omega)]
    have hg : grd c = -1 := plf_none (fun k z => by have := tg_lt k; omega) 14 0
    unfold mk1 kd1
    rw [hb, hg, if_pos (by omega), if_pos (by omega), if_neg (by omega), if_pos (by decide), if_neg (by omega), if_neg (by omega), if_neg (by omega), if_neg (by omega), if_neg (by omega), if_neg (by decide)]
theorem x_isPivot {N c : Nat} {X : St} (hc : c < 65536) : fX3_isPivot N (zI (c : Nat)) X = some (isP c, X) := by
  unfold fX3_isPivot fX3_isPivot_16 fX3_isPivot_17 isP
  rw [show (65 : Int32) = zI 65 from rfl, show (70 : Int32) = zI 70 from rfl, i_lt (by omega) (by omega), i_le (by omega) (by omega)]
  by_cases h1 : (c : Int) < 65
  · rw [if_pos h1, decide_eq_false (by omega)]
  · rw [if_neg h1]
    by_cases h2 : (70 : Int) ≤ (c : Int)
    · rw [if_pos h2, decide_eq_false (by omega)]
    · rw [if_neg h2, decide_eq_true (by omega)]
theorem x_blockOf {N c : Nat} {X : St} (hc : c < 65536) : fX3_blockOf N (zI (c : Nat)) X = some (zI (bo c), X) := by
  unfold fX3_blockOf fX3_blockOf_31 fX3_blockOf_32 bo
  rw [x_isPivot hc, bd_ok, zl0, i_b, show (97 : Int32) = zI 97 from rfl, show (102 : Int32) = zI 102 from rfl, show (65 : Int32) = zI 65 from rfl, i_lt (by omega) (by omega), i_le (by omega) (by omega), zS, zS]
  unfold isP
  by_cases h : 65 ≤ c ∧ c < 70
  · rw [decide_eq_true h, if_pos rfl, if_pos h]
  · rw [decide_eq_false h, if_neg (c := false = true) (by simp), if_neg h]
    by_cases h1 : (c : Int) < 97
    · rw [if_pos h1, if_neg (by omega)]; rfl
    · rw [if_neg h1]
      by_cases h2 : (102 : Int) ≤ (c : Int)
      · rw [if_pos h2, if_neg (by omega)]; rfl
      · rw [if_neg h2, if_pos (by omega)]
theorem x_groundOf {N c : Nat} {X : St} (hN : 100 ≤ N) (hc : c < 65536) : fX3_groundOf N (zI (c : Nat)) X = some (zI (grd c), X) := by
  have main : ∀ (d k n : Nat), k + d = 14 → d < n → fX8_placeOf_GROUND_2 N n (zI (c : Nat)) (zI (k : Nat)) X = some (zI (plf tg c d k), X) := by
    intro d
    induction d with
    | zero =>
      intro k n hk hn
      obtain ⟨n, rfl⟩ : ∃ n', n = n' + 1 := ⟨n - 1, by omega⟩
      show fX8_placeOf_GROUND_2b N (fX8_placeOf_GROUND_2 N n) (zI (c : Nat)) (zI (k : Nat)) X = _
      unfold fX8_placeOf_GROUND_2b
      rw [show Int32.ofNat 14 = zI 14 from rfl, i_le (by omega) (by omega), if_pos (by omega)]
      rfl
    | succ d ih =>
      intro k n hk hn
      obtain ⟨n, rfl⟩ : ∃ n', n = n' + 1 := ⟨n - 1, by omega⟩
      have ht := tg_ok k (by omega)
      have ht2 := tg_lt k
      show fX8_placeOf_GROUND_2b N (fX8_placeOf_GROUND_2 N n) (zI (c : Nat)) (zI (k : Nat)) X = _
      unfold fX8_placeOf_GROUND_2b plf
      rw [show Int32.ofNat 14 = zI 14 from rfl, i_le (by omega) (by omega), if_neg (by omega), ck_z (by omega) (by omega) (by omega), z_cl (by omega) (by omega), show ((k : Int)).toNat = k by omega, ht, i_eq (by omega) (by omega), zl1, zA]
      by_cases he : tg k = c
      · rw [if_pos (by omega), if_pos he]
      · rw [if_neg (by omega), if_neg he]
        exact ih (k + 1) n (by omega) (by omega)
  unfold fX3_groundOf fX8_placeOf_GROUND
  rw [show fX8_placeOf_GROUND_2 N N (zI (c : Nat)) 0 X = _ from main 14 0 N (by omega) (by omega), bd_ok]
  rfl
theorem m_blockBy {N c : Nat} {M : St} (hc : c < 65536) : fX9_blockBy N (zI (c : Nat)) M = some (zI (bo c), M) := by
  unfold fX9_blockBy fX9_blockBy_19 fX9_blockBy_38 fX9_blockBy_39 bo
  rw [show (97 : Int32) = zI 97 from rfl, show (101 : Int32) = zI 101 from rfl, show (65 : Int32) = zI 65 from rfl, show (69 : Int32) = zI 69 from rfl, i_lt (by omega) (by omega), i_lt (by omega) (by omega), i_lt (by omega) (by omega), i_lt (by omega) (by omega), zS, zS, zlm1]
  by_cases h : 65 ≤ c ∧ c < 70
  · rw [if_pos (by omega), if_neg (by omega), if_neg (by omega), if_pos h]
  · rw [if_neg h]
    have e : (if (c : Int) < 65 then (some (zI (-1), M) : Option (Int32 × St)) else if (69 : Int) < (c : Int) then some (zI (-1), M) else some (zI ((c : Int) - 65), M)) = some (zI (-1), M) := by
      by_cases h1 : (c : Int) < 65
      · rw [if_pos h1]
      · rw [if_neg h1, if_pos (by omega)]
    rw [e]
    by_cases h1 : (c : Int) < 97
    · rw [if_pos h1, if_neg (by omega)]
    · rw [if_neg h1]
      by_cases h2 : (101 : Int) < (c : Int)
      · rw [if_pos h2, if_neg (by omega)]
      · rw [if_neg h2, if_pos (by omega)]
theorem m_kindBy {N c : Nat} {M : St} (hc : c < 65536) : fX9_kindBy N (zI (c : Nat)) M = some (zI (kd1 c), M) := by
  rw [← mk1_eq c]
  have hb := bo_bd c
  have e40 : fX9_kindBy_40 N (zI (c : Nat)) M = some (zI (if c = 46 then 0 else if bo c < 0 then (if c = 35 then 1 else if c = 62 then 2 else if c = 118 then 3 else if c = 60 then 4 else if c = 94 then 5 else -1) else 0), M) := by
    unfold fX9_kindBy_40 fX9_kindBy_53 fX9_kindBy_108
    rw [m_blockBy hc, bd_ok, show (46 : Int32) = zI 46 from rfl, show (35 : Int32) = zI 35 from rfl, show (62 : Int32) = zI 62 from rfl, show (118 : Int32) = zI 118 from rfl, show (60 : Int32) = zI 60 from rfl, show (94 : Int32) = zI 94 from rfl, zl0, i_eq (by omega) (by omega), i_lt (by omega) (by omega), i_eq (by omega) (by omega), i_eq (by omega) (by omega), i_eq (by omega) (by omega), i_eq (by omega) (by omega), i_eq (by omega) (by omega)]
    by_cases h1 : c = 46
    · rw [if_pos (by omega), if_pos h1]
    rw [if_neg (by omega), if_neg h1]
    by_cases h2 : bo c < 0
    · rw [if_pos h2, if_pos h2]
      by_cases h3 : c = 35
      · rw [if_pos (by omega), if_pos h3]; rfl
      rw [if_neg (by omega), if_neg h3]
      by_cases h4 : c = 62
      · rw [if_pos (by omega), if_pos h4]; rfl
      rw [if_neg (by omega), if_neg h4]
      by_cases h5 : c = 118
      · rw [if_pos (by omega), if_pos h5]; rfl
      rw [if_neg (by omega), if_neg h5]
      by_cases h6 : c = 60
      · rw [if_pos (by omega), if_pos h6]; rfl
      rw [if_neg (by omega), if_neg h6]
      by_cases h7 : c = 94
      · rw [if_pos (by omega), if_pos h7]; rfl
      rw [if_neg (by omega), if_neg h7]; rfl
    · rw [if_neg h2, if_neg h2]
  unfold fX9_kindBy fX9_kindBy_20 mk1
  rw [e40, show (48 : Int32) = zI 48 from rfl, show (51 : Int32) = zI 51 from rfl, show (119 : Int32) = zI 119 from rfl, show (122 : Int32) = zI 122 from rfl, show (10 : Int32) = zI 10 from rfl, show (6 : Int32) = zI 6 from rfl, i_lt (by omega) (by omega), i_lt (by omega) (by omega), i_lt (by omega) (by omega), i_lt (by omega) (by omega), zA, zS, zA, zS]
  generalize (if c = 46 then (0 : Int) else if bo c < 0 then (if c = 35 then 1 else if c = 62 then 2 else if c = 118 then 3 else if c = 60 then 4 else if c = 94 then 5 else -1) else 0) = w
  have e : (if (c : Int) < 119 then (some (zI w, M) : Option (Int32 × St)) else if (122 : Int) < (c : Int) then some (zI w, M) else some (zI (10 + (c : Int) - 119), M)) = some (zI (if c < 119 ∨ 122 < c then w else 10 + (c : Int) - 119), M) := by
    by_cases h1 : (c : Int) < 119
    · rw [if_pos h1, if_pos (by omega)]
    · rw [if_neg h1]
      by_cases h2 : (122 : Int) < (c : Int)
      · rw [if_pos h2, if_pos (by omega)]
      · rw [if_neg h2, if_neg (by omega)]
  rw [e]
  by_cases h1 : (c : Int) < 48
  · rw [if_pos h1, if_pos (c := c < 48 ∨ 51 < c) (by omega)]
  · rw [if_neg h1]
    by_cases h2 : (51 : Int) < (c : Int)
    · rw [if_pos h2, if_pos (c := c < 48 ∨ 51 < c) (by omega)]
    · rw [if_neg h2, if_neg (c := c < 48 ∨ 51 < c) (by omega)]
