/-! longs by their bits -/
def bit (w : Int64) (c : Nat) : Bool := w.toBitVec.getLsbD c
theorem bit_or (a b : Int64) (c : Nat) : bit (a ||| b) c = (bit a c || bit b c) := by unfold bit; rw [Int64.toBitVec_or, BitVec.getLsbD_or]
theorem bit_and (a b : Int64) (c : Nat) : bit (a &&& b) c = (bit a c && bit b c) := by unfold bit; rw [Int64.toBitVec_and, BitVec.getLsbD_and]
theorem bit_not (a : Int64) {c : Nat} (hc : c < 64) : bit (a ^^^ (-1)) c = !bit a c := by
  unfold bit
  have ha : (-1 : Int64).toBitVec = BitVec.allOnes 64 := by decide
  rw [Int64.toBitVec_xor, BitVec.getLsbD_xor, ha, BitVec.getLsbD_allOnes, decide_eq_true hc, Bool.xor_true]
theorem bit_0 (c : Nat) : bit 0 c = false := BitVec.getLsbD_zero
theorem bit_ge (w : Int64) {c : Nat} (h : 64 ≤ c) : bit w c = false := BitVec.getLsbD_of_ge _ _ h
theorem bit_ext {a b : Int64} (h : ∀ c, c < 64 → bit a c = bit b c) : a = b := Int64.toBitVec_inj.mp (BitVec.eq_of_getLsbD_eq (fun i hi => h i hi))
theorem bit_zero {w : Int64} : w = 0 ↔ ∀ c, c < 64 → bit w c = false := ⟨fun h c _ => by rw [h]; exact bit_0 c, fun h => bit_ext fun c hc => by rw [h c hc, bit_0]⟩
theorem amtL : ∀ c : Nat, c < 64 → (((zI (c : Int)).toInt64 &&& 63).toBitVec.smod 64).toNat = c := by decide +kernel
theorem amtR : ∀ c : Nat, c < 64 → ((zI (c : Int)).toInt64.toUInt64 &&& Int64.toUInt64 63).toNat = c := by decide +kernel
theorem bit_shl (w : Int64) {n c : Nat} (hn : n < 64) (hc : c < 64) : bit (w <<< ((zI (n : Int)).toInt64 &&& 63)) c = (decide (n ≤ c) && bit w (c - n)) := by
  unfold bit
  rw [Int64.toBitVec_shiftLeft]
  show (w.toBitVec <<< (((zI (n : Int)).toInt64 &&& 63).toBitVec.smod 64).toNat).getLsbD c = _
  rw [amtL n hn, BitVec.getLsbD_shiftLeft]
  rcases Nat.lt_or_ge c n with h | h
  · simp [h, Nat.not_le.mpr h]
  · simp [hc, h, Nat.not_lt.mpr h]
theorem bit_shr (w : Int64) {n : Nat} (hn : n < 64) (c : Nat) : bit ((w.toUInt64 >>> ((zI (n : Int)).toInt64.toUInt64 &&& Int64.toUInt64 63)).toInt64) c = bit w (n + c) := by
  have e : (w.toUInt64 >>> ((zI (n : Int)).toInt64.toUInt64 &&& Int64.toUInt64 63)).toInt64.toBitVec = w.toBitVec >>> n := by
    apply BitVec.eq_of_toNat_eq
    show (w.toUInt64 >>> ((zI (n : Int)).toInt64.toUInt64 &&& Int64.toUInt64 63)).toNat = _
    rw [UInt64.toNat_shiftRight, amtR n hn, Nat.mod_eq_of_lt hn, BitVec.toNat_ushiftRight]
    rfl
  unfold bit
  rw [e, BitVec.getLsbD_ushiftRight]
theorem bit_1 (c : Nat) : bit 1 c = decide (c = 0) := by
  rcases Nat.lt_or_ge c 64 with h | h
  · exact (by decide +kernel : ∀ c, c < 64 → bit 1 c = decide (c = 0)) c h
  · rw [bit_ge _ h, decide_eq_false (by omega)]
theorem bit_one {n c : Nat} (hn : n < 64) (hc : c < 64) : bit ((1 : Int64) <<< ((zI (n : Int)).toInt64 &&& 63)) c = decide (c = n) := by
  rw [bit_shl 1 hn hc, bit_1]
  by_cases h : c = n
  · subst h; simp
  · by_cases h2 : n ≤ c
    · rw [decide_eq_true h2, decide_eq_false (by omega), decide_eq_false h]; rfl
    · rw [decide_eq_false h2, decide_eq_false h]; rfl
theorem lcmp0 (w : Int64) : (lg_cmp w 0 = 0) = (w = 0) := by
  unfold lg_cmp
  by_cases h : w = 0
  · subst h; simp
  · by_cases h2 : w > 0
    · rw [if_pos h2]; simp [h]
    · rw [if_neg h2, if_neg h]; simp [h]
theorem i_l0 {β : Type} (w : Int64) (E1 E2 : β) : (if lg_cmp w 0 = 0 then E1 else E2) = if w = 0 then E1 else E2 := by
  by_cases h : w = 0
  · rw [if_pos h, if_pos (by rw [lcmp0]; exact h)]
  · rw [if_neg h, if_neg (by rw [lcmp0]; exact h)]
theorem i_l0z {β : Type} (w : Int64) (E1 E2 : β) : (if lg_cmp w 0 = zI 0 then E1 else E2) = if w = 0 then E1 else E2 := i_l0 w E1 E2
/-! an arrangement in a long: eight bits a block -/
def upk (v b : Nat) : Nat := v / 2 ^ (8 * b) % 2 ^ 8
def enc (p : Nat → Nat) (v : Nat) : Prop := v < 2 ^ 40 ∧ ∀ b, b < 5 → upk v b = p b
theorem upk_lt (v b : Nat) : upk v b < 256 := Nat.mod_lt _ (by decide)
theorem upk_bit (v b i : Nat) : (upk v b).testBit i = (decide (i < 8) && v.testBit (i + 8 * b)) := by
  unfold upk
  rw [Nat.testBit_mod_two_pow, Nat.testBit_div_two_pow]
theorem enc_inj {v w : Nat} (hv : v < 2 ^ 40) (hw : w < 2 ^ 40) (h : ∀ b, b < 5 → upk v b = upk w b) : v = w := by
  apply Nat.eq_of_testBit_eq
  intro i
  rcases Nat.lt_or_ge i 40 with q | q
  · have h1 := congrArg (fun x => x.testBit (i % 8)) (h (i / 8) (by omega))
    simp only [upk_bit] at h1
    rw [decide_eq_true (by omega : i % 8 < 8), Bool.true_and, Bool.true_and, show i % 8 + 8 * (i / 8) = i by omega] at h1
    exact h1
  · rw [Nat.testBit_lt_two_pow (Nat.lt_of_lt_of_le hv (Nat.pow_le_pow_right (by omega) q)), Nat.testBit_lt_two_pow (Nat.lt_of_lt_of_le hw (Nat.pow_le_pow_right (by omega) q))]
theorem bit_lN {n : Nat} (hn : n < 2 ^ 64) (c : Nat) : bit (lN n) c = n.testBit c := by
  unfold bit
  show (BitVec.ofNat 64 n).getLsbD c = _
  rw [BitVec.getLsbD_ofNat]
  rcases Nat.lt_or_ge c 64 with h | h
  · rw [decide_eq_true h, Bool.true_and]
  · rw [decide_eq_false (by omega), Bool.false_and, Nat.testBit_lt_two_pow (Nat.lt_of_lt_of_le hn (Nat.pow_le_pow_right (by omega) h))]
theorem bt_i (x : Int64) {i : Nat} (hi : i < 32) : x.toInt32.toBitVec.getLsbD i = bit x i := by
  unfold bit
  rw [Int64.toBitVec_toInt32, BitVec.getLsbD_signExtend]
  simp [hi, show i < 64 by omega]
theorem zI_bv {n : Nat} (hn : n < 2 ^ 31) : (zI (n : Int)).toBitVec = BitVec.ofNat 32 n := by
  rw [z_nI]
  rfl
theorem x_placementIn {N v b : Nat} {X : St} (hv : v < 2 ^ 40) (hb : b < 5) : fX8_placementIn N (lN v) (zI b) X = some (zI (upk v b : Nat), X) := by
  unfold fX8_placementIn
  congr 2
  rw [zl8, zM, show (8 * (b : Int)) = ((8 * b : Nat) : Int) by omega]
  apply Int32.toBitVec_inj.mp
  apply BitVec.eq_of_getLsbD_eq
  intro i hi
  rw [Int32.toBitVec_and, BitVec.getLsbD_and, bt_i _ hi, bit_shr (lN v) (by omega) i, bit_lN (by omega), zI_bv (Nat.lt_trans (upk_lt v b) (by decide)), BitVec.getLsbD_ofNat, decide_eq_true hi, Bool.true_and, upk_bit, show (255 : Int32).toBitVec = 255#32 from rfl]
  have : ∀ i, i < 32 → (255#32).getLsbD i = decide (i < 8) := by decide +kernel
  rw [this i hi, Bool.and_comm, Nat.add_comm]
theorem i2l_bv {n : Nat} (hn : n < 2 ^ 31) : (zI (n : Int)).toInt64 = lN n := by
  rw [z_nI]
  exact nI_l hn
theorem x_withPlacement {N v b q : Nat} {X : St} (hv : v < 2 ^ 40) (hb : b < 5) (hq : q < 256) : ∃ w, fX8_withPlacement N (lN v) (zI b) (zI q) X = some (lN w, X) ∧ w < 2 ^ 40 ∧ ∀ j, j < 5 → upk w j = if j = b then q else upk v j := by
  have h255 : ∀ i, i < 64 → bit (255 : Int64) i = decide (i < 8) := by decide +kernel
  obtain ⟨W, hW⟩ : ∃ W : Int64, W = ((lN v &&& (((255 : Int64) <<< ((zI (((8 * b : Nat)) : Int)).toInt64 &&& 63)) ^^^ (-1))) ||| ((lN q) <<< ((zI (((8 * b : Nat)) : Int)).toInt64 &&& 63))) := ⟨_, rfl⟩
  have hbit : ∀ c, c < 64 → bit W c = ((v.testBit c && !(decide (8 * b ≤ c) && decide (c - 8 * b < 8))) || (decide (8 * b ≤ c) && q.testBit (c - 8 * b))) := by
    intro c hc
    rw [hW, bit_or, bit_and, bit_not _ hc, bit_shl _ (by omega) hc, bit_shl _ (by omega) hc, bit_lN (by omega), bit_lN (by omega), h255 _ (by omega)]
  have hq8 : ∀ i, 8 ≤ i → q.testBit i = false := fun i hi => Nat.testBit_lt_two_pow (Nat.lt_of_lt_of_le hq (Nat.pow_le_pow_right (n := 2) (i := 8) (by omega) hi))
  have hWn : W = lN W.toBitVec.toNat := by
    apply Int64.toBitVec_inj.mp
    show _ = BitVec.ofNat 64 _
    simp
  have htb : ∀ c, c < 64 → W.toBitVec.toNat.testBit c = bit W c := fun c hc => rfl
  have hlt : W.toBitVec.toNat < 2 ^ 40 := by
    apply Nat.lt_pow_two_of_testBit
    intro i hi
    rcases Nat.lt_or_ge i 64 with h | h
    · rw [htb i h, hbit i h, Nat.testBit_lt_two_pow (Nat.lt_of_lt_of_le hv (Nat.pow_le_pow_right (by omega) hi)), hq8 (i - 8 * b) (by omega)]
      simp
    · exact Nat.testBit_lt_two_pow (Nat.lt_of_lt_of_le W.toBitVec.isLt (Nat.pow_le_pow_right (by omega) h))
  refine ⟨W.toBitVec.toNat, ?_, hlt, fun j hj => ?_⟩
  · unfold fX8_withPlacement
    rw [zl8, zM, show (8 * (b : Int)) = ((8 * b : Nat) : Int) by omega, nm_ok, i2l_bv (n := q) (by omega), ← hWn, hW]
  · apply Nat.eq_of_testBit_eq
    intro i
    rw [upk_bit]
    rcases Nat.lt_or_ge i 8 with h | h
    · rw [decide_eq_true h, Bool.true_and, htb _ (by omega), hbit _ (by omega)]
      by_cases hjb : j = b
      · subst hjb
        rw [if_pos rfl, decide_eq_true (by omega), decide_eq_true (by omega), show i + 8 * j - 8 * j = i by omega]
        simp
      · rw [if_neg hjb, upk_bit, decide_eq_true h, Bool.true_and]
        by_cases h2 : 8 * b ≤ i + 8 * j
        · rw [decide_eq_true h2, decide_eq_false (by omega), hq8 _ (by omega)]
          simp
        · rw [decide_eq_false h2]
          simp
    · rw [decide_eq_false (by omega), Bool.false_and]
      by_cases hjb : j = b
      · rw [if_pos hjb, hq8 i h]
      · rw [if_neg hjb, upk_bit, decide_eq_false (by omega), Bool.false_and]
/-! fields of a placement -/
theorem x_columnOf {N p : Nat} {X : St} (hp : p < 256) : fX8_columnOf N (zI p) X = some (zI ((p % 8 : Nat)), X) := by
  unfold fX8_columnOf
  rw [z_nI, z_nI]
  congr 2
  exact (by decide +kernel : ∀ p, p < 256 → nI p &&& 7 = nI (p % 8)) p hp
theorem x_rowOf {N p : Nat} {X : St} (hp : p < 256) : fX8_rowOf N (zI p) X = some (zI ((p / 8 % 8 : Nat)), X) := by
  unfold fX8_rowOf
  rw [z_nI, z_nI]
  congr 2
  exact (by decide +kernel : ∀ p, p < 256 → (nI p >>> (3 &&& 31)) &&& 7 = nI (p / 8 % 8)) p hp
theorem x_orientationOf {N p : Nat} {X : St} (hp : p < 256) : fX8_orientationOf N (zI p) X = some (zI ((p / 64 : Nat)), X) := by
  unfold fX8_orientationOf
  rw [z_nI, z_nI]
  congr 2
  exact (by decide +kernel : ∀ p, p < 256 → (nI p >>> (6 &&& 31)) &&& 3 = nI (p / 64)) p hp
theorem x_holds {N c : Nat} {w : Int64} {X : St} (hc : c < 64) : fX8_holds N w (zI c) X = some (bit w c, X) := by
  unfold fX8_holds fX8_holds_15
  rw [i_l0]
  have h : (((w.toUInt64 >>> ((zI (c : Int)).toInt64.toUInt64 &&& Int64.toUInt64 63)).toInt64 &&& 1) = 0) ↔ bit w c = false := by
    rw [bit_zero]
    constructor
    · intro h
      have := h 0 (by omega)
      rw [bit_and, bit_shr w hc, bit_1] at this
      simpa using this
    · intro h i hi
      rw [bit_and, bit_shr w hc, bit_1]
      by_cases h0 : i = 0
      · subst h0; simp [h]
      · simp [h0]
  cases hb : bit w c
  · rw [if_pos (h.mpr hb)]
  · rw [if_neg (fun z => by rw [h.mp z] at hb; cases hb)]
