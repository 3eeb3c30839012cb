/-! numbers: an Int32 as the image of an integer -/
def zI (z : Int) : Int32 := Int32.ofInt z
theorem zA (a b : Int) : zI a + zI b = zI (a + b) := (Int32.ofInt_add a b).symm
theorem zS (a b : Int) : zI a - zI b = zI (a - b) := (Int32.ofInt_sub a b).symm
theorem zM (a b : Int) : zI a * zI b = zI (a * b) := (Int32.ofInt_mul a b).symm
theorem zN (a : Int) : -zI a = zI (-a) := (Int32.ofInt_neg a).symm
theorem z_int {a : Int} (h1 : -2147483648 ≤ a) (h2 : a < 2147483648) : (zI a).toInt = a := Int32.toInt_ofInt_of_le (by omega) (by omega)
theorem z_toInt (x : Int32) : zI x.toInt = x := Int32.ofInt_toInt x
theorem z_ex (x : Int32) : ∃ a : Int, x = zI a ∧ -2147483648 ≤ a ∧ a < 2147483648 := ⟨x.toInt, (z_toInt x).symm, by have := x.le_toInt; omega, by have := x.toInt_lt; omega⟩
theorem z_lt {a b : Int} (h1 : -2147483648 ≤ a ∧ a < 2147483648) (h2 : -2147483648 ≤ b ∧ b < 2147483648) : (zI a < zI b) = (a < b) := by
  rw [Int32.lt_iff_toInt_lt, z_int h1.1 h1.2, z_int h2.1 h2.2]
theorem z_le {a b : Int} (h1 : -2147483648 ≤ a ∧ a < 2147483648) (h2 : -2147483648 ≤ b ∧ b < 2147483648) : (zI a ≤ zI b) = (a ≤ b) := by
  rw [Int32.le_iff_toInt_le, z_int h1.1 h1.2, z_int h2.1 h2.2]
theorem z_eq {a b : Int} (h1 : -2147483648 ≤ a ∧ a < 2147483648) (h2 : -2147483648 ≤ b ∧ b < 2147483648) : (zI a = zI b) = (a = b) := by
  rw [← Int32.toInt_inj, z_int h1.1 h1.2, z_int h2.1 h2.2]
theorem z_cl {a : Int} (h1 : 0 ≤ a) (h2 : a < 2147483648) : (zI a).toNatClampNeg = a.toNat := Int32.toNatClampNeg_ofInt_of_le (by omega) (by omega)
theorem z_in {a : Int} {n : Nat} (h1 : 0 ≤ a) (h2 : a < n) (h3 : a < 2147483648) : vp_in (zI a) n := by
  rw [vp_in_iff, z_int (by omega) h3]
  omega
theorem ck_z {β : Type} {a : Int} {n : Nat} {E : Option β} (h1 : 0 ≤ a) (h2 : a < n) (h3 : a < 2147483648) : ck (zI a) n E = E := ck_pos (z_in h1 h2 h3)
theorem z_nI (n : Nat) : zI (n : Int) = nI n := Int32.ofInt_eq_ofNat
theorem bd_ok {α β : Type} (a : α) (S : St) (f : α → St → Option β) : bd (some (a, S)) f = f a S := rfl
theorem stp_ok {β : Type} (S : St) (f : St → Option β) : stp S f = f S := rfl
theorem nm_ok {α β : Type} (x : α) (f : α → Option β) : nm x f = f x := rfl
theorem b2i_t : b2i true = zI 1 := rfl
theorem b2i_f : b2i false = zI 0 := rfl
theorem b2i_0 (b : Bool) : (b2i b = zI 0) = (b = false) := by cases b <;> simp [b2i, show (zI 0) = 0 from rfl]
theorem z_div {a b : Int} (h1 : 0 ≤ a) (h2 : a < 2147483648) (h3 : 0 < b) (h4 : b < 2147483648) : zI a / zI b = zI (a / b) := by
  have h : Int32.ofInt (a.tdiv b) = Int32.ofInt a / Int32.ofInt b := Int32.ofInt_tdiv (by show (-2147483648 : Int) ≤ a; omega) (by show a ≤ 2147483647; omega) (by show (-2147483648 : Int) ≤ b; omega) (by show b ≤ 2147483647; omega)
  rw [zI, zI, ← h, Int.tdiv_eq_ediv_of_nonneg h1]
  rfl
theorem z_rem {a b : Int} (h1 : 0 ≤ a) (h2 : a < 2147483648) (h3 : 0 < b) (h4 : b < 2147483648) : zI a - zI a / zI b * zI b = zI (a % b) := by
  rw [z_div h1 h2 h3 h4, zM, zS]
  congr 1
  have := Int.mul_ediv_add_emod a b
  rw [Int.mul_comm] at this
  omega
/-! literals -/
theorem zl0 : (0 : Int32) = zI 0 := rfl
theorem zl1 : (1 : Int32) = zI 1 := rfl
theorem zl2 : (2 : Int32) = zI 2 := rfl
theorem zl3 : (3 : Int32) = zI 3 := rfl
theorem zl4 : (4 : Int32) = zI 4 := rfl
theorem zl5 : (5 : Int32) = zI 5 := rfl
theorem zl6 : (6 : Int32) = zI 6 := rfl
theorem zl7 : (7 : Int32) = zI 7 := rfl
theorem zl8 : (8 : Int32) = zI 8 := rfl
theorem zl9 : (9 : Int32) = zI 9 := rfl
theorem zl10 : (10 : Int32) = zI 10 := rfl
theorem zl14 : (14 : Int32) = zI 14 := rfl
theorem zl31 : (31 : Int32) = zI 31 := rfl
theorem zl45 : (45 : Int32) = zI 45 := rfl
theorem zl63 : (63 : Int32) = zI 63 := rfl
theorem zl64 : (64 : Int32) = zI 64 := rfl
theorem zl80 : (80 : Int32) = zI 80 := rfl
theorem zl100 : (100 : Int32) = zI 100 := rfl
theorem zl192 : (192 : Int32) = zI 192 := rfl
theorem zl200 : (200 : Int32) = zI 200 := rfl
theorem zl255 : (255 : Int32) = zI 255 := rfl
theorem zl256 : (256 : Int32) = zI 256 := rfl
theorem zl1200 : (1200 : Int32) = zI 1200 := rfl
theorem zl2000 : (2000 : Int32) = zI 2000 := rfl
theorem zlm1 : (-1 : Int32) = zI (-1) := rfl
theorem zlm2 : (-2 : Int32) = zI (-2) := rfl
theorem zlm3 : (-3 : Int32) = zI (-3) := rfl
theorem zlm4 : (-4 : Int32) = zI (-4) := rfl
theorem zlm5 : (-5 : Int32) = zI (-5) := rfl
theorem zlm6 : (-6 : Int32) = zI (-6) := rfl
theorem zlm7 : (-7 : Int32) = zI (-7) := rfl
theorem zlm100 : (-100 : Int32) = zI (-100) := rfl
/-! what is read behind a write -/
theorem sI_I (S : St) (k : Nat) (v : Int32) (j : Nat) : (sI S k v).1 j = if j = k then v else S.1 j := rfl
theorem sI_J (S : St) (k : Nat) (v : Int32) : (sI S k v).2.1 = S.2.1 := rfl
theorem sI_A (S : St) (k : Nat) (v : Int32) : (sI S k v).2.2.1 = S.2.2.1 := rfl
theorem sI_L (S : St) (k : Nat) (v : Int32) : (sI S k v).2.2.2 = S.2.2.2 := rfl
theorem sJ_I (S : St) (k : Nat) (v : Int64) : (sJ S k v).1 = S.1 := rfl
theorem sJ_J (S : St) (k : Nat) (v : Int64) (j : Nat) : (sJ S k v).2.1 j = if j = k then v else S.2.1 j := rfl
theorem sJ_A (S : St) (k : Nat) (v : Int64) : (sJ S k v).2.2.1 = S.2.2.1 := rfl
theorem sJ_L (S : St) (k : Nat) (v : Int64) : (sJ S k v).2.2.2 = S.2.2.2 := rfl
theorem fA_I (S : St) (k : Nat) (f : Nat → Int32) : (fA S k f).1 = S.1 := rfl
theorem fA_J (S : St) (k : Nat) (f : Nat → Int32) : (fA S k f).2.1 = S.2.1 := rfl
theorem fA_A (S : St) (k : Nat) (f : Nat → Int32) (j : Nat) : (fA S k f).2.2.1 j = if j = k then f else S.2.2.1 j := rfl
theorem fA_L (S : St) (k : Nat) (f : Nat → Int32) : (fA S k f).2.2.2 = S.2.2.2 := rfl
theorem fL_I (S : St) (k : Nat) (f : Nat → Int64) : (fL S k f).1 = S.1 := rfl
theorem fL_J (S : St) (k : Nat) (f : Nat → Int64) : (fL S k f).2.1 = S.2.1 := rfl
theorem fL_A (S : St) (k : Nat) (f : Nat → Int64) : (fL S k f).2.2.1 = S.2.2.1 := rfl
theorem fL_L (S : St) (k : Nat) (f : Nat → Int64) (j : Nat) : (fL S k f).2.2.2 j = if j = k then f else S.2.2.2 j := rfl
theorem sA_d (S : St) (k i : Nat) (v : Int32) : sA S k i v = fA S k (upd (S.2.2.1 k) i v) := rfl
theorem sL_d (S : St) (k i : Nat) (v : Int64) : sL S k i v = fL S k (vp_updL (S.2.2.2 k) i v) := rfl
theorem upd_s (f : Nat → Int32) (k : Nat) (v : Int32) : upd f k v k = v := if_pos rfl
theorem upd_n (f : Nat → Int32) {k j : Nat} (v : Int32) (h : j ≠ k) : upd f k v j = f j := if_neg h
theorem updL_s (f : Nat → Int64) (k : Nat) (v : Int64) : vp_updL f k v k = v := if_pos rfl
theorem updL_n (f : Nat → Int64) {k j : Nat} (v : Int64) (h : j ≠ k) : vp_updL f k v j = f j := if_neg h
/-! one bit of a set that is an Int32 -/
theorem z_bit {s b : Nat} (hs : s < 65536) (hb : b < 16) : (zI s >>> (zI b &&& zI 31)) &&& zI 1 = zI ((s / 2 ^ b % 2 : Nat)) := by
  have h1 : zI (b : Int) &&& zI 31 = nI b := by
    rw [z_nI]
    exact (by decide +kernel : ∀ b, b < 16 → nI b &&& 31 = nI b) b hb
  rw [h1, z_nI, pk_shrN (by omega) (nI b) b ((by decide +kernel : ∀ b, b < 16 → ((nI b).toBitVec.smod 32).toNat = b) b hb), show zI 1 = 1 from rfl, pk_andN (Nat.lt_of_le_of_lt (Nat.div_le_self _ _) (by omega)) 1 rfl, z_nI]
theorem z_one {b : Nat} (hb : b < 16) : zI 1 <<< (zI b &&& zI 31) = zI ((2 ^ b : Nat)) := by
  rw [z_nI, z_nI]
  exact (by decide +kernel : ∀ b, b < 16 → (1 : Int32) <<< (nI b &&& 31) = nI (2 ^ b)) b hb
theorem z_or {a b : Nat} : zI (a : Int) ||| zI (b : Int) = zI ((a ||| b : Nat)) := by
  rw [z_nI, z_nI, z_nI]
  apply Int32.toBitVec_inj.1
  show BitVec.ofNat 32 a ||| BitVec.ofNat 32 b = BitVec.ofNat 32 (a ||| b)
  apply BitVec.eq_of_getLsbD_eq
  intro i hi
  simp [hi]
/-! conditions of a mirror, as conditions on integers -/
theorem i_lt {β : Type} {a b : Int} (h1 : -2147483648 ≤ a ∧ a < 2147483648) (h2 : -2147483648 ≤ b ∧ b < 2147483648) (E1 E2 : β) : (if zI a < zI b then E1 else E2) = if a < b then E1 else E2 := by
  by_cases h : a < b
  · rw [if_pos h, if_pos (by rw [z_lt h1 h2]; exact h)]
  · rw [if_neg h, if_neg (by rw [z_lt h1 h2]; exact h)]
theorem i_le {β : Type} {a b : Int} (h1 : -2147483648 ≤ a ∧ a < 2147483648) (h2 : -2147483648 ≤ b ∧ b < 2147483648) (E1 E2 : β) : (if zI a ≤ zI b then E1 else E2) = if a ≤ b then E1 else E2 := by
  by_cases h : a ≤ b
  · rw [if_pos h, if_pos (by rw [z_le h1 h2]; exact h)]
  · rw [if_neg h, if_neg (by rw [z_le h1 h2]; exact h)]
theorem i_eq {β : Type} {a b : Int} (h1 : -2147483648 ≤ a ∧ a < 2147483648) (h2 : -2147483648 ≤ b ∧ b < 2147483648) (E1 E2 : β) : (if zI a = zI b then E1 else E2) = if a = b then E1 else E2 := by
  by_cases h : a = b
  · rw [if_pos h, if_pos (by rw [z_eq h1 h2]; exact h)]
  · rw [if_neg h, if_neg (by rw [z_eq h1 h2]; exact h)]
theorem i_b {β : Type} (b : Bool) (E1 E2 : β) : (if b2i b = zI 0 then E1 else E2) = if b = true then E2 else E1 := by
  cases b
  · rfl
  · rw [if_neg (by rw [b2i_0]; simp), if_pos rfl]
theorem i_d {β : Type} (P : Prop) [Decidable P] (E1 E2 : β) : (if b2i (decide P) = zI 0 then E1 else E2) = if P then E2 else E1 := by
  rw [i_b]
  by_cases h : P
  · simp [h]
  · simp [h]
