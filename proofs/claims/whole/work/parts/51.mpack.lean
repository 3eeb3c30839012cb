/-! arrangements as one number, in the reference -/
theorem lN_div {v : Nat} (hv : v < 2 ^ 62) : lN v / 256 = lN (v / 256) := by
  have h : Int64.ofInt ((v : Int).tdiv 256) = Int64.ofInt (v : Int) / Int64.ofInt 256 := Int64.ofInt_tdiv (by show (-9223372036854775808 : Int) ≤ v; omega) (by show (v : Int) ≤ 9223372036854775807; omega) (by decide) (by decide)
  have e : ∀ n : Nat, lN n = Int64.ofInt (n : Int) := fun n => (Int64.ofInt_eq_ofNat).symm
  rw [e v, show (256 : Int64) = Int64.ofInt 256 from rfl, ← h, e, Int.tdiv_eq_ediv_of_nonneg (by omega)]
  rfl
theorem lN_rem {v : Nat} (hv : v < 2 ^ 62) : (lN v - lN v / 256 * 256).toInt32 = zI ((v % 256 : Nat)) := by
  rw [lN_div hv, show (256 : Int64) = lN 256 from rfl, lN_mul, lN_sub (by omega), lN_i, z_nI, show v - v / 256 * 256 = v % 256 by omega]
def pkA (p : Nat → Nat) : Nat := (((p 4 * 256 + p 3) * 256 + p 2) * 256 + p 1) * 256 + p 0
theorem pkA_enc {p : Nat → Nat} (h : ∀ b, b < 5 → p b < 256) : enc p (pkA p) := by
  have h0 := h 0 (by omega)
  have h1 := h 1 (by omega)
  have h2 := h 2 (by omega)
  have h3 := h 3 (by omega)
  have h4 := h 4 (by omega)
  unfold pkA
  refine ⟨by omega, fun b hb => ?_⟩
  have : b = 0 ∨ b = 1 ∨ b = 2 ∨ b = 3 ∨ b = 4 := by omega
  unfold upk
  rcases this with e | e | e | e | e <;> subst e <;> simp only [Nat.reduceMul, Nat.reducePow] <;> omega
theorem enc_pk {p : Nat → Nat} {v : Nat} (h : enc p v) : v = pkA p := by
  have h2 : ∀ b, b < 5 → p b < 256 := fun b hb => by rw [← h.2 b hb]; exact upk_lt _ _
  have h3 := pkA_enc h2
  exact enc_inj h.1 h3.1 fun b hb => by rw [h.2 b hb, h3.2 b hb]
theorem m_packed {N : Nat} {M : St} {p : Nat → Nat} (hN : 100 ≤ N) (hp : mPl p M) (h : ∀ b, b < 5 → p b < 256) : fX9_packed N M = some (lN (pkA p), M) := by
  have st : ∀ (b a n : Nat), b < 5 → fX9_packed_4 N (n + 1) (lN a) (zI b) M = fX9_packed_4 N n (lN (a * 256 + p b)) (zI ((b : Int) - 1)) M := by
    intro b a n hb
    show fX9_packed_4b N (fX9_packed_4 N n) (lN a) (zI b) M = _
    unfold fX9_packed_4b
    have h1 := h b hb
    rw [zl0, i_lt (by omega) (by omega), if_neg (by omega), ck_z (by omega) (by omega) (by omega), z_cl (by omega) (by omega), show ((b : Int)).toNat = b by omega, hp b hb, i2l_bv (by omega), show (256 : Int64) = lN 256 from rfl, lN_mul, lN_add, nm_ok, zl1, zN, zA]
    rfl
  unfold fX9_packed
  obtain ⟨n, rfl⟩ : ∃ n, N = n + 6 := ⟨N - 6, by omega⟩
  have e1 : fX9_packed_4 (n + 6) (n + 6) 0 4 M = _ := st 4 0 (n + 5) (by omega)
  have e2 := st 3 (0 * 256 + p 4) (n + 4) (by omega)
  have e3 := st 2 ((0 * 256 + p 4) * 256 + p 3) (n + 3) (by omega)
  have e4 := st 1 (((0 * 256 + p 4) * 256 + p 3) * 256 + p 2) (n + 2) (by omega)
  have e5 := st 0 ((((0 * 256 + p 4) * 256 + p 3) * 256 + p 2) * 256 + p 1) (n + 1) (by omega)
  rw [e1]
  refine e2.trans (e3.trans (e4.trans (e5.trans ?_)))
  show fX9_packed_4b (n + 6) (fX9_packed_4 (n + 6) n) _ (zI (((0 : Nat) : Int) - 1)) M = _
  unfold fX9_packed_4b
  rw [zl0, i_lt (by omega) (by omega), if_pos (by omega)]
  unfold pkA
  rw [Nat.zero_mul, Nat.zero_add]
theorem m_unpack {N : Nat} {M : St} {p : Nat → Nat} {v : Nat} (hN : 100 ≤ N) (hv : enc p v) : ∃ M2, fX9_unpack N (lN v) M = some ((), M2) ∧ agr [] [] [9] [] M M2 ∧ mPl p M2 := by
  have lp : ∀ (d i n : Nat) (Y : St), i + d = 5 → d < n → agr [] [] [9] [] M Y → (∀ b, b < i → Y.2.2.1 9 b = zI (p b)) → ∃ M2, fX9_unpack_5 N n (lN (v / 2 ^ (8 * i))) (zI i) Y = some ((), M2) ∧ agr [] [] [9] [] M M2 ∧ mPl p M2 := by
    intro d
    induction d with
    | zero =>
      intro i n Y hi hn ha hb
      obtain ⟨n, rfl⟩ : ∃ n', n = n' + 1 := ⟨n - 1, by omega⟩
      refine ⟨Y, ?_, ha, fun b h => hb b (by omega)⟩
      show fX9_unpack_5b N (fX9_unpack_5 N n) (lN (v / 2 ^ (8 * i))) (zI i) Y = _
      unfold fX9_unpack_5b
      rw [zl5, i_le (by omega) (by omega), if_pos (by omega)]
    | succ d ih =>
      intro i n Y hi hn ha hb
      obtain ⟨n, rfl⟩ : ∃ n', n = n' + 1 := ⟨n - 1, by omega⟩
      have hlt : v / 2 ^ (8 * i) < 2 ^ 62 := Nat.lt_of_le_of_lt (Nat.div_le_self _ _) (Nat.lt_trans hv.1 (by decide))
      show ∃ M2, fX9_unpack_5b N (fX9_unpack_5 N n) (lN (v / 2 ^ (8 * i))) (zI i) Y = some ((), M2) ∧ agr [] [] [9] [] M M2 ∧ mPl p M2
      unfold fX9_unpack_5b
      rw [zl5, i_le (by omega) (by omega), if_neg (by omega), ck_z (by omega) (by omega) (by omega), stp_ok, nm_ok, lN_rem hlt, lN_div hlt, zl1, zA, z_cl (by omega) (by omega), show ((i : Int)).toNat = i by omega]
      have hu : v / 2 ^ (8 * i) % 256 = p i := hv.2 i (by omega)
      have e : v / 2 ^ (8 * i) / 256 = v / 2 ^ (8 * (i + 1)) := by
        rw [Nat.div_div_eq_div_mul, show 8 * (i + 1) = 8 * i + 8 by omega, Nat.pow_add]
      rw [hu, e]
      exact ih (i + 1) n (sA Y 9 i (zI (p i))) (by omega) (by omega) (agr.sA ha (k := 9) (by simp) _ _) (fun b h => by
        by_cases hbi : b = i
        · subst hbi; rw [sA_same]
        · rw [sA_oth _ _ hbi]; exact hb b (by omega))
  have := lp 5 0 N M (by omega) (by omega) (agr.rf _) (fun b h => by omega)
  rw [Nat.mul_zero, Nat.pow_zero, Nat.div_one] at this
  exact this
