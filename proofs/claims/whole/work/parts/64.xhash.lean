/-! the list of the class and its table -/
def hs (v : Nat) : Nat := (Int64.toUInt64 (lN v * (-7046029254386353131)) >>> ((Int32.toInt64 53).toUInt64 &&& Int64.toUInt64 63)).toNat
theorem sh53 : ((Int32.toInt64 53).toUInt64 &&& Int64.toUInt64 63) = 53 := by decide +kernel
theorem hs_lt (v : Nat) : hs v < 2048 := by
  unfold hs
  rw [sh53, UInt64.toNat_shiftRight]
  have := (Int64.toUInt64 (lN v * (-7046029254386353131))).toNat_lt
  rw [show (53 : UInt64).toNat % 64 = 53 from rfl, Nat.shiftRight_eq_div_pow]
  omega
theorem u_i {w : UInt64} : (w.toInt64).toInt32 = zI (w.toNat : Nat) := by
  have : w.toInt64 = lN w.toNat := by
    unfold lN
    apply Int64.toBitVec_inj.mp
    show w.toBitVec = BitVec.ofNat 64 w.toNat
    apply BitVec.eq_of_toNat_eq
    rw [BitVec.toNat_ofNat]
    exact (Nat.mod_eq_of_lt w.toNat_lt).symm
  rw [this, lN_i, z_nI]
/-- a place in the table for every arrangement -/
def hOK (H : Nat → Nat) : Prop := ∀ v, H v < 2048 ∧ ∀ N Y, fX5_freePlaceFor N (lN v) Y = fX5_freePlaceFor_13 N N (lN v) (zI (H v : Nat)) (zI (0 : Nat)) Y
theorem hs_ok : ∃ H, hOK H := ⟨hs, fun v => ⟨hs_lt v, fun N Y => by
  unfold fX5_freePlaceFor
  rw [u_i, nm_ok]
  rfl⟩⟩
theorem z_a2047 : ∀ n : Nat, n < 2049 → zI (n : Int) &&& zI 2047 = zI ((n % 2048 : Nat)) := by decide +kernel
theorem cnB_all {f : Nat → Bool} : ∀ n, (∀ i, i < n → f i = true) → cnB n f = n := by
  intro n
  induction n with
  | zero => intro _; rfl
  | succ n ih => intro h; unfold cnB; rw [ih (fun i hi => h i (by omega)), h n (by omega)]; rfl
def tbI (H : Nat → Nat) (T : TT) (tb : Nat → Nat) : Prop := (∀ s, s < 2048 → tb s ≤ T.1) ∧ cnB 2048 (fun s => decide (tb s ≠ 0)) = T.1 ∧ ∀ i, i < T.1 → ∃ j, j < 2048 ∧ tb ((H (tL T i) + j) % 2048) = i + 1 ∧ ∀ l, l < j → tb ((H (tL T i) + l) % 2048) ≠ 0
def SX (H : Nat → Nat) (T : TT) (tb : Nat → Nat) (Y : St) : Prop := Y.1 30 = zI T.1 ∧ (∀ i, i < T.1 → Y.2.2.2 12 i = lN (tL T i) ∧ Y.2.2.1 28 i = zI (tO T i) ∧ Y.2.2.1 29 i = zI (tV T i)) ∧ (∀ s, s < 2048 → Y.2.2.1 30 s = zI (tb s)) ∧ tbI H T tb
theorem x_free {N : Nat} {H : Nat → Nat} {g : Lv} {T : TT} {tb : Nat → Nat} {Y : St} {v : Nat} (hN : 3000 ≤ N) (hH : hOK H) (hT : wT (okv g) T ∨ T.1 = 0) (hS : SX H T tb Y) (hv : v < 2 ^ 40) : (inL T v = true ∧ fX5_freePlaceFor N (lN v) Y = some (zI (-1), Y)) ∨ (inL T v = false ∧ ∃ j, j < 2048 ∧ fX5_freePlaceFor N (lN v) Y = some (zI ((H v + j) % 2048 : Nat), Y) ∧ tb ((H v + j) % 2048) = 0 ∧ ∀ l, l < j → tb ((H v + l) % 2048) ≠ 0) := by
  obtain ⟨s1, s2, s3, t1, t2, t3⟩ := hS
  have h12 : T.1 ≤ 1200 := by
    rcases hT with h | h
    · exact h.2.1
    · omega
  have hok : ∀ i, i < T.1 → tL T i < 2 ^ 40 := fun i hi => by
    rcases hT with h | h
    · exact (h.2.2.1 i hi).1
    · omega
  have hh := (hH v).1
  have lp : ∀ (d j m : Nat), j + d = 2048 → d < m → (∀ l, l < j → tb ((H v + l) % 2048) ≠ 0 ∧ tL T (tb ((H v + l) % 2048) - 1) ≠ v) → (inL T v = true ∧ fX5_freePlaceFor_13 N m (lN v) (zI ((H v + j) % 2048 : Nat)) (zI j) Y = some (zI (-1), Y)) ∨ (inL T v = false ∧ ∃ j2, j2 < 2048 ∧ fX5_freePlaceFor_13 N m (lN v) (zI ((H v + j) % 2048 : Nat)) (zI j) Y = some (zI ((H v + j2) % 2048 : Nat), Y) ∧ tb ((H v + j2) % 2048) = 0 ∧ ∀ l, l < j2 → tb ((H v + l) % 2048) ≠ 0) := by
    intro d
    induction d with
    | zero =>
      intro j m hj hm hpre
      have hall := cnB_all (f := fun s => decide (tb s ≠ 0)) 2048 (fun s hs2 => by
        have h1 := (hpre ((s + 2048 - H v) % 2048) (by omega)).1
        rw [show (H v + (s + 2048 - H v) % 2048) % 2048 = s by omega] at h1
        exact decide_eq_true h1)
      omega
    | succ d ih =>
      intro j m hj hm hpre
      obtain ⟨m, rfl⟩ : ∃ n', m = n' + 1 := ⟨m - 1, by omega⟩
      have hslot : (H v + j) % 2048 < 2048 := Nat.mod_lt _ (by decide)
      have ht1 := t1 _ hslot
      have e : ∀ A, (fX5_freePlaceFor_13 N (m + 1) (lN v) (zI ((H v + j) % 2048 : Nat)) (zI j) Y = A) = (fX5_freePlaceFor_13b N (fX5_freePlaceFor_13 N m) (lN v) (zI ((H v + j) % 2048 : Nat)) (zI j) Y = A) := fun _ => rfl
      simp only [e]
      unfold fX5_freePlaceFor_13b
      rw [show (2048 : Int32) = zI 2048 from rfl, i_le (by omega) (by omega), if_neg (by omega), ck_z (by omega) (by omega) (by omega), z_cl (by omega) (by omega), show (((H v + j) % 2048 : Nat) : Int).toNat = (H v + j) % 2048 by omega, s3 _ hslot, nm_ok, zl0, i_eq (by omega) (by omega)]
      by_cases h0 : tb ((H v + j) % 2048) = 0
      · rw [if_pos (by omega)]
        right
        refine ⟨?_, j, by omega, rfl, h0, fun l hl => (hpre l hl).1⟩
        cases hin : inL T v
        · rfl
        · obtain ⟨i, hi, h1⟩ := anyB_iff.mp hin
          have h2 := of_decide_eq_true h1
          obtain ⟨ji, c1, c2, c3⟩ := t3 i hi
          rw [h2] at c2 c3
          rcases Nat.lt_trichotomy ji j with h | h | h
          · have h4 := (hpre ji h).2
            rw [c2, Nat.add_sub_cancel] at h4
            exact absurd h2 h4
          · subst h; omega
          · exact absurd h0 (c3 j h)
      · rw [if_neg (by omega), zl1, zS, ck_z (by omega) (by omega) (by omega), z_cl (by omega) (by omega), show ((tb ((H v + j) % 2048) : Int) - 1).toNat = tb ((H v + j) % 2048) - 1 by omega, (s2 _ (show tb ((H v + j) % 2048) - 1 < T.1 by omega)).1, i_ll (hok _ (by omega)) hv]
        by_cases h1 : tL T (tb ((H v + j) % 2048) - 1) = v
        · rw [if_pos h1]
          left
          refine ⟨anyB_iff.mpr ⟨tb ((H v + j) % 2048) - 1, by omega, decide_eq_true h1⟩, rfl⟩
        · rw [if_neg h1, zA, show (2047 : Int32) = zI 2047 from rfl, show (((H v + j) % 2048 : Nat) : Int) + 1 = (((H v + j) % 2048 + 1 : Nat) : Int) by omega, z_a2047 _ (by omega), nm_ok, zA, show ((H v + j) % 2048 + 1) % 2048 = (H v + (j + 1)) % 2048 by omega]
          exact ih (j + 1) m (by omega) (by omega) (fun l hl => by
            by_cases hlj : l = j
            · subst hlj; exact ⟨h0, h1⟩
            · exact hpre l (by omega))
  have key : fX5_freePlaceFor N (lN v) Y = fX5_freePlaceFor_13 N N (lN v) (zI ((H v + 0) % 2048 : Nat)) (zI (0 : Nat)) Y := by
    rw [(hH v).2, Nat.add_zero, Nat.mod_eq_of_lt hh]
  rw [key]
  exact lp 2048 0 N (by omega) (by omega) (fun l hl => by omega)
abbrev agX (X Y : St) : Prop := agr [30] [3, 5, 7, 9] [23, 25, 28, 29, 30] [10, 12] X Y
theorem x_append {N : Nat} {H : Nat → Nat} {T : TT} {tb : Nat → Nat} {Y : St} {v o mv j : Nat} (hc : T.1 < 1200) (hS : SX H T tb Y) (hj : j < 2048) (h0 : tb ((H v + j) % 2048) = 0) (hch : ∀ l, l < j → tb ((H v + l) % 2048) ≠ 0) : ∃ tb2 Y2, fX5_append N (zI ((H v + j) % 2048 : Nat)) (lN v) (zI o) (zI mv) Y = some ((), Y2) ∧ agr [30] [] [28, 29, 30] [12] Y Y2 ∧ SX H (app T v o mv) tb2 Y2 := by
  obtain ⟨s1, s2, s3, t1, t2, t3⟩ := hS
  have hslot : (H v + j) % 2048 < 2048 := Nat.mod_lt _ (by decide)
  have r30 : ∀ (Z : St) (k i : Nat) (v : Int64), (sL Z k i v).1 30 = Z.1 30 := fun _ _ _ _ => rfl
  have r30a : ∀ (Z : St) (k i : Nat) (v : Int32), (sA Z k i v).1 30 = Z.1 30 := fun _ _ _ _ => rfl
  have eL : ∀ i, tL (app T v o mv) i = if i = T.1 then v else tL T i := fun _ => rfl
  have eO : ∀ i, tO (app T v o mv) i = if i = T.1 then o else tO T i := fun _ => rfl
  have eV : ∀ i, tV (app T v o mv) i = if i = T.1 then mv else tV T i := fun _ => rfl
  unfold fX5_append
  rw [s1, ck_z (by omega) (by omega) (by omega), z_cl (by omega) (by omega), show ((T.1 : Int)).toNat = T.1 by omega, stp_ok, r30, s1, ck_z (by omega) (by omega) (by omega), z_cl (by omega) (by omega), show ((T.1 : Int)).toNat = T.1 by omega, stp_ok, r30a, r30, s1, ck_z (by omega) (by omega) (by omega), z_cl (by omega) (by omega), show ((T.1 : Int)).toNat = T.1 by omega, stp_ok, stp_ok, r30a, r30a, r30, s1, sI_same, zl1, zA, ck_z (by omega) (by omega) (by omega), z_cl (by omega) (by omega), show (((H v + j) % 2048 : Nat) : Int).toNat = (H v + j) % 2048 by omega, stp_ok]
  refine ⟨fun s => if s = (H v + j) % 2048 then T.1 + 1 else tb s, _, rfl, agr.sA (agr.sI (agr.sA (agr.sA (agr.sL (agr.rf _) (by simp) _ _) (by simp) _ _) (by simp) _ _) (by simp) _) (by simp) _ _, ?_, fun i hi => ?_, fun s hs2 => ?_, fun s hs2 => ?_, ?_, fun i hi => ?_⟩
  · rw [r30a]; exact sI_same _ _ _
  · have hi' : i < T.1 + 1 := hi
    rw [eL, eO, eV, sA_ne _ _ _ (show 28 ≠ 30 by decide), sA_ne _ _ _ (show 29 ≠ 30 by decide)]
    show (sL Y 12 T.1 (lN v)).2.2.2 12 i = _ ∧ (sA (sA (sL Y 12 T.1 (lN v)) 28 T.1 (zI o)) 29 T.1 (zI mv)).2.2.1 28 i = _ ∧ (sA (sA (sL Y 12 T.1 (lN v)) 28 T.1 (zI o)) 29 T.1 (zI mv)).2.2.1 29 i = _
    rw [sA_ne _ _ _ (show 28 ≠ 29 by decide)]
    by_cases hiT : i = T.1
    · rw [if_pos hiT, if_pos hiT, if_pos hiT, hiT, sL_same, sA_same, sA_same]
      exact ⟨rfl, rfl, rfl⟩
    · rw [if_neg hiT, if_neg hiT, if_neg hiT, sL_oth _ _ hiT, sA_oth _ _ hiT, sA_oth _ _ hiT]
      exact s2 i (by omega)
  · dsimp only
    by_cases h : s = (H v + j) % 2048
    · rw [if_pos h, h, sA_same]; rfl
    · rw [if_neg h, sA_oth _ _ h]; exact s3 s hs2
  · have := t1 s hs2
    show (if s = (H v + j) % 2048 then T.1 + 1 else tb s) ≤ T.1 + 1
    split <;> omega
  · have := cnB_upd (f := fun s => decide (tb s ≠ 0)) (h := fun s => decide ((if s = (H v + j) % 2048 then T.1 + 1 else tb s) ≠ 0)) (i := (H v + j) % 2048) (decide_eq_false (fun z => z h0)) (by rw [if_pos rfl]; exact decide_eq_true (by omega)) (fun l hl => by rw [if_neg hl]) 2048
    rw [if_pos hslot, t2] at this
    exact this
  · have hi' : i < T.1 + 1 := hi
    rw [eL]
    by_cases hiT : i = T.1
    · rw [if_pos hiT]
      refine ⟨j, hj, ?_, fun l hl => ?_⟩
      · dsimp only; rw [if_pos rfl, hiT]
      · dsimp only
        split
        · omega
        · exact hch l hl
    · rw [if_neg hiT]
      obtain ⟨ji, c1, c2, c3⟩ := t3 i (by omega)
      refine ⟨ji, c1, ?_, fun l hl => ?_⟩
      · dsimp only
        rw [if_neg (fun z => by rw [z, h0] at c2; omega)]
        exact c2
      · dsimp only
        split
        · omega
        · exact c3 l hl
theorem x_begin {N : Nat} {H : Nat → Nat} {X : St} {v : Nat} (hN : 3000 ≤ N) (hH : hOK H) (hv : v < 2 ^ 40) : ∃ tb Y, fX5_begin N (lN v) X = some ((), Y) ∧ agr [30] [] [28, 29, 30] [12] X Y ∧ SX H (T0 v) tb Y := by
  unfold fX5_begin
  rw [stp_ok, stp_ok]
  have hS : SX H (0, fun _ => v, fun _ => 0, fun _ => 0, fun _ => 0) (fun _ => 0) (sI (fA X 30 (fil 2048 0 (X.2.2.1 30))) 30 0) := by
    refine ⟨rfl, fun i hi => absurd hi (Nat.not_lt_zero i), fun s hs2 => ?_, fun _ _ => Nat.le_refl _, ?_, fun i hi => absurd hi (Nat.not_lt_zero i)⟩
    · show fil 2048 0 (X.2.2.1 30) s = zI 0
      unfold fil
      rw [if_pos hs2]
      rfl
    · exact cnB_0 2048
  rcases x_free (g := (3, 3, fun _ => 0, fun _ => 0, fun _ _ => 0, fun _ _ => 0)) hN hH (Or.inr rfl) hS hv with ⟨h1, _⟩ | ⟨_, j, hj, e, c1, c2⟩
  · exact absurd h1 (by simp [inL, anyB])
  · rw [e, bd_ok]
    obtain ⟨tb2, Y2, e2, a2, S2⟩ := x_append (N := N) (o := 0) (mv := 0) (by show 0 < 1200; omega) hS hj c1 c2
    have e2' : fX5_append N (zI ((H v + j) % 2048 : Nat)) (lN v) 0 0 (sI (fA X 30 (fil 2048 0 (X.2.2.1 30))) 30 0) = some ((), Y2) := e2
    rw [e2', bd_ok]
    refine ⟨tb2, Y2, rfl, agr.tr (agr.sI (agr.fA (agr.rf _) (by simp) _) (by simp) _) a2, ?_⟩
    obtain ⟨s1, s2, s3, t1, t2, t3⟩ := S2
    have hz : ∀ i, i < 1 → i = 0 := fun i hi => by omega
    refine ⟨s1, fun i hi => ?_, s3, t1, t2, fun i hi => ?_⟩
    · have := hz i hi
      subst this
      exact s2 0 (by show 0 < 0 + 1; omega)
    · have := hz i hi
      subst this
      exact t3 0 (by show 0 < 0 + 1; omega)
