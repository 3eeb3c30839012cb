/-! moves read from the text -/
theorem nar_c {c : Nat} (h : c < 65536) : vp_nar .char (zI (c : Nat)) = zI c := by
  rw [z_nI]
  apply Int32.toBitVec_inj.mp
  apply BitVec.eq_of_toNat_eq
  show (UInt32.ofNat c % 65536).toNat = (BitVec.ofNat 32 c).toNat
  rw [UInt32.toNat_mod, BitVec.toNat_ofNat]
  show c % 2 ^ 32 % 65536 = c % 2 ^ 32
  omega
theorem nch_z {β : Type} {c : Nat} {E : Option β} (h : c < 65536) : nch (zI (c : Nat)) E = E := if_pos (nar_c h)
def txX (n : Nat) (c : Nat → Nat) (X : St) : Prop := n ≤ 80 ∧ X.1 1 = zI n ∧ ∀ i, i < n → X.2.2.1 0 i = zI (c i) ∧ c i < 65536
def txM (n : Nat) (c : Nat → Nat) (M : St) : Prop := n ≤ 80 ∧ M.1 3 = zI n ∧ ∀ i, i < n → M.2.2.1 10 i = zI (c i) ∧ c i < 65536
theorem txX.ag {n : Nat} {c : Nat → Nat} {is js as ls : List Nat} {X X2 : St} (h : txX n c X) (a : agr is js as ls X X2) (i1 : 1 ∉ is) (a0 : 0 ∉ as) : txX n c X2 := ⟨h.1, by rw [a.1 1 i1]; exact h.2.1, fun i hi => by rw [a.2.2.1 0 a0]; exact h.2.2 i hi⟩
theorem txM.ag {n : Nat} {c : Nat → Nat} {is js as ls : List Nat} {X X2 : St} (h : txM n c X) (a : agr is js as ls X X2) (i1 : 3 ∉ is) (a0 : 10 ∉ as) : txM n c X2 := ⟨h.1, by rw [a.1 3 i1]; exact h.2.1, fun i hi => by rw [a.2.2.1 10 a0]; exact h.2.2 i hi⟩
theorem x_at {N n : Nat} {c : Nat → Nat} {X : St} (h : txX n c X) {i : Nat} (hi : i < 1000) : fX6_at N (zI i) X = some (zI ((if i < n then c i else 0 : Nat)), X) := by
  have h1 := h.1
  unfold fX6_at fX6_at_21 fX6_at_22
  rw [zl0, i_lt (by omega) (by omega), if_neg (by omega), h.2.1, i_le (by omega) (by omega)]
  by_cases hn : i < n
  · rw [if_neg (by omega), if_pos hn, ck_z (by omega) (by omega) (by omega), z_cl (by omega) (by omega), show ((i : Int)).toNat = i by omega, (h.2.2 i hn).1, nch_z (h.2.2 i hn).2]
  · rw [if_pos (by omega), if_neg hn]
    exact nch_z (c := 0) (by omega)
def plf (t : Nat → Nat) (c : Nat) : Nat → Nat → Int
  | 0, _ => -1
  | d + 1, k => if t k = c then (k : Int) else plf t c d (k + 1)
def tk (k : Nat) : Nat := match k with
  | 0 => 114
  | 1 => 100
  | 2 => 108
  | 3 => 117
  | 4 => 116
  | 5 => 115
  | _ => 0
theorem tk_ok : ∀ k, k < 6 → tKL k = zI (tk k : Nat) ∧ tk k < 1000 := by decide +kernel
def kl (c : Nat) : Int := plf tk c 6 0
theorem plf_bd {t : Nat → Nat} {c : Nat} : ∀ (d k : Nat), -1 ≤ plf t c d k ∧ plf t c d k < k + d := by
  intro d
  induction d with
  | zero => intro k; show -1 ≤ (-1 : Int) ∧ (-1 : Int) < (k : Int) + (0 : Nat); omega
  | succ d ih =>
    intro k
    unfold plf
    have := ih (k + 1)
    split <;> omega
theorem kl_bd (c : Nat) : -1 ≤ kl c ∧ kl c < 6 := by
  have := plf_bd (t := tk) (c := c) 6 0
  unfold kl
  omega
theorem x_kindOfLetter {N c : Nat} {X : St} (hN : 100 ≤ N) (hc : c < 65536) : fX8_kindOfLetter N (zI (c : Nat)) X = some (zI (kl c), X) := by
  have main : ∀ (d k n : Nat), k + d = 6 → d < n → fX8_placeOf_KIND_LETTERS_2 N n (zI (c : Nat)) (zI (k : Nat)) X = some (zI (plf tk c d k), X) := by
    intro d
    induction d with
    | zero =>
      intro k n hk hn
      obtain ⟨n, rfl⟩ : ∃ n', n = n' + 1 := ⟨n - 1, by omega⟩
      show fX8_placeOf_KIND_LETTERS_2b N (fX8_placeOf_KIND_LETTERS_2 N n) (zI (c : Nat)) (zI (k : Nat)) X = _
      unfold fX8_placeOf_KIND_LETTERS_2b
      rw [show Int32.ofNat 6 = zI 6 from rfl, i_le (by omega) (by omega), if_pos (by omega)]
      rfl
    | succ d ih =>
      intro k n hk hn
      obtain ⟨n, rfl⟩ : ∃ n', n = n' + 1 := ⟨n - 1, by omega⟩
      have ht := tk_ok k (by omega)
      show fX8_placeOf_KIND_LETTERS_2b N (fX8_placeOf_KIND_LETTERS_2 N n) (zI (c : Nat)) (zI (k : Nat)) X = _
      unfold fX8_placeOf_KIND_LETTERS_2b plf
      rw [show Int32.ofNat 6 = zI 6 from rfl, i_le (by omega) (by omega), if_neg (by omega), ck_z (by omega) (by omega) (by omega), z_cl (by omega) (by omega), show ((k : Int)).toNat = k by omega, ht.1, i_eq (by omega) (by omega), zl1, zA]
      by_cases he : tk k = c
      · rw [if_pos (by omega), if_pos he]
      · rw [if_neg (by omega), if_neg he]
        exact ih (k + 1) n (by omega) (by omega)
  unfold fX8_kindOfLetter fX8_placeOf_KIND_LETTERS
  rw [show fX8_placeOf_KIND_LETTERS_2 N N (zI (c : Nat)) 0 X = _ from main 6 0 N (by omega) (by omega), bd_ok]
  rfl
theorem m_kindOfMove {N c : Nat} {M : St} (hc : c < 65536) : fX9_kindOfMove N (zI (c : Nat)) M = some (zI (kl c), M) := by
  have e : kl c = if 114 = c then 0 else if 100 = c then 1 else if 108 = c then 2 else if 117 = c then 3 else if 116 = c then 4 else if 115 = c then 5 else -1 := rfl
  unfold fX9_kindOfMove fX9_kindOfMove_61
  rw [e, show (114 : Int32) = zI 114 from rfl, show (100 : Int32) = zI 100 from rfl, show (108 : Int32) = zI 108 from rfl, show (117 : Int32) = zI 117 from rfl, show (116 : Int32) = zI 116 from rfl, show (115 : Int32) = zI 115 from rfl, i_eq (by omega) (by omega), i_eq (by omega) (by omega), i_eq (by omega) (by omega), i_eq (by omega) (by omega), i_eq (by omega) (by omega), i_eq (by omega) (by omega)]
  by_cases h1 : 114 = c
  · rw [if_pos (by omega), if_pos h1]; rfl
  rw [if_neg (by omega), if_neg h1]
  by_cases h2 : 100 = c
  · rw [if_pos (by omega), if_pos h2]; rfl
  rw [if_neg (by omega), if_neg h2]
  by_cases h3 : 108 = c
  · rw [if_pos (by omega), if_pos h3]; rfl
  rw [if_neg (by omega), if_neg h3]
  by_cases h4 : 117 = c
  · rw [if_pos (by omega), if_pos h4]; rfl
  rw [if_neg (by omega), if_neg h4]
  by_cases h5 : 116 = c
  · rw [if_pos (by omega), if_pos h5]; rfl
  rw [if_neg (by omega), if_neg h5]
  by_cases h6 : 115 = c
  · rw [if_pos (by omega), if_pos h6]; rfl
  rw [if_neg (by omega), if_neg h6]; rfl
/-- the moves from place t on can all be made -/
def vM (g : Lv) (wt th : Nat → Nat) (st n : Nat) (c : Nat → Nat) : Nat → Nat → (Nat → Nat) → Prop
  | 0, t, _ => n ≤ t
  | d + 1, t, p => n ≤ t ∨ (t + 1 < n ∧ ∃ b k : Nat, c t = 97 + b ∧ b < 5 ∧ 0 < gN g b ∧ kl (c (t + 1)) = (k : Int) ∧ k < 6 ∧ mvs g wt th st p b k ≠ 0 ∧ vM g wt th st n c d (t + 2) (nxA g wt th st p b k))
abbrev agG (M Y : St) : Prop := agr [6, 7] [] [9, 18, 19] [] M Y
theorem go_both {N : Nat} {g : Lv} {wt th : Nat → Nat} {st : Nat} {gx gy gt : Nat → Int} {D : Nat → Nat → Int} {p : Nat → Nat} {X M : St} (hN : 3000 ≤ N) (h : RelP g wt th st gx gy gt D p X M) {n : Nat} {c : Nat → Nat} (tX : txX n c X) (tM : txM n c M) : ∀ (d t m1 m2 : Nat) (q : Nat → Nat) (Y Z : St), n ≤ t + 2 * d → t ≤ 82 → d < m1 → d < m2 → okA g q → agm 0 X Y → xMv g wt th q (pkA q) 0 Y → agG M Z → mPl q Z → ∃ (r : Int) (Y2 Z2 : St), fX8_faultOfMoves_16 N m1 (zI t) Y = some (zI r, Y2) ∧ fX9_goThrough_2 N m2 (zI t) Z = some (zI r, Z2) ∧ -1 ≤ r ∧ r ≤ 100 ∧ agm 0 X Y2 ∧ agG M Z2 ∧ (r = -1 → vM g wt th st n c d t q) := by
  have hw := h.1.1
  have hn80 := tX.1
  intro d
  induction d with
  | zero =>
    intro t m1 m2 q Y Z h1 h2 h3 h4 hok aY mY aZ pZ
    obtain ⟨m1, rfl⟩ : ∃ n', m1 = n' + 1 := ⟨m1 - 1, by omega⟩
    obtain ⟨m2, rfl⟩ : ∃ n', m2 = n' + 1 := ⟨m2 - 1, by omega⟩
    have tY := tX.ag aY (by simp) (by simp)
    have tZ := tM.ag aZ (by decide) (by decide)
    refine ⟨-1, Y, Z, ?_, ?_, by omega, by omega, aY, aZ, fun _ => by show n ≤ t; omega⟩
    · show fX8_faultOfMoves_16b N (fX8_faultOfMoves_16 N m1) (zI t) Y = _
      unfold fX8_faultOfMoves_16b
      rw [tY.2.1, i_le (by omega) (by omega), if_pos (by omega)]
      rfl
    · show fX9_goThrough_2b N (fX9_goThrough_2 N m2) (zI t) Z = _
      unfold fX9_goThrough_2b
      rw [tZ.2.1, i_le (by omega) (by omega), if_pos (by omega)]
      rfl
  | succ d ih =>
    intro t m1 m2 q Y Z h1 h2 h3 h4 hok aY mY aZ pZ
    obtain ⟨m1, rfl⟩ : ∃ n', m1 = n' + 1 := ⟨m1 - 1, by omega⟩
    obtain ⟨m2, rfl⟩ : ∃ n', m2 = n' + 1 := ⟨m2 - 1, by omega⟩
    have tY := tX.ag aY (by simp) (by simp)
    have tZ := tM.ag aZ (by decide) (by decide)
    have BY := aY.xB (by omega) h.2.2.1.2.1
    have LZ := h.2.2.2.1.1.ag aZ (by decide) (by decide) (by decide) (by decide) (by decide) (by decide)
    show ∃ (r : Int) (Y2 Z2 : St), fX8_faultOfMoves_16b N (fX8_faultOfMoves_16 N m1) (zI t) Y = some (zI r, Y2) ∧ fX9_goThrough_2b N (fX9_goThrough_2 N m2) (zI t) Z = some (zI r, Z2) ∧ _
    unfold fX8_faultOfMoves_16b fX9_goThrough_2b fX8_faultOfMoves_82
    rw [tY.2.1, i_le (by omega) (by omega), tZ.2.1, i_le (by omega) (by omega)]
    by_cases ht : n ≤ t
    · rw [if_pos (by omega), if_pos (by omega)]
      exact ⟨-1, Y, Z, rfl, rfl, by omega, by omega, aY, aZ, fun _ => Or.inl ht⟩
    · have hc1 := (tX.2.2 t (by omega)).2
      rw [if_neg (by omega), if_neg (by omega), x_at tY (by omega), bd_ok, if_pos (by omega), ck_z (by omega) (by omega) (by omega), z_cl (by omega) (by omega), show ((t : Int)).toNat = t by omega, (tZ.2.2 t (by omega)).1, show (97 : Int32) = zI 97 from rfl, zS, nm_ok, nm_ok, x_has BY hw (by omega), bd_ok, m_noBlock LZ hw (by omega), bd_ok, zl0, i_d, i_b]
      by_cases hB : 0 ≤ (c t : Int) - 97 ∧ (c t : Int) - 97 < 5 ∧ 0 < gN g ((c t : Int) - 97).toNat
      · obtain ⟨b, hb⟩ : ∃ b : Nat, (c t : Int) - 97 = (b : Int) := ⟨((c t : Int) - 97).toNat, by omega⟩
        rw [hb] at hB ⊢
        rw [if_pos hB, decide_eq_true hB, if_neg (c := (!true) = true) (by simp)]
        rw [show ((b : Int)).toNat = b by omega] at hB
        have hb5 : b < 5 := by omega
        have hlt : (if t + 1 < n then c (t + 1) else 0) < 65536 := by
          split
          · exact (tX.2.2 (t + 1) (by omega)).2
          · omega
        rw [zl1, zA, show ((t : Int) + 1) = ((t + 1 : Nat) : Int) by omega, x_at tY (by omega), bd_ok, x_kindOfLetter (by omega) hlt, bd_ok, tZ.2.1, i_eq (by omega) (by omega)]
        by_cases ht2 : t + 1 < n
        · have hkb := kl_bd (c (t + 1))
          rw [if_pos ht2, if_neg (c := ((t + 1 : Nat) : Int) = (n : Int)) (by omega), ck_z (by omega) (by omega) (by omega), z_cl (by omega) (by omega), show (((t + 1 : Nat) : Int)).toNat = t + 1 by omega, (tZ.2.2 (t + 1) ht2).1, m_kindOfMove (tX.2.2 (t + 1) ht2).2, bd_ok, i_lt (by omega) (by omega), i_le (by omega) (by omega)]
          by_cases hk0 : 0 ≤ kl (c (t + 1))
          · obtain ⟨k, hk⟩ : ∃ k : Nat, kl (c (t + 1)) = (k : Int) := ⟨(kl (c (t + 1))).toNat, by omega⟩
            have hk6 : k < 6 := by omega
            obtain ⟨Y1, e1, a1, m1x, r1⟩ := x_att0 (N := N) (st := st) (k := k) (by omega) (aY.xY (by omega) h.2.2.1.1) BY hw hok (aY.xW8 h.2.2.1.2.2.1) h.1.2.2.1 (by rw [aY.1 2 (by simp)]; exact h.2.2.1.2.2.2.2.1) h.1.2.2.2.1 mY (pkA_enc fun b hb => (hok.1 b hb).1) hb5 hk6
            have em : mv0 g wt th st q b k = mvs g wt th st q b k := if_pos hB.2.2
            have hm32 := mvs_lt (g := g) (wt := wt) (th := th) (st := st) (p := q) (k := k) hb5
            rw [em] at e1 r1
            obtain ⟨Z1, f1, b1⟩ := m_movedBy (N := N) (by omega) LZ hw (h.2.2.2.1.2.1.ag aZ (by decide)) h.1.2.1 (h.2.2.2.1.2.2.1.ag aZ (by decide)) h.1.2.2.1 pZ hok (by rw [aZ.1 2 (by decide)]; exact h.2.2.2.1.2.2.2.1) h.1.2.2.2.1 hb5 hk6
            have aZ1 : agG M Z1 := aZ.tr (b1.wk (by simp) (by simp) (by simp) (by simp))
            unfold fX9_goThrough_71
            rw [if_neg (by omega), if_pos hk0, hk, e1, bd_ok, f1, bd_ok, zl0, i_eq (by omega) (by omega), i_eq (by omega) (by omega)]
            by_cases h0 : mvs g wt th st q b k = 0
            · rw [if_pos (by omega), if_pos (by omega), zl1, zA]
              exact ⟨(t : Int) + 1, Y1, Z1, rfl, rfl, by omega, by omega, aY.tr a1, aZ1, fun z => by omega⟩
            · obtain ⟨n1, n2⟩ := nx_ok hw hok hb5 hB.2.2 hk6 h0
              have aY1 : agm 0 X Y1 := aY.tr a1
              obtain ⟨Y2, e2, a2, m2x⟩ := x_stand (N := N) (j := 0) (X := Y1) (by omega) (by omega) (aY1.xY (by omega) h.2.2.1.1) (aY1.xB (by omega) h.2.2.1.2.1) hw n2 (aY1.xW8 h.2.2.1.2.2.1) h.1.2.2.1 (aY1.xTh (by omega) h.2.2.1.2.2.2.1) h.1.2.1 (pkA_enc fun b hb => (n2.1 b hb).1)
              obtain ⟨f, e3, f3⟩ := m_carryOut (N := N) (M := Z1) (s := mvs g wt th st q b k) (k := k) (by omega) (pZ.ag b1 (by decide)) (fun b hb => (hok.1 b hb).1) hm32 hk6
              rw [if_neg (by omega), if_neg (by omega), r1 h0, e2, bd_ok, e3, bd_ok, show (2 : Int32) = zI 2 from rfl, zA, show ((t : Int) + 2) = ((t + 2 : Nat) : Int) by omega]
              obtain ⟨r, Y3, Z3, u1, u2, u3, u4, u5, u6, u7⟩ := ih (t + 2) m1 m2 (nxA g wt th st q b k) Y2 (fA Z1 9 f) (by omega) (by omega) (by omega) (by omega) n2 (aY1.tr a2) m2x (agr.fA aZ1 (by simp) _) (fun b hb => by rw [fA_at, f3 b hb, n1 b hb])
              exact ⟨r, Y3, Z3, u1, u2, u3, u4, u5, u6, fun z => Or.inr ⟨ht2, b, k, by omega, hb5, hB.2.2, hk, hk6, h0, u7 z⟩⟩
          · unfold fX9_goThrough_71
            rw [if_pos (by omega), if_neg hk0, if_pos (c := zI 0 = 0) rfl, zl1, zA]
            exact ⟨(t : Int) + 1, Y, Z, rfl, rfl, by omega, by omega, aY, aZ, fun z => by omega⟩
        · rw [if_neg ht2, if_pos (c := ((t + 1 : Nat) : Int) = (n : Int)) (by omega), show kl 0 = -1 from rfl, i_lt (by omega) (by omega), if_pos (by omega)]
          exact ⟨(t : Int) + 1, Y, Z, rfl, by rw [show (t : Int) + 1 = (n : Int) by omega], by omega, by omega, aY, aZ, fun z => by omega⟩
      · rw [if_neg hB, decide_eq_false hB, if_pos (c := (!false) = true) rfl]
        exact ⟨(t : Int), Y, Z, rfl, rfl, by omega, by omega, aY, aZ, fun z => by omega⟩
theorem do_both {N : Nat} {g : Lv} {wt th : Nat → Nat} {st : Nat} {gx gy gt : Nat → Int} {D : Nat → Nat → Int} (hN : 3000 ≤ N) {n : Nat} {c : Nat → Nat} : ∀ (d k m1 m2 md : Nat) (p : Nat → Nat) (X M : St), RelP g wt th st gx gy gt D p X M → txX n c X → txM n c M → n ≤ 2 * k + 2 * d → 2 * k ≤ 82 → d < m1 → d < m2 → X.1 28 = zI md → md + (n / 2 - k) ≤ 200 → vM g wt th st n c d (2 * k) p → ∃ X2 M2, fX8_readMoves_45 N m1 (zI (n / 2 : Nat)) (zI k) X = some (zI (n / 2 : Nat), X2) ∧ fX9_readMoves_47 N m2 (zI (2 * k : Nat)) M = some (zI (n / 2 : Nat), M2) ∧ Rel X2 M2 := by
  intro d
  induction d with
  | zero =>
    intro k m1 m2 md p X M h tX tM h1 h2 h3 h4 h5 h6 h7
    obtain ⟨m1, rfl⟩ : ∃ n', m1 = n' + 1 := ⟨m1 - 1, by omega⟩
    obtain ⟨m2, rfl⟩ : ∃ n', m2 = n' + 1 := ⟨m2 - 1, by omega⟩
    have := tX.1
    refine ⟨X, M, ?_, ?_, h.rel⟩
    · show fX8_readMoves_45b N (fX8_readMoves_45 N m1) _ _ X = _
      unfold fX8_readMoves_45b
      rw [i_le (by omega) (by omega), if_pos (by omega)]
    · show fX9_readMoves_47b N (fX9_readMoves_47 N m2) _ M = _
      unfold fX9_readMoves_47b
      rw [tM.2.1, i_le (by omega) (by omega), if_pos (by omega), show (2 : Int32) = zI 2 from rfl, z_div (by omega) (by omega) (by omega) (by omega)]
      rfl
  | succ d ih =>
    intro k m1 m2 md p X M h tX tM h1 h2 h3 h4 h5 h6 h7
    obtain ⟨m1, rfl⟩ : ∃ n', m1 = n' + 1 := ⟨m1 - 1, by omega⟩
    obtain ⟨m2, rfl⟩ : ∃ n', m2 = n' + 1 := ⟨m2 - 1, by omega⟩
    have hn80 := tX.1
    show ∃ X2 M2, fX8_readMoves_45b N (fX8_readMoves_45 N m1) _ _ X = _ ∧ fX9_readMoves_47b N (fX9_readMoves_47 N m2) _ M = _ ∧ _
    unfold fX8_readMoves_45b fX9_readMoves_47b
    rw [i_le (by omega) (by omega), tM.2.1, i_le (by omega) (by omega)]
    rcases h7 with h7 | ⟨hlt, b, kk, hb, hb5, hb0, hk, hk6, hm0, hv⟩
    · rw [if_pos (by omega), if_pos (by omega), show (2 : Int32) = zI 2 from rfl, z_div (by omega) (by omega) (by omega) (by omega)]
      exact ⟨X, M, rfl, rfl, h.rel⟩
    · obtain ⟨v, Y, e1, a1, v1⟩ := k_movedX hN h hb5 hb0 hk6
      obtain ⟨v2, v3⟩ := v1 hm0
      obtain ⟨Z, e2, a2⟩ := m_movedBy (N := N) (by omega) h.2.2.2.1.1 h.1.1 h.2.2.2.1.2.1 h.1.2.1 h.2.2.2.1.2.2.1 h.1.2.2.1 h.2.2.2.2.1 h.2.1 h.2.2.2.1.2.2.2.1 h.1.2.2.2.1 hb5 hk6
      obtain ⟨Y2, M3, f1, f2, f3, f4, f5, f6, f7⟩ := k_make0 hN h hb5 hb0 hk6 hm0 h5 (by omega) a1 (by rw [← v3]; exact v2) a2
      have hc1 := (tX.2.2 (2 * k) (by omega)).2
      have hc2 := (tX.2.2 (2 * k + 1) (by omega)).2
      rw [if_neg (by omega), if_neg (by omega), show (2 : Int32) = zI 2 from rfl, zM, show (2 : Int) * (k : Int) = ((2 * k : Nat) : Int) by omega, x_at tX (by omega), bd_ok, if_pos (by omega), show (97 : Int32) = zI 97 from rfl, zS, nm_ok, zl1, zA, show ((2 * k : Nat) : Int) + 1 = ((2 * k + 1 : Nat) : Int) by omega, x_at tX (by omega), bd_ok, if_pos (by omega), x_kindOfLetter (by omega) hc2, bd_ok, hk, show ((c (2 * k) : Nat) : Int) - 97 = (b : Int) by omega, e1, bd_ok, f1, bd_ok, ck_z (by omega) (by omega) (by omega), z_cl (by omega) (by omega), show (((2 * k : Nat) : Int)).toNat = 2 * k by omega, (tM.2.2 (2 * k) (by omega)).1, zS, nm_ok, ck_z (by omega) (by omega) (by omega), z_cl (by omega) (by omega), show (((2 * k + 1 : Nat) : Int)).toNat = 2 * k + 1 by omega, (tM.2.2 (2 * k + 1) (by omega)).1, m_kindOfMove hc2, bd_ok, hk, show ((c (2 * k) : Nat) : Int) - 97 = (b : Int) by omega, e2, bd_ok, f2, bd_ok, zA, zA, show ((2 * k : Nat) : Int) + 2 = ((2 * (k + 1) : Nat) : Int) by omega]
      exact ih (k + 1) m1 m2 (md + 1) _ Y2 M3 f5 (tX.ag f6 (by decide) (by decide)) (tM.ag f7 (by decide) (by decide)) (by omega) (by omega) (by omega) (by omega) f3 (by omega) hv
theorem k_readMoves {N : Nat} (hN : 3000 ≤ N) : ∀ (X M : St), Rel X M → ∃ r X2 M2, fX8_readMoves N X = some (r, X2) ∧ fX9_readMoves N M = some (r, M2) ∧ Rel X2 M2 := by
  rintro X M ⟨g, wt, th, st, gx, gy, gt, D, p, h⟩
  obtain ⟨n, c, t1, t2, t3, t4⟩ := h.2.2.2.2.2.2.2.2.1
  have tX : txX n c X := ⟨t1, t2, fun i hi => ⟨(t4 i hi).1, (t4 i hi).2.2⟩⟩
  have tM : txM n c M := ⟨t1, t3, fun i hi => ⟨(t4 i hi).2.1, (t4 i hi).2.2⟩⟩
  obtain ⟨md, kn, ar, mv, ef, h1, h2, h3, h4, h5, h6, h7, h8, h9, h10⟩ := h.2.2.2.2.2.2.1
  have hpb : ∀ b, b < 5 → p b < 256 := fun b hb => (h.2.1.1 b hb).1
  obtain ⟨Y, e1, a1, m1⟩ := k_stand hN h
  obtain ⟨r, Y2, Z2, u1, u2, u3, u4, u5, u6, u7⟩ := go_both hN h tX tM 40 0 N N p Y M (by omega) (by omega) (by omega) (by omega) h.2.1 a1 m1 (agr.rf _) h.2.2.2.2.1
  obtain ⟨Z3, e3, a3, p3⟩ := m_unpack (N := N) (M := Z2) (p := p) (v := pkA p) (by omega) (pkA_enc hpb)
  have aZ : MS M Z3 := (agr.wk u6 (by simp) (by simp) (by simp) (by simp)).tr (agr.wk a3 (by simp) (by simp) (by simp) (by simp))
  have hR := h.scr (agm0_xs u5) aZ p3
  unfold fX8_readMoves fX8_faultOfMoves fX9_readMoves fX9_goThrough
  rw [x_present h.2.2.2.2.2.2.1, bd_ok, e1, bd_ok, show fX8_faultOfMoves_16 N N 0 Y = _ from u1, bd_ok, m_packed (by omega) h.2.2.2.2.1 hpb, bd_ok, show fX9_goThrough_2 N N 0 M = _ from u2, bd_ok, e3, bd_ok, zlm1, i_eq (by omega) (by omega), zl0, i_lt (by omega) (by omega)]
  have tY2 := tX.ag u5 (by simp) (by simp)
  have tZ3 := tM.ag aZ (by decide) (by decide)
  by_cases hr : r = -1
  · have q28 : Y2.1 28 = zI md := by rw [u5.1 28 (by simp)]; exact h3
    have q8 : Z3.1 8 = zI md := by rw [aZ.1 8 (by decide)]; exact h5
    rw [if_pos hr, if_pos (by omega), tY2.2.1, tZ3.2.1, show (2 : Int32) = zI 2 from rfl, z_div (by omega) (by omega) (by omega) (by omega), nm_ok, q28, q8, zA, show (200 : Int32) = zI 200 from rfl, i_le (by omega) (by omega), i_le (by omega) (by omega)]
    by_cases h200 : (md : Int) + (n : Int) / 2 ≤ 200
    · rw [if_pos h200, if_pos h200]
      obtain ⟨X4, M4, w1, w2, w3⟩ := do_both hN 40 0 N N md p Y2 Z3 hR tY2 tZ3 (by omega) (by omega) (by omega) (by omega) q28 (by omega) (u7 hr)
      exact ⟨_, X4, M4, w1, w2, w3⟩
    · rw [if_neg h200, if_neg h200]
      exact ⟨_, Y2, Z3, rfl, rfl, hR.rel⟩
  · rw [if_neg hr, if_neg (by omega), show (-100 : Int32) = zI (-100) from rfl, zS]
    exact ⟨_, Y2, Z3, rfl, rfl, hR.rel⟩
