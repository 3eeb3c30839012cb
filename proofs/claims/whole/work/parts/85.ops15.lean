/-! the moves that are possible -/
def mv0 (g : Lv) (wt th : Nat → Nat) (st : Nat) (p : Nat → Nat) (b k : Nat) : Nat := if 0 < gN g b then mvs g wt th st p b k else 0
theorem mv0_lt {g : Lv} {wt th : Nat → Nat} {st : Nat} {p : Nat → Nat} {b k : Nat} (hb : b < 5) : mv0 g wt th st p b k < 32 := by
  unfold mv0
  split
  · exact mvs_lt hb
  · omega
theorem x_att0 {N : Nat} {g : Lv} {Y : St} {wt th p : Nat → Nat} {v b k st : Nat} (hN : 100 ≤ N) (hg : xY g Y) (hB : xB g Y) (hw : wfL g) (hok : okA g p) (hwt : xW8 g wt Y) (hw9 : ∀ b, wt b ≤ 9) (hst : Y.1 2 = zI st) (hst2 : st ≤ 45) (hm : xMv g wt th p v 0 Y) (hv : enc p v) (hb : b < 5) (hk : k < 6) : ∃ Y2, fX4_attempt N 0 (zI b) (zI k) Y = some (zI (mv0 g wt th st p b k : Nat), Y2) ∧ agm 0 Y Y2 ∧ xMv g wt th p v 0 Y2 ∧ (mv0 g wt th st p b k ≠ 0 → Y2.2.1 8 = lN (pkA (nxA g wt th st p b k))) := by
  by_cases h0 : 0 < gN g b
  · obtain ⟨v2, Y2, e1, a1, m1, r1⟩ := x_attempt (N := N) (j := 0) hN (by omega) hg hB hw hok hwt hw9 hst hst2 hm hv hb h0 hk
    unfold mv0
    rw [if_pos h0]
    refine ⟨Y2, e1, a1, m1, fun hne => ?_⟩
    obtain ⟨q1, q2, q3⟩ := r1 hne
    obtain ⟨n1, n2⟩ := nx_ok hw hok hb h0 hk hne
    have : v2 = pkA (nxA g wt th st p b k) := by
      refine enc_pk ⟨q2, fun q hq => ?_⟩
      have := q3 q hq
      rw [n1 q hq] at this
      omega
    rw [← this]; exact q1
  · unfold mv0
    rw [if_neg h0]
    exact ⟨Y, x_attempt_no hB hw (by omega) (fun z => h0 (by have := z.2.2; rwa [show ((b : Int)).toNat = b by omega] at this)), agr.rf _, hm, fun z => absurd rfl z⟩
/-- the answer of the reference's walk over the moves -/
def pA (F : Nat → Nat → Nat) (K : Int) : Nat → Nat → Nat → Nat → Int
  | 0, _, _, c => -(c : Int) - 1
  | e + 1, b, k, c => if k = 6 then pA F K e (b + 1) 0 c else if F b k = 0 then pA F K e b (k + 1) c else if (c : Int) = K then 10 * (b : Int) + (k : Int) else pA F K e b (k + 1) (c + 1)
theorem pA_skip {F : Nat → Nat → Nat} {K : Int} {b c : Nat} (hF : ∀ k, k < 6 → F b k = 0) : ∀ (j k e : Nat), k + j = 6 → pA F K (e + 1 + j) b k c = pA F K e (b + 1) 0 c := by
  intro j
  induction j with
  | zero => intro k e hk; show (if k = 6 then _ else _) = _; rw [if_pos (by omega)]
  | succ j ih =>
    intro k e hk
    show (if k = 6 then _ else if F b k = 0 then pA F K (e + 1 + j) b (k + 1) c else _) = _
    rw [if_neg (by omega), if_pos (hF k (by omega)), ih (k + 1) e (by omega)]
theorem pA_bd {F : Nat → Nat → Nat} {K : Int} : ∀ (e b k c : Nat), e + 7 * b + k = 35 → k ≤ 6 → -(c : Int) - e - 1 ≤ pA F K e b k c ∧ pA F K e b k c < 100 := by
  intro e
  induction e with
  | zero => intro b k c h h2; show -(c : Int) - (0 : Nat) - 1 ≤ -(c : Int) - 1 ∧ -(c : Int) - 1 < 100; omega
  | succ e ih =>
    intro b k c h h2
    unfold pA
    by_cases h6 : k = 6
    · rw [if_pos h6]
      have := ih (b + 1) 0 c (by omega) (by omega)
      omega
    · rw [if_neg h6]
      by_cases hF : F b k = 0
      · rw [if_pos hF]
        have := ih b (k + 1) c (by omega) (by omega)
        omega
      · rw [if_neg hF]
        by_cases hc : (c : Int) = K
        · rw [if_pos hc]; omega
        · rw [if_neg hc]
          have := ih b (k + 1) (c + 1) (by omega) (by omega)
          omega
theorem m_possibleAt {N : Nat} {g : Lv} {M : St} {wt th p : Nat → Nat} {st : Nat} (hN : 100 ≤ N) (hg : mL g M) (hw : wfL g) (ht : mTh th M) (hth : ∀ r, th r ≤ 45) (hwt : mW8 wt M) (hw9 : ∀ b, wt b ≤ 9) (hp : mPl p M) (hok : okA g p) (hst : M.1 2 = zI st) (hst2 : st ≤ 45) {K : Int} (hK : -1 ≤ K ∧ K < 2147483648) : ∃ M2, fX9_possibleAt N (zI K) M = some (zI (pA (mv0 g wt th st p) K 35 0 0 0), M2) ∧ agr [6, 7] [] [18, 19] [] M M2 := by
  have main : ∀ (E e b k c n m : Nat) (Y : St), e ≤ E → e + 7 * b + k = 35 → k ≤ 6 → b < 5 → c + e ≤ 35 → 6 - b < n → 8 - k < m → agr [6, 7] [] [18, 19] [] M Y → ∃ M2, fX9_possibleAt_12 N (fX9_possibleAt_4 N n) m (zI K) (zI c) (zI b) (zI k) Y = some (zI (pA (mv0 g wt th st p) K e b k c), M2) ∧ agr [6, 7] [] [18, 19] [] M M2 := by
    intro E
    induction E with
    | zero => intro e b k c n m Y h1 h2 h3 h4; omega
    | succ E ih =>
      intro e b k c n m Y h1 h2 h3 h4 h5 h6 h7 hY
      obtain ⟨m, rfl⟩ : ∃ n', m = n' + 1 := ⟨m - 1, by omega⟩
      obtain ⟨n, rfl⟩ : ∃ n', n = n' + 1 := ⟨n - 1, by omega⟩
      have nxt : ∀ e', e' + 7 * (b + 1) + 0 = 35 → e' ≤ E → ∃ M2, fX9_possibleAt_60 N (fX9_possibleAt_4 N (n + 1)) (zI K) (zI c) (zI b) Y = some (zI (pA (mv0 g wt th st p) K e' (b + 1) 0 c), M2) ∧ agr [6, 7] [] [18, 19] [] M M2 := by
        intro e' he he2
        show ∃ M2, fX9_possibleAt_4b N (fX9_possibleAt_4 N n) (zI K) (zI c) (zI b + 1) Y = _ ∧ _
        unfold fX9_possibleAt_4b
        rw [zl5, zl1, zA, i_le (by omega) (by omega)]
        by_cases hb4 : (5 : Int) ≤ (b : Int) + 1
        · rw [if_pos hb4, zN, zS, show e' = 0 by omega]
          exact ⟨Y, rfl, hY⟩
        · rw [if_neg hb4]
          exact ih e' (b + 1) 0 c n N Y he2 he (by omega) (by omega) (by omega) (by omega) (by omega) hY
      show ∃ M2, fX9_possibleAt_12b N (fX9_possibleAt_4 N (n + 1)) (fX9_possibleAt_12 N (fX9_possibleAt_4 N (n + 1)) m) (zI K) (zI c) (zI b) (zI k) Y = _ ∧ _
      unfold fX9_possibleAt_12b
      rw [zl6, i_le (by omega) (by omega)]
      by_cases hk6 : (6 : Int) ≤ (k : Int)
      · rw [if_pos hk6]
        obtain ⟨e', rfl⟩ : ∃ e', e = e' + 1 := ⟨e - 1, by omega⟩
        have e1 : pA (mv0 g wt th st p) K (e' + 1) b k c = pA (mv0 g wt th st p) K e' (b + 1) 0 c := if_pos (by omega)
        rw [e1]
        exact nxt e' (by omega) (by omega)
      · have hgb := hw.2.2.1 b
        rw [if_neg hk6, ck_z (by omega) (by omega) (by omega), z_cl (by omega) (by omega), show ((b : Int)).toNat = b by omega, hY.2.2.1 2 (by decide), hg.2.2.2.1 b h4, zl0, i_le (by omega) (by omega)]
        by_cases h0 : 0 < gN g b
        · rw [if_neg (by omega)]
          obtain ⟨Z, e1, a1⟩ := m_movedBy (N := N) (M := Y) hN (hg.ag hY (by decide) (by decide) (by decide) (by decide) (by decide) (by decide)) hw (ht.ag hY (by decide)) hth (hwt.ag hY (by decide)) hw9 (hp.ag hY (by decide)) hok (by rw [hY.1 2 (by decide)]; exact hst) hst2 h4 (show k < 6 by omega)
          have hlt := mvs_lt (g := g) (wt := wt) (th := th) (st := st) (p := p) (k := k) h4
          have em : mv0 g wt th st p b k = mvs g wt th st p b k := if_pos h0
          obtain ⟨e, rfl⟩ : ∃ e', e = e' + 1 := ⟨e - 1, by omega⟩
          rw [e1, bd_ok, i_le (by omega) (by omega), i_eq (by omega) (by omega)]
          unfold pA fX9_possibleAt_54
          rw [if_neg (c := k = 6) (by omega), em, zl1, zA, zA]
          by_cases hm : mvs g wt th st p b k = 0
          · rw [if_pos (c := ((mvs g wt th st p b k : Nat) : Int) ≤ 0) (by omega), if_pos hm]
            exact ih e b (k + 1) c (n + 1) m Z (by omega) (by omega) (by omega) (by omega) (by omega) (by omega) (by omega) (hY.tr a1)
          · rw [if_neg (c := ((mvs g wt th st p b k : Nat) : Int) ≤ 0) (by omega), if_neg hm]
            by_cases hc : (c : Int) = K
            · rw [if_pos hc, if_pos hc, show (10 : Int32) = zI 10 from rfl, zM, zA]
              exact ⟨Z, rfl, hY.tr a1⟩
            · rw [if_neg hc, if_neg hc]
              exact ih e b (k + 1) (c + 1) (n + 1) m Z (by omega) (by omega) (by omega) (by omega) (by omega) (by omega) (by omega) (hY.tr a1)
        · rw [if_pos (by omega)]
          obtain ⟨e', rfl⟩ : ∃ e', e = e' + 1 + (6 - k) := ⟨e - 1 - (6 - k), by omega⟩
          rw [pA_skip (fun q hq => if_neg h0) (6 - k) k e' (by omega)]
          exact nxt e' (by omega) (by omega)
  obtain ⟨n, rfl⟩ : ∃ n', N = n' + 1 := ⟨N - 1, by omega⟩
  unfold fX9_possibleAt
  show ∃ M2, fX9_possibleAt_4b (n + 1) (fX9_possibleAt_4 (n + 1) n) (zI K) 0 0 M = _ ∧ _
  unfold fX9_possibleAt_4b
  rw [zl5, zl0, i_le (by omega) (by omega), if_neg (by omega)]
  exact main 35 35 0 0 0 n (n + 1) M (by omega) (by omega) (by omega) (by omega) (by omega) (by omega) (by omega) (agr.rf _)
theorem x_possibleCount {N : Nat} {g : Lv} {X : St} {wt th p : Nat → Nat} {v st : Nat} (hN : 100 ≤ N) (hg : xY g X) (hB : xB g X) (hw : wfL g) (hok : okA g p) (hwt : xW8 g wt X) (hw9 : ∀ b, wt b ≤ 9) (hst : X.1 2 = zI st) (hst2 : st ≤ 45) (hm : xMv g wt th p v 0 X) (hv : enc p v) : ∃ Y, fX8_possibleCount_18 N N (zI 0) (zI 0) X = some (zI (-(pA (mv0 g wt th st p) (-1) 35 0 0 0) - 1), Y) ∧ agm 0 X Y := by
  have main : ∀ (e b k c n m : Nat) (Y : St), e + 7 * b + k = 35 → k ≤ 6 → b < 5 → c + e ≤ 35 → 6 - b < n → 8 - k < m → agm 0 X Y → xMv g wt th p v 0 Y → ∃ Y2, fX8_possibleCount_25 N (fX8_possibleCount_18 N n) m (zI c) (zI b) (zI k) Y = some (zI (-(pA (mv0 g wt th st p) (-1) e b k c) - 1), Y2) ∧ agm 0 X Y2 := by
    intro e
    induction e with
    | zero => intro b k c n m Y h1 h2 h3; omega
    | succ e ih =>
      intro b k c n m Y h2 h3 h4 h5 h6 h7 aY mY
      obtain ⟨m, rfl⟩ : ∃ n', m = n' + 1 := ⟨m - 1, by omega⟩
      obtain ⟨n, rfl⟩ : ∃ n', n = n' + 1 := ⟨n - 1, by omega⟩
      show ∃ Y2, fX8_possibleCount_25b N (fX8_possibleCount_18 N (n + 1)) (fX8_possibleCount_25 N (fX8_possibleCount_18 N (n + 1)) m) (zI c) (zI b) (zI k) Y = _ ∧ _
      unfold fX8_possibleCount_25b pA
      rw [zl6, i_le (by omega) (by omega)]
      by_cases hk6 : (6 : Int) ≤ (k : Int)
      · rw [if_pos hk6, if_pos (by omega)]
        show ∃ Y2, fX8_possibleCount_18b N (fX8_possibleCount_18 N n) (zI c) (zI b + 1) Y = _ ∧ _
        unfold fX8_possibleCount_18b
        rw [zl5, zl1, zA, i_le (by omega) (by omega)]
        by_cases hb4 : (5 : Int) ≤ (b : Int) + 1
        · rw [if_pos hb4, show e = 0 by omega]
          refine ⟨Y, ?_, aY⟩
          show some (zI (c : Int), Y) = some (zI (-(-(c : Int) - 1) - 1), Y)
          rw [show (-(-(c : Int) - 1) - 1) = (c : Int) by omega]
        · rw [if_neg hb4]
          exact ih (b + 1) 0 c n N Y (by omega) (by omega) (by omega) (by omega) (by omega) (by omega) aY mY
      · obtain ⟨Z, e1, a1, m1, _⟩ := x_att0 (N := N) (st := st) (k := k) hN (aY.xY (by omega) hg) (aY.xB (by omega) hB) hw hok (aY.xW8 hwt) hw9 (by rw [aY.1 2 (by simp)]; exact hst) hst2 mY hv h4 (by omega)
        have hlt := mv0_lt (g := g) (wt := wt) (th := th) (st := st) (p := p) (k := k) h4
        unfold fX8_possibleCount_46
        rw [if_neg hk6, if_neg (by omega), e1, bd_ok, zl0, i_eq (by omega) (by omega), zl1, zA, zA]
        by_cases hm : mv0 g wt th st p b k = 0
        · rw [if_pos (by omega), if_pos hm]
          exact ih b (k + 1) c (n + 1) m Z (by omega) (by omega) (by omega) (by omega) (by omega) (by omega) (aY.tr a1) m1
        · rw [if_neg (by omega), if_neg hm, if_neg (by omega)]
          exact ih b (k + 1) (c + 1) (n + 1) m Z (by omega) (by omega) (by omega) (by omega) (by omega) (by omega) (aY.tr a1) m1
  obtain ⟨n, rfl⟩ : ∃ n', N = n' + 1 := ⟨N - 1, by omega⟩
  show ∃ M2, fX8_possibleCount_18b (n + 1) (fX8_possibleCount_18 (n + 1) n) (zI 0) (zI 0) X = _ ∧ _
  unfold fX8_possibleCount_18b
  rw [zl5, zl0, i_le (by omega) (by omega), if_neg (by omega)]
  exact main 35 0 0 0 n (n + 1) X (by omega) (by omega) (by omega) (by omega) (by omega) (by omega) (agr.rf _) hm
theorem x_possible {N : Nat} {g : Lv} {X : St} {wt th p : Nat → Nat} {v st : Nat} (hN : 100 ≤ N) (hg : xY g X) (hB : xB g X) (hw : wfL g) (hok : okA g p) (hwt : xW8 g wt X) (hw9 : ∀ b, wt b ≤ 9) (hst : X.1 2 = zI st) (hst2 : st ≤ 45) (hm : xMv g wt th p v 0 X) (hv : enc p v) {K : Int} (hK : 0 ≤ K ∧ K < 2147483648) : ∃ Y, fX8_possible_25 N N (zI K) (zI 0) X = some (zI (if 0 ≤ pA (mv0 g wt th st p) K 35 0 0 0 then pA (mv0 g wt th st p) K 35 0 0 0 else -7), Y) ∧ agm 0 X Y := by
  have main : ∀ (e b k c n m : Nat) (Y : St), e + 7 * b + k = 35 → k ≤ 6 → b < 5 → c + e ≤ 35 → 6 - b < n → 8 - k < m → agm 0 X Y → xMv g wt th p v 0 Y → ∃ Y2, fX8_possible_33 N (fX8_possible_25 N n) m (zI (K - (c : Int))) (zI b) (zI k) Y = some (zI (if 0 ≤ pA (mv0 g wt th st p) K e b k c then pA (mv0 g wt th st p) K e b k c else -7), Y2) ∧ agm 0 X Y2 := by
    intro e
    induction e with
    | zero => intro b k c n m Y h1 h2 h3; omega
    | succ e ih =>
      intro b k c n m Y h2 h3 h4 h5 h6 h7 aY mY
      obtain ⟨m, rfl⟩ : ∃ n', m = n' + 1 := ⟨m - 1, by omega⟩
      obtain ⟨n, rfl⟩ : ∃ n', n = n' + 1 := ⟨n - 1, by omega⟩
      show ∃ Y2, fX8_possible_33b N (fX8_possible_25 N (n + 1)) (fX8_possible_33 N (fX8_possible_25 N (n + 1)) m) (zI (K - (c : Int))) (zI b) (zI k) Y = _ ∧ _
      unfold fX8_possible_33b pA
      rw [zl6, i_le (by omega) (by omega)]
      by_cases hk6 : (6 : Int) ≤ (k : Int)
      · rw [if_pos hk6, if_pos (c := k = 6) (by omega)]
        show ∃ Y2, fX8_possible_25b N (fX8_possible_25 N n) (zI (K - (c : Int))) (zI b + 1) Y = _ ∧ _
        unfold fX8_possible_25b
        rw [zl5, zl1, zA, i_le (by omega) (by omega)]
        by_cases hb4 : (5 : Int) ≤ (b : Int) + 1
        · rw [if_pos hb4, show e = 0 by omega]
          refine ⟨Y, ?_, aY⟩
          show some (zI (-7), Y) = some (zI (if 0 ≤ -(c : Int) - 1 then -(c : Int) - 1 else -7), Y)
          rw [if_neg (by omega)]
        · rw [if_neg hb4]
          exact ih (b + 1) 0 c n N Y (by omega) (by omega) (by omega) (by omega) (by omega) (by omega) aY mY
      · obtain ⟨Z, e1, a1, m1, _⟩ := x_att0 (N := N) (st := st) (k := k) hN (aY.xY (by omega) hg) (aY.xB (by omega) hB) hw hok (aY.xW8 hwt) hw9 (by rw [aY.1 2 (by simp)]; exact hst) hst2 mY hv h4 (by omega)
        have hlt := mv0_lt (g := g) (wt := wt) (th := th) (st := st) (p := p) (k := k) h4
        unfold fX8_possible_67 fX8_moveCode
        rw [if_neg hk6, if_neg (c := k = 6) (by omega), e1, bd_ok, zl0, i_eq (by omega) (by omega), i_eq (by omega) (by omega), zlm1, zl1, zA, zA]
        by_cases hm : mv0 g wt th st p b k = 0
        · rw [if_pos (c := ((mv0 g wt th st p b k : Nat) : Int) = 0) (by omega), if_pos hm]
          exact ih b (k + 1) c (n + 1) m Z (by omega) (by omega) (by omega) (by omega) (by omega) (by omega) (aY.tr a1) m1
        · rw [if_neg (c := ((mv0 g wt th st p b k : Nat) : Int) = 0) (by omega), if_neg hm]
          by_cases hc : (c : Int) = K
          · rw [if_pos (c := K - (c : Int) = 0) (by omega), if_pos hc, if_pos (by omega), bd_ok, show (10 : Int32) = zI 10 from rfl, zM, zA]
            exact ⟨Z, rfl, aY.tr a1⟩
          · rw [if_neg (c := K - (c : Int) = 0) (by omega), if_neg hc, show K - (c : Int) + -1 = K - ((c + 1 : Nat) : Int) by omega]
            exact ih b (k + 1) (c + 1) (n + 1) m Z (by omega) (by omega) (by omega) (by omega) (by omega) (by omega) (aY.tr a1) m1
  obtain ⟨n, rfl⟩ : ∃ n', N = n' + 1 := ⟨N - 1, by omega⟩
  show ∃ M2, fX8_possible_25b (n + 1) (fX8_possible_25 (n + 1) n) (zI K) (zI 0) X = _ ∧ _
  unfold fX8_possible_25b
  rw [zl5, zl0, i_le (by omega) (by omega), if_neg (by omega)]
  have := main 35 0 0 0 n (n + 1) X (by omega) (by omega) (by omega) (by omega) (by omega) (by omega) (agr.rf _) hm
  rw [show K - ((0 : Nat) : Int) = K by omega] at this
  exact this
theorem k_possibleCount {N : Nat} (hN : 3000 ≤ N) : ∀ (X M : St), Rel X M → ∃ r X2 M2, fX8_possibleCount N X = some (r, X2) ∧ fX9_possibleCount N M = some (r, M2) ∧ Rel X2 M2 := by
  rintro X M ⟨g, wt, th, st, gx, gy, gt, D, p, h⟩
  have hw := h.1.1
  obtain ⟨Y, e1, a1, m1⟩ := k_stand hN h
  obtain ⟨Z, e2, a2⟩ := x_possibleCount (N := N) (st := st) (by omega) (a1.xY (by omega) h.2.2.1.1) (a1.xB (by omega) h.2.2.1.2.1) hw h.2.1 (a1.xW8 h.2.2.1.2.2.1) h.1.2.2.1 (by rw [a1.1 2 (by simp)]; exact h.2.2.1.2.2.2.2.1) h.1.2.2.2.1 m1 (pkA_enc fun b hb => (h.2.1.1 b hb).1)
  obtain ⟨W, e3, a3⟩ := m_possibleAt (N := N) (K := -1) (by omega) h.2.2.2.1.1 hw h.2.2.2.1.2.1 h.1.2.1 h.2.2.2.1.2.2.1 h.1.2.2.1 h.2.2.2.2.1 h.2.1 h.2.2.2.1.2.2.2.1 h.1.2.2.2.1 (by omega)
  unfold fX8_possibleCount fX9_possibleCount
  rw [x_present h.2.2.2.2.2.2.1, bd_ok, e1, bd_ok, zl0, e2, zlm1, e3, bd_ok, zl1, zN, zS]
  exact ⟨_, Z, W, rfl, rfl, (h.same (agm0_xs (a1.tr a2)) (a3.wk (by simp) (by simp) (by simp) (by simp)) (a3.2.2.1 9 (by decide))).rel⟩
theorem k_possible {N : Nat} (hN : 3000 ≤ N) : ∀ (p1 : Int32) (X M : St), Rel X M → ∃ r X2 M2, fX8_possible N p1 X = some (r, X2) ∧ fX9_possible N p1 M = some (r, M2) ∧ Rel X2 M2 := by
  rintro p1 X M ⟨g, wt, th, st, gx, gy, gt, D, p, h⟩
  obtain ⟨K, rfl, hK⟩ := z_ex p1
  have hw := h.1.1
  unfold fX8_possible fX9_possible fX9_possible_23
  rw [zl0, i_le (by omega) (by omega), i_le (by omega) (by omega)]
  by_cases h0 : 0 ≤ K
  · obtain ⟨Y, e1, a1, m1⟩ := k_stand hN h
    obtain ⟨Z, e2, a2⟩ := x_possible (N := N) (st := st) (K := K) (by omega) (a1.xY (by omega) h.2.2.1.1) (a1.xB (by omega) h.2.2.1.2.1) hw h.2.1 (a1.xW8 h.2.2.1.2.2.1) h.1.2.2.1 (by rw [a1.1 2 (by simp)]; exact h.2.2.1.2.2.2.2.1) h.1.2.2.2.1 m1 (pkA_enc fun b hb => (h.2.1.1 b hb).1) (by omega)
    obtain ⟨W, e3, a3⟩ := m_possibleAt (N := N) (K := K) (by omega) h.2.2.2.1.1 hw h.2.2.2.1.2.1 h.1.2.1 h.2.2.2.1.2.2.1 h.1.2.2.1 h.2.2.2.2.1 h.2.1 h.2.2.2.1.2.2.2.1 h.1.2.2.2.1 (by omega)
    have hbd := pA_bd (F := mv0 g wt th st p) (K := K) 35 0 0 0 (by omega) (by omega)
    rw [if_pos h0, if_pos h0, x_present h.2.2.2.2.2.2.1, bd_ok, e1, bd_ok, e2, e3, bd_ok, i_le (by omega) (by omega)]
    have hR := (h.same (agm0_xs (a1.tr a2)) (a3.wk (by simp) (by simp) (by simp) (by simp)) (a3.2.2.1 9 (by decide))).rel
    by_cases hp : 0 ≤ pA (mv0 g wt th st p) K 35 0 0 0
    · rw [if_pos hp, if_pos hp]; exact ⟨_, Z, W, rfl, rfl, hR⟩
    · rw [if_neg hp, if_neg hp]; exact ⟨_, Z, W, rfl, rfl, hR⟩
  · rw [if_neg h0, if_neg h0]
    exact ⟨_, X, M, rfl, rfl, h.rel⟩
