/-! a turn of one block, as the class has it -/
def ni (r : Int) (q : Int × Int) : Nat → Int × Int
  | 0 => q
  | j + 1 => nxR r (ni r q j).1 (ni r q j).2
theorem ri_true (r : Int) (q : Int × Int) : ∀ j, ri true r q j = ni r q j := by
  intro j
  induction j with
  | zero => rfl
  | succ j ih =>
    show rst true r (ri true r q j) = nxR r (ni r q j).1 (ni r q j).2
    rw [ih]
    rfl
def rg7 (x y : Int) : Prop := -7 ≤ x ∧ x ≤ 7 ∧ -7 ≤ y ∧ y ≤ 7
def rck (x y : Int) : Bool := (decide (x = 0) && decide (y = 0)) || (decide (rad (nxR (rad x y) x y).1 (nxR (rad x y) x y).2 = rad x y) && (decide (-7 ≤ (nxR (rad x y) x y).1) && (decide ((nxR (rad x y) x y).1 ≤ 7) && (decide (-7 ≤ (nxR (rad x y) x y).2) && (decide ((nxR (rad x y) x y).2 ≤ 7) && (decide ((rst false (rad x y) (x, -y)).1 = (nxR (rad x y) x y).1) && decide ((rst false (rad x y) (x, -y)).2 = -(nxR (rad x y) x y).2)))))))
theorem ring_step0 : ∀ a : Nat, a < 15 → ∀ b : Nat, b < 15 → rck ((a : Int) - 7) ((b : Int) - 7) = true := by decide +kernel
theorem ring_step {x y : Int} (h : rg7 x y) (h0 : 0 < rad x y) : rad (nxR (rad x y) x y).1 (nxR (rad x y) x y).2 = rad x y ∧ rg7 (nxR (rad x y) x y).1 (nxR (rad x y) x y).2 ∧ rst false (rad x y) (x, -y) = ((nxR (rad x y) x y).1, -(nxR (rad x y) x y).2) := by
  obtain ⟨h1, h2, h3, h4⟩ := h
  have hne : x ≠ 0 ∨ y ≠ 0 := by
    refine Classical.byContradiction fun q => ?_
    have hx : x = 0 := by omega
    have hy : y = 0 := by omega
    subst hx; subst hy
    exact absurd h0 (by decide)
  have := ring_step0 (x + 7).toNat (by omega) (y + 7).toNat (by omega)
  rw [show (((x + 7).toNat : Nat) : Int) - 7 = x by omega, show (((y + 7).toNat : Nat) : Int) - 7 = y by omega] at this
  unfold rck at this
  simp only [Bool.or_eq_true, Bool.and_eq_true, decide_eq_true_eq] at this
  rcases this with q | ⟨r1, r2, r3, r4, r5, r6, r7⟩
  · omega
  · exact ⟨r1, ⟨r2, r3, r4, r5⟩, Prod.ext r6 r7⟩
theorem ab_neg (y : Int) : ab (-y) = ab y := by
  unfold ab
  split <;> split <;> omega
theorem rad_neg (x y : Int) : rad x (-y) = rad x y := by
  unfold rad
  rw [ab_neg]
theorem ri_false {x y : Int} (h : rg7 x y) (h0 : 0 < rad x y) : ∀ j, ri false (rad x y) (x, y) j = ((ni (rad x y) (x, -y) j).1, -(ni (rad x y) (x, -y) j).2) ∧ rad (ni (rad x y) (x, -y) j).1 (ni (rad x y) (x, -y) j).2 = rad x y ∧ rg7 (ni (rad x y) (x, -y) j).1 (ni (rad x y) (x, -y) j).2 := by
  intro j
  induction j with
  | zero =>
    refine ⟨?_, rad_neg x y, ?_⟩
    · show (x, y) = (x, - -y)
      rw [Int.neg_neg]
    · unfold rg7 at h ⊢
      show -7 ≤ x ∧ x ≤ 7 ∧ -7 ≤ -y ∧ -y ≤ 7
      omega
  | succ j ih =>
    obtain ⟨i1, i2, i3⟩ := ih
    have := ring_step i3 (by rw [i2]; exact h0)
    rw [i2] at this
    refine ⟨?_, this.1, this.2.1⟩
    show rst false (rad x y) (ri false (rad x y) (x, y) j) = _
    rw [i1]
    exact this.2.2
def t0 (g : Lv) (w : Int64) (x y : Int) : Bool := decide (inY g x y) && !(bit w (8 * y + x).toNat)
def sns (cw : Bool) : Int := if cw then 1 else -1
theorem swp_ni {t : Int → Int → Bool} {cw : Bool} {px py x y : Int} (h : rg7 x y) : swp t cw px py x y = allB (2 * rad x y).toNat fun j => t (px + (ni (rad x y) (x, sns cw * y) (j + 1)).1) (py + sns cw * (ni (rad x y) (x, sns cw * y) (j + 1)).2) := by
  unfold swp
  apply allB_cong
  intro j hj
  cases cw
  · have hr : 0 < rad x y := by omega
    rw [(ri_false h hr (j + 1)).1]
    show t (px + (ni (rad x y) (x, -y) (j + 1)).1) (py + -(ni (rad x y) (x, -y) (j + 1)).2) = t (px + (ni (rad x y) (x, -1 * y) (j + 1)).1) (py + -1 * (ni (rad x y) (x, -1 * y) (j + 1)).2)
    rw [show -1 * y = -y by omega, show -1 * (ni (rad x y) (x, -y) (j + 1)).2 = -(ni (rad x y) (x, -y) (j + 1)).2 by omega]
  · rw [ri_true]
    show t (px + (ni (rad x y) (x, y) (j + 1)).1) (py + (ni (rad x y) (x, y) (j + 1)).2) = t (px + (ni (rad x y) (x, 1 * y) (j + 1)).1) (py + 1 * (ni (rad x y) (x, 1 * y) (j + 1)).2)
    rw [Int.one_mul, Int.one_mul]
theorem ni_bd {r : Int} {q : Int × Int} (h : -7 ≤ q.1 ∧ q.1 ≤ 7 ∧ -7 ≤ q.2 ∧ q.2 ≤ 7) : ∀ j : Nat, -7 - (j : Int) ≤ (ni r q j).1 ∧ (ni r q j).1 ≤ 7 + j ∧ -7 - (j : Int) ≤ (ni r q j).2 ∧ (ni r q j).2 ≤ 7 + j := by
  intro j
  have := ri_bd (cw := true) (r := r) h j
  rw [ri_true] at this
  exact this
theorem zab {a : Int} (h : -7 ≤ a ∧ a ≤ 7) : (if (0 : Int32) ≤ zI a then zI a else 0 - zI a) = zI (ab a) := by
  unfold ab
  rw [zl0, i_le (by omega) (by omega), zS]
  by_cases h1 : 0 ≤ a
  · rw [if_pos h1, if_pos h1]
  · rw [if_neg h1, if_neg h1]
    congr 1
    omega
theorem x_sweep {N : Nat} {g : Lv} {X : St} (hN : 100 ≤ N) (hg : xY g X) (hw : wfL g) {p : Nat} (hp : p < 256) {a b0 s : Int} (hs : s = 1 ∨ s = -1) (hab : rg7 a b0) {w : Int64} : fX0_sweepIsClear N (zI p) (zI a) (zI b0) (zI s) w X = some (allB (2 * rad a b0).toNat fun j => t0 g w (((p % 8 : Nat) : Int) + (ni (rad a b0) (a, b0) (j + 1)).1) (((p / 8 % 8 : Nat) : Int) + s * (ni (rad a b0) (a, b0) (j + 1)).2), X) := by
  obtain ⟨q1, q2, q3, q4⟩ := hab
  have hr := rad_bd ⟨q1, q2, q3, q4⟩
  have l96 : ∀ (K : Int32 → Int32 → Int64 → Int32 → Int32 → Int32 → Int32 → St → Option (Bool × St)) (x y : Int) (j : Nat), (-30 ≤ x ∧ x ≤ 30 ∧ -30 ≤ y ∧ y ≤ 30) → j < 100 → fX0_sweepIsClear_96 N K (zI p) (zI s) w (zI (rad a b0)) (zI x) (zI y) (zI j) X = if t0 g w (((p % 8 : Nat) : Int) + x) (((p / 8 % 8 : Nat) : Int) + s * y) = true then K (zI p) (zI s) w (zI (rad a b0)) (zI x) (zI y) (zI (j + 1 : Nat)) X else some (false, X) := by
    intro K x y j hxy hj
    unfold fX0_sweepIsClear_96 fX0_sweepIsClear_134 t0
    have hsy : -30 ≤ s * y ∧ s * y ≤ 30 := by rcases hs with h | h <;> subst h <;> omega
    generalize hY : s * y = Y at *
    rw [x_columnOf hp, bd_ok, x_rowOf hp, bd_ok, zA, zM, hY, zA, x_cellAt hg hw (by omega) (by omega), bd_ok, zl0]
    by_cases h1 : inY g (((p % 8 : Nat) : Int) + x) (((p / 8 % 8 : Nat) : Int) + Y)
    · obtain ⟨c, c1, c2, c3, c4, c5⟩ := celN hw h1
      rw [if_pos h1, ← c1, i_lt (by omega) (by omega), if_neg (by omega), x_holds c2, bd_ok, i_b, decide_eq_true h1, show ((c : Int)).toNat = c by omega, zl1, zA]
      cases bit w c
      · rfl
      · rfl
    · rw [if_neg h1, i_lt (by omega) (by omega), if_pos (by omega), decide_eq_false h1]
      rfl
  have step : ∀ (K : Int32 → Int32 → Int64 → Int32 → Int32 → Int32 → Int32 → St → Option (Bool × St)) (x y : Int) (j : Nat), (-25 ≤ x ∧ x ≤ 25 ∧ -25 ≤ y ∧ y ≤ 25) → (j : Int) < 2 * rad a b0 → fX0_sweepIsClear_22b N K (zI p) (zI s) w (zI (rad a b0)) (zI x) (zI y) (zI j) X = if t0 g w (((p % 8 : Nat) : Int) + (nxR (rad a b0) x y).1) (((p / 8 % 8 : Nat) : Int) + s * (nxR (rad a b0) x y).2) = true then K (zI p) (zI s) w (zI (rad a b0)) (zI (nxR (rad a b0) x y).1) (zI (nxR (rad a b0) x y).2) (zI (j + 1 : Nat)) X else some (false, X) := by
    intro K x y j hxy hj
    generalize rad a b0 = r at *
    have l93 : fX0_sweepIsClear_93 N K (zI p) (zI s) w (zI r) (zI x) (zI y) (zI j) X = if t0 g w (((p % 8 : Nat) : Int) + x) (((p / 8 % 8 : Nat) : Int) + s * (y + -1)) = true then K (zI p) (zI s) w (zI r) (zI x) (zI (y + -1)) (zI (j + 1 : Nat)) X else some (false, X) := by
      unfold fX0_sweepIsClear_93
      rw [zlm1, zA, l96 K x (y + -1) j (by omega) (by omega)]
    unfold fX0_sweepIsClear_22b fX0_sweepIsClear_52 fX0_sweepIsClear_72
    rw [zl2, zM, i_le (by omega) (by omega), if_neg (by omega), zN, i_eq (by omega) (by omega), i_le (by omega) (by omega), i_eq (by omega) (by omega), i_le (by omega) (by omega), i_eq (by omega) (by omega), i_le (by omega) (by omega), l93, zl1, zN, zA, zA, zA, l96 K (x + 1) y j (by omega) (by omega), l96 K x (y + 1) j (by omega) (by omega), l96 K (x + -1) y j (by omega) (by omega)]
    unfold nxR
    by_cases h1 : y = -r ∧ x < r
    · rw [if_pos h1.1, if_neg (c := r ≤ x) (by omega), if_pos h1]
    · rw [if_neg (c := y = -r ∧ x < r) h1]
      have e1 : ∀ (A B : Option (Bool × St)), (if y = -r then (if r ≤ x then A else B) else A) = A := by
        intro A B
        by_cases h2 : y = -r
        · rw [if_pos h2, if_pos (by omega)]
        · rw [if_neg h2]
      rw [e1]
      by_cases h3 : x = r ∧ y < r
      · rw [if_pos h3.1, if_neg (c := r ≤ y) (by omega), if_pos h3]
      · rw [if_neg (c := x = r ∧ y < r) h3]
        have e2 : ∀ (A B : Option (Bool × St)), (if x = r then (if r ≤ y then A else B) else A) = A := by
          intro A B
          by_cases h2 : x = r
          · rw [if_pos h2, if_pos (by omega)]
          · rw [if_neg h2]
        rw [e2]
        by_cases h4 : y = r ∧ -r < x
        · rw [if_pos h4.1, if_neg (c := x ≤ -r) (by omega), if_pos h4]
          rfl
        · rw [if_neg (c := y = r ∧ -r < x) h4]
          have e3 : ∀ (A B : Option (Bool × St)), (if y = r then (if x ≤ -r then A else B) else A) = A := by
            intro A B
            by_cases h2 : y = r
            · rw [if_pos h2, if_pos (by omega)]
            · rw [if_neg h2]
          rw [e3]
          rfl
  have key : ∀ (d j n : Nat), (j : Int) + d = 2 * rad a b0 → d < n → (allB j fun j => t0 g w (((p % 8 : Nat) : Int) + (ni (rad a b0) (a, b0) (j + 1)).1) (((p / 8 % 8 : Nat) : Int) + s * (ni (rad a b0) (a, b0) (j + 1)).2)) = true → fX0_sweepIsClear_22 N n (zI p) (zI s) w (zI (rad a b0)) (zI (ni (rad a b0) (a, b0) j).1) (zI (ni (rad a b0) (a, b0) j).2) (zI j) X = some (allB (2 * rad a b0).toNat fun j => t0 g w (((p % 8 : Nat) : Int) + (ni (rad a b0) (a, b0) (j + 1)).1) (((p / 8 % 8 : Nat) : Int) + s * (ni (rad a b0) (a, b0) (j + 1)).2), X) := by
    intro d
    induction d with
    | zero =>
      intro j n hj hn hpre
      obtain ⟨n, rfl⟩ : ∃ n', n = n' + 1 := ⟨n - 1, by omega⟩
      show fX0_sweepIsClear_22b N (fX0_sweepIsClear_22 N n) (zI p) (zI s) w (zI (rad a b0)) (zI (ni (rad a b0) (a, b0) j).1) (zI (ni (rad a b0) (a, b0) j).2) (zI j) X = _
      unfold fX0_sweepIsClear_22b
      rw [zl2, zM, i_le (by omega) (by omega), if_pos (by omega), show (2 * rad a b0).toNat = j by omega, hpre]
    | succ d ih =>
      intro j n hj hn hpre
      obtain ⟨n, rfl⟩ : ∃ n', n = n' + 1 := ⟨n - 1, by omega⟩
      have bd := ni_bd (r := rad a b0) (q := (a, b0)) ⟨q1, q2, q3, q4⟩ j
      show fX0_sweepIsClear_22b N (fX0_sweepIsClear_22 N n) (zI p) (zI s) w (zI (rad a b0)) (zI (ni (rad a b0) (a, b0) j).1) (zI (ni (rad a b0) (a, b0) j).2) (zI j) X = _
      rw [step _ _ _ j (by omega) (by omega)]
      have e : nxR (rad a b0) (ni (rad a b0) (a, b0) j).1 (ni (rad a b0) (a, b0) j).2 = ni (rad a b0) (a, b0) (j + 1) := rfl
      rw [e]
      by_cases hc : t0 g w (((p % 8 : Nat) : Int) + (ni (rad a b0) (a, b0) (j + 1)).1) (((p / 8 % 8 : Nat) : Int) + s * (ni (rad a b0) (a, b0) (j + 1)).2) = true
      · rw [if_pos hc]
        exact ih (j + 1) n (by omega) (by omega) (by simp only [allB]; rw [hpre, hc]; rfl)
      · rw [if_neg hc, allB_f.mpr ⟨j, by omega, by rw [Bool.not_eq_true] at hc; exact hc⟩]
  unfold fX0_sweepIsClear
  have a1 := ab_bd (a := a) (by omega)
  have a2 := ab_bd (a := b0) (by omega)
  have er : (if zI (ab a) < zI (ab b0) then zI (ab b0) else zI (ab a)) = zI (rad a b0) := by
    rw [i_lt (by omega) (by omega)]
    unfold rad
    by_cases h : ab a < ab b0
    · rw [if_pos h, if_pos (by omega)]
    · rw [if_neg h]
      by_cases h2 : ab a ≤ ab b0
      · rw [if_pos h2]; congr 1; omega
      · rw [if_neg h2]
  rw [zab (a := a) (by omega), zab (a := b0) (by omega), er, nm_ok]
  exact key (2 * rad a b0).toNat 0 N (by omega) (by omega) rfl
def okT (g : Lv) (b p : Nat) (cw : Bool) (w : Int64) : Bool := allB (gN g b) fun i => swp (t0 g w) cw ((p % 8 : Nat) : Int) ((p / 8 % 8 : Nat) : Int) (oX g b i p) (oY g b i p)
theorem x_afterTurn {N : Nat} {g : Lv} {X : St} (hN : 100 ≤ N) (hg : xY g X) (hB : xB g X) (hw : wfL g) {b p k : Nat} {w : Int64} (hb : b < 5) (hp : p < 256) (hk : k < 6) (hk4 : 4 ≤ k) : fX0_afterTurn N b (zI p) (zI k) w X = some (zI (if okT g b p (k == 4) (w ||| X.2.1 0 ||| X.2.1 1) then pbI p k else -1), X) := by
  have hn5 := hw.2.2.1 b
  have hB1 := hB b hb
  have key : ∀ (W : Int64) (cw : Bool), (k == 4) = cw → ∀ (d i n : Nat), i + d = gN g b → d < n → (allB i fun i => swp (t0 g W) cw ((p % 8 : Nat) : Int) ((p / 8 % 8 : Nat) : Int) (oX g b i p) (oY g b i p)) = true → fX0_afterTurn_38 N b n (zI p) (zI k) (zI ((5 * (p / 64) : Nat))) W (zI (sns cw)) (zI ((5 * (p / 64) + i : Nat))) X = some (zI (if okT g b p (k == 4) W then pbI p k else -1), X) := by
    intro W cw hcw d
    rw [hcw]
    induction d with
    | zero =>
      intro i n hi hn hpre
      obtain ⟨n, rfl⟩ : ∃ n', n = n' + 1 := ⟨n - 1, by omega⟩
      show fX0_afterTurn_38b N b (fX0_afterTurn_38 N b n) (zI p) (zI k) (zI ((5 * (p / 64) : Nat))) W (zI (sns cw)) (zI ((5 * (p / 64) + i : Nat))) X = _
      unfold fX0_afterTurn_38b
      have : okT g b p cw W = true := by
        unfold okT
        rw [show gN g b = i by omega]
        exact hpre
      rw [hB1.1, zA, i_le (by omega) (by omega), if_pos (by omega), x_shifted hg hw hp hk, bd_ok, if_neg (c := k < 4 ∧ ¬ inY g (((p % 8 : Nat) : Int) + dX k) (((p / 8 % 8 : Nat) : Int) + dY k)) (by omega), this, if_pos rfl]
    | succ d ih =>
      intro i n hi hn hpre
      obtain ⟨n, rfl⟩ : ∃ n', n = n' + 1 := ⟨n - 1, by omega⟩
      have hig : i < gN g b := by omega
      obtain ⟨eX, eY⟩ := hB1.2.1 (p / 64) (by omega) i hig
      have hX := rX_bd (o := p / 64) (hw.2.2.2.1 b i)
      have hY := rY_bd (o := p / 64) (hw.2.2.2.1 b i)
      have h7 : rg7 (oX g b i p) (oY g b i p) := ⟨hX.1, hX.2, hY.1, hY.2⟩
      have hs7 : rg7 (oX g b i p) (sns cw * oY g b i p) := by
        unfold rg7 at h7 ⊢
        cases cw
        · show _ ∧ _ ∧ -7 ≤ -1 * oY g b i p ∧ -1 * oY g b i p ≤ 7
          omega
        · show _ ∧ _ ∧ -7 ≤ 1 * oY g b i p ∧ 1 * oY g b i p ≤ 7
          omega
      have hrd : rad (oX g b i p) (sns cw * oY g b i p) = rad (oX g b i p) (oY g b i p) := by
        cases cw
        · show rad (oX g b i p) (-1 * oY g b i p) = _
          rw [show -1 * oY g b i p = -oY g b i p by omega, rad_neg]
        · show rad (oX g b i p) (1 * oY g b i p) = _
          rw [Int.one_mul]
      have e1 : fX0_afterTurn_38b N b (fX0_afterTurn_38 N b n) (zI p) (zI k) (zI ((5 * (p / 64) : Nat))) W (zI (sns cw)) (zI ((5 * (p / 64) + i : Nat))) X = if swp (t0 g W) cw ((p % 8 : Nat) : Int) ((p / 8 % 8 : Nat) : Int) (oX g b i p) (oY g b i p) = true then fX0_afterTurn_38 N b n (zI p) (zI k) (zI ((5 * (p / 64) : Nat))) W (zI (sns cw)) (zI ((5 * (p / 64) + (i + 1) : Nat))) X else some (zI (-1), X) := by
        unfold fX0_afterTurn_38b
        rw [hB1.1, zA, i_le (by omega) (by omega), if_neg (by omega)]
        rw [ck_z (by omega) (by omega) (by omega), ck_z (by omega) (by omega) (by omega), z_cl (by omega) (by omega), show (((5 * (p / 64) + i : Nat)) : Int).toNat = 5 * (p / 64) + i by omega, eX, eY]
        show (bd (fX0_sweepIsClear N (zI p) (zI (oX g b i p)) (zI (sns cw) * zI (oY g b i p)) (zI (sns cw)) W X) _) = _
        rw [zM, x_sweep hN hg hw hp (by cases cw; exact Or.inr rfl; exact Or.inl rfl) hs7, bd_ok, zl0, i_b, swp_ni h7, hrd, zl1, zA, zN]
        rfl
      show fX0_afterTurn_38b N b (fX0_afterTurn_38 N b n) (zI p) (zI k) (zI ((5 * (p / 64) : Nat))) W (zI (sns cw)) (zI ((5 * (p / 64) + i : Nat))) X = _
      rw [e1]
      by_cases hs : swp (t0 g W) cw ((p % 8 : Nat) : Int) ((p / 8 % 8 : Nat) : Int) (oX g b i p) (oY g b i p) = true
      · rw [if_pos hs]
        exact ih (i + 1) n (by omega) (by omega) (by simp only [allB]; rw [hpre, hs]; rfl)
      · rw [if_neg hs]
        have : okT g b p cw W = false := allB_f.mpr ⟨i, hig, by rw [Bool.not_eq_true] at hs; exact hs⟩
        rw [this]
        rfl
  unfold fX0_afterTurn fX0_afterTurn_32
  rw [x_orientationOf hp, bd_ok, zl5, zM, nm_ok, nm_ok, show (5 * ((p / 64 : Nat) : Int)) = ((5 * (p / 64) : Nat) : Int) by omega, zl4, i_eq (by omega) (by omega)]
  by_cases h4 : k = 4
  · rw [if_pos (by omega), zl1]
    exact key (w ||| X.2.1 0 ||| X.2.1 1) true (by rw [h4]; rfl) (gN g b) 0 N (by omega) (by omega) rfl
  · rw [if_neg (by omega), zlm1]
    exact key (w ||| X.2.1 0 ||| X.2.1 1) false (beq_false_of_ne h4) (gN g b) 0 N (by omega) (by omega) rfl
