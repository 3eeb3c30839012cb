/-! a turn, as the reference has it -/
def ab (a : Int) : Int := if 0 ≤ a then a else -a
theorem ab_bd {a : Int} (h : -7 ≤ a ∧ a ≤ 7) : 0 ≤ ab a ∧ ab a ≤ 7 := by unfold ab; split <;> omega
def nxR (r x y : Int) : Int × Int := if y = -r ∧ x < r then (x + 1, y) else if x = r ∧ y < r then (x, y + 1) else if y = r ∧ -r < x then (x - 1, y) else (x, y - 1)
theorem nxR_bd (r x y : Int) : (nxR r x y).1 ≤ x + 1 ∧ x - 1 ≤ (nxR r x y).1 ∧ (nxR r x y).2 ≤ y + 1 ∧ y - 1 ≤ (nxR r x y).2 := by
  unfold nxR
  split
  · simp; omega
  · split
    · simp; omega
    · split <;> (simp; omega)
def rst (cw : Bool) (r : Int) (q : Int × Int) : Int × Int := if cw then nxR r q.1 q.2 else (-(nxR r (-q.1) q.2).1, (nxR r (-q.1) q.2).2)
def ri (cw : Bool) (r : Int) (q : Int × Int) : Nat → Int × Int
  | 0 => q
  | j + 1 => rst cw r (ri cw r q j)
theorem rst_bd (cw : Bool) (r : Int) (q : Int × Int) : (rst cw r q).1 ≤ q.1 + 1 ∧ q.1 - 1 ≤ (rst cw r q).1 ∧ (rst cw r q).2 ≤ q.2 + 1 ∧ q.2 - 1 ≤ (rst cw r q).2 := by
  unfold rst
  cases cw
  · have := nxR_bd r (-q.1) q.2
    simp only [Bool.false_eq_true, if_false]
    omega
  · have := nxR_bd r q.1 q.2
    simp only [if_true]
    omega
theorem ri_bd {cw : Bool} {r : Int} {q : Int × Int} (h : -7 ≤ q.1 ∧ q.1 ≤ 7 ∧ -7 ≤ q.2 ∧ q.2 ≤ 7) : ∀ j : Nat, -7 - (j : Int) ≤ (ri cw r q j).1 ∧ (ri cw r q j).1 ≤ 7 + j ∧ -7 - (j : Int) ≤ (ri cw r q j).2 ∧ (ri cw r q j).2 ≤ 7 + j := by
  intro j
  induction j with
  | zero => unfold ri; omega
  | succ j ih =>
    have := rst_bd cw r (ri cw r q j)
    show _ ≤ (rst cw r (ri cw r q j)).1 ∧ _
    have e : ri cw r q (j + 1) = rst cw r (ri cw r q j) := rfl
    rw [e]
    omega
def rg (M : St) (u v : Int32) : St := sI (sI M 6 u) 7 v
theorem rg_6 (M : St) (u v w : Int32) : sI (rg M u v) 6 w = rg M w v := by
  unfold rg sI
  congr 1
  funext j
  by_cases h6 : j = 6
  · simp [h6]
  · by_cases h7 : j = 7
    · simp [h7]
    · simp [h6, h7]
theorem rg_7 (M : St) (u v w : Int32) : sI (rg M u v) 7 w = rg M u w := by
  unfold rg sI
  congr 1
  funext j
  by_cases h6 : j = 6
  · simp [h6]
  · by_cases h7 : j = 7
    · simp [h7]
    · simp [h6, h7]
theorem rg_ag (M : St) (u v : Int32) : agr [6, 7] [] [] [] M (rg M u v) := ((agr.rf M).sI (by decide) u).sI (by decide) v
theorem rg_0 (M : St) : M = rg M (M.1 6) (M.1 7) := by
  unfold rg sI
  refine Prod.ext ?_ rfl
  funext j
  by_cases h6 : j = 6
  · simp [h6]
  · by_cases h7 : j = 7
    · simp [h7]
    · simp [h6, h7]
def sgn (cw : Bool) (x : Int) : Int := if cw then x else -x
theorem m_goRound {N : Nat} {M : St} {r : Int} {q : Int × Int} {cw : Bool} (hr : 0 ≤ r ∧ r ≤ 100) (hq : -100 ≤ q.1 ∧ q.1 ≤ 100 ∧ -100 ≤ q.2 ∧ q.2 ≤ 100) : fX9_goRound N (zI r) (b2i cw) (rg M (zI q.1) (zI q.2)) = some ((), rg M (zI (rst cw r q).1) (zI (rst cw r q).2)) := by
  -- the walk, with x as it is seen
  have l104 : ∀ (y u : Int), fX9_goRound_93 N (b2i cw) (zI y) (rg M (zI q.1) (zI u)) = some ((), rg M (zI (sgn cw y)) (zI u)) := by
    intro y u
    unfold fX9_goRound_93 fX9_goRound_104 sgn
    rw [zl0, i_b, zN]
    cases cw
    · simp only [Bool.false_eq_true, if_false, stp_ok]
      rw [rg_6]
    · simp only [if_true, stp_ok]
      rw [rg_6]
  have e7 : (rg M (zI q.1) (zI q.2)).1 7 = zI q.2 := rfl
  have e6 : (rg M (zI q.1) (zI q.2)).1 6 = zI q.1 := rfl
  have l83 : ∀ x : Int, fX9_goRound_83 N (b2i cw) (zI x) (rg M (zI q.1) (zI q.2)) = some ((), rg M (zI (sgn cw x)) (zI (q.2 - 1))) := by
    intro x
    unfold fX9_goRound_83
    rw [e7, zl1, zS, stp_ok, rg_7, l104]
  have l16 : ∀ x : Int, -100 ≤ x → x ≤ 100 → fX9_goRound_16 N (zI x) (zI r) (b2i cw) (rg M (zI q.1) (zI q.2)) = some ((), rg M (zI (sgn cw (nxR r x q.2).1)) (zI (nxR r x q.2).2)) := by
    intro x hx1 hx2
    have l63 : fX9_goRound_63 N (zI r) (b2i cw) (zI x) (rg M (zI q.1) (zI q.2)) = if q.2 = r ∧ -r < x then some ((), rg M (zI (sgn cw (x - 1))) (zI q.2)) else some ((), rg M (zI (sgn cw x)) (zI (q.2 - 1))) := by
      unfold fX9_goRound_63
      rw [e7, i_eq (by omega) (by omega), zN, i_le (by omega) (by omega), l83, zlm1, zA, l104]
      by_cases h1 : q.2 = r
      · by_cases h2 : x ≤ -r
        · rw [if_pos h1, if_pos h2, if_neg (by omega)]
        · rw [if_pos h1, if_neg h2, if_pos (by omega)]
          rfl
      · rw [if_neg h1, if_neg (by omega)]
    have l37 : fX9_goRound_37 N (zI r) (b2i cw) (zI x) (rg M (zI q.1) (zI q.2)) = if x = r ∧ q.2 < r then some ((), rg M (zI (sgn cw x)) (zI (q.2 + 1))) else if q.2 = r ∧ -r < x then some ((), rg M (zI (sgn cw (x - 1))) (zI q.2)) else some ((), rg M (zI (sgn cw x)) (zI (q.2 - 1))) := by
      unfold fX9_goRound_37
      rw [i_eq (by omega) (by omega), e7, i_le (by omega) (by omega), l63, zl1, zA, stp_ok, rg_7, l104]
      by_cases h1 : x = r
      · by_cases h2 : r ≤ q.2
        · rw [if_pos h1, if_pos h2, if_neg (c := x = r ∧ q.2 < r) (by omega)]
        · rw [if_pos h1, if_neg h2, if_pos (c := x = r ∧ q.2 < r) (by omega)]
      · rw [if_neg h1, if_neg (c := x = r ∧ q.2 < r) (by omega)]
    unfold fX9_goRound_16
    rw [e7, zN, i_eq (by omega) (by omega), i_le (by omega) (by omega), l37, zl1, zA, l104]
    unfold nxR
    by_cases h1 : q.2 = -r ∧ x < r
    · rw [if_pos h1.1, if_neg (c := r ≤ x) (by omega), if_pos h1]
    · rw [if_neg (c := q.2 = -r ∧ x < r) h1]
      generalize hE : (if x = r ∧ q.2 < r then some ((), rg M (zI (sgn cw x)) (zI (q.2 + 1))) else if q.2 = r ∧ -r < x then some ((), rg M (zI (sgn cw (x - 1))) (zI q.2)) else some ((), rg M (zI (sgn cw x)) (zI (q.2 - 1)))) = E
      have : (if q.2 = -r then (if r ≤ x then E else some ((), rg M (zI (sgn cw (x + 1))) (zI q.2))) else E) = E := by
        by_cases h2 : q.2 = -r
        · rw [if_pos h2, if_pos (by omega)]
        · rw [if_neg h2]
      rw [this, ← hE]
      by_cases h2 : x = r ∧ q.2 < r
      · simp only [if_pos h2]
      · by_cases h3 : q.2 = r ∧ -r < x
        · simp only [if_neg h2, if_pos h3]
        · simp only [if_neg h2, if_neg h3]
  unfold fX9_goRound
  rw [zl0, i_b, e6, zN, l16 q.1 hq.1 hq.2.1, l16 (-q.1) (by omega) (by omega)]
  unfold rst sgn
  cases cw
  · rfl
  · rfl
theorem m_absolute {N : Nat} {M : St} {a : Int} (h : -1000 ≤ a ∧ a ≤ 1000) : fX9_absolute N (zI a) M = some (zI (ab a), M) := by
  unfold fX9_absolute fX9_absolute_10 ab
  rw [zl0, i_le (by omega) (by omega), zN]
  by_cases h1 : 0 ≤ a
  · rw [if_pos h1, if_pos h1]
  · rw [if_neg h1, if_neg h1]
/-- what a turn asks of one cell that is passed -/
def tc1 (g : Lv) (wt th p : Nat → Nat) (b : Nat) (x y : Int) : Bool := psb g wt th p b x y && (!(decide (2 ≤ kd g x y ∧ kd g x y ≤ 5)) && (decide (ow g p (8 * y + x).toNat < 0) || decide (ow g p (8 * y + x).toNat = (b : Int))))
def rad (X Y : Int) : Int := if ab X ≤ ab Y then ab Y else ab X
theorem rad_bd {X Y : Int} (h : -7 ≤ X ∧ X ≤ 7 ∧ -7 ≤ Y ∧ Y ≤ 7) : 0 ≤ rad X Y ∧ rad X Y ≤ 7 := by
  have h1 := ab_bd (a := X) (by omega)
  have h2 := ab_bd (a := Y) (by omega)
  unfold rad
  split <;> omega
/-- the sweep of one cell: the offset (X, Y) from the pivot at (px, py); t is asked of every cell that is passed -/
def swp (t : Int → Int → Bool) (cw : Bool) (px py X Y : Int) : Bool := allB (2 * rad X Y).toNat fun j => t (px + (ri cw (rad X Y) (X, Y) (j + 1)).1) (py + (ri cw (rad X Y) (X, Y) (j + 1)).2)
def oX (g : Lv) (b i p : Nat) : Int := rX (p / 64) (gX g b i) (gY g b i)
def oY (g : Lv) (b i p : Nat) : Int := rY (p / 64) (gX g b i) (gY g b i)
def trn (g : Lv) (wt th p : Nat → Nat) (b : Nat) (cw : Bool) : Bool := allB (gN g b) fun i => swp (tc1 g wt th p b) cw ((p b % 8 : Nat) : Int) ((p b / 8 % 8 : Nat) : Int) (oX g b i (p b)) (oY g b i (p b))
theorem m_mayTurn {N : Nat} {g : Lv} {M : St} {wt th p : Nat → Nat} (hN : 100 ≤ N) (hg : mL g M) (hw : wfL g) (ho : mO g wt p M) (ht : mTh th M) (hth : ∀ r, th r ≤ 45) (hw9 : ∀ b, wt b ≤ 9) (hp : mPl p M) {b : Nat} {cw : Bool} (hb : b < 5) (hpb : p b < 256) : ∃ u v, fX9_mayTurn N (zI b) (b2i cw) M = some (trn g wt th p b cw, rg M u v) := by
  have hn5 := hw.2.2.1 b
  have G : ∀ u v, mL g (rg M u v) := fun u v => hg.ag (rg_ag M u v) (by decide) (by decide) (by decide) (by decide) (by decide) (by decide)
  have O : ∀ u v, mO g wt p (rg M u v) := fun u v => ho.ag (rg_ag M u v) (by decide) (by decide)
  have T : ∀ u v, mTh th (rg M u v) := fun u v => ht.ag (rg_ag M u v) (by decide)
  have P : ∀ u v, mPl p (rg M u v) := fun u v => hp.ag (rg_ag M u v) (by decide)
  generalize hPX : ((p b % 8 : Nat) : Int) = PX
  generalize hPY : ((p b / 8 % 8 : Nat) : Int) = PY
  have l116 : ∀ (K : Int32 → Int32 → Int32 → Int32 → Int32 → St → Option (Bool × St)) (i : Nat) (X Y : Int), (-7 ≤ X ∧ X ≤ 7 ∧ -7 ≤ Y ∧ Y ≤ 7) → ∀ (d j n : Nat), (j : Int) + d = 2 * rad X Y → d < n → (allB j fun j => tc1 g wt th p b (PX + (ri cw (rad X Y) (X, Y) (j + 1)).1) (PY + (ri cw (rad X Y) (X, Y) (j + 1)).2)) = true →
      (swp (tc1 g wt th p b) cw PX PY X Y = true → ∃ u v, fX9_mayTurn_116 N K n (zI b) (b2i cw) (zI PX) (zI PY) (zI i) (zI (rad X Y)) (zI j) (rg M (zI (ri cw (rad X Y) (X, Y) j).1) (zI (ri cw (rad X Y) (X, Y) j).2)) = K (zI b) (b2i cw) (zI PX) (zI PY) (zI (i + 1 : Nat)) (rg M u v)) ∧
      (swp (tc1 g wt th p b) cw PX PY X Y = false → ∃ u v, fX9_mayTurn_116 N K n (zI b) (b2i cw) (zI PX) (zI PY) (zI i) (zI (rad X Y)) (zI j) (rg M (zI (ri cw (rad X Y) (X, Y) j).1) (zI (ri cw (rad X Y) (X, Y) j).2)) = some (false, rg M u v)) := by
    intro K i X Y hXY d
    have hr := rad_bd hXY
    induction d with
    | zero =>
      intro j n hj hn hpre
      obtain ⟨n, rfl⟩ : ∃ n', n = n' + 1 := ⟨n - 1, by omega⟩
      have hs : swp (tc1 g wt th p b) cw PX PY X Y = true := by
        unfold swp
        rw [show (2 * rad X Y).toNat = j by omega]
        exact hpre
      refine ⟨fun _ => ⟨zI (ri cw (rad X Y) (X, Y) j).1, zI (ri cw (rad X Y) (X, Y) j).2, ?_⟩, fun h => by rw [hs] at h; cases h⟩
      · show fX9_mayTurn_116b N K (fX9_mayTurn_116 N K n) (zI b) (b2i cw) (zI PX) (zI PY) (zI i) (zI (rad X Y)) (zI j) (rg M (zI (ri cw (rad X Y) (X, Y) j).1) (zI (ri cw (rad X Y) (X, Y) j).2)) = _
        unfold fX9_mayTurn_116b
        rw [zl2, zM, i_le (by omega) (by omega), if_pos (by omega), zl1, zA]
        rfl
    | succ d ih =>
      intro j n hj hn hpre
      obtain ⟨n, rfl⟩ : ∃ n', n = n' + 1 := ⟨n - 1, by omega⟩
      have b1 := ri_bd (cw := cw) (r := rad X Y) (q := (X, Y)) hXY j
      have b2 := ri_bd (cw := cw) (r := rad X Y) (q := (X, Y)) hXY (j + 1)
      have bad : tc1 g wt th p b (PX + (ri cw (rad X Y) (X, Y) (j + 1)).1) (PY + (ri cw (rad X Y) (X, Y) (j + 1)).2) = false → swp (tc1 g wt th p b) cw PX PY X Y = false := fun h => allB_f.mpr ⟨j, by omega, h⟩
      have e1 : fX9_mayTurn_116 N K (n + 1) (zI b) (b2i cw) (zI PX) (zI PY) (zI i) (zI (rad X Y)) (zI j) (rg M (zI (ri cw (rad X Y) (X, Y) j).1) (zI (ri cw (rad X Y) (X, Y) j).2)) = if tc1 g wt th p b (PX + (ri cw (rad X Y) (X, Y) (j + 1)).1) (PY + (ri cw (rad X Y) (X, Y) (j + 1)).2) = true then fX9_mayTurn_116 N K n (zI b) (b2i cw) (zI PX) (zI PY) (zI i) (zI (rad X Y)) (zI (j + 1 : Nat)) (rg M (zI (ri cw (rad X Y) (X, Y) (j + 1)).1) (zI (ri cw (rad X Y) (X, Y) (j + 1)).2)) else some (false, rg M (zI (ri cw (rad X Y) (X, Y) (j + 1)).1) (zI (ri cw (rad X Y) (X, Y) (j + 1)).2)) := by
        show fX9_mayTurn_116b N K (fX9_mayTurn_116 N K n) (zI b) (b2i cw) (zI PX) (zI PY) (zI i) (zI (rad X Y)) (zI j) (rg M (zI (ri cw (rad X Y) (X, Y) j).1) (zI (ri cw (rad X Y) (X, Y) j).2)) = _
        unfold fX9_mayTurn_116b fX9_mayTurn_210 fX9_mayTurn_212
        rw [zl2, zM, i_le (by omega) (by omega), if_neg (by omega), m_goRound (by omega) (by omega), bd_ok]
        have e2 : rst cw (rad X Y) (ri cw (rad X Y) (X, Y) j) = ri cw (rad X Y) (X, Y) (j + 1) := rfl
        rw [e2]
        generalize ri cw (rad X Y) (X, Y) (j + 1) = w at *
        rw [show (rg M (zI w.1) (zI w.2)).1 6 = zI w.1 from rfl, show (rg M (zI w.1) (zI w.2)).1 7 = zI w.2 from rfl, nm_ok, zA, nm_ok, zA, m_isPassable (G _ _) hw (O _ _) (T _ _) hth hw9 hb (by omega) (by omega), bd_ok, zl0, i_b]
        generalize PX + w.1 = x
        generalize PY + w.2 = y
        by_cases h1 : psb g wt th p b x y = true
        · have hin : inY g x y := by
            unfold psb at h1
            simp only [Bool.and_eq_true, decide_eq_true_eq] at h1
            exact h1.1
          obtain ⟨q1, q2, q3, q4⟩ := cel_in hw hin
          have hkd : kd g x y ≤ 13 := hw.2.1 _
          have b3 := owN_bd g p (8 * y + x).toNat 5
          rw [if_pos h1, m_kindAt (G _ _) hw hin, bd_ok, zl5, m_in (by omega) (by omega) (by omega), bd_ok, i_d]
          by_cases h2 : (2 : Int) ≤ (kd g x y : Int) ∧ (kd g x y : Int) ≤ 5
          · rw [if_pos h2, if_neg (by unfold tc1; rw [decide_eq_true (p := 2 ≤ kd g x y ∧ kd g x y ≤ 5) (by omega)]; simp)]
          · rw [if_neg h2, zl8, zM, zA, ck_z (by omega) (by omega) (by omega), z_cl (by omega) (by omega), (O _ _).1 _ (by omega), i_lt (by unfold ow; omega) (by omega), ck_z (by omega) (by omega) (by omega), i_eq (by unfold ow; omega) (by omega), zl1, zA]
            by_cases h3 : ow g p (8 * y + x).toNat < 0
            · rw [if_pos h3, if_pos (by unfold tc1; rw [h1, decide_eq_false (p := 2 ≤ kd g x y ∧ kd g x y ≤ 5) (by omega), decide_eq_true h3]; rfl)]
              rfl
            · rw [if_neg h3]
              by_cases h4 : ow g p (8 * y + x).toNat = (b : Int)
              · rw [if_pos h4, if_pos (by unfold tc1; rw [h1, decide_eq_false (p := 2 ≤ kd g x y ∧ kd g x y ≤ 5) (by omega), decide_eq_true h4]; simp)]
                rfl
              · rw [if_neg h4, if_neg (by unfold tc1; rw [decide_eq_false h3, decide_eq_false h4]; simp)]
        · rw [if_neg h1, if_neg (by unfold tc1; rw [Bool.not_eq_true] at h1; rw [h1]; simp)]
      rw [e1]
      by_cases hc : tc1 g wt th p b (PX + (ri cw (rad X Y) (X, Y) (j + 1)).1) (PY + (ri cw (rad X Y) (X, Y) (j + 1)).2) = true
      · rw [if_pos hc]
        exact ih (j + 1) n (by omega) (by omega) (by simp only [allB]; rw [hpre, hc]; rfl)
      · rw [if_neg hc]
        rw [Bool.not_eq_true] at hc
        have hs := bad hc
        exact ⟨fun h => absurd (hs.symm.trans h) (by decide), fun _ => ⟨_, _, rfl⟩⟩
  have l27 : ∀ (d i n : Nat) (u v : Int32), i + d = gN g b → d < n → (allB i fun i => swp (tc1 g wt th p b) cw PX PY (oX g b i (p b)) (oY g b i (p b))) = true → ∃ u2 v2, fX9_mayTurn_27 N n (zI b) (b2i cw) (zI PX) (zI PY) (zI i) (rg M u v) = some (allB (gN g b) fun i => swp (tc1 g wt th p b) cw PX PY (oX g b i (p b)) (oY g b i (p b)), rg M u2 v2) := by
    intro d
    induction d with
    | zero =>
      intro i n u v hi hn hpre
      obtain ⟨n, rfl⟩ : ∃ n', n = n' + 1 := ⟨n - 1, by omega⟩
      refine ⟨u, v, ?_⟩
      show fX9_mayTurn_27b N (fX9_mayTurn_27 N n) (zI b) (b2i cw) (zI PX) (zI PY) (zI i) (rg M u v) = _
      unfold fX9_mayTurn_27b
      rw [ck_z (by omega) (by omega) (by omega), z_cl (by omega) (by omega), show ((b : Int)).toNat = b by omega, (G u v).2.2.2.1 b hb, i_le (by omega) (by omega), if_pos (by omega), show gN g b = i by omega, hpre]
    | succ d ih =>
      intro i n u v hi hn hpre
      obtain ⟨n, rfl⟩ : ∃ n', n = n' + 1 := ⟨n - 1, by omega⟩
      have hig : i < gN g b := by omega
      have hX := rX_bd (o := p b / 64) (hw.2.2.2.1 b i)
      have hY := rY_bd (o := p b / 64) (hw.2.2.2.1 b i)
      have hXY : -7 ≤ oX g b i (p b) ∧ oX g b i (p b) ≤ 7 ∧ -7 ≤ oY g b i (p b) ∧ oY g b i (p b) ≤ 7 := by unfold oX oY; omega
      have hr := rad_bd hXY
      have e1 : fX9_mayTurn_27 N (n + 1) (zI b) (b2i cw) (zI PX) (zI PY) (zI i) (rg M u v) = fX9_mayTurn_116 N (fX9_mayTurn_27 N n) N (zI b) (b2i cw) (zI PX) (zI PY) (zI i) (zI (rad (oX g b i (p b)) (oY g b i (p b)))) (zI (0 : Nat)) (rg M (zI (oX g b i (p b))) (zI (oY g b i (p b)))) := by
        show fX9_mayTurn_27b N (fX9_mayTurn_27 N n) (zI b) (b2i cw) (zI PX) (zI PY) (zI i) (rg M u v) = _
        unfold fX9_mayTurn_27b fX9_mayTurn_111
        have ecx : cx g b i (p b) - PX = oX g b i (p b) := by unfold cx oX; omega
        have ecy : cy g b i (p b) - PY = oY g b i (p b) := by unfold cy oY; omega
        rw [ck_z (by omega) (by omega) (by omega), z_cl (by omega) (by omega), show ((b : Int)).toNat = b by omega, (G u v).2.2.2.1 b hb, i_le (by omega) (by omega), if_neg (by omega), ck_z (by omega) (by omega) (by omega), P u v b hb, m_cellX (G u v) hw hb hig hpb, bd_ok, zS, ecx, stp_ok, rg_6, ck_z (by omega) (by omega) (by omega), P _ _ b hb, m_cellY (G _ _) hw hb hig hpb, bd_ok, zS, ecy, stp_ok, rg_7]
        generalize oX g b i (p b) = X at *
        generalize oY g b i (p b) = Y at *
        have a1 := ab_bd (a := X) (by omega)
        have a2 := ab_bd (a := Y) (by omega)
        rw [show (rg M (zI X) (zI Y)).1 6 = zI X from rfl, m_absolute (by omega), bd_ok, show (rg M (zI X) (zI Y)).1 7 = zI Y from rfl, m_absolute (by omega), bd_ok, i_le (by omega) (by omega), show (rg M (zI X) (zI Y)).1 6 = zI X from rfl, m_absolute (by omega), bd_ok, show (rg M (zI X) (zI Y)).1 7 = zI Y from rfl, m_absolute (by omega), bd_ok]
        unfold rad
        by_cases h : ab X ≤ ab Y
        · rw [if_pos h, if_pos h]; rfl
        · rw [if_neg h, if_neg h]; rfl
      obtain ⟨l1, l2⟩ := l116 (fX9_mayTurn_27 N n) i (oX g b i (p b)) (oY g b i (p b)) hXY (2 * rad (oX g b i (p b)) (oY g b i (p b))).toNat 0 N (by omega) (by omega) rfl
      rw [e1]
      by_cases hs : swp (tc1 g wt th p b) cw PX PY (oX g b i (p b)) (oY g b i (p b)) = true
      · obtain ⟨u2, v2, e2⟩ := l1 hs
        have e3 : fX9_mayTurn_116 N (fX9_mayTurn_27 N n) N (zI b) (b2i cw) (zI PX) (zI PY) (zI i) (zI (rad (oX g b i (p b)) (oY g b i (p b)))) (zI (0 : Nat)) (rg M (zI (oX g b i (p b))) (zI (oY g b i (p b)))) = _ := e2
        rw [e3]
        exact ih (i + 1) n u2 v2 (by omega) (by omega) (by simp only [allB]; rw [hpre, hs]; rfl)
      · rw [Bool.not_eq_true] at hs
        obtain ⟨u2, v2, e2⟩ := l2 hs
        refine ⟨u2, v2, ?_⟩
        have e3 : fX9_mayTurn_116 N (fX9_mayTurn_27 N n) N (zI b) (b2i cw) (zI PX) (zI PY) (zI i) (zI (rad (oX g b i (p b)) (oY g b i (p b)))) (zI (0 : Nat)) (rg M (zI (oX g b i (p b))) (zI (oY g b i (p b)))) = _ := e2
        rw [e3, allB_f.mpr ⟨i, hig, hs⟩]
  obtain ⟨u2, v2, e1⟩ := l27 (gN g b) 0 N (M.1 6) (M.1 7) (by omega) (by omega) rfl
  refine ⟨u2, v2, ?_⟩
  unfold fX9_mayTurn trn
  rw [ck_z (by omega) (by omega) (by omega), z_cl (by omega) (by omega), show ((b : Int)).toNat = b by omega, hp b hb, zl8, z_rem (by omega) (by omega) (by omega) (by omega), nm_ok, ck_z (by omega) (by omega) (by omega), z_div (by omega) (by omega) (by omega) (by omega), show ((p b : Int) / 8) = ((p b / 8 : Nat) : Int) by omega, z_rem (by omega) (by omega) (by omega) (by omega), nm_ok, show ((p b : Int) % 8) = PX by omega, show (((p b / 8 : Nat) : Int) % 8) = PY by omega]
  rw [hPX, hPY, ← e1]
  rw [← rg_0 M]
  rfl
/-! a move, as the reference has it -/
def mvs (g : Lv) (wt th : Nat → Nat) (st : Nat) (p : Nat → Nat) (b k : Nat) : Nat := if k < 4 then psh g wt th st p b k else if trn g wt th p b (k == 4) then 2 ^ b else 0
theorem psh_lt {g : Lv} {wt th : Nat → Nat} {st : Nat} {p : Nat → Nat} {b k : Nat} (hb : b < 5) : psh g wt th st p b k < 32 := by
  unfold psh
  split
  · exact (clo_fix 5 (2 ^ b) (pow5 b hb) (by omega)).2
  · omega
theorem mvs_lt {g : Lv} {wt th : Nat → Nat} {st : Nat} {p : Nat → Nat} {b k : Nat} (hb : b < 5) : mvs g wt th st p b k < 32 := by
  unfold mvs
  split
  · exact psh_lt hb
  · split
    · exact pow5 b hb
    · omega
theorem m_movedBy {N : Nat} {g : Lv} {M : St} {wt th p : Nat → Nat} {st : Nat} (hN : 100 ≤ N) (hg : mL g M) (hw : wfL g) (ht : mTh th M) (hth : ∀ r, th r ≤ 45) (hwt : mW8 wt M) (hw9 : ∀ b, wt b ≤ 9) (hp : mPl p M) (hok : okA g p) (hst : M.1 2 = zI st) (hst2 : st ≤ 45) {b k : Nat} (hb : b < 5) (hk : k < 6) : ∃ M2, fX9_movedBy N (zI b) (zI k) M = some (zI (mvs g wt th st p b k : Nat), M2) ∧ agr [6, 7] [] [18, 19] [] M M2 := by
  obtain ⟨f, h, e1, h1, h2⟩ := m_layOwners hN hg hw hp hwt hw9 hok
  have ag := lo_ag M f h
  have G := hg.ag ag (by decide) (by decide) (by decide) (by decide) (by decide) (by decide)
  have T := ht.ag ag (by decide)
  have P := hp.ag ag (by decide)
  have W8 := hwt.ag ag (by decide)
  have O : mO g wt p (lo M f h) := ⟨h1, h2⟩
  have hpb : ∀ b, b < 5 → p b < 256 := fun b hb => (hok.1 b hb).1
  have tl : ∀ cw : Bool, ∃ M2, fX9_movedBy_30 N cw (zI b) (zI b) (lo M f h) = some (zI (if trn g wt th p b cw then 2 ^ b else 0 : Nat), M2) ∧ agr [6, 7] [] [18, 19] [] M M2 := by
    intro cw
    obtain ⟨u, v, e2⟩ := m_mayTurn (cw := cw) hN G hw O T hth hw9 P hb (hpb b hb)
    refine ⟨rg (lo M f h) u v, ?_, (ag.wk (by simp) (by simp) (by simp) (by simp)).tr ((rg_ag (lo M f h) u v).wk (by simp) (by simp) (by simp) (by simp))⟩
    unfold fX9_movedBy_30 fX9_movedBy_43
    rw [e2, bd_ok, zl0, i_b]
    by_cases h3 : trn g wt th p b cw = true
    · rw [if_pos h3, if_pos h3, zl1, zl31, z_one (by omega)]
    · rw [if_neg h3, if_neg h3]
      rfl
  unfold fX9_movedBy
  rw [e1, bd_ok, zl4, i_le (by omega) (by omega), i_eq (by omega) (by omega)]
  by_cases h4 : k < 4
  · refine ⟨lo M f h, ?_, ag.wk (by simp) (by simp) (by simp) (by simp)⟩
    rw [if_neg (by omega), m_pushed hN G hw O T hth W8 hw9 P hpb hst hst2 hb h4, bd_ok]
    unfold fX9_movedBy_43 mvs
    rw [if_pos h4]
  · obtain ⟨M2, e2, a2⟩ := tl (k == 4)
    refine ⟨M2, ?_, a2⟩
    unfold mvs
    rw [if_pos (by omega), if_neg h4, ← e2]
    by_cases h5 : k = 4
    · rw [if_pos (by omega), h5]
      rfl
    · rw [if_neg (by omega), beq_false_of_ne h5]
/-- the placement behind a move -/
def pbI (p k : Nat) : Int := if k < 4 then (p : Int) + dX k + 8 * dY k else (((p + (if k = 4 then 64 else 192)) % 256 : Nat) : Int)
theorem m_placeBehind {N p k : Nat} {M : St} (hp : p < 256) (hk : k < 6) : fX9_placeBehind N (zI p) (zI k) M = some (zI (pbI p k), M) := by
  unfold fX9_placeBehind fX9_placeBehind_36 fX9_placeBehind_41 pbI
  rw [zl4, i_le (by omega) (by omega), i_eq (by omega) (by omega), m_stepX hk, bd_ok, m_stepY hk, bd_ok, zl8, zM, zA, zA, zl64, zl192, zl256, zA, zA, z_rem (by omega) (by omega) (by omega) (by omega), z_rem (by omega) (by omega) (by omega) (by omega)]
  by_cases h1 : k < 4
  · rw [if_neg (by omega), if_pos h1]
  · rw [if_pos (by omega), if_neg h1]
    by_cases h2 : k = 4
    · rw [if_pos (by omega), if_pos h2]
      rfl
    · rw [if_neg (by omega), if_neg h2]
      rfl
def p2I (p : Nat → Nat) (s k q : Nat) : Int := if s.testBit q then pbI (p q) k else (p q : Int)
theorem m_carryOut {N : Nat} {M : St} {p : Nat → Nat} {s k : Nat} (hN : 100 ≤ N) (hp : mPl p M) (hpb : ∀ b, b < 5 → p b < 256) (hs : s < 32) (hk : k < 6) : ∃ f, fX9_carryOut N (zI s) (zI k) M = some ((), fA M 9 f) ∧ ∀ q, q < 5 → f q = zI (p2I p s k q) := by
  have key : ∀ (d q n : Nat) (f : Nat → Int32), q + d = 5 → d < n → (∀ j, j < 5 → f j = zI (if j < q then p2I p s k j else (p j : Int))) → ∃ f2, fX9_carryOut_2 N n (zI s) (zI k) (zI q) (fA M 9 f) = some ((), fA M 9 f2) ∧ ∀ q, q < 5 → f2 q = zI (p2I p s k q) := by
    intro d
    induction d with
    | zero =>
      intro q n f hq hn hf
      obtain ⟨n, rfl⟩ : ∃ n', n = n' + 1 := ⟨n - 1, by omega⟩
      refine ⟨f, ?_, fun j hj => by rw [hf j hj, if_pos (by omega)]⟩
      show fX9_carryOut_2b N (fX9_carryOut_2 N n) (zI s) (zI k) (zI q) (fA M 9 f) = _
      unfold fX9_carryOut_2b
      rw [zl5, i_le (by omega) (by omega), if_pos (by omega)]
    | succ d ih =>
      intro q n f hq hn hf
      obtain ⟨n, rfl⟩ : ∃ n', n = n' + 1 := ⟨n - 1, by omega⟩
      have hq5 : q < 5 := by omega
      obtain ⟨f2, e2, r2⟩ := ih (q + 1) n (upd f q (zI (p2I p s k q))) (by omega) (by omega) (fun j hj => by
        by_cases h : j = q
        · rw [h, upd_s, if_pos (by omega)]
        · rw [upd_n _ _ h, hf j hj]
          by_cases h3 : j < q
          · rw [if_pos h3, if_pos (by omega)]
          · rw [if_neg h3, if_neg (by omega)])
      refine ⟨f2, ?_, r2⟩
      rw [← e2]
      show fX9_carryOut_2b N (fX9_carryOut_2 N n) (zI s) (zI k) (zI q) (fA M 9 f) = _
      unfold fX9_carryOut_2b fX9_carryOut_40
      have hfq : (fA M 9 f).2.2.1 9 q = zI (p q) := by
        show f q = _
        rw [hf q hq5, if_neg (by omega)]
      rw [zl5, i_le (by omega) (by omega), if_neg (by omega), zl31, zl1, i_bit1 (by omega) (by omega), ck_z (by omega) (by omega) (by omega), z_cl (by omega) (by omega), show ((q : Int)).toNat = q by omega, hfq, m_placeBehind (hpb q hq5) hk, bd_ok, ck_z (by omega) (by omega) (by omega), ck_z (by omega) (by omega) (by omega), stp_ok, stp_ok, sA_d, sA_d, fA_fA, fA_fA, zA, show (fA M 9 f).2.2.1 9 = f from rfl]
      unfold p2I
      by_cases h : s.testBit q = true
      · rw [if_pos h, if_pos h]
        rfl
      · rw [if_neg h, if_neg h, ck_z (by omega) (by omega) (by omega)]
        rfl
  obtain ⟨f2, e2, r2⟩ := key 5 0 N (M.2.2.1 9) (by omega) (by omega) (fun j hj => by rw [hp j hj, if_neg (by omega)])
  refine ⟨f2, ?_, r2⟩
  rw [← e2, fA_self]
  rfl
theorem m_weightBy {N : Nat} {M : St} {wt : Nat → Nat} {s : Nat} (hN : 100 ≤ N) (hwt : mW8 wt M) (hw9 : ∀ b, wt b ≤ 9) (hs : s < 32) : fX9_weightBy N (zI s) M = some (zI (wsN wt s 5 : Nat), M) := by
  have key : ∀ (d q n : Nat), q + d = 5 → d < n → fX9_weightBy_4 N n (zI s) (zI (wsN wt s q : Nat)) (zI q) M = some (zI (wsN wt s 5 : Nat), M) := by
    intro d
    induction d with
    | zero =>
      intro q n hq hn
      obtain ⟨n, rfl⟩ : ∃ n', n = n' + 1 := ⟨n - 1, by omega⟩
      show fX9_weightBy_4b N (fX9_weightBy_4 N n) (zI s) (zI (wsN wt s q : Nat)) (zI q) M = _
      unfold fX9_weightBy_4b
      rw [zl5, i_le (by omega) (by omega), if_pos (by omega), show q = 5 by omega]
    | succ d ih =>
      intro q n hq hn
      obtain ⟨n, rfl⟩ : ∃ n', n = n' + 1 := ⟨n - 1, by omega⟩
      rw [← ih (q + 1) n (by omega) (by omega)]
      show fX9_weightBy_4b N (fX9_weightBy_4 N n) (zI s) (zI (wsN wt s q : Nat)) (zI q) M = _
      unfold fX9_weightBy_4b
      rw [zl5, i_le (by omega) (by omega), if_neg (by omega), ck_z (by omega) (by omega) (by omega), z_cl (by omega) (by omega), show ((q : Int)).toNat = q by omega, hwt q (by omega), zl31, zl1, z_bitT (by omega) (by omega), zM, zA, nm_ok, zA]
      have : (wsN wt s q : Int) + (if s.testBit q = true then 1 else 0) * (wt q : Int) = ((wsN wt s (q + 1) : Nat) : Int) := by
        show _ = ((wsN wt s q + (if s.testBit q then wt q else 0) : Nat) : Int)
        cases s.testBit q
        · simp
        · simp
      rw [this]
      rfl
  exact key 5 0 N (by omega) (by omega)
