/-! a push, as the reference has it -/
def mO (g : Lv) (wt p : Nat → Nat) (M : St) : Prop := (∀ c, c < 64 → M.2.2.1 18 c = zI (ow g p c)) ∧ ∀ r, r < 4 → M.2.2.1 19 r = zI (ld g wt p r : Nat)
def mTh (th : Nat → Nat) (M : St) : Prop := ∀ r, r < 4 → M.2.2.1 0 r = zI (th r)
theorem mO.ag {g : Lv} {wt p : Nat → Nat} {is js as ls : List Nat} {M M2 : St} (h : mO g wt p M) (a : agr is js as ls M M2) (h1 : 18 ∉ as) (h2 : 19 ∉ as) : mO g wt p M2 := by
  unfold mO
  rw [a.2.2.1 18 h1, a.2.2.1 19 h2]
  exact h
theorem mTh.ag {th : Nat → Nat} {is js as ls : List Nat} {M M2 : St} (h : mTh th M) (a : agr is js as ls M M2) (h1 : 0 ∉ as) : mTh th M2 := by
  unfold mTh
  rw [a.2.2.1 0 h1]
  exact h
/-- the cell is passable for the block -/
def psb (g : Lv) (wt th p : Nat → Nat) (b : Nat) (x y : Int) : Bool := decide (inY g x y) && (!(kd g x y == 1) && (decide (kd g x y < 10) || (decide (th (kd g x y - 10) ≤ ld g wt p (kd g x y - 10)) || decide (ow g p (8 * y + x).toNat = (b : Int)))))
theorem m_isPassable {N : Nat} {g : Lv} {M : St} {wt th p : Nat → Nat} (hg : mL g M) (hw : wfL g) (ho : mO g wt p M) (ht : mTh th M) (hth : ∀ r, th r ≤ 45) (hw9 : ∀ b, wt b ≤ 9) {b : Nat} (hb : b < 5) {x y : Int} (hx : -2147483648 ≤ x ∧ x < 2147483648) (hy : -2147483648 ≤ y ∧ y < 2147483648) : fX9_isPassable N (zI b) (zI x) (zI y) M = some (psb g wt th p b x y, M) := by
  unfold fX9_isPassable fX9_isPassable_19 fX9_isPassable_69 fX9_isPassable_74 psb
  rw [m_isInYard hg hw hx hy, bd_ok, zl0, i_d]
  by_cases h1 : inY g x y
  · obtain ⟨q1, q2, q3, q4⟩ := cel_in hw h1
    have hk : kd g x y ≤ 13 := hw.2.1 _
    rw [if_pos h1, m_kindAt hg hw h1, bd_ok, zl1, i_eq (by omega) (by omega), decide_eq_true h1]
    by_cases h2 : kd g x y = 1
    · rw [if_pos (by omega), h2]; rfl
    · rw [if_neg (by omega), beq_false_of_ne h2]
      rw [m_kindAt hg hw h1, bd_ok, nm_ok, zl10, zS, i_lt (by omega) (by omega)]
      by_cases h3 : kd g x y < 10
      · rw [if_pos (by omega), decide_eq_true h3]; rfl
      · rw [if_neg (by omega), ck_z (by omega) (by omega) (by omega), ck_z (by omega) (by omega) (by omega), z_cl (by omega) (by omega), show ((kd g x y : Int) - 10).toNat = kd g x y - 10 by omega, ht _ (by omega), ho.2 _ (by omega)]
        have b1 := ldN_bd (g := g) (p := p) (r := kd g x y - 10) hw9 5
        have b2 := hth (kd g x y - 10)
        rw [i_le (by omega) (by unfold ld; omega), decide_eq_false h3]
        by_cases h4 : th (kd g x y - 10) ≤ ld g wt p (kd g x y - 10)
        · rw [if_pos (by omega), decide_eq_true h4]; rfl
        · have b3 := owN_bd g p (8 * y + x).toNat 5
          rw [if_neg (by omega), zl8, zM, zA, ck_z (by omega) (by omega) (by omega), z_cl (by omega) (by omega), ho.1 _ (by omega), i_eq (by unfold ow; omega) (by omega), decide_eq_false h4]
          by_cases h5 : ow g p (8 * y + x).toNat = (b : Int)
          · rw [if_pos h5, decide_eq_true h5]; rfl
          · rw [if_neg h5, decide_eq_false h5]; rfl
  · rw [if_neg h1, decide_eq_false h1]; rfl
/-- what a push asks of one cell that a block comes to -/
def sl1 (g : Lv) (wt th p : Nat → Nat) (b k : Nat) (x y : Int) : Bool := psb g wt th p b x y && (!(decide (2 ≤ kd g x y ∧ kd g x y ≤ 5)) || decide (kd g x y = 2 + k))
def sld (g : Lv) (wt th p : Nat → Nat) (b k : Nat) : Bool := allB (gN g b) fun i => sl1 g wt th p b k (cx g b i (p b) + dX k) (cy g b i (p b) + dY k)
theorem m_maySlide {N : Nat} {g : Lv} {M : St} {wt th p : Nat → Nat} (hN : 100 ≤ N) (hg : mL g M) (hw : wfL g) (ho : mO g wt p M) (ht : mTh th M) (hth : ∀ r, th r ≤ 45) (hw9 : ∀ b, wt b ≤ 9) (hp : mPl p M) {b k : Nat} (hb : b < 5) (hk : k < 4) (hpb : p b < 256) : fX9_maySlide N (zI b) (zI k) M = some (sld g wt th p b k, M) := by
  have hn5 := hw.2.2.1 b
  have key : ∀ (d i n : Nat), i + d = gN g b → d < n → allB i (fun i => sl1 g wt th p b k (cx g b i (p b) + dX k) (cy g b i (p b) + dY k)) = true → fX9_maySlide_2 N n (zI b) (zI k) (zI i) M = some (sld g wt th p b k, M) := by
    intro d
    induction d with
    | zero =>
      intro i n hi hn hpre
      obtain ⟨n, rfl⟩ : ∃ n', n = n' + 1 := ⟨n - 1, by omega⟩
      show fX9_maySlide_2b N (fX9_maySlide_2 N n) (zI b) (zI k) (zI i) M = _
      unfold fX9_maySlide_2b
      rw [ck_z (by omega) (by omega) (by omega), z_cl (by omega) (by omega), show ((b : Int)).toNat = b by omega, hg.2.2.2.1 b hb, i_le (by omega) (by omega), if_pos (by omega)]
      unfold sld
      rw [show gN g b = i by omega, hpre]
    | succ d ih =>
      intro i n hi hn hpre
      obtain ⟨n, rfl⟩ : ∃ n', n = n' + 1 := ⟨n - 1, by omega⟩
      have hig : i < gN g b := by omega
      have c1 := cx_bd hw b i (p b)
      have c2 := cy_bd hw b i (p b)
      have d1 := dX_bd k
      have d2 := dY_bd k
      have bad : sl1 g wt th p b k (cx g b i (p b) + dX k) (cy g b i (p b) + dY k) = false → sld g wt th p b k = false := fun h => allB_f.mpr ⟨i, hig, h⟩
      have good : sl1 g wt th p b k (cx g b i (p b) + dX k) (cy g b i (p b) + dY k) = true → fX9_maySlide_94 N (fX9_maySlide_2 N n) (zI b) (zI k) (zI i) M = some (sld g wt th p b k, M) := by
        intro h
        unfold fX9_maySlide_94
        rw [zl1, zA]
        exact ih (i + 1) n (by omega) (by omega) (by simp only [allB]; rw [hpre, h]; rfl)
      show fX9_maySlide_2b N (fX9_maySlide_2 N n) (zI b) (zI k) (zI i) M = _
      unfold fX9_maySlide_2b fX9_maySlide_92
      rw [ck_z (by omega) (by omega) (by omega), z_cl (by omega) (by omega), show ((b : Int)).toNat = b by omega, hg.2.2.2.1 b hb, i_le (by omega) (by omega), if_neg (by omega), ck_z (by omega) (by omega) (by omega), hp b hb, m_cellX hg hw hb hig hpb, bd_ok, m_stepX (by omega), bd_ok, nm_ok, zA, ck_z (by omega) (by omega) (by omega), hp b hb, m_cellY hg hw hb hig hpb, bd_ok, m_stepY (by omega), bd_ok, nm_ok, zA, m_isPassable hg hw ho ht hth hw9 hb (by omega) (by omega), bd_ok, zl0, i_b]
      generalize hX : cx g b i (p b) + dX k = X at *
      generalize hY : cy g b i (p b) + dY k = Y at *
      by_cases h1 : psb g wt th p b X Y = true
      · have hin : inY g X Y := by
          unfold psb at h1
          simp only [Bool.and_eq_true, decide_eq_true_eq] at h1
          exact h1.1
        have hkd : kd g X Y ≤ 13 := hw.2.1 _
        rw [if_pos h1, m_kindAt hg hw hin, bd_ok, zl2, zl5, m_in (by omega) (by omega) (by omega), bd_ok, i_d]
        by_cases h2 : (2 : Int) ≤ (kd g X Y : Int) ∧ (kd g X Y : Int) ≤ 5
        · rw [if_pos h2, m_kindAt hg hw hin, bd_ok, zA, i_eq (by omega) (by omega)]
          by_cases h3 : kd g X Y = 2 + k
          · rw [if_pos (by omega)]
            exact good (by unfold sl1; rw [h1, decide_eq_true h3]; simp)
          · rw [if_neg (by omega), bad (by unfold sl1; rw [decide_eq_false h3, decide_eq_true (by omega)]; simp)]
        · rw [if_neg h2]
          exact good (by unfold sl1; rw [h1, decide_eq_false (p := 2 ≤ kd g X Y ∧ kd g X Y ≤ 5) (by omega)]; rfl)
      · rw [if_neg h1, bad (by unfold sl1; rw [Bool.not_eq_true] at h1; rw [h1]; rfl)]
  exact key (gN g b) 0 N (by omega) (by omega) rfl
/-! sets of blocks -/
def mk (f : Nat → Bool) : Nat → Nat
  | 0 => 0
  | n + 1 => mk f n ||| (if f n then 2 ^ n else 0)
theorem mk_lt (f : Nat → Bool) : ∀ n, mk f n < 2 ^ n := by
  intro n
  induction n with
  | zero => simp [mk]
  | succ n ih =>
    unfold mk
    refine or_lt (Nat.lt_of_lt_of_le ih (Nat.pow_le_pow_right (by omega) (by omega))) ?_
    split
    · exact Nat.pow_lt_pow_right (by omega) (by omega)
    · exact Nat.pow_pos (by omega)
theorem mk_bit (f : Nat → Bool) : ∀ n r, (mk f n).testBit r = (decide (r < n) && f r) := by
  intro n r
  induction n with
  | zero => simp [mk]
  | succ n ih =>
    unfold mk
    rw [Nat.testBit_or, ih]
    by_cases h : f n = true
    · rw [if_pos h, tb_pow]
      by_cases h2 : n = r
      · subst h2; simp [h]
      · rw [decide_eq_false h2, Bool.or_false]
        by_cases h3 : r < n
        · rw [decide_eq_true h3, decide_eq_true (by omega)]
        · rw [decide_eq_false h3, decide_eq_false (by omega)]
    · rw [if_neg h, Nat.zero_testBit, Bool.or_false]
      by_cases h2 : n = r
      · subst h2
        rw [Bool.not_eq_true] at h
        simp [h]
      · by_cases h3 : r < n
        · rw [decide_eq_true h3, decide_eq_true (by omega)]
        · rw [decide_eq_false h3, decide_eq_false (by omega)]
theorem set_ext {s t : Nat} (hs : s < 32) (ht : t < 32) (h : ∀ r, r < 5 → s.testBit r = t.testBit r) : s = t := by
  apply Nat.eq_of_testBit_eq
  intro r
  rcases Nat.lt_or_ge r 5 with q | q
  · exact h r q
  · rw [Nat.testBit_lt_two_pow (Nat.lt_of_lt_of_le hs (Nat.pow_le_pow_right (n := 2) (i := 5) (by omega) q)), Nat.testBit_lt_two_pow (Nat.lt_of_lt_of_le ht (Nat.pow_le_pow_right (n := 2) (i := 5) (by omega) q))]
/-- a cell of the block q comes to a cell that the block o owns -/
def hit1 (g : Lv) (p : Nat → Nat) (k q o i : Nat) : Bool := decide (inY g (cx g q i (p q) + dX k) (cy g q i (p q) + dY k)) && decide (ow g p (8 * (cy g q i (p q) + dY k) + (cx g q i (p q) + dX k)).toNat = (o : Int))
def hit (g : Lv) (p : Nat → Nat) (k q o : Nat) : Bool := anyB (gN g q) fun i => hit1 g p k q o i
def stS (g : Lv) (p : Nat → Nat) (k s : Nat) : Nat := mk (fun o => s.testBit o || anyB 5 fun q => s.testBit q && hit g p k q o) 5
theorem stS_lt (g : Lv) (p : Nat → Nat) (k s : Nat) : stS g p k s < 32 := mk_lt _ 5
theorem stS_bit (g : Lv) (p : Nat → Nat) (k s : Nat) {o : Nat} (ho : o < 5) : (stS g p k s).testBit o = (s.testBit o || anyB 5 fun q => s.testBit q && hit g p k q o) := by
  unfold stS
  rw [mk_bit, decide_eq_true ho, Bool.true_and]
def cnt5 (s : Nat) : Nat := (if s.testBit 0 then 1 else 0) + (if s.testBit 1 then 1 else 0) + (if s.testBit 2 then 1 else 0) + (if s.testBit 3 then 1 else 0) + (if s.testBit 4 then 1 else 0)
theorem cnt5_lt : ∀ s, s < 32 → ∀ t, t < 32 → s ||| t = t → s ≠ t → cnt5 s < cnt5 t := by decide +kernel
theorem cnt5_le (s : Nat) : cnt5 s ≤ 5 := by
  unfold cnt5
  repeat' split
  all_goals omega
theorem stS_up {g : Lv} {p : Nat → Nat} {k s : Nat} (hs : s < 32) : s ||| stS g p k s = stS g p k s := by
  apply set_ext (or_lt (n := 5) hs (stS_lt g p k s)) (stS_lt g p k s)
  intro r hr
  rw [Nat.testBit_or, stS_bit g p k s hr]
  cases s.testBit r <;> simp
def clo (g : Lv) (p : Nat → Nat) (k : Nat) : Nat → Nat → Nat
  | 0, s => s
  | n + 1, s => if stS g p k s = s then s else clo g p k n (stS g p k s)
theorem clo_fix {g : Lv} {p : Nat → Nat} {k : Nat} : ∀ (n s : Nat), s < 32 → 5 ≤ n + cnt5 s → stS g p k (clo g p k n s) = clo g p k n s ∧ clo g p k n s < 32 := by
  intro n
  induction n with
  | zero =>
    intro s hs hc
    refine ⟨?_, hs⟩
    show stS g p k s = s
    refine Classical.byContradiction fun h => ?_
    have h1 := cnt5_lt s hs _ (stS_lt g p k s) (stS_up hs) (fun e => h e.symm)
    have := cnt5_le (stS g p k s)
    omega
  | succ n ih =>
    intro s hs hc
    unfold clo
    by_cases h : stS g p k s = s
    · rw [if_pos h]; exact ⟨h, hs⟩
    · rw [if_neg h]
      have h1 := cnt5_lt s hs _ (stS_lt g p k s) (stS_up hs) (fun e => h e.symm)
      exact ih _ (stS_lt g p k s) (by omega)
/-- the blocks that a push moves, if all may -/
def pset (g : Lv) (p : Nat → Nat) (b k : Nat) : Nat := clo g p k 5 (2 ^ b)
def wsN (wt : Nat → Nat) (s : Nat) : Nat → Nat
  | 0 => 0
  | n + 1 => wsN wt s n + (if s.testBit n then wt n else 0)
theorem wsN_bd {wt : Nat → Nat} (h : ∀ b, wt b ≤ 9) (s : Nat) : ∀ n, wsN wt s n ≤ 9 * n := by
  intro n
  induction n with
  | zero => simp [wsN]
  | succ n ih =>
    unfold wsN
    have := h n
    split <;> omega
def psh (g : Lv) (wt th : Nat → Nat) (st : Nat) (p : Nat → Nat) (b k : Nat) : Nat := if (allB 5 fun q => !(pset g p b k).testBit q || sld g wt th p q k) && decide (wsN wt (pset g p b k) 5 ≤ st) then pset g p b k else 0
theorem pow5 : ∀ b, b < 5 → 2 ^ b < 32 := by decide
theorem m_pushed {N : Nat} {g : Lv} {M : St} {wt th p : Nat → Nat} {st : Nat} (hN : 100 ≤ N) (hg : mL g M) (hw : wfL g) (ho : mO g wt p M) (ht : mTh th M) (hth : ∀ r, th r ≤ 45) (hwt : mW8 wt M) (hw9 : ∀ b, wt b ≤ 9) (hp : mPl p M) (hpb : ∀ b, b < 5 → p b < 256) (hst : M.1 2 = zI st) (hst2 : st ≤ 45) {b k : Nat} (hb : b < 5) (hk : k < 4) : fX9_pushed N (zI b) (zI k) M = some (zI (psh g wt th st p b k), M) := by
  -- the end: weights, and whether each may go
  have l162 : ∀ (F : Nat), F < 32 → ∀ (d q n : Nat), q + d = 5 → d < n → (allB q fun q => !F.testBit q || sld g wt th p q k) = true → fX9_pushed_162 N n (zI k) (zI F) (zI (wsN wt F q)) (zI q) M = some (zI (if (allB 5 fun q => !F.testBit q || sld g wt th p q k) && decide (wsN wt F 5 ≤ st) then F else 0 : Nat), M) := by
    intro F hF d
    induction d with
    | zero =>
      intro q n hq hn hpre
      obtain ⟨n, rfl⟩ : ∃ n', n = n' + 1 := ⟨n - 1, by omega⟩
      have hq5 : q = 5 := by omega
      subst hq5
      have wb := wsN_bd hw9 F 5
      show fX9_pushed_162b N (fX9_pushed_162 N n) (zI k) (zI F) (zI (wsN wt F 5)) (zI (5 : Nat)) M = _
      unfold fX9_pushed_162b fX9_pushed_222
      rw [zl5, i_le (by omega) (by omega), if_pos (by omega), hst, i_lt (by omega) (by omega), hpre, Bool.true_and]
      by_cases h : wsN wt F 5 ≤ st
      · rw [if_neg (by omega), decide_eq_true h, if_pos rfl]
      · rw [if_pos (by omega), decide_eq_false h, if_neg (by simp)]
        rfl
    | succ d ih =>
      intro q n hq hn hpre
      obtain ⟨n, rfl⟩ : ∃ n', n = n' + 1 := ⟨n - 1, by omega⟩
      have wb := wsN_bd hw9 F q
      have hq5 : q < 5 := by omega
      have step : (!F.testBit q || sld g wt th p q k) = true → fX9_pushed_202 N (fX9_pushed_162 N n) (zI k) (zI F) (zI (wsN wt F (q + 1))) (zI q) M = some (zI (if (allB 5 fun q => !F.testBit q || sld g wt th p q k) && decide (wsN wt F 5 ≤ st) then F else 0 : Nat), M) := by
        intro h
        unfold fX9_pushed_202
        rw [zl1, zA]
        exact ih (q + 1) n (by omega) (by omega) (by simp only [allB]; rw [hpre, h]; rfl)
      show fX9_pushed_162b N (fX9_pushed_162 N n) (zI k) (zI F) (zI (wsN wt F q)) (zI q) M = _
      unfold fX9_pushed_162b
      rw [zl5, i_le (by omega) (by omega), if_neg (by omega), zl31, zl1, i_bit1 (by omega) (by omega)]
      by_cases hbit : F.testBit q = true
      · rw [if_pos hbit, ck_z (by omega) (by omega) (by omega), z_cl (by omega) (by omega), show ((q : Int)).toNat = q by omega, hwt q hq5, nm_ok, zA, m_maySlide hN hg hw ho ht hth hw9 hp hq5 hk (hpb q hq5), bd_ok, zl0, i_b]
        by_cases hs : sld g wt th p q k = true
        · rw [if_pos hs]
          have := step (by rw [hs]; simp)
          rw [show wsN wt F (q + 1) = wsN wt F q + wt q by show wsN wt F q + (if F.testBit q then wt q else 0) = _; rw [if_pos hbit]] at this
          exact this
        · rw [if_neg hs]
          rw [Bool.not_eq_true] at hs
          have : (allB 5 fun q => !F.testBit q || sld g wt th p q k) = false := allB_f.mpr ⟨q, hq5, by rw [hbit, hs]; rfl⟩
          rw [this]
          rfl
      · rw [if_neg hbit]
        have := step (by rw [Bool.not_eq_true] at hbit; rw [hbit]; rfl)
        rw [show wsN wt F (q + 1) = wsN wt F q by show wsN wt F q + (if F.testBit q then wt q else 0) = _; rw [if_neg hbit]; rfl] at this
        exact this
  -- one block's cells
  have l28 : ∀ (K7 : Int32 → Int32 → Int32 → St → Option (Int32 × St)) (K19 : Int32 → Int32 → Int32 → Int32 → St → Option (Int32 × St)) (s0 : Nat), s0 < 32 → ∀ (q : Nat), q < 5 → ∀ (base : Nat → Bool) (d i n s : Nat), i + d = gN g q → d < n → s < 32 → (∀ o, o < 5 → s.testBit o = (base o || (s0.testBit q && anyB i fun i => hit1 g p k q o i))) → ∃ s2 : Nat, fX9_pushed_28 N K7 K19 n (zI k) (zI s) (zI s0) (zI q) (zI i) M = K19 (zI k) (zI s2) (zI s0) (zI (q + 1 : Nat)) M ∧ s2 < 32 ∧ ∀ o, o < 5 → s2.testBit o = (base o || (s0.testBit q && hit g p k q o)) := by
    intro K7 K19 s0 hs0 q hq base d
    have hn5 := hw.2.2.1 q
    induction d with
    | zero =>
      intro i n s hi hn hs hb2
      obtain ⟨n, rfl⟩ : ∃ n', n = n' + 1 := ⟨n - 1, by omega⟩
      refine ⟨s, ?_, hs, fun o ho => ?_⟩
      · show fX9_pushed_28b N K7 K19 (fX9_pushed_28 N K7 K19 n) (zI k) (zI s) (zI s0) (zI q) (zI i) M = _
        unfold fX9_pushed_28b fX9_pushed_147
        rw [ck_z (by omega) (by omega) (by omega), z_cl (by omega) (by omega), show ((q : Int)).toNat = q by omega, hg.2.2.2.1 q hq, i_le (by omega) (by omega), if_pos (by omega), zl1, zA]
        rfl
      · rw [hb2 o ho, show i = gN g q by omega]
        rfl
    | succ d ih =>
      intro i n s hi hn hs hb2
      obtain ⟨n, rfl⟩ : ∃ n', n = n' + 1 := ⟨n - 1, by omega⟩
      have hig : i < gN g q := by omega
      have c1 := cx_bd hw q i (p q)
      have c2 := cy_bd hw q i (p q)
      have d1 := dX_bd k
      have d2 := dY_bd k
      by_cases hbit : s0.testBit q = true
      · -- the block is moved
        have e1 : fX9_pushed_28 N K7 K19 (n + 1) (zI k) (zI s) (zI s0) (zI q) (zI i) M = fX9_pushed_123 N K7 K19 (fX9_pushed_28 N K7 K19 n) (zI (if inY g (cx g q i (p q) + dX k) (cy g q i (p q) + dY k) then ow g p (8 * (cy g q i (p q) + dY k) + (cx g q i (p q) + dX k)).toNat else -1)) (zI k) (zI s) (zI s0) (zI q) (zI i) M := by
          show fX9_pushed_28b N K7 K19 (fX9_pushed_28 N K7 K19 n) (zI k) (zI s) (zI s0) (zI q) (zI i) M = _
          unfold fX9_pushed_28b
          rw [ck_z (by omega) (by omega) (by omega), z_cl (by omega) (by omega), show ((q : Int)).toNat = q by omega, hg.2.2.2.1 q hq, i_le (by omega) (by omega), if_neg (by omega), zl31, zl1, i_bit1 (by omega) (by omega), if_pos hbit, ck_z (by omega) (by omega) (by omega), hp q hq, m_cellX hg hw hq hig (hpb q hq), bd_ok, m_stepX (by omega), bd_ok, nm_ok, zA, ck_z (by omega) (by omega) (by omega), hp q hq, m_cellY hg hw hq hig (hpb q hq), bd_ok, m_stepY (by omega), bd_ok, nm_ok, zA, m_isInYard hg hw (by omega) (by omega), bd_ok, zl0, i_d]
          generalize cx g q i (p q) + dX k = X at *
          generalize cy g q i (p q) + dY k = Y at *
          by_cases h1 : inY g X Y
          · obtain ⟨q1, q2, q3, q4⟩ := cel_in hw h1
            rw [if_pos h1, zl8, zM, zA, ck_z (by omega) (by omega) (by omega), z_cl (by omega) (by omega), ho.1 _ (by omega), if_pos h1]
          · rw [if_neg h1, if_neg h1]
            rfl
        have e2 : ∀ t : Nat, fX9_pushed_139 N K7 K19 (fX9_pushed_28 N K7 K19 n) (zI t) (zI s) (zI k) (zI s0) (zI q) (zI i) M = fX9_pushed_28 N K7 K19 n (zI k) (zI (s ||| t : Nat)) (zI s0) (zI q) (zI (i + 1 : Nat)) M := by
          intro t
          unfold fX9_pushed_139
          rw [nm_ok, z_or, zl1, zA]
          rfl
        rw [e1]
        unfold fX9_pushed_123
        by_cases hown : inY g (cx g q i (p q) + dX k) (cy g q i (p q) + dY k) ∧ 0 ≤ ow g p (8 * (cy g q i (p q) + dY k) + (cx g q i (p q) + dX k)).toNat
        · have bd5 := owN_bd g p (8 * (cy g q i (p q) + dY k) + (cx g q i (p q) + dX k)).toNat 5
          obtain ⟨o1, ho1⟩ : ∃ o1 : Nat, (o1 : Int) = ow g p (8 * (cy g q i (p q) + dY k) + (cx g q i (p q) + dX k)).toNat := ⟨(ow g p (8 * (cy g q i (p q) + dY k) + (cx g q i (p q) + dX k)).toNat).toNat, by omega⟩
          have ho5 : o1 < 5 := by unfold ow at ho1; omega
          rw [if_pos hown.1, ← ho1, zl0, i_lt (by omega) (by omega), if_neg (by omega), zl1, zl31, z_one (by omega), e2]
          refine ih (i + 1) n _ (by omega) (by omega) (or_lt (n := 5) hs (pow5 o1 ho5)) (fun o ho => ?_)
          rw [Nat.testBit_or, hb2 o ho, tb_pow, hbit]
          have : hit1 g p k q o i = decide (o1 = o) := by
            unfold hit1
            rw [decide_eq_true hown.1, Bool.true_and, ← ho1]
            by_cases h : o1 = o
            · rw [decide_eq_true h, decide_eq_true (by omega)]
            · rw [decide_eq_false h, decide_eq_false (by omega)]
          simp only [anyB]
          rw [this, Bool.true_and, Bool.true_and, Bool.or_assoc]
        · have hh : (if inY g (cx g q i (p q) + dX k) (cy g q i (p q) + dY k) then ow g p (8 * (cy g q i (p q) + dY k) + (cx g q i (p q) + dX k)).toNat else -1) = (-1 : Int) := by
            have bd5 := owN_bd g p (8 * (cy g q i (p q) + dY k) + (cx g q i (p q) + dX k)).toNat 5
            by_cases h1 : inY g (cx g q i (p q) + dX k) (cy g q i (p q) + dY k)
            · rw [if_pos h1]
              have : ¬ 0 ≤ ow g p (8 * (cy g q i (p q) + dY k) + (cx g q i (p q) + dX k)).toNat := fun z => hown ⟨h1, z⟩
              unfold ow at *
              omega
            · rw [if_neg h1]
          rw [hh, zl0, i_lt (by omega) (by omega), if_pos (by omega)]
          have e3 := e2 0
          rw [show ((0 : Nat) : Int) = 0 from rfl] at e3
          rw [e3]
          refine ih (i + 1) n _ (by omega) (by omega) (or_lt (n := 5) hs (by omega)) (fun o ho => ?_)
          rw [Nat.testBit_or, hb2 o ho, Nat.zero_testBit, Bool.or_false, hbit]
          have : hit1 g p k q o i = false := by
            unfold hit1
            by_cases h1 : inY g (cx g q i (p q) + dX k) (cy g q i (p q) + dY k)
            · rw [decide_eq_false (p := ow g p _ = (o : Int)) (fun z => hown ⟨h1, by omega⟩), Bool.and_false]
            · rw [decide_eq_false h1]; rfl
          simp only [anyB]
          rw [this, Bool.or_false]
      · refine ⟨s, ?_, hs, fun o ho => ?_⟩
        · show fX9_pushed_28b N K7 K19 (fX9_pushed_28 N K7 K19 n) (zI k) (zI s) (zI s0) (zI q) (zI i) M = _
          unfold fX9_pushed_28b fX9_pushed_147
          rw [ck_z (by omega) (by omega) (by omega), z_cl (by omega) (by omega), show ((q : Int)).toNat = q by omega, hg.2.2.2.1 q hq, i_le (by omega) (by omega), if_neg (by omega), zl31, zl1, i_bit1 (by omega) (by omega), if_neg hbit, zA]
          rfl
        · rw [Bool.not_eq_true] at hbit
          rw [hb2 o ho, hbit]
          simp
  have l19 : ∀ (K7 : Int32 → Int32 → Int32 → St → Option (Int32 × St)) (s0 : Nat), s0 < 32 → ∀ (d q n s : Nat), q + d = 5 → d < n → s < 32 → (∀ o, o < 5 → s.testBit o = (s0.testBit o || anyB q fun q => s0.testBit q && hit g p k q o)) → fX9_pushed_19 N K7 n (zI k) (zI s) (zI s0) (zI q) M = K7 (zI k) (zI (stS g p k s0 : Nat)) (zI s0) M := by
    intro K7 s0 hs0 d
    induction d with
    | zero =>
      intro q n s hq hn hs hb2
      obtain ⟨n, rfl⟩ : ∃ n', n = n' + 1 := ⟨n - 1, by omega⟩
      have hq5 : q = 5 := by omega
      subst hq5
      have : s = stS g p k s0 := set_ext hs (stS_lt g p k s0) (fun r hr => by rw [hb2 r hr, stS_bit g p k s0 hr])
      show fX9_pushed_19b N K7 (fX9_pushed_19 N K7 n) (zI k) (zI s) (zI s0) (zI (5 : Nat)) M = _
      unfold fX9_pushed_19b
      rw [zl5, i_le (by omega) (by omega), if_pos (by omega), this]
    | succ d ih =>
      intro q n s hq hn hs hb2
      obtain ⟨n, rfl⟩ : ∃ n', n = n' + 1 := ⟨n - 1, by omega⟩
      have hn5 := hw.2.2.1 q
      obtain ⟨s2, e1, h1, h2⟩ := l28 K7 (fX9_pushed_19 N K7 n) s0 hs0 q (by omega) (fun o => s0.testBit o || anyB q fun q => s0.testBit q && hit g p k q o) (gN g q) 0 N s (by omega) (by omega) hs (fun o ho => by rw [hb2 o ho]; simp [anyB])
      show fX9_pushed_19b N K7 (fX9_pushed_19 N K7 n) (zI k) (zI s) (zI s0) (zI q) M = _
      unfold fX9_pushed_19b
      rw [zl5, i_le (by omega) (by omega), if_neg (by omega)]
      have e2 : fX9_pushed_28 N K7 (fX9_pushed_19 N K7 n) N (zI k) (zI s) (zI s0) (zI q) 0 M = _ := e1
      rw [e2]
      exact ih (q + 1) n s2 (by omega) (by omega) h1 (fun o ho => by rw [h2 o ho, Bool.or_assoc]; rfl)
  have l7 : ∀ (m s s0 n : Nat), s < 32 → s0 < 32 → (s0 = s → stS g p k s = s) → 5 ≤ m + cnt5 s → m + 2 ≤ n → fX9_pushed_7 N n (zI k) (zI s) (zI s0) M = fX9_pushed_162 N N (zI k) (zI (clo g p k m s)) 0 0 M := by
    intro m
    induction m with
    | zero =>
      intro s s0 n hs hs0 hst3 hm hn
      have hfix : stS g p k s = s := (clo_fix 0 s hs hm).1
      obtain ⟨n, rfl⟩ : ∃ n', n = n' + 1 + 1 := ⟨n - 2, by omega⟩
      have last : ∀ n, fX9_pushed_7 N (n + 1) (zI k) (zI s) (zI s) M = fX9_pushed_162 N N (zI k) (zI s) 0 0 M := by
        intro n
        show fX9_pushed_7b N (fX9_pushed_7 N n) (zI k) (zI s) (zI s) M = _
        unfold fX9_pushed_7b
        rw [if_pos rfl]
      by_cases h : s0 = s
      · rw [h]; exact last (n + 1)
      · show fX9_pushed_7b N (fX9_pushed_7 N (n + 1)) (zI k) (zI s) (zI s0) M = _
        unfold fX9_pushed_7b
        rw [i_eq (by omega) (by omega), if_neg (by omega)]
        have e1 := l19 (fX9_pushed_7 N (n + 1)) s hs 5 0 N s (by omega) (by omega) hs (fun o ho => by simp [anyB])
        have e2 : fX9_pushed_19 N (fX9_pushed_7 N (n + 1)) N (zI k) (zI s) (zI s) 0 M = _ := e1
        rw [e2, hfix]
        exact last n
    | succ m ih =>
      intro s s0 n hs hs0 hst3 hm hn
      obtain ⟨n, rfl⟩ : ∃ n', n = n' + 1 := ⟨n - 1, by omega⟩
      by_cases h : s0 = s
      · have hfix := hst3 h
        show fX9_pushed_7b N (fX9_pushed_7 N n) (zI k) (zI s) (zI s0) M = _
        unfold fX9_pushed_7b
        rw [h, if_pos rfl]
        unfold clo
        rw [if_pos hfix]
      · show fX9_pushed_7b N (fX9_pushed_7 N n) (zI k) (zI s) (zI s0) M = _
        unfold fX9_pushed_7b
        rw [i_eq (by omega) (by omega), if_neg (by omega)]
        have e1 := l19 (fX9_pushed_7 N n) s hs 5 0 N s (by omega) (by omega) hs (fun o ho => by simp [anyB])
        have e2 : fX9_pushed_19 N (fX9_pushed_7 N n) N (zI k) (zI s) (zI s) 0 M = _ := e1
        rw [e2]
        unfold clo
        by_cases hfix : stS g p k s = s
        · rw [if_pos hfix, hfix]
          obtain ⟨n, rfl⟩ : ∃ n', n = n' + 1 := ⟨n - 1, by omega⟩
          show fX9_pushed_7b N (fX9_pushed_7 N n) (zI k) (zI s) (zI s) M = _
          unfold fX9_pushed_7b
          rw [if_pos rfl]
        · rw [if_neg hfix]
          have h1 := cnt5_lt s hs _ (stS_lt g p k s) (stS_up hs) (fun e => hfix e.symm)
          exact ih _ _ n (stS_lt g p k s) hs (fun e => absurd e.symm hfix) (by omega) (by omega)
  unfold fX9_pushed
  rw [zl1, zl31, z_one (by omega), nm_ok]
  have hpow := pow5 b hb
  have hpos : 0 < 2 ^ b := Nat.pow_pos (by omega)
  have e1 := l7 5 (2 ^ b) 0 N hpow (by omega) (fun h => by omega) (by omega) (by omega)
  have e2 : fX9_pushed_7 N N (zI k) (zI (2 ^ b : Nat)) 0 M = _ := e1
  rw [e2]
  exact l162 _ (clo_fix 5 (2 ^ b) hpow (by omega)).2 5 0 N (by omega) (by omega) rfl
