/-! a block alone: the reference -/
theorem m_isFree {N : Nat} {g : Lv} {M : St} (hg : mL g M) (hw : wfL g) {x y : Int} (hx : -2147483648 ≤ x ∧ x < 2147483648) (hy : -2147483648 ≤ y ∧ y < 2147483648) : fX9_isFree N (zI x) (zI y) M = some (fr g x y, M) := by
  unfold fX9_isFree fX9_isFree_23 fX9_isFree_24 fr
  rw [m_isInYard hg hw hx hy, bd_ok, zl0, i_d]
  by_cases h : inY g x y
  · have hkd : kd g x y ≤ 13 := hw.2.1 _
    rw [if_pos h, m_kindAt hg hw h, bd_ok, zl1, i_eq (by omega) (by omega), decide_eq_true h]
    by_cases h1 : kd g x y = 1
    · rw [if_pos (by omega), h1]; rfl
    · rw [if_neg (by omega), show (kd g x y == 1) = false by simpa using h1]; rfl
  · rw [if_neg h, decide_eq_false h]; rfl
theorem m_isPlacement {N : Nat} {g : Lv} {M : St} (hN : 100 ≤ N) (hg : mL g M) (hw : wfL g) {b P : Nat} (hb : b < 5) (hn0 : 0 < gN g b) (hP : P < 256) : fX9_isPlacement N (zI b) (zI P) M = some (plc g b P, M) := by
  have hn5 := hw.2.2.1 b
  obtain ⟨ip, hip, hpiv⟩ := hw.2.2.2.2 b hb hn0
  have hc := piv (p := P) hpiv
  have key : ∀ (d i n : Nat) (fl : Bool), i + d = gN g b → d < n → fX9_isPlacement_19 N n (zI b) (zI P) fl (zI i) M = some (fl && allB d (fun j => fr g (cx g b (i + j) P) (cy g b (i + j) P)), M) := by
    intro d
    induction d with
    | zero =>
      intro i n fl hi hn
      obtain ⟨n, rfl⟩ : ∃ n', n = n' + 1 := ⟨n - 1, by omega⟩
      show fX9_isPlacement_19b N (fX9_isPlacement_19 N n) (zI b) (zI P) fl (zI i) M = _
      unfold fX9_isPlacement_19b
      rw [ck_z (by omega) (by omega) (by omega), z_cl (by omega) (by omega), show ((b : Int)).toNat = b by omega, hg.2.2.2.1 b hb, i_le (by omega) (by omega), if_pos (by omega)]
      simp [allB]
    | succ d ih =>
      intro i n fl hi hn
      obtain ⟨n, rfl⟩ : ∃ n', n = n' + 1 := ⟨n - 1, by omega⟩
      have hig : i < gN g b := by omega
      have c1 := cx_bd hw b i P
      have c2 := cy_bd hw b i P
      have hsplit : allB (d + 1) (fun j => fr g (cx g b (i + j) P) (cy g b (i + j) P)) = (fr g (cx g b i P) (cy g b i P) && allB d (fun j => fr g (cx g b (i + 1 + j) P) (cy g b (i + 1 + j) P))) := by
        cases h : (fr g (cx g b i P) (cy g b i P) && allB d (fun j => fr g (cx g b (i + 1 + j) P) (cy g b (i + 1 + j) P)))
        · rw [Bool.and_eq_false_iff] at h
          rcases h with h | h
          · exact allB_f.mpr ⟨0, by omega, h⟩
          · obtain ⟨j, h1, h2⟩ := allB_f.mp h
            exact allB_f.mpr ⟨j + 1, by omega, by rw [show i + (j + 1) = i + 1 + j by omega]; exact h2⟩
        · rw [Bool.and_eq_true] at h
          refine allB_iff.mpr fun j hj => ?_
          by_cases hj0 : j = 0
          · subst hj0; exact h.1
          · have := allB_iff.mp h.2 (j - 1) (by omega)
            rw [show i + 1 + (j - 1) = i + j by omega] at this
            exact this
      have nxt : ∀ f2 : Bool, fX9_isPlacement_19 N n (zI b) (zI P) f2 (zI i + 1) M = some (f2 && allB d (fun j => fr g (cx g b (i + 1 + j) P) (cy g b (i + 1 + j) P)), M) := fun f2 => by
        rw [zl1, zA]
        exact ih (i + 1) n f2 (by omega) (by omega)
      show fX9_isPlacement_19b N (fX9_isPlacement_19 N n) (zI b) (zI P) fl (zI i) M = _
      unfold fX9_isPlacement_19b fX9_isPlacement_61 fX9_isPlacement_62
      rw [ck_z (by omega) (by omega) (by omega), z_cl (by omega) (by omega), show ((b : Int)).toNat = b by omega, hg.2.2.2.1 b hb, i_le (by omega) (by omega), if_neg (by omega), zl0, i_b]
      cases fl
      · rw [if_neg (by simp), nxt]; simp
      · rw [if_pos rfl, m_cellX hg hw hb hig hP, bd_ok, m_cellY hg hw hb hig hP, bd_ok, m_isFree hg hw (by omega) (by omega), bd_ok, i_b, hsplit]
        cases hf : fr g (cx g b i P) (cy g b i P)
        · rw [if_neg (by simp), nxt]; simp
        · rw [if_pos rfl, nxt]; simp
  unfold fX9_isPlacement
  rw [zl8, z_rem (by omega) (by omega) (by omega) (by omega), z_div (by omega) (by omega) (by omega) (by omega), z_rem (by omega) (by omega) (by omega) (by omega), show ((P : Int) % 8) = ((P % 8 : Nat) : Int) by omega, show ((P : Int) / 8 % 8) = ((P / 8 % 8 : Nat) : Int) by omega, m_isFree hg hw (by omega) (by omega), bd_ok]
  have := key (gN g b) 0 N (fr g ((P % 8 : Nat) : Int) ((P / 8 % 8 : Nat) : Int)) (by omega) (by omega)
  simp only [Nat.zero_add] at this
  refine Eq.trans this ?_
  show some ((fr g ((P % 8 : Nat) : Int) ((P / 8 % 8 : Nat) : Int) && plc g b P), M) = _
  cases h : plc g b P
  · rw [Bool.and_false]
  · have h2 := allB_iff.mp h ip hip
    rw [hc.1, hc.2] at h2
    rw [h2]; rfl
def sa1 (g : Lv) (k : Nat) (x y : Int) : Bool := fr g x y && (!(decide (2 ≤ kd g x y ∧ kd g x y ≤ 5)) || decide (kd g x y = 2 + k))
def saB (g : Lv) (b P k : Nat) : Bool := allB (gN g b) fun i => sa1 g k (cx g b i P + dX k) (cy g b i P + dY k)
theorem okP_sa {g : Lv} {b P k : Nat} : okP g b P k 0 = saB g b P k := by
  unfold okP saB
  apply allB_cong
  intro i _
  unfold sa1
  rw [bit_0]
  rfl
theorem m_maySlideAlone {N : Nat} {g : Lv} {M : St} (hN : 100 ≤ N) (hg : mL g M) (hw : wfL g) {b P k : Nat} (hb : b < 5) (hP : P < 256) (hk : k < 4) : fX9_maySlideAlone N (zI b) (zI P) (zI k) M = some (saB g b P k, M) := by
  have hn5 := hw.2.2.1 b
  have key : ∀ (d i n : Nat), i + d = gN g b → d < n → allB i (fun i => sa1 g k (cx g b i P + dX k) (cy g b i P + dY k)) = true → fX9_maySlideAlone_6 N n (zI b) (zI P) (zI k) true (zI i) M = some (saB g b P k, M) := by
    intro d
    induction d with
    | zero =>
      intro i n hi hn hpre
      obtain ⟨n, rfl⟩ : ∃ n', n = n' + 1 := ⟨n - 1, by omega⟩
      show fX9_maySlideAlone_6b N (fX9_maySlideAlone_6 N n) (zI b) (zI P) (zI k) true (zI i) M = _
      unfold fX9_maySlideAlone_6b fX9_maySlideAlone_106
      rw [ck_z (by omega) (by omega) (by omega), z_cl (by omega) (by omega), show ((b : Int)).toNat = b by omega, hg.2.2.2.1 b hb, i_le (by omega) (by omega), if_pos (by omega)]
      unfold saB
      rw [show gN g b = i by omega, hpre]
    | succ d ih =>
      intro i n hi hn hpre
      obtain ⟨n, rfl⟩ : ∃ n', n = n' + 1 := ⟨n - 1, by omega⟩
      have hig : i < gN g b := by omega
      have c1 := cx_bd hw b i P
      have c2 := cy_bd hw b i P
      have d1 := dX_bd k
      have d2 := dY_bd k
      have bad : sa1 g k (cx g b i P + dX k) (cy g b i P + dY k) = false → fX9_maySlideAlone_6 N n (zI b) (zI P) (zI k) false (zI i + zI 1) M = some (saB g b P k, M) := fun h => by
        have hs : saB g b P k = false := allB_f.mpr ⟨i, hig, h⟩
        obtain ⟨m, rfl⟩ : ∃ n', n = n' + 1 := ⟨n - 1, by omega⟩
        show fX9_maySlideAlone_6b N (fX9_maySlideAlone_6 N m) (zI b) (zI P) (zI k) false (zI i + zI 1) M = _
        unfold fX9_maySlideAlone_6b fX9_maySlideAlone_106
        rw [ck_z (by omega) (by omega) (by omega), zl0, i_b, if_neg (c := false = true) (by simp), ite_self, hs]
      have good : sa1 g k (cx g b i P + dX k) (cy g b i P + dY k) = true → fX9_maySlideAlone_6 N n (zI b) (zI P) (zI k) true (zI i + zI 1) M = some (saB g b P k, M) := by
        intro h
        rw [zA]
        exact ih (i + 1) n (by omega) (by omega) (by simp only [allB]; rw [hpre, h]; rfl)
      show fX9_maySlideAlone_6b N (fX9_maySlideAlone_6 N n) (zI b) (zI P) (zI k) true (zI i) M = _
      unfold fX9_maySlideAlone_6b fX9_maySlideAlone_97 fX9_maySlideAlone_93 fX9_maySlideAlone_98
      rw [ck_z (by omega) (by omega) (by omega), z_cl (by omega) (by omega), show ((b : Int)).toNat = b by omega, hg.2.2.2.1 b hb, i_le (by omega) (by omega), if_neg (by omega), zl0, i_b, if_pos rfl, m_cellX hg hw hb hig hP, bd_ok, m_stepX (by omega), bd_ok, nm_ok, zA, m_cellY hg hw hb hig hP, bd_ok, m_stepY (by omega), bd_ok, nm_ok, zA, m_isFree hg hw (by omega) (by omega), bd_ok, i_b, zl1]
      generalize hX : cx g b i P + dX k = X at *
      generalize hY : cy g b i P + dY k = Y at *
      by_cases h1 : fr g X Y = true
      · have hin := (fr_in h1).1
        have hkd : kd g X Y ≤ 13 := hw.2.1 _
        rw [if_pos h1, m_kindAt hg hw hin, bd_ok, zl2, zl5, m_in (by omega) (by omega) (by omega), bd_ok, i_d]
        by_cases h2 : (2 : Int) ≤ (kd g X Y : Int) ∧ (kd g X Y : Int) ≤ 5
        · rw [if_pos h2, m_kindAt hg hw hin, bd_ok, zA, i_eq (by omega) (by omega)]
          by_cases h3 : kd g X Y = 2 + k
          · rw [if_pos (by omega)]
            exact good (by unfold sa1; rw [h1, decide_eq_true h3]; simp)
          · rw [if_neg (by omega)]
            exact bad (by unfold sa1; rw [decide_eq_false h3, decide_eq_true (by omega)]; simp)
        · rw [if_neg h2]
          exact good (by unfold sa1; rw [h1, decide_eq_false (p := 2 ≤ kd g X Y ∧ kd g X Y ≤ 5) (by omega)]; rfl)
      · rw [if_neg h1]
        exact bad (by unfold sa1; rw [Bool.not_eq_true] at h1; rw [h1]; rfl)
  exact key (gN g b) 0 N (by omega) (by omega) rfl
def ta (g : Lv) (x y : Int) : Bool := fr g x y && !(decide (2 ≤ kd g x y ∧ kd g x y ≤ 5))
def taB (g : Lv) (b P : Nat) (cw : Bool) : Bool := allB (gN g b) fun i => swp (ta g) cw ((P % 8 : Nat) : Int) ((P / 8 % 8 : Nat) : Int) (oX g b i P) (oY g b i P)
theorem m_mayTurnAlone {N : Nat} {g : Lv} {M : St} (hN : 100 ≤ N) (hg : mL g M) (hw : wfL g) {b P : Nat} {cw : Bool} (hb : b < 5) (hP : P < 256) : ∃ u v, fX9_mayTurnAlone N (zI b) (zI P) (b2i cw) M = some (taB g b P cw, rg M u v) := by
  have hn5 := hw.2.2.1 b
  have G : ∀ u v, mL g (rg M u v) := fun u v => hg.ag (rg_ag M u v) (by decide) (by decide) (by decide) (by decide) (by decide) (by decide)
  generalize hPX : ((P % 8 : Nat) : Int) = PX
  generalize hPY : ((P / 8 % 8 : Nat) : Int) = PY
  have l106 : ∀ (K : Int32 → Int32 → Int32 → Int32 → Int32 → Bool → Int32 → St → Option (Bool × St)) (i : Nat) (X Y : Int), (-7 ≤ X ∧ X ≤ 7 ∧ -7 ≤ Y ∧ Y ≤ 7) → ∀ (d j n : Nat), (j : Int) + d = 2 * rad X Y → d < n → (allB j fun j => ta g (PX + (ri cw (rad X Y) (X, Y) (j + 1)).1) (PY + (ri cw (rad X Y) (X, Y) (j + 1)).2)) = true →
      ∃ u v, fX9_mayTurnAlone_106 N K n (zI b) (zI P) (b2i cw) (zI PX) (zI PY) true (zI i) (zI (rad X Y)) (zI j) (rg M (zI (ri cw (rad X Y) (X, Y) j).1) (zI (ri cw (rad X Y) (X, Y) j).2)) = K (zI b) (zI P) (b2i cw) (zI PX) (zI PY) (swp (ta g) cw PX PY X Y) (zI (i + 1 : Nat)) (rg M u v) := by
    intro K i X Y hXY d
    have hr := rad_bd hXY
    induction d with
    | zero =>
      intro j n hj hn hpre
      obtain ⟨n, rfl⟩ : ∃ n', n = n' + 1 := ⟨n - 1, by omega⟩
      have hs : swp (ta g) cw PX PY X Y = true := by
        unfold swp
        rw [show (2 * rad X Y).toNat = j by omega]
        exact hpre
      refine ⟨zI (ri cw (rad X Y) (X, Y) j).1, zI (ri cw (rad X Y) (X, Y) j).2, ?_⟩
      show fX9_mayTurnAlone_106b N K (fX9_mayTurnAlone_106 N K n) (zI b) (zI P) (b2i cw) (zI PX) (zI PY) true (zI i) (zI (rad X Y)) (zI j) (rg M (zI (ri cw (rad X Y) (X, Y) j).1) (zI (ri cw (rad X Y) (X, Y) j).2)) = _
      unfold fX9_mayTurnAlone_106b fX9_mayTurnAlone_187
      rw [zl2, zM, i_le (by omega) (by omega), if_pos (by omega), zl1, zA, hs]
      rfl
    | succ d ih =>
      intro j n hj hn hpre
      obtain ⟨n, rfl⟩ : ∃ n', n = n' + 1 := ⟨n - 1, by omega⟩
      have b1 := ri_bd (cw := cw) (r := rad X Y) (q := (X, Y)) hXY j
      have b2 := ri_bd (cw := cw) (r := rad X Y) (q := (X, Y)) hXY (j + 1)
      have bad : ta g (PX + (ri cw (rad X Y) (X, Y) (j + 1)).1) (PY + (ri cw (rad X Y) (X, Y) (j + 1)).2) = false → swp (ta g) cw PX PY X Y = false := fun h => allB_f.mpr ⟨j, by omega, h⟩
      have e1 : fX9_mayTurnAlone_106 N K (n + 1) (zI b) (zI P) (b2i cw) (zI PX) (zI PY) true (zI i) (zI (rad X Y)) (zI j) (rg M (zI (ri cw (rad X Y) (X, Y) j).1) (zI (ri cw (rad X Y) (X, Y) j).2)) = fX9_mayTurnAlone_106 N K n (zI b) (zI P) (b2i cw) (zI PX) (zI PY) (ta g (PX + (ri cw (rad X Y) (X, Y) (j + 1)).1) (PY + (ri cw (rad X Y) (X, Y) (j + 1)).2)) (zI i) (zI (rad X Y)) (zI (j + 1 : Nat)) (rg M (zI (ri cw (rad X Y) (X, Y) (j + 1)).1) (zI (ri cw (rad X Y) (X, Y) (j + 1)).2)) := by
        show fX9_mayTurnAlone_106b N K (fX9_mayTurnAlone_106 N K n) (zI b) (zI P) (b2i cw) (zI PX) (zI PY) true (zI i) (zI (rad X Y)) (zI j) (rg M (zI (ri cw (rad X Y) (X, Y) j).1) (zI (ri cw (rad X Y) (X, Y) j).2)) = _
        unfold fX9_mayTurnAlone_106b fX9_mayTurnAlone_178 fX9_mayTurnAlone_179
        rw [zl2, zM, i_le (by omega) (by omega), if_neg (by omega), zl0, i_b, if_pos rfl, m_goRound (by omega) (by omega), bd_ok]
        have e2 : rst cw (rad X Y) (ri cw (rad X Y) (X, Y) j) = ri cw (rad X Y) (X, Y) (j + 1) := rfl
        rw [e2]
        generalize ri cw (rad X Y) (X, Y) (j + 1) = w at *
        rw [show (rg M (zI w.1) (zI w.2)).1 6 = zI w.1 from rfl, show (rg M (zI w.1) (zI w.2)).1 7 = zI w.2 from rfl, zA, zA, m_isFree (G _ _) hw (by omega) (by omega), bd_ok, i_b, show (rg M (zI w.1) (zI w.2)).1 6 = zI w.1 from rfl, show (rg M (zI w.1) (zI w.2)).1 7 = zI w.2 from rfl, zA, zA, zl1, zA]
        unfold ta
        generalize PX + w.1 = x
        generalize PY + w.2 = y
        by_cases h1 : fr g x y = true
        · have hin := (fr_in h1).1
          have hkd : kd g x y ≤ 13 := hw.2.1 _
          rw [if_pos h1, h1, m_kindAt (G _ _) hw hin, bd_ok, zl5, m_in (by omega) (by omega) (by omega), bd_ok, i_d]
          by_cases h2 : (2 : Int) ≤ (kd g x y : Int) ∧ (kd g x y : Int) ≤ 5
          · rw [if_pos h2, decide_eq_true (p := 2 ≤ kd g x y ∧ kd g x y ≤ 5) (by omega)]; rfl
          · rw [if_neg h2, decide_eq_false (p := 2 ≤ kd g x y ∧ kd g x y ≤ 5) (by omega)]; rfl
        · rw [if_neg h1]
          rw [Bool.not_eq_true] at h1
          rw [h1]
          rfl
      rw [e1]
      by_cases hc : ta g (PX + (ri cw (rad X Y) (X, Y) (j + 1)).1) (PY + (ri cw (rad X Y) (X, Y) (j + 1)).2) = true
      · rw [hc]
        exact ih (j + 1) n (by omega) (by omega) (by simp only [allB]; rw [hpre, hc]; rfl)
      · rw [Bool.not_eq_true] at hc
        rw [hc, bad hc]
        refine ⟨zI (ri cw (rad X Y) (X, Y) (j + 1)).1, zI (ri cw (rad X Y) (X, Y) (j + 1)).2, ?_⟩
        obtain ⟨m, rfl⟩ : ∃ n', n = n' + 1 := ⟨n - 1, by omega⟩
        show fX9_mayTurnAlone_106b N K (fX9_mayTurnAlone_106 N K m) (zI b) (zI P) (b2i cw) (zI PX) (zI PY) false (zI i) (zI (rad X Y)) (zI (j + 1 : Nat)) (rg M (zI (ri cw (rad X Y) (X, Y) (j + 1)).1) (zI (ri cw (rad X Y) (X, Y) (j + 1)).2)) = _
        unfold fX9_mayTurnAlone_106b fX9_mayTurnAlone_187
        rw [zl0, i_b, if_neg (c := false = true) (by simp), ite_self, zl1, zA]
        rfl
  have l21 : ∀ (d i n : Nat) (u v : Int32), i + d = gN g b → d < n → (allB i fun i => swp (ta g) cw PX PY (oX g b i P) (oY g b i P)) = true → ∃ u2 v2, fX9_mayTurnAlone_21 N n (zI b) (zI P) (b2i cw) (zI PX) (zI PY) true (zI i) (rg M u v) = some (allB (gN g b) fun i => swp (ta g) cw PX PY (oX g b i P) (oY g b i P), rg M u2 v2) := by
    intro d
    induction d with
    | zero =>
      intro i n u v hi hn hpre
      obtain ⟨n, rfl⟩ : ∃ n', n = n' + 1 := ⟨n - 1, by omega⟩
      refine ⟨u, v, ?_⟩
      show fX9_mayTurnAlone_21b N (fX9_mayTurnAlone_21 N n) (zI b) (zI P) (b2i cw) (zI PX) (zI PY) true (zI i) (rg M u v) = _
      unfold fX9_mayTurnAlone_21b fX9_mayTurnAlone_193
      rw [ck_z (by omega) (by omega) (by omega), z_cl (by omega) (by omega), show ((b : Int)).toNat = b by omega, (G u v).2.2.2.1 b hb, i_le (by omega) (by omega), if_pos (by omega), show gN g b = i by omega, hpre]
    | succ d ih =>
      intro i n u v hi hn hpre
      obtain ⟨n, rfl⟩ : ∃ n', n = n' + 1 := ⟨n - 1, by omega⟩
      have hig : i < gN g b := by omega
      have hX := rX_bd (o := P / 64) (hw.2.2.2.1 b i)
      have hY := rY_bd (o := P / 64) (hw.2.2.2.1 b i)
      have hXY : -7 ≤ oX g b i P ∧ oX g b i P ≤ 7 ∧ -7 ≤ oY g b i P ∧ oY g b i P ≤ 7 := by unfold oX oY; omega
      have hr := rad_bd hXY
      have e1 : fX9_mayTurnAlone_21 N (n + 1) (zI b) (zI P) (b2i cw) (zI PX) (zI PY) true (zI i) (rg M u v) = fX9_mayTurnAlone_106 N (fX9_mayTurnAlone_21 N n) N (zI b) (zI P) (b2i cw) (zI PX) (zI PY) true (zI i) (zI (rad (oX g b i P) (oY g b i P))) (zI (0 : Nat)) (rg M (zI (oX g b i P)) (zI (oY g b i P))) := by
        show fX9_mayTurnAlone_21b N (fX9_mayTurnAlone_21 N n) (zI b) (zI P) (b2i cw) (zI PX) (zI PY) true (zI i) (rg M u v) = _
        unfold fX9_mayTurnAlone_21b fX9_mayTurnAlone_101
        have ecx : cx g b i P - PX = oX g b i P := by unfold cx oX; omega
        have ecy : cy g b i P - PY = oY g b i P := by unfold cy oY; omega
        rw [ck_z (by omega) (by omega) (by omega), z_cl (by omega) (by omega), show ((b : Int)).toNat = b by omega, (G u v).2.2.2.1 b hb, i_le (by omega) (by omega), if_neg (by omega), zl0, i_b, if_pos rfl, m_cellX (G u v) hw hb hig hP, bd_ok, zS, ecx, stp_ok, rg_6, m_cellY (G _ _) hw hb hig hP, bd_ok, zS, ecy, stp_ok, rg_7]
        generalize oX g b i P = X at *
        generalize oY g b i P = Y at *
        have a1 := ab_bd (a := X) (by omega)
        have a2 := ab_bd (a := Y) (by omega)
        rw [show (rg M (zI X) (zI Y)).1 6 = zI X from rfl, m_absolute (by omega), bd_ok, show (rg M (zI X) (zI Y)).1 7 = zI Y from rfl, m_absolute (by omega), bd_ok, i_le (by omega) (by omega), show (rg M (zI X) (zI Y)).1 6 = zI X from rfl, m_absolute (by omega), bd_ok, show (rg M (zI X) (zI Y)).1 7 = zI Y from rfl, m_absolute (by omega), bd_ok]
        unfold rad
        by_cases h : ab X ≤ ab Y
        · rw [if_pos h, if_pos h]; rfl
        · rw [if_neg h, if_neg h]; rfl
      obtain ⟨u2, v2, e2⟩ := l106 (fX9_mayTurnAlone_21 N n) i (oX g b i P) (oY g b i P) hXY (2 * rad (oX g b i P) (oY g b i P)).toNat 0 N (by omega) (by omega) rfl
      have e3 : fX9_mayTurnAlone_106 N (fX9_mayTurnAlone_21 N n) N (zI b) (zI P) (b2i cw) (zI PX) (zI PY) true (zI i) (zI (rad (oX g b i P) (oY g b i P))) (zI (0 : Nat)) (rg M (zI (oX g b i P)) (zI (oY g b i P))) = _ := e2
      rw [e1, e3]
      by_cases hs : swp (ta g) cw PX PY (oX g b i P) (oY g b i P) = true
      · rw [hs]
        exact ih (i + 1) n u2 v2 (by omega) (by omega) (by simp only [allB]; rw [hpre, hs]; rfl)
      · rw [Bool.not_eq_true] at hs
        refine ⟨u2, v2, ?_⟩
        obtain ⟨m, rfl⟩ : ∃ n', n = n' + 1 := ⟨n - 1, by omega⟩
        rw [hs, allB_f.mpr ⟨i, hig, hs⟩]
        show fX9_mayTurnAlone_21b N (fX9_mayTurnAlone_21 N m) (zI b) (zI P) (b2i cw) (zI PX) (zI PY) false (zI (i + 1 : Nat)) (rg M u2 v2) = _
        unfold fX9_mayTurnAlone_21b fX9_mayTurnAlone_193
        rw [ck_z (by omega) (by omega) (by omega), zl0, i_b, if_neg (c := false = true) (by simp), ite_self]
  obtain ⟨u2, v2, e1⟩ := l21 (gN g b) 0 N (M.1 6) (M.1 7) (by omega) (by omega) rfl
  refine ⟨u2, v2, ?_⟩
  unfold fX9_mayTurnAlone taB
  rw [zl8, z_rem (by omega) (by omega) (by omega) (by omega), nm_ok, z_div (by omega) (by omega) (by omega) (by omega), z_rem (by omega) (by omega) (by omega) (by omega), nm_ok, show ((P : Int) % 8) = PX by omega, show ((P : Int) / 8 % 8) = PY by omega]
  rw [hPX, hPY, ← e1]
  rw [← rg_0 M]
  rfl
