/-! how many arrangements the class reaches -/
theorem tr1_n1 {F : Nat → Nat → Nat → Nat} {dz so : Nat → Bool} (hso : ∀ v, so v = false) {a b k : Nat} {T : TT} : (tr1 F dz so a b k T).1 ≠ 1 := by
  unfold tr1
  split
  · exact (show (0 : Nat) ≠ 1 by decide)
  · split
    · exact (show (0 : Nat) ≠ 1 by decide)
    · split
      · exact (show (2 : Nat) ≠ 1 by decide)
      · rw [hso]
        exact (show (0 : Nat) ≠ 1 by decide)
theorem trk_n1 {F : Nat → Nat → Nat → Nat} {dz so : Nat → Bool} (hso : ∀ v, so v = false) {a b : Nat} : ∀ d k T, (trk F dz so a b d k T).1 ≠ 1 := by
  intro d
  induction d with
  | zero => intro k T; exact (show (0 : Nat) ≠ 1 by decide)
  | succ d ih =>
    intro k T
    unfold trk
    split
    · exact ih _ _
    · exact tr1_n1 hso
theorem trb_n1 {F : Nat → Nat → Nat → Nat} {dz so : Nat → Bool} (hso : ∀ v, so v = false) {a : Nat} : ∀ d b T, (trb F dz so a d b T).1 ≠ 1 := by
  intro d
  induction d with
  | zero => intro k T; exact (show (0 : Nat) ≠ 1 by decide)
  | succ d ih =>
    intro k T
    unfold trb
    split
    · exact ih _ _
    · exact trk_n1 hso _ _ _
theorem x_co27 {N : Nat} {H : Nat → Nat} {g : Lv} {wt th : Nat → Nat} {st : Nat} {gx gy gt : Nat → Int} {D : Nat → Nat → Int} {X : St} (hN : 3000 ≤ N) (hH : hOK H) (hp : pE g wt th st gx gy gt D) (hE : xE g wt th st gt D X) {most step until0 : Nat} (hms : step < most) (hmost : most ≤ 10) (hu : until0 ≤ 1200) (K : Int32 → Int32 → Int32 → St → Option (Int32 × St)) :
    ∀ (d a m : Nat) (T : TT) (tb : Nat → Nat) (Y : St), a + d = until0 → d < m → until0 ≤ T.1 → wT (okv g) T → agX X Y → SX H T tb Y → (∀ i, a ≤ i → i < until0 → tS T i = step) → (∀ i, until0 ≤ i → i < T.1 → tS T i = step + 1) →
      (∃ T2 tb2 Y2, fX5_countWithin_27 N K m (zI most) (zI step) (zI until0) (zI a) Y = K (zI most) (zI until0) (zI (step + 1 : Nat)) Y2 ∧ out (sF g wt th st) (sz g D false) (ss g gx gy gt false) most (1200 - a) a T = out (sF g wt th st) (sz g D false) (ss g gx gy gt false) most (1200 - until0) until0 T2 ∧ until0 ≤ T2.1 ∧ wT (okv g) T2 ∧ agX X Y2 ∧ SX H T2 tb2 Y2 ∧ ∀ i, until0 ≤ i → i < T2.1 → tS T2 i = step + 1) ∨ (∃ Y2, fX5_countWithin_27 N K m (zI most) (zI step) (zI until0) (zI a) Y = some (zI (-6), Y2) ∧ agX X Y2 ∧ (out (sF g wt th st) (sz g D false) (ss g gx gy gt false) most (1200 - a) a T).1 = 2) := by
  intro d
  induction d with
  | zero =>
    intro a m T tb Y had hm huT hT hX hS h1 h2
    obtain ⟨m, rfl⟩ : ∃ n', m = n' + 1 := ⟨m - 1, by omega⟩
    have : a = until0 := by omega
    subst this
    refine Or.inl ⟨T, tb, Y, ?_, rfl, huT, hT, hX, hS, h2⟩
    show fX5_countWithin_27b N K (fX5_countWithin_27 N K m) (zI most) (zI step) (zI a) (zI a) Y = _
    unfold fX5_countWithin_27b
    rw [i_le (by omega) (by omega), if_pos (by omega), zl1, zA]
    rfl
  | succ d ih =>
    intro a m T tb Y had hm huT hT hX hS h1 h2
    obtain ⟨m, rfl⟩ : ∃ n', m = n' + 1 := ⟨m - 1, by omega⟩
    have h12 := hT.2.1
    obtain ⟨tb2, Y2, e, a2, S2⟩ := x_spread (gx := gx) (gy := gy) (slv := false) hN hH hp hE (show a < T.1 by omega) hT hX hS
    have hgr := trb_w (dz := sz g D false) (so := ss g gx gy gt false) (a := a) (sF_ok (wt := wt) (th := th) (st := st) hp.1) 5 0 T (by omega) hT (by omega)
    have hn1 := trb_n1 (F := sF g wt th st) (dz := sz g D false) (so := ss g gx gy gt false) (fun v => rfl) (a := a) 5 0 T
    have hout : out (sF g wt th st) (sz g D false) (ss g gx gy gt false) most (1200 - a) a T = if (trb (sF g wt th st) (sz g D false) (ss g gx gy gt false) a 5 0 T).1 = 0 then out (sF g wt th st) (sz g D false) (ss g gx gy gt false) most (1200 - (a + 1)) (a + 1) (trb (sF g wt th st) (sz g D false) (ss g gx gy gt false) a 5 0 T).2 else trb (sF g wt th st) (sz g D false) (ss g gx gy gt false) a 5 0 T := by
      rw [show 1200 - a = (1200 - (a + 1)) + 1 by omega]
      conv => lhs; unfold out
      rw [if_neg (fun z => by have := h1 a (by omega) (by omega); rcases z with z | z <;> omega)]
    have e' : fX5_spread N (zI a) 0 Y = _ := e
    have e27 : ∀ A, (fX5_countWithin_27 N K (m + 1) (zI most) (zI step) (zI until0) (zI a) Y = A) = (fX5_countWithin_27b N K (fX5_countWithin_27 N K m) (zI most) (zI step) (zI until0) (zI a) Y = A) := fun _ => rfl
    simp only [e27]
    unfold fX5_countWithin_27b
    rw [i_le (by omega) (by omega), if_neg (by omega), e', bd_ok, zl0, hout]
    generalize trb (sF g wt th st) (sz g D false) (ss g gx gy gt false) a 5 0 T = q at *
    have hq2 := hgr.2.2.1
    by_cases h : q.1 = 0
    · rw [h, show cdr 0 = 0 from rfl, if_pos rfl, if_pos rfl, zl1, zA]
      refine ih (a + 1) m q.2 tb2 Y2 (by omega) (by omega) (by have := hgr.2.1; omega) hgr.1 a2 S2 (fun i hi hi2 => ?_) (fun i hi hi2 => ?_)
      · rw [(hgr.2.2.2.1 i (by omega)).2]; exact h1 i (by omega) hi2
      · by_cases hiT : i < T.1
        · rw [(hgr.2.2.2.1 i hiT).2]; exact h2 i hi hiT
        · rw [hgr.2.2.2.2 i (by omega) hi2, h1 a (by omega) (by omega)]
    · have h2' : q.1 = 2 := by omega
      rw [h2', show cdr 2 = -6 from rfl, i_eq (by omega) (by omega), if_neg (by omega), if_neg (by omega)]
      exact Or.inr ⟨Y2, rfl, a2, h2'⟩
theorem x_countWithin {N : Nat} {g : Lv} {wt th : Nat → Nat} {st : Nat} {gx gy gt : Nat → Int} {D : Nat → Nat → Int} {X : St} {p : Nat → Nat} (hN : 3000 ≤ N) (hp : pE g wt th st gx gy gt D) (hE : xE g wt th st gt D X) (hok : okA g p) {most : Nat} (hmost : most ≤ 10) : ∃ Y, fX5_countWithin N (lN (pkA p)) (zI most) X = some (zI (if (out (sF g wt th st) (sz g D false) (ss g gx gy gt false) most 1200 0 (T0 (pkA p))).1 = 2 then -6 else (out (sF g wt th st) (sz g D false) (ss g gx gy gt false) most 1200 0 (T0 (pkA p))).2.1), Y) ∧ agX X Y := by
  obtain ⟨hv, hu⟩ := okA_pk hok
  obtain ⟨H, hH⟩ := hs_ok
  have lp : ∀ (e step fr0 m : Nat) (T : TT) (tb : Nat → Nat) (Y : St), step + e = most → e < m → fr0 ≤ T.1 → wT (okv g) T → agX X Y → SX H T tb Y → (∀ i, fr0 ≤ i → i < T.1 → tS T i = step) → ∃ Y2, fX5_countWithin_11 N m (zI most) (zI fr0) (zI step) Y = some (zI (if (out (sF g wt th st) (sz g D false) (ss g gx gy gt false) most (1200 - fr0) fr0 T).1 = 2 then -6 else (out (sF g wt th st) (sz g D false) (ss g gx gy gt false) most (1200 - fr0) fr0 T).2.1), Y2) ∧ agX X Y2 := by
    intro e
    induction e with
    | zero =>
      intro step fr0 m T tb Y hse hm hfr hT hX hS h1
      obtain ⟨m, rfl⟩ : ∃ n', m = n' + 1 := ⟨m - 1, by omega⟩
      have h12 := hT.2.1
      have hout : out (sF g wt th st) (sz g D false) (ss g gx gy gt false) most (1200 - fr0) fr0 T = (0, T) := by
        by_cases hz : fr0 = 1200
        · rw [hz]; rfl
        · rw [show 1200 - fr0 = (1200 - fr0 - 1) + 1 by omega]
          unfold out
          by_cases h2 : T.1 ≤ fr0
          · rw [if_pos (Or.inl h2)]
          · rw [if_pos (Or.inr (by rw [h1 fr0 (by omega) (by omega)]; omega))]
      rw [hout]
      refine ⟨Y, ?_, hX⟩
      show fX5_countWithin_11b N (fX5_countWithin_11 N m) (zI most) (zI fr0) (zI step) Y = _
      unfold fX5_countWithin_11b
      rw [i_le (by omega) (by omega), if_pos (by omega), hS.1, if_neg (show ¬ (0 : Nat) = 2 by decide)]
    | succ e ih =>
      intro step fr0 m T tb Y hse hm hfr hT hX hS h1
      obtain ⟨m, rfl⟩ : ∃ n', m = n' + 1 := ⟨m - 1, by omega⟩
      have h12 := hT.2.1
      show ∃ Y2, fX5_countWithin_11b N (fX5_countWithin_11 N m) (zI most) (zI fr0) (zI step) Y = some (zI (if (out (sF g wt th st) (sz g D false) (ss g gx gy gt false) most (1200 - fr0) fr0 T).1 = 2 then -6 else (out (sF g wt th st) (sz g D false) (ss g gx gy gt false) most (1200 - fr0) fr0 T).2.1), Y2) ∧ agX X Y2
      unfold fX5_countWithin_11b
      rw [i_le (by omega) (by omega), if_neg (by omega), nm_ok, hS.1]
      rcases x_co27 (gx := gx) (gy := gy) hN hH hp hE (show step < most by omega) hmost h12 (fX5_countWithin_11 N m) (T.1 - fr0) fr0 N T tb Y (by omega) (by omega) (Nat.le_refl _) hT hX hS h1 (fun i hi hi2 => by omega) with ⟨T2, tb2, Y2, e1, e2, e3, e4, e5, e6, e7⟩ | ⟨Y2, e1, e2, e3⟩
      · rw [e1, e2]
        exact ih (step + 1) T.1 m T2 tb2 Y2 (by omega) (by omega) e3 e4 e5 e6 e7
      · rw [e1, e3, if_pos rfl]
        exact ⟨Y2, rfl, e2⟩
  unfold fX5_countWithin
  obtain ⟨tb, Y, e, a, S⟩ := x_begin (N := N) (X := X) hN hH hv.1
  rw [e, bd_ok]
  exact lp most 0 0 N (T0 (pkA p)) tb Y (by omega) (by omega) (Nat.zero_le _) (wT_0 hv) (a.wk (by simp) (by simp) (by simp) (by simp)) S (fun i hi hi2 => rfl)
