/-! the class's search -/
theorem x_sp23 {N : Nat} {H : Nat → Nat} {g : Lv} {wt th : Nat → Nat} {st : Nat} {gx gy gt : Nat → Int} {D : Nat → Nat → Int} {slv : Bool} {X : St} {a va : Nat} (hN : 3000 ≤ N) (hH : hOK H) (hp : pE g wt th st gx gy gt D) (hE : xE g wt th st gt D X) (k15 : Int32 → Int32 → Int32 → St → Option (Int32 × St)) {b : Nat} (hb : b < 5) :
    ∀ (d k m : Nat) (T : TT) (tb : Nat → Nat) (Y : St), k + d = 6 → d < m → a < T.1 → tL T a = va → wT (okv g) T → agX X Y → SX H T tb Y → xMv g wt th (upk va) va 1 Y → ∃ tb2 Y2, fX5_spread_23 N k15 m (zI a) (zI (i01 slv)) (zI b) (zI k) Y = (if (trk (sF g wt th st) (sz g D slv) (ss g gx gy gt slv) a b d k T).1 = 0 then k15 (zI a) (zI (i01 slv)) (zI (b + 1 : Nat)) Y2 else some (zI (cdr (trk (sF g wt th st) (sz g D slv) (ss g gx gy gt slv) a b d k T).1), Y2)) ∧ agX X Y2 ∧ SX H (trk (sF g wt th st) (sz g D slv) (ss g gx gy gt slv) a b d k T).2 tb2 Y2 ∧ xMv g wt th (upk va) va 1 Y2 := by
  intro d
  induction d with
  | zero =>
    intro k m T tb Y hk hm ha hva hT hX hS hM
    obtain ⟨m, rfl⟩ : ∃ n', m = n' + 1 := ⟨m - 1, by omega⟩
    refine ⟨tb, Y, ?_, hX, hS, hM⟩
    show fX5_spread_23b N k15 (fX5_spread_23 N k15 m) (zI a) (zI (i01 slv)) (zI b) (zI k) Y = if (0 : Nat) = 0 then _ else _
    unfold fX5_spread_23b
    rw [zl6, i_le (by omega) (by omega), if_pos (by omega), if_pos rfl, zl1, zA]
    rfl
  | succ d ih =>
    intro k m T tb Y hk hm ha hva hT hX hS hM
    obtain ⟨m, rfl⟩ : ∃ n', m = n' + 1 := ⟨m - 1, by omega⟩
    subst hva
    obtain ⟨tb2, Y2, e, a2, S2, m2⟩ := x_try (slv := slv) hN hH hp (hE.ag hX) hT hS ha hM hb (show k < 6 by omega) k15 (fX5_spread_23 N k15 m)
    have hgr := tr1_w (dz := sz g D slv) (so := ss g gx gy gt slv) (a := a) (b := b) (k := k) (T := T) (sF_ok (wt := wt) (th := th) (st := st) hp.1) hb (by omega) hT ha
    have e' : fX5_spread_23 N k15 (m + 1) (zI a) (zI (i01 slv)) (zI b) (zI k) Y = _ := e
    rw [e']
    unfold trk
    generalize tr1 (sF g wt th st) (sz g D slv) (ss g gx gy gt slv) a b k T = r at *
    by_cases h : r.1 = 0
    · rw [if_pos h, if_pos h]
      exact ih (k + 1) m r.2 tb2 Y2 (by omega) (by omega) (by omega) (hgr.2.2.2.1 a ha).1 hgr.1 (hX.tr a2) S2 m2
    · rw [if_neg h, if_neg h]
      exact ⟨tb2, Y2, by rw [if_neg h], hX.tr a2, S2, m2⟩
theorem x_sp15 {N : Nat} {H : Nat → Nat} {g : Lv} {wt th : Nat → Nat} {st : Nat} {gx gy gt : Nat → Int} {D : Nat → Nat → Int} {slv : Bool} {X : St} {a va : Nat} (hN : 3000 ≤ N) (hH : hOK H) (hp : pE g wt th st gx gy gt D) (hE : xE g wt th st gt D X) :
    ∀ (d b m : Nat) (T : TT) (tb : Nat → Nat) (Y : St), b + d = 5 → d < m → a < T.1 → tL T a = va → wT (okv g) T → agX X Y → SX H T tb Y → xMv g wt th (upk va) va 1 Y → ∃ tb2 Y2, fX5_spread_15 N m (zI a) (zI (i01 slv)) (zI b) Y = some (zI (cdr (trb (sF g wt th st) (sz g D slv) (ss g gx gy gt slv) a d b T).1), Y2) ∧ agX X Y2 ∧ SX H (trb (sF g wt th st) (sz g D slv) (ss g gx gy gt slv) a d b T).2 tb2 Y2 := by
  intro d
  induction d with
  | zero =>
    intro b m T tb Y hb hm ha hva hT hX hS hM
    obtain ⟨m, rfl⟩ : ∃ n', m = n' + 1 := ⟨m - 1, by omega⟩
    refine ⟨tb, Y, ?_, hX, hS⟩
    show fX5_spread_15b N (fX5_spread_15 N m) (zI a) (zI (i01 slv)) (zI b) Y = _
    unfold fX5_spread_15b
    rw [zl5, i_le (by omega) (by omega), if_pos (by omega)]
    rfl
  | succ d ih =>
    intro b m T tb Y hb hm ha hva hT hX hS hM
    obtain ⟨m, rfl⟩ : ∃ n', m = n' + 1 := ⟨m - 1, by omega⟩
    have hb5 : b < 5 := by omega
    obtain ⟨tb2, Y2, e, a2, S2, m2⟩ := x_sp23 (slv := slv) (a := a) hN hH hp hE (fX5_spread_15 N m) hb5 6 0 N T tb Y (by omega) (by omega) ha hva hT hX hS hM
    have hgr := trk_w (dz := sz g D slv) (so := ss g gx gy gt slv) (a := a) (sF_ok (wt := wt) (th := th) (st := st) hp.1) hb5 6 0 T (by omega) hT ha
    show ∃ tb2 Y2, fX5_spread_15b N (fX5_spread_15 N m) (zI a) (zI (i01 slv)) (zI b) Y = some (zI (cdr (trb (sF g wt th st) (sz g D slv) (ss g gx gy gt slv) a (d + 1) b T).1), Y2) ∧ agX X Y2 ∧ SX H (trb (sF g wt th st) (sz g D slv) (ss g gx gy gt slv) a (d + 1) b T).2 tb2 Y2
    unfold fX5_spread_15b
    have e' : fX5_spread_23 N (fX5_spread_15 N m) N (zI a) (zI (i01 slv)) (zI b) 0 Y = _ := e
    rw [zl5, i_le (by omega) (by omega), if_neg (by omega), e']
    unfold trb
    generalize trk (sF g wt th st) (sz g D slv) (ss g gx gy gt slv) a b 6 0 T = r at *
    by_cases h : r.1 = 0
    · rw [if_pos h, if_pos h]
      exact ih (b + 1) m r.2 tb2 Y2 (by omega) (by omega) (by have := hgr.2.1; omega) ((hgr.2.2.2.1 a ha).1.trans hva) hgr.1 a2 S2 m2
    · rw [if_neg h, if_neg h]
      exact ⟨tb2, Y2, rfl, a2, S2⟩
theorem x_spread {N : Nat} {H : Nat → Nat} {g : Lv} {wt th : Nat → Nat} {st : Nat} {gx gy gt : Nat → Int} {D : Nat → Nat → Int} {slv : Bool} {X Y : St} {a : Nat} {T : TT} {tb : Nat → Nat} (hN : 3000 ≤ N) (hH : hOK H) (hp : pE g wt th st gx gy gt D) (hE : xE g wt th st gt D X) (ha : a < T.1) (hT : wT (okv g) T) (hX : agX X Y) (hS : SX H T tb Y) : ∃ tb2 Y2, fX5_spread N (zI a) (zI (i01 slv)) Y = some (zI (cdr (trb (sF g wt th st) (sz g D slv) (ss g gx gy gt slv) a 5 0 T).1), Y2) ∧ agX X Y2 ∧ SX H (trb (sF g wt th st) (sz g D slv) (ss g gx gy gt slv) a 5 0 T).2 tb2 Y2 := by
  have h12 := hT.2.1
  have hov := hT.2.2.1 a ha
  have EY := hE.ag hX
  obtain ⟨Y1, e1, a1, m1⟩ := x_stand (N := N) (j := 1) (by omega) (by omega) EY.1 EY.2.1 hp.1 hov.2 EY.2.2.1 hp.2.2.1 EY.2.2.2.1 hp.2.1 (upk_enc hov.1)
  unfold fX5_spread
  rw [ck_z (by omega) (by omega) (by omega), z_cl (by omega) (by omega), show ((a : Int)).toNat = a by omega, (hS.2.1 a ha).1, e1, bd_ok]
  exact x_sp15 hN hH hp hE 5 0 N T tb Y1 (by omega) (by omega) ha rfl hT (hX.tr (agr.wk a1 (by simp) (by simp) (by simp) (by simp))) (hS.ag a1 (by decide) (by decide) (by decide) (by decide) (by decide)) m1
theorem x_trace {N : Nat} {H : Nat → Nat} {g : Lv} {T : TT} {tb : Nat → Nat} {Y : St} (hN : 3000 ≤ N) (hT : wT (okv g) T) (hS : SX H T tb Y) : ∃ Y2, fX5_traceSolution N Y = some (zI (tS T (T.1 - 1) : Nat), Y2) ∧ agr [] [] [31] [] Y Y2 ∧ ∀ j, j < tS T (T.1 - 1) → Y2.2.2.1 31 j = zI (tV T (anc T (tS T (T.1 - 1) - 1 - j) (T.1 - 1)) : Nat) := by
  have h1 := hT.1
  have h12 := hT.2.1
  have hlen := tS_bd hT (T.1 - 1) (by omega)
  have l49 : ∀ (d m : Nat) (Z : St), d ≤ tS T (T.1 - 1) → d < m → agr [] [] [31] [] Y Z → (∀ j, d ≤ j → j < tS T (T.1 - 1) → Z.2.2.1 31 j = zI (tV T (anc T (tS T (T.1 - 1) - 1 - j) (T.1 - 1)) : Nat)) → ∃ Y2, fX5_traceSolution_49 N m (zI (tS T (T.1 - 1) : Nat)) (zI (anc T (tS T (T.1 - 1) - d) (T.1 - 1) : Nat)) (zI ((d : Int) - 1)) Z = some (zI (tS T (T.1 - 1) : Nat), Y2) ∧ agr [] [] [31] [] Y Y2 ∧ ∀ j, j < tS T (T.1 - 1) → Y2.2.2.1 31 j = zI (tV T (anc T (tS T (T.1 - 1) - 1 - j) (T.1 - 1)) : Nat) := by
    intro d
    induction d with
    | zero =>
      intro m Z hd hm hZ hv
      obtain ⟨m, rfl⟩ : ∃ n', m = n' + 1 := ⟨m - 1, by omega⟩
      refine ⟨Z, ?_, hZ, fun j hj => hv j (by omega) hj⟩
      show fX5_traceSolution_49b N (fX5_traceSolution_49 N m) _ _ (zI (((0 : Nat) : Int) - 1)) Z = _
      unfold fX5_traceSolution_49b
      rw [zl0, i_lt (by omega) (by omega), if_pos (by omega)]
    | succ d ih =>
      intro m Z hd hm hZ hv
      obtain ⟨m, rfl⟩ : ∃ n', m = n' + 1 := ⟨m - 1, by omega⟩
      obtain ⟨s1, s2, s3⟩ := anc_S hT (i := T.1 - 1) (by omega) (tS T (T.1 - 1) - (d + 1)) (by omega)
      obtain ⟨q1, q2, q3⟩ := hS.2.1 _ s2
      show ∃ Y2, fX5_traceSolution_49b N (fX5_traceSolution_49 N m) (zI (tS T (T.1 - 1) : Nat)) (zI (anc T (tS T (T.1 - 1) - (d + 1)) (T.1 - 1) : Nat)) (zI (((d + 1 : Nat) : Int) - 1)) Z = some (zI (tS T (T.1 - 1) : Nat), Y2) ∧ agr [] [] [31] [] Y Y2 ∧ ∀ j, j < tS T (T.1 - 1) → Y2.2.2.1 31 j = zI (tV T (anc T (tS T (T.1 - 1) - 1 - j) (T.1 - 1)) : Nat)
      unfold fX5_traceSolution_49b
      rw [zl0, i_lt (by omega) (by omega), if_neg (by omega), ck_z (by omega) (by omega) (by omega), ck_z (by omega) (by omega) (by omega), stp_ok, ck_z (by omega) (by omega) (by omega), z_cl (by omega) (by omega), z_cl (by omega) (by omega), show ((anc T (tS T (T.1 - 1) - (d + 1)) (T.1 - 1) : Nat) : Int).toNat = anc T (tS T (T.1 - 1) - (d + 1)) (T.1 - 1) by omega, show (((d + 1 : Nat) : Int) - 1).toNat = d by omega, sA_ne _ _ _ (show 28 ≠ 31 by decide), hZ.2.2.1 28 (by decide), hZ.2.2.1 29 (by decide), q2, q3, nm_ok, zl1, zN, zA]
      have hanc : tO T (anc T (tS T (T.1 - 1) - (d + 1)) (T.1 - 1)) = anc T (tS T (T.1 - 1) - d) (T.1 - 1) := by
        rw [show tS T (T.1 - 1) - d = (tS T (T.1 - 1) - (d + 1)) + 1 by omega]
        rfl
      rw [hanc, show ((d + 1 : Nat) : Int) - 1 + -1 = (d : Int) - 1 by omega]
      refine ih m _ (by omega) (by omega) (agr.sA hZ (by simp) _ _) (fun j hj hj2 => ?_)
      by_cases hjd : j = d
      · rw [hjd, sA_same, show tS T (T.1 - 1) - 1 - d = tS T (T.1 - 1) - (d + 1) by omega]
      · rw [sA_oth _ _ hjd]
        exact hv j (by omega) hj2
  have l11 : ∀ (d n m : Nat), n + d = tS T (T.1 - 1) → d < m → fX5_traceSolution_11 N m (zI n) (zI (anc T n (T.1 - 1) : Nat)) (zI n) Y = fX5_traceSolution_38 N (zI (tS T (T.1 - 1) : Nat)) Y := by
    intro d
    induction d with
    | zero =>
      intro n m hn hm
      obtain ⟨m, rfl⟩ : ∃ n', m = n' + 1 := ⟨m - 1, by omega⟩
      obtain ⟨s1, s2, s3⟩ := anc_S hT (i := T.1 - 1) (by omega) n (by omega)
      have h0 : anc T n (T.1 - 1) = 0 := by
        by_cases h : anc T n (T.1 - 1) = 0
        · exact h
        · have := (hT.2.2.2.1 _ (by omega) s2).2.1
          omega
      show fX5_traceSolution_11b N (fX5_traceSolution_11 N m) (zI n) (zI (anc T n (T.1 - 1) : Nat)) (zI n) Y = _
      unfold fX5_traceSolution_11b
      rw [show (1200 : Int32) = zI 1200 from rfl, i_le (by omega) (by omega), if_neg (by omega), h0, zl0, i_le (by omega) (by omega), if_pos (by omega), show n = tS T (T.1 - 1) by omega]
    | succ d ih =>
      intro n m hn hm
      obtain ⟨m, rfl⟩ : ∃ n', m = n' + 1 := ⟨m - 1, by omega⟩
      obtain ⟨s1, s2, s3⟩ := anc_S hT (i := T.1 - 1) (by omega) n (by omega)
      have h0 := s3 (by omega)
      show fX5_traceSolution_11b N (fX5_traceSolution_11 N m) (zI n) (zI (anc T n (T.1 - 1) : Nat)) (zI n) Y = _
      unfold fX5_traceSolution_11b
      rw [show (1200 : Int32) = zI 1200 from rfl, i_le (by omega) (by omega), if_neg (by omega), zl0, i_le (by omega) (by omega), if_neg (by omega), ck_z (by omega) (by omega) (by omega), z_cl (by omega) (by omega), show ((anc T n (T.1 - 1) : Nat) : Int).toNat = anc T n (T.1 - 1) by omega, (hS.2.1 _ s2).2.1, nm_ok, zl1, zA]
      exact ih (n + 1) m (by omega) (by omega)
  unfold fX5_traceSolution
  rw [hS.1, zl1, zS, nm_ok, show ((T.1 : Int) - 1) = ((T.1 - 1 : Nat) : Int) by omega]
  have e1 : fX5_traceSolution_11 N N 0 (zI ((T.1 - 1 : Nat))) 0 Y = _ := l11 (tS T (T.1 - 1)) 0 N (by omega) (by omega)
  rw [e1]
  unfold fX5_traceSolution_38
  rw [hS.1, zl1, zS, nm_ok, zS, nm_ok, show ((T.1 : Int) - 1) = ((T.1 - 1 : Nat) : Int) by omega]
  have e2 := l49 (tS T (T.1 - 1)) N Y (Nat.le_refl _) (by omega) (agr.rf _) (fun j h1 h2 => by omega)
  rw [Nat.sub_self] at e2
  exact e2
abbrev agX2 (X Y : St) : Prop := agr [30] [3, 5, 7, 9] [23, 25, 28, 29, 30, 31] [10, 12] X Y
theorem x_fs32 {N : Nat} {H : Nat → Nat} {g : Lv} {wt th : Nat → Nat} {st : Nat} {gx gy gt : Nat → Int} {D : Nat → Nat → Int} {X : St} (hN : 3000 ≤ N) (hH : hOK H) (hp : pE g wt th st gx gy gt D) (hE : xE g wt th st gt D X) :
    ∀ (d a m : Nat) (T : TT) (tb : Nat → Nat) (Y : St), a + d = 1200 → d < m → wT (okv g) T → agX X Y → SX H T tb Y → ∀ r, r = out (sF g wt th st) (sz g D true) (ss g gx gy gt true) 2000 d a T → ∃ Y2, fX5_findSolution_32 N m (zI a) Y = some (zI (if r.1 = 0 then -7 else if r.1 = 2 then -6 else (tS r.2 (r.2.1 - 1) : Nat)), Y2) ∧ agX2 X Y2 ∧ (r.1 = 1 → ∀ j, j < tS r.2 (r.2.1 - 1) → Y2.2.2.1 31 j = zI (tV r.2 (anc r.2 (tS r.2 (r.2.1 - 1) - 1 - j) (r.2.1 - 1)) : Nat)) := by
  intro d
  induction d with
  | zero =>
    intro a m T tb Y had hm hT hX hS r hr
    obtain ⟨m, rfl⟩ : ∃ n', m = n' + 1 := ⟨m - 1, by omega⟩
    have h12 := hT.2.1
    have hr0 : r = (0, T) := hr
    refine ⟨Y, ?_, hX.wk (by simp) (by simp) (by simp) (by simp), fun h => by rw [hr0] at h; exact absurd h (show ¬ (0 : Nat) = 1 by decide)⟩
    show fX5_findSolution_32b N (fX5_findSolution_32 N m) (zI a) Y = _
    unfold fX5_findSolution_32b fX5_findSolution_85
    rw [hS.1, i_le (by omega) (by omega), if_pos (by omega), hr0, if_pos rfl]
    rfl
  | succ d ih =>
    intro a m T tb Y had hm hT hX hS r hr
    obtain ⟨m, rfl⟩ : ∃ n', m = n' + 1 := ⟨m - 1, by omega⟩
    have h12 := hT.2.1
    show ∃ Y2, fX5_findSolution_32b N (fX5_findSolution_32 N m) (zI a) Y = some (zI (if r.1 = 0 then -7 else if r.1 = 2 then -6 else (tS r.2 (r.2.1 - 1) : Nat)), Y2) ∧ agX2 X Y2 ∧ (r.1 = 1 → ∀ j, j < tS r.2 (r.2.1 - 1) → Y2.2.2.1 31 j = zI (tV r.2 (anc r.2 (tS r.2 (r.2.1 - 1) - 1 - j) (r.2.1 - 1)) : Nat))
    unfold fX5_findSolution_32b fX5_findSolution_85 fX5_findSolution_78
    rw [hS.1, i_le (by omega) (by omega)]
    unfold out at hr
    by_cases h1 : T.1 ≤ a
    · rw [if_pos (Or.inl h1)] at hr
      rw [if_pos (by omega), hr, if_pos rfl]
      exact ⟨Y, rfl, hX.wk (by simp) (by simp) (by simp) (by simp), fun h => absurd h (show ¬ (0 : Nat) = 1 by decide)⟩
    · have hsb := tS_bd hT a (by omega)
      rw [if_neg (fun z => by rcases z with z | z <;> omega)] at hr
      rw [if_neg (by omega), show (1200 : Int32) = zI 1200 from rfl, i_le (by omega) (by omega), if_neg (by omega)]
      obtain ⟨tb2, Y2, e, a2, S2⟩ := x_spread (slv := true) hN hH hp hE (show a < T.1 by omega) hT hX hS
      have hgr := trb_w (dz := sz g D true) (so := ss g gx gy gt true) (a := a) (sF_ok (wt := wt) (th := th) (st := st) hp.1) 5 0 T (by omega) hT (by omega)
      have e' : fX5_spread N (zI a) 1 Y = _ := e
      rw [e', bd_ok, zl0]
      generalize trb (sF g wt th st) (sz g D true) (ss g gx gy gt true) a 5 0 T = q at *
      have hq2 := hgr.2.2.1
      have hc : q.1 = 0 ∨ q.1 = 1 ∨ q.1 = 2 := by omega
      rcases hc with h | h | h
      · rw [if_pos h] at hr
        rw [h, show cdr 0 = 0 from rfl, if_pos rfl, zl1, zA]
        exact ih (a + 1) m q.2 tb2 Y2 (by omega) (by omega) hgr.1 a2 S2 r hr
      · rw [if_neg (by omega)] at hr
        subst hr
        rw [h, show cdr 1 = 1 from rfl, i_eq (by omega) (by omega), if_neg (by omega), zl1, i_eq (by omega) (by omega), if_pos rfl]
        obtain ⟨Y3, e3, a3, h3⟩ := x_trace hN hgr.1 S2
        rw [e3, bd_ok, if_neg (by omega), if_neg (by omega)]
        exact ⟨Y3, rfl, agr.tr (a2.wk (by simp) (by simp) (by simp) (by simp)) (a3.wk (by simp) (by simp) (by simp) (by simp)), fun _ => h3⟩
      · rw [if_neg (by omega)] at hr
        subst hr
        rw [h, show cdr 2 = -6 from rfl, i_eq (by omega) (by omega), if_neg (by omega), zl1, i_eq (by omega) (by omega), if_neg (by omega), if_neg (by omega), if_pos rfl]
        exact ⟨Y2, rfl, a2.wk (by simp) (by simp) (by simp) (by simp), fun h => absurd h (by decide)⟩
theorem x_findSolution {N : Nat} {g : Lv} {wt th : Nat → Nat} {st : Nat} {gx gy gt : Nat → Int} {D : Nat → Nat → Int} {X : St} {p : Nat → Nat} (hN : 3000 ≤ N) (hp : pE g wt th st gx gy gt D) (hE : xE g wt th st gt D X) (hok : okA g p) : ∃ Y, fX5_findSolution N (lN (pkA p)) X = some (zI (sLen g wt th st gx gy gt D p), Y) ∧ agX2 X Y ∧ ∀ j : Nat, (j : Int) < sLen g wt th st gx gy gt D p → Y.2.2.1 31 j = zI (sMov g wt th st gx gy gt D p j : Nat) := by
  obtain ⟨hv, hu⟩ := okA_pk hok
  obtain ⟨H, hH⟩ := hs_ok
  have hlb := lbN_bd hp.2.2.2.2.2 (fun b hb => (hok.1 b hb).1) 5 (by omega)
  have hsv := sv_iff hp.2.2.2.2.2 hok
  unfold fX5_findSolution fX5_findSolution_23 sLen sMov
  rw [x_boundOf (by omega) hE.2.2.2.2.2 hp.2.2.2.2.2 hok (pkA_enc fun b hb => (hok.1 b hb).1), bd_ok, zl0]
  cases hdd : dd g D p
  · rw [hdd, if_neg (c := false = true) (by simp)] at hsv
    rw [if_neg (c := false = true) (by simp), if_neg (c := false = true) (by simp), i_lt (by omega) (by omega)]
    by_cases hz : lbN g D p 5 = 0
    · rw [hsv.mpr hz, hz, if_neg (by omega), i_le (by omega) (by omega), if_pos (by omega), if_pos (c := true = true) rfl]
      exact ⟨X, rfl, agr.rf _, fun j hj => by omega⟩
    · have hs0 : sv g gx gy gt p = false := by
        cases h : sv g gx gy gt p
        · rfl
        · exact absurd (hsv.mp h) hz
      rw [if_pos (by omega), hs0, if_neg (c := false = true) (by simp)]
      obtain ⟨tb, Y, e, a, S⟩ := x_begin (N := N) (X := X) hN hH hv.1
      rw [e, bd_ok]
      obtain ⟨Y2, e2, a2, h2⟩ := x_fs32 hN hH hp hE 1200 0 N (T0 (pkA p)) tb Y (by omega) (by omega) (wT_0 hv) (a.wk (by simp) (by simp) (by simp) (by simp)) S (srS g wt th st gx gy gt D p) rfl
      refine ⟨Y2, e2, a2, fun j hj => ?_⟩
      have hw2 := (srS_w (wt := wt) (th := th) (st := st) (gx := gx) (gy := gy) (gt := gt) (D := D) hp.1 hok).2
      by_cases h0 : (srS g wt th st gx gy gt D p).1 = 0
      · rw [if_pos h0] at hj; omega
      · rw [if_neg h0] at hj
        by_cases h3 : (srS g wt th st gx gy gt D p).1 = 2
        · rw [if_pos h3] at hj; omega
        · rw [if_neg h3] at hj
          exact h2 (by omega) j (by omega)
  · rw [if_pos (c := true = true) rfl, if_pos (c := true = true) rfl, i_lt (by omega) (by omega), if_neg (by omega), i_le (by omega) (by omega), if_neg (by omega)]
    exact ⟨X, rfl, agr.rf _, fun j hj => by omega⟩
