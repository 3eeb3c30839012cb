/-! the class spreads from an arrangement of its list -/
def xE (g : Lv) (wt th : Nat → Nat) (st : Nat) (gt : Nat → Int) (D : Nat → Nat → Int) (X : St) : Prop := xY g X ∧ xB g X ∧ xW8 g wt X ∧ xTh th X ∧ X.1 2 = zI st ∧ xD g gt D X
theorem xE.ag {g : Lv} {wt th : Nat → Nat} {st : Nat} {gt : Nat → Int} {D : Nat → Nat → Int} {X Y : St} (h : xE g wt th st gt D X) (a : agX X Y) : xE g wt th st gt D Y := by
  obtain ⟨h1, h2, h3, h4, h5, h6⟩ := h
  refine ⟨h1.ag a (by decide) (by decide) (by decide) (by decide) (by decide) (by decide) (by decide) (by decide), h2.ag a (fun b hb => by simp; omega) (fun b hb => by simp; omega) (fun b hb => by simp; omega) (fun b hb => by simp; omega), fun b hb hn => ?_, fun r hr => ?_, ?_, fun b hb P hP => ?_⟩
  · rw [a.1 _ (by simp; omega)]; exact h3 b hb hn
  · rw [a.2.2.1 1 (by decide)]; exact h4 r hr
  · rw [a.1 2 (by decide)]; exact h5
  · rw [a.2.2.1 _ (by simp; omega)]; exact h6 b hb P hP
theorem xMv.ag {g : Lv} {wt th p : Nat → Nat} {v : Nat} {X Y : St} {is js as ls : List Nat} (h : xMv g wt th p v 1 X) (a : agr is js as ls X Y) (j3 : 3 ∉ js) (j5 : 5 ∉ js) (j7 : 7 ∉ js) (a23 : 23 ∉ as) (l10 : 10 ∉ ls) : xMv g wt th p v 1 Y := by
  unfold xMv
  rw [show 2 + 1 = 3 from rfl, show 4 + 1 = 5 from rfl, show 6 + 1 = 7 from rfl, show 22 + 1 = 23 from rfl, show 9 + 1 = 10 from rfl, a.2.1 3 j3, a.2.1 5 j5, a.2.1 7 j7, a.2.2.1 23 a23, a.2.2.2 10 l10]
  exact h
theorem SX.ag {H : Nat → Nat} {T : TT} {tb : Nat → Nat} {is js as ls : List Nat} {X Y : St} (h : SX H T tb X) (a : agr is js as ls X Y) (h1 : 30 ∉ is) (h2 : 28 ∉ as) (h3 : 29 ∉ as) (h4 : 30 ∉ as) (h5 : 12 ∉ ls) : SX H T tb Y := by
  unfold SX
  rw [a.1 30 h1, a.2.2.1 28 h2, a.2.2.1 29 h3, a.2.2.1 30 h4, a.2.2.2 12 h5]
  exact h
def cdr (r : Nat) : Int := if r = 0 then 0 else if r = 1 then 1 else -6
theorem x_try {N : Nat} {H : Nat → Nat} {g : Lv} {wt th : Nat → Nat} {st : Nat} {gx gy gt : Nat → Int} {D : Nat → Nat → Int} {slv : Bool} {T : TT} {tb : Nat → Nat} {Y : St} (hN : 3000 ≤ N) (hH : hOK H) (hp : pE g wt th st gx gy gt D) (hE : xE g wt th st gt D Y) (hT : wT (okv g) T) (hS : SX H T tb Y) {a b k : Nat} (ha : a < T.1) (hm : xMv g wt th (upk (tL T a)) (tL T a) 1 Y) (hb : b < 5) (hk : k < 6) (k15 : Int32 → Int32 → Int32 → St → Option (Int32 × St)) (k23 : Int32 → Int32 → Int32 → Int32 → St → Option (Int32 × St)) : ∃ tb2 Y2, fX5_spread_23b N k15 k23 (zI a) (zI (i01 slv)) (zI b) (zI k) Y = (if (tr1 (sF g wt th st) (sz g D slv) (ss g gx gy gt slv) a b k T).1 = 0 then k23 (zI a) (zI (i01 slv)) (zI b) (zI (k + 1 : Nat)) Y2 else some (zI (cdr (tr1 (sF g wt th st) (sz g D slv) (ss g gx gy gt slv) a b k T).1), Y2)) ∧ agX Y Y2 ∧ SX H (tr1 (sF g wt th st) (sz g D slv) (ss g gx gy gt slv) a b k T).2 tb2 Y2 ∧ xMv g wt th (upk (tL T a)) (tL T a) 1 Y2 := by
  obtain ⟨p1, p2, p3, p4, p5, p6⟩ := hp
  obtain ⟨y1, y2, y3, y4, y5, y6⟩ := hE
  have h12 := hT.2.1
  have hov := hT.2.2.1 a ha
  have hn5 := p1.2.2.1 b
  unfold fX5_spread_23b
  rw [zl6, i_le (by omega) (by omega), if_neg (by omega)]
  have go0 : ∀ (tb2 : Nat → Nat) (Y2 : St), tr1 (sF g wt th st) (sz g D slv) (ss g gx gy gt slv) a b k T = (0, T) → agX Y Y2 → SX H T tb2 Y2 → xMv g wt th (upk (tL T a)) (tL T a) 1 Y2 → ∃ tb3 Y3, fX5_spread_130 N k15 k23 (zI a) (zI (i01 slv)) (zI b) (zI k) Y2 = (if (tr1 (sF g wt th st) (sz g D slv) (ss g gx gy gt slv) a b k T).1 = 0 then k23 (zI a) (zI (i01 slv)) (zI b) (zI (k + 1 : Nat)) Y3 else some (zI (cdr (tr1 (sF g wt th st) (sz g D slv) (ss g gx gy gt slv) a b k T).1), Y3)) ∧ agX Y Y3 ∧ SX H (tr1 (sF g wt th st) (sz g D slv) (ss g gx gy gt slv) a b k T).2 tb3 Y3 ∧ xMv g wt th (upk (tL T a)) (tL T a) 1 Y3 := fun tb2 Y2 hr q1 q2 q3 => by
    rw [hr]
    refine ⟨tb2, Y2, ?_, q1, q2, q3⟩
    unfold fX5_spread_130
    rw [if_pos rfl, zl1, zA]
    rfl
  by_cases hn : gN g b = 0
  · rw [x_attempt_no y2 p1 (b := (b : Int)) (by omega) (fun z => by have := z.2.2; rw [show ((b : Int)).toNat = b by omega] at this; omega), bd_ok, zl0, i_eq (by omega) (by omega), if_pos rfl]
    exact go0 tb Y (by unfold tr1; rw [if_pos (by unfold sF; rw [if_pos (Or.inl hn)])]) (agr.rf _) hS hm
  · obtain ⟨v2, Y1, e1, a1, m1, r1⟩ := x_attempt (N := N) (j := 1) (by omega) (by omega) y1 y2 p1 hov.2 y3 p3 y5 p4 hm (upk_enc hov.1) hb (by omega) hk
    have A1 : agX Y Y1 := agr.wk a1 (by simp) (by simp) (by simp) (by simp)
    have S1 : SX H T tb Y1 := hS.ag a1 (by decide) (by decide) (by decide) (by decide) (by decide)
    have hm32 := mvs_lt (g := g) (wt := wt) (th := th) (st := st) (p := upk (tL T a)) (k := k) hb
    rw [e1, bd_ok, zl0, i_eq (by omega) (by omega)]
    by_cases hm0 : mvs g wt th st (upk (tL T a)) b k = 0
    · rw [if_pos (by omega)]
      exact go0 tb Y1 (by unfold tr1; rw [if_pos (by unfold sF; rw [if_pos (Or.inr hm0)])]) A1 S1 m1
    · rw [if_neg (by omega)]
      obtain ⟨n1, n2⟩ := nx_ok p1 hov.2 hb (by omega) hk hm0
      obtain ⟨w1, w2⟩ := okA_pk n2
      obtain ⟨r2, r3, r4⟩ := r1 hm0
      have hF : sF g wt th st (tL T a) b k = pkA (nxA g wt th st (upk (tL T a)) b k) + 1 := by unfold sF; rw [if_neg (fun z => by rcases z with z | z; exact hn z; exact hm0 z)]
      have hv2 : v2 = pkA (nxA g wt th st (upk (tL T a)) b k) := enc_pk ⟨r3, fun q hq => by have := r4 q hq; rw [n1 q hq] at this; omega⟩
      generalize pkA (nxA g wt th st (upk (tL T a)) b k) = w at *
      subst hv2
      have hr : tr1 (sF g wt th st) (sz g D slv) (ss g gx gy gt slv) a b k T = if sz g D slv v2 || inL T v2 then (0, T) else if T.1 = 1200 then (2, T) else (if ss g gx gy gt slv v2 then 1 else 0, app T v2 a (10 * b + k)) := by
        unfold tr1
        rw [hF, if_neg (by omega), Nat.add_sub_cancel]
      have hdd0 := lbN_bd p6 (fun b _ => upk_lt v2 b) 5 (by omega)
      -- the bound
      have t80 : ∀ (bd0 : Int), (bd0 < 0 ↔ sz g D slv v2 = true) → (bd0 = 0 ↔ (ss g gx gy gt slv v2 = true)) → -1 ≤ bd0 → bd0 ≤ 300 → ∀ r20 : Int, ((inL T v2 = true ∧ r20 = -1) ∨ (inL T v2 = false ∧ ∃ j, j < 2048 ∧ r20 = ((H v2 + j) % 2048 : Nat) ∧ tb ((H v2 + j) % 2048) = 0 ∧ ∀ l, l < j → tb ((H v2 + l) % 2048) ≠ 0)) → ∃ tb2 Y2, fX5_spread_80 N k15 k23 (zI bd0) (zI a) (zI (i01 slv)) (zI b) (zI k) (lN v2) (zI r20) Y1 = (if (tr1 (sF g wt th st) (sz g D slv) (ss g gx gy gt slv) a b k T).1 = 0 then k23 (zI a) (zI (i01 slv)) (zI b) (zI (k + 1 : Nat)) Y2 else some (zI (cdr (tr1 (sF g wt th st) (sz g D slv) (ss g gx gy gt slv) a b k T).1), Y2)) ∧ agX Y Y2 ∧ SX H (tr1 (sF g wt th st) (sz g D slv) (ss g gx gy gt slv) a b k T).2 tb2 Y2 ∧ xMv g wt th (upk (tL T a)) (tL T a) 1 Y2 := by
        intro bd0 hb1 hb2 hb3 hb4 r20 hr20
        unfold fX5_spread_80
        rcases hr20 with ⟨hin, h20⟩ | ⟨hin, j, hj, h20, c1, c2⟩
        · rw [h20, zl0, i_lt (by omega) (by omega), if_pos (by omega)]
          exact go0 tb Y1 (by rw [hr, hin, Bool.or_true, if_pos rfl]) A1 S1 m1
        · have hsl : (H v2 + j) % 2048 < 2048 := Nat.mod_lt _ (by decide)
          rw [h20, zl0, i_lt (by omega) (by omega), if_neg (by omega), i_le (by omega) (by omega)]
          by_cases hneg : bd0 < 0
          · rw [if_neg (by omega)]
            exact go0 tb Y1 (by rw [hr, hb1.mp hneg, Bool.true_or, if_pos rfl]) A1 S1 m1
          · have hz : sz g D slv v2 = false := by
              cases h : sz g D slv v2
              · rfl
              · exact absurd (hb1.mpr h) hneg
            rw [if_pos (by omega), S1.1, show (1200 : Int32) = zI 1200 from rfl, i_lt (by omega) (by omega)]
            rw [hr, hz, hin, if_neg (c := (false || false) = true) (by simp)]
            by_cases hfull : T.1 = 1200
            · rw [if_neg (by omega), if_pos hfull]
              exact ⟨tb, Y1, rfl, A1, S1, m1⟩
            · rw [if_pos (by omega), if_neg hfull]
              unfold fX8_moveCode
              rw [bd_ok, show (10 : Int32) = zI 10 from rfl, zM, zA, show (10 * (b : Int) + (k : Int)) = ((10 * b + k : Nat) : Int) by omega]
              obtain ⟨tb2, Y2, e2, a2, S2⟩ := x_append (N := N) (o := a) (mv := 10 * b + k) (by omega) S1 hj c1 c2
              have A2 : agX Y Y2 := A1.tr (a2.wk (by simp) (by simp) (by simp) (by simp))
              have m2 := m1.ag a2 (by decide) (by decide) (by decide) (by decide) (by decide)
              rw [e2, bd_ok, i_eq (by omega) (by omega)]
              by_cases hz0 : bd0 = 0
              · rw [if_pos hz0, hb2.mp hz0]
                exact ⟨tb2, Y2, rfl, A2, S2, m2⟩
              · have : ss g gx gy gt slv v2 = false := by
                  cases h : ss g gx gy gt slv v2
                  · rfl
                  · exact absurd (hb2.mpr h) hz0
                rw [if_neg hz0, this]
                refine ⟨tb2, Y2, ?_, A2, S2, m2⟩
                unfold fX5_spread_130
                rw [zl1, zA]
                rfl
      have r2' : Y1.2.1 9 = lN v2 := r2
      rw [nm_ok, r2']
      have hfree := x_free hN hH (Or.inl hT) S1 w1.1
      have E1 : xD g gt D Y1 := (xE.ag ⟨y1, y2, y3, y4, y5, y6⟩ A1).2.2.2.2.2
      have fin : ∀ r20 : Int, fX5_freePlaceFor N (lN v2) Y1 = some (zI r20, Y1) → ((inL T v2 = true ∧ r20 = -1) ∨ (inL T v2 = false ∧ ∃ j, j < 2048 ∧ r20 = ((H v2 + j) % 2048 : Nat) ∧ tb ((H v2 + j) % 2048) = 0 ∧ ∀ l, l < j → tb ((H v2 + l) % 2048) ≠ 0)) → ∃ tb2 Y2, (bd (fX5_freePlaceFor N (lN v2) Y1) fun r20 S16 => if zI (i01 slv) = zI 0 then (fX5_spread_80 N k15 k23 1 (zI a) (zI (i01 slv)) (zI b) (zI k) (lN v2) r20 S16) else (bd (fX2_boundOf N (lN v2) S16) fun r21 S17 => fX5_spread_80 N k15 k23 r21 (zI a) (zI (i01 slv)) (zI b) (zI k) (lN v2) r20 S17)) = (if (tr1 (sF g wt th st) (sz g D slv) (ss g gx gy gt slv) a b k T).1 = 0 then k23 (zI a) (zI (i01 slv)) (zI b) (zI (k + 1 : Nat)) Y2 else some (zI (cdr (tr1 (sF g wt th st) (sz g D slv) (ss g gx gy gt slv) a b k T).1), Y2)) ∧ agX Y Y2 ∧ SX H (tr1 (sF g wt th st) (sz g D slv) (ss g gx gy gt slv) a b k T).2 tb2 Y2 ∧ xMv g wt th (upk (tL T a)) (tL T a) 1 Y2 := by
        intro r20 e20 h20
        rw [e20, bd_ok]
        cases slv
        · rw [show i01 false = 0 from rfl, if_pos rfl]
          exact t80 1 ⟨fun h => by omega, fun h => by cases h⟩ ⟨fun h => by omega, fun h => by cases h⟩ (by omega) (by omega) r20 h20
        · rw [show i01 true = 1 from rfl, i_eq (by omega) (by omega), if_neg (by omega), x_boundOf (by omega) E1 p6 w1.2 (upk_enc w1.1), bd_ok]
          refine t80 _ ?_ ?_ ?_ ?_ r20 h20
          · show _ ↔ dd g D (upk v2) = true
            cases dd g D (upk v2)
            · rw [if_neg (by simp)]; constructor
              · intro h; omega
              · intro h; cases h
            · rw [if_pos rfl]; constructor
              · intro _; rfl
              · intro _; omega
          · exact (sv_iff p6 w1.2).symm
          · split <;> omega
          · split <;> omega
      rcases hfree with ⟨hin, e20⟩ | ⟨hin, j, hj, e20, c1, c2⟩
      · exact fin (-1) e20 (Or.inl ⟨hin, rfl⟩)
      · exact fin _ e20 (Or.inr ⟨hin, j, hj, rfl, c1, c2⟩)
