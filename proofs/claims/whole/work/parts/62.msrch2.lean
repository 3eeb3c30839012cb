/-! the loops of the reference's search -/
theorem trk_0 {F : Nat → Nat → Nat → Nat} {dz so : Nat → Bool} {a b : Nat} {T : TT} (h : ∀ k, F (tL T a) b k = 0) : ∀ d k, trk F dz so a b d k T = (0, T) := by
  intro d
  induction d with
  | zero => intro k; rfl
  | succ d ih =>
    intro k
    have h1 : tr1 F dz so a b k T = (0, T) := by unfold tr1; rw [if_pos (h k)]
    unfold trk
    rw [h1, if_pos rfl]
    exact ih (k + 1)
def fnd (r : Nat × TT) : Int := if r.1 = 0 then -7 else if r.1 = 2 then -6 else (r.2.1 : Int) - 1
/-- where the reference stands after a part of the search -/
def aft (g : Lv) (M Y2 : St) (r : Nat × TT) : Prop := agS M Y2 ∧ SM r.2 Y2 ∧ Y2.1 11 = zI (fnd r) ∧ wT (okv g) r.2
theorem m_s73 {N : Nat} {g : Lv} {wt th : Nat → Nat} {st : Nat} {gx gy gt : Nat → Int} {D : Nat → Nat → Int} {slv : Bool} {M : St} (hN : 2000 ≤ N) (hp : pE g wt th st gx gy gt D) (hE : mE g wt th st gx gy gt D slv M) (K36 : Int32 → Int32 → Int64 → Bool → Int32 → St → Option (Unit × St)) (K64 : Int32 → Int32 → Int64 → Bool → Int32 → Int32 → St → Option (Unit × St)) (x2 : Int32) (x3 : Int64) {a b : Nat} (hb : b < 5) (hb0 : 0 < gN g b) :
    ∀ (d k m : Nat) (T : TT) (Y : St), k + d = 6 → d < m → a < T.1 → aft g M Y (0, T) → ∃ Y2, fX9_search_73 N K36 K64 m (zI (i01 slv)) x2 x3 true (zI a) (zI b) (zI k) Y = K64 (zI (i01 slv)) x2 x3 (decide ((trk (sF g wt th st) (sz g D slv) (ss g gx gy gt slv) a b d k T).1 = 0)) (zI a) (zI (b + 1 : Nat)) Y2 ∧ aft g M Y2 (trk (sF g wt th st) (sz g D slv) (ss g gx gy gt slv) a b d k T) := by
  have hp1 := hp.1
  have hn5 := hp.1.2.2.1 b
  intro d
  induction d with
  | zero =>
    intro k m T Y hk hm ha hA
    obtain ⟨m, rfl⟩ : ∃ n', m = n' + 1 := ⟨m - 1, by omega⟩
    refine ⟨Y, ?_, hA⟩
    show fX9_search_73b N K36 K64 (fX9_search_73 N K36 K64 m) (zI (i01 slv)) x2 x3 true (zI a) (zI b) (zI k) Y = _
    unfold fX9_search_73b fX9_search_114
    rw [zl6, i_le (by omega) (by omega), if_pos (by omega), zl1, zA]
    rfl
  | succ d ih =>
    intro k m T Y hk hm ha hA
    obtain ⟨m, rfl⟩ : ∃ n', m = n' + 1 := ⟨m - 1, by omega⟩
    obtain ⟨a1, a2, a3, a4⟩ := hA
    have hEY := hE.ag a1
    obtain ⟨Y2, e, r1, r2, r3⟩ := m_tries (slv := slv) hN hp hEY a4 a2 ha hb hb0 (show k < 6 by omega)
    have hgr := tr1_w (dz := sz g D slv) (so := ss g gx gy gt slv) (a := a) (b := b) (k := k) (T := T) (sF_ok (wt := wt) (th := th) (st := st) hp.1) hb (by omega) a4 ha
    show ∃ Y2, fX9_search_73b N K36 K64 (fX9_search_73 N K36 K64 m) (zI (i01 slv)) x2 x3 true (zI a) (zI b) (zI k) Y = K64 (zI (i01 slv)) x2 x3 (decide ((trk (sF g wt th st) (sz g D slv) (ss g gx gy gt slv) a b (d + 1) k T).1 = 0)) (zI a) (zI (b + 1 : Nat)) Y2 ∧ aft g M Y2 (trk (sF g wt th st) (sz g D slv) (ss g gx gy gt slv) a b (d + 1) k T)
    unfold fX9_search_73b
    rw [zl6, i_le (by omega) (by omega), if_neg (by omega), ck_z (by omega) (by omega) (by omega), z_cl (by omega) (by omega), show ((b : Int)).toNat = b by omega, hEY.1.2.2.2.1 b hb, zl0, i_le (by omega) (by omega), if_neg (by omega), i_b, if_pos rfl, e, bd_ok, zl1, zA]
    unfold trk
    generalize tr1 (sF g wt th st) (sz g D slv) (ss g gx gy gt slv) a b k T = r at *
    have hA2 : aft g M Y2 r := ⟨a1.tr r1, r2, by
      rw [r3]
      unfold fnd
      by_cases h : r.1 = 0
      · rw [if_pos h, if_pos h, a3]; rfl
      · rw [if_neg h, if_neg h], hgr.1⟩
    by_cases h : r.1 = 0
    · rw [decide_eq_true h, if_pos h]
      exact ih (k + 1) m r.2 Y2 (by omega) (by omega) (by omega) ⟨hA2.1, hA2.2.1, by rw [hA2.2.2.1]; unfold fnd; rw [if_pos h]; rfl, hA2.2.2.2⟩
    · rw [decide_eq_false h, if_neg h, decide_eq_false h]
      refine ⟨Y2, ?_, hA2⟩
      obtain ⟨m, rfl⟩ : ∃ n', m = n' + 1 := ⟨m - 1, by omega⟩
      show fX9_search_73b N K36 K64 (fX9_search_73 N K36 K64 m) (zI (i01 slv)) x2 x3 false (zI a) (zI b) (zI ((k : Int) + 1)) Y2 = _
      unfold fX9_search_73b fX9_search_114
      rw [ck_z (by omega) (by omega) (by omega), zl0, i_b, if_neg (c := false = true) (by simp), ite_self, ite_self, zl1, zA]
      rfl
theorem m_s64f {N : Nat} (hN : 2000 ≤ N) (K36 : Int32 → Int32 → Int64 → Bool → Int32 → St → Option (Unit × St)) (x1 x2 : Int32) (x3 : Int64) (a : Nat) (Y : St) : ∀ (d b m : Nat), b + d = 5 → d < m → fX9_search_64 N K36 m x1 x2 x3 false (zI a) (zI b) Y = K36 x1 x2 x3 false (zI (a + 1 : Nat)) Y := by
  intro d
  induction d with
  | zero =>
    intro b m hb hm
    obtain ⟨m, rfl⟩ : ∃ n', m = n' + 1 := ⟨m - 1, by omega⟩
    show fX9_search_64b N K36 (fX9_search_64 N K36 m) x1 x2 x3 false (zI a) (zI b) Y = _
    unfold fX9_search_64b
    rw [zl5, i_le (by omega) (by omega), if_pos (by omega), zl1, zA]
    rfl
  | succ d ih =>
    intro b m hb hm
    obtain ⟨m, rfl⟩ : ∃ n', m = n' + 1 := ⟨m - 1, by omega⟩
    show fX9_search_64b N K36 (fX9_search_64 N K36 m) x1 x2 x3 false (zI a) (zI b) Y = _
    unfold fX9_search_64b
    rw [zl5, i_le (by omega) (by omega), if_neg (by omega)]
    obtain ⟨n, hn⟩ : ∃ n, N = n + 1 := ⟨N - 1, by omega⟩
    have : fX9_search_73 N K36 (fX9_search_64 N K36 m) N x1 x2 x3 false (zI a) (zI b) 0 Y = fX9_search_73b N K36 (fX9_search_64 N K36 m) (fX9_search_73 N K36 (fX9_search_64 N K36 m) n) x1 x2 x3 false (zI a) (zI b) 0 Y := by
      conv => lhs; arg 4; rw [hn]
      rfl
    rw [this]
    unfold fX9_search_73b fX9_search_114
    rw [ck_z (by omega) (by omega) (by omega), zl0, i_b, if_neg (c := false = true) (by simp), ite_self, ite_self, zl1, zA]
    exact ih (b + 1) m (by omega) (by omega)
theorem m_s64 {N : Nat} {g : Lv} {wt th : Nat → Nat} {st : Nat} {gx gy gt : Nat → Int} {D : Nat → Nat → Int} {slv : Bool} {M : St} (hN : 2000 ≤ N) (hp : pE g wt th st gx gy gt D) (hE : mE g wt th st gx gy gt D slv M) (K36 : Int32 → Int32 → Int64 → Bool → Int32 → St → Option (Unit × St)) (x2 : Int32) (x3 : Int64) {a : Nat} :
    ∀ (d b m : Nat) (T : TT) (Y : St), b + d = 5 → d < m → a < T.1 → aft g M Y (0, T) → ∃ Y2, fX9_search_64 N K36 m (zI (i01 slv)) x2 x3 true (zI a) (zI b) Y = K36 (zI (i01 slv)) x2 x3 (decide ((trb (sF g wt th st) (sz g D slv) (ss g gx gy gt slv) a d b T).1 = 0)) (zI (a + 1 : Nat)) Y2 ∧ aft g M Y2 (trb (sF g wt th st) (sz g D slv) (ss g gx gy gt slv) a d b T) := by
  intro d
  induction d with
  | zero =>
    intro b m T Y hb hm ha hA
    obtain ⟨m, rfl⟩ : ∃ n', m = n' + 1 := ⟨m - 1, by omega⟩
    refine ⟨Y, ?_, hA⟩
    show fX9_search_64b N K36 (fX9_search_64 N K36 m) (zI (i01 slv)) x2 x3 true (zI a) (zI b) Y = _
    unfold fX9_search_64b
    rw [zl5, i_le (by omega) (by omega), if_pos (by omega), zl1, zA]
    rfl
  | succ d ih =>
    intro b m T Y hb hm ha hA
    obtain ⟨m, rfl⟩ : ∃ n', m = n' + 1 := ⟨m - 1, by omega⟩
    have hb5 : b < 5 := by omega
    have hgr := trk_w (dz := sz g D slv) (so := ss g gx gy gt slv) (a := a) (sF_ok (wt := wt) (th := th) (st := st) hp.1) hb5 6 0 T (by omega) hA.2.2.2 ha
    have hstep : ∃ Y2, fX9_search_64 N K36 (m + 1) (zI (i01 slv)) x2 x3 true (zI a) (zI b) Y = fX9_search_64 N K36 m (zI (i01 slv)) x2 x3 (decide ((trk (sF g wt th st) (sz g D slv) (ss g gx gy gt slv) a b 6 0 T).1 = 0)) (zI a) (zI (b + 1 : Nat)) Y2 ∧ aft g M Y2 (trk (sF g wt th st) (sz g D slv) (ss g gx gy gt slv) a b 6 0 T) := by
      show ∃ Y2, fX9_search_64b N K36 (fX9_search_64 N K36 m) (zI (i01 slv)) x2 x3 true (zI a) (zI b) Y = fX9_search_64 N K36 m (zI (i01 slv)) x2 x3 (decide ((trk (sF g wt th st) (sz g D slv) (ss g gx gy gt slv) a b 6 0 T).1 = 0)) (zI a) (zI (b + 1 : Nat)) Y2 ∧ aft g M Y2 (trk (sF g wt th st) (sz g D slv) (ss g gx gy gt slv) a b 6 0 T)
      unfold fX9_search_64b
      rw [zl5, i_le (by omega) (by omega), if_neg (by omega)]
      by_cases hn : gN g b = 0
      · rw [trk_0 (fun k => by unfold sF; rw [if_pos (Or.inl hn)])]
        refine ⟨Y, ?_, hA⟩
        have hEY := hE.ag hA.1
        obtain ⟨n, hn2⟩ : ∃ n, N = n + 1 := ⟨N - 1, by omega⟩
        have : fX9_search_73 N K36 (fX9_search_64 N K36 m) N (zI (i01 slv)) x2 x3 true (zI a) (zI b) 0 Y = fX9_search_73b N K36 (fX9_search_64 N K36 m) (fX9_search_73 N K36 (fX9_search_64 N K36 m) n) (zI (i01 slv)) x2 x3 true (zI a) (zI b) 0 Y := by
          conv => lhs; arg 4; rw [hn2]
          rfl
        rw [this]
        unfold fX9_search_73b fX9_search_114
        rw [zl0, zl6, i_le (by omega) (by omega), if_neg (by omega), ck_z (by omega) (by omega) (by omega), z_cl (by omega) (by omega), show ((b : Int)).toNat = b by omega, hEY.1.2.2.2.1 b hb5, i_le (by omega) (by omega), if_pos (by omega), zl1, zA]
        rfl
      · exact m_s73 hN hp hE K36 (fX9_search_64 N K36 m) x2 x3 hb5 (by omega) 6 0 N T Y (by omega) (by omega) ha hA
    obtain ⟨Y2, e, hA2⟩ := hstep
    rw [e]
    unfold trb
    generalize trk (sF g wt th st) (sz g D slv) (ss g gx gy gt slv) a b 6 0 T = r at *
    by_cases h : r.1 = 0
    · rw [decide_eq_true h, if_pos h]
      exact ih (b + 1) m r.2 Y2 (by omega) (by omega) (by have := hgr.2.1; omega) ⟨hA2.1, hA2.2.1, by rw [hA2.2.2.1]; unfold fnd; rw [if_pos h]; rfl, hA2.2.2.2⟩
    · rw [decide_eq_false h, if_neg h, decide_eq_false h]
      exact ⟨Y2, m_s64f hN K36 _ x2 x3 a Y2 d (b + 1) m (by omega) (by omega), hA2⟩
theorem out_w {g : Lv} {F : Nat → Nat → Nat → Nat} {dz so : Nat → Bool} {most : Nat} (hF : ∀ v b k, okv g v → b < 5 → k < 6 → F v b k ≠ 0 → okv g (F v b k - 1)) : ∀ d a T, wT (okv g) T → wT (okv g) (out F dz so most d a T).2 ∧ (out F dz so most d a T).1 ≤ 2 := by
  intro d
  induction d with
  | zero => intro a T h; exact ⟨h, by show 0 ≤ 2; omega⟩
  | succ d ih =>
    intro a T h
    unfold out
    by_cases h1 : T.1 ≤ a ∨ most ≤ tS T a
    · rw [if_pos h1]; exact ⟨h, by show 0 ≤ 2; omega⟩
    · rw [if_neg h1]
      have h2 := trb_w (dz := dz) (so := so) (a := a) hF 5 0 T (by omega) h (by omega)
      by_cases h3 : (trb F dz so a 5 0 T).1 = 0
      · rw [if_pos h3]; exact ih (a + 1) _ h2.1
      · rw [if_neg h3]; exact ⟨h2.1, h2.2.2.1⟩
theorem m_s36 {N : Nat} {g : Lv} {wt th : Nat → Nat} {st : Nat} {gx gy gt : Nat → Int} {D : Nat → Nat → Int} {slv : Bool} {M : St} (hN : 2000 ≤ N) (hp : pE g wt th st gx gy gt D) (hE : mE g wt th st gx gy gt D slv M) {most v0 : Nat} (hmost : most ≤ 5000) (hv0 : v0 < 2 ^ 40) :
    ∀ (d a m : Nat) (T : TT) (Y : St), a + d = 1200 → d + 1 < m → aft g M Y (0, T) → ∃ Y2, fX9_search_36 N m (zI (i01 slv)) (zI most) (lN v0) true (zI a) Y = some ((), Y2) ∧ aft g M Y2 (out (sF g wt th st) (sz g D slv) (ss g gx gy gt slv) most d a T) ∧ mPl (upk v0) Y2 := by
  have fin : ∀ (Y : St) (r : Nat × TT), aft g M Y r → ∃ Y2, fX9_search_126 N (lN v0) Y = some ((), Y2) ∧ aft g M Y2 r ∧ mPl (upk v0) Y2 := fun Y r h => by
    unfold fX9_search_126
    obtain ⟨Y2, e, a1, q⟩ := m_unpack (N := N) (M := Y) (by omega) (upk_enc hv0)
    rw [e, bd_ok]
    exact ⟨Y2, rfl, ⟨h.1.tr (a1.wk (by simp) (by simp) (by simp) (by simp)), h.2.1.ag a1 (by decide) (by decide) (by decide) (by decide) (by decide), by rw [a1.1 11 (by decide)]; exact h.2.2.1, h.2.2.2⟩, q⟩
  intro d
  induction d with
  | zero =>
    intro a m T Y had hm hA
    obtain ⟨m, rfl⟩ : ∃ n', m = n' + 1 := ⟨m - 1, by omega⟩
    have h12 : T.1 ≤ 1200 := hA.2.2.2.2.1
    show ∃ Y2, fX9_search_36b N (fX9_search_36 N m) (zI (i01 slv)) (zI most) (lN v0) true (zI a) Y = some ((), Y2) ∧ aft g M Y2 (0, T) ∧ mPl (upk v0) Y2
    unfold fX9_search_36b
    have h10 : Y.1 10 = zI T.1 := hA.2.1.1
    rw [h10, i_le (by omega) (by omega), if_pos (by omega)]
    exact fin Y _ hA
  | succ d ih =>
    intro a m T Y had hm hA
    obtain ⟨m, rfl⟩ : ∃ n', m = n' + 1 := ⟨m - 1, by omega⟩
    have h12 : T.1 ≤ 1200 := hA.2.2.2.2.1
    have h10 : Y.1 10 = zI T.1 := hA.2.1.1
    show ∃ Y2, fX9_search_36b N (fX9_search_36 N m) (zI (i01 slv)) (zI most) (lN v0) true (zI a) Y = some ((), Y2) ∧ aft g M Y2 (out (sF g wt th st) (sz g D slv) (ss g gx gy gt slv) most (d + 1) a T) ∧ mPl (upk v0) Y2
    unfold fX9_search_36b out
    rw [h10, i_le (by omega) (by omega)]
    by_cases h1 : T.1 ≤ a
    · rw [if_pos (by omega), if_pos (Or.inl h1)]
      exact fin Y _ hA
    · have h27 : Y.2.2.1 27 a = zI (tS T a) := (hA.2.1.2.1 a (by show a < T.1; omega)).2
      have hsb := tS_bd hA.2.2.2 a (by show a < T.1; omega)
      have hsb' : tS T a ≤ a := hsb
      rw [if_neg (by omega), zl0, i_b, if_pos rfl, ck_z (by omega) (by omega) (by omega), z_cl (by omega) (by omega), show ((a : Int)).toNat = a by omega, h27, i_le (by omega) (by omega)]
      by_cases h2 : most ≤ tS T a
      · rw [if_pos (by omega), if_pos (Or.inr h2)]
        exact fin Y _ hA
      · rw [if_neg (by omega), if_neg (fun z => by rcases z with z | z; exact h1 z; exact h2 z)]
        obtain ⟨Y2, e, hA2⟩ := m_s64 hN hp hE (fX9_search_36 N m) (zI most) (lN v0) (a := a) 5 0 N T Y (by omega) (by omega) (by omega) hA
        have e' : fX9_search_64 N (fX9_search_36 N m) N (zI (i01 slv)) (zI most) (lN v0) true (zI a) (zI 0) Y = _ := e
        rw [e']
        generalize trb (sF g wt th st) (sz g D slv) (ss g gx gy gt slv) a 5 0 T = r at *
        by_cases h : r.1 = 0
        · rw [decide_eq_true h, if_pos h]
          exact ih (a + 1) m r.2 Y2 (by omega) (by omega) ⟨hA2.1, hA2.2.1, by rw [hA2.2.2.1]; unfold fnd; rw [if_pos h]; rfl, hA2.2.2.2⟩
        · rw [decide_eq_false h, if_neg h]
          obtain ⟨m, rfl⟩ : ∃ n', m = n' + 1 := ⟨m - 1, by omega⟩
          show ∃ Y3, fX9_search_36b N (fX9_search_36 N m) (zI (i01 slv)) (zI most) (lN v0) false (zI (a + 1 : Nat)) Y2 = some ((), Y3) ∧ aft g M Y3 r ∧ mPl (upk v0) Y3
          unfold fX9_search_36b
          rw [zl0, i_b, if_neg (c := false = true) (by simp), ite_self]
          exact fin Y2 r hA2
theorem m_search {N : Nat} {g : Lv} {wt th : Nat → Nat} {st : Nat} {gx gy gt : Nat → Int} {D : Nat → Nat → Int} {slv : Bool} {M : St} {p : Nat → Nat} (hN : 2000 ≤ N) (hp : pE g wt th st gx gy gt D) (hE : mE g wt th st gx gy gt D slv M) {most : Nat} (hmost : most ≤ 5000) (hpl : mPl p M) (hok : okA g p) : ∃ Y2, fX9_search N (zI (i01 slv)) (zI most) M = some ((), Y2) ∧ aft g M Y2 (out (sF g wt th st) (sz g D slv) (ss g gx gy gt slv) most 1200 0 (T0 (pkA p))) ∧ mPl p Y2 := by
  obtain ⟨hv, hu⟩ := okA_pk hok
  unfold fX9_search
  rw [m_packed (by omega) hpl (fun b hb => (hok.1 b hb).1), bd_ok, zl0, ck_z (by omega) (by omega) (by omega), stp_ok, ck_z (by omega) (by omega) (by omega), stp_ok, stp_ok, stp_ok, z_cl (by omega) (by omega)]
  obtain ⟨Y2, e, r1, r2⟩ := m_s36 hN hp hE hmost hv.1 1200 0 N (T0 (pkA p)) (sI (sI (sA (sL M 3 0 (lN (pkA p))) 27 0 (zI 0)) 10 1) 11 (-7)) (by omega) (by omega) ⟨agr.sI (agr.sI (agr.sA (agr.sL (agr.rf _) (by simp) _ _) (by simp) _ _) (by simp) _) (by simp) _, ⟨rfl, fun i hi => by
      have hi1 : i < 1 := hi
      have : i = 0 := by omega
      subst this
      exact ⟨sL_same M 3 0 (lN (pkA p)), sA_same (sL M 3 0 (lN (pkA p))) 27 0 (zI 0)⟩, fun i hi hi2 => by have hi1 : i < 1 := hi2; omega⟩, rfl, wT_0 hv⟩
  exact ⟨Y2, e, r1, fun q hq => by rw [r2 q hq, hu q hq]⟩
