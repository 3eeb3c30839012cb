/-! what the reference answers of its search -/
def anc (T : TT) : Nat → Nat → Nat
  | 0, i => i
  | n + 1, i => tO T (anc T n i)
theorem anc_S {ok : Nat → Prop} {T : TT} (h : wT ok T) {i : Nat} (hi : i < T.1) : ∀ n, n ≤ tS T i → tS T (anc T n i) = tS T i - n ∧ anc T n i < T.1 ∧ (n < tS T i → 0 < anc T n i) := by
  have pos : ∀ j, 0 < tS T j → j ≠ 0 := fun j hj z => by rw [z, h.2.2.2.2.1] at hj; omega
  intro n
  induction n with
  | zero => intro _; exact ⟨rfl, hi, fun h1 => by have := pos i h1; show 0 < i; omega⟩
  | succ n ih =>
    intro hn
    obtain ⟨a1, a2, a3⟩ := ih (by omega)
    obtain ⟨b1, b2, b3⟩ := h.2.2.2.1 (anc T n i) (a3 (by omega)) a2
    have e : tS T (anc T (n + 1) i) = tS T i - (n + 1) := by show tS T (tO T (anc T n i)) = _; omega
    refine ⟨e, by show tO T (anc T n i) < T.1; omega, fun h1 => ?_⟩
    have := pos (anc T (n + 1) i) (by omega)
    omega
def srS (g : Lv) (wt th : Nat → Nat) (st : Nat) (gx gy gt : Nat → Int) (D : Nat → Nat → Int) (p : Nat → Nat) : Nat × TT := out (sF g wt th st) (sz g D true) (ss g gx gy gt true) 2000 1200 0 (T0 (pkA p))
def sLen (g : Lv) (wt th : Nat → Nat) (st : Nat) (gx gy gt : Nat → Int) (D : Nat → Nat → Int) (p : Nat → Nat) : Int := if dd g D p then -7 else if sv g gx gy gt p then 0 else if (srS g wt th st gx gy gt D p).1 = 0 then -7 else if (srS g wt th st gx gy gt D p).1 = 2 then -6 else tS (srS g wt th st gx gy gt D p).2 ((srS g wt th st gx gy gt D p).2.1 - 1)
def sMov (g : Lv) (wt th : Nat → Nat) (st : Nat) (gx gy gt : Nat → Int) (D : Nat → Nat → Int) (p : Nat → Nat) (j : Nat) : Nat := tV (srS g wt th st gx gy gt D p).2 (anc (srS g wt th st gx gy gt D p).2 (tS (srS g wt th st gx gy gt D p).2 ((srS g wt th st gx gy gt D p).2.1 - 1) - 1 - j) ((srS g wt th st gx gy gt D p).2.1 - 1))
abbrev agF (M Y : St) : Prop := agr [6, 7, 10, 11] [] [9, 18, 19, 23, 24, 25, 26, 27] [3] M Y
theorem srS_w {g : Lv} {wt th : Nat → Nat} {st : Nat} {gx gy gt : Nat → Int} {D : Nat → Nat → Int} {p : Nat → Nat} (hw : wfL g) (hok : okA g p) : wT (okv g) (srS g wt th st gx gy gt D p).2 ∧ (srS g wt th st gx gy gt D p).1 ≤ 2 := out_w (sF_ok hw) 1200 0 (T0 (pkA p)) (wT_0 (okA_pk hok).1)
theorem m_findSolution {N : Nat} {g : Lv} {wt th : Nat → Nat} {st : Nat} {gx gy gt : Nat → Int} {D : Nat → Nat → Int} {M : St} {p : Nat → Nat} (hN : 2000 ≤ N) (hp : pE g wt th st gx gy gt D) (hE : mE g wt th st gx gy gt D false M) (hpl : mPl p M) (hok : okA g p) : ∃ Y, fX9_findSolution N M = some ((), Y) ∧ agF M Y ∧ mPl p Y ∧ ((dd g D p = true ∧ Y.1 11 = zI (-7)) ∨ (dd g D p = false ∧ sv g gx gy gt p = true ∧ Y.1 11 = zI 0 ∧ Y.2.2.1 27 0 = zI 0) ∨ (dd g D p = false ∧ sv g gx gy gt p = false ∧ Y.1 11 = zI (fnd (srS g wt th st gx gy gt D p)) ∧ SM (srS g wt th st gx gy gt D p).2 Y)) := by
  have hpb : ∀ b, b < 5 → p b < 256 := fun b hb => (hok.1 b hb).1
  obtain ⟨Y1, e1, a1, d1⟩ := m_findAllFar (N := N) (by omega) hE.1 hp.1 hE.2.2.2.2.1 hp.2.2.2.2.1 hp.2.2.2.2.2
  have A1 : agF M (sI Y1 11 (-7)) := agr.sI (a1.wk (by simp) (by simp) (by simp) (by simp)) (by simp) _
  have E1 : mE g wt th st gx gy gt D true (sI Y1 11 (-7)) := ⟨hE.1.ag A1 (by decide) (by decide) (by decide) (by decide) (by decide) (by decide), hE.2.1.ag A1 (by decide), hE.2.2.1.ag A1 (by decide), by rw [A1.1 2 (by decide)]; exact hE.2.2.2.1, fun b hb => by rw [A1.2.2.1 6 (by decide), A1.2.2.1 7 (by decide), A1.2.2.1 8 (by decide)]; exact hE.2.2.2.2.1 b hb, fun _ => d1⟩
  have P1 : mPl p (sI Y1 11 (-7)) := fun q hq => (hpl.ag a1 (by decide)) q hq
  unfold fX9_findSolution
  rw [e1, bd_ok, stp_ok]
  generalize hZ : sI Y1 11 (-7) = Z at *
  have f1 : Z.1 11 = zI (-7) := by rw [← hZ]; rfl
  rw [m_isDeadNow (by omega) E1.1 hp.1 hp.2.2.2.2.2 (E1.2.2.2.2.2 rfl) P1 hpb, bd_ok, zl0, i_b]
  cases hdd : dd g D p
  · rw [if_neg (c := false = true) (by simp), m_isSolvedNow (by omega) E1.1 hp.1 E1.2.2.2.2.1 hp.2.2.2.2.1 P1 hpb, bd_ok, i_b]
    cases hsv : sv g gx gy gt p
    · rw [if_neg (c := false = true) (by simp)]
      obtain ⟨Y2, e2, r1, r2⟩ := m_search (slv := true) (most := 2000) hN hp E1 (by omega) P1 hok
      have e2' : fX9_search N 1 2000 Z = some ((), Y2) := e2
      rw [e2', bd_ok]
      exact ⟨Y2, rfl, A1.tr (r1.1.wk (by simp) (by simp) (by simp) (by simp)), r2, Or.inr (Or.inr ⟨rfl, rfl, r1.2.2.1, r1.2.1⟩)⟩
    · rw [if_pos (c := true = true) rfl, ck_z (by omega) (by omega) (by omega), stp_ok, stp_ok, z_cl (by omega) (by omega)]
      refine ⟨_, rfl, agr.sI (agr.sA A1 (by simp) _ _) (by simp) _, P1.ag (agr.sI (agr.sA (agr.rf (is := [11]) (js := []) (as := [27]) (ls := []) _) (by simp) _ _) (by simp) _) (by decide), Or.inr (Or.inl ⟨rfl, rfl, rfl, ?_⟩)⟩
      exact sA_same Z 27 0 (zI 0)
  · rw [if_pos (c := true = true) rfl]
    exact ⟨Z, rfl, A1, P1, Or.inl ⟨rfl, f1⟩⟩
theorem m_solve {N : Nat} {g : Lv} {wt th : Nat → Nat} {st : Nat} {gx gy gt : Nat → Int} {D : Nat → Nat → Int} {M : St} {p : Nat → Nat} (hN : 2000 ≤ N) (hp : pE g wt th st gx gy gt D) (hE : mE g wt th st gx gy gt D false M) (hpl : mPl p M) (hok : okA g p) : ∃ Y, fX9_solve N M = some (zI (sLen g wt th st gx gy gt D p), Y) ∧ agF M Y ∧ mPl p Y := by
  obtain ⟨Y, e, a, q, h⟩ := m_findSolution hN hp hE hpl hok
  obtain ⟨w, w2⟩ := srS_w (wt := wt) (th := th) (st := st) (gx := gx) (gy := gy) (gt := gt) (D := D) hp.1 hok
  refine ⟨Y, ?_, a, q⟩
  unfold fX9_solve fX9_solve_27 sLen
  rw [e, bd_ok]
  rcases h with ⟨h1, h2⟩ | ⟨h1, h2, h3, h4⟩ | ⟨h1, h2, h3, h4⟩
  · rw [h2, zl0, i_le (by omega) (by omega), if_neg (by omega), h1, if_pos rfl]
  · rw [h3, zl0, i_le (by omega) (by omega), if_pos (by omega), ck_z (by omega) (by omega) (by omega), z_cl (by omega) (by omega), h1, h2, if_neg (by simp), if_pos rfl]
    show some (Y.2.2.1 27 0, Y) = _
    rw [h4]
  · rw [h1, h2, if_neg (c := false = true) (by simp), if_neg (c := false = true) (by simp), h3, zl0]
    generalize srS g wt th st gx gy gt D p = r at *
    have hw1 := w.1
    have hw2 := w.2.1
    unfold fnd
    by_cases r0 : r.1 = 0
    · rw [if_pos r0, if_pos r0, i_le (by omega) (by omega), if_neg (by omega)]
    · rw [if_neg r0, if_neg r0]
      by_cases r2 : r.1 = 2
      · rw [if_pos r2, if_pos r2, i_le (by omega) (by omega), if_neg (by omega)]
      · rw [if_neg r2, if_neg r2, i_le (by omega) (by omega), if_pos (by omega), ck_z (by omega) (by omega) (by omega), z_cl (by omega) (by omega), show ((r.2.1 : Int) - 1).toNat = r.2.1 - 1 by omega, (h4.2.1 (r.2.1 - 1) (by omega)).2]
theorem m_solution {N : Nat} {g : Lv} {wt th : Nat → Nat} {st : Nat} {gx gy gt : Nat → Int} {D : Nat → Nat → Int} {M : St} {p : Nat → Nat} (hN : 2000 ≤ N) (hp : pE g wt th st gx gy gt D) (hE : mE g wt th st gx gy gt D false M) (hpl : mPl p M) (hok : okA g p) {j : Int} (hj : -2147483648 ≤ j ∧ j < 2147483648) : ∃ Y, fX9_solution N (zI j) M = some (zI (if j < 0 then -3 else if sLen g wt th st gx gy gt D p = -6 then -6 else if sLen g wt th st gx gy gt D p ≤ j then -7 else (sMov g wt th st gx gy gt D p j.toNat : Nat)), Y) ∧ agF M Y ∧ mPl p Y := by
  unfold fX9_solution
  rw [zl0, i_le (by omega) (by omega)]
  by_cases hj0 : j < 0
  · rw [if_neg (by omega), if_pos hj0]
    exact ⟨M, rfl, agr.rf _, hpl⟩
  · rw [if_pos (by omega), if_neg hj0]
    obtain ⟨Y, e, a, q, h⟩ := m_findSolution hN hp hE hpl hok
    obtain ⟨w, w2⟩ := srS_w (wt := wt) (th := th) (st := st) (gx := gx) (gy := gy) (gt := gt) (D := D) hp.1 hok
    refine ⟨Y, ?_, a, q⟩
    unfold sLen sMov
    rw [e, bd_ok]
    rcases h with ⟨h1, h2⟩ | ⟨h1, h2, h3, h4⟩ | ⟨h1, h2, h3, h4⟩
    · rw [h2, i_le (by omega) (by omega), if_neg (by omega), h1, if_pos (c := true = true) rfl, if_neg (by omega), if_pos (by omega)]
    · rw [h3, i_le (by omega) (by omega), if_pos (by omega), ck_z (by omega) (by omega) (by omega), z_cl (by omega) (by omega), show ((0 : Int)).toNat = 0 from rfl, h4, i_lt (by omega) (by omega), if_neg (by omega), h1, h2, if_neg (c := false = true) (by simp), if_pos (c := true = true) rfl, if_neg (by omega), if_pos (by omega)]
      rfl
    · rw [h1, h2, if_neg (c := false = true) (by simp), if_neg (c := false = true) (by simp), h3]
      generalize srS g wt th st gx gy gt D p = r at *
      have hw1 := w.1
      have hw2 := w.2.1
      unfold fnd
      by_cases r0 : r.1 = 0
      · rw [if_pos r0, if_pos r0, i_le (by omega) (by omega), if_neg (by omega), if_neg (by omega), if_pos (by omega)]
      · rw [if_neg r0, if_neg r0]
        by_cases r2 : r.1 = 2
        · rw [if_pos r2, if_pos r2, i_le (by omega) (by omega), if_neg (by omega), if_pos rfl]
        · have hsb := tS_bd w (r.2.1 - 1) (by omega)
          rw [if_neg r2, if_neg r2, i_le (by omega) (by omega), if_pos (by omega), ck_z (by omega) (by omega) (by omega), z_cl (by omega) (by omega), show ((r.2.1 : Int) - 1).toNat = r.2.1 - 1 by omega, (h4.2.1 (r.2.1 - 1) (by omega)).2, i_lt (by omega) (by omega), if_neg (c := ((tS r.2 (r.2.1 - 1) : Nat) : Int) = -6) (by omega)]
          by_cases hlt : j < ((tS r.2 (r.2.1 - 1) : Nat) : Int)
          · rw [if_pos hlt, nm_ok, if_neg (by omega)]
            obtain ⟨jn, rfl⟩ : ∃ jn : Nat, j = (jn : Int) := ⟨j.toNat, by omega⟩
            have lp : ∀ (d n m : Nat), n + d = tS r.2 (r.2.1 - 1) - 1 - jn → d < m → fX9_solution_44 N m (zI jn) (zI (anc r.2 n (r.2.1 - 1) : Nat)) Y = some (zI (tV r.2 (anc r.2 (tS r.2 (r.2.1 - 1) - 1 - jn) (r.2.1 - 1)) : Nat), Y) := by
              intro d
              induction d with
              | zero =>
                intro n m hn hm
                obtain ⟨m, rfl⟩ : ∃ n', m = n' + 1 := ⟨m - 1, by omega⟩
                obtain ⟨s1, s2, s3⟩ := anc_S w (i := r.2.1 - 1) (by omega) n (by omega)
                show fX9_solution_44b N (fX9_solution_44 N m) (zI jn) (zI (anc r.2 n (r.2.1 - 1) : Nat)) Y = _
                unfold fX9_solution_44b
                rw [ck_z (by omega) (by omega) (by omega), z_cl (by omega) (by omega), show ((anc r.2 n (r.2.1 - 1) : Nat) : Int).toNat = anc r.2 n (r.2.1 - 1) by omega, (h4.2.1 _ s2).2, zl1, zA, i_le (by omega) (by omega), if_pos (by omega), ck_z (by omega) (by omega) (by omega), (h4.2.2 _ (s3 (by omega)) s2).2, show n = tS r.2 (r.2.1 - 1) - 1 - jn by omega]
              | succ d ih =>
                intro n m hn hm
                obtain ⟨m, rfl⟩ : ∃ n', m = n' + 1 := ⟨m - 1, by omega⟩
                obtain ⟨s1, s2, s3⟩ := anc_S w (i := r.2.1 - 1) (by omega) n (by omega)
                show fX9_solution_44b N (fX9_solution_44 N m) (zI jn) (zI (anc r.2 n (r.2.1 - 1) : Nat)) Y = _
                unfold fX9_solution_44b
                rw [ck_z (by omega) (by omega) (by omega), z_cl (by omega) (by omega), show ((anc r.2 n (r.2.1 - 1) : Nat) : Int).toNat = anc r.2 n (r.2.1 - 1) by omega, (h4.2.1 _ s2).2, zl1, zA, i_le (by omega) (by omega), if_neg (by omega), ck_z (by omega) (by omega) (by omega), (h4.2.2 _ (s3 (by omega)) s2).1, nm_ok]
                exact ih (n + 1) m (by omega) (by omega)
            have := lp (tS r.2 (r.2.1 - 1) - 1 - jn) 0 N (by omega) (by omega)
            rw [show ((r.2.1 : Int) - 1) = ((anc r.2 0 (r.2.1 - 1) : Nat) : Int) by show ((r.2.1 : Int) - 1) = ((r.2.1 - 1 : Nat) : Int); omega, show ((jn : Int)).toNat = jn by omega]
            exact this
          · rw [if_neg hlt, if_pos (by omega)]
            rfl
theorem m_reachable {N : Nat} {g : Lv} {wt th : Nat → Nat} {st : Nat} {gx gy gt : Nat → Int} {D : Nat → Nat → Int} {M : St} {p : Nat → Nat} (hN : 2000 ≤ N) (hp : pE g wt th st gx gy gt D) (hE : mE g wt th st gx gy gt D false M) (hpl : mPl p M) (hok : okA g p) {j : Int} (hj : -2147483648 ≤ j ∧ j < 2147483648) : ∃ Y, fX9_reachable N (zI j) M = some (zI (if 0 ≤ j ∧ j ≤ 4 then (if (out (sF g wt th st) (sz g D false) (ss g gx gy gt false) j.toNat 1200 0 (T0 (pkA p))).1 = 2 then -6 else (out (sF g wt th st) (sz g D false) (ss g gx gy gt false) j.toNat 1200 0 (T0 (pkA p))).2.1) else -3), Y) ∧ agF M Y ∧ mPl p Y := by
  unfold fX9_reachable fX9_reachable_36
  rw [zl0, zl4, m_in hj (by omega) (by omega), bd_ok, i_d]
  by_cases h : 0 ≤ j ∧ j ≤ 4
  · rw [if_pos h, if_pos h]
    obtain ⟨Y, e, r1, r2⟩ := m_search (slv := false) (most := j.toNat) hN hp hE (by omega) hpl hok
    have e' : fX9_search N (zI 0) (zI j) M = some ((), Y) := by
      rw [show ((j.toNat : Nat) : Int) = j by omega] at e
      exact e
    have hout := out_w (dz := sz g D false) (so := ss g gx gy gt false) (most := j.toNat) (sF_ok (wt := wt) (th := th) (st := st) hp.1) 1200 0 (T0 (pkA p)) (wT_0 (okA_pk hok).1)
    rw [e', bd_ok, r1.2.2.1, r1.2.1.1, show (-6 : Int32) = zI (-6) from rfl]
    generalize out (sF g wt th st) (sz g D false) (ss g gx gy gt false) j.toNat 1200 0 (T0 (pkA p)) = r at *
    have hw1 := hout.1.1
    have hw2 := hout.1.2.1
    refine ⟨Y, ?_, r1.1.wk (by simp) (by simp) (by simp) (by simp), r2⟩
    unfold fnd
    by_cases r0 : r.1 = 0
    · rw [if_pos r0, i_eq (by omega) (by omega), if_neg (by omega), if_neg (by omega)]
    · rw [if_neg r0]
      by_cases r2 : r.1 = 2
      · rw [if_pos r2, i_eq (by omega) (by omega), if_pos rfl, if_pos r2]
      · rw [if_neg r2, i_eq (by omega) (by omega), if_neg (by omega), if_neg r2]
  · rw [if_neg h, if_neg h]
    exact ⟨M, rfl, agr.rf _, hpl⟩
