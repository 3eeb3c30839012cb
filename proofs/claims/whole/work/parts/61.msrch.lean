/-! the search of the reference -/
def okv (g : Lv) (v : Nat) : Prop := v < 2 ^ 40 ∧ okA g (upk v)
def sF (g : Lv) (wt th : Nat → Nat) (st : Nat) (v b k : Nat) : Nat := if gN g b = 0 ∨ mvs g wt th st (upk v) b k = 0 then 0 else pkA (nxA g wt th st (upk v) b k) + 1
def sz (g : Lv) (D : Nat → Nat → Int) (slv : Bool) (v : Nat) : Bool := slv && dd g D (upk v)
def ss (g : Lv) (gx gy gt : Nat → Int) (slv : Bool) (v : Nat) : Bool := slv && sv g gx gy gt (upk v)
theorem okA.cong {g : Lv} {p q : Nat → Nat} (h : okA g p) (e : ∀ b, b < 5 → p b = q b) : okA g q := ⟨fun b hb => by rw [← e b hb]; exact h.1 b hb, fun b hb d hd => by rw [← e b hb, ← e d hd]; exact h.2 b hb d hd⟩
theorem upk_enc {v : Nat} (h : v < 2 ^ 40) : enc (upk v) v := ⟨h, fun _ _ => rfl⟩
theorem okA_pk {g : Lv} {p : Nat → Nat} (h : okA g p) : okv g (pkA p) ∧ ∀ b, b < 5 → upk (pkA p) b = p b := by
  have h1 := pkA_enc (fun b hb => (h.1 b hb).1)
  exact ⟨⟨h1.1, h.cong fun b hb => (h1.2 b hb).symm⟩, h1.2⟩
theorem sF_ok {g : Lv} {wt th : Nat → Nat} {st : Nat} (hw : wfL g) : ∀ v b k, okv g v → b < 5 → k < 6 → sF g wt th st v b k ≠ 0 → okv g (sF g wt th st v b k - 1) := by
  intro v b k hv hb hk h
  unfold sF at h ⊢
  by_cases h1 : gN g b = 0 ∨ mvs g wt th st (upk v) b k = 0
  · rw [if_pos h1] at h; exact absurd rfl h
  · rw [if_neg h1, Nat.add_sub_cancel]
    exact (okA_pk (nx_ok hw hv.2 hb (by omega) hk (fun z => h1 (Or.inr z))).2).1
def pE (g : Lv) (wt th : Nat → Nat) (st : Nat) (gx gy gt : Nat → Int) (D : Nat → Nat → Int) : Prop := wfL g ∧ (∀ r, th r ≤ 45) ∧ (∀ b, wt b ≤ 9) ∧ st ≤ 45 ∧ bG gx gy gt ∧ hasD g gx gy gt D
def mE (g : Lv) (wt th : Nat → Nat) (st : Nat) (gx gy gt : Nat → Int) (D : Nat → Nat → Int) (slv : Bool) (Y : St) : Prop := mL g Y ∧ mTh th Y ∧ mW8 wt Y ∧ Y.1 2 = zI st ∧ mG gx gy gt Y ∧ (slv = true → mD g D Y)
abbrev agS (M Y : St) : Prop := agr [6, 7, 10, 11] [] [9, 18, 19, 25, 26, 27] [3] M Y
theorem mE.ag {g : Lv} {wt th : Nat → Nat} {st : Nat} {gx gy gt : Nat → Int} {D : Nat → Nat → Int} {slv : Bool} {M Y : St} (h : mE g wt th st gx gy gt D slv M) (a : agS M Y) : mE g wt th st gx gy gt D slv Y := ⟨h.1.ag a (by decide) (by decide) (by decide) (by decide) (by decide) (by decide), h.2.1.ag a (by decide), h.2.2.1.ag a (by decide), by rw [a.1 2 (by decide)]; exact h.2.2.2.1, fun b hb => by rw [a.2.2.1 6 (by decide), a.2.2.1 7 (by decide), a.2.2.1 8 (by decide)]; exact h.2.2.2.2.1 b hb, fun hs b hb hn P hP => by rw [a.2.2.1 24 (by decide)]; exact h.2.2.2.2.2 hs b hb hn P hP⟩
def SM (T : TT) (Y : St) : Prop := Y.1 10 = zI T.1 ∧ (∀ i, i < T.1 → Y.2.2.2 3 i = lN (tL T i) ∧ Y.2.2.1 27 i = zI (tS T i)) ∧ ∀ i, 0 < i → i < T.1 → Y.2.2.1 25 i = zI (tO T i) ∧ Y.2.2.1 26 i = zI (tV T i)
theorem SM.ag {T : TT} {is js as ls : List Nat} {M Y : St} (h : SM T M) (a : agr is js as ls M Y) (h1 : 10 ∉ is) (h2 : 25 ∉ as) (h3 : 26 ∉ as) (h4 : 27 ∉ as) (h5 : 3 ∉ ls) : SM T Y := by
  unfold SM
  rw [a.1 10 h1, a.2.2.1 25 h2, a.2.2.1 26 h3, a.2.2.1 27 h4, a.2.2.2 3 h5]
  exact h
theorem m_isListed {N : Nat} {g : Lv} {T : TT} {Y : St} {v : Nat} (hN : 2000 ≤ N) (hT : wT (okv g) T) (hS : SM T Y) (hv : v < 2 ^ 40) : fX9_isListed N (lN v) Y = some (inL T v, Y) := by
  have h12 := hT.2.1
  have lp : ∀ (d i m : Nat), i + d = T.1 → d < m → (anyB i fun i => decide (tL T i = v)) = false → fX9_isListed_2 N m (lN v) (zI i) Y = some (inL T v, Y) := by
    intro d
    induction d with
    | zero =>
      intro i m hi hm hpre
      obtain ⟨m, rfl⟩ : ∃ n', m = n' + 1 := ⟨m - 1, by omega⟩
      show fX9_isListed_2b N (fX9_isListed_2 N m) (lN v) (zI i) Y = _
      unfold fX9_isListed_2b inL
      rw [hS.1, i_le (by omega) (by omega), if_pos (by omega), ← hpre, show T.1 = i by omega]
    | succ d ih =>
      intro i m hi hm hpre
      obtain ⟨m, rfl⟩ : ∃ n', m = n' + 1 := ⟨m - 1, by omega⟩
      have hit : i < T.1 := by omega
      show fX9_isListed_2b N (fX9_isListed_2 N m) (lN v) (zI i) Y = _
      unfold fX9_isListed_2b
      rw [hS.1, i_le (by omega) (by omega), if_neg (by omega), ck_z (by omega) (by omega) (by omega), z_cl (by omega) (by omega), show ((i : Int)).toNat = i by omega, (hS.2.1 i hit).1, zl0, i_ll (hT.2.2.1 i hit).1 hv, zl1, zA]
      by_cases h : tL T i = v
      · rw [if_pos h]
        have : inL T v = true := anyB_iff.mpr ⟨i, hit, decide_eq_true h⟩
        rw [this]
      · rw [if_neg h]
        exact ih (i + 1) m (by omega) (by omega) (by simp only [anyB]; rw [hpre, decide_eq_false h]; rfl)
  exact lp T.1 0 N (by omega) (by omega) rfl
def i01 (s : Bool) : Int := if s then 1 else 0
theorem m_tries {N : Nat} {g : Lv} {wt th : Nat → Nat} {st : Nat} {gx gy gt : Nat → Int} {D : Nat → Nat → Int} {slv : Bool} {T : TT} {Y : St} (hN : 2000 ≤ N) (hp : pE g wt th st gx gy gt D) (hE : mE g wt th st gx gy gt D slv Y) (hT : wT (okv g) T) (hS : SM T Y) {a b k : Nat} (ha : a < T.1) (hb : b < 5) (hb0 : 0 < gN g b) (hk : k < 6) : ∃ Y2, fX9_tries N (zI a) (zI b) (zI k) (zI (i01 slv)) Y = some (decide ((tr1 (sF g wt th st) (sz g D slv) (ss g gx gy gt slv) a b k T).1 = 0), Y2) ∧ agS Y Y2 ∧ SM (tr1 (sF g wt th st) (sz g D slv) (ss g gx gy gt slv) a b k T).2 Y2 ∧ Y2.1 11 = if (tr1 (sF g wt th st) (sz g D slv) (ss g gx gy gt slv) a b k T).1 = 0 then Y.1 11 else zI (if (tr1 (sF g wt th st) (sz g D slv) (ss g gx gy gt slv) a b k T).1 = 2 then -6 else ((tr1 (sF g wt th st) (sz g D slv) (ss g gx gy gt slv) a b k T).2.1 : Int) - 1) := by
  obtain ⟨p1, p2, p3, p4, p5, p6⟩ := hp
  have h12 := hT.2.1
  have hov := hT.2.2.1 a ha
  obtain ⟨M1, e1, a1, q1⟩ := m_unpack (N := N) (M := Y) (by omega) (upk_enc hov.1)
  have A1 : agS Y M1 := a1.wk (by simp) (by simp) (by simp) (by simp)
  have E1 := hE.ag A1
  obtain ⟨M2, e2, a2⟩ := m_movedBy (N := N) (by omega) E1.1 p1 E1.2.1 p2 E1.2.2.1 p3 q1 hov.2 E1.2.2.2.1 p4 hb hk
  have A2 : agS Y M2 := A1.tr (a2.wk (by simp) (by simp) (by simp) (by simp))
  have S2 : SM T M2 := (hS.ag a1 (by decide) (by decide) (by decide) (by decide) (by decide)).ag a2 (by decide) (by decide) (by decide) (by decide) (by decide)
  have f2 : M2.1 11 = Y.1 11 := by rw [a2.1 11 (by decide), a1.1 11 (by decide)]
  have hm32 := mvs_lt (g := g) (wt := wt) (th := th) (st := st) (p := upk (tL T a)) (k := k) hb
  unfold fX9_tries
  rw [ck_z (by omega) (by omega) (by omega), z_cl (by omega) (by omega), show ((a : Int)).toNat = a by omega, (hS.2.1 a ha).1, e1, bd_ok, e2, bd_ok, zl0, i_eq (by omega) (by omega)]
  by_cases hm0 : mvs g wt th st (upk (tL T a)) b k = 0
  · have hF : sF g wt th st (tL T a) b k = 0 := by unfold sF; rw [if_pos (Or.inr hm0)]
    have hr : tr1 (sF g wt th st) (sz g D slv) (ss g gx gy gt slv) a b k T = (0, T) := by unfold tr1; rw [if_pos hF]
    rw [if_pos (by omega), hr]
    exact ⟨M2, rfl, A2, S2, f2⟩
  · rw [if_neg (by omega)]
    obtain ⟨n1, n2⟩ := nx_ok p1 hov.2 hb hb0 hk hm0
    obtain ⟨w1, w2⟩ := okA_pk n2
    have hF : sF g wt th st (tL T a) b k = pkA (nxA g wt th st (upk (tL T a)) b k) + 1 := by unfold sF; rw [if_neg (fun z => by rcases z with z | z; omega; exact hm0 z)]
    obtain ⟨f, e3, q3⟩ := m_carryOut (N := N) (s := mvs g wt th st (upk (tL T a)) b k) (k := k) (by omega) (q1.ag a2 (by decide)) (fun b hb => upk_lt _ _) hm32 hk
    have a3 : agr [] [] [9] [] M2 (fA M2 9 f) := agr.fA (agr.rf _) (k := 9) (by simp) _
    have A3 : agS Y (fA M2 9 f) := A2.tr (a3.wk (by simp) (by simp) (by simp) (by simp))
    have S3 := S2.ag a3 (by decide) (by decide) (by decide) (by decide) (by decide)
    have f3 : (fA M2 9 f).1 11 = Y.1 11 := f2
    have E3 := hE.ag A3
    generalize hw : pkA (nxA g wt th st (upk (tL T a)) b k) = w at *
    have q4 : mPl (upk w) (fA M2 9 f) := fun q hq => by rw [fA_at, q3 q hq, n1 q hq, w2 q hq]
    generalize hM3 : fA M2 9 f = M3 at *
    have hpk : pkA (upk w) = w := (enc_pk (upk_enc w1.1)).symm
    rw [e3, bd_ok, m_packed (by omega) q4 (fun b hb => upk_lt _ _), bd_ok, hpk]
    -- from here: is it dead, is it listed, is it solved
    have t50 : sz g D slv w = false → ∃ Y2, fX9_tries_50 N (zI a) (zI b) (zI k) (zI (i01 slv)) (lN w) M3 = some (decide ((tr1 (sF g wt th st) (sz g D slv) (ss g gx gy gt slv) a b k T).1 = 0), Y2) ∧ agS Y Y2 ∧ SM (tr1 (sF g wt th st) (sz g D slv) (ss g gx gy gt slv) a b k T).2 Y2 ∧ Y2.1 11 = if (tr1 (sF g wt th st) (sz g D slv) (ss g gx gy gt slv) a b k T).1 = 0 then Y.1 11 else zI (if (tr1 (sF g wt th st) (sz g D slv) (ss g gx gy gt slv) a b k T).1 = 2 then -6 else ((tr1 (sF g wt th st) (sz g D slv) (ss g gx gy gt slv) a b k T).2.1 : Int) - 1) := fun hz => by
      unfold fX9_tries_50
      rw [m_isListed hN hT S3 w1.1, bd_ok, zl0, i_b]
      have hr : tr1 (sF g wt th st) (sz g D slv) (ss g gx gy gt slv) a b k T = if inL T w then (0, T) else if T.1 = 1200 then (2, T) else (if ss g gx gy gt slv w then 1 else 0, app T w a (10 * b + k)) := by
        unfold tr1
        rw [hF, if_neg (by omega), Nat.add_sub_cancel, hz, Bool.false_or]
      rw [hr]
      cases hin : inL T w
      · rw [if_neg (c := false = true) (by simp), if_neg (c := false = true) (by simp), S3.1, show (1200 : Int32) = zI 1200 from rfl, i_eq (by omega) (by omega)]
        by_cases hfull : T.1 = 1200
        · rw [if_pos (by omega), if_pos hfull, stp_ok]
          exact ⟨_, rfl, agr.sI A3 (by simp) _, S3.ag (agr.sI (agr.rf (is := [11]) (js := []) (as := []) (ls := []) _) (by simp) _) (by decide) (by decide) (by decide) (by decide) (by decide), rfl⟩
        · rw [if_neg (by omega), if_neg hfull, ck_z (by omega) (by omega) (by omega), z_cl (by omega) (by omega), show ((T.1 : Int)).toNat = T.1 by omega, stp_ok]
          have r10 : ∀ (Z : St) (i : Nat) (v : Int64), (sL Z 3 i v).1 10 = Z.1 10 := fun _ _ _ => rfl
          have r10a : ∀ (Z : St) (k i : Nat) (v : Int32), (sA Z k i v).1 10 = Z.1 10 := fun _ _ _ _ => rfl
          rw [r10, S3.1, ck_z (by omega) (by omega) (by omega), z_cl (by omega) (by omega), show ((T.1 : Int)).toNat = T.1 by omega, stp_ok, r10a, r10, S3.1, ck_z (by omega) (by omega) (by omega), z_cl (by omega) (by omega), show ((T.1 : Int)).toNat = T.1 by omega, stp_ok, ck_z (by omega) (by omega) (by omega), r10a, r10a, r10, S3.1, ck_z (by omega) (by omega) (by omega), z_cl (by omega) (by omega), show ((T.1 : Int)).toNat = T.1 by omega, z_cl (by omega) (by omega), show ((a : Int)).toNat = a by omega, stp_ok, stp_ok, r10a, r10a, r10a, r10, S3.1, sA_ne _ _ _ (by decide), sA_ne _ _ _ (by decide), show (sL M3 3 T.1 (lN w)).2.2.1 27 a = M3.2.2.1 27 a from rfl, (S3.2.1 a ha).2, zl1, zA, zA, show (10 : Int32) = zI 10 from rfl, zM, zA]
          have hZ : agS Y (sI (sA (sA (sA (sL M3 3 T.1 (lN w)) 25 T.1 (zI a)) 26 T.1 (zI (10 * (b : Int) + (k : Int)))) 27 T.1 (zI ((tS T a : Int) + 1))) 10 (zI ((T.1 : Int) + 1))) := agr.sI (agr.sA (agr.sA (agr.sA (agr.sL A3 (by simp) _ _) (by simp) _ _) (by simp) _ _) (by simp) _ _) (by simp) _
          have hSZ : SM (app T w a (10 * b + k)) (sI (sA (sA (sA (sL M3 3 T.1 (lN w)) 25 T.1 (zI a)) 26 T.1 (zI (10 * (b : Int) + (k : Int)))) 27 T.1 (zI ((tS T a : Int) + 1))) 10 (zI ((T.1 : Int) + 1))) := by
            refine ⟨sI_same _ _ _, fun i hi => ?_, fun i hi hi2 => ?_⟩
            · have hi' : i < T.1 + 1 := hi
              show (sL M3 3 T.1 (lN w)).2.2.2 3 i = lN (if i = T.1 then w else tL T i) ∧ (sA (sA (sA (sL M3 3 T.1 (lN w)) 25 T.1 (zI a)) 26 T.1 (zI (10 * (b : Int) + (k : Int)))) 27 T.1 (zI ((tS T a : Int) + 1))).2.2.1 27 i = zI ((if i = T.1 then tS T a + 1 else tS T i : Nat))
              by_cases hiT : i = T.1
              · rw [if_pos hiT, if_pos hiT, hiT, sL_same, sA_same]
                exact ⟨rfl, rfl⟩
              · rw [if_neg hiT, if_neg hiT, sL_oth _ _ hiT, sA_oth _ _ hiT]
                exact S3.2.1 i (by omega)
            · have hi' : i < T.1 + 1 := hi2
              show (sA (sA (sA (sL M3 3 T.1 (lN w)) 25 T.1 (zI a)) 26 T.1 (zI (10 * (b : Int) + (k : Int)))) 27 T.1 (zI ((tS T a : Int) + 1))).2.2.1 25 i = zI ((if i = T.1 then a else tO T i : Nat)) ∧ (sA (sA (sA (sL M3 3 T.1 (lN w)) 25 T.1 (zI a)) 26 T.1 (zI (10 * (b : Int) + (k : Int)))) 27 T.1 (zI ((tS T a : Int) + 1))).2.2.1 26 i = zI ((if i = T.1 then 10 * b + k else tV T i : Nat))
              rw [sA_ne _ _ _ (show 25 ≠ 27 by decide), sA_ne _ _ _ (show 25 ≠ 26 by decide), sA_ne _ _ _ (show 26 ≠ 27 by decide)]
              by_cases hiT : i = T.1
              · rw [if_pos hiT, if_pos hiT, hiT, sA_same, sA_same]
                exact ⟨rfl, rfl⟩
              · rw [if_neg hiT, if_neg hiT, sA_oth _ _ hiT, sA_oth _ _ hiT]
                exact S3.2.2 i hi (by omega)
          have hfZ : (sI (sA (sA (sA (sL M3 3 T.1 (lN w)) 25 T.1 (zI a)) 26 T.1 (zI (10 * (b : Int) + (k : Int)))) 27 T.1 (zI ((tS T a : Int) + 1))) 10 (zI ((T.1 : Int) + 1))).1 11 = Y.1 11 := by rw [sI_ne _ _ (by decide)]; exact f3
          have hqZ : mPl (upk w) (sI (sA (sA (sA (sL M3 3 T.1 (lN w)) 25 T.1 (zI a)) 26 T.1 (zI (10 * (b : Int) + (k : Int)))) 27 T.1 (zI ((tS T a : Int) + 1))) 10 (zI ((T.1 : Int) + 1))) := q4
          generalize (sI (sA (sA (sA (sL M3 3 T.1 (lN w)) 25 T.1 (zI a)) 26 T.1 (zI (10 * (b : Int) + (k : Int)))) 27 T.1 (zI ((tS T a : Int) + 1))) 10 (zI ((T.1 : Int) + 1))) = Z at *
          have hEZ := hE.ag hZ
          unfold fX9_tries_166
          cases slv
          · have : ss g gx gy gt false w = false := rfl
            rw [this, show i01 false = 0 from rfl, i_eq (by omega) (by omega), if_pos rfl]
            exact ⟨Z, rfl, hZ, hSZ, hfZ⟩
          · have : ss g gx gy gt true w = sv g gx gy gt (upk w) := rfl
            rw [this, show i01 true = 1 from rfl, i_eq (by omega) (by omega), if_neg (by omega), m_isSolvedNow (by omega) hEZ.1 p1 hEZ.2.2.2.2.1 p5 hqZ (fun b hb => upk_lt _ _), bd_ok, i_b]
            cases hsv : sv g gx gy gt (upk w)
            · rw [if_neg (c := false = true) (by simp), if_neg (c := false = true) (by simp)]
              exact ⟨Z, rfl, hZ, hSZ, hfZ⟩
            · rw [if_pos (c := true = true) rfl, if_pos (c := true = true) rfl, stp_ok, hSZ.1, zS]
              exact ⟨_, rfl, agr.sI hZ (by simp) _, hSZ.ag (agr.sI (agr.rf (is := [11]) (js := []) (as := []) (ls := []) _) (by simp) _) (by decide) (by decide) (by decide) (by decide) (by decide), rfl⟩
      · rw [if_pos (c := true = true) rfl, if_pos (c := true = true) rfl]
        exact ⟨M3, rfl, A3, S3, f3⟩
    cases slv
    · rw [show i01 false = 0 from rfl, i_eq (by omega) (by omega), if_pos rfl]
      exact t50 rfl
    · rw [show i01 true = 1 from rfl, i_eq (by omega) (by omega), if_neg (by omega), m_isDeadNow (by omega) E3.1 p1 p6 (E3.2.2.2.2.2 rfl) q4 (fun b hb => upk_lt _ _), bd_ok, i_b]
      cases hdd : dd g D (upk w)
      · rw [if_neg (c := false = true) (by simp)]
        exact t50 hdd
      · rw [if_pos (c := true = true) rfl]
        have hr : tr1 (sF g wt th st) (sz g D true) (ss g gx gy gt true) a b k T = (0, T) := by
          unfold tr1
          rw [hF, if_neg (by omega), Nat.add_sub_cancel, show sz g D true w = true from hdd, Bool.true_or, if_pos rfl]
        rw [hr]
        exact ⟨M3, rfl, A3, S3, f3⟩
