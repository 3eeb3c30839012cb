/-! one sign read by the class -/
theorem cN_e {c t b : Nat} {s : Sc} (h : (b : Int) = bo c) : sN (scC c t s) b = sN s b + 1 := if_pos h
theorem cN_n {c t b : Nat} {s : Sc} (h : ¬ (b : Int) = bo c) : sN (scC c t s) b = sN s b := if_neg h
theorem cU_e {c t b : Nat} {s : Sc} (h : (b : Int) = bo c) : sU (scC c t s) b (sN s b) = sX s := if_pos ⟨h, rfl⟩
theorem cU_o {c t b i : Nat} {s : Sc} (h : i ≠ sN s b) : sU (scC c t s) b i = sU s b i := if_neg (fun z => h z.2)
theorem cU_n {c t b i : Nat} {s : Sc} (h : ¬ (b : Int) = bo c) : sU (scC c t s) b i = sU s b i := if_neg (fun z => h z.1)
theorem cV_e {c t b : Nat} {s : Sc} (h : (b : Int) = bo c) : sV (scC c t s) b (sN s b) = sY s := if_pos ⟨h, rfl⟩
theorem cV_o {c t b i : Nat} {s : Sc} (h : i ≠ sN s b) : sV (scC c t s) b i = sV s b i := if_neg (fun z => h z.2)
theorem cV_n {c t b i : Nat} {s : Sc} (h : ¬ (b : Int) = bo c) : sV (scC c t s) b i = sV s b i := if_neg (fun z => h z.1)
theorem cF_e {c t b : Nat} {s : Sc} (h : (b : Int) = bo c) (h0 : sN s b = 0) : sFp (scC c t s) b = t := if_pos ⟨h, h0⟩
theorem cF_o {c t b : Nat} {s : Sc} (h : sN s b ≠ 0) : sFp (scC c t s) b = sFp s b := if_neg (fun z => h z.2)
theorem cF_n {c t b : Nat} {s : Sc} (h : ¬ (b : Int) = bo c) : sFp (scC c t s) b = sFp s b := if_neg (fun z => h z.1)
theorem cP_e {c t b : Nat} {s : Sc} (h : (b : Int) = bo c) (h0 : isP c = true) : sP (scC c t s) b = 8 * (sY s : Int) + (sX s : Int) := if_pos ⟨h, h0⟩
theorem cP_o {c t b : Nat} {s : Sc} (h : isP c = false) : sP (scC c t s) b = sP s b := if_neg (fun z => by rw [h] at z; cases z.2)
theorem cP_n {c t b : Nat} {s : Sc} (h : ¬ (b : Int) = bo c) : sP (scC c t s) b = sP s b := if_neg (fun z => h z.1)
theorem cK_e {c t : Nat} {s : Sc} : sK (scC c t s) (8 * sY s + sX s) = kd1 c := if_pos rfl
theorem cK_n {c t q : Nat} {s : Sc} (h : q ≠ 8 * sY s + sX s) : sK (scC c t s) q = sK s q := if_neg h
abbrev agXR (X Y : St) : Prop := agr [25, 26, 27] [] [19, 20, 21] [] X Y
def QX (s : Sc) (X Y : St) : Prop := agXR X Y ∧ Y.1 25 = zI ((if sY s = 0 then 8 else sW s : Nat)) ∧ Y.1 26 = zI (sY s : Nat) ∧ Y.1 27 = zI (sX s : Nat) ∧ ∀ b, b < 5 → Y.2.2.1 19 b = zI (sN s b : Nat) ∧ Y.2.2.1 21 b = zI (sP s b) ∧ (0 < sN s b → Y.2.2.1 20 b = zI (sFp s b : Nat))
theorem x_endRow {N t : Nat} {s : Sc} {X Y : St} (h1 : iv1 s t) (q : QX s X Y) : (okR s → ∃ Y2, fX3_endRow N Y = some (true, Y2) ∧ QX (scR s) X Y2) ∧ (¬ okR s → fX3_endRow N Y = some (false, Y)) := by
  obtain ⟨q0, q1, q2, q3, q4⟩ := q
  obtain ⟨a1, a2, a3⟩ := h1
  have hx : sX s ≤ 8 ∧ (if sY s = 0 then 8 else sW s) ≤ 8 := by
    by_cases hy : sY s = 0
    · have := a2 hy; rw [if_pos hy]; omega
    · have := a3 (by omega); rw [if_neg hy]; omega
  have eE : fX3_endRow N Y = fX3_endRow_39 N (decide ((sY s = 0 → 3 ≤ sX s) ∧ (0 < sY s → sX s = sW s))) Y := by
    unfold fX3_endRow
    rw [q2, q3, q1, zl0, zl3, i_eq (by omega) (by omega), i_lt (by omega) (by omega), i_eq (by omega) (by omega)]
    by_cases hy : sY s = 0
    · rw [if_pos (c := ((sY s : Nat) : Int) = 0) (by omega)]
      by_cases h3 : ((sX s : Nat) : Int) < 3
      · rw [if_pos h3, decide_eq_false (fun z => by have := z.1 hy; omega)]
      · rw [if_neg h3, decide_eq_true ⟨fun _ => by omega, fun z => by omega⟩]
    · rw [if_neg (c := ((sY s : Nat) : Int) = 0) (by omega), if_neg hy]
      by_cases h3 : ((sX s : Nat) : Int) = (sW s : Nat)
      · rw [if_pos h3, decide_eq_true ⟨fun z => absurd z hy, fun _ => by omega⟩]
      · rw [if_neg h3, decide_eq_false (fun z => by have := z.2 (by omega); omega)]
  rw [eE]
  unfold fX3_endRow_39 fX3_endRow_55
  rw [zl0, i_d, q2, zl1, zA, show (8 : Int32) = zI 8 from rfl, i_lt (by omega) (by omega)]
  constructor
  · intro ok
    rw [if_pos ⟨ok.1, ok.2.1⟩, if_pos (by have := ok.2.2; omega), stp_ok, stp_ok, stp_ok, q3, show (sI Y 25 (zI (sX s : Nat))).1 26 = zI (sY s : Nat) from q2, zA]
    refine ⟨_, rfl, agr.sI (agr.sI (agr.sI q0 (by simp) _) (by simp) _) (by simp) _, ?_, rfl, rfl, q4⟩
    show zI (sX s : Nat) = zI ((if sY s + 1 = 0 then 8 else sX s : Nat))
    rw [if_neg (by omega)]
  · intro ok
    by_cases hc : (sY s = 0 → 3 ≤ sX s) ∧ (0 < sY s → sX s = sW s)
    · rw [if_pos hc, if_neg (fun z => ok ⟨hc.1, hc.2, by omega⟩)]
    · rw [if_neg hc]
theorem x_addBlockCell {N c t b : Nat} {s : Sc} {X Y : St} (h1 : iv1 s t) (h2 : iv2 s) (q : QX s X Y) (hb : b < 5) (ht : t < 80) : ((sN s b < 5 ∧ (isP c = true → sP s b = -1)) → ∃ Y2, fX3_addBlockCell N (zI b) (b2i (isP c)) (zI t) Y = some (true, Y2) ∧ agXR X Y2 ∧ Y2.1 = Y.1 ∧ (∀ d, d < 5 → Y2.2.2.1 19 d = (if d = b then zI (sN s b + 1 : Nat) else Y.2.2.1 19 d) ∧ Y2.2.2.1 21 d = (if d = b ∧ isP c = true then zI (8 * (sY s : Int) + (sX s : Int)) else Y.2.2.1 21 d) ∧ Y2.2.2.1 20 d = (if d = b ∧ sN s b = 0 then zI t else Y.2.2.1 20 d))) ∧ (¬ (sN s b < 5 ∧ (isP c = true → sP s b = -1)) → fX3_addBlockCell N (zI b) (b2i (isP c)) (zI t) Y = some (false, Y)) := by
  obtain ⟨q0, q1, q2, q3, q4⟩ := q
  obtain ⟨r1, r2, r3⟩ := q4 b hb
  have hn := h2.1 b
  have hP : -1 ≤ sP s b ∧ sP s b < 64 := by
    rcases h2.2.2.2 b with z | ⟨i, _, z⟩
    · omega
    · have := h2.2.2.1 b i; omega
  have hcl : (zI (b : Int)).toNatClampNeg = b := by rw [z_cl (by omega) (by omega)]; omega
  have hck : ∀ (E : Option (Bool × St)), ck (zI b) 5 E = E := fun E => ck_z (by omega) (by omega) (by omega)
  have e26 : ∃ Y2, fX3_addBlockCell_26 N (zI b) (b2i (isP c)) (zI t) Y = some (true, Y2) ∧ agXR X Y2 ∧ Y2.1 = Y.1 ∧ (∀ d, d < 5 → Y2.2.2.1 19 d = (if d = b then zI (sN s b + 1 : Nat) else Y.2.2.1 19 d) ∧ Y2.2.2.1 21 d = (if d = b ∧ isP c = true then zI (8 * (sY s : Int) + (sX s : Int)) else Y.2.2.1 21 d) ∧ Y2.2.2.1 20 d = (if d = b ∧ sN s b = 0 then zI t else Y.2.2.1 20 d)) := by
    unfold fX3_addBlockCell_26 fX3_addBlockCell_42 fX3_addBlockCell_64
    simp only [hck, hcl, stp_ok]
    rw [r1, zl0, i_eq (by omega) (by omega)]
    have g19 : ∀ (Z : St) (k : Nat) (v : Int32), k ≠ 19 → (sA Z k b v).2.2.1 19 = Z.2.2.1 19 := fun Z k v hk => sA_ne _ _ _ (fun z => hk z.symm)
    have gI : ∀ (Z : St) (k i : Nat) (v : Int32), (sA Z k i v).1 = Z.1 := fun _ _ _ _ => rfl
    by_cases h0 : sN s b = 0
    · rw [if_pos (by omega)]
      cases hp : isP c
      · rw [i_b, if_neg (c := false = true) (by simp), g19 _ _ _ (by decide), r1, zl1, zA]
        refine ⟨_, rfl, agr.sA (agr.sA q0 (by simp) _ _) (by simp) _ _, rfl, fun d hd => ?_⟩
        by_cases hdb : d = b
        · subst hdb
          rw [if_pos rfl, if_neg (fun z => by cases z.2), if_pos ⟨rfl, h0⟩, sA_same, sA_ne _ _ _ (by decide), sA_ne _ _ _ (by decide), sA_ne _ _ _ (by decide), sA_same]
          exact ⟨rfl, rfl, rfl⟩
        · rw [if_neg hdb, if_neg (fun z => hdb z.1), if_neg (fun z => hdb z.1), sA_oth _ _ hdb, sA_ne _ _ _ (show 19 ≠ 20 by decide), sA_ne _ _ _ (show 21 ≠ 19 by decide), sA_ne _ _ _ (show 21 ≠ 20 by decide), sA_ne _ _ _ (show 20 ≠ 19 by decide), sA_oth _ _ hdb]
          exact ⟨rfl, rfl, rfl⟩
      · rw [i_b, if_pos (c := true = true) rfl, g19 _ _ _ (by decide), g19 _ _ _ (by decide), r1, gI, q2, q3, zl1, show (8 : Int32) = zI 8 from rfl, zM, zA, zA]
        refine ⟨_, rfl, agr.sA (agr.sA (agr.sA q0 (by simp) _ _) (by simp) _ _) (by simp) _ _, rfl, fun d hd => ?_⟩
        by_cases hdb : d = b
        · subst hdb
          rw [if_pos rfl, if_pos ⟨rfl, rfl⟩, if_pos ⟨rfl, h0⟩, sA_same, sA_ne _ _ _ (show 21 ≠ 19 by decide), sA_same, sA_ne _ _ _ (show 20 ≠ 19 by decide), sA_ne _ _ _ (show 20 ≠ 21 by decide), sA_same]
          exact ⟨rfl, rfl, rfl⟩
        · rw [if_neg hdb, if_neg (fun z => hdb z.1), if_neg (fun z => hdb z.1), sA_oth _ _ hdb, sA_ne _ _ _ (show 19 ≠ 21 by decide), sA_ne _ _ _ (show 19 ≠ 20 by decide), sA_ne _ _ _ (show 21 ≠ 19 by decide), sA_oth _ _ hdb, sA_ne _ _ _ (show 21 ≠ 20 by decide), sA_ne _ _ _ (show 20 ≠ 19 by decide), sA_ne _ _ _ (show 20 ≠ 21 by decide), sA_oth _ _ hdb]
          exact ⟨rfl, rfl, rfl⟩
    · rw [if_neg (by omega)]
      cases hp : isP c
      · rw [i_b, if_neg (c := false = true) (by simp), zl1, zA]
        refine ⟨_, rfl, agr.sA q0 (by simp) _ _, rfl, fun d hd => ?_⟩
        rw [if_neg (c := d = b ∧ false = true) (fun z => by cases z.2), if_neg (c := d = b ∧ sN s b = 0) (fun z => h0 z.2), sA_ne _ _ _ (show 21 ≠ 19 by decide), sA_ne _ _ _ (show 20 ≠ 19 by decide)]
        by_cases hdb : d = b
        · subst hdb
          rw [if_pos rfl, sA_same]
          exact ⟨rfl, rfl, rfl⟩
        · rw [if_neg hdb, sA_oth _ _ hdb]
          exact ⟨rfl, rfl, rfl⟩
      · rw [i_b, if_pos (c := true = true) rfl, g19 _ _ _ (by decide), r1, q2, q3, zl1, show (8 : Int32) = zI 8 from rfl, zM, zA, zA]
        refine ⟨_, rfl, agr.sA (agr.sA q0 (by simp) _ _) (by simp) _ _, rfl, fun d hd => ?_⟩
        rw [if_neg (c := d = b ∧ sN s b = 0) (fun z => h0 z.2), sA_ne _ _ _ (show 20 ≠ 19 by decide), sA_ne _ _ _ (show 20 ≠ 21 by decide), sA_ne _ _ _ (show 21 ≠ 19 by decide)]
        by_cases hdb : d = b
        · subst hdb
          rw [if_pos rfl, if_pos ⟨rfl, rfl⟩, sA_same, sA_same]
          exact ⟨rfl, rfl, rfl⟩
        · rw [if_neg hdb, if_neg (fun z => hdb z.1), sA_oth _ _ hdb, sA_oth _ _ hdb, sA_ne _ _ _ (show 19 ≠ 21 by decide)]
          exact ⟨rfl, rfl, rfl⟩
  unfold fX3_addBlockCell fX3_addBlockCell_24
  simp only [hck, hcl]
  rw [r1, r2, zl5, i_le (by omega) (by omega), zl0, i_b, zlm1, i_eq (by omega) (by omega)]
  constructor
  · intro ok
    rw [if_neg (by omega)]
    cases hp : isP c
    · rw [hp] at e26
      rw [if_neg (c := false = true) (by simp)]; exact e26
    · rw [hp] at e26
      rw [if_pos (c := true = true) rfl, if_pos (ok.2 hp)]; exact e26
  · intro ok
    by_cases h5 : sN s b < 5
    · rw [if_neg (by omega)]
      cases hp : isP c
      · exact absurd ⟨h5, fun z => by rw [hp] at z; cases z⟩ ok
      · rw [if_pos (c := true = true) rfl, if_neg (fun z => ok ⟨h5, fun _ => z⟩)]
    · rw [if_pos (by omega)]
theorem x_addCell {N c t : Nat} {s : Sc} {X Y : St} (hN : 100 ≤ N) (h1 : iv1 s t) (h2 : iv2 s) (q : QX s X Y) (hc : c < 65536) (ht : t < 80) : (okC c s → ∃ Y2, fX3_addCell N (zI c) (zI t) Y = some (true, Y2) ∧ QX (scC c t s) X Y2) ∧ (¬ okC c s → ∃ Y2, fX3_addCell N (zI c) (zI t) Y = some (false, Y2) ∧ agXR X Y2) := by
  have qq := q
  obtain ⟨q0, q1, q2, q3, q4⟩ := q
  obtain ⟨a1, a2, a3⟩ := h1
  have hx : sX s ≤ 8 ∧ (if sY s = 0 then 8 else sW s) ≤ 8 := by
    by_cases hy : sY s = 0
    · have := a2 hy; rw [if_pos hy]; omega
    · have := a3 (by omega); rw [if_neg hy]; omega
  have hbo := bo_bd c
  have hgr := grd_bd c
  have hlim : (sX s < (if sY s = 0 then 8 else sW s)) ↔ ((sY s = 0 → sX s < 8) ∧ (0 < sY s → sX s < sW s)) := by
    by_cases hy : sY s = 0
    · rw [if_pos hy]; exact ⟨fun z => ⟨fun _ => z, fun w => by omega⟩, fun z => z.1 hy⟩
    · rw [if_neg hy]; exact ⟨fun z => ⟨fun w => absurd w hy, fun _ => z⟩, fun z => z.2 (by omega)⟩
  unfold fX3_addCell fX3_addCell_47
  rw [q3, q1, i_lt (by omega) (by omega)]
  by_cases hx2 : sX s < (if sY s = 0 then 8 else sW s)
  · rw [if_pos (by omega), x_blockOf hc, bd_ok, zl0, i_le (by omega) (by omega)]
    have hl := hlim.mp hx2
    by_cases hb0 : 0 ≤ bo c
    · obtain ⟨b, hb⟩ : ∃ b : Nat, bo c = (b : Int) := ⟨(bo c).toNat, by omega⟩
      have hk : kd1 c = 0 := if_pos hb0
      obtain ⟨e1, e2⟩ := x_addBlockCell (N := N) (c := c) ⟨a1, a2, a3⟩ h2 qq (show b < 5 by omega) ht
      rw [if_pos hb0, x_isPivot hc, bd_ok, hb]
      constructor
      · intro ok
        obtain ⟨Y2, f1, f2, f3, f4⟩ := e1 (ok.2.2.2 b hb.symm)
        rw [f1, bd_ok, stp_ok, f3, q3, zl1, zA]
        refine ⟨_, rfl, agr.sI f2 (by simp) _, ?_, ?_, rfl, fun d hd => ?_⟩
        · show (sI Y2 27 (zI ((sX s : Nat) + 1 : Int))).1 25 = _
          rw [sI_ne _ _ (by decide), f3]; exact q1
        · show (sI Y2 27 (zI ((sX s : Nat) + 1 : Int))).1 26 = _
          rw [sI_ne _ _ (by decide), f3]; exact q2
        · show Y2.2.2.1 19 d = _ ∧ Y2.2.2.1 21 d = _ ∧ (_ → Y2.2.2.1 20 d = _)
          obtain ⟨g1, g2, g3⟩ := f4 d hd
          obtain ⟨r1, r2, r3⟩ := q4 d hd
          rw [g1, g2, g3]
          by_cases hdb : d = b
          · subst hdb
            rw [if_pos rfl, cN_e hb.symm]
            refine ⟨rfl, ?_, fun _ => ?_⟩
            · cases hp : isP c
              · rw [if_neg (fun z => by cases z.2), cP_o hp]; exact r2
              · rw [if_pos ⟨rfl, rfl⟩, cP_e hb.symm hp]
            · by_cases h0 : sN s d = 0
              · rw [if_pos ⟨rfl, h0⟩, cF_e hb.symm h0]
              · rw [if_neg (fun z => h0 z.2), cF_o h0]; exact r3 (by omega)
          · have hne : ¬ (d : Int) = bo c := fun z => hdb (by omega)
            rw [if_neg hdb, if_neg (fun z => hdb z.1), if_neg (fun z => hdb z.1), cN_n hne, cP_n hne, cF_n hne]
            exact ⟨r1, r2, r3⟩
      · intro ok
        rw [e2 (fun z => ok ⟨hl.1, hl.2, by omega, fun d hd => by rw [show d = b by omega]; exact z⟩), bd_ok, stp_ok]
        exact ⟨_, rfl, agr.sI q0 (by simp) _⟩
    · have hk : kd1 c = grd c := if_neg hb0
      have hne : ∀ d : Nat, ¬ (d : Int) = bo c := fun d => by omega
      rw [if_neg hb0, x_groundOf hN hc, bd_ok, i_lt (by omega) (by omega), stp_ok, stp_ok, q3, zl1, zA]
      constructor
      · intro ok
        rw [if_neg (by have := ok.2.2.1; omega)]
        refine ⟨_, rfl, agr.sI q0 (by simp) _, ?_, ?_, rfl, fun d hd => ?_⟩
        · rw [sI_ne _ _ (by decide)]; exact q1
        · rw [sI_ne _ _ (by decide)]; exact q2
        · rw [cN_n (hne d), cP_n (hne d), cF_n (hne d)]
          exact q4 d hd
      · intro ok
        rw [if_pos (Int.not_le.mp fun z => ok ⟨hl.1, hl.2, by omega, fun d hd => absurd hd (hne d)⟩)]
        exact ⟨_, rfl, agr.sI q0 (by simp) _⟩
  · rw [if_neg (by omega)]
    exact ⟨fun ok => absurd (hlim.mpr ⟨ok.1, ok.2.1⟩) hx2, fun _ => ⟨Y, rfl, q0⟩⟩
