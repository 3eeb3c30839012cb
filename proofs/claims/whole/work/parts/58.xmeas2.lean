/-! the class measures, whole -/
theorem gl_o {g : Lv} {gx gy gt : Nat → Int} {b o P R : Nat} (hgt : 0 ≤ gt b) (hP : (P : Int) = 64 * o + (8 * gy b + gx b)) (hx : 0 ≤ gx b ∧ gx b < 8) (hy : 0 ≤ gy b ∧ gy b < 8) (hR : R / 64 = o) : glb g gx gy gt b R = true ↔ R = P ∧ plc g b P = true ∧ (gt b = 4 ∨ gt b = (o : Int)) := by
  unfold glb atG
  rw [decide_eq_false (p := gt b < 0) (by omega), Bool.false_or]
  simp only [Bool.and_eq_true, Bool.or_eq_true, decide_eq_true_eq]
  constructor
  · rintro ⟨h1, h2, h3, h4⟩
    have : R = P := by omega
    subst this
    exact ⟨rfl, h1, by omega⟩
  · rintro ⟨h1, h2, h3⟩
    subst h1
    exact ⟨h2, by omega, by omega, by omega⟩
def gq (g : Lv) (gx gy gt : Nat → Int) (X : St) (b o : Nat) (f : Nat → Int) (q : Nat → Nat) (cnt : Nat) (Y : St) : Prop := agr [] [] [2, 14 + b] [] X Y ∧ (∀ P, P < 256 → Y.2.2.1 (14 + b) P = zI (f P)) ∧ (∀ i, i < cnt → Y.2.2.1 2 i = zI (q i) ∧ q i < 256 ∧ f (q i) = 0) ∧ (∀ P, P < 256 → f P = 0 → ∃ i, i < cnt ∧ q i = P) ∧ cnB 256 (fun P => decide (0 ≤ f P)) = cnt ∧ (∀ P, P < 256 → f P = if glb g gx gy gt b P && decide (P / 64 < o) then 0 else -1) ∧ cnt ≤ o
theorem cnB_0 : ∀ n, cnB n (fun _ => false) = 0 := by
  intro n
  induction n with
  | zero => rfl
  | succ n ih => unfold cnB; rw [ih]; rfl
theorem x_measure {N : Nat} {g : Lv} {X : St} {gx gy gt : Nat → Int} (hN : 300 ≤ N) (hg : xY g X) (hB : xB g X) (hw : wfL g) {b : Nat} (hb : b < 5) (h0 : 0 < gN g b) (hin : inY g (gx b) (gy b)) (hgt : 0 ≤ gt b ∧ gt b ≤ 4) (hc : X.1 (15 + b) = zI (8 * gy b + gx b)) (ho : X.1 (20 + b) = zI (gt b)) : ∃ Y f, fX0_measure N b X = some ((), Y) ∧ agr [] [] [2, 14 + b] [] X Y ∧ isD (nxb g b) (glb g gx gy gt b) f ∧ ∀ P, P < 256 → Y.2.2.1 (14 + b) P = zI (f P) := by
  have hwc := hw.1
  have lp : ∀ (d o m : Nat) (f : Nat → Int) (q : Nat → Nat) (cnt : Nat) (Y : St), o + d = 4 → d < m → gq g gx gy gt X b o f q cnt Y → ∃ Y2 f2, fX0_measure_13 N b m (zI cnt) (zI o) Y = some ((), Y2) ∧ agr [] [] [2, 14 + b] [] X Y2 ∧ isD (nxb g b) (glb g gx gy gt b) f2 ∧ ∀ P, P < 256 → Y2.2.2.1 (14 + b) P = zI (f2 P) := by
    intro d
    induction d with
    | zero =>
      intro o m f q cnt Y hod hm hY
      obtain ⟨m, rfl⟩ : ∃ n', m = n' + 1 := ⟨m - 1, by omega⟩
      have : o = 4 := by omega
      subst this
      obtain ⟨y1, y2, y3, y4, y5, y6, y7⟩ := hY
      have y6' : ∀ P, P < 256 → f P = if glb g gx gy gt b P then 0 else -1 := fun P hP => by rw [y6 P hP, decide_eq_true (p := P / 64 < 4) (by omega), Bool.and_true]
      have hv : ∀ P, P < 256 → f P = 0 ∨ f P = -1 := fun P hP => by rw [y6 P hP]; split <;> simp
      show ∃ Y2 f2, fX0_measure_13b N b (fX0_measure_13 N b m) (zI cnt) (zI (4 : Nat)) Y = some ((), Y2) ∧ agr [] [] [2, 14 + b] [] X Y2 ∧ isD (nxb g b) (glb g gx gy gt b) f2 ∧ ∀ P, P < 256 → Y2.2.2.1 (14 + b) P = zI (f2 P)
      unfold fX0_measure_13b
      rw [zl4, i_le (by omega) (by omega), if_pos (by omega)]
      refine x_me94 (gl := glb g gx gy gt b) hN hg hB hw hb h0 256 0 N f q cnt Y (by omega) (by omega) (by omega) ⟨y1, fun P hP => ⟨y2 P hP, by have := hv P hP; omega⟩, fun i hi => ?_, fun P hP h => y4 P hP (by have := hv P hP; omega), y5, fun P hP mm he => ?_, fun P hP h => by rw [y6' P hP, h]; rfl, fun i j hij hj => by rw [(y3 i (by omega)).2.2, (y3 j hj).2.2]; omega⟩ (fun i hi => by omega) (fun hh i hi => by rw [(y3 i hi).2.2, (y3 0 hh).2.2]; omega)
      · obtain ⟨a1, a2, a3⟩ := y3 i hi
        exact ⟨a1, a2, by omega, by omega⟩
      · have h2 := hv P hP
        have : mm = 0 := by omega
        subst this
        show glb g gx gy gt b P = true
        have h3 := y6' P hP
        cases hgl : glb g gx gy gt b P
        · rw [hgl, if_neg (by simp)] at h3; omega
        · rfl
    | succ d ih =>
      intro o m f q cnt Y hod hm hY
      obtain ⟨m, rfl⟩ : ∃ n', m = n' + 1 := ⟨m - 1, by omega⟩
      have hY0 := hY
      obtain ⟨y1, y2, y3, y4, y5, y6, y7⟩ := hY
      obtain ⟨P, hP⟩ : ∃ P : Nat, (P : Int) = 64 * o + (8 * gy b + gx b) := ⟨(64 * (o : Int) + (8 * gy b + gx b)).toNat, by omega⟩
      have hP2 : P < 256 := by omega
      have hPo : P / 64 = o := by omega
      have hBY : xB g Y := hB.ag y1 (by simp) (fun c hc => by simp; omega) (fun c hc => by simp; omega) (by simp)
      have hgl := fun R (hR : R / 64 = o) => gl_o (g := g) (gt := gt) (b := b) hgt.1 hP (by omega) (by omega) hR
      have skip : ¬ (plc g b P = true ∧ (gt b = 4 ∨ gt b = (o : Int))) → ∃ Y2 f2, fX0_measure_85 N b (fX0_measure_13 N b m) (zI cnt) (zI o) Y = some ((), Y2) ∧ agr [] [] [2, 14 + b] [] X Y2 ∧ isD (nxb g b) (glb g gx gy gt b) f2 ∧ ∀ P, P < 256 → Y2.2.2.1 (14 + b) P = zI (f2 P) := fun hs => by
        unfold fX0_measure_85
        rw [zl1, zA]
        refine ih (o + 1) m f q cnt Y (by omega) (by omega) ⟨y1, y2, y3, y4, y5, fun R hR => ?_, by omega⟩
        rw [y6 R hR]
        by_cases hRo : R / 64 = o
        · have : glb g gx gy gt b R = false := by
            cases h : glb g gx gy gt b R
            · rfl
            · exact absurd ((hgl R hRo).mp h).2 hs
          rw [this]; rfl
        · by_cases h1 : R / 64 < o
          · rw [decide_eq_true h1, decide_eq_true (p := R / 64 < o + 1) (by omega)]
          · rw [decide_eq_false h1, decide_eq_false (p := R / 64 < o + 1) (by omega)]
      have take : (gt b = 4 ∨ gt b = (o : Int)) → ∃ Y2 f2, fX0_measure_48 N b (fX0_measure_13 N b m) (zI cnt) (zI o) (zI P) Y = some ((), Y2) ∧ agr [] [] [2, 14 + b] [] X Y2 ∧ isD (nxb g b) (glb g gx gy gt b) f2 ∧ ∀ P, P < 256 → Y2.2.2.1 (14 + b) P = zI (f2 P) := fun hs => by
        unfold fX0_measure_48 fX0_measure_53
        rw [zl0, i_b, if_pos rfl, x_fits hBY hw hb h0 hP2, bd_ok, i_b]
        cases hpl : plc g b P
        · rw [if_neg (c := false = true) (by simp)]
          exact skip (fun z => by rw [hpl] at z; exact absurd z.1 (by simp))
        · rw [if_pos (c := true = true) rfl, ck_z (by omega) (by omega) (by omega), stp_ok, ck_z (by omega) (by omega) (by omega), stp_ok, z_cl (by omega) (by omega), z_cl (by omega) (by omega), show ((P : Int)).toNat = P by omega, show ((cnt : Int)).toNat = cnt by omega]
          unfold fX0_measure_85
          rw [zl1, zA, zA]
          have hfP : f P = -1 := by
            rw [y6 P hP2, decide_eq_false (p := P / 64 < o) (by omega), Bool.and_false, if_neg (by simp)]
          have hup := cnB_upd (f := fun P => decide (0 ≤ f P)) (h := fun R => decide (0 ≤ (if R = P then 0 else f R))) (i := P) (decide_eq_false (by omega)) (by rw [if_pos rfl]; rfl) (fun j hj => by rw [if_neg hj]) 256
          rw [if_pos hP2] at hup
          have hqi : ∀ i, i < cnt → q i ≠ P := fun i hi z => by
            have := (y3 i hi).2.2
            rw [z] at this
            omega
          refine ih (o + 1) m (fun R => if R = P then 0 else f R) (fun i => if i = cnt then P else q i) (cnt + 1) _ (by omega) (by omega) ⟨agr.sA (agr.sA y1 (k := 14 + b) (by simp) _ _) (k := 2) (by simp) _ _, fun R hR => ?_, fun i hi => ?_, fun R hR hR0 => ?_, by rw [hup, y5], fun R hR => ?_, by omega⟩
          · dsimp only
            rw [sA_ne _ _ _ (by omega)]
            by_cases h : R = P
            · subst h; rw [sA_same, if_pos rfl]
            · rw [sA_oth _ _ h, if_neg h]; exact y2 R hR
          · dsimp only
            by_cases h : i = cnt
            · subst h
              rw [sA_same, if_pos (c := i = i) rfl, if_pos rfl]
              exact ⟨rfl, hP2, rfl⟩
            · rw [sA_oth _ _ h, sA_ne _ _ _ (by omega), if_neg (c := i = cnt) h, if_neg (hqi i (by omega))]
              exact y3 i (by omega)
          · dsimp only at hR0
            by_cases h : R = P
            · exact ⟨cnt, by omega, by dsimp only; rw [if_pos rfl, h]⟩
            · rw [if_neg h] at hR0
              obtain ⟨i, a1, a2⟩ := y4 R hR hR0
              exact ⟨i, by omega, by dsimp only; rw [if_neg (by omega)]; exact a2⟩
          · dsimp only
            by_cases h : R = P
            · subst h
              rw [if_pos rfl, (hgl R hPo).mpr ⟨rfl, hpl, hs⟩, decide_eq_true (p := R / 64 < o + 1) (by omega)]
              rfl
            · rw [if_neg h, y6 R hR]
              by_cases hRo : R / 64 = o
              · have : glb g gx gy gt b R = false := by
                  cases h2 : glb g gx gy gt b R
                  · rfl
                  · exact absurd ((hgl R hRo).mp h2).1 h
                rw [this]; rfl
              · by_cases h1 : R / 64 < o
                · rw [decide_eq_true h1, decide_eq_true (p := R / 64 < o + 1) (by omega)]
                · rw [decide_eq_false h1, decide_eq_false (p := R / 64 < o + 1) (by omega)]
      show ∃ Y2 f2, fX0_measure_13b N b (fX0_measure_13 N b m) (zI cnt) (zI o) Y = some ((), Y2) ∧ agr [] [] [2, 14 + b] [] X Y2 ∧ isD (nxb g b) (glb g gx gy gt b) f2 ∧ ∀ P, P < 256 → Y2.2.2.1 (14 + b) P = zI (f2 P)
      unfold fX0_measure_13b
      rw [zl4, i_le (by omega) (by omega), if_neg (by omega), show (64 : Int32) = zI 64 from rfl, zM, y1.1 (15 + b) (by simp), hc, zA, ← hP, nm_ok, y1.1 (20 + b) (by simp), ho, i_eq (by omega) (by omega), i_eq (by omega) (by omega)]
      by_cases g4 : gt b = 4
      · rw [if_pos g4]
        exact take (Or.inl g4)
      · rw [if_neg g4]
        by_cases go : gt b = (o : Int)
        · rw [if_pos go]
          exact take (Or.inr go)
        · rw [if_neg go]
          unfold fX0_measure_53
          rw [zl0, i_b, if_neg (c := false = true) (by simp)]
          exact skip (fun z => by rcases z.2 with h | h; exact g4 h; exact go h)
  unfold fX0_measure
  rw [stp_ok]
  refine lp 4 0 N (fun _ => -1) (fun _ => 0) 0 _ (by omega) (by omega) ⟨agr.fA (agr.rf _) (k := 14 + b) (by simp) _, fun P hP => ?_, fun i hi => by omega, fun P hP h => by dsimp only at h; omega, cnB_0 256, fun P hP => ?_, by omega⟩
  · rw [fA_at]
    unfold fil
    rw [if_pos hP]
    rfl
  · rw [decide_eq_false (p := P / 64 < 0) (by omega), Bool.and_false]
    rfl
