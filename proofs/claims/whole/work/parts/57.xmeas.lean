/-! the class measures: goals first, then step by step -/
theorem cnB_cong {f h : Nat → Bool} : ∀ n, (∀ i, i < n → f i = h i) → cnB n f = cnB n h := by
  intro n
  induction n with
  | zero => intro _; rfl
  | succ n ih => intro e; unfold cnB; rw [ih (fun i hi => e i (by omega)), e n (by omega)]
theorem cnB_upd {f h : Nat → Bool} {i : Nat} (hi0 : f i = false) (hi1 : h i = true) (e : ∀ j, j ≠ i → h j = f j) : ∀ n, cnB n h = cnB n f + (if i < n then 1 else 0) := by
  intro n
  induction n with
  | zero => rw [if_neg (by omega)]; rfl
  | succ n ih =>
    unfold cnB
    rw [ih]
    by_cases hin : n = i
    · subst hin
      rw [hi0, hi1, if_neg (c := n < n) (by omega), if_pos (c := n < n + 1) (by omega)]
      simp
    · rw [e n hin]
      by_cases h2 : i < n
      · rw [if_pos h2, if_pos (c := i < n + 1) (by omega)]; omega
      · rw [if_neg h2, if_neg (c := i < n + 1) (by omega)]; omega
def bq (nx : Nat → Nat → Int) (gl : Nat → Bool) (X : St) (b : Nat) (f : Nat → Int) (q : Nat → Nat) (cnt : Nat) (Y : St) : Prop := agr [] [] [2, 14 + b] [] X Y ∧ (∀ P, P < 256 → Y.2.2.1 (14 + b) P = zI (f P) ∧ -1 ≤ f P) ∧ (∀ i, i < cnt → Y.2.2.1 2 i = zI (q i) ∧ q i < 256 ∧ 0 ≤ f (q i) ∧ f (q i) ≤ i) ∧ (∀ P, P < 256 → 0 ≤ f P → ∃ i, i < cnt ∧ q i = P) ∧ cnB 256 (fun P => decide (0 ≤ f P)) = cnt ∧ (∀ P, P < 256 → ∀ m : Nat, f P = m → rch nx gl m P = true) ∧ (∀ P, P < 256 → gl P = true → f P = 0) ∧ (∀ i j, i ≤ j → j < cnt → f (q i) ≤ f (q j))
/-- the blocks before this one in the queue have had all their steps back -/
def bc (nx : Nat → Nat → Int) (f : Nat → Int) (q : Nat → Nat) (i : Nat) (K : Nat) : Prop := ∀ P, P < 256 → ∀ k, k < K → nx P k = (q i : Int) → 0 ≤ f P ∧ f P ≤ f (q i) + 1
theorem x_me111 {N : Nat} {g : Lv} {X : St} {gl : Nat → Bool} (hN : 300 ≤ N) (hg : xY g X) (hB : xB g X) (hw : wfL g) {b : Nat} (hb : b < 5) (h0 : 0 < gN g b) (K : Int32 → Int32 → St → Option (Unit × St)) (at0 : Nat) :
    ∀ (d k m : Nat) (f : Nat → Int) (q : Nat → Nat) (cnt : Nat) (Y : St), k + d = 6 → d < m → bq (nxb g b) gl X b f q cnt Y → at0 < cnt → (∀ i, i < at0 → bc (nxb g b) f q i 6) → bc (nxb g b) f q at0 k → (∀ i, i < cnt → f (q i) ≤ f (q at0) + 1) →
      ∃ f2 q2 cnt2 Y2, fX0_measure_111 N b K m (zI cnt) (zI at0) (zI k) Y = K (zI (cnt2 : Nat)) (zI (at0 + 1 : Nat)) Y2 ∧ bq (nxb g b) gl X b f2 q2 cnt2 Y2 ∧ at0 < cnt2 ∧ (∀ i, i < at0 + 1 → bc (nxb g b) f2 q2 i 6) ∧ (∀ i, i < cnt2 → f2 (q2 i) ≤ f2 (q2 at0) + 1) := by
  intro d
  induction d with
  | zero =>
    intro k m f q cnt Y hk hm hY hat hc1 hc2 hb1
    obtain ⟨m, rfl⟩ : ∃ n', m = n' + 1 := ⟨m - 1, by omega⟩
    have : k = 6 := by omega
    subst this
    refine ⟨f, q, cnt, Y, ?_, hY, hat, fun i hi => ?_, hb1⟩
    · have hcl := cnB_le (fun P => decide (0 ≤ f P)) 256
      have := hY.2.2.2.2.1
      show fX0_measure_111b N b K (fX0_measure_111 N b K m) (zI cnt) (zI at0) (zI (6 : Nat)) Y = _
      unfold fX0_measure_111b
      rw [zl6, i_le (by omega) (by omega), if_pos (by omega), zl1, zA]
      rfl
    · by_cases h : i = at0
      · subst h; exact hc2
      · exact hc1 i (by omega)
  | succ d ih =>
    intro k m f q cnt Y hk hm hY hat hc1 hc2 hb1
    obtain ⟨m, rfl⟩ : ∃ n', m = n' + 1 := ⟨m - 1, by omega⟩
    obtain ⟨y1, y2, y3, y4, y5, y6, y7, y8⟩ := hY
    have hcl := cnB_le (fun P => decide (0 ≤ f P)) 256
    have hgY : xY g Y := hg.ag y1 (by simp) (by simp) (by simp) (by simp) (by simp; omega) (by simp) (by simp) (by simp)
    have hBY : xB g Y := hB.ag y1 (by simp) (fun c hc => by simp; omega) (fun c hc => by simp; omega) (by simp)
    obtain ⟨q1, q2, q3, q4⟩ := y3 at0 hat
    have go : ∀ (f2 : Nat → Int) (q2 : Nat → Nat) (cnt2 : Nat) (Y2 : St), bq (nxb g b) gl X b f2 q2 cnt2 Y2 → at0 < cnt2 → (∀ i, i < at0 → bc (nxb g b) f2 q2 i 6) → bc (nxb g b) f2 q2 at0 (k + 1) → (∀ i, i < cnt2 → f2 (q2 i) ≤ f2 (q2 at0) + 1) → ∃ f3 q3 cnt3 Y3, fX0_measure_172 N b K (fX0_measure_111 N b K m) (zI (cnt2 : Nat)) (zI at0) (zI k) Y2 = K (zI (cnt3 : Nat)) (zI (at0 + 1 : Nat)) Y3 ∧ bq (nxb g b) gl X b f3 q3 cnt3 Y3 ∧ at0 < cnt3 ∧ (∀ i, i < at0 + 1 → bc (nxb g b) f3 q3 i 6) ∧ (∀ i, i < cnt3 → f3 (q3 i) ≤ f3 (q3 at0) + 1) := fun f2 q2 cnt2 Y2 a1 a2 a3 a4 a5 => by
      unfold fX0_measure_172
      rw [zl1, zA]
      exact ih (k + 1) m f2 q2 cnt2 Y2 (by omega) (by omega) a1 a2 a3 a4 a5
    have hY : bq (nxb g b) gl X b f q cnt Y := ⟨y1, y2, y3, y4, y5, y6, y7, y8⟩
    have hbf := bf_bd hw (b := b) q2 (show k < 6 by omega)
    show ∃ f3 q3 cnt3 Y3, fX0_measure_111b N b K (fX0_measure_111 N b K m) (zI cnt) (zI at0) (zI k) Y = K (zI (cnt3 : Nat)) (zI (at0 + 1 : Nat)) Y3 ∧ bq (nxb g b) gl X b f3 q3 cnt3 Y3 ∧ at0 < cnt3 ∧ (∀ i, i < at0 + 1 → bc (nxb g b) f3 q3 i 6) ∧ (∀ i, i < cnt3 → f3 (q3 i) ≤ f3 (q3 at0) + 1)
    unfold fX0_measure_111b
    rw [zl6, i_le (by omega) (by omega), if_neg (by omega), ck_z (by omega) (by omega) (by omega), z_cl (by omega) (by omega), show ((at0 : Int)).toNat = at0 by omega, q1, x_before (by omega) hgY hBY hw hb h0 q2 (by omega), bd_ok, zl0, i_lt (by omega) (by omega)]
    by_cases hneg : bfI g b (q at0) k < 0
    · rw [if_pos hneg]
      refine go f q cnt Y hY hat hc1 (fun P hP k2 hk2 he => ?_) hb1
      by_cases hkk : k2 = k
      · subst hkk
        have := (bf_nx hw hb h0 hP q2 (by omega)).mpr he
        omega
      · exact hc2 P hP k2 (by omega) he
    · obtain ⟨P, hPe⟩ : ∃ P : Nat, bfI g b (q at0) k = (P : Int) := ⟨(bfI g b (q at0) k).toNat, by omega⟩
      have hP : P < 256 := by omega
      have hnP := (bf_nx hw hb h0 hP q2 (by omega)).mp hPe
      have huniq : ∀ P2, P2 < 256 → nxb g b P2 k = (q at0 : Int) → P2 = P := fun P2 hP2 he => by
        have := (bf_nx hw hb h0 hP2 q2 (by omega)).mpr he
        omega
      have hfP := (y2 P hP)
      have hfb : f P ≤ 300 := by
        by_cases h : 0 ≤ f P
        · obtain ⟨i, a1, a2⟩ := y4 P hP h
          have := (y3 i a1).2.2.2
          rw [a2] at this
          omega
        · omega
      rw [if_neg hneg, hPe, ck_z (by omega) (by omega) (by omega), z_cl (by omega) (by omega), show ((P : Int)).toNat = P by omega, hfP.1, i_le (by omega) (by omega)]
      by_cases hset : 0 ≤ f P
      · rw [if_pos hset]
        refine go f q cnt Y hY hat hc1 (fun P2 hP2 k2 hk2 he => ?_) hb1
        by_cases hkk : k2 = k
        · subst hkk
          rw [huniq P2 hP2 he]
          refine ⟨hset, ?_⟩
          obtain ⟨i, a1, a2⟩ := y4 P hP hset
          have := hb1 i a1
          rw [a2] at this
          exact this
        · exact hc2 P2 hP2 k2 (by omega) he
      · rw [if_neg hset, q1, ck_z (by omega) (by omega) (by omega), ck_z (by omega) (by omega) (by omega), ck_z (by omega) (by omega) (by omega), stp_ok, z_cl (by omega) (by omega), show ((q at0 : Int)).toNat = q at0 by omega, (y2 _ q2).1, zl1, zA]
        have hup := cnB_upd (f := fun P => decide (0 ≤ f P)) (h := fun R => decide (0 ≤ (if R = P then f (q at0) + 1 else f R))) (i := P) (decide_eq_false hset) (by rw [if_pos rfl]; exact decide_eq_true (by omega)) (fun j hj => by rw [if_neg hj]) 256
        rw [if_pos hP] at hup
        have hcl2 := cnB_le (fun R => decide (0 ≤ (if R = P then f (q at0) + 1 else f R))) 256
        rw [ck_z (by omega) (by omega) (by omega), stp_ok, z_cl (by omega) (by omega), show ((cnt : Int)).toNat = cnt by omega, zA]
        have hqi : ∀ i, i < cnt → q i ≠ P := fun i hi z => by
          have := (y3 i hi).2.2.1
          rw [z] at this
          exact hset this
        have hsame : ∀ i, i < cnt → (if (if i = cnt then P else q i) = P then f (q at0) + 1 else f (if i = cnt then P else q i)) = f (q i) := fun i hi => by rw [if_neg (c := i = cnt) (by omega), if_neg (hqi i hi)]
        have hlast : (if (if cnt = cnt then P else q cnt) = P then f (q at0) + 1 else f (if cnt = cnt then P else q cnt)) = f (q at0) + 1 := by rw [if_pos (c := cnt = cnt) rfl, if_pos rfl]
        refine go (fun R => if R = P then f (q at0) + 1 else f R) (fun i => if i = cnt then P else q i) (cnt + 1) _ ⟨agr.sA (agr.sA y1 (k := 14 + b) (by simp) _ _) (k := 2) (by simp) _ _, fun R hR => ?_, fun i hi => ?_, fun R hR hR0 => ?_, by rw [hup, y5], fun R hR m2 hm2 => ?_, fun R hR hgl => ?_, fun i j hij hj => ?_⟩ (by omega) (fun i hi R hR k2 hk2 he => ?_) (fun R hR k2 hk2 he => ?_) (fun i hi => ?_)
        · dsimp only
          rw [sA_ne _ _ _ (by omega)]
          by_cases h : R = P
          · subst h; rw [sA_same, if_pos rfl]; exact ⟨rfl, by omega⟩
          · rw [sA_oth _ _ h, if_neg h]; exact y2 R hR
        · dsimp only
          by_cases h : i = cnt
          · subst h
            rw [sA_same, hlast, if_pos (c := i = i) rfl]
            exact ⟨rfl, hP, by omega, by omega⟩
          · rw [sA_oth _ _ h, sA_ne _ _ _ (by omega), hsame i (by omega), if_neg (c := i = cnt) h]
            exact y3 i (by omega)
        · dsimp only at hR0
          by_cases h : R = P
          · exact ⟨cnt, by omega, by dsimp only; rw [if_pos rfl, h]⟩
          · rw [if_neg h] at hR0
            obtain ⟨i, a1, a2⟩ := y4 R hR hR0
            exact ⟨i, by omega, by dsimp only; rw [if_neg (by omega)]; exact a2⟩
        · dsimp only at hm2
          by_cases h : R = P
          · subst h
            rw [if_pos rfl] at hm2
            obtain ⟨m3, rfl⟩ : ∃ m3, m2 = m3 + 1 := ⟨m2 - 1, by omega⟩
            refine rch_step (k := k) (by omega) (by omega) ?_
            rw [hnP, show ((q at0 : Int)).toNat = q at0 by omega]
            exact y6 _ q2 m3 (by omega)
          · rw [if_neg h] at hm2
            exact y6 R hR m2 hm2
        · dsimp only
          by_cases h : R = P
          · subst h
            have := y7 R hR hgl
            omega
          · rw [if_neg h]; exact y7 R hR hgl
        · dsimp only
          by_cases h : j = cnt
          · subst h
            rw [hlast]
            by_cases h2 : i = j
            · subst h2; rw [hlast]; omega
            · rw [hsame i (by omega)]; exact hb1 i (by omega)
          · rw [hsame i (by omega), hsame j (by omega)]; exact y8 i j hij (by omega)
        · dsimp only at he ⊢
          rw [if_neg (c := i = cnt) (by omega)] at he
          obtain ⟨c1, c2⟩ := hc1 i hi R hR k2 hk2 he
          have h : R ≠ P := fun z => by rw [z] at c1; exact hset c1
          rw [hsame i (by omega), if_neg h]
          exact ⟨c1, c2⟩
        · dsimp only at he ⊢
          rw [if_neg (c := at0 = cnt) (by omega)] at he
          rw [hsame at0 hat]
          by_cases h : R = P
          · rw [if_pos h]; omega
          · rw [if_neg h]
            by_cases hkk : k2 = k
            · subst hkk
              exact absurd (huniq R hR he) h
            · exact hc2 R hR k2 (by omega) he
        · rw [hsame at0 hat]
          by_cases h : i = cnt
          · subst h; rw [hlast]; omega
          · rw [hsame i (by omega)]; exact hb1 i (by omega)
theorem bq_end {nx : Nat → Nat → Int} {gl : Nat → Bool} {X : St} {b : Nat} {f : Nat → Int} {q : Nat → Nat} {cnt : Nat} {Y : St} (hnx : ∀ P, P < 256 → ∀ k, k < 6 → nx P k < 256) (h : bq nx gl X b f q cnt Y) (hc : ∀ i, i < cnt → bc nx f q i 6) : isD nx gl f := by
  obtain ⟨y1, y2, y3, y4, y5, y6, y7, y8⟩ := h
  have key : ∀ m P, P < 256 → rch nx gl m P = true → 0 ≤ f P ∧ f P ≤ m := by
    intro m
    induction m with
    | zero => intro P hP hr; have := y7 P hP hr; omega
    | succ m ih =>
      intro P hP hr
      rcases rch_cases hr with h1 | ⟨k, hk, h1, h2⟩
      · have := ih P hP h1; omega
      · have hQ := hnx P hP k hk
        obtain ⟨a1, a2⟩ := ih _ (by omega) h2
        obtain ⟨i, b1, b2⟩ := y4 _ (by omega) a1
        have := hc i b1 P hP k hk (by omega)
        rw [b2] at this
        omega
  have hcl := cnB_le (fun P => decide (0 ≤ f P)) 256
  intro P hP
  by_cases hf : 0 ≤ f P
  · right
    obtain ⟨i, a1, a2⟩ := y4 P hP hf
    have h3 := (y3 i a1).2.2.2
    rw [a2] at h3
    refine ⟨(f P).toNat, by omega, by omega, y6 P hP _ (by omega), fun m hm => ?_⟩
    cases hr : rch nx gl m P
    · rfl
    · have := key m P hP hr; omega
  · left
    have := (y2 P hP).2
    refine ⟨by omega, fun n => ?_⟩
    cases hr : rch nx gl n P
    · rfl
    · have := key n P hP hr; omega
theorem x_me94 {N : Nat} {g : Lv} {X : St} {gl : Nat → Bool} (hN : 300 ≤ N) (hg : xY g X) (hB : xB g X) (hw : wfL g) {b : Nat} (hb : b < 5) (h0 : 0 < gN g b) :
    ∀ (d at0 m : Nat) (f : Nat → Int) (q : Nat → Nat) (cnt : Nat) (Y : St), at0 + d = 256 → d < m → at0 ≤ cnt → bq (nxb g b) gl X b f q cnt Y → (∀ i, i < at0 → bc (nxb g b) f q i 6) → (at0 < cnt → ∀ i, i < cnt → f (q i) ≤ f (q at0) + 1) → ∃ Y2 f2, fX0_measure_94 N b m (zI cnt) (zI at0) Y = some ((), Y2) ∧ agr [] [] [2, 14 + b] [] X Y2 ∧ isD (nxb g b) gl f2 ∧ ∀ P, P < 256 → Y2.2.2.1 (14 + b) P = zI (f2 P) := by
  have hnx := nxb_bd hw hb h0
  intro d
  induction d with
  | zero =>
    intro at0 m f q cnt Y had hm hac hY hc1 hb1
    obtain ⟨m, rfl⟩ : ∃ n', m = n' + 1 := ⟨m - 1, by omega⟩
    have hcl := cnB_le (fun P => decide (0 ≤ f P)) 256
    have h5 := hY.2.2.2.2.1
    refine ⟨Y, f, ?_, hY.1, bq_end (fun P hP k hk => (hnx P hP k hk).2) hY (fun i hi => hc1 i (by omega)), fun P hP => (hY.2.1 P hP).1⟩
    show fX0_measure_94b N b (fX0_measure_94 N b m) (zI cnt) (zI at0) Y = _
    unfold fX0_measure_94b fX0_measure_184
    rw [i_le (by omega) (by omega), if_pos (by omega)]
  | succ d ih =>
    intro at0 m f q cnt Y had hm hac hY hc1 hb1
    obtain ⟨m, rfl⟩ : ∃ n', m = n' + 1 := ⟨m - 1, by omega⟩
    have hcl := cnB_le (fun P => decide (0 ≤ f P)) 256
    have h5 := hY.2.2.2.2.1
    show ∃ Y2 f2, fX0_measure_94b N b (fX0_measure_94 N b m) (zI cnt) (zI at0) Y = some ((), Y2) ∧ agr [] [] [2, 14 + b] [] X Y2 ∧ isD (nxb g b) gl f2 ∧ ∀ P, P < 256 → Y2.2.2.1 (14 + b) P = zI (f2 P)
    unfold fX0_measure_94b fX0_measure_184
    by_cases h : cnt = at0
    · subst h
      refine ⟨Y, f, ?_, hY.1, bq_end (fun P hP k hk => (hnx P hP k hk).2) hY hc1, fun P hP => (hY.2.1 P hP).1⟩
      rw [i_le (by omega) (by omega), if_pos (by omega)]
    · rw [i_le (by omega) (by omega), if_neg (by omega), zl256, i_le (by omega) (by omega), if_neg (by omega)]
      obtain ⟨f2, q2, cnt2, Y2, e, r1, r2, r3, r4⟩ := x_me111 (N := N) hN hg hB hw hb h0 (fX0_measure_94 N b m) at0 6 0 N f q cnt Y (by omega) (by omega) hY (by omega) hc1 (fun P hP k hk => by omega) (hb1 (by omega))
      have e' : fX0_measure_111 N b (fX0_measure_94 N b m) N (zI cnt) (zI at0) 0 Y = _ := e
      rw [e']
      exact ih (at0 + 1) m f2 q2 cnt2 Y2 (by omega) (by omega) (by omega) r1 r3 (fun h3 i hi => by
        have a1 := r4 i hi
        have a2 := r1.2.2.2.2.2.2.2 at0 (at0 + 1) (by omega) h3
        omega)
