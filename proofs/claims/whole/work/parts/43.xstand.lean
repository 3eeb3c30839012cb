/-! what is read behind a write, row by row -/
theorem sA_same (S : St) (k i : Nat) (v : Int32) : (sA S k i v).2.2.1 k i = v := by rw [sA_d, fA_at, upd_s]
theorem sA_oth (S : St) {k i j : Nat} (v : Int32) (h : j ≠ i) : (sA S k i v).2.2.1 k j = S.2.2.1 k j := by rw [sA_d, fA_at, upd_n _ _ h]
theorem sA_ne (S : St) {k q : Nat} (i : Nat) (v : Int32) (h : q ≠ k) : (sA S k i v).2.2.1 q = S.2.2.1 q := if_neg h
theorem sL_same (S : St) (k i : Nat) (v : Int64) : (sL S k i v).2.2.2 k i = v := by rw [sL_d, fL_at, updL_s]
theorem sL_oth (S : St) {k i j : Nat} (v : Int64) (h : j ≠ i) : (sL S k i v).2.2.2 k j = S.2.2.2 k j := by rw [sL_d, fL_at, updL_n _ _ h]
theorem sL_ne (S : St) {k q : Nat} (i : Nat) (v : Int64) (h : q ≠ k) : (sL S k i v).2.2.2 q = S.2.2.2 q := if_neg h
theorem sJ_same (S : St) (k : Nat) (v : Int64) : (sJ S k v).2.1 k = v := if_pos rfl
theorem sJ_ne (S : St) {k q : Nat} (v : Int64) (h : q ≠ k) : (sJ S k v).2.1 q = S.2.1 q := if_neg h
theorem sI_same (S : St) (k : Nat) (v : Int32) : (sI S k v).1 k = v := if_pos rfl
theorem sI_ne (S : St) {k q : Nat} (v : Int32) (h : q ≠ k) : (sI S k v).1 q = S.1 q := if_neg h
/-! an arrangement that can be: owners -/
theorem owN_iff {g : Lv} {p : Nat → Nat} (hok : okA g p) {c : Nat} : ∀ n, n ≤ 5 → ∀ b, b < n → (owN g p c n = (b : Int) ↔ hasC g b (p b) c = true) := by
  intro n
  induction n with
  | zero => intro _ b hb; omega
  | succ n ih =>
    intro hn b hb
    unfold owN
    by_cases h : hasC g n (p n) c = true
    · rw [if_pos h]
      constructor
      · intro e
        have : b = n := by omega
        rw [this]; exact h
      · intro hb2
        have : n = b := by
          refine Classical.byContradiction fun q => hok.2 n (by omega) b (by omega) q c ⟨h, hb2⟩
        omega
    · rw [if_neg h]
      by_cases hbn : b = n
      · subst hbn
        have := owN_bd g p c b
        constructor
        · intro e; omega
        · intro e; exact absurd e h
      · exact ih (by omega) b (by omega)
theorem ow_iff {g : Lv} {p : Nat → Nat} (hok : okA g p) {c b : Nat} (hb : b < 5) : ow g p c = (b : Int) ↔ hasC g b (p b) c = true := owN_iff hok 5 (by omega) b hb
theorem owN_neg {g : Lv} {p : Nat → Nat} {c : Nat} : ∀ n, (owN g p c n < 0 ↔ anyB n (fun b => hasC g b (p b) c) = false) := by
  intro n
  induction n with
  | zero => simp [owN, anyB]
  | succ n ih =>
    unfold owN
    simp only [anyB]
    by_cases h : hasC g n (p n) c = true
    · rw [if_pos h, h]
      simp
    · rw [if_neg h, ih]
      rw [Bool.not_eq_true] at h
      rw [h, Bool.or_false]
/-! where the class's mover stands -/
def xMv (g : Lv) (wt th p : Nat → Nat) (v j : Nat) (X : St) : Prop := X.2.1 (2 + j) = lN v ∧ (∀ b, b < 5 → X.2.2.1 (22 + j) b = zI (p b)) ∧ (∀ b, b < 5 → ∀ c, c < 64 → bit (X.2.2.2 (9 + j) b) c = hasC g b (p b) c) ∧ (∀ c, c < 64 → bit (X.2.1 (4 + j)) c = anyB 5 fun b => hasC g b (p b) c) ∧ ∀ c, c < 64 → bit (X.2.1 (6 + j)) c = (iny g c && (decide (10 ≤ gK g c) && decide (ld g wt p (gK g c - 10) < th (gK g c - 10))))
def xW8 (g : Lv) (wt : Nat → Nat) (X : St) : Prop := ∀ b, b < 5 → 0 < gN g b → X.1 (10 + b) = zI (wt b)
def xTh (th : Nat → Nat) (X : St) : Prop := ∀ r, r < 4 → X.2.2.1 1 r = zI (th r)
/-- agreement but for a mover's own rows -/
def agm (j : Nat) (X X2 : St) : Prop := agr [] [2 + j, 4 + j, 6 + j, 8 + j] [22 + j, 24 + j] [9 + j] X X2
theorem agm.xY {g : Lv} {j : Nat} {X X2 : St} (a : agm j X X2) (hj : j < 2) (h : xY g X) : xY g X2 := h.ag a (by simp) (by simp) (by simp; omega) (by simp; omega) (by simp; omega) (by simp; omega) (by simp; omega) (by simp; omega)
theorem agm.xB {g : Lv} {j : Nat} {X X2 : St} (a : agm j X X2) (hj : j < 2) (h : xB g X) : xB g X2 := h.ag a (by simp) (fun b hb => by simp; omega) (fun b hb => by simp; omega) (fun b hb => by simp; omega)
theorem agm.xW8 {g : Lv} {wt : Nat → Nat} {j : Nat} {X X2 : St} (a : agm j X X2) (h : xW8 g wt X) : xW8 g wt X2 := fun b hb hn => by rw [a.1 _ (by simp)]; exact h b hb hn
theorem agm.xTh {th : Nat → Nat} {j : Nat} {X X2 : St} (a : agm j X X2) (hj : j < 2) (h : xTh th X) : xTh th X2 := fun r hr => by rw [a.2.2.1 1 (by simp; omega)]; exact h r hr
theorem x_has {N : Nat} {g : Lv} {X : St} (hB : xB g X) (hw : wfL g) {b : Int} (hb : -2147483648 ≤ b ∧ b < 2147483648) : fX2_has N (zI b) X = some (decide (0 ≤ b ∧ b < 5 ∧ 0 < gN g b.toNat), X) := by
  unfold fX2_has fX2_has_25 fX2_has_26
  rw [zl0, zl5, i_lt hb (by omega), i_le (by omega) hb]
  by_cases h1 : b < 0
  · rw [if_pos h1, decide_eq_false (by omega)]
  · rw [if_neg h1]
    by_cases h2 : 5 ≤ b
    · rw [if_pos h2, decide_eq_false (by omega)]
    · have hn := hw.2.2.1 b.toNat
      rw [if_neg h2, ck_z (by omega) (by omega) (by omega), z_cl (by omega) (by omega), (hB b.toNat (by omega)).1, i_le (by omega) (by omega)]
      by_cases h3 : gN g b.toNat = 0
      · rw [if_pos (by omega), decide_eq_false (by omega)]
      · rw [if_neg (by omega), decide_eq_true (by omega)]
theorem hasC_in {g : Lv} {b p c : Nat} (h : hasC g b p c = true) : ∃ i, i < gN g b ∧ (c : Int) = 8 * cy g b i p + cx g b i p := by
  obtain ⟨i, h1, h2⟩ := anyB_iff.mp h
  exact ⟨i, h1, (of_decide_eq_true h2).symm⟩
theorem x_loadOf {N : Nat} {g : Lv} {X : St} {wt p : Nat → Nat} {j : Nat} (hN : 100 ≤ N) (hg : xY g X) (hw : wfL g) (hok : okA g p) (hwt : xW8 g wt X) (hw9 : ∀ b, wt b ≤ 9) (hm : ∀ b, b < 5 → ∀ c, c < 64 → bit (X.2.2.2 (9 + j) b) c = hasC g b (p b) c) {r : Nat} (hr : r < 4) : fX4_loadOf N j (zI r) X = some (zI (ld g wt p r : Nat), X) := by
  have key : ∀ (d b n : Nat), b + d = 5 → d < n → fX4_loadOf_4 N j n (zI r) (zI (ldN g wt p r b : Nat)) (zI b) X = some (zI (ld g wt p r : Nat), X) := by
    intro d
    induction d with
    | zero =>
      intro b n hb hn
      obtain ⟨n, rfl⟩ : ∃ n', n = n' + 1 := ⟨n - 1, by omega⟩
      show fX4_loadOf_4b N j (fX4_loadOf_4 N j n) (zI r) (zI (ldN g wt p r b : Nat)) (zI b) X = _
      unfold fX4_loadOf_4b
      rw [zl5, i_le (by omega) (by omega), if_pos (by omega), show b = 5 by omega]
      rfl
    | succ d ih =>
      intro b n hb hn
      obtain ⟨n, rfl⟩ : ∃ n', n = n' + 1 := ⟨n - 1, by omega⟩
      have hb5 : b < 5 := by omega
      have hz : ((X.2.2.2 (9 + j) b) &&& (X.2.2.2 2 r) = 0) ↔ onP g b (p b) r = false := by
        rw [bit_zero]
        unfold onP
        rw [anyB_f]
        constructor
        · intro h i hi
          obtain ⟨c, c1, c2, c3, c4, c5⟩ := celN hw (plc_in (hok.1 b hb5).2.2 hi).1
          have := h c c2
          rw [bit_and, hm b hb5 c c2, hg.2.2.2.2.2.2.1 r hr c c2, hasC_cell hi c1, c3, c4] at this
          simpa using this
        · intro h c hc
          rw [bit_and, hm b hb5 c hc, hg.2.2.2.2.2.2.1 r hr c hc]
          cases hh : hasC g b (p b) c
          · rfl
          · obtain ⟨i, hi, hci⟩ := hasC_in hh
            obtain ⟨c', c1, c2, c3, c4, c5⟩ := celN hw (plc_in (hok.1 b hb5).2.2 hi).1
            have : c = c' := by omega
            subst this
            rw [c3, c4, h i hi]
            rfl
      have e : fX4_loadOf_4 N j (n + 1) (zI r) (zI (ldN g wt p r b : Nat)) (zI b) X = fX4_loadOf_4 N j n (zI r) (zI (ldN g wt p r (b + 1) : Nat)) (zI (b + 1 : Nat)) X := by
        show fX4_loadOf_4b N j (fX4_loadOf_4 N j n) (zI r) (zI (ldN g wt p r b : Nat)) (zI b) X = _
        unfold fX4_loadOf_4b fX4_loadOf_48
        rw [zl5, i_le (by omega) (by omega), if_neg (by omega), ck_z (by omega) (by omega) (by omega), ck_z (by omega) (by omega) (by omega), z_cl (by omega) (by omega), z_cl (by omega) (by omega), show ((b : Int)).toNat = b by omega, show ((r : Int)).toNat = r by omega, zl0, i_l0z, zl1, zA]
        show _ = fX4_loadOf_4 N j n (zI r) (zI ((ldN g wt p r b + (if onP g b (p b) r then wt b else 0) : Nat))) (zI (b + 1 : Nat)) X
        cases ho : onP g b (p b) r
        · rw [if_pos (hz.mpr ho), if_neg (by simp)]
          rfl
        · have hn0 : 0 < gN g b := by
            obtain ⟨i, hi, -⟩ := anyB_iff.mp ho
            omega
          rw [if_neg (fun q => by rw [hz.mp q] at ho; cases ho), ck_z (by omega) (by omega) (by omega), hwt b hb5 hn0, zA, nm_ok, if_pos rfl]
          rfl
      rw [e]
      exact ih (b + 1) n (by omega) (by omega)
  exact key 5 0 N (by omega) (by omega)
theorem x_stand {N : Nat} {g : Lv} {X : St} {wt th p : Nat → Nat} {j v : Nat} (hN : 100 ≤ N) (hj : j < 2) (hg : xY g X) (hB : xB g X) (hw : wfL g) (hok : okA g p) (hwt : xW8 g wt X) (hw9 : ∀ b, wt b ≤ 9) (hth : xTh th X) (hth45 : ∀ r, th r ≤ 45) (hv : enc p v) : ∃ X2, fX4_stand N j (lN v) X = some ((), X2) ∧ agm j X X2 ∧ xMv g wt th p v j X2 := by
  have l12 : ∀ (d b n : Nat) (Y : St), b + d = 5 → d < n → agm j X Y → Y.2.1 (2 + j) = lN v → (∀ q, q < b → Y.2.2.1 (22 + j) q = zI (p q)) → (∀ q, q < b → ∀ c, c < 64 → bit (Y.2.2.2 (9 + j) q) c = hasC g q (p q) c) → (∀ c, c < 64 → bit (Y.2.1 (4 + j)) c = anyB b fun q => hasC g q (p q) c) → ∃ Z, fX4_stand_12 N j n (zI b) Y = fX4_stand_99 N j N (zI (0 : Nat)) Z ∧ agm j X Z ∧ Z.2.1 (2 + j) = lN v ∧ (∀ q, q < 5 → Z.2.2.1 (22 + j) q = zI (p q)) ∧ (∀ q, q < 5 → ∀ c, c < 64 → bit (Z.2.2.2 (9 + j) q) c = hasC g q (p q) c) ∧ (∀ c, c < 64 → bit (Z.2.1 (4 + j)) c = anyB 5 fun q => hasC g q (p q) c) ∧ Z.2.1 (6 + j) = 0 := by
    intro d
    induction d with
    | zero =>
      intro b n Y hb hn ha h2 hp hm ho
      obtain ⟨n, rfl⟩ : ∃ n', n = n' + 1 := ⟨n - 1, by omega⟩
      have hb5 : b = 5 := by omega
      subst hb5
      refine ⟨sJ Y (6 + j) 0, ?_, ha.sJ (by simp) 0, ?_, hp, hm, fun c hc => ?_, sJ_same _ _ _⟩
      · show fX4_stand_12b N j (fX4_stand_12 N j n) (zI (5 : Nat)) Y = _
        unfold fX4_stand_12b
        rw [zl5, i_le (by omega) (by omega), if_pos (by omega), stp_ok]
        rfl
      · rw [sJ_ne _ _ (by omega)]; exact h2
      · rw [sJ_ne _ _ (by omega)]; exact ho c hc
    | succ d ih =>
      intro b n Y hb hn ha h2 hp hm ho
      obtain ⟨n, rfl⟩ : ∃ n', n = n' + 1 := ⟨n - 1, by omega⟩
      have hb5 : b < 5 := by omega
      obtain ⟨o1, o2, o3⟩ := hok.1 b hb5
      have hpb : upk v b = p b := hv.2 b hb5
      have hYB := ha.xB hj hB
      -- the mask that is written
      obtain ⟨mk1, hmk, hmb⟩ : ∃ mk1 : Int64, mk1 = (if 0 < gN g b then Y.2.2.2 (4 + b) (p b) else 0) ∧ ∀ c, c < 64 → bit mk1 c = hasC g b (p b) c := by
        refine ⟨_, rfl, fun c hc => ?_⟩
        by_cases hn0 : 0 < gN g b
        · rw [if_pos hn0, (hYB b hb5).2.2 hn0 (p b) o1 c hc, o3, Bool.true_and]
        · rw [if_neg hn0, bit_0]
          unfold hasC
          rw [show gN g b = 0 by omega]
          rfl
      obtain ⟨Z, hZ⟩ : ∃ Z, Z = sJ (sL (sA Y (22 + j) b (zI (p b))) (9 + j) b mk1) (4 + j) (Y.2.1 (4 + j) ||| mk1) := ⟨_, rfl⟩
      have e : fX4_stand_12 N j (n + 1) (zI b) Y = fX4_stand_12 N j n (zI (b + 1 : Nat)) Z := by
        show fX4_stand_12b N j (fX4_stand_12 N j n) (zI b) Y = _
        unfold fX4_stand_12b fX4_stand_70
        have hag : agm j X (sA Y (22 + j) b (zI (p b))) := agr.sA ha (k := 22 + j) (by simp) b _
        have hYA : xB g (sA Y (22 + j) b (zI (p b))) := hag.xB hj hB
        rw [zl5, i_le (by omega) (by omega), if_neg (by omega), h2, x_placementIn hv.1 hb5, bd_ok, ck_z (by omega) (by omega) (by omega), stp_ok, z_cl (by omega) (by omega), show ((b : Int)).toNat = b by omega, hpb, x_has hYA hw (by omega), bd_ok, zl0, i_d, sA_same, ck_z (by omega) (by omega) (by omega), ck_z (by omega) (by omega) (by omega), ck_z (by omega) (by omega) (by omega), z_cl (by omega) (by omega), show ((p b : Int)).toNat = p b by omega]
        simp only [stp_ok]
        rw [sL_same, sL_same, zl1, zA, ck_z (by omega) (by omega) (by omega), ck_z (by omega) (by omega) (by omega), hZ, hmk, show ((b : Int)).toNat = b by omega]
        by_cases hn0 : 0 < gN g b
        · rw [if_pos (by omega), if_pos hn0]
          rfl
        · rw [if_neg (by omega), if_neg hn0, ck_z (by omega) (by omega) (by omega), ck_z (by omega) (by omega) (by omega)]
          rfl
      rw [e]
      refine ih (b + 1) n Z (by omega) (by omega) ?_ ?_ (fun q hq => ?_) (fun q hq c hc => ?_) (fun c hc => ?_)
      · rw [hZ]
        exact ((ha.sA (by simp) b _).sL (by simp) b _).sJ (by simp) _
      · rw [hZ, sJ_ne _ _ (by omega)]
        exact h2
      · rw [hZ]
        show (sA Y (22 + j) b (zI (p b))).2.2.1 (22 + j) q = _
        by_cases h : q = b
        · rw [h, sA_same]
        · rw [sA_oth _ _ h]; exact hp q (by omega)
      · rw [hZ]
        show bit ((sL (sA Y (22 + j) b (zI (p b))) (9 + j) b mk1).2.2.2 (9 + j) q) c = _
        by_cases h : q = b
        · rw [h, sL_same]; exact hmb c hc
        · rw [sL_oth _ _ h]; exact hm q (by omega) c hc
      · rw [hZ, sJ_same, bit_or, ho c hc, hmb c hc]
        rfl
  have l99 : ∀ (d r n : Nat) (Y : St), r + d = 4 → d < n → agm j X Y → Y.2.1 (2 + j) = lN v → (∀ q, q < 5 → Y.2.2.1 (22 + j) q = zI (p q)) → (∀ q, q < 5 → ∀ c, c < 64 → bit (Y.2.2.2 (9 + j) q) c = hasC g q (p q) c) → (∀ c, c < 64 → bit (Y.2.1 (4 + j)) c = anyB 5 fun q => hasC g q (p q) c) → (∀ c, c < 64 → bit (Y.2.1 (6 + j)) c = (iny g c && (decide (10 ≤ gK g c ∧ gK g c < 10 + r) && decide (ld g wt p (gK g c - 10) < th (gK g c - 10))))) → ∃ Z, fX4_stand_99 N j n (zI r) Y = some ((), Z) ∧ agm j X Z ∧ xMv g wt th p v j Z := by
    intro d
    induction d with
    | zero =>
      intro r n Y hr hn ha h2 hp hm ho hc6
      obtain ⟨n, rfl⟩ : ∃ n', n = n' + 1 := ⟨n - 1, by omega⟩
      refine ⟨Y, ?_, ha, h2, hp, hm, ho, fun c hc => ?_⟩
      · show fX4_stand_99b N j (fX4_stand_99 N j n) (zI r) Y = _
        unfold fX4_stand_99b
        rw [zl4, i_le (by omega) (by omega), if_pos (by omega)]
      · rw [hc6 c hc]
        have := hw.2.1 c
        by_cases h : 10 ≤ gK g c
        · rw [decide_eq_true h, decide_eq_true (p := 10 ≤ gK g c ∧ gK g c < 10 + r) (by omega)]
        · rw [decide_eq_false h, decide_eq_false (p := 10 ≤ gK g c ∧ gK g c < 10 + r) (by omega)]
    | succ d ih =>
      intro r n Y hr hn ha h2 hp hm ho hc6
      obtain ⟨n, rfl⟩ : ∃ n', n = n' + 1 := ⟨n - 1, by omega⟩
      have hr4 : r < 4 := by omega
      have hgY := ha.xY hj hg
      have hgates := hgY.2.2.2.2.2.2.2 r hr4
      have bl := ldN_bd (g := g) (p := p) (r := r) hw9 5
      have bt := hth45 r
      have skip : (∀ c, c < 64 → iny g c = true → gK g c = 10 + r → ¬ ld g wt p r < th r) → ∃ Z, fX4_stand_159 N j (fX4_stand_99 N j n) (zI r) Y = some ((), Z) ∧ agm j X Z ∧ xMv g wt th p v j Z := by
        intro hno
        unfold fX4_stand_159
        rw [zl1, zA]
        refine ih (r + 1) n Y (by omega) (by omega) ha h2 hp hm ho (fun c hc => ?_)
        rw [hc6 c hc]
        cases hi : iny g c
        · rfl
        · simp only [Bool.true_and]
          by_cases h1 : gK g c = 10 + r
          · have := hno c hc hi h1
            rw [h1, show 10 + r - 10 = r by omega, decide_eq_false this, Bool.and_false, Bool.and_false]
          · by_cases h3 : 10 ≤ gK g c ∧ gK g c < 10 + r
            · rw [decide_eq_true h3, decide_eq_true (p := 10 ≤ gK g c ∧ gK g c < 10 + (r + 1)) (by omega)]
            · rw [decide_eq_false h3, decide_eq_false (p := 10 ≤ gK g c ∧ gK g c < 10 + (r + 1)) (by omega)]
      show ∃ Z, fX4_stand_99b N j (fX4_stand_99 N j n) (zI r) Y = some ((), Z) ∧ agm j X Z ∧ xMv g wt th p v j Z
      unfold fX4_stand_99b
      rw [zl4, i_le (by omega) (by omega), if_neg (by omega), ck_z (by omega) (by omega) (by omega), z_cl (by omega) (by omega), show ((r : Int)).toNat = r by omega, i_l0]
      by_cases hz : Y.2.2.2 3 r = 0
      · rw [if_pos hz]
        refine skip (fun c hc hi hk => ?_)
        have := bit_zero.mp hz c hc
        rw [hgates c hc, hi, hk] at this
        simp at this
      · rw [if_neg hz, x_loadOf hN hgY hw hok (ha.xW8 hwt) hw9 hm hr4, bd_ok, ck_z (by omega) (by omega) (by omega), ck_z (by omega) (by omega) (by omega), ha.xTh hj hth r hr4, i_le (by omega) (by unfold ld; omega)]
        by_cases hl : th r ≤ ld g wt p r
        · rw [if_pos (by omega)]
          exact skip (fun c hc hi hk => by omega)
        · rw [if_neg (by omega), stp_ok]
          unfold fX4_stand_159
          rw [zl1, zA]
          refine ih (r + 1) n _ (by omega) (by omega) (ha.sJ (by simp) _) ?_ hp hm (fun c hc => ?_) (fun c hc => ?_)
          · rw [sJ_ne _ _ (by omega)]; exact h2
          · rw [sJ_ne _ _ (by omega)]; exact ho c hc
          · rw [sJ_same, bit_or, hc6 c hc, hgates c hc]
            cases hi : iny g c
            · rfl
            · simp only [Bool.true_and]
              by_cases h1 : gK g c = 10 + r
              · rw [h1, show 10 + r - 10 = r by omega, decide_eq_true (p := ld g wt p r < th r) (by omega), decide_eq_true (p := 10 ≤ 10 + r ∧ 10 + r < 10 + (r + 1)) (by omega)]
                simp
              · rw [beq_false_of_ne h1, Bool.or_false]
                by_cases h3 : 10 ≤ gK g c ∧ gK g c < 10 + r
                · rw [decide_eq_true h3, decide_eq_true (p := 10 ≤ gK g c ∧ gK g c < 10 + (r + 1)) (by omega)]
                · rw [decide_eq_false h3, decide_eq_false (p := 10 ≤ gK g c ∧ gK g c < 10 + (r + 1)) (by omega)]
  obtain ⟨Z, e1, a1, z1, z2, z3, z4, z5⟩ := l12 5 0 N (sJ (sJ X (2 + j) (lN v)) (4 + j) 0) (by omega) (by omega) (((agr.rf X).sJ (by simp) _).sJ (by simp) _) (by rw [sJ_ne _ _ (by omega), sJ_same]) (fun q hq => by omega) (fun q hq => by omega) (fun c hc => by rw [sJ_same, bit_0]; rfl)
  obtain ⟨Z2, e2, a2, hx⟩ := l99 4 0 N Z (by omega) (by omega) a1 z1 z2 z3 z4 (fun c hc => by
    rw [z5, bit_0, decide_eq_false (p := 10 ≤ gK g c ∧ gK g c < 10 + 0) (by omega)]
    simp)
  refine ⟨Z2, ?_, a2, hx⟩
  rw [← e2, ← e1]
  rfl
