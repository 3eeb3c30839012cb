/-! one block's push: the two sides ask the same -/
theorem closed_bit {g : Lv} {wt th p : Nat → Nat} {v j : Nat} {X : St} (hm : xMv g wt th p v j X) {b c : Nat} (hb : b < 5) (hc : c < 64) : bit (X.2.1 (6 + j) &&& (X.2.2.2 (9 + j) b ^^^ (-1))) c = ((iny g c && (decide (10 ≤ gK g c) && decide (ld g wt p (gK g c - 10) < th (gK g c - 10)))) && !(hasC g b (p b) c)) := by
  rw [bit_and, bit_not _ hc, hm.2.2.1 b hb c hc, hm.2.2.2.2 c hc]
theorem psb_bar {g : Lv} {wt th p : Nat → Nat} (hw : wfL g) (hok : okA g p) {b : Nat} (hb : b < 5) {x y : Int} {w : Int64} (hbar : ∀ c, c < 64 → bit w c = ((iny g c && (decide (10 ≤ gK g c) && decide (ld g wt p (gK g c - 10) < th (gK g c - 10)))) && !(hasC g b (p b) c))) : (fr g x y && !(bit w (8 * y + x).toNat)) = psb g wt th p b x y := by
  unfold fr psb
  by_cases h : inY g x y
  · obtain ⟨c, c1, c2, c3, c4, c5⟩ := celN hw h
    rw [decide_eq_true h, ← c5, hbar c c2, c3, c4]
    have ho : decide (ow g p c = (b : Int)) = hasC g b (p b) c := by
      cases hh : hasC g b (p b) c
      · exact decide_eq_false fun z => by rw [(ow_iff hok hb).mp z] at hh; cases hh
      · exact decide_eq_true ((ow_iff hok hb).mpr hh)
    rw [ho]
    generalize kd g x y = K
    simp only [Bool.true_and]
    cases (K == 1)
    · simp only [Bool.not_false, Bool.true_and]
      cases hasC g b (p b) c
      · by_cases h10 : K < 10
        · rw [decide_eq_true h10, decide_eq_false (p := 10 ≤ K) (by omega)]; simp
        · rw [decide_eq_false h10, decide_eq_true (p := 10 ≤ K) (by omega)]
          by_cases hl : th (K - 10) ≤ ld g wt p (K - 10)
          · rw [decide_eq_true hl, decide_eq_false (p := ld g wt p (K - 10) < th (K - 10)) (by omega)]; simp
          · rw [decide_eq_false hl, decide_eq_true (p := ld g wt p (K - 10) < th (K - 10)) (by omega)]; simp
      · simp
    · rfl
  · rw [decide_eq_false h]
    rfl
theorem okP_sld {g : Lv} {wt th p : Nat → Nat} {v j k : Nat} {X : St} (hw : wfL g) (hok : okA g p) (hm : xMv g wt th p v j X) {b : Nat} (hb : b < 5) : okP g b (p b) k (X.2.1 (6 + j) &&& (X.2.2.2 (9 + j) b ^^^ (-1))) = sld g wt th p b k := by
  unfold okP sld
  apply allB_cong
  intro i hi
  unfold sl1
  rw [← psb_bar hw hok hb (fun c hc => closed_bit hm hb hc), Bool.and_assoc]
theorem hit_iff {g : Lv} {wt th p : Nat → Nat} {v j k : Nat} {X : St} (hw : wfL g) (hok : okA g p) (hB : xB g X) (hm : xMv g wt th p v j X) {q o n : Nat} (hq : q < 5) (hn0 : 0 < gN g q) (ho : o < 5) (hn : n < 256) (hpl : plc g q n = true) (he : ∀ i, cx g q i n = cx g q i (p q) + dX k ∧ cy g q i n = cy g q i (p q) + dY k) : ((X.2.2.2 (9 + j) o) &&& (X.2.2.2 (4 + q) n) = 0) ↔ hit g p k q o = false := by
  rw [bit_zero]
  unfold hit
  rw [anyB_f]
  constructor
  · intro h i hi
    have hin := (plc_in hpl hi).1
    obtain ⟨c, c1, c2, c3, c4, c5⟩ := celN hw hin
    have h1 := h c c2
    rw [bit_and, hm.2.2.1 o ho c c2, (hB q hq).2.2 hn0 n hn c c2, hpl, hasC_cell hi c1] at h1
    simp only [Bool.and_true, Bool.true_and] at h1
    unfold hit1
    rw [← (he i).1, ← (he i).2, decide_eq_true hin, Bool.true_and, ← c5]
    exact decide_eq_false fun z => by rw [(ow_iff hok ho).mp z] at h1; cases h1
  · intro h c hc
    rw [bit_and, hm.2.2.1 o ho c hc, (hB q hq).2.2 hn0 n hn c hc, hpl, Bool.true_and]
    cases hh : hasC g q n c
    · rw [Bool.and_false]
    · obtain ⟨i, hi, hci⟩ := hasC_in hh
      have hin := (plc_in hpl hi).1
      obtain ⟨c', c1, c2, c3, c4, c5⟩ := celN hw hin
      have : c = c' := by omega
      subst this
      have h1 := h i hi
      unfold hit1 at h1
      rw [← (he i).1, ← (he i).2, decide_eq_true hin, Bool.true_and, ← c5] at h1
      have h2 := of_decide_eq_false h1
      cases ho2 : hasC g o (p o) c
      · rfl
      · exact absurd ((ow_iff hok ho).mpr ho2) h2
theorem cnt5_add : ∀ s, s < 32 → ∀ o, o < 5 → s.testBit o = false → cnt5 (s ||| 2 ^ o) = cnt5 s + 1 := by decide +kernel
theorem wsN_add {wt : Nat → Nat} {s q : Nat} (h : s.testBit q = false) : ∀ n, wsN wt (s ||| 2 ^ q) n = wsN wt s n + (if q < n then wt q else 0) := by
  intro n
  induction n with
  | zero => simp [wsN]
  | succ n ih =>
    unfold wsN
    rw [ih, Nat.testBit_or, tb_pow]
    by_cases hqn : q = n
    · subst hqn
      rw [h, if_neg (c := q < q) (by omega), if_pos (c := q < q + 1) (by omega)]
      simp
    · rw [decide_eq_false hqn, Bool.or_false]
      by_cases h2 : q < n
      · rw [if_pos h2, if_pos (c := q < n + 1) (by omega)]
        omega
      · rw [if_neg h2, if_neg (c := q < n + 1) (by omega)]
        omega
theorem wsN_mono {wt : Nat → Nat} {s t : Nat} (h : ∀ o, o < 5 → s.testBit o = true → t.testBit o = true) : ∀ n, n ≤ 5 → wsN wt s n ≤ wsN wt t n := by
  intro n
  induction n with
  | zero => intro _; simp [wsN]
  | succ n ih =>
    intro hn
    unfold wsN
    have h1 := ih (by omega)
    have h2 := h n (by omega)
    cases hs : s.testBit n
    · rw [if_neg (by simp)]
      split <;> omega
    · rw [if_pos rfl, h2 hs, if_pos rfl]
      omega
/-- a set that is closed holds what comes out of its parts -/
theorem clo_sub {g : Lv} {p : Nat → Nat} {k s : Nat} (hcl : ∀ q, q < 5 → s.testBit q = true → ∀ o, o < 5 → hit g p k q o = true → s.testBit o = true) : ∀ n t, (∀ o, o < 5 → t.testBit o = true → s.testBit o = true) → ∀ o, o < 5 → (clo g p k n t).testBit o = true → s.testBit o = true := by
  intro n
  induction n with
  | zero => intro t ht; exact ht
  | succ n ih =>
    intro t ht
    unfold clo
    by_cases h : stS g p k t = t
    · rw [if_pos h]; exact ht
    · rw [if_neg h]
      refine ih _ (fun o ho hb => ?_)
      rw [stS_bit g p k t ho, Bool.or_eq_true] at hb
      rcases hb with hb | hb
      · exact ht o ho hb
      · obtain ⟨q, hq, h2⟩ := anyB_iff.mp hb
        rw [Bool.and_eq_true] at h2
        exact hcl q hq (ht q hq h2.1) o ho h2.2
theorem clo_in {g : Lv} {p : Nat → Nat} {k : Nat} : ∀ n t o, o < 5 → t.testBit o = true → (clo g p k n t).testBit o = true := by
  intro n
  induction n with
  | zero => intro t o _ h; exact h
  | succ n ih =>
    intro t o ho h
    unfold clo
    by_cases h2 : stS g p k t = t
    · rw [if_pos h2]; exact h
    · rw [if_neg h2]
      exact ih _ o ho (by rw [stS_bit g p k t ho, h]; rfl)
theorem pset_b {g : Lv} {p : Nat → Nat} {b k : Nat} (hb : b < 5) : (pset g p b k).testBit b = true := clo_in 5 _ b hb (by rw [tb_pow, decide_eq_true rfl])
theorem pset_cl {g : Lv} {p : Nat → Nat} {b k : Nat} (hb : b < 5) {q o : Nat} (hq : q < 5) (ho : o < 5) (h : (pset g p b k).testBit q = true) (hh : hit g p k q o = true) : (pset g p b k).testBit o = true := by
  have hf := (clo_fix (g := g) (p := p) (k := k) 5 (2 ^ b) (pow5 b hb) (by omega)).1
  show (clo g p k 5 (2 ^ b)).testBit o = true
  rw [← hf, stS_bit _ _ _ _ ho, Bool.or_eq_true]
  exact Or.inr (anyB_iff.mpr ⟨q, hq, by rw [Bool.and_eq_true]; exact ⟨h, hh⟩⟩)
theorem pset_lt {g : Lv} {p : Nat → Nat} {b k : Nat} (hb : b < 5) : pset g p b k < 32 := (clo_fix 5 (2 ^ b) (pow5 b hb) (by omega)).2
theorem hit_ex {g : Lv} {p : Nat → Nat} (hok : okA g p) {k q o : Nat} (ho : o < 5) (h : hit g p k q o = true) : 0 < gN g o := by
  obtain ⟨i, hi, h1⟩ := anyB_iff.mp h
  unfold hit1 at h1
  rw [Bool.and_eq_true] at h1
  have := (ow_iff hok ho).mp (of_decide_eq_true h1.2)
  obtain ⟨i2, hi2, -⟩ := anyB_iff.mp this
  omega
/-- what holds of a push that is under way -/
def pI (g : Lv) (wt th p : Nat → Nat) (v j b k : Nat) (X Y : St) (s cnt : Nat) (pu : Nat → Nat) : Prop := s < 32 ∧ cnt5 s = cnt ∧ (agm j X Y ∧ xMv g wt th p v j Y) ∧ (∀ i, i < cnt → Y.2.2.1 (24 + j) i = zI (pu i) ∧ pu i < 5 ∧ 0 < gN g (pu i) ∧ s.testBit (pu i) = true) ∧ (∀ o, o < 5 → s.testBit o = true → ∃ i, i < cnt ∧ pu i = o) ∧ (∀ i, i < cnt → ∀ i2, i2 < cnt → pu i = pu i2 → i = i2) ∧ (∀ o, o < 5 → s.testBit o = true → (pset g p b k).testBit o = true) ∧ s.testBit b = true
theorem xMv.s24 {g : Lv} {wt th p : Nat → Nat} {v j : Nat} {Y : St} (hj : j < 2) (h : xMv g wt th p v j Y) (i : Nat) (z : Int32) : xMv g wt th p v j (sA Y (24 + j) i z) := ⟨h.1, fun b hb => by rw [sA_ne _ _ _ (by omega)]; exact h.2.1 b hb, h.2.2.1, h.2.2.2.1, h.2.2.2.2⟩
theorem xMv.s8 {g : Lv} {wt th p : Nat → Nat} {v j : Nat} {Y : St} (hj : j < 2) (h : xMv g wt th p v j Y) (z : Int64) : xMv g wt th p v j (sJ Y (8 + j) z) := ⟨by rw [sJ_ne _ _ (by omega)]; exact h.1, h.2.1, h.2.2.1, fun c hc => by rw [sJ_ne _ _ (by omega)]; exact h.2.2.2.1 c hc, fun c hc => by rw [sJ_ne _ _ (by omega)]; exact h.2.2.2.2 c hc⟩
theorem x_push145 {N : Nat} {g : Lv} {X : St} {wt th p : Nat → Nat} {j v b k : Nat} (hj : j < 2) (hB : xB g X) (hw : wfL g) (hok : okA g p) (hb : b < 5) {q nq : Nat} (hq : q < 5) (hq0 : 0 < gN g q) (hnq : nq < 256) (hpl : plc g q nq = true) (he : ∀ i, cx g q i nq = cx g q i (p q) + dX k ∧ cy g q i nq = cy g q i (p q) + dY k) (K : Int32 → Int32 → Int32 → Int32 → Int64 → Int32 → St → Option (Int32 × St)) (x5 : Int32) (x6 : Int64) (at0 : Nat) (hat : at0 < 100) (hqF : (pset g p b k).testBit q = true) :
    ∀ (d o n s cnt : Nat) (pu : Nat → Nat) (Y : St), o + d = 5 → d < n → pI g wt th p v j b k X Y s cnt pu → (∀ o2, o2 < o → hit g p k q o2 = true → s.testBit o2 = true) →
      ∃ s2 cnt2 pu2 Y2, fX4_push_145 N j K n (zI k) (zI s) (zI cnt) x5 x6 (zI at0) q (zI nq) (zI o) Y = K (zI k) (zI (s2 : Nat)) (zI (cnt2 : Nat)) x5 x6 (zI (at0 + 1 : Nat)) Y2 ∧ pI g wt th p v j b k X Y2 s2 cnt2 pu2 ∧ (∀ o2, o2 < 5 → hit g p k q o2 = true → s2.testBit o2 = true) ∧ cnt ≤ cnt2 ∧ (∀ i, i < cnt → pu2 i = pu i) ∧ (∀ o2, o2 < 5 → s.testBit o2 = true → s2.testBit o2 = true) := by
  intro d
  induction d with
  | zero =>
    intro o n s cnt pu Y ho hn hI hh
    obtain ⟨n, rfl⟩ : ∃ n', n = n' + 1 := ⟨n - 1, by omega⟩
    refine ⟨s, cnt, pu, Y, ?_, hI, fun o2 h2 => hh o2 (by omega), Nat.le_refl _, fun _ _ => rfl, fun _ _ h => h⟩
    show fX4_push_145b N j K (fX4_push_145 N j K n) (zI k) (zI s) (zI cnt) x5 x6 (zI at0) q (zI nq) (zI o) Y = _
    unfold fX4_push_145b
    rw [zl5, i_le (by omega) (by omega), if_pos (by omega), zl1, zA]
    rfl
  | succ d ih =>
    intro o n s cnt pu Y ho hn hI hh
    obtain ⟨n, rfl⟩ : ∃ n', n = n' + 1 := ⟨n - 1, by omega⟩
    have ho5 : o < 5 := by omega
    obtain ⟨i1, i2, ⟨i3, i3'⟩, i4, i5, i6, i7, i8⟩ := hI
    have hc5 := cnt5_le s
    have hYB := i3.xB hj hB
    have hz := hit_iff (o := o) hw hok hYB i3' hq hq0 ho5 hnq hpl he
    have skip : (hit g p k q o = true → s.testBit o = true) → ∃ s2 cnt2 pu2 Y2, fX4_push_218 N j K (fX4_push_145 N j K n) (zI k) (zI s) (zI cnt) x5 x6 (zI at0) q (zI nq) (zI o) Y = K (zI k) (zI (s2 : Nat)) (zI (cnt2 : Nat)) x5 x6 (zI (at0 + 1 : Nat)) Y2 ∧ pI g wt th p v j b k X Y2 s2 cnt2 pu2 ∧ (∀ o2, o2 < 5 → hit g p k q o2 = true → s2.testBit o2 = true) ∧ cnt ≤ cnt2 ∧ (∀ i, i < cnt → pu2 i = pu i) ∧ (∀ o2, o2 < 5 → s.testBit o2 = true → s2.testBit o2 = true) := by
      intro hskip
      unfold fX4_push_218
      rw [zl1, zA]
      exact ih (o + 1) n s cnt pu Y (by omega) (by omega) ⟨i1, i2, ⟨i3, i3'⟩, i4, i5, i6, i7, i8⟩ (fun o2 h2 h3 => by
        by_cases h4 : o2 = o
        · rw [h4] at h3 ⊢; exact hskip h3
        · exact hh o2 (by omega) h3)
    show ∃ s2 cnt2 pu2 Y2, fX4_push_145b N j K (fX4_push_145 N j K n) (zI k) (zI s) (zI cnt) x5 x6 (zI at0) q (zI nq) (zI o) Y = K (zI k) (zI (s2 : Nat)) (zI (cnt2 : Nat)) x5 x6 (zI (at0 + 1 : Nat)) Y2 ∧ pI g wt th p v j b k X Y2 s2 cnt2 pu2 ∧ (∀ o2, o2 < 5 → hit g p k q o2 = true → s2.testBit o2 = true) ∧ cnt ≤ cnt2 ∧ (∀ i, i < cnt → pu2 i = pu i) ∧ (∀ o2, o2 < 5 → s.testBit o2 = true → s2.testBit o2 = true)
    unfold fX4_push_145b fX4_push_165
    rw [zl5, i_le (by omega) (by omega), if_neg (by omega), zl31, zl1, zl0, i_bit0 (by omega) (by omega)]
    by_cases hbit : s.testBit o = true
    · rw [if_pos hbit, i_b, if_neg (by simp)]
      exact skip (fun _ => hbit)
    · rw [if_neg hbit, i_b, if_pos rfl]
      rw [Bool.not_eq_true] at hbit
      have hlt : cnt5 s < 5 := by
        have h1 := cnt5_add s i1 o ho5 hbit
        have h2 := cnt5_le (s ||| 2 ^ o)
        omega
      rw [i_le (by omega) (by omega), if_neg (by omega), ck_z (by omega) (by omega) (by omega), ck_z (by omega) (by omega) (by omega), z_cl (by omega) (by omega), z_cl (by omega) (by omega), show ((o : Int)).toNat = o by omega, show ((nq : Int)).toNat = nq by omega, i_l0z]
      cases hht : hit g p k q o
      · rw [if_pos (hz.mpr hht)]
        exact skip (fun h => by rw [hht] at h; cases h)
      · rw [if_neg (fun z => by rw [hz.mp z] at hht; cases hht), z_one (by omega), z_or, nm_ok, ck_z (by omega) (by omega) (by omega), stp_ok, z_cl (by omega) (by omega), show ((cnt : Int)).toNat = cnt by omega, zA]
        have hso : (s ||| 2 ^ o).testBit o = true := by rw [Nat.testBit_or, tb_pow, decide_eq_true rfl, Bool.or_true]
        have hmono : ∀ o2, s.testBit o2 = true → (s ||| 2 ^ o).testBit o2 = true := fun o2 h => by rw [Nat.testBit_or, h]; rfl
        unfold fX4_push_218
        rw [zl1, zA]
        obtain ⟨s2, cnt2, pu2, Y2, e1, r1, r2, r3, r4, r5⟩ := ih (o + 1) n (s ||| 2 ^ o) (cnt + 1) (fun i => if i = cnt then o else pu i) (sA Y (24 + j) cnt (zI o)) (by omega) (by omega) ⟨or_lt (n := 5) i1 (pow5 o ho5), by rw [cnt5_add s i1 o ho5 hbit]; omega, ⟨agr.sA i3 (k := 24 + j) (by simp) _ _, i3'.s24 hj _ _⟩, fun i hi => by
            by_cases hic : i = cnt
            · subst hic
              dsimp only
              rw [sA_same, if_pos rfl]
              exact ⟨rfl, ho5, hit_ex hok ho5 hht, hso⟩
            · dsimp only
              rw [sA_oth _ _ hic, if_neg hic]
              obtain ⟨a1, a2, a3, a4⟩ := i4 i (by omega)
              exact ⟨a1, a2, a3, hmono _ a4⟩, fun o2 ho2 h2 => by
            rw [Nat.testBit_or, tb_pow, Bool.or_eq_true] at h2
            rcases h2 with h2 | h2
            · obtain ⟨i, a1, a2⟩ := i5 o2 ho2 h2
              exact ⟨i, by omega, by dsimp only; rw [if_neg (by omega)]; exact a2⟩
            · exact ⟨cnt, by omega, by dsimp only; rw [if_pos rfl]; exact of_decide_eq_true h2⟩, fun i hi i2x hi2 hii => by
            dsimp only at hii
            by_cases h1 : i = cnt
            · by_cases h2 : i2x = cnt
              · omega
              · rw [if_pos h1, if_neg h2] at hii
                have := (i4 i2x (by omega)).2.2.2
                rw [← hii, hbit] at this
                cases this
            · by_cases h2 : i2x = cnt
              · rw [if_neg h1, if_pos h2] at hii
                have := (i4 i (by omega)).2.2.2
                rw [hii, hbit] at this
                cases this
              · rw [if_neg h1, if_neg h2] at hii
                exact i6 i (by omega) i2x (by omega) hii, fun o2 ho2 h2 => by
            rw [Nat.testBit_or, tb_pow, Bool.or_eq_true] at h2
            rcases h2 with h2 | h2
            · exact i7 o2 ho2 h2
            · rw [← of_decide_eq_true h2]
              exact pset_cl hb hq ho5 hqF hht, hmono _ i8⟩ (fun o2 h2 h3 => by
            by_cases h4 : o2 = o
            · rw [h4]; exact hso
            · exact hmono _ (hh o2 (by omega) h3))
        exact ⟨s2, cnt2, pu2, Y2, e1, r1, r2, by omega, fun i hi => by rw [r4 i (by omega), if_neg (by omega)], fun o2 ho2 h => r5 o2 ho2 (hmono _ h)⟩
