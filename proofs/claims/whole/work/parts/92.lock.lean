/-! the text of a level, read by both -/
theorem lock {N n : Nat} {c : Nat → Nat} {X M : St} (hN : 100 ≤ N) (tX : txX n c X) (tM : txM n c M) : ∀ (d t m1 m2 : Nat) (Y Z : St), t + d = n → d < m1 → d < m2 → (∀ τ, τ < t → okS (c τ) (sc c τ)) → QX (sc c t) X Y → QM (sc c t) M Z → (∃ (r : Int) (Y2 Z2 : St), fX3_fault_34 N m1 (zI t) Y = some (zI r, Y2) ∧ fX9_findFault_38 N m2 (zI (sX (sc c t) : Nat)) (zI (sY (sc c t) : Nat)) (zI t) Z = some (zI r, Z2) ∧ 0 ≤ r ∧ r ≤ 80 ∧ agXR X Y2 ∧ agMR M Z2) ∨ (full c n ∧ ∃ (Y2 Z2 : St), fX3_fault_34 N m1 (zI t) Y = fX3_fault_112 N true Y2 ∧ fX9_findFault_38 N m2 (zI (sX (sc c t) : Nat)) (zI (sY (sc c t) : Nat)) (zI t) Z = fX9_findFault_183 N N (zI (-1)) (zI 0) Z2 ∧ QX (sc c n) X Y2 ∧ QM (sc c n) M Z2 ∧ Z2.1 5 = zI (sY (sc c n) + 1 : Nat)) := by
  have hn80 := tX.1
  intro d
  induction d with
  | zero =>
    intro t m1 m2 Y Z h1 h2 h3 hok qX qM
    obtain ⟨m1, rfl⟩ : ∃ n', m1 = n' + 1 := ⟨m1 - 1, by omega⟩
    obtain ⟨m2, rfl⟩ : ∃ n', m2 = n' + 1 := ⟨m2 - 1, by omega⟩
    have : t = n := by omega
    subst this
    obtain ⟨i1, i2, i3⟩ := iv_all t hok
    have tY := tX.ag qX.1 (by decide) (by decide)
    have tZ := tM.ag qM.1 (by decide) (by decide)
    have hx : sX (sc c t) ≤ 8 ∧ (0 < sY (sc c t) → sX (sc c t) ≤ sW (sc c t) ∧ sW (sc c t) ≤ 8) := by
      by_cases hy : sY (sc c t) = 0
      · have := i1.2.1 hy; exact ⟨this.1, fun z => by omega⟩
      · have := i1.2.2 (by omega); exact ⟨by omega, fun _ => ⟨this.1, this.2.2.1⟩⟩
    have hy7 := i1.1
    have eX : fX3_fault_34 N (m1 + 1) (zI t) Y = if ((sY (sc c t) : Nat) : Int) + 1 < 3 then some (zI t, Y) else if sX (sc c t) = sW (sc c t) then fX3_fault_112 N true Y else some (zI t, Y) := by
      show fX3_fault_34b N (fX3_fault_34 N m1) (zI t) Y = _
      unfold fX3_fault_34b fX3_fault_111
      have e112 : fX3_fault_112 N false Y = some (zI t, Y) := by
        unfold fX3_fault_112 fX3_fault_131
        rw [if_pos (c := b2i false = 0) rfl, tY.2.1]
      rw [e112, tY.2.1, i_le (by omega) (by omega), if_pos (by omega), qX.2.2.1, qX.2.2.2.1, qX.2.1, zl1, zA, zl3, i_lt (by omega) (by omega)]
      by_cases hy : ((sY (sc c t) : Nat) : Int) + 1 < 3
      · rw [if_pos hy, if_pos hy]
      · rw [if_neg hy, if_neg hy, if_neg (c := sY (sc c t) = 0) (by omega)]
        have := hx.2 (by omega)
        rw [i_eq (by omega) (by omega)]
        by_cases he : sX (sc c t) = sW (sc c t)
        · rw [if_pos (by omega), if_pos he]
        · rw [if_neg (by omega), if_neg he]
    have eM : fX9_findFault_38 N (m2 + 1) (zI (sX (sc c t) : Nat)) (zI (sY (sc c t) : Nat)) (zI t) Z = if ((sY (sc c t) : Nat) : Int) + 1 < 3 then some (zI t, sI Z 5 (zI (sY (sc c t) + 1 : Nat))) else if sX (sc c t) = sW (sc c t) then fX9_findFault_183 N N (zI (-1)) (zI 0) (sI Z 5 (zI (sY (sc c t) + 1 : Nat))) else some (zI t, sI Z 5 (zI (sY (sc c t) + 1 : Nat))) := by
      show fX9_findFault_38b N (fX9_findFault_38 N m2) _ _ (zI t) Z = _
      unfold fX9_findFault_38b fX9_findFault_173
      rw [tZ.2.1, i_le (by omega) (by omega), if_pos (by omega), zl1, zA, stp_ok, show (2 : Int32) = zI 2 from rfl, i_lt (by omega) (by omega), show (sI Z 5 (zI (((sY (sc c t) : Nat) : Int) + 1))).1 4 = zI (sW (sc c t) : Nat) from qM.2.1, show (sI Z 5 (zI (((sY (sc c t) : Nat) : Int) + 1))).1 3 = zI (t : Nat) from tZ.2.1]
      by_cases hy : ((sY (sc c t) : Nat) : Int) + 1 < 3
      · rw [if_pos hy, if_pos (by omega)]
        rfl
      · have := hx.2 (by omega)
        rw [if_neg hy, if_neg (by omega), i_le (by omega) (by omega)]
        by_cases he : sX (sc c t) = sW (sc c t)
        · rw [if_pos (by omega), if_pos he]
          rfl
        · rw [if_neg (by omega), if_neg he]
          rfl
    rw [eX, eM]
    by_cases hy : ((sY (sc c t) : Nat) : Int) + 1 < 3
    · rw [if_pos hy, if_pos hy]
      exact Or.inl ⟨t, Y, _, rfl, rfl, by omega, by omega, qX.1, agr.sI qM.1 (by simp) _⟩
    · rw [if_neg hy, if_neg hy]
      by_cases he : sX (sc c t) = sW (sc c t)
      · rw [if_pos he, if_pos he]
        exact Or.inr ⟨⟨hok, by omega, he⟩, Y, _, rfl, rfl, qX, ⟨agr.sI qM.1 (by simp) _, qM.2.1, qM.2.2⟩, rfl⟩
      · rw [if_neg he, if_neg he]
        exact Or.inl ⟨t, Y, _, rfl, rfl, by omega, by omega, qX.1, agr.sI qM.1 (by simp) _⟩
  | succ d ih =>
    intro t m1 m2 Y Z h1 h2 h3 hok qX qM
    obtain ⟨m1, rfl⟩ : ∃ n', m1 = n' + 1 := ⟨m1 - 1, by omega⟩
    obtain ⟨m2, rfl⟩ : ∃ n', m2 = n' + 1 := ⟨m2 - 1, by omega⟩
    obtain ⟨i1, i2, i3⟩ := iv_all t hok
    have tY := tX.ag qX.1 (by decide) (by decide)
    have tZ := tM.ag qM.1 (by decide) (by decide)
    have hct := (tX.2.2 t (by omega)).2
    have hx : sX (sc c t) ≤ 8 ∧ (0 < sY (sc c t) → sX (sc c t) ≤ sW (sc c t) ∧ sW (sc c t) ≤ 8) := by
      by_cases hy : sY (sc c t) = 0
      · have := i1.2.1 hy; exact ⟨this.1, fun z => by omega⟩
      · have := i1.2.2 (by omega); exact ⟨by omega, fun _ => ⟨this.1, this.2.2.1⟩⟩
    have hy7 := i1.1
    have eX : fX3_fault_34 N (m1 + 1) (zI t) Y = if zI (c t : Nat) = 47 then (bd (fX3_endRow N Y) fun r10 S15 => fX3_fault_73 N (fX3_fault_34 N m1) r10 (zI t) S15) else (bd (fX3_addCell N (zI (c t : Nat)) (zI t) Y) fun r9 S14 => fX3_fault_73 N (fX3_fault_34 N m1) r9 (zI t) S14) := by
      show fX3_fault_34b N (fX3_fault_34 N m1) (zI t) Y = _
      unfold fX3_fault_34b
      rw [tY.2.1, i_le (by omega) (by omega), if_neg (by omega), x_at tY (by omega), bd_ok, if_pos (c := t < n) (by omega)]
    have eM : fX9_findFault_38 N (m2 + 1) (zI (sX (sc c t) : Nat)) (zI (sY (sc c t) : Nat)) (zI t) Z = if zI (c t : Nat) = 47 then (if sY (sc c t) = 0 then (if sX (sc c t) < 3 then fX9_findFault_87 N (fX9_findFault_38 N m2) false (zI (sX (sc c t) : Nat)) (zI (sY (sc c t) : Nat)) (zI t) Z else fX9_findFault_87 N (fX9_findFault_38 N m2) true (zI (sX (sc c t) : Nat)) (zI (sY (sc c t) : Nat)) (zI t) Z) else (if sX (sc c t) = sW (sc c t) then fX9_findFault_87 N (fX9_findFault_38 N m2) true (zI (sX (sc c t) : Nat)) (zI (sY (sc c t) : Nat)) (zI t) Z else fX9_findFault_87 N (fX9_findFault_38 N m2) false (zI (sX (sc c t) : Nat)) (zI (sY (sc c t) : Nat)) (zI t) Z)) else fX9_findFault_129 N (fX9_findFault_38 N m2) (zI ((if sY (sc c t) = 0 then 8 else sW (sc c t) : Nat))) (zI (sX (sc c t) : Nat)) (zI (sX (sc c t) : Nat)) (zI (sY (sc c t) : Nat)) (zI t) Z := by
      show fX9_findFault_38b N (fX9_findFault_38 N m2) _ _ (zI t) Z = _
      unfold fX9_findFault_38b
      rw [tZ.2.1, i_le (by omega) (by omega), if_neg (by omega), ck_z (by omega) (by omega) (by omega), z_cl (by omega) (by omega), show ((t : Int)).toNat = t by omega, (tZ.2.2 t (by omega)).1, zl0, zl3, qM.2.1, i_eq (a := ((sY (sc c t) : Nat) : Int)) (by omega) (by omega), i_lt (by omega) (by omega), i_eq (a := ((sY (sc c t) : Nat) : Int)) (by omega) (by omega)]
      by_cases hy : sY (sc c t) = 0
      · rw [if_pos (c := ((sY (sc c t) : Nat) : Int) = 0) (by omega), if_pos (c := ((sY (sc c t) : Nat) : Int) = 0) (by omega), if_pos hy, if_pos hy]
        by_cases h3 : sX (sc c t) < 3
        · rw [if_pos (c := ((sX (sc c t) : Nat) : Int) < 3) (by omega), if_pos h3]; rfl
        · rw [if_neg (c := ((sX (sc c t) : Nat) : Int) < 3) (by omega), if_neg h3]; rfl
      · have := hx.2 (by omega)
        rw [if_neg (c := ((sY (sc c t) : Nat) : Int) = 0) (by omega), if_neg (c := ((sY (sc c t) : Nat) : Int) = 0) (by omega), if_neg hy, if_neg hy, i_eq (a := ((sX (sc c t) : Nat) : Int)) (by omega) (by omega)]
        by_cases h3 : sX (sc c t) = sW (sc c t)
        · rw [if_pos (c := ((sX (sc c t) : Nat) : Int) = ((sW (sc c t) : Nat) : Int)) (by omega), if_pos h3]
        · rw [if_neg (c := ((sX (sc c t) : Nat) : Int) = ((sW (sc c t) : Nat) : Int)) (by omega), if_neg h3]
    rw [eX, eM, show (47 : Int32) = zI 47 from rfl, i_eq (by omega) (by omega), i_eq (by omega) (by omega)]
    by_cases hc : c t = 47
    · rw [if_pos (c := ((c t : Nat) : Int) = 47) (by omega), if_pos (c := ((c t : Nat) : Int) = 47) (by omega)]
      obtain ⟨e1, e2⟩ := x_endRow (N := N) i1 qX
      have e87 : (if sY (sc c t) = 0 then (if sX (sc c t) < 3 then fX9_findFault_87 N (fX9_findFault_38 N m2) false (zI (sX (sc c t) : Nat)) (zI (sY (sc c t) : Nat)) (zI t) Z else fX9_findFault_87 N (fX9_findFault_38 N m2) true (zI (sX (sc c t) : Nat)) (zI (sY (sc c t) : Nat)) (zI t) Z) else (if sX (sc c t) = sW (sc c t) then fX9_findFault_87 N (fX9_findFault_38 N m2) true (zI (sX (sc c t) : Nat)) (zI (sY (sc c t) : Nat)) (zI t) Z else fX9_findFault_87 N (fX9_findFault_38 N m2) false (zI (sX (sc c t) : Nat)) (zI (sY (sc c t) : Nat)) (zI t) Z)) = fX9_findFault_87 N (fX9_findFault_38 N m2) (decide ((sY (sc c t) = 0 → 3 ≤ sX (sc c t)) ∧ (0 < sY (sc c t) → sX (sc c t) = sW (sc c t)))) (zI (sX (sc c t) : Nat)) (zI (sY (sc c t) : Nat)) (zI t) Z := by
        by_cases hy : sY (sc c t) = 0
        · rw [if_pos hy]
          by_cases h3 : sX (sc c t) < 3
          · rw [if_pos h3, decide_eq_false (fun z => by have := z.1 hy; omega)]
          · rw [if_neg h3, decide_eq_true ⟨fun _ => by omega, fun z => by omega⟩]
        · rw [if_neg hy]
          by_cases h3 : sX (sc c t) = sW (sc c t)
          · rw [if_pos h3, decide_eq_true ⟨fun z => absurd z hy, fun _ => h3⟩]
          · rw [if_neg h3, decide_eq_false (fun z => h3 (z.2 (by omega)))]
      rw [e87]
      unfold fX9_findFault_87 fX9_findFault_100 fX9_findFault_147
      rw [zl0, i_d, zl7, i_eq (by omega) (by omega), zl1, zA, zA, stp_ok]
      by_cases ok : okR (sc c t)
      · obtain ⟨Y2, f1, f2⟩ := e1 ok
        unfold fX3_fault_73
        rw [f1, bd_ok, zl0, i_b, if_pos (c := true = true) rfl, if_pos ⟨ok.1, ok.2.1⟩, if_neg (c := ((sY (sc c t) : Nat) : Int) = 7) (by have := ok.2.2; omega), zl1, zA]
        have hS := sc_R hc
        have := ih (t + 1) m1 m2 Y2 (sI Z 4 (zI (sX (sc c t) : Nat))) (by omega) (by omega) (by omega) (fun τ hτ => by
          by_cases hτ2 : τ = t
          · rw [hτ2]; exact ⟨fun _ => ok, fun z => absurd hc z⟩
          · exact hok τ (by omega)) (by rw [hS]; exact f2) (by
          rw [hS]
          exact ⟨agr.sI qM.1 (by simp) _, rfl, qM.2.2⟩)
        rw [hS] at this
        exact this
      · unfold fX3_fault_73
        rw [e2 ok, bd_ok, zl0, i_b, if_neg (c := false = true) (by simp)]
        left
        by_cases hk : (sY (sc c t) = 0 → 3 ≤ sX (sc c t)) ∧ (0 < sY (sc c t) → sX (sc c t) = sW (sc c t))
        · rw [if_pos hk, if_pos (c := ((sY (sc c t) : Nat) : Int) = 7) (by
            have : ¬ sY (sc c t) < 7 := fun z => ok ⟨hk.1, hk.2, z⟩
            omega)]
          exact ⟨t, Y, Z, rfl, rfl, by omega, by omega, qX.1, qM.1⟩
        · rw [if_neg hk]
          exact ⟨t, Y, Z, rfl, rfl, by omega, by omega, qX.1, qM.1⟩
    · rw [if_neg (c := ((c t : Nat) : Int) = 47) (by omega), if_neg (c := ((c t : Nat) : Int) = 47) (by omega)]
      have hl : (if sY (sc c t) = 0 then 8 else sW (sc c t)) ≤ 8 ∧ sX (sc c t) ≤ (if sY (sc c t) = 0 then 8 else sW (sc c t)) := by
        by_cases hy : sY (sc c t) = 0
        · rw [if_pos hy]; omega
        · have := hx.2 (by omega); rw [if_neg hy]; omega
      have hlim : (sX (sc c t) < (if sY (sc c t) = 0 then 8 else sW (sc c t))) ↔ ((sY (sc c t) = 0 → sX (sc c t) < 8) ∧ (0 < sY (sc c t) → sX (sc c t) < sW (sc c t))) := by
        by_cases hy : sY (sc c t) = 0
        · rw [if_pos hy]; exact ⟨fun z => ⟨fun _ => z, fun w => by omega⟩, fun z => z.1 hy⟩
        · rw [if_neg hy]; exact ⟨fun z => ⟨fun w => absurd w hy, fun _ => z⟩, fun z => z.2 (by omega)⟩
      obtain ⟨e1, e2⟩ := x_addCell (N := N) hN i1 i2 qX hct (show t < 80 by omega)
      unfold fX9_findFault_129 fX9_findFault_142 fX9_findFault_147
      rw [i_eq (by omega) (by omega)]
      by_cases hlt : sX (sc c t) < (if sY (sc c t) = 0 then 8 else sW (sc c t))
      · rw [if_neg (c := ((sX (sc c t) : Nat) : Int) = (((if sY (sc c t) = 0 then 8 else sW (sc c t)) : Nat) : Int)) (by omega)]
        obtain ⟨g1, g2⟩ := m_readsCell (N := N) i2 qM tM (show t < n by omega) rfl (show sX (sc c t) ≤ 7 by omega) hy7
        by_cases ok : okC (c t) (sc c t)
        · obtain ⟨Y2, f1, f2⟩ := e1 ok
          obtain ⟨Z2, f3, f4⟩ := g1 ok.2.2
          unfold fX3_fault_73
          rw [f1, bd_ok, f3, bd_ok, zl0, i_b, i_b, if_pos (c := true = true) rfl, if_pos (c := true = true) rfl, zl1, zA, zA]
          have hS := sc_C hc
          have := ih (t + 1) m1 m2 Y2 Z2 (by omega) (by omega) (by omega) (fun τ hτ => by
            by_cases hτ2 : τ = t
            · rw [hτ2]; exact ⟨fun z => absurd z hc, fun _ => ok⟩
            · exact hok τ (by omega)) (by rw [hS]; exact f2) (by rw [hS]; exact f4)
          rw [hS] at this
          exact this
        · obtain ⟨Y2, f1, f2⟩ := e2 ok
          have hl2 := hlim.mp hlt
          obtain ⟨Z2, f3, f4⟩ := g2 (fun z => ok ⟨hl2.1, hl2.2, z.1, z.2⟩)
          unfold fX3_fault_73
          rw [f1, bd_ok, f3, bd_ok, zl0, i_b, i_b, if_neg (c := false = true) (by simp), if_neg (c := false = true) (by simp)]
          exact Or.inl ⟨t, Y2, Z2, rfl, rfl, by omega, by omega, f2, f4⟩
      · rw [if_pos (c := ((sX (sc c t) : Nat) : Int) = (((if sY (sc c t) = 0 then 8 else sW (sc c t)) : Nat) : Int)) (by omega)]
        obtain ⟨Y2, f1, f2⟩ := e2 (fun z => hlt (hlim.mpr ⟨z.1, z.2.1⟩))
        unfold fX3_fault_73
        rw [f1, bd_ok, zl0, i_b, if_neg (c := false = true) (by simp)]
        exact Or.inl ⟨t, Y2, Z, rfl, rfl, by omega, by omega, f2, qM.1⟩
