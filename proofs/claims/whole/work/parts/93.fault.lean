/-! the fault of a level, on both sides -/
theorem sF_le {c : Nat → Nat} {b : Nat} : ∀ t, sFp (sc c t) b ≤ t := by
  intro t
  induction t with
  | zero => exact Nat.le_refl 0
  | succ t ih =>
    by_cases hc : c t = 47
    · rw [sc_R hc]
      show sFp (sc c t) b ≤ t + 1
      omega
    · rw [sc_C hc]
      show (if (b : Int) = bo (c t) ∧ sN (sc c t) b = 0 then t else sFp (sc c t) b) ≤ t + 1
      split <;> omega
theorem sP_bd {s : Sc} (h2 : iv2 s) (b : Nat) : -1 ≤ sP s b ∧ sP s b < 64 ∧ (sN s b = 0 → sP s b = -1) := by
  rcases h2.2.2.2 b with z | ⟨i, hi, z⟩
  · omega
  · have := h2.2.2.1 b i; omega
theorem piv_both {N : Nat} {s : Sc} {X M Y Z : St} (h2 : iv2 s) (hF : ∀ b, sFp s b ≤ 80) (qX : QX s X Y) (qM : QM s M Z) : ∀ (d b m1 m2 : Nat) (r : Int), b + d = 5 → d < m1 → d < m2 → -1 ≤ r → r ≤ 80 → ∃ r2 : Int, fX3_faultOfPivots_4 N m1 (zI r) (zI b) Y = some (zI r2, Y) ∧ fX9_findFault_183 N m2 (zI r) (zI b) Z = some (zI r2, Z) ∧ -1 ≤ r2 ∧ r2 ≤ 80 ∧ (r2 = -1 → r = -1 ∧ ∀ e, b ≤ e → e < 5 → 0 < sN s e → 0 ≤ sP s e) := by
  intro d
  induction d with
  | zero =>
    intro b m1 m2 r h1 h3 h4 h5 h6
    obtain ⟨m1, rfl⟩ : ∃ n', m1 = n' + 1 := ⟨m1 - 1, by omega⟩
    obtain ⟨m2, rfl⟩ : ∃ n', m2 = n' + 1 := ⟨m2 - 1, by omega⟩
    refine ⟨r, ?_, ?_, h5, h6, fun z => ⟨z, fun e _ _ => by omega⟩⟩
    · show fX3_faultOfPivots_4b N (fX3_faultOfPivots_4 N m1) (zI r) (zI b) Y = _
      unfold fX3_faultOfPivots_4b
      rw [zl5, i_le (by omega) (by omega), if_pos (by omega)]
    · show fX9_findFault_183b N (fX9_findFault_183 N m2) (zI r) (zI b) Z = _
      unfold fX9_findFault_183b
      rw [zl5, i_le (by omega) (by omega), if_pos (by omega)]
  | succ d ih =>
    intro b m1 m2 r h1 h3 h4 h5 h6
    obtain ⟨m1, rfl⟩ : ∃ n', m1 = n' + 1 := ⟨m1 - 1, by omega⟩
    obtain ⟨m2, rfl⟩ : ∃ n', m2 = n' + 1 := ⟨m2 - 1, by omega⟩
    have hb : b < 5 := by omega
    obtain ⟨x1, x2, x3⟩ := qX.2.2.2.2 b hb
    obtain ⟨y1, y2, y3, y4, y5⟩ := qM.2.2.2 b hb
    have hn := h2.1 b
    have hp := sP_bd h2 b
    have hf := hF b
    have hcl : (zI (b : Int)).toNatClampNeg = b := by rw [z_cl (by omega) (by omega)]; omega
    have hck : ∀ (E : Option (Int32 × St)), ck (zI b) 5 E = E := fun E => ck_z (by omega) (by omega) (by omega)
    show ∃ r2 : Int, fX3_faultOfPivots_4b N (fX3_faultOfPivots_4 N m1) (zI r) (zI b) Y = some (zI r2, Y) ∧ fX9_findFault_183b N (fX9_findFault_183 N m2) (zI r) (zI b) Z = some (zI r2, Z) ∧ _
    unfold fX3_faultOfPivots_4b fX9_findFault_183b fX3_faultOfPivots_32 fX9_findFault_213 fX3_faultOfPivots_33 fX9_findFault_214 fX9_findFault_246 fX9_findFault_236 fX9_findFault_247 fX3_faultOfPivots_53 fX3_faultOfPivots_60
    simp only [hck, hcl, nm_ok]
    rw [zlm1, zl5, i_le (by omega) (by omega), if_neg (c := (5 : Int) ≤ (b : Int)) (by omega), i_le (by omega) (by omega), if_neg (c := (5 : Int) ≤ (b : Int)) (by omega), x1, y1, zl0, i_le (by omega) (by omega), i_le (by omega) (by omega)]
    rw [i_b, i_b, i_b, i_b, if_neg (c := false = true) (by simp), if_neg (c := false = true) (by simp), if_pos (c := true = true) rfl, if_pos (c := true = true) rfl, zl1, zA]
    obtain ⟨r0, u1, u2, u3, u4, u5⟩ := ih (b + 1) m1 m2 r (by omega) (by omega) (by omega) h5 h6
    by_cases h0 : sN s b = 0
    · rw [if_pos (c := ((sN s b : Nat) : Int) ≤ 0) (by omega), if_pos (c := ((sN s b : Nat) : Int) ≤ 0) (by omega)]
      refine ⟨r0, u1, u2, u3, u4, fun z => ⟨(u5 z).1, fun e he he2 hn2 => ?_⟩⟩
      by_cases heb : e = b
      · subst heb; omega
      · exact (u5 z).2 e (by omega) he2 hn2
    · rw [if_neg (c := ((sN s b : Nat) : Int) ≤ 0) (by omega), if_neg (c := ((sN s b : Nat) : Int) ≤ 0) (by omega), x2, i_eq (by omega) (by omega)]
      by_cases hP : sP s b = -1
      · rw [if_pos hP, y4 (by omega), i_le (a := 0) (b := -1) (by omega) (by omega), if_neg (c := (0 : Int) ≤ -1) (by omega), x3 (by omega), y3 (by omega), i_eq (by omega) (by omega), i_lt (by omega) (by omega), i_le (by omega) (by omega), i_le (by omega) (by omega)]
        obtain ⟨r1, v1, v2, v3, v4, v5⟩ := ih (b + 1) m1 m2 (sFp s b : Nat) (by omega) (by omega) (by omega) (by omega) (by omega)
        by_cases hr : r = -1
        · rw [if_pos hr, if_pos (c := r < 0) (by omega)]
          exact ⟨r1, v1, v2, v3, v4, fun z => by have := (v5 z).1; omega⟩
        · rw [if_neg hr, if_neg (c := r < 0) (by omega)]
          by_cases hle : r ≤ ((sFp s b : Nat) : Int)
          · rw [if_pos hle, if_pos hle]
            exact ⟨r0, u1, u2, u3, u4, fun z => by have := (u5 z).1; omega⟩
          · rw [if_neg hle, if_neg hle]
            exact ⟨r1, v1, v2, v3, v4, fun z => by have := (v5 z).1; omega⟩
      · rw [if_neg hP, (y5 (by omega)).1, i_le (a := 0) (b := sP s b % 8) (by omega) (by omega), if_pos (c := (0 : Int) ≤ sP s b % 8) (by omega)]
        refine ⟨r0, u1, u2, u3, u4, fun z => ⟨(u5 z).1, fun e he he2 hn2 => ?_⟩⟩
        by_cases heb : e = b
        · subst heb; omega
        · exact (u5 z).2 e (by omega) he2 hn2
theorem m_init {N : Nat} {M : St} (hN : 100 ≤ N) {c : Nat → Nat} : ∃ Z, fX9_findFault N M = fX9_findFault_38 N N (zI 0) (zI 0) (zI 0) Z ∧ QM (sc c 0) M Z := by
  have main : ∀ (d b m : Nat) (Z : St), b + d = 5 → d < m → agMR M Z → Z.1 4 = zI 0 → (∀ e, e < b → Z.2.2.1 12 e = zI 0 ∧ Z.2.2.1 16 e = zI (-1)) → ∃ Z2, fX9_findFault_11 N m false false (zI b) Z = fX9_findFault_38 N N (zI 0) (zI 0) (zI 0) Z2 ∧ agMR M Z2 ∧ Z2.1 4 = zI 0 ∧ ∀ e, e < 5 → Z2.2.2.1 12 e = zI 0 ∧ Z2.2.2.1 16 e = zI (-1) := by
    intro d
    induction d with
    | zero =>
      intro b m Z h1 h2 h3 h4 h5
      obtain ⟨m, rfl⟩ : ∃ n', m = n' + 1 := ⟨m - 1, by omega⟩
      refine ⟨Z, ?_, h3, h4, fun e he => h5 e (by omega)⟩
      show fX9_findFault_11b N (fX9_findFault_11 N m) false false (zI b) Z = _
      unfold fX9_findFault_11b
      rw [zl5, i_le (by omega) (by omega), if_pos (by omega)]
      rfl
    | succ d ih =>
      intro b m Z h1 h2 h3 h4 h5
      obtain ⟨m, rfl⟩ : ∃ n', m = n' + 1 := ⟨m - 1, by omega⟩
      show ∃ Z2, fX9_findFault_11b N (fX9_findFault_11 N m) false false (zI b) Z = _ ∧ _
      unfold fX9_findFault_11b
      rw [zl5, i_le (by omega) (by omega), if_neg (by omega), ck_z (by omega) (by omega) (by omega), stp_ok, ck_z (by omega) (by omega) (by omega), stp_ok, z_cl (by omega) (by omega), show ((b : Int)).toNat = b by omega, zlm1, zl1, zA, zl0]
      refine ih (b + 1) m _ (by omega) (by omega) (agr.sA (agr.sA h3 (by simp) _ _) (by simp) _ _) h4 (fun e he => ?_)
      by_cases heb : e = b
      · subst heb
        rw [sA_same, sA_ne _ _ _ (by decide), sA_same]
        exact ⟨rfl, rfl⟩
      · rw [sA_oth _ _ heb, sA_ne _ _ _ (by decide), sA_oth _ _ heb, sA_ne _ _ _ (by decide)]
        exact h5 e (by omega)
  obtain ⟨Z2, e1, e2, e3, e4⟩ := main 5 0 N (sI M 4 (zI 0)) (by omega) (by omega) (agr.sI (agr.rf _) (by simp) _) (sI_same _ _ _) (fun e he => by omega)
  refine ⟨Z2, ?_, e2, e3, fun q _ hq => absurd hq (by show ¬ (0 : Int) ≤ -1; omega), fun b hb => ⟨(e4 b hb).1, fun i hi => absurd hi (Nat.not_lt_zero _), fun z => absurd z (Nat.lt_irrefl 0), fun _ => (e4 b hb).2, fun z => absurd z (by show ¬ (0 : Int) ≤ -1; omega)⟩⟩
  unfold fX9_findFault
  rw [stp_ok]
  exact e1
theorem x_init {N : Nat} {X : St} {c : Nat → Nat} : ∃ Y, fX3_fault N X = fX3_fault_34 N N (zI 0) Y ∧ QX (sc c 0) X Y := by
  unfold fX3_fault
  rw [stp_ok, stp_ok, stp_ok, stp_ok, stp_ok]
  refine ⟨_, rfl, agr.sI (agr.sI (agr.sI (agr.fA (agr.fA (agr.rf _) (by simp) _) (by simp) _) (by simp) _) (by simp) _) (by simp) _, rfl, rfl, rfl, fun b hb => ⟨?_, ?_, fun z => absurd z (Nat.lt_irrefl 0)⟩⟩
  · show fil 5 0 (X.2.2.1 19) b = _
    unfold fil
    rw [if_pos hb]
    rfl
  · show fil 5 (-1) _ b = _
    unfold fil
    rw [if_pos hb]
    rfl
/-- what both find out about the text -/
theorem fault_both {N n : Nat} {c : Nat → Nat} {X M : St} (hN : 100 ≤ N) (tX : txX n c X) (tM : txM n c M) : ∃ (r : Int) (Y Z : St), fX3_fault N X = some (zI r, Y) ∧ fX9_findFault N M = some (zI r, Z) ∧ -1 ≤ r ∧ r ≤ 80 ∧ agXR X Y ∧ agMR M Z ∧ (r = -1 → full c n ∧ QX (sc c n) X Y ∧ QM (sc c n) M Z ∧ Z.1 5 = zI (sY (sc c n) + 1 : Nat) ∧ ∀ b, b < 5 → 0 < sN (sc c n) b → 0 ≤ sP (sc c n) b) := by
  obtain ⟨Y, e1, q1⟩ := x_init (N := N) (X := X) (c := c)
  obtain ⟨Z, e2, q2⟩ := m_init (M := M) (c := c) hN
  have hn := tX.1
  rw [e1, e2]
  rcases lock hN tX tM n 0 N N Y Z (by omega) (by omega) (by omega) (fun τ hτ => absurd hτ (Nat.not_lt_zero _)) q1 q2 with ⟨r, Y2, Z2, f1, f2, f3, f4, f5, f6⟩ | ⟨hf, Y2, Z2, f1, f2, f3, f4, f5⟩
  · exact ⟨r, Y2, Z2, f1, f2, by omega, f4, f5, f6, fun z => by omega⟩
  · obtain ⟨i1, i2, i3⟩ := iv_all n hf.1
    obtain ⟨r, g1, g2, g3, g4, g5⟩ := piv_both (N := N) i2 (fun b => by have := sF_le (c := c) (b := b) n; omega) f3 f4 5 0 N N (-1) (by omega) (by omega) (by omega) (by omega) (by omega)
    refine ⟨r, Y2, Z2, ?_, ?_, g3, g4, f3.1, f4.1, fun z => ⟨hf, f3, f4, f5, fun b hb => (g5 z).2 b (by omega) hb⟩⟩
    · rw [show fX3_fault_34 N N (zI 0) Y = _ from f1]
      unfold fX3_fault_112 fX3_fault_131 fX3_faultOfPivots
      rw [zl0, i_b, if_pos rfl, zlm1, show fX3_faultOfPivots_4 N N (zI (-1)) (zI 0) Y2 = _ from g1, bd_ok]
    · rw [show fX9_findFault_38 N N (zI 0) (zI 0) (zI 0) Z = _ from f2]
      exact g2
