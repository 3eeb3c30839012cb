/-! one sign read by the reference -/
abbrev agMR (M Z : St) : Prop := agr [4, 5] [] [11, 12, 13, 14, 15, 16, 17] [] M Z
def QM (s : Sc) (M Z : St) : Prop := agMR M Z ∧ Z.1 4 = zI (sW s : Nat) ∧ (∀ q, q < 64 → 0 ≤ sK s q → Z.2.2.1 11 q = zI (sK s q)) ∧ ∀ b, b < 5 → Z.2.2.1 12 b = zI (sN s b : Nat) ∧ (∀ i, i < sN s b → Z.2.2.1 13 (5 * b + i) = zI (sU s b i : Nat) ∧ Z.2.2.1 14 (5 * b + i) = zI (sV s b i : Nat)) ∧ (0 < sN s b → Z.2.2.1 15 b = zI (sFp s b : Nat)) ∧ (sP s b < 0 → Z.2.2.1 16 b = zI (-1)) ∧ (0 ≤ sP s b → Z.2.2.1 16 b = zI (sP s b % 8) ∧ Z.2.2.1 17 b = zI (sP s b / 8))
def okB (c : Nat) (s : Sc) : Prop := 0 ≤ kd1 c ∧ ∀ b : Nat, (b : Int) = bo c → sN s b < 5 ∧ (isP c = true → sP s b = -1)
theorem m_118 {N c t b : Nat} {s : Sc} {M Z : St} (h2 : iv2 s) (q : QM s M Z) (hb : b < 5) (hbo : bo c = (b : Int)) (ht : t < 80) (hx7 : sX s ≤ 7) (hy7 : sY s ≤ 7) (h5 : sN s b < 5) (hP : isP c = true → sP s b = -1) : ∃ Z2, fX9_readsCell_91 N (zI (sX s : Nat)) (zI (sY s : Nat)) (zI t) (zI b) (isP c) (sA Z 11 (8 * sY s + sX s) (zI (kd1 c))) = some (true, Z2) ∧ QM (scC c t s) M Z2 := by
  obtain ⟨q0, q1, q2, q3⟩ := q
  obtain ⟨r1, r2, r3, r4, r5⟩ := q3 b hb
  have hcl : (zI (b : Int)).toNatClampNeg = b := by rw [z_cl (by omega) (by omega)]; omega
  have hcl2 : (zI (5 * (b : Int) + (sN s b : Nat))).toNatClampNeg = 5 * b + sN s b := by rw [z_cl (by omega) (by omega)]; omega
  have hck : ∀ (E : Option (Bool × St)), ck (zI b) 5 E = E := fun E => ck_z (by omega) (by omega) (by omega)
  have hck2 : ∀ (E : Option (Bool × St)), ck (zI (5 * (b : Int) + (sN s b : Nat))) 25 E = E := fun E => ck_z (by omega) (by omega) (by omega)
  have hkb : -1 ≤ sP s b ∧ sP s b < 64 := by
    rcases h2.2.2.2 b with z | ⟨i, _, z⟩
    · omega
    · have := h2.2.2.1 b i; omega
  have g12a : (sA Z 11 (8 * sY s + sX s) (zI (kd1 c))).2.2.1 12 b = zI (sN s b : Nat) := r1
  have g16a : (sA Z 11 (8 * sY s + sX s) (zI (kd1 c))).2.2.1 16 b = Z.2.2.1 16 b := rfl
  have g17a : (sA Z 11 (8 * sY s + sX s) (zI (kd1 c))).2.2.1 17 b = Z.2.2.1 17 b := rfl
  obtain ⟨fv, hfv, hfv2⟩ : ∃ fv : Int32, (if sN s b = 0 then zI t else Z.2.2.1 15 b) = fv ∧ fv = zI (sFp (scC c t s) b : Nat) := by
    refine ⟨_, rfl, ?_⟩
    by_cases h0 : sN s b = 0
    · rw [if_pos h0, cF_e hbo.symm h0]
    · rw [if_neg h0, cF_o h0]; exact r3 (by omega)
  have e118 : fX9_readsCell_91 N (zI (sX s : Nat)) (zI (sY s : Nat)) (zI t) (zI b) (isP c) (sA Z 11 (8 * sY s + sX s) (zI (kd1 c))) = fX9_readsCell_118 N fv (zI b) (zI (sX s : Nat)) (zI (sY s : Nat)) (zI b) (isP c) (sA Z 11 (8 * sY s + sX s) (zI (kd1 c))) := by
    unfold fX9_readsCell_91
    simp only [hck, hcl]
    rw [g12a, zl0, i_eq (by omega) (by omega)]
    by_cases h0 : sN s b = 0
    · rw [if_pos h0] at hfv
      rw [if_pos (by omega), hfv]
    · rw [if_neg h0] at hfv
      rw [if_neg (by omega), ← hfv]
      rfl
  have fin : fX9_readsCell_118 N fv (zI b) (zI (sX s : Nat)) (zI (sY s : Nat)) (zI b) (isP c) (sA Z 11 (8 * sY s + sX s) (zI (kd1 c))) = some (true, sA (sA (sA (sA (sA (sA (sA Z 11 (8 * sY s + sX s) (zI (kd1 c))) 15 b fv) 13 (5 * b + sN s b) (zI (sX s : Nat))) 14 (5 * b + sN s b) (zI (sY s : Nat))) 12 b (zI (sN s b + 1 : Nat))) 16 b (if isP c = true then zI (sX s : Nat) else Z.2.2.1 16 b)) 17 b (if isP c = true then zI (sY s : Nat) else Z.2.2.1 17 b)) := by
    unfold fX9_readsCell_118
    simp only [hck, hcl, stp_ok]
    have k1 : (sA (sA Z 11 (8 * sY s + sX s) (zI (kd1 c))) 15 b fv).2.2.1 12 b = zI (sN s b : Nat) := r1
    rw [k1, show (5 : Int32) = zI 5 from rfl, zM, zA]
    simp only [hck2, hcl2]
    have k2 : (sA (sA (sA Z 11 (8 * sY s + sX s) (zI (kd1 c))) 15 b fv) 13 (5 * b + sN s b) (zI (sX s : Nat))).2.2.1 12 b = zI (sN s b : Nat) := r1
    rw [k2, zA]
    simp only [hck2, hcl2]
    have k3 : (sA (sA (sA (sA Z 11 (8 * sY s + sX s) (zI (kd1 c))) 15 b fv) 13 (5 * b + sN s b) (zI (sX s : Nat))) 14 (5 * b + sN s b) (zI (sY s : Nat))).2.2.1 12 b = zI (sN s b : Nat) := r1
    rw [k3, zl1, zA, zl0, i_b]
    unfold fX9_readsCell_188 fX9_readsCell_211
    simp only [hck, hcl, stp_ok]
    rw [zl0, i_b, i_b]
    cases isP c
    · rw [if_neg (c := false = true) (by simp), if_neg (c := false = true) (by simp), if_neg (c := false = true) (by simp), if_neg (c := false = true) (by simp)]
      rfl
    · rw [if_pos (c := true = true) rfl, if_pos (c := true = true) rfl, if_pos (c := true = true) rfl, if_pos (c := true = true) rfl]
      rfl
  rw [e118, fin]
  refine ⟨_, rfl, agr.sA (agr.sA (agr.sA (agr.sA (agr.sA (agr.sA (agr.sA q0 (by simp) _ _) (by simp) _ _) (by simp) _ _) (by simp) _ _) (by simp) _ _) (by simp) _ _) (by simp) _ _, q1, fun z hz hz2 => ?_, fun d hd => ?_⟩
  · show (sA Z 11 (8 * sY s + sX s) (zI (kd1 c))).2.2.1 11 z = _
    by_cases hzz : z = 8 * sY s + sX s
    · rw [hzz, sA_same, cK_e]
    · rw [sA_oth _ _ hzz, cK_n hzz]
      rw [cK_n hzz] at hz2
      exact q2 z hz hz2
  · obtain ⟨u1, u2, u3, u4, u5⟩ := q3 d hd
    show (sA Z 12 b (zI (sN s b + 1 : Nat))).2.2.1 12 d = _ ∧ (∀ i, i < sN (scC c t s) d → (sA Z 13 (5 * b + sN s b) (zI (sX s : Nat))).2.2.1 13 (5 * d + i) = _ ∧ (sA Z 14 (5 * b + sN s b) (zI (sY s : Nat))).2.2.1 14 (5 * d + i) = _) ∧ (_ → (sA Z 15 b fv).2.2.1 15 d = _) ∧ (_ → (sA Z 16 b (if isP c = true then zI (sX s : Nat) else Z.2.2.1 16 b)).2.2.1 16 d = _) ∧ (_ → (sA Z 16 b (if isP c = true then zI (sX s : Nat) else Z.2.2.1 16 b)).2.2.1 16 d = _ ∧ (sA Z 17 b (if isP c = true then zI (sY s : Nat) else Z.2.2.1 17 b)).2.2.1 17 d = _)
    by_cases hdb : d = b
    · subst hdb
      rw [sA_same, sA_same, sA_same, sA_same, cN_e hbo.symm]
      refine ⟨rfl, fun i hi => ?_, fun _ => hfv2, fun hp => ?_, fun hp => ?_⟩
      · by_cases hin : i = sN s d
        · rw [hin, sA_same, sA_same, cU_e hbo.symm, cV_e hbo.symm]; exact ⟨rfl, rfl⟩
        · rw [sA_oth _ _ (by omega), sA_oth _ _ (by omega), cU_o hin, cV_o hin]; exact u2 i (by omega)
      · cases hpp : isP c
        · rw [cP_o hpp] at hp
          rw [if_neg (by simp)]; exact u4 hp
        · rw [cP_e hbo.symm hpp] at hp; omega
      · cases hpp : isP c
        · rw [cP_o hpp] at hp ⊢
          rw [if_neg (by simp), if_neg (by simp)]; exact u5 hp
        · rw [cP_e hbo.symm hpp, if_pos rfl, if_pos rfl, show (8 * (sY s : Int) + (sX s : Int)) % 8 = (sX s : Int) by omega, show (8 * (sY s : Int) + (sX s : Int)) / 8 = (sY s : Int) by omega]
          exact ⟨rfl, rfl⟩
    · have hne : ¬ (d : Int) = bo c := fun z => hdb (by omega)
      rw [sA_oth _ _ hdb, sA_oth _ _ hdb, sA_oth _ _ hdb, sA_oth _ _ hdb, cN_n hne, cF_n hne, cP_n hne]
      refine ⟨u1, fun i hi => ?_, u3, u4, u5⟩
      have := h2.1 d
      rw [sA_oth _ _ (by omega), sA_oth _ _ (by omega), cU_n hne, cV_n hne]
      exact u2 i hi
theorem m_readsCell {N n c t : Nat} {cc : Nat → Nat} {s : Sc} {M Z : St} (h2 : iv2 s) (q : QM s M Z) (hT : txM n cc M) (ht : t < n) (hcc : cc t = c) (hx7 : sX s ≤ 7) (hy7 : sY s ≤ 7) : (okB c s → ∃ Z2, fX9_readsCell N (zI (sX s : Nat)) (zI (sY s : Nat)) (zI t) Z = some (true, Z2) ∧ QM (scC c t s) M Z2) ∧ (¬ okB c s → ∃ Z2, fX9_readsCell N (zI (sX s : Nat)) (zI (sY s : Nat)) (zI t) Z = some (false, Z2) ∧ agMR M Z2) := by
  have qq := q
  obtain ⟨q0, q1, q2, q3⟩ := q
  have tZ := hT.ag q0 (by decide) (by decide)
  have hn := hT.1
  have hc := (hT.2.2 t ht).2
  rw [hcc] at hc
  have hbo := bo_bd c
  have hkb := kd1_bd c
  unfold fX9_readsCell
  rw [ck_z (by omega) (by omega) (by omega), z_cl (by omega) (by omega), show ((t : Int)).toNat = t by omega, (tZ.2.2 t ht).1, hcc, nm_ok, m_kindBy hc, bd_ok, zl0, i_le (by omega) (by omega)]
  by_cases hk : 0 ≤ kd1 c
  · rw [if_pos hk, m_blockBy hc, bd_ok, show (8 : Int32) = zI 8 from rfl, zM, zA, ck_z (by omega) (by omega) (by omega), z_cl (by omega) (by omega), show ((8 * (sY s : Int) + (sX s : Int))).toNat = 8 * sY s + sX s by omega, stp_ok, i_le (by omega) (by omega)]
    by_cases hb0 : 0 ≤ bo c
    · obtain ⟨b, hb⟩ : ∃ b : Nat, bo c = (b : Int) := ⟨(bo c).toNat, by omega⟩
      have hb5 : b < 5 := by omega
      obtain ⟨r1, r2, r3, r4, r5⟩ := q3 b hb5
      have hcl : (zI (b : Int)).toNatClampNeg = b := by rw [z_cl (by omega) (by omega)]; omega
      have hck : ∀ (E : Option (Bool × St)), ck (zI b) 5 E = E := fun E => ck_z (by omega) (by omega) (by omega)
      have hn5 := h2.1 b
      have hPb : -1 ≤ sP s b ∧ sP s b < 64 := by
        rcases h2.2.2.2 b with z | ⟨i, _, z⟩
        · omega
        · have := h2.2.2.1 b i; omega
      have e69 : (if zI 69 < zI (c : Nat) then fX9_readsCell_61 N false (zI (sX s : Nat)) (zI (sY s : Nat)) (zI t) (zI (b : Int)) (sA Z 11 (8 * sY s + sX s) (zI (kd1 c))) else fX9_readsCell_61 N true (zI (sX s : Nat)) (zI (sY s : Nat)) (zI t) (zI (b : Int)) (sA Z 11 (8 * sY s + sX s) (zI (kd1 c)))) = fX9_readsCell_61 N (isP c) (zI (sX s : Nat)) (zI (sY s : Nat)) (zI t) (zI (b : Int)) (sA Z 11 (8 * sY s + sX s) (zI (kd1 c))) := by
        rw [i_lt (by omega) (by omega)]
        have hbo2 := hb
        unfold bo at hbo2
        unfold isP
        by_cases h65 : 65 ≤ c ∧ c < 70
        · rw [if_neg (by omega), decide_eq_true h65]
        · rw [if_neg h65] at hbo2
          have : 97 ≤ c ∧ c < 102 := by
            refine Classical.byContradiction fun z => ?_
            rw [if_neg z] at hbo2
            omega
          rw [if_pos (by omega), decide_eq_false h65]
      rw [if_pos hb0, hb, show (69 : Int32) = zI 69 from rfl, e69]
      have g12 : (sA Z 11 (8 * sY s + sX s) (zI (kd1 c))).2.2.1 12 b = zI (sN s b : Nat) := r1
      have g16 : (sA Z 11 (8 * sY s + sX s) (zI (kd1 c))).2.2.1 16 b = Z.2.2.1 16 b := rfl
      unfold fX9_readsCell_61 fX9_readsCell_89
      simp only [hck, hcl]
      rw [g12, show (5 : Int32) = zI 5 from rfl, i_eq (by omega) (by omega), zl0, i_b, g16]
      constructor
      · intro ok
        obtain ⟨o1, o2⟩ := ok.2 b hb.symm
        have m := m_118 (N := N) h2 qq hb5 hb (show t < 80 by omega) hx7 hy7 o1 o2
        rw [if_neg (by omega)]
        cases hp : isP c
        · rw [hp] at m
          rw [if_neg (c := false = true) (by simp)]
          exact m
        · rw [hp] at m
          rw [if_pos (c := true = true) rfl, r4 (by have := o2 hp; omega), i_lt (by omega) (by omega), if_pos (by omega)]
          exact m
      · intro ok
        by_cases h5 : sN s b = 5
        · rw [if_pos (by omega)]
          exact ⟨_, rfl, agr.sA q0 (by simp) _ _⟩
        · rw [if_neg (by omega)]
          cases hp : isP c
          · exact absurd ⟨hk, fun d hd => by rw [show d = b by omega]; exact ⟨by omega, fun z => by rw [hp] at z; cases z⟩⟩ ok
          · have hP0 : 0 ≤ sP s b := by
              refine Classical.byContradiction fun z => ok ⟨hk, fun d hd => ?_⟩
              rw [show d = b by omega]
              exact ⟨by omega, fun _ => by omega⟩
            rw [if_pos (c := true = true) rfl, (r5 hP0).1, i_lt (by omega) (by omega), if_neg (by omega)]
            exact ⟨_, rfl, agr.sA q0 (by simp) _ _⟩
    · have hne : ∀ d : Nat, ¬ (d : Int) = bo c := fun d => by omega
      rw [if_neg hb0]
      refine ⟨fun _ => ⟨_, rfl, agr.sA q0 (by simp) _ _, q1, fun z hz hz2 => ?_, fun d hd => ?_⟩, fun ok => absurd ⟨hk, fun d hd => absurd hd (hne d)⟩ ok⟩
      · by_cases hzz : z = 8 * sY s + sX s
        · rw [hzz, sA_same, cK_e]
        · rw [sA_oth _ _ hzz, cK_n hzz]
          rw [cK_n hzz] at hz2
          exact q2 z hz hz2
      · obtain ⟨u1, u2, u3, u4, u5⟩ := q3 d hd
        rw [cN_n (hne d), cF_n (hne d), cP_n (hne d)]
        refine ⟨u1, fun i hi => ?_, u3, u4, u5⟩
        rw [cU_n (hne d), cV_n (hne d)]
        exact u2 i hi
  · rw [if_neg hk]
    exact ⟨fun ok => absurd ok.1 hk, fun _ => ⟨Z, rfl, q0⟩⟩
