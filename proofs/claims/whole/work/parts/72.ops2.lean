/-! more calls that ask -/
theorem k_stand {N : Nat} {g : Lv} {wt th : Nat → Nat} {st : Nat} {gx gy gt : Nat → Int} {D : Nat → Nat → Int} {p : Nat → Nat} {X M : St} (hN : 3000 ≤ N) (h : RelP g wt th st gx gy gt D p X M) : ∃ Y, fX4_stand N 0 (lN (pkA p)) X = some ((), Y) ∧ agm 0 X Y ∧ xMv g wt th p (pkA p) 0 Y := x_stand (N := N) (j := 0) (by omega) (by omega) h.2.2.1.1 h.2.2.1.2.1 h.1.1 h.2.1 h.2.2.1.2.2.1 h.1.2.2.1 h.2.2.1.2.2.2.1 h.1.2.1 (pkA_enc fun b hb => (h.2.1.1 b hb).1)
theorem agm0_xs {X Y : St} (a : agm 0 X Y) : XS X Y := agr.wk a (by simp) (by simp) (by simp) (by simp)
theorem k_loadv {N : Nat} {g : Lv} {wt th : Nat → Nat} {st : Nat} {gx gy gt : Nat → Int} {D : Nat → Nat → Int} {p : Nat → Nat} {X M : St} (hN : 3000 ≤ N) (h : RelP g wt th st gx gy gt D p X M) {r : Nat} (hr : r < 4) : (∃ Y, fX4_stand N 0 (lN (pkA p)) X = some ((), Y) ∧ XS X Y ∧ fX4_loadOf N 0 (zI r) Y = some (zI (ld g wt p r : Nat), Y)) ∧ ∃ Z, fX9_layOwners N M = some ((), Z) ∧ MS M Z ∧ Z.2.2.1 9 = M.2.2.1 9 ∧ Z.2.2.1 19 r = zI (ld g wt p r : Nat) := by
  obtain ⟨Y, e, a, m⟩ := k_stand hN h
  obtain ⟨f, q, e1, h1, h2⟩ := m_layOwners (N := N) (by omega) h.2.2.2.1.1 h.1.1 h.2.2.2.2.1 h.2.2.2.1.2.2.1 h.1.2.2.1 h.2.1
  refine ⟨⟨Y, e, agm0_xs a, ?_⟩, lo M f q, e1, (lo_ag M f q).wk (by simp) (by simp) (by simp) (by simp), rfl, h2 r hr⟩
  exact x_loadOf (by omega) (a.xY (by omega) h.2.2.1.1) h.1.1 h.2.1 (a.xW8 h.2.2.1.2.2.1) h.1.2.2.1 m.2.2.1 hr
theorem x_isGroup {N : Nat} {x : Int} {X : St} (hx : -2147483648 ≤ x ∧ x < 2147483648) : fX8_isGroup N (zI x) X = some (decide (0 ≤ x ∧ x ≤ 3), X) := by
  unfold fX8_isGroup fX8_isGroup_13 fX8_isGroup_14
  rw [zl0, i_lt (by omega) (by omega), zl4, i_le (by omega) (by omega)]
  by_cases h : x < 0
  · rw [if_pos h, decide_eq_false (by omega)]
  · rw [if_neg h]
    by_cases h2 : 4 ≤ x
    · rw [if_pos h2, decide_eq_false (by omega)]
    · rw [if_neg h2, decide_eq_true (by omega)]
theorem m_isGroup {N : Nat} {x : Int} {M : St} (hx : -2147483648 ≤ x ∧ x < 2147483648) : fX9_isGroup N (zI x) M = some (decide (0 ≤ x ∧ x ≤ 3), M) := by
  unfold fX9_isGroup
  rw [zl0, zl3, m_in hx (by omega) (by omega), bd_ok]
theorem k_load {N : Nat} (hN : 3000 ≤ N) : ∀ (p1 : Int32) (X M : St), Rel X M → ∃ r X2 M2, fX8_load N p1 X = some (r, X2) ∧ fX9_load N p1 M = some (r, M2) ∧ Rel X2 M2 := by
  rintro p1 X M ⟨g, wt, th, st, gx, gy, gt, D, p, h⟩
  obtain ⟨x, rfl, hx⟩ := z_ex p1
  unfold fX8_load fX9_load
  rw [x_isGroup hx, bd_ok, m_isGroup hx, bd_ok, zl0, i_d, i_d]
  by_cases hg : 0 ≤ x ∧ x ≤ 3
  · obtain ⟨r, rfl⟩ : ∃ r : Nat, x = (r : Int) := ⟨x.toNat, by omega⟩
    obtain ⟨⟨Y, e1, a1, e2⟩, Z, e3, a3, m9, e4⟩ := k_loadv hN h (show r < 4 by omega)
    rw [if_pos hg, if_pos hg, x_present h.2.2.2.2.2.2.1, bd_ok, e1, bd_ok, e2, bd_ok, e3, bd_ok, ck_z (by omega) (by omega) (by omega), z_cl (by omega) (by omega), show ((r : Int)).toNat = r by omega, e4]
    exact ⟨_, Y, Z, rfl, rfl, (h.same a1 a3 m9).rel⟩
  · rw [if_neg hg, if_neg hg]
    exact ⟨_, X, M, rfl, rfl, h.rel⟩
theorem k_isOpen {N : Nat} (hN : 3000 ≤ N) : ∀ (p1 : Int32) (X M : St), Rel X M → ∃ r X2 M2, fX8_isOpen N p1 X = some (r, X2) ∧ fX9_isOpen N p1 M = some (r, M2) ∧ Rel X2 M2 := by
  rintro p1 X M ⟨g, wt, th, st, gx, gy, gt, D, p, h⟩
  obtain ⟨x, rfl, hx⟩ := z_ex p1
  unfold fX8_isOpen fX9_isOpen fX8_isOpen_49 fX9_isOpen_34
  rw [x_isGroup hx, bd_ok, m_isGroup hx, bd_ok, zl0, i_d, i_d]
  by_cases hg : 0 ≤ x ∧ x ≤ 3
  · obtain ⟨r, rfl⟩ : ∃ r : Nat, x = (r : Int) := ⟨x.toNat, by omega⟩
    have hr : r < 4 := by omega
    obtain ⟨⟨Y, e1, a1, e2⟩, Z, e3, a3, m9, e4⟩ := k_loadv hN h hr
    have hld := ldN_bd (g := g) (p := p) (r := r) h.1.2.2.1 5
    have hld2 : ld g wt p r ≤ 9 * 5 := hld
    have hth := h.1.2.1 r
    rw [if_pos hg, if_pos hg, x_present h.2.2.2.2.2.2.1, bd_ok, e1, bd_ok, e2, bd_ok, e3, bd_ok, ck_z (by omega) (by omega) (by omega), ck_z (by omega) (by omega) (by omega), ck_z (by omega) (by omega) (by omega), z_cl (by omega) (by omega), show ((r : Int)).toNat = r by omega, e4, a1.2.2.1 1 (by decide), h.2.2.1.2.2.2.1 r hr, a3.2.2.1 0 (by decide), h.2.2.2.1.2.1 r hr]
    by_cases hlt : zI (ld g wt p r : Nat) < zI (th r : Nat)
    · rw [if_pos hlt, if_pos hlt]
      exact ⟨_, Y, Z, rfl, rfl, (h.same a1 a3 m9).rel⟩
    · rw [if_neg hlt, if_neg hlt]
      exact ⟨_, Y, Z, rfl, rfl, (h.same a1 a3 m9).rel⟩
  · rw [if_neg hg, if_neg hg]
    exact ⟨_, X, M, rfl, rfl, h.rel⟩
theorem k_blockAt {N : Nat} (hN : 3000 ≤ N) : ∀ (p1 p2 : Int32) (X M : St), Rel X M → ∃ r X2 M2, fX8_blockAt N p1 p2 X = some (r, X2) ∧ fX9_blockAt N p1 p2 M = some (r, M2) ∧ Rel X2 M2 := by
  rintro p1 p2 X M ⟨g, wt, th, st, gx, gy, gt, D, p, h⟩
  obtain ⟨x, rfl, hx⟩ := z_ex p1
  obtain ⟨y, rfl, hy⟩ := z_ex p2
  have hw := h.1.1
  unfold fX8_blockAt fX9_blockAt fX9_blockAt_46
  rw [x_cellAt h.2.2.1.1 hw hx hy, bd_ok, m_isInYard h.2.2.2.1.1 hw hx hy, bd_ok, zl0, i_d]
  by_cases hi : inY g x y
  · obtain ⟨c, c1, c2, c3, c4, c5⟩ := celN hw hi
    obtain ⟨q1, q2, q3, q4⟩ := cel_in hw hi
    obtain ⟨Y, e, a, m⟩ := k_stand hN h
    obtain ⟨f, q, e1, h1, h2⟩ := m_layOwners (N := N) (by omega) h.2.2.2.1.1 hw h.2.2.2.2.1 h.2.2.2.1.2.2.1 h.1.2.2.1 h.2.1
    have hb := owN_bd g p c 5
    rw [if_pos hi, if_pos hi, i_le (by omega) (by omega), if_pos (by omega), x_present h.2.2.2.2.2.2.1, bd_ok, e, bd_ok, e1, bd_ok, zl8, zM, zA, ck_z (by omega) (by omega) (by omega), ck_z (by omega) (by omega) (by omega), z_cl (by omega) (by omega), ← c5, ← c1, lo_18, h1 c c2, i_le (by omega) (by unfold ow; omega)]
    have lp : ∀ (d b n : Nat), b + d = 5 → d < n → (∀ b2, b2 < b → hasC g b2 (p b2) c = false) → fX8_blockAt_37 N n (zI c) (zI b) Y = some (zI (if 0 ≤ ow g p c then ow g p c else -7), Y) := by
      intro d
      induction d with
      | zero =>
        intro b n hb hn hpre
        obtain ⟨n, rfl⟩ : ∃ n', n = n' + 1 := ⟨n - 1, by omega⟩
        have hneg : ow g p c < 0 := (owN_neg 5).mpr (anyB_f.mpr fun b2 hb2 => hpre b2 (by omega))
        show fX8_blockAt_37b N (fX8_blockAt_37 N n) (zI c) (zI b) Y = _
        unfold fX8_blockAt_37b
        rw [zl5, i_le (by omega) (by omega), if_pos (by omega), if_neg (by omega)]
        rfl
      | succ d ih =>
        intro b n hb hn hpre
        obtain ⟨n, rfl⟩ : ∃ n', n = n' + 1 := ⟨n - 1, by omega⟩
        show fX8_blockAt_37b N (fX8_blockAt_37 N n) (zI c) (zI b) Y = _
        unfold fX8_blockAt_37b
        rw [zl5, i_le (by omega) (by omega), if_neg (by omega), ck_z (by omega) (by omega) (by omega), z_cl (by omega) (by omega), show ((b : Int)).toNat = b by omega, x_holds c2, bd_ok, zl0, i_b]
        have hmb : bit (Y.2.2.2 9 b) c = hasC g b (p b) c := m.2.2.1 b (by omega) c c2
        rw [hmb]
        cases hh : hasC g b (p b) c
        · rw [if_neg (c := false = true) (by simp), zl1, zA]
          exact ih (b + 1) n (by omega) (by omega) (fun b2 hb2 => by
            by_cases hbb : b2 = b
            · subst hbb; exact hh
            · exact hpre b2 (by omega))
        · rw [if_pos (c := true = true) rfl, (ow_iff h.2.1 (show b < 5 by omega)).mpr hh, if_pos (by omega)]
    have e2 : fX8_blockAt_37 N N (zI c) (zI 0) Y = _ := lp 5 0 N (by omega) (by omega) (fun b2 hb2 => by omega)
    rw [e2]
    refine ⟨_, Y, lo M f q, rfl, ?_, (h.same (agm0_xs a) ((lo_ag M f q).wk (by simp) (by simp) (by simp) (by simp)) rfl).rel⟩
    by_cases h0 : 0 ≤ ow g p c
    · rw [if_pos h0, if_pos h0]
    · rw [if_neg h0, if_neg h0]
      rfl
  · rw [if_neg hi, if_neg hi, i_le (by omega) (by omega), if_neg (by omega)]
    exact ⟨_, X, M, rfl, rfl, h.rel⟩
theorem k_movedX {N : Nat} {g : Lv} {wt th : Nat → Nat} {st : Nat} {gx gy gt : Nat → Int} {D : Nat → Nat → Int} {p : Nat → Nat} {X M : St} (hN : 3000 ≤ N) (h : RelP g wt th st gx gy gt D p X M) {b k : Nat} (hb : b < 5) (hb0 : 0 < gN g b) (hk : k < 6) : ∃ v Y, fX8_attempt N (zI b) (zI k) X = some (zI (mvs g wt th st p b k : Nat), Y) ∧ agm 0 X Y ∧ (mvs g wt th st p b k ≠ 0 → Y.2.1 8 = lN v ∧ v = pkA (nxA g wt th st p b k)) := by
  obtain ⟨Y, e, a, m⟩ := k_stand hN h
  obtain ⟨v, Y2, e2, a2, m2, r2⟩ := x_attempt (N := N) (j := 0) (by omega) (by omega) (a.xY (by omega) h.2.2.1.1) (a.xB (by omega) h.2.2.1.2.1) h.1.1 h.2.1 (a.xW8 h.2.2.1.2.2.1) h.1.2.2.1 (show Y.1 2 = zI st by rw [a.1 2 (by simp)]; exact h.2.2.1.2.2.2.2.1) h.1.2.2.2.1 m (pkA_enc fun b hb => (h.2.1.1 b hb).1) hb hb0 hk
  unfold fX8_attempt
  rw [x_present h.2.2.2.2.2.2.1, bd_ok, e, bd_ok, e2, bd_ok]
  refine ⟨v, Y2, rfl, a.tr a2, fun h0 => ?_⟩
  obtain ⟨r1, r3, r4⟩ := r2 h0
  obtain ⟨n1, n2⟩ := nx_ok h.1.1 h.2.1 hb hb0 hk h0
  exact ⟨r1, enc_pk ⟨r3, fun q hq => by have := r4 q hq; rw [n1 q hq] at this; omega⟩⟩
theorem k_moved {N : Nat} (hN : 3000 ≤ N) : ∀ (p1 p2 : Int32) (X M : St), Rel X M → ∃ r X2 M2, fX8_moved N p1 p2 X = some (r, X2) ∧ fX9_moved N p1 p2 M = some (r, M2) ∧ Rel X2 M2 := by
  rintro p1 p2 X M ⟨g, wt, th, st, gx, gy, gt, D, p, h⟩
  obtain ⟨b, rfl, hb⟩ := z_ex p1
  obtain ⟨k, rfl, hk⟩ := z_ex p2
  have hw := h.1.1
  unfold fX8_moved fX9_moved fX9_moveBarred fX9_moveBarred_27 fX8_moved_23 fX8_moved_43 fX9_moved_33
  rw [x_has h.2.2.1.2.1 hw hb, bd_ok, m_noBlock h.2.2.2.1.1 hw hb, bd_ok, zl0, i_d]
  by_cases hB : 0 ≤ b ∧ b < 5 ∧ 0 < gN g b.toNat
  · rw [if_pos hB, decide_eq_true hB, i_b, if_neg (c := (!true) = true) (by simp), i_lt (by omega) (by omega), show (6 : Int32) = zI 6 from rfl, i_lt (by omega) (by omega), zl5, m_in hk (by omega) (by omega), bd_ok, i_d]
    by_cases hK : 0 ≤ k ∧ k ≤ 5
    · obtain ⟨bn, rfl⟩ : ∃ bn : Nat, b = (bn : Int) := ⟨b.toNat, by omega⟩
      obtain ⟨kn, rfl⟩ : ∃ kn : Nat, k = (kn : Int) := ⟨k.toNat, by omega⟩
      rw [show ((bn : Int)).toNat = bn by omega] at hB
      rw [if_neg (by omega), if_pos (by omega), if_pos hK, bd_ok, i_le (by omega) (by omega), if_pos (by omega)]
      obtain ⟨v, Y, e1, a1, _⟩ := k_movedX hN h (show bn < 5 by omega) hB.2.2 (show kn < 6 by omega)
      obtain ⟨M2, e2, a2⟩ := m_movedBy (N := N) (by omega) h.2.2.2.1.1 hw h.2.2.2.1.2.1 h.1.2.1 h.2.2.2.1.2.2.1 h.1.2.2.1 h.2.2.2.2.1 h.2.1 h.2.2.2.1.2.2.2.1 h.1.2.2.2.1 (show bn < 5 by omega) (show kn < 6 by omega)
      rw [e1, bd_ok, e2, bd_ok]
      have hR := (h.same (agm0_xs a1) (a2.wk (by simp) (by simp) (by simp) (by simp)) (a2.2.2.1 9 (by decide))).rel
      by_cases h0 : zI (mvs g wt th st p bn kn : Nat) = zI 0
      · rw [if_pos h0, if_pos h0]; exact ⟨_, Y, M2, rfl, rfl, hR⟩
      · rw [if_neg h0, if_neg h0]; exact ⟨_, Y, M2, rfl, rfl, hR⟩
    · rw [if_neg hK, bd_ok, show (-3 : Int32) = zI (-3) from rfl, i_le (by omega) (by omega), if_neg (c := (0 : Int) ≤ -3) (by omega)]
      by_cases h0 : k < 0
      · rw [if_pos h0]; exact ⟨_, X, M, rfl, rfl, h.rel⟩
      · rw [if_neg h0, if_neg (by omega)]; exact ⟨_, X, M, rfl, rfl, h.rel⟩
  · rw [if_neg hB, decide_eq_false hB, i_b, if_pos (c := (!false) = true) rfl, bd_ok, zlm1, i_le (by omega) (by omega), if_neg (by omega)]
    exact ⟨_, X, M, rfl, rfl, h.rel⟩
