/-! goals set and cleared -/
theorem RelP.goal {g : Lv} {wt th : Nat → Nat} {st : Nat} {gx gy gt gx2 gy2 gt2 : Nat → Int} {D D2 : Nat → Nat → Int} {p : Nat → Nat} {X M X2 M2 : St} {b : Nat} (hb5 : b < 5) (h : RelP g wt th st gx gy gt D p X M) (a : agr [15 + b, 20 + b, 32] [] [2, 14 + b] [] X X2) (m : agr [] [] [6, 7, 8] [] M M2) (hB : bG gx2 gy2 gt2) (hD : hasD g gx2 gy2 gt2 D2) (hM : mG gx2 gy2 gt2 M2) (hx : xG g gx2 gy2 gt2 X2) (hd : xD g gt2 D2 X2) (h32 : X2.1 32 = zI 0) : RelP g wt th st gx2 gy2 gt2 D2 p X2 M2 := by
  obtain ⟨h1, h2, h3, h4, h5, h6, h7, h8, h9, h10⟩ := h
  refine ⟨⟨h1.1, h1.2.1, h1.2.2.1, h1.2.2.2.1, hB, hD⟩, h2, ⟨h3.1.ag a (by simp; omega) (by simp; omega) (by simp) (by simp) (by simp; omega) (by simp) (by simp) (by simp), h3.2.1.ag a (fun c hc => by simp; omega) (fun c hc => by simp; omega) (fun c hc => by simp; omega) (fun c hc => by simp), fun c hc hn => by rw [a.1 _ (by simp; omega)]; exact h3.2.2.1 c hc hn, fun r hr => by rw [a.2.2.1 1 (by simp; omega)]; exact h3.2.2.2.1 r hr, by rw [a.1 2 (by simp; omega)]; exact h3.2.2.2.2.1, hd⟩, ⟨h4.1.ag m (by decide) (by decide) (by decide) (by decide) (by decide) (by decide), h4.2.1.ag m (by decide), h4.2.2.1.ag m (by decide), by rw [m.1 2 (by decide)]; exact h4.2.2.2.1, hM, fun z => by cases z⟩, h5.ag m (by decide), hx, ?_, ?_, ?_, Or.inl h32⟩
  · unfold rHi
    rw [a.1 28 (by simp; omega), a.1 29 (by simp; omega), m.1 8 (by decide), m.1 9 (by decide), a.2.2.1 27 (by simp; omega), a.2.2.1 26 (by simp; omega), a.2.2.2 11 (by simp), m.2.2.2 0 (by decide), m.2.2.2 1 (by decide), m.2.2.1 20 (by decide), m.2.2.1 21 (by decide)]; exact h7
  · unfold rSl
    rw [a.1 0 (by simp; omega), m.2.2.1 22 (by decide), a.2.2.2 0 (by simp), m.2.2.2 2 (by decide)]; exact h8
  · unfold rTx
    rw [a.1 1 (by simp; omega), m.1 3 (by decide), a.2.2.1 0 (by simp; omega), m.2.2.1 10 (by decide)]; exact h9
theorem fA_ne (S : St) {k q : Nat} (f : Nat → Int32) (h : q ≠ k) : (fA S k f).2.2.1 q = S.2.2.1 q := if_neg h
theorem D_none {g : Lv} {gx gy gt : Nat → Int} {b : Nat} (hgt : gt b < 0) : isD (nxb g b) (glb g gx gy gt b) (fun P => if plc g b P then 0 else -1) := by
  have hgl : ∀ P, glb g gx gy gt b P = plc g b P := fun P => by unfold glb; rw [decide_eq_true hgt, Bool.true_or, Bool.and_true]
  intro P hP
  dsimp only
  cases hpl : plc g b P
  · left
    refine ⟨by rw [if_neg (by simp)], fun n => ?_⟩
    induction n with
    | zero => show glb g gx gy gt b P = false; rw [hgl, hpl]
    | succ n ih =>
      cases hr : rch (nxb g b) (glb g gx gy gt b) (n + 1) P
      · rfl
      · rcases rch_cases hr with h1 | ⟨k, hk, h1, h2⟩
        · rw [ih] at h1; cases h1
        · unfold nxb stb at h1
          rw [hpl, Bool.false_and, if_neg (by simp)] at h1
          omega
  · right
    refine ⟨0, by rw [if_pos rfl]; rfl, by omega, ?_, fun m hm => by omega⟩
    show glb g gx gy gt b P = true
    rw [hgl, hpl]
theorem glb_off {g : Lv} {gx gy gt gx2 gy2 gt2 : Nat → Int} {b : Nat} (e1 : gx2 b = gx b) (e2 : gy2 b = gy b) (e3 : gt2 b = gt b) : glb g gx2 gy2 gt2 b = glb g gx gy gt b := by
  funext P
  unfold glb atG
  rw [e1, e2, e3]
theorem k_clearGoal {N : Nat} : ∀ (p1 : Int32) (X M : St), Rel X M → ∃ r X2 M2, fX8_clearGoal N p1 X = some (r, X2) ∧ fX9_clearGoal N p1 M = some (r, M2) ∧ Rel X2 M2 := by
  rintro p1 X M ⟨g, wt, th, st, gx, gy, gt, D, p, h⟩
  obtain ⟨q, rfl, hq⟩ := z_ex p1
  have hw := h.1.1
  unfold fX8_clearGoal fX9_clearGoal fX9_clearGoal_24 fX0_hasGoal fX0_hasGoal_13
  rw [x_has h.2.2.1.2.1 hw hq, bd_ok, m_noBlock h.2.2.2.1.1 hw hq, bd_ok, zl0, i_d]
  by_cases hB : 0 ≤ q ∧ q < 5 ∧ 0 < gN g q.toNat
  · obtain ⟨b, rfl⟩ : ∃ b : Nat, q = (b : Int) := ⟨q.toNat, by omega⟩
    rw [if_pos hB, decide_eq_true hB, i_b, if_neg (c := (!true) = true) (by simp)]
    rw [show ((b : Int)).toNat = b by omega] at hB
    have hb5 : b < 5 := by omega
    have hgb := h.1.2.2.2.2.1 b
    have hG := h.2.2.2.1.2.2.2.2.1
    have hxG := h.2.2.2.2.2.1 b hb5 hB.2.2
    rw [ck_z (by omega) (by omega) (by omega), ck_z (by omega) (by omega) (by omega), ck_z (by omega) (by omega) (by omega), z_cl (by omega) (by omega), show ((b : Int)).toNat = b by omega, (hG b hb5).2.2, i_le (by omega) (by omega), stp_ok, stp_ok, zlm1]
    by_cases hgt : 0 ≤ gt b
    · obtain ⟨x1, x2, x3⟩ := hxG.1 hgt
      obtain ⟨c1, c2, c3, c4⟩ := cel_in hw x1
      rw [if_pos hgt, x2, i_eq (by omega) (by omega), if_neg (by omega), bd_ok, i_b, if_pos (c := true = true) rfl, ck_z (by omega) (by omega) (by omega)]
      unfold fX0_dropGoal fX5_forget
      rw [stp_ok, stp_ok, stp_ok, bd_ok, stp_ok, bd_ok, zlm1]
      refine ⟨_, _, _, rfl, rfl, (h.goal (b := b) (gx2 := gx) (gy2 := gy) (gt2 := fun c => if c = b then -1 else gt c) (D2 := fun c => if c = b then (fun P => if plc g b P then 0 else -1) else D c) hb5 (agr.sI (agr.fA (agr.sI (agr.sI (agr.rf _) (by simp) _) (by simp) _) (by simp) _) (by simp) _) (agr.sA (agr.rf _) (by simp) _ _) (fun c => ?_) (fun c hc hn => ?_) (fun c hc => ?_) (fun c hc hn => ?_) (fun c hc P hP => ?_) (sI_same _ _ _)).rel⟩
      · have := h.1.2.2.2.2.1 c
        dsimp only
        split <;> omega
      · dsimp only
        by_cases hcb : c = b
        · subst hcb
          rw [if_pos rfl]
          exact D_none (by rw [if_pos rfl]; omega)
        · rw [if_neg hcb, glb_off (gx := gx) (gy := gy) (gt := gt) rfl rfl (by rw [if_neg hcb])]
          exact h.1.2.2.2.2.2 c hc hn
      · rw [sA_ne _ _ _ (by decide), sA_ne _ _ _ (by decide)]
        refine ⟨(hG c hc).1, (hG c hc).2.1, ?_⟩
        dsimp only
        by_cases hcb : c = b
        · subst hcb; rw [sA_same, if_pos rfl]
        · rw [sA_oth _ _ hcb, if_neg hcb]; exact (hG c hc).2.2
      · dsimp only
        by_cases hcb : c = b
        · subst hcb
          refine ⟨fun z => by rw [if_pos rfl] at z; omega, fun _ => ⟨?_, ?_⟩⟩
          · rw [sI_ne _ _ (by omega)]
            show (sI (sI X (15 + c) (zI (-1))) (20 + c) 4).1 (15 + c) = _
            rw [sI_ne _ _ (by omega), sI_same]
          · rw [sI_ne _ _ (by omega)]
            show (sI (sI X (15 + c) (zI (-1))) (20 + c) 4).1 (20 + c) = _
            rw [sI_same]; rfl
        · rw [if_neg hcb, sI_ne _ _ (by omega), sI_ne _ _ (by omega)]
          show (0 ≤ gt c → inY g (gx c) (gy c) ∧ (sI (sI X (15 + b) (zI (-1))) (20 + b) 4).1 (15 + c) = _ ∧ (sI (sI X (15 + b) (zI (-1))) (20 + b) 4).1 (20 + c) = _) ∧ (gt c < 0 → (sI (sI X (15 + b) (zI (-1))) (20 + b) 4).1 (15 + c) = _ ∧ (sI (sI X (15 + b) (zI (-1))) (20 + b) 4).1 (20 + c) = _)
          rw [sI_ne _ _ (by omega), sI_ne _ _ (by omega), sI_ne _ _ (by omega), sI_ne _ _ (by omega)]
          exact h.2.2.2.2.2.1 c hc hn
      · dsimp only
        by_cases hcb : c = b
        · subst hcb
          rw [if_neg (fun z => by have := z.2; rw [if_pos rfl] at this; omega)]
          show (fA (sI (sI X (15 + c) (zI (-1))) (20 + c) 4) (14 + c) (fil 256 0 _)).2.2.1 (14 + c) P = _
          rw [fA_at]
          unfold fil
          rw [if_pos hP]
          rfl
        · simp only [hcb, if_false]
          show (fA (sI (sI X (15 + b) (zI (-1))) (20 + b) 4) (14 + b) (fil 256 0 ((sI (sI X (15 + b) (zI (-1))) (20 + b) 4).2.2.1 (14 + b)))).2.2.1 (14 + c) P = _
          rw [fA_ne _ _ (by omega)]
          exact h.2.2.1.2.2.2.2.2 c hc P hP
    · obtain ⟨x1, x2⟩ := hxG.2 (by omega)
      rw [if_neg hgt, x1, if_pos rfl, bd_ok, i_b, if_neg (c := false = true) (by simp), ck_z (by omega) (by omega) (by omega)]
      refine ⟨_, X, _, rfl, rfl, ?_⟩
      have e : sA M 8 b (zI (-1)) = M := by
        have h8 : M.2.2.1 8 b = zI (-1) := by rw [(hG b hb5).2.2, show gt b = -1 by omega]
        have e2 : (sA M 8 b (zI (-1))).2.2.1 = M.2.2.1 := by
          funext k
          by_cases hk : k = 8
          · subst hk
            funext i
            by_cases hib : i = b
            · subst hib; rw [sA_same, h8]
            · rw [sA_oth _ _ hib]
          · rw [sA_ne _ _ _ hk]
        exact Prod.ext rfl (Prod.ext rfl (Prod.ext e2 rfl))
      rw [e]
      exact h.rel
  · rw [if_neg hB, decide_eq_false hB, i_b, if_pos (c := (!false) = true) rfl]
    exact ⟨_, X, M, rfl, rfl, h.rel⟩
