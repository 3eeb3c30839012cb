/-! the reference finds how far -/
theorem mF.cong {b : Nat} {nx : Nat → Nat → Int} {M Y : St} {f h : Nat → Int} (m : mF b nx M Y f) (e : ∀ P, P < 256 → f P = h P) : mF b nx M Y h := ⟨m.1, fun P hP => by rw [← e P hP]; exact m.2.1 P hP, m.2.2⟩
theorem lds_eq {nx : Nat → Nat → Int} {f h : Nat → Int} {n P : Nat} (hnx : ∀ P, P < 256 → ∀ k, k < 6 → -1 ≤ nx P k ∧ nx P k < 256) (hP : P < 256) (e : ∀ Q, Q < 256 → (f Q = (n : Int) ↔ h Q = (n : Int))) : lds nx f n P = lds nx h n P := by
  unfold lds
  have key : ∀ k, k < 6 → (decide (0 ≤ nx P k) && decide (f (nx P k).toNat = (n : Int))) = (decide (0 ≤ nx P k) && decide (h (nx P k).toNat = (n : Int))) := fun k hk => by
    have hq := hnx P hP k hk
    by_cases h0 : 0 ≤ nx P k
    · have := e (nx P k).toNat (by omega)
      by_cases h1 : f (nx P k).toNat = (n : Int)
      · rw [decide_eq_true h1, decide_eq_true (this.mp h1)]
      · rw [decide_eq_false h1, decide_eq_false (fun z => h1 (this.mpr z))]
    · rw [decide_eq_false h0]; rfl
  exact anyB_cong key
theorem mF.s24 {b : Nat} {nx : Nat → Nat → Int} {M Y : St} {f : Nat → Int} (hb : b < 5) (m : mF b nx M Y f) {P : Nat} (hP : P < 256) (v : Int) : mF b nx M (sA Y 24 (256 * b + P) (zI v)) (fun Q => if Q = P then v else f Q) := by
  refine ⟨agr.sA m.1 (by simp) _ _, fun Q hQ => ?_, fun Q hQ k hk => ?_, fun j hj => ?_⟩
  · by_cases h : Q = P
    · subst h; dsimp only; rw [sA_same, if_pos rfl]
    · dsimp only; rw [sA_oth _ _ (by omega), if_neg h]; exact m.2.1 Q hQ
  · rw [sA_ne _ _ _ (by decide)]; exact m.2.2.1 Q hQ k hk
  · rw [sA_oth _ _ (by omega)]; exact m.2.2.2 j hj
theorem m_far168 {N : Nat} {b : Nat} {nx : Nat → Nat → Int} {M : St} {f : Nat → Int} {n : Nat} (hN : 300 ≤ N) (hb : b < 5) (hnx : ∀ P, P < 256 → ∀ k, k < 6 → -1 ≤ nx P k ∧ nx P k < 256) (hf : ∀ P, P < 256 → -1 ≤ f P ∧ f P ≤ n) (hn : n ≤ 300) (K : Int32 → Bool → Int32 → St → Option (Unit × St)) :
    ∀ (d P m : Nat) (Y : St), P + d = 256 → d < m → mF b nx M Y (fun Q => if Q < P then lvS nx f n Q else f Q) → ∃ Y2, fX9_findFar_168 N K m (zI b) (anyB P fun Q => decide (f Q < 0) && lds nx f n Q) (zI n) (zI P) Y = K (zI b) (anyB 256 fun Q => decide (f Q < 0) && lds nx f n Q) (zI (n + 1 : Nat)) Y2 ∧ mF b nx M Y2 (lvS nx f n) := by
  intro d
  induction d with
  | zero =>
    intro P m Y hP hm hY
    obtain ⟨m, rfl⟩ : ∃ n', m = n' + 1 := ⟨m - 1, by omega⟩
    have : P = 256 := by omega
    subst this
    refine ⟨Y, ?_, hY.cong (fun Q hQ => by rw [if_pos hQ])⟩
    show fX9_findFar_168b N K (fX9_findFar_168 N K m) (zI b) _ (zI n) (zI (256 : Nat)) Y = _
    unfold fX9_findFar_168b
    rw [zl256, i_le (by omega) (by omega), if_pos (by omega), zl1, zA]
    rfl
  | succ d ih =>
    intro P m Y hP hm hY
    obtain ⟨m, rfl⟩ : ∃ n', m = n' + 1 := ⟨m - 1, by omega⟩
    have hPl : P < 256 := by omega
    have hv : Y.2.2.1 24 (256 * b + P) = zI (f P) := by rw [hY.2.1 P hPl]; simp
    have hb1 := hf P hPl
    have hS : ∀ Q, Q < 256 → -1 ≤ lvS nx f n Q ∧ lvS nx f n Q ≤ n + 1 := fun Q hQ => by
      have := hf Q hQ
      unfold lvS
      split <;> omega
    have go : ∀ (Y2 : St), mF b nx M Y2 (fun Q => if Q < P + 1 then lvS nx f n Q else f Q) → ∃ Y3, fX9_findFar_221 N K (fX9_findFar_168 N K m) (zI b) (anyB (P + 1) fun Q => decide (f Q < 0) && lds nx f n Q) (zI n) (zI P) Y2 = K (zI b) (anyB 256 fun Q => decide (f Q < 0) && lds nx f n Q) (zI (n + 1 : Nat)) Y3 ∧ mF b nx M Y3 (lvS nx f n) := fun Y2 h2 => by
      unfold fX9_findFar_221
      rw [zl1, zA]
      exact ih (P + 1) m Y2 (by omega) (by omega) h2
    have stay : (decide (f P < 0) && lds nx f n P) = false → mF b nx M Y (fun Q => if Q < P + 1 then lvS nx f n Q else f Q) ∧ (anyB (P + 1) fun Q => decide (f Q < 0) && lds nx f n Q) = (anyB P fun Q => decide (f Q < 0) && lds nx f n Q) := fun h0 => by
      refine ⟨hY.cong fun Q hQ => ?_, ?_⟩
      · by_cases h1 : Q < P
        · rw [if_pos h1, if_pos (by omega)]
        · by_cases h2 : Q = P
          · subst h2
            rw [if_neg (by omega), if_pos (by omega)]
            unfold lvS
            rw [h0, if_neg (by simp)]
          · rw [if_neg h1, if_neg (by omega)]
      · simp only [anyB]; rw [h0, Bool.or_false]
    show ∃ Y2, fX9_findFar_168b N K (fX9_findFar_168 N K m) (zI b) (anyB P fun Q => decide (f Q < 0) && lds nx f n Q) (zI n) (zI P) Y = K (zI b) (anyB 256 fun Q => decide (f Q < 0) && lds nx f n Q) (zI (n + 1 : Nat)) Y2 ∧ mF b nx M Y2 (lvS nx f n)
    unfold fX9_findFar_168b
    rw [zl256, i_le (by omega) (by omega), if_neg (by omega), zM, zA, ck_z (by omega) (by omega) (by omega), z_cl (by omega) (by omega), show ((256 * (b : Int) + (P : Int))).toNat = 256 * b + P by omega, hv, zl0, i_le (by omega) (by omega)]
    by_cases h0 : 0 ≤ f P
    · rw [if_pos h0]
      obtain ⟨s1, s2⟩ := stay (by rw [decide_eq_false (p := f P < 0) (by omega)]; rfl)
      rw [← s2]
      exact go Y s1
    · rw [if_neg h0, m_leadsTo (by omega) hb hnx (fun Q hQ => by
        have := hS Q hQ
        have := hf Q hQ
        split <;> omega) hY hPl (by omega), bd_ok, i_b]
      have hl : lds nx (fun Q => if Q < P then lvS nx f n Q else f Q) n P = lds nx f n P := lds_eq hnx hPl (fun Q hQ => by
        by_cases h1 : Q < P
        · rw [if_pos h1]
          unfold lvS
          by_cases h2 : (decide (f Q < 0) && lds nx f n Q) = true
          · rw [if_pos h2]
            rw [Bool.and_eq_true] at h2
            have := of_decide_eq_true h2.1
            omega
          · rw [if_neg h2]
        · rw [if_neg h1])
      rw [hl]
      cases hld : lds nx f n P
      · rw [if_neg (c := false = true) (by simp)]
        obtain ⟨s1, s2⟩ := stay (by rw [hld, Bool.and_false])
        rw [← s2]
        exact go Y s1
      · rw [if_pos rfl, ck_z (by omega) (by omega) (by omega), stp_ok, zl1, zA]
        have e : (anyB (P + 1) fun Q => decide (f Q < 0) && lds nx f n Q) = true := anyB_iff.mpr ⟨P, by omega, by rw [hld, decide_eq_true (p := f P < 0) (by omega)]; rfl⟩
        have := go (sA Y 24 (256 * b + P) (zI ((n : Int) + 1))) ((hY.s24 hb hPl _).cong fun Q hQ => by
          by_cases h1 : Q = P
          · subst h1
            rw [if_pos rfl, if_pos (by omega)]
            unfold lvS
            rw [hld, decide_eq_true (p := f Q < 0) (by omega)]
            rfl
          · rw [if_neg h1]
            by_cases h2 : Q < P
            · rw [if_pos h2, if_pos (by omega)]
            · rw [if_neg h2, if_neg (by omega)])
        rw [e] at this
        exact this
theorem m_far159 {N : Nat} {b : Nat} {nx : Nat → Nat → Int} {gl : Nat → Bool} {M : St} (hN : 300 ≤ N) (hb : b < 5) (hnx : ∀ P, P < 256 → ∀ k, k < 6 → -1 ≤ nx P k ∧ nx P k < 256) :
    ∀ (d n m : Nat) (f : Nat → Int) (Y : St), cnB 256 (fun P => decide (f P < 0)) ≤ d → d + 1 < m → n + d ≤ 256 → mF b nx M Y f → lvI nx gl f n → ∃ Y2 f2, fX9_findFar_159 N m (zI b) true (zI n) Y = some ((), Y2) ∧ mF b nx M Y2 f2 ∧ isD nx gl f2 := by
  intro d
  induction d with
  | zero =>
    intro n m f Y hc hm hnd hY hI
    obtain ⟨m, rfl⟩ : ∃ n', m = n' + 2 := ⟨m - 2, by omega⟩
    have hbd : ∀ P, P < 256 → -1 ≤ f P ∧ f P ≤ n := fun P hP => by
      rcases hI P hP with ⟨a1, a2⟩ | ⟨q, a1, a2, a3, a4⟩ <;> omega
    have hno : ∀ P, P < 256 → (decide (f P < 0) && lds nx f n P) = false := fun P hP => by
      cases h : decide (f P < 0)
      · rfl
      · have h1 := cnB_lt (f := fun P => decide (f P < 0)) (h := fun _ => false) 256 (fun _ _ h => by cases h) ⟨P, hP, h, rfl⟩
        omega
    show ∃ Y2 f2, fX9_findFar_159b N (fX9_findFar_159 N (m + 1)) (zI b) true (zI n) Y = some ((), Y2) ∧ mF b nx M Y2 f2 ∧ isD nx gl f2
    unfold fX9_findFar_159b
    rw [zl0, i_b, if_pos rfl]
    obtain ⟨Y2, e, hY2⟩ := m_far168 hN hb hnx hbd (by omega) (fX9_findFar_159 N (m + 1)) 256 0 N Y (by omega) (by omega) (hY.cong fun Q hQ => by rw [if_neg (by omega)])
    have e' : fX9_findFar_168 N (fX9_findFar_159 N (m + 1)) N (zI b) false (zI n) (zI 0) Y = _ := e
    rw [e', anyB_f.mpr hno]
    refine ⟨Y2, f, ?_, hY2.cong (fun Q hQ => by unfold lvS; rw [hno Q hQ, if_neg (by simp)]), lvI_end (by omega) (fun P hP k hk => (hnx P hP k hk).2) hI hno⟩
    show fX9_findFar_159b N (fX9_findFar_159 N m) (zI b) false (zI (n + 1 : Nat)) Y2 = _
    unfold fX9_findFar_159b
    rw [zl0, i_b, if_neg (by simp)]
  | succ d ih =>
    intro n m f Y hc hm hnd hY hI
    obtain ⟨m, rfl⟩ : ∃ n', m = n' + 2 := ⟨m - 2, by omega⟩
    have hbd : ∀ P, P < 256 → -1 ≤ f P ∧ f P ≤ n := fun P hP => by
      rcases hI P hP with ⟨a1, a2⟩ | ⟨q, a1, a2, a3, a4⟩ <;> omega
    show ∃ Y2 f2, fX9_findFar_159b N (fX9_findFar_159 N (m + 1)) (zI b) true (zI n) Y = some ((), Y2) ∧ mF b nx M Y2 f2 ∧ isD nx gl f2
    unfold fX9_findFar_159b
    rw [zl0, i_b, if_pos rfl]
    obtain ⟨Y2, e, hY2⟩ := m_far168 hN hb hnx hbd (by omega) (fX9_findFar_159 N (m + 1)) 256 0 N Y (by omega) (by omega) (hY.cong fun Q hQ => by rw [if_neg (by omega)])
    have e' : fX9_findFar_168 N (fX9_findFar_159 N (m + 1)) N (zI b) false (zI n) (zI 0) Y = _ := e
    rw [e']
    cases hany : (anyB 256 fun Q => decide (f Q < 0) && lds nx f n Q)
    · have hno := anyB_f.mp hany
      refine ⟨Y2, f, ?_, hY2.cong (fun Q hQ => by unfold lvS; rw [hno Q hQ, if_neg (by simp)]), lvI_end (by omega) (fun P hP k hk => (hnx P hP k hk).2) hI hno⟩
      show fX9_findFar_159b N (fX9_findFar_159 N m) (zI b) false (zI (n + 1 : Nat)) Y2 = _
      unfold fX9_findFar_159b
      rw [zl0, i_b, if_neg (by simp)]
    · obtain ⟨Q, hQ, h1⟩ := anyB_iff.mp hany
      have h2 := h1
      rw [Bool.and_eq_true] at h2
      have hlt := cnB_lt (f := fun P => decide (f P < 0)) (h := fun P => decide (lvS nx f n P < 0)) 256 (fun i hi h => by
        have h3 := of_decide_eq_true h
        unfold lvS at h3
        split at h3
        · omega
        · exact decide_eq_true h3) ⟨Q, hQ, h2.1, by
          unfold lvS
          rw [h1, if_pos rfl]
          exact decide_eq_false (by omega)⟩
      exact ih (n + 1) (m + 1) (lvS nx f n) Y2 (by omega) (by omega) (by omega) hY2 (lvI_step (fun P hP k hk => (hnx P hP k hk).2) hI)
/-! the goals, and the steps of a block alone -/
def atG (gx gy gt : Nat → Int) (b P : Nat) : Bool := decide (((P % 8 : Nat) : Int) = gx b) && (decide (((P / 8 % 8 : Nat) : Int) = gy b) && (decide (gt b = 4) || decide (gt b = ((P / 64 : Nat) : Int))))
def mG (gx gy gt : Nat → Int) (M : St) : Prop := ∀ b, b < 5 → M.2.2.1 6 b = zI (gx b) ∧ M.2.2.1 7 b = zI (gy b) ∧ M.2.2.1 8 b = zI (gt b)
def bG (gx gy gt : Nat → Int) : Prop := ∀ b, -1 ≤ gx b ∧ gx b < 100 ∧ -1 ≤ gy b ∧ gy b < 100 ∧ -1 ≤ gt b ∧ gt b ≤ 4
def glb (g : Lv) (gx gy gt : Nat → Int) (b P : Nat) : Bool := plc g b P && (decide (gt b < 0) || atG gx gy gt b P)
def stb (g : Lv) (b P k : Nat) : Bool := plc g b P && (if k < 4 then saB g b P k else taB g b P (k == 4))
def nxb (g : Lv) (b P k : Nat) : Int := if stb g b P k then pbI P k else -1
theorem nxb_bd {g : Lv} (hw : wfL g) {b : Nat} (hb : b < 5) (h0 : 0 < gN g b) : ∀ P, P < 256 → ∀ k, k < 6 → -1 ≤ nxb g b P k ∧ nxb g b P k < 256 := by
  intro P hP k hk
  unfold nxb
  cases h : stb g b P k
  · rw [if_neg (by simp)]; omega
  · rw [if_pos rfl]
    unfold stb at h
    rw [Bool.and_eq_true] at h
    by_cases hk4 : k < 4
    · rw [if_pos hk4] at h
      obtain ⟨ip, hip, hpiv⟩ := hw.2.2.2.2 b hb h0
      have hc := piv (p := P) hpiv
      have h2 := allB_iff.mp h.2 ip hip
      unfold sa1 at h2
      rw [Bool.and_eq_true, hc.1, hc.2] at h2
      obtain ⟨n, e1, e2, e3⟩ := pb_cell hw hP hk4 (fr_in h2.1).1
      omega
    · unfold pbI
      rw [if_neg hk4]
      have := Nat.mod_lt (P + (if k = 4 then 64 else 192)) (show 0 < 256 by decide)
      omega
theorem m_isAtGoal {N : Nat} {M : St} {gx gy gt : Nat → Int} (hG : mG gx gy gt M) (hB : bG gx gy gt) {b P : Nat} (hb : b < 5) (hP : P < 256) : fX9_isAtGoal N (zI b) (zI P) M = some (atG gx gy gt b P, M) := by
  have h1 := hG b hb
  have h2 := hB b
  unfold fX9_isAtGoal fX9_isAtGoal_52 fX9_isAtGoal_56 fX9_isAtGoal_57 atG
  rw [ck_z (by omega) (by omega) (by omega), ck_z (by omega) (by omega) (by omega), ck_z (by omega) (by omega) (by omega), ck_z (by omega) (by omega) (by omega), z_cl (by omega) (by omega), show ((b : Int)).toNat = b by omega, h1.1, h1.2.1, h1.2.2, zl8, zl4, show (64 : Int32) = zI 64 from rfl, z_rem (a := (P : Int)) (b := 8) (by omega) (by omega) (by omega) (by omega), z_div (a := (P : Int)) (b := 8) (by omega) (by omega) (by omega) (by omega), z_rem (a := (P : Int) / 8) (b := 8) (by omega) (by omega) (by omega) (by omega), z_div (a := (P : Int)) (b := 64) (by omega) (by omega) (by omega) (by omega), i_eq (by omega) (by omega), i_eq (by omega) (by omega), i_eq (by omega) (by omega), i_eq (by omega) (by omega)]
  by_cases e1 : ((P % 8 : Nat) : Int) = gx b
  · rw [decide_eq_true e1, if_pos (by omega)]
    by_cases e2 : ((P / 8 % 8 : Nat) : Int) = gy b
    · rw [decide_eq_true e2, if_pos (by omega)]
      by_cases e3 : gt b = 4
      · rw [decide_eq_true e3, if_pos e3]; rfl
      · rw [decide_eq_false e3, if_neg e3]
        by_cases e4 : gt b = ((P / 64 : Nat) : Int)
        · rw [decide_eq_true e4, if_pos (by omega)]; rfl
        · rw [decide_eq_false e4, if_neg (by omega)]; rfl
    · rw [decide_eq_false e2, if_neg (by omega)]; rfl
  · rw [decide_eq_false e1, if_neg (by omega)]; rfl
