/-! how far a placement is -/
def cnB : Nat → (Nat → Bool) → Nat
  | 0, _ => 0
  | n + 1, f => cnB n f + (if f n then 1 else 0)
theorem cnB_le (f : Nat → Bool) : ∀ n, cnB n f ≤ n := by
  intro n
  induction n with
  | zero => simp [cnB]
  | succ n ih => unfold cnB; split <;> omega
theorem cnB_mono {f h : Nat → Bool} : ∀ n, (∀ i, i < n → h i = true → f i = true) → cnB n h ≤ cnB n f := by
  intro n
  induction n with
  | zero => intro _; simp [cnB]
  | succ n ih =>
    intro hh
    have h1 := ih (fun i hi => hh i (by omega))
    have h2 := hh n (by omega)
    unfold cnB
    cases hn : h n
    · rw [if_neg (by simp)]; omega
    · rw [h2 hn]; omega
theorem cnB_lt {f h : Nat → Bool} : ∀ n, (∀ i, i < n → h i = true → f i = true) → (∃ i, i < n ∧ f i = true ∧ h i = false) → cnB n h < cnB n f := by
  intro n
  induction n with
  | zero => intro _ ⟨i, hi, _⟩; omega
  | succ n ih =>
    intro hh ⟨i, hi, h1, h2⟩
    unfold cnB
    by_cases hin : i = n
    · subst hin
      rw [h1, h2, if_pos rfl, if_neg (by simp)]
      have := cnB_mono i (fun j hj => hh j (by omega))
      omega
    · have h3 := ih (fun i hi => hh i (by omega)) ⟨i, by omega, h1, h2⟩
      have h4 := hh n (by omega)
      cases hn : h n
      · rw [if_neg (c := false = true) (by simp)]; omega
      · rw [h4 hn]; omega
def rch (nx : Nat → Nat → Int) (gl : Nat → Bool) : Nat → Nat → Bool
  | 0, P => gl P
  | n + 1, P => rch nx gl n P || anyB 6 fun k => decide (0 ≤ nx P k) && rch nx gl n (nx P k).toNat
theorem rch_up {nx : Nat → Nat → Int} {gl : Nat → Bool} {P : Nat} : ∀ {n m : Nat}, n ≤ m → rch nx gl n P = true → rch nx gl m P = true := by
  intro n m h h1
  induction m with
  | zero => rw [show n = 0 by omega] at h1; exact h1
  | succ m ih =>
    by_cases hn : n = m + 1
    · rw [← hn]; exact h1
    · show (rch nx gl m P || _) = true
      rw [ih (by omega)]; rfl
theorem rch_step {nx : Nat → Nat → Int} {gl : Nat → Bool} {P k n : Nat} (hk : k < 6) (h0 : 0 ≤ nx P k) (h : rch nx gl n (nx P k).toNat = true) : rch nx gl (n + 1) P = true := by
  show (rch nx gl n P || _) = true
  rw [Bool.or_eq_true]
  exact Or.inr (anyB_iff.mpr ⟨k, hk, by rw [decide_eq_true h0, h]; rfl⟩)
theorem rch_cases {nx : Nat → Nat → Int} {gl : Nat → Bool} {P n : Nat} (h : rch nx gl (n + 1) P = true) : rch nx gl n P = true ∨ ∃ k, k < 6 ∧ 0 ≤ nx P k ∧ rch nx gl n (nx P k).toNat = true := by
  have h : (rch nx gl n P || anyB 6 fun k => decide (0 ≤ nx P k) && rch nx gl n (nx P k).toNat) = true := h
  rw [Bool.or_eq_true] at h
  rcases h with h | h
  · exact Or.inl h
  · obtain ⟨k, hk, h2⟩ := anyB_iff.mp h
    rw [Bool.and_eq_true] at h2
    exact Or.inr ⟨k, hk, of_decide_eq_true h2.1, h2.2⟩
/-- the least number of steps, -1 where there is none -/
def isD (nx : Nat → Nat → Int) (gl : Nat → Bool) (f : Nat → Int) : Prop := ∀ P, P < 256 → (f P = -1 ∧ ∀ n, rch nx gl n P = false) ∨ ∃ n : Nat, f P = n ∧ n ≤ 300 ∧ rch nx gl n P = true ∧ ∀ m, m < n → rch nx gl m P = false
theorem isD_uniq {nx : Nat → Nat → Int} {gl : Nat → Bool} {f h : Nat → Int} (h1 : isD nx gl f) (h2 : isD nx gl h) {P : Nat} (hP : P < 256) : f P = h P := by
  rcases h1 P hP with ⟨a1, a2⟩ | ⟨n, a1, a0, a2, a3⟩
  · rcases h2 P hP with ⟨b1, b2⟩ | ⟨m, b1, b0, b2, b3⟩
    · omega
    · rw [a2 m] at b2; cases b2
  · rcases h2 P hP with ⟨b1, b2⟩ | ⟨m, b1, b0, b2, b3⟩
    · rw [b2 n] at a2; cases a2
    · have : n = m := by
        rcases Nat.lt_trichotomy n m with h | h | h
        · rw [b3 n h] at a2; cases a2
        · exact h
        · rw [a3 m h] at b2; cases b2
      omega
theorem isD_bd {nx : Nat → Nat → Int} {gl : Nat → Bool} {f : Nat → Int} (h : isD nx gl f) {P : Nat} (hP : P < 256) : -1 ≤ f P ∧ f P ≤ 300 := by
  rcases h P hP with ⟨a1, a2⟩ | ⟨n, a1, a0, a2, a3⟩ <;> omega
theorem isD_0 {nx : Nat → Nat → Int} {gl : Nat → Bool} {f : Nat → Int} (h : isD nx gl f) {P : Nat} (hP : P < 256) : f P = 0 ↔ gl P = true := by
  rcases h P hP with ⟨a1, a2⟩ | ⟨n, a1, a0, a2, a3⟩
  · have : gl P = false := a2 0
    rw [this]; constructor
    · intro h; omega
    · intro h; cases h
  · constructor
    · intro h
      have : n = 0 := by omega
      subst this
      exact a2
    · intro h
      by_cases hn : n = 0
      · omega
      · have : gl P = false := a3 0 (by omega)
        rw [this] at h; cases h
/-! the passes of the reference -/
def lds (nx : Nat → Nat → Int) (f : Nat → Int) (n : Nat) (P : Nat) : Bool := anyB 6 fun k => decide (0 ≤ nx P k) && decide (f (nx P k).toNat = (n : Int))
def lvS (nx : Nat → Nat → Int) (f : Nat → Int) (n P : Nat) : Int := if decide (f P < 0) && lds nx f n P then (n : Int) + 1 else f P
def lvI (nx : Nat → Nat → Int) (gl : Nat → Bool) (f : Nat → Int) (n : Nat) : Prop := ∀ P, P < 256 → (f P = -1 ∧ rch nx gl n P = false) ∨ ∃ m : Nat, f P = m ∧ m ≤ n ∧ rch nx gl m P = true ∧ ∀ l, l < m → rch nx gl l P = false
theorem lvI_step {nx : Nat → Nat → Int} {gl : Nat → Bool} {f : Nat → Int} {n : Nat} (hnx : ∀ P, P < 256 → ∀ k, k < 6 → nx P k < 256) (h : lvI nx gl f n) : lvI nx gl (lvS nx f n) (n + 1) := by
  intro P hP
  unfold lvS
  rcases h P hP with ⟨a1, a2⟩ | ⟨m, a1, a2, a3, a4⟩
  · rw [decide_eq_true (p := f P < 0) (by omega), Bool.true_and]
    cases hl : lds nx f n P
    · left
      rw [if_neg (by simp)]
      refine ⟨a1, ?_⟩
      cases hr : rch nx gl (n + 1) P
      · rfl
      · rcases rch_cases hr with h1 | ⟨k, hk, h1, h2⟩
        · rw [a2] at h1; cases h1
        · have hQ := hnx P hP k hk
          rcases h (nx P k).toNat (by omega) with ⟨b1, b2⟩ | ⟨m, b1, b2, b3, b4⟩
          · rw [b2] at h2; cases h2
          · by_cases hm : m = n
            · have := anyB_f.mp hl k hk
              rw [decide_eq_true h1, decide_eq_true (p := f (nx P k).toNat = (n : Int)) (by omega)] at this
              cases this
            · have := rch_up (m := n) (by omega) (rch_step hk h1 b3)
              rw [a2] at this; cases this
    · right
      rw [if_pos rfl]
      obtain ⟨k, hk, h2⟩ := anyB_iff.mp hl
      rw [Bool.and_eq_true] at h2
      have h3 := of_decide_eq_true h2.1
      have h4 := of_decide_eq_true h2.2
      have hQ := hnx P hP k hk
      refine ⟨n + 1, by omega, by omega, ?_, fun l hl => ?_⟩
      · rcases h (nx P k).toNat (by omega) with ⟨b1, b2⟩ | ⟨m, b1, b2, b3, b4⟩
        · omega
        · rw [show n = m by omega]
          exact rch_step hk h3 b3
      · cases hr : rch nx gl l P
        · rfl
        · rw [rch_up (m := n) (by omega) hr] at a2; cases a2
  · right
    rw [decide_eq_false (p := f P < 0) (by omega), Bool.false_and, if_neg (by simp)]
    exact ⟨m, a1, by omega, a3, a4⟩
theorem lvI_end {nx : Nat → Nat → Int} {gl : Nat → Bool} {f : Nat → Int} {n : Nat} (hn : n ≤ 300) (hnx : ∀ P, P < 256 → ∀ k, k < 6 → nx P k < 256) (h : lvI nx gl f n) (hno : ∀ P, P < 256 → (decide (f P < 0) && lds nx f n P) = false) : isD nx gl f := by
  have key : ∀ m P, P < 256 → f P = -1 → rch nx gl m P = false := by
    intro m
    induction m with
    | zero =>
      intro P hP h1
      cases hr : rch nx gl 0 P
      · rfl
      · rcases h P hP with ⟨a1, a2⟩ | ⟨m, a1, a2, a3, a4⟩
        · rw [rch_up (m := n) (by omega) hr] at a2; cases a2
        · omega
    | succ m ih =>
      intro P hP h1
      cases hr : rch nx gl (m + 1) P
      · rfl
      · rcases rch_cases hr with h2 | ⟨k, hk, h2, h3⟩
        · rw [ih P hP h1] at h2; cases h2
        · have hQ := hnx P hP k hk
          rcases h (nx P k).toNat (by omega) with ⟨b1, b2⟩ | ⟨q, b1, b2, b3, b4⟩
          · rw [ih _ (by omega) b1] at h3; cases h3
          · by_cases hm : q = n
            · have h4 := hno P hP
              rw [decide_eq_true (p := f P < 0) (by omega), Bool.true_and] at h4
              have := anyB_f.mp h4 k hk
              rw [decide_eq_true h2, decide_eq_true (p := f (nx P k).toNat = (n : Int)) (by omega)] at this
              cases this
            · have h5 := rch_up (m := n) (by omega) (rch_step hk h2 b3)
              rcases h P hP with ⟨a1, a2⟩ | ⟨m, a1, a2, a3, a4⟩
              · rw [a2] at h5; cases h5
              · omega
  intro P hP
  rcases h P hP with ⟨a1, a2⟩ | ⟨m, a1, a2, a3, a4⟩
  · exact Or.inl ⟨a1, fun m => key m P hP a1⟩
  · exact Or.inr ⟨m, a1, by omega, a3, a4⟩
def mF (b : Nat) (nx : Nat → Nat → Int) (M Y : St) (f : Nat → Int) : Prop := agr [6, 7] [] [23, 24] [] M Y ∧ (∀ P, P < 256 → Y.2.2.1 24 (256 * b + P) = zI (f P)) ∧ (∀ P, P < 256 → ∀ k, k < 6 → Y.2.2.1 23 (6 * P + k) = zI (nx P k)) ∧ ∀ j, j < 256 * b ∨ 256 * b + 256 ≤ j → Y.2.2.1 24 j = M.2.2.1 24 j
theorem m_leadsTo {N : Nat} {b : Nat} {nx : Nat → Nat → Int} {M Y : St} {f : Nat → Int} (hN : 100 ≤ N) (hb : b < 5) (hnx : ∀ P, P < 256 → ∀ k, k < 6 → -1 ≤ nx P k ∧ nx P k < 256) (hf : ∀ P, P < 256 → -1 ≤ f P ∧ f P ≤ 1000) (h : mF b nx M Y f) {P n : Nat} (hP : P < 256) (hn : n ≤ 1000) : fX9_leadsTo N (zI b) (zI P) (zI n) Y = some (lds nx f n P, Y) := by
  have key : ∀ (d k m : Nat), k + d = 6 → d < m → (anyB k fun k => decide (0 ≤ nx P k) && decide (f (nx P k).toNat = (n : Int))) = false → fX9_leadsTo_3 N m (zI b) (zI P) (zI n) (zI k) Y = some (lds nx f n P, Y) := by
    intro d
    induction d with
    | zero =>
      intro k m hk hm hpre
      obtain ⟨m, rfl⟩ : ∃ n', m = n' + 1 := ⟨m - 1, by omega⟩
      show fX9_leadsTo_3b N (fX9_leadsTo_3 N m) (zI b) (zI P) (zI n) (zI k) Y = _
      unfold fX9_leadsTo_3b
      rw [zl6, i_le (by omega) (by omega), if_pos (by omega)]
      unfold lds
      rw [← hpre, show k = 6 by omega]
    | succ d ih =>
      intro k m hk hm hpre
      obtain ⟨m, rfl⟩ : ∃ n', m = n' + 1 := ⟨m - 1, by omega⟩
      have hq := hnx P hP k (by omega)
      have go : (decide (0 ≤ nx P k) && decide (f (nx P k).toNat = (n : Int))) = false → fX9_leadsTo_48 N (fX9_leadsTo_3 N m) (zI b) (zI P) (zI n) (zI k) Y = some (lds nx f n P, Y) := fun h0 => by
        unfold fX9_leadsTo_48
        rw [zl1, zA]
        exact ih (k + 1) m (by omega) (by omega) (by simp only [anyB]; rw [hpre, h0]; rfl)
      show fX9_leadsTo_3b N (fX9_leadsTo_3 N m) (zI b) (zI P) (zI n) (zI k) Y = _
      unfold fX9_leadsTo_3b
      rw [zl6, i_le (by omega) (by omega), if_neg (by omega), zM, zA, ck_z (by omega) (by omega) (by omega), z_cl (by omega) (by omega), show ((6 * (P : Int) + (k : Int))).toNat = 6 * P + k by omega, h.2.2.1 P hP k (by omega), nm_ok, zl0, i_lt (by omega) (by omega)]
      by_cases h0 : nx P k < 0
      · rw [if_pos h0]
        exact go (by rw [decide_eq_false (p := 0 ≤ nx P k) (by omega)]; rfl)
      · have hfq := hf (nx P k).toNat (by omega)
        rw [if_neg h0, zl256, zM, zA, ck_z (by omega) (by omega) (by omega), z_cl (by omega) (by omega), show ((256 * (b : Int) + nx P k)).toNat = 256 * b + (nx P k).toNat by omega, h.2.1 _ (by omega), i_eq (by omega) (by omega)]
        by_cases h1 : f (nx P k).toNat = (n : Int)
        · rw [if_pos h1]
          have : lds nx f n P = true := anyB_iff.mpr ⟨k, by omega, by rw [decide_eq_true h1, decide_eq_true (p := 0 ≤ nx P k) (by omega)]; rfl⟩
          rw [this]
        · rw [if_neg h1]
          exact go (by rw [decide_eq_false h1, Bool.and_false])
  exact key 6 0 N (by omega) (by omega) rfl
