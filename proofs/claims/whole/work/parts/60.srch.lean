/-! the search, as both sides walk it -/
abbrev TT := Nat × (Nat → Nat) × (Nat → Nat) × (Nat → Nat) × (Nat → Nat)
def tL (T : TT) : Nat → Nat := T.2.1
def tO (T : TT) : Nat → Nat := T.2.2.1
def tV (T : TT) : Nat → Nat := T.2.2.2.1
def tS (T : TT) : Nat → Nat := T.2.2.2.2
def inL (T : TT) (v : Nat) : Bool := anyB T.1 fun i => decide (tL T i = v)
def app (T : TT) (v o m : Nat) : TT := (T.1 + 1, fun i => if i = T.1 then v else tL T i, fun i => if i = T.1 then o else tO T i, fun i => if i = T.1 then m else tV T i, fun i => if i = T.1 then tS T o + 1 else tS T i)
def T0 (v : Nat) : TT := (1, fun _ => v, fun _ => 0, fun _ => 0, fun _ => 0)
def tr1 (F : Nat → Nat → Nat → Nat) (dz so : Nat → Bool) (a b k : Nat) (T : TT) : Nat × TT := if F (tL T a) b k = 0 then (0, T) else if dz (F (tL T a) b k - 1) || inL T (F (tL T a) b k - 1) then (0, T) else if T.1 = 1200 then (2, T) else (if so (F (tL T a) b k - 1) then 1 else 0, app T (F (tL T a) b k - 1) a (10 * b + k))
def trk (F : Nat → Nat → Nat → Nat) (dz so : Nat → Bool) (a b : Nat) : Nat → Nat → TT → Nat × TT
  | 0, _, T => (0, T)
  | d + 1, k, T => if (tr1 F dz so a b k T).1 = 0 then trk F dz so a b d (k + 1) (tr1 F dz so a b k T).2 else tr1 F dz so a b k T
def trb (F : Nat → Nat → Nat → Nat) (dz so : Nat → Bool) (a : Nat) : Nat → Nat → TT → Nat × TT
  | 0, _, T => (0, T)
  | d + 1, b, T => if (trk F dz so a b 6 0 T).1 = 0 then trb F dz so a d (b + 1) (trk F dz so a b 6 0 T).2 else trk F dz so a b 6 0 T
def out (F : Nat → Nat → Nat → Nat) (dz so : Nat → Bool) (most : Nat) : Nat → Nat → TT → Nat × TT
  | 0, _, T => (0, T)
  | d + 1, a, T => if T.1 ≤ a ∨ most ≤ tS T a then (0, T) else if (trb F dz so a 5 0 T).1 = 0 then out F dz so most d (a + 1) (trb F dz so a 5 0 T).2 else trb F dz so a 5 0 T
/-- what holds of a list -/
def wT (ok : Nat → Prop) (T : TT) : Prop := 1 ≤ T.1 ∧ T.1 ≤ 1200 ∧ (∀ i, i < T.1 → ok (tL T i)) ∧ (∀ i, 0 < i → i < T.1 → tO T i < i ∧ tS T i = tS T (tO T i) + 1 ∧ tV T i < 100) ∧ tS T 0 = 0 ∧ ∀ i, i < T.1 → ∀ j, j < T.1 → tL T i = tL T j → i = j
theorem tS_bd {ok : Nat → Prop} {T : TT} (h : wT ok T) : ∀ i, i < T.1 → tS T i ≤ i := by
  intro i
  induction i using Nat.strongRecOn with
  | ind i ih =>
    intro hi
    by_cases h0 : i = 0
    · subst h0; rw [h.2.2.2.2.1]; omega
    · obtain ⟨a1, a2, a3⟩ := h.2.2.2.1 i (by omega) hi
      have := ih _ a1 (by omega)
      omega
theorem wT_0 {ok : Nat → Prop} {v : Nat} (h : ok v) : wT ok (T0 v) := ⟨Nat.le_refl _, by show 1 ≤ 1200; omega, fun _ _ => h, fun i hi hi2 => by have : i < 1 := hi2; omega, rfl, fun i hi j hj _ => by have : i < 1 := hi; have : j < 1 := hj; omega⟩
theorem inL_f {T : TT} {v : Nat} (h : inL T v = false) : ∀ i, i < T.1 → tL T i ≠ v := fun i hi z => by
  have := anyB_f.mp h i hi
  rw [decide_eq_true z] at this
  cases this
theorem wT_app {ok : Nat → Prop} {T : TT} {v a m : Nat} (h : wT ok T) (hc : T.1 ≠ 1200) (hv : ok v) (hn : inL T v = false) (ha : a < T.1) (hm : m < 100) : wT ok (app T v a m) := by
  obtain ⟨h1, h2, h3, h4, h5, h6⟩ := h
  have e1 : (app T v a m).1 = T.1 + 1 := rfl
  have eL : ∀ i, tL (app T v a m) i = if i = T.1 then v else tL T i := fun _ => rfl
  have eO : ∀ i, tO (app T v a m) i = if i = T.1 then a else tO T i := fun _ => rfl
  have eS : ∀ i, tS (app T v a m) i = if i = T.1 then tS T a + 1 else tS T i := fun _ => rfl
  have eV : ∀ i, tV (app T v a m) i = if i = T.1 then m else tV T i := fun _ => rfl
  refine ⟨by omega, by omega, fun i hi => ?_, fun i hi hi2 => ?_, ?_, fun i hi j hj he => ?_⟩
  · rw [eL]
    by_cases e : i = T.1
    · rw [if_pos e]; exact hv
    · rw [if_neg e]; exact h3 i (by omega)
  · rw [eO, eS i, eV]
    by_cases e : i = T.1
    · rw [if_pos e, if_pos e, if_pos e, eS, if_neg (by omega)]
      exact ⟨by omega, rfl, hm⟩
    · obtain ⟨a1, a2, a3⟩ := h4 i hi (by omega)
      rw [if_neg e, if_neg e, if_neg e, eS, if_neg (by omega)]
      exact ⟨a1, a2, a3⟩
  · rw [eS, if_neg (by omega)]; exact h5
  · rw [eL, eL] at he
    have hno := inL_f hn
    by_cases e : i = T.1
    · by_cases e2 : j = T.1
      · omega
      · rw [if_pos e, if_neg e2] at he
        exact absurd he.symm (hno j (by omega))
    · by_cases e2 : j = T.1
      · rw [if_neg e, if_pos e2] at he
        exact absurd he (hno i (by omega))
      · rw [if_neg e, if_neg e2] at he
        exact h6 i (by omega) j (by omega) he
theorem tr1_w {ok : Nat → Prop} {F : Nat → Nat → Nat → Nat} {dz so : Nat → Bool} {a b k : Nat} {T : TT} (hF : ∀ v b k, ok v → b < 5 → k < 6 → F v b k ≠ 0 → ok (F v b k - 1)) (hb : b < 5) (hk : k < 6) (h : wT ok T) (ha : a < T.1) : wT ok (tr1 F dz so a b k T).2 ∧ T.1 ≤ (tr1 F dz so a b k T).2.1 ∧ (tr1 F dz so a b k T).1 ≤ 2 ∧ (∀ i, i < T.1 → tL (tr1 F dz so a b k T).2 i = tL T i ∧ tS (tr1 F dz so a b k T).2 i = tS T i) ∧ ∀ i, T.1 ≤ i → i < (tr1 F dz so a b k T).2.1 → tS (tr1 F dz so a b k T).2 i = tS T a + 1 := by
  unfold tr1
  by_cases h1 : F (tL T a) b k = 0
  · rw [if_pos h1]; exact ⟨h, Nat.le_refl _, by omega, fun _ _ => ⟨rfl, rfl⟩, fun i h2 h3 => by have h4 : i < T.1 := h3; omega⟩
  · rw [if_neg h1]
    cases h2 : (dz (F (tL T a) b k - 1) || inL T (F (tL T a) b k - 1))
    · rw [if_neg (c := false = true) (by simp)]
      by_cases h3 : T.1 = 1200
      · rw [if_pos h3]; exact ⟨h, Nat.le_refl _, by omega, fun _ _ => ⟨rfl, rfl⟩, fun i h2 h3 => by have h4 : i < T.1 := h3; omega⟩
      · rw [if_neg h3]
        rw [Bool.or_eq_false_iff] at h2
        refine ⟨wT_app h h3 (hF _ _ _ (h.2.2.1 a ha) hb hk h1) h2.2 ha (by omega), by show T.1 ≤ T.1 + 1; omega, by show (if so (F (tL T a) b k - 1) = true then 1 else 0) ≤ 2; split <;> omega, fun i hi => ⟨?_, ?_⟩, fun i hi1 hi2 => ?_⟩
        · show (if i = T.1 then _ else tL T i) = tL T i
          rw [if_neg (by omega)]
        · show (if i = T.1 then _ else tS T i) = tS T i
          rw [if_neg (by omega)]
        · have hi3 : i < T.1 + 1 := hi2
          show (if i = T.1 then tS T a + 1 else tS T i) = tS T a + 1
          rw [if_pos (by omega)]
    · rw [if_pos (c := true = true) rfl]; exact ⟨h, Nat.le_refl _, by omega, fun _ _ => ⟨rfl, rfl⟩, fun i h2 h3 => by have h4 : i < T.1 := h3; omega⟩
def grw (ok : Nat → Prop) (a : Nat) (T : TT) (r : Nat × TT) : Prop := wT ok r.2 ∧ T.1 ≤ r.2.1 ∧ r.1 ≤ 2 ∧ (∀ i, i < T.1 → tL r.2 i = tL T i ∧ tS r.2 i = tS T i) ∧ ∀ i, T.1 ≤ i → i < r.2.1 → tS r.2 i = tS T a + 1
theorem grw_tr {ok : Nat → Prop} {a : Nat} {T : TT} {r r2 : Nat × TT} (ha : a < T.1) (h : grw ok a T r) (h2 : grw ok a r.2 r2) : grw ok a T r2 := by
  obtain ⟨a1, a2, a3, a4, a5⟩ := h
  obtain ⟨b1, b2, b3, b4, b5⟩ := h2
  refine ⟨b1, by omega, b3, fun i hi => ⟨(b4 i (by omega)).1.trans (a4 i hi).1, (b4 i (by omega)).2.trans (a4 i hi).2⟩, fun i h1 h2 => ?_⟩
  by_cases h : i < r.2.1
  · rw [(b4 i h).2]; exact a5 i h1 h
  · rw [b5 i (by omega) h2, (a4 a ha).2]
theorem trk_w {ok : Nat → Prop} {F : Nat → Nat → Nat → Nat} {dz so : Nat → Bool} {a b : Nat} (hF : ∀ v b k, ok v → b < 5 → k < 6 → F v b k ≠ 0 → ok (F v b k - 1)) (hb : b < 5) : ∀ d k T, k + d ≤ 6 → wT ok T → a < T.1 → grw ok a T (trk F dz so a b d k T) := by
  intro d
  induction d with
  | zero => intro k T _ h ha; exact ⟨h, Nat.le_refl _, by show 0 ≤ 2; omega, fun _ _ => ⟨rfl, rfl⟩, fun i h2 h3 => by have : i < T.1 := h3; omega⟩
  | succ d ih =>
    intro k T hk h ha
    have h1 : grw ok a T (tr1 F dz so a b k T) := tr1_w hF hb (by omega) h ha
    unfold trk
    by_cases h2 : (tr1 F dz so a b k T).1 = 0
    · rw [if_pos h2]
      exact grw_tr ha h1 (ih (k + 1) _ (by omega) h1.1 (by have := h1.2.1; omega))
    · rw [if_neg h2]; exact h1
theorem trb_w {ok : Nat → Prop} {F : Nat → Nat → Nat → Nat} {dz so : Nat → Bool} {a : Nat} (hF : ∀ v b k, ok v → b < 5 → k < 6 → F v b k ≠ 0 → ok (F v b k - 1)) : ∀ d b T, b + d ≤ 5 → wT ok T → a < T.1 → grw ok a T (trb F dz so a d b T) := by
  intro d
  induction d with
  | zero => intro b T _ h ha; exact ⟨h, Nat.le_refl _, by show 0 ≤ 2; omega, fun _ _ => ⟨rfl, rfl⟩, fun i h2 h3 => by have : i < T.1 := h3; omega⟩
  | succ d ih =>
    intro b T hb h ha
    have h1 := trk_w (dz := dz) (so := so) (a := a) hF (show b < 5 by omega) 6 0 T (by omega) h ha
    unfold trb
    by_cases h2 : (trk F dz so a b 6 0 T).1 = 0
    · rw [if_pos h2]
      exact grw_tr ha h1 (ih (b + 1) _ (by omega) h1.1 (by have := h1.2.1; omega))
    · rw [if_neg h2]; exact h1
theorem lcmp (a b : Int64) : (lg_cmp a b = 0) = (a = b) := by
  unfold lg_cmp
  by_cases h : a = b
  · subst h; simp
  · by_cases h2 : a > b
    · rw [if_pos h2]; simp [h]
    · rw [if_neg h2, if_neg h]; simp [h]
theorem i_lc {β : Type} (a b : Int64) (E1 E2 : β) : (if lg_cmp a b = zI 0 then E1 else E2) = if a = b then E1 else E2 := by
  by_cases h : a = b
  · rw [if_pos h, if_pos (by rw [← zl0, lcmp]; exact h)]
  · rw [if_neg h, if_neg (by rw [← zl0, lcmp]; exact h)]
theorem lN_inj {a b : Nat} (ha : a < 2 ^ 40) (hb : b < 2 ^ 40) : lN a = lN b ↔ a = b := by
  constructor
  · intro h
    apply Nat.eq_of_testBit_eq
    intro i
    rw [← bit_lN (by omega) i, ← bit_lN (n := b) (by omega) i, h]
  · intro h; rw [h]
theorem i_ll {β : Type} {a b : Nat} (ha : a < 2 ^ 40) (hb : b < 2 ^ 40) (E1 E2 : β) : (if lg_cmp (lN a) (lN b) = zI 0 then E1 else E2) = if a = b then E1 else E2 := by
  rw [i_lc]
  by_cases h : a = b
  · rw [if_pos h, if_pos (by rw [h])]
  · rw [if_neg h, if_neg (fun z => h ((lN_inj ha hb).mp z))]
