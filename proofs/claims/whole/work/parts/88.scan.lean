/-! a level's text, read sign by sign: the mathematics -/
def bo (c : Nat) : Int := if 65 ≤ c ∧ c < 70 then (c : Int) - 65 else if 97 ≤ c ∧ c < 102 then (c : Int) - 97 else -1
def isP (c : Nat) : Bool := decide (65 ≤ c ∧ c < 70)
def tg (k : Nat) : Nat := match k with
  | 0 => 46
  | 1 => 35
  | 2 => 62
  | 3 => 118
  | 4 => 60
  | 5 => 94
  | 6 => 48
  | 7 => 49
  | 8 => 50
  | 9 => 51
  | 10 => 119
  | 11 => 120
  | 12 => 121
  | 13 => 122
  | _ => 0
def grd (c : Nat) : Int := plf tg c 14 0
def kd1 (c : Nat) : Int := if 0 ≤ bo c then 0 else grd c
theorem bo_bd (c : Nat) : -1 ≤ bo c ∧ bo c < 5 := by
  unfold bo
  split
  · omega
  · split <;> omega
theorem grd_bd (c : Nat) : -1 ≤ grd c ∧ grd c < 14 := by
  have := plf_bd (t := tg) (c := c) 14 0
  unfold grd
  omega
theorem kd1_bd (c : Nat) : -1 ≤ kd1 c ∧ kd1 c ≤ 13 := by
  have := grd_bd c
  unfold kd1
  split <;> omega
abbrev Sc : Type := Nat × Nat × Nat × (Nat → Int) × (Nat → Nat) × (Nat → Nat → Nat) × (Nat → Nat → Nat) × (Nat → Nat) × (Nat → Int)
def sX (s : Sc) : Nat := s.1
def sY (s : Sc) : Nat := s.2.1
def sW (s : Sc) : Nat := s.2.2.1
def sK (s : Sc) : Nat → Int := s.2.2.2.1
def sN (s : Sc) : Nat → Nat := s.2.2.2.2.1
def sU (s : Sc) : Nat → Nat → Nat := s.2.2.2.2.2.1
def sV (s : Sc) : Nat → Nat → Nat := s.2.2.2.2.2.2.1
def sFp (s : Sc) : Nat → Nat := s.2.2.2.2.2.2.2.1
def sP (s : Sc) : Nat → Int := s.2.2.2.2.2.2.2.2
def scR (s : Sc) : Sc := (0, sY s + 1, sX s, sK s, sN s, sU s, sV s, sFp s, sP s)
def scC (c t : Nat) (s : Sc) : Sc := (sX s + 1, sY s, sW s, fun q => if q = 8 * sY s + sX s then kd1 c else sK s q, fun b => if (b : Int) = bo c then sN s b + 1 else sN s b, fun b i => if (b : Int) = bo c ∧ i = sN s b then sX s else sU s b i, fun b i => if (b : Int) = bo c ∧ i = sN s b then sY s else sV s b i, fun b => if (b : Int) = bo c ∧ sN s b = 0 then t else sFp s b, fun b => if (b : Int) = bo c ∧ isP c = true then 8 * (sY s : Int) + (sX s : Int) else sP s b)
def sc (c : Nat → Nat) : Nat → Sc
  | 0 => (0, 0, 0, fun _ => -1, fun _ => 0, fun _ _ => 0, fun _ _ => 0, fun _ => 0, fun _ => -1)
  | t + 1 => if c t = 47 then scR (sc c t) else scC (c t) t (sc c t)
def okR (s : Sc) : Prop := (sY s = 0 → 3 ≤ sX s) ∧ (0 < sY s → sX s = sW s) ∧ sY s < 7
def okC (c : Nat) (s : Sc) : Prop := (sY s = 0 → sX s < 8) ∧ (0 < sY s → sX s < sW s) ∧ 0 ≤ kd1 c ∧ ∀ b : Nat, (b : Int) = bo c → sN s b < 5 ∧ (isP c = true → sP s b = -1)
def okS (c : Nat) (s : Sc) : Prop := (c = 47 → okR s) ∧ (c ≠ 47 → okC c s)
theorem sc_R {c : Nat → Nat} {t : Nat} (h : c t = 47) : sc c (t + 1) = scR (sc c t) := if_pos h
theorem sc_C {c : Nat → Nat} {t : Nat} (h : c t ≠ 47) : sc c (t + 1) = scC (c t) t (sc c t) := if_neg h
/-- what holds while no fault was met -/
def iv1 (s : Sc) (t : Nat) : Prop := sY s ≤ 7 ∧ (sY s = 0 → sX s ≤ 8 ∧ t = sX s) ∧ (0 < sY s → sX s ≤ sW s ∧ 3 ≤ sW s ∧ sW s ≤ 8 ∧ t = (sW s + 1) * sY s + sX s)
def iv2 (s : Sc) : Prop := (∀ b, sN s b ≤ 5) ∧ (∀ q, -1 ≤ sK s q ∧ sK s q ≤ 13) ∧ (∀ b i, sU s b i ≤ 7 ∧ sV s b i ≤ 7) ∧ (∀ b, sP s b = -1 ∨ ∃ i, i < sN s b ∧ sP s b = 8 * (sV s b i : Int) + (sU s b i : Int))
def iv3 (c : Nat → Nat) (t : Nat) : Prop := ∀ b i, i < sN (sc c t) b → ∃ τ, τ < t ∧ c τ ≠ 47 ∧ bo (c τ) = (b : Int) ∧ sX (sc c τ) = sU (sc c t) b i ∧ sY (sc c τ) = sV (sc c t) b i
theorem iv_0 (c : Nat → Nat) : iv1 (sc c 0) 0 ∧ iv2 (sc c 0) ∧ iv3 c 0 := by
  refine ⟨⟨by show 0 ≤ 7; omega, fun _ => ⟨by show 0 ≤ 8; omega, rfl⟩, fun h => absurd h (Nat.lt_irrefl 0)⟩, ⟨fun b => by show 0 ≤ 5; omega, fun q => by show -1 ≤ (-1 : Int) ∧ (-1 : Int) ≤ 13; omega, fun b i => by show 0 ≤ 7 ∧ 0 ≤ 7; omega, fun b => Or.inl rfl⟩, fun b i h => absurd h (Nat.not_lt_zero _)⟩
theorem iv_s {c : Nat → Nat} {t : Nat} (h1 : iv1 (sc c t) t) (h2 : iv2 (sc c t)) (h3 : iv3 c t) (ok : okS (c t) (sc c t)) : iv1 (sc c (t + 1)) (t + 1) ∧ iv2 (sc c (t + 1)) ∧ iv3 c (t + 1) := by
  by_cases hc : c t = 47
  · obtain ⟨k1, k2, k3⟩ := ok.1 hc
    unfold iv3
    rw [sc_R hc]
    obtain ⟨a1, a2, a3⟩ := h1
    refine ⟨⟨by show sY (sc c t) + 1 ≤ 7; omega, fun h => absurd h (by show sY (sc c t) + 1 ≠ 0; omega), fun _ => ?_⟩, h2, fun b i hi => ?_⟩
    · show 0 ≤ sX (sc c t) ∧ 3 ≤ sX (sc c t) ∧ sX (sc c t) ≤ 8 ∧ t + 1 = (sX (sc c t) + 1) * (sY (sc c t) + 1) + 0
      by_cases hy : sY (sc c t) = 0
      · have := a2 hy
        have := k1 hy
        rw [hy]
        omega
      · have := a3 (by omega)
        have e := k2 (by omega)
        rw [e, Nat.mul_succ]
        omega
    · obtain ⟨τ, u1, u2⟩ := h3 b i hi
      exact ⟨τ, by omega, u2⟩
  · obtain ⟨k1, k2, k3, k4⟩ := ok.2 hc
    unfold iv3
    rw [sc_C hc]
    obtain ⟨a1, a2, a3⟩ := h1
    obtain ⟨b1, b2, b3, b4⟩ := h2
    have hx7 : sX (sc c t) ≤ 7 := by
      by_cases hy : sY (sc c t) = 0
      · have := k1 hy; omega
      · have := k2 (by omega); have := a3 (by omega); omega
    have hkb := kd1_bd (c t)
    refine ⟨⟨a1, fun h => ?_, fun h => ?_⟩, ⟨fun b => ?_, fun q => ?_, fun b i => ?_, fun b => ?_⟩, fun b i hi => ?_⟩
    · show sX (sc c t) + 1 ≤ 8 ∧ t + 1 = sX (sc c t) + 1
      have := k1 h; have := a2 h; omega
    · show sX (sc c t) + 1 ≤ sW (sc c t) ∧ 3 ≤ sW (sc c t) ∧ sW (sc c t) ≤ 8 ∧ t + 1 = (sW (sc c t) + 1) * sY (sc c t) + (sX (sc c t) + 1)
      have := k2 h; have := a3 h; omega
    · show (if (b : Int) = bo (c t) then sN (sc c t) b + 1 else sN (sc c t) b) ≤ 5
      have := b1 b
      split
      · next hb => have := (k4 b hb).1; omega
      · omega
    · show -1 ≤ (if q = 8 * sY (sc c t) + sX (sc c t) then kd1 (c t) else sK (sc c t) q) ∧ (if q = 8 * sY (sc c t) + sX (sc c t) then kd1 (c t) else sK (sc c t) q) ≤ 13
      have := b2 q
      split <;> omega
    · show (if (b : Int) = bo (c t) ∧ i = sN (sc c t) b then sX (sc c t) else sU (sc c t) b i) ≤ 7 ∧ (if (b : Int) = bo (c t) ∧ i = sN (sc c t) b then sY (sc c t) else sV (sc c t) b i) ≤ 7
      have := b3 b i
      split <;> omega
    · show (if (b : Int) = bo (c t) ∧ isP (c t) = true then 8 * (sY (sc c t) : Int) + (sX (sc c t) : Int) else sP (sc c t) b) = -1 ∨ ∃ i, i < (if (b : Int) = bo (c t) then sN (sc c t) b + 1 else sN (sc c t) b) ∧ (if (b : Int) = bo (c t) ∧ isP (c t) = true then 8 * (sY (sc c t) : Int) + (sX (sc c t) : Int) else sP (sc c t) b) = 8 * ((if (b : Int) = bo (c t) ∧ i = sN (sc c t) b then sY (sc c t) else sV (sc c t) b i : Nat) : Int) + ((if (b : Int) = bo (c t) ∧ i = sN (sc c t) b then sX (sc c t) else sU (sc c t) b i : Nat) : Int)
      by_cases hb : (b : Int) = bo (c t)
      · by_cases hp : isP (c t) = true
        · right
          refine ⟨sN (sc c t) b, by rw [if_pos hb]; omega, ?_⟩
          rw [if_pos ⟨hb, hp⟩, if_pos ⟨hb, rfl⟩, if_pos ⟨hb, rfl⟩]
        · rw [if_neg (fun z => hp z.2)]
          rcases b4 b with h | ⟨i, h1, h2⟩
          · exact Or.inl h
          · right
            refine ⟨i, by rw [if_pos hb]; omega, ?_⟩
            rw [if_neg (fun z => by omega), if_neg (fun z => by omega)]
            exact h2
      · rw [if_neg (fun z => hb z.1)]
        rcases b4 b with h | ⟨i, h1, h2⟩
        · exact Or.inl h
        · right
          refine ⟨i, by rw [if_neg hb]; exact h1, ?_⟩
          rw [if_neg (fun z => hb z.1), if_neg (fun z => hb z.1)]
          exact h2
    · have hi2 : i < (if (b : Int) = bo (c t) then sN (sc c t) b + 1 else sN (sc c t) b) := hi
      show ∃ τ, τ < t + 1 ∧ c τ ≠ 47 ∧ bo (c τ) = (b : Int) ∧ sX (sc c τ) = (if (b : Int) = bo (c t) ∧ i = sN (sc c t) b then sX (sc c t) else sU (sc c t) b i) ∧ sY (sc c τ) = (if (b : Int) = bo (c t) ∧ i = sN (sc c t) b then sY (sc c t) else sV (sc c t) b i)
      by_cases hb : (b : Int) = bo (c t) ∧ i = sN (sc c t) b
      · rw [if_pos hb, if_pos hb]
        exact ⟨t, by omega, hc, hb.1.symm, rfl, rfl⟩
      · rw [if_neg hb, if_neg hb]
        have : i < sN (sc c t) b := by
          by_cases hb2 : (b : Int) = bo (c t)
          · rw [if_pos hb2] at hi2
            have : i ≠ sN (sc c t) b := fun z => hb ⟨hb2, z⟩
            omega
          · rw [if_neg hb2] at hi2; exact hi2
        obtain ⟨τ, u1, u2⟩ := h3 b i this
        exact ⟨τ, by omega, u2⟩
theorem iv_all {c : Nat → Nat} : ∀ t, (∀ τ, τ < t → okS (c τ) (sc c τ)) → iv1 (sc c t) t ∧ iv2 (sc c t) ∧ iv3 c t := by
  intro t
  induction t with
  | zero => intro _; exact iv_0 c
  | succ t ih =>
    intro h
    obtain ⟨h1, h2, h3⟩ := ih fun τ hτ => h τ (by omega)
    exact iv_s h1 h2 h3 (h t (by omega))
/-- a whole level was read -/
def full (c : Nat → Nat) (n : Nat) : Prop := (∀ τ, τ < n → okS (c τ) (sc c τ)) ∧ 2 ≤ sY (sc c n) ∧ sX (sc c n) = sW (sc c n)
theorem pos_all {c : Nat → Nat} {n : Nat} (h : full c n) : ∀ d t, t + d = n → t = (sW (sc c n) + 1) * sY (sc c t) + sX (sc c t) ∧ sX (sc c t) ≤ sW (sc c n) ∧ (0 < sY (sc c t) → sW (sc c t) = sW (sc c n)) ∧ sY (sc c t) ≤ sY (sc c n) := by
  have hn := (iv_all n h.1).1
  intro d
  induction d with
  | zero =>
    intro t ht
    have : t = n := by omega
    subst this
    have := hn.2.2 (by have := h.2.1; omega)
    exact ⟨this.2.2.2, this.1, fun _ => rfl, Nat.le_refl _⟩
  | succ d ih =>
    intro t ht
    obtain ⟨i1, i2, i3, i4⟩ := ih (t + 1) (by omega)
    have ok := h.1 t (by omega)
    by_cases hc : c t = 47
    · rw [sc_R hc] at i1 i2 i3 i4
      have j1 : t + 1 = (sW (sc c n) + 1) * (sY (sc c t) + 1) + 0 := i1
      have j3 : sX (sc c t) = sW (sc c n) := i3 (by show 0 < sY (sc c t) + 1; omega)
      have j4 : sY (sc c t) + 1 ≤ sY (sc c n) := i4
      rw [Nat.mul_succ] at j1
      exact ⟨by omega, by omega, fun z => by have := (ok.1 hc).2.1 z; omega, by omega⟩
    · rw [sc_C hc] at i1 i2 i3 i4
      have j1 : t + 1 = (sW (sc c n) + 1) * sY (sc c t) + (sX (sc c t) + 1) := i1
      have j2 : sX (sc c t) + 1 ≤ sW (sc c n) := i2
      exact ⟨by omega, by omega, i3, i4⟩
theorem pos_at {c : Nat → Nat} {n : Nat} (h : full c n) {t : Nat} (ht : t ≤ n) : t = (sW (sc c n) + 1) * sY (sc c t) + sX (sc c t) ∧ sX (sc c t) ≤ sW (sc c n) ∧ (0 < sY (sc c t) → sW (sc c t) = sW (sc c n)) ∧ sY (sc c t) ≤ sY (sc c n) := pos_all h (n - t) t (by omega)
theorem mul_uniq {a x y u v : Nat} (hx : x ≤ a) (hu : u ≤ a) (h : (a + 1) * y + x = (a + 1) * v + u) : y = v ∧ x = u := by
  have e1 : ((a + 1) * y + x) / (a + 1) = y := by rw [Nat.mul_add_div (by omega), Nat.div_eq_of_lt (by omega)]; rfl
  have e2 : ((a + 1) * v + u) / (a + 1) = v := by rw [Nat.mul_add_div (by omega), Nat.div_eq_of_lt (by omega)]; rfl
  have e3 : y = v := by rw [← e1, ← e2, h]
  subst e3
  exact ⟨rfl, by omega⟩
theorem pos_of {c : Nat → Nat} {n : Nat} (h : full c n) {x y : Nat} (hx : x ≤ sW (sc c n)) (hn : (sW (sc c n) + 1) * y + x ≤ n) : sX (sc c ((sW (sc c n) + 1) * y + x)) = x ∧ sY (sc c ((sW (sc c n) + 1) * y + x)) = y := by
  obtain ⟨p1, p2, _⟩ := pos_at h hn
  obtain ⟨q1, q2⟩ := mul_uniq hx p2 p1
  exact ⟨q2.symm, q1.symm⟩
theorem n_of {c : Nat → Nat} {n : Nat} (h : full c n) : n = (sW (sc c n) + 1) * sY (sc c n) + sW (sc c n) := by
  have := (pos_at h (Nat.le_refl n)).1
  rw [h.2.2] at this
  exact this
theorem grid_le {c : Nat → Nat} {n : Nat} (h : full c n) {x y : Nat} (hx : x ≤ sW (sc c n)) (hy : y ≤ sY (sc c n)) : (sW (sc c n) + 1) * y + x ≤ n := by
  have h1 := n_of h
  have h2 := Nat.mul_le_mul_left (sW (sc c n) + 1) hy
  omega
theorem sign_in {c : Nat → Nat} {n : Nat} (h : full c n) {x y : Nat} (hx : x < sW (sc c n)) (hy : y ≤ sY (sc c n)) : c ((sW (sc c n) + 1) * y + x) ≠ 47 := by
  intro hc
  have h0 := grid_le h (Nat.le_of_lt hx) hy
  have h1 := grid_le h (show x + 1 ≤ sW (sc c n) by omega) hy
  obtain ⟨q1, q2⟩ := pos_of h (show x + 1 ≤ sW (sc c n) by omega) h1
  rw [show (sW (sc c n) + 1) * y + (x + 1) = (sW (sc c n) + 1) * y + x + 1 by omega, sc_R hc] at q1
  have : (0 : Nat) = x + 1 := q1
  omega
theorem sign_end {c : Nat → Nat} {n : Nat} (h : full c n) {y : Nat} (hy : y < sY (sc c n)) : c ((sW (sc c n) + 1) * y + sW (sc c n)) = 47 := by
  refine Classical.byContradiction fun hc => ?_
  have h0 := grid_le h (Nat.le_refl (sW (sc c n))) (Nat.le_of_lt hy)
  have h1 := grid_le h (Nat.zero_le (sW (sc c n))) (show y + 1 ≤ sY (sc c n) by omega)
  rw [Nat.mul_succ] at h1
  obtain ⟨q1, q2⟩ := pos_of h (Nat.le_refl (sW (sc c n))) h0
  have p := (pos_at h (show (sW (sc c n) + 1) * y + sW (sc c n) + 1 ≤ n by omega)).2.1
  rw [sc_C hc] at p
  have p2 : sX (sc c ((sW (sc c n) + 1) * y + sW (sc c n))) + 1 ≤ sW (sc c n) := p
  omega
theorem sN_mono {c : Nat → Nat} {b : Nat} : ∀ d t, sN (sc c t) b ≤ sN (sc c (t + d)) b ∧ ∀ i, i < sN (sc c t) b → sU (sc c (t + d)) b i = sU (sc c t) b i ∧ sV (sc c (t + d)) b i = sV (sc c t) b i := by
  intro d
  induction d with
  | zero => intro t; exact ⟨Nat.le_refl _, fun i _ => ⟨rfl, rfl⟩⟩
  | succ d ih =>
    intro t
    obtain ⟨h1, h2⟩ := ih t
    rw [show t + (d + 1) = t + d + 1 by omega]
    by_cases hc : c (t + d) = 47
    · rw [sc_R hc]; exact ⟨h1, h2⟩
    · rw [sc_C hc]
      have e1 : sN (scC (c (t + d)) (t + d) (sc c (t + d))) b = if (b : Int) = bo (c (t + d)) then sN (sc c (t + d)) b + 1 else sN (sc c (t + d)) b := rfl
      refine ⟨by rw [e1]; split <;> omega, fun i hi => ?_⟩
      have hne : ¬ ((b : Int) = bo (c (t + d)) ∧ i = sN (sc c (t + d)) b) := fun z => by omega
      have e2 : sU (scC (c (t + d)) (t + d) (sc c (t + d))) b i = if (b : Int) = bo (c (t + d)) ∧ i = sN (sc c (t + d)) b then sX (sc c (t + d)) else sU (sc c (t + d)) b i := rfl
      have e3 : sV (scC (c (t + d)) (t + d) (sc c (t + d))) b i = if (b : Int) = bo (c (t + d)) ∧ i = sN (sc c (t + d)) b then sY (sc c (t + d)) else sV (sc c (t + d)) b i := rfl
      rw [e2, e3, if_neg hne, if_neg hne]
      exact h2 i hi
theorem kinds_at {c : Nat → Nat} {n : Nat} (h : full c n) {τ : Nat} (hc : c τ ≠ 47) : ∀ d, τ + 1 + d ≤ n → sK (sc c (τ + 1 + d)) (8 * sY (sc c τ) + sX (sc c τ)) = kd1 (c τ) := by
  have hn := (iv_all n h.1).1
  have hW : sW (sc c n) ≤ 8 := (hn.2.2 (by have := h.2.1; omega)).2.2.1
  intro d
  induction d with
  | zero =>
    intro hle
    show sK (sc c (τ + 1)) _ = _
    rw [sc_C hc]
    exact if_pos rfl
  | succ d ih =>
    intro hle
    have i1 := ih (by omega)
    rw [show τ + 1 + (d + 1) = τ + 1 + d + 1 by omega]
    by_cases hc2 : c (τ + 1 + d) = 47
    · rw [sc_R hc2]; exact i1
    · have p0 := pos_at h (show τ ≤ n by omega)
      have p1 := (pos_at h (show τ + 1 ≤ n by omega)).2.1
      have p2 := pos_at h (show τ + 1 + d ≤ n by omega)
      have p3 := (pos_at h (show τ + 1 + d + 1 ≤ n by omega)).2.1
      rw [sc_C hc] at p1
      rw [sc_C hc2] at p3 ⊢
      have p1' : sX (sc c τ) + 1 ≤ sW (sc c n) := p1
      have p3' : sX (sc c (τ + 1 + d)) + 1 ≤ sW (sc c n) := p3
      have e : sK (scC (c (τ + 1 + d)) (τ + 1 + d) (sc c (τ + 1 + d))) (8 * sY (sc c τ) + sX (sc c τ)) = if 8 * sY (sc c τ) + sX (sc c τ) = 8 * sY (sc c (τ + 1 + d)) + sX (sc c (τ + 1 + d)) then kd1 (c (τ + 1 + d)) else sK (sc c (τ + 1 + d)) (8 * sY (sc c τ) + sX (sc c τ)) := rfl
      rw [e, if_neg ?_]
      · exact i1
      · intro z
        have z1 : sY (sc c τ) = sY (sc c (τ + 1 + d)) := by omega
        have z2 : sX (sc c τ) = sX (sc c (τ + 1 + d)) := by omega
        have e1 := p0.1
        have e2 := p2.1
        rw [z1, z2, ← e2] at e1
        omega
theorem kind_in {c : Nat → Nat} {n : Nat} (h : full c n) {x y : Nat} (hx : x < sW (sc c n)) (hy : y ≤ sY (sc c n)) : sK (sc c n) (8 * y + x) = kd1 (c ((sW (sc c n) + 1) * y + x)) := by
  have h0 := grid_le h (Nat.le_of_lt hx) hy
  have h1 := grid_le h (show x + 1 ≤ sW (sc c n) by omega) hy
  obtain ⟨q1, q2⟩ := pos_of h (Nat.le_of_lt hx) h0
  have := kinds_at h (sign_in h hx hy) (n - ((sW (sc c n) + 1) * y + x + 1)) (by omega)
  rw [q1, q2, show (sW (sc c n) + 1) * y + x + 1 + (n - ((sW (sc c n) + 1) * y + x + 1)) = n by omega] at this
  exact this
