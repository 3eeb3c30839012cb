/-! the yard, its blocks, an arrangement: the mathematics that both sides compute -/
def allB (n : Nat) (f : Nat → Bool) : Bool := match n with
  | 0 => true
  | n + 1 => allB n f && f n
def anyB (n : Nat) (f : Nat → Bool) : Bool := match n with
  | 0 => false
  | n + 1 => anyB n f || f n
theorem allB_iff {n : Nat} {f : Nat → Bool} : allB n f = true ↔ ∀ i, i < n → f i = true := by
  induction n with
  | zero => simp [allB]
  | succ n ih =>
    simp only [allB, Bool.and_eq_true, ih]
    constructor
    · intro h i hi
      rcases Nat.lt_or_ge i n with q | q
      · exact h.1 i q
      · rw [show i = n by omega]; exact h.2
    · intro h
      exact ⟨fun i hi => h i (by omega), h n (by omega)⟩
theorem anyB_iff {n : Nat} {f : Nat → Bool} : anyB n f = true ↔ ∃ i, i < n ∧ f i = true := by
  induction n with
  | zero => simp [anyB]
  | succ n ih =>
    simp only [anyB, Bool.or_eq_true, ih]
    constructor
    · intro h
      rcases h with ⟨i, h1, h2⟩ | h
      · exact ⟨i, by omega, h2⟩
      · exact ⟨n, by omega, h⟩
    · intro ⟨i, h1, h2⟩
      rcases Nat.lt_or_ge i n with q | q
      · exact Or.inl ⟨i, q, h2⟩
      · rw [show i = n by omega] at h2; exact Or.inr h2
theorem allB_f {n : Nat} {f : Nat → Bool} : allB n f = false ↔ ∃ i, i < n ∧ f i = false := by
  rw [← Bool.not_eq_true, allB_iff]
  constructor
  · intro h
    refine Classical.byContradiction fun q => h fun i hi => ?_
    cases hf : f i with
    | true => rfl
    | false => exact absurd ⟨i, hi, hf⟩ q
  · intro ⟨i, h1, h2⟩ h
    rw [h i h1] at h2; cases h2
theorem anyB_f {n : Nat} {f : Nat → Bool} : anyB n f = false ↔ ∀ i, i < n → f i = false := by
  rw [← Bool.not_eq_true, anyB_iff]
  constructor
  · intro h i hi
    cases hf : f i with
    | false => rfl
    | true => exact absurd ⟨i, hi, hf⟩ h
  · intro h ⟨i, h1, h2⟩
    rw [h i h1] at h2; cases h2
theorem allB_cong {n : Nat} {f h : Nat → Bool} (e : ∀ i, i < n → f i = h i) : allB n f = allB n h := by
  induction n with
  | zero => rfl
  | succ n ih => simp only [allB]; rw [ih (fun i hi => e i (by omega)), e n (by omega)]
theorem anyB_cong {n : Nat} {f h : Nat → Bool} (e : ∀ i, i < n → f i = h i) : anyB n f = anyB n h := by
  induction n with
  | zero => rfl
  | succ n ih => simp only [anyB]; rw [ih (fun i hi => e i (by omega)), e n (by omega)]
/-- a level: columns, rows, the kind of each cell; of each block how many cells, and their offsets -/
abbrev Lv : Type := Nat × Nat × (Nat → Nat) × (Nat → Nat) × (Nat → Nat → Int) × (Nat → Nat → Int)
def gC (g : Lv) : Nat := g.1
def gR (g : Lv) : Nat := g.2.1
def gK (g : Lv) : Nat → Nat := g.2.2.1
def gN (g : Lv) : Nat → Nat := g.2.2.2.1
def gX (g : Lv) : Nat → Nat → Int := g.2.2.2.2.1
def gY (g : Lv) : Nat → Nat → Int := g.2.2.2.2.2
def wfL (g : Lv) : Prop := (3 ≤ gC g ∧ gC g ≤ 8 ∧ 3 ≤ gR g ∧ gR g ≤ 8) ∧ (∀ c, gK g c ≤ 13) ∧ (∀ b, gN g b ≤ 5) ∧ (∀ b i, -7 ≤ gX g b i ∧ gX g b i ≤ 7 ∧ -7 ≤ gY g b i ∧ gY g b i ≤ 7) ∧ (∀ b, b < 5 → 0 < gN g b → ∃ i, i < gN g b ∧ gX g b i = 0 ∧ gY g b i = 0)
def rX (o : Nat) (a b : Int) : Int := if o = 0 then a else if o = 1 then -b else if o = 2 then -a else b
def rY (o : Nat) (a b : Int) : Int := if o = 0 then b else if o = 1 then a else if o = 2 then -b else -a
theorem rX_bd {o : Nat} {a b : Int} (h : -7 ≤ a ∧ a ≤ 7 ∧ -7 ≤ b ∧ b ≤ 7) : -7 ≤ rX o a b ∧ rX o a b ≤ 7 := by
  unfold rX
  split
  · omega
  · split
    · omega
    · split <;> omega
theorem rY_bd {o : Nat} {a b : Int} (h : -7 ≤ a ∧ a ≤ 7 ∧ -7 ≤ b ∧ b ≤ 7) : -7 ≤ rY o a b ∧ rY o a b ≤ 7 := by
  unfold rY
  split
  · omega
  · split
    · omega
    · split <;> omega
def cx (g : Lv) (b i p : Nat) : Int := ((p % 8 : Nat) : Int) + rX (p / 64) (gX g b i) (gY g b i)
def cy (g : Lv) (b i p : Nat) : Int := ((p / 8 % 8 : Nat) : Int) + rY (p / 64) (gX g b i) (gY g b i)
theorem cx_bd {g : Lv} (h : wfL g) (b i p : Nat) : -7 ≤ cx g b i p ∧ cx g b i p ≤ 14 := by
  have := rX_bd (o := p / 64) (h.2.2.2.1 b i)
  unfold cx
  omega
theorem cy_bd {g : Lv} (h : wfL g) (b i p : Nat) : -7 ≤ cy g b i p ∧ cy g b i p ≤ 14 := by
  have := rY_bd (o := p / 64) (h.2.2.2.1 b i)
  unfold cy
  omega
abbrev inY (g : Lv) (x y : Int) : Prop := 0 ≤ x ∧ x < gC g ∧ 0 ≤ y ∧ y < gR g
def kd (g : Lv) (x y : Int) : Nat := gK g (8 * y + x).toNat
def fr (g : Lv) (x y : Int) : Bool := decide (inY g x y) && !(kd g x y == 1)
/-- a placement of a block: all its cells are in the yard and no walls -/
def plc (g : Lv) (b p : Nat) : Bool := allB (gN g b) fun i => fr g (cx g b i p) (cy g b i p)
/-- the block has this cell, in this placement -/
def hasC (g : Lv) (b p c : Nat) : Bool := anyB (gN g b) fun i => decide (8 * cy g b i p + cx g b i p = (c : Int))
/-- the block stands on a plate of this group -/
def onP (g : Lv) (b p r : Nat) : Bool := anyB (gN g b) fun i => kd g (cx g b i p) (cy g b i p) == 6 + r
/-- the owner of a cell, of the first n blocks; -1: none -/
def owN (g : Lv) (p : Nat → Nat) (c : Nat) : Nat → Int
  | 0 => -1
  | n + 1 => if hasC g n (p n) c then (n : Int) else owN g p c n
def ow (g : Lv) (p : Nat → Nat) (c : Nat) : Int := owN g p c 5
def ldN (g : Lv) (wt : Nat → Nat) (p : Nat → Nat) (r : Nat) : Nat → Nat
  | 0 => 0
  | n + 1 => ldN g wt p r n + (if onP g n (p n) r then wt n else 0)
def ld (g : Lv) (wt : Nat → Nat) (p : Nat → Nat) (r : Nat) : Nat := ldN g wt p r 5
/-- an arrangement that can be -/
def okA (g : Lv) (p : Nat → Nat) : Prop := (∀ b, b < 5 → p b < 256 ∧ (gN g b = 0 → p b = 0) ∧ plc g b (p b) = true) ∧ ∀ b, b < 5 → ∀ d, d < 5 → b ≠ d → ∀ c, ¬ (hasC g b (p b) c = true ∧ hasC g d (p d) c = true)
theorem owN_bd (g : Lv) (p : Nat → Nat) (c : Nat) : ∀ n, -1 ≤ owN g p c n ∧ owN g p c n < n := by
  intro n
  induction n with
  | zero => simp [owN]
  | succ n ih =>
    unfold owN
    split <;> omega
theorem ldN_bd {g : Lv} {wt p : Nat → Nat} {r : Nat} (h : ∀ b, wt b ≤ 9) : ∀ n, ldN g wt p r n ≤ 9 * n := by
  intro n
  induction n with
  | zero => simp [ldN]
  | succ n ih =>
    unfold ldN
    have := h n
    split <;> omega
/-! agreement of two states but for some numbers -/
def agr (is js as ls : List Nat) (M M2 : St) : Prop := (∀ j, j ∉ is → M2.1 j = M.1 j) ∧ (∀ j, j ∉ js → M2.2.1 j = M.2.1 j) ∧ (∀ j, j ∉ as → M2.2.2.1 j = M.2.2.1 j) ∧ (∀ j, j ∉ ls → M2.2.2.2 j = M.2.2.2 j)
theorem agr.rf {is js as ls : List Nat} (M : St) : agr is js as ls M M := ⟨fun _ _ => rfl, fun _ _ => rfl, fun _ _ => rfl, fun _ _ => rfl⟩
theorem agr.tr {is js as ls : List Nat} {M M2 M3 : St} (h : agr is js as ls M M2) (k : agr is js as ls M2 M3) : agr is js as ls M M3 :=
  ⟨fun j q => (k.1 j q).trans (h.1 j q), fun j q => (k.2.1 j q).trans (h.2.1 j q), fun j q => (k.2.2.1 j q).trans (h.2.2.1 j q), fun j q => (k.2.2.2 j q).trans (h.2.2.2 j q)⟩
theorem agr.wk {is js as ls is2 js2 as2 ls2 : List Nat} {M M2 : St} (h : agr is js as ls M M2) (h1 : ∀ j ∈ is, j ∈ is2) (h2 : ∀ j ∈ js, j ∈ js2) (h3 : ∀ j ∈ as, j ∈ as2) (h4 : ∀ j ∈ ls, j ∈ ls2) : agr is2 js2 as2 ls2 M M2 :=
  ⟨fun j q => h.1 j (fun z => q (h1 j z)), fun j q => h.2.1 j (fun z => q (h2 j z)), fun j q => h.2.2.1 j (fun z => q (h3 j z)), fun j q => h.2.2.2 j (fun z => q (h4 j z))⟩
theorem agr.sI {is js as ls : List Nat} {M M2 : St} (h : agr is js as ls M M2) {k : Nat} (hk : k ∈ is) (v : Int32) : agr is js as ls M (sI M2 k v) :=
  ⟨fun j q => by rw [sI_I, if_neg (fun e : j = k => q (e ▸ hk))]; exact h.1 j q, h.2.1, h.2.2.1, h.2.2.2⟩
theorem agr.sJ {is js as ls : List Nat} {M M2 : St} (h : agr is js as ls M M2) {k : Nat} (hk : k ∈ js) (v : Int64) : agr is js as ls M (sJ M2 k v) :=
  ⟨h.1, fun j q => by rw [sJ_J, if_neg (fun e : j = k => q (e ▸ hk))]; exact h.2.1 j q, h.2.2.1, h.2.2.2⟩
theorem agr.fA {is js as ls : List Nat} {M M2 : St} (h : agr is js as ls M M2) {k : Nat} (hk : k ∈ as) (f : Nat → Int32) : agr is js as ls M (fA M2 k f) :=
  ⟨h.1, h.2.1, fun j q => by rw [fA_A, if_neg (fun e : j = k => q (e ▸ hk))]; exact h.2.2.1 j q, h.2.2.2⟩
theorem agr.fL {is js as ls : List Nat} {M M2 : St} (h : agr is js as ls M M2) {k : Nat} (hk : k ∈ ls) (f : Nat → Int64) : agr is js as ls M (fL M2 k f) :=
  ⟨h.1, h.2.1, h.2.2.1, fun j q => by rw [fL_L, if_neg (fun e : j = k => q (e ▸ hk))]; exact h.2.2.2 j q⟩
theorem agr.sA {is js as ls : List Nat} {M M2 : St} (h : agr is js as ls M M2) {k : Nat} (hk : k ∈ as) (i : Nat) (v : Int32) : agr is js as ls M (sA M2 k i v) := h.fA hk _
theorem agr.sL {is js as ls : List Nat} {M M2 : St} (h : agr is js as ls M M2) {k : Nat} (hk : k ∈ ls) (i : Nat) (v : Int64) : agr is js as ls M (sL M2 k i v) := h.fL hk _
