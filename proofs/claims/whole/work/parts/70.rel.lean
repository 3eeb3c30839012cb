/-! the relation of the two worlds -/
def es (ef : Nat → Nat) : Nat → Nat
  | 0 => 0
  | n + 1 => es ef n + ef n
def xG (g : Lv) (gx gy gt : Nat → Int) (X : St) : Prop := ∀ b, b < 5 → 0 < gN g b → (0 ≤ gt b → inY g (gx b) (gy b) ∧ X.1 (15 + b) = zI (8 * gy b + gx b) ∧ X.1 (20 + b) = zI (gt b)) ∧ (gt b < 0 → X.1 (15 + b) = zI (-1) ∧ X.1 (20 + b) = zI 4)
def rHi (g : Lv) (v : Nat) (X M : St) : Prop := ∃ (md kn : Nat) (ar : Nat → Nat) (mv : Nat → Int32) (ef : Nat → Nat), md ≤ kn ∧ kn ≤ 200 ∧ X.1 28 = zI md ∧ X.1 29 = zI kn ∧ M.1 8 = zI md ∧ M.1 9 = zI kn ∧ ar md = v ∧ (∀ k, k ≤ kn → X.2.2.2 11 k = lN (ar k) ∧ okv g (ar k) ∧ X.2.2.1 27 k = zI (es ef k)) ∧ (∀ k, k < kn → M.2.2.2 0 k = lN (ar k) ∧ M.2.2.2 1 k = lN (ar (k + 1)) ∧ X.2.2.1 26 k = mv k ∧ M.2.2.1 20 k = mv k ∧ M.2.2.1 21 k = zI (ef k)) ∧ ∀ k, ef k ≤ 45
def rSl (g : Lv) (X M : St) : Prop := ∃ (s : Nat) (sc : Nat → Nat), s < 16 ∧ X.1 0 = zI s ∧ (∀ i, i < 4 → M.2.2.1 22 i = zI (if s.testBit i then 1 else 0)) ∧ ∀ i, i < 4 → s.testBit i = true → M.2.2.2 2 i = lN (sc i) ∧ X.2.2.2 0 i = lN (sc i) ∧ okv g (sc i)
def rTx (X M : St) : Prop := ∃ (n : Nat) (c : Nat → Nat), n ≤ 80 ∧ X.1 1 = zI n ∧ M.1 3 = zI n ∧ ∀ i, i < n → X.2.2.1 0 i = zI (c i) ∧ M.2.2.1 10 i = zI (c i) ∧ c i < 65536
def rCa (g : Lv) (wt th : Nat → Nat) (st : Nat) (gx gy gt : Nat → Int) (D : Nat → Nat → Int) (X : St) : Prop := X.1 32 = zI 0 ∨ (X.1 32 = zI 1 ∧ ∃ v, okv g v ∧ X.2.1 10 = lN v ∧ X.1 31 = zI (sLen g wt th st gx gy gt D (upk v)) ∧ ∀ j : Nat, (j : Int) < sLen g wt th st gx gy gt D (upk v) → X.2.2.1 31 j = zI (sMov g wt th st gx gy gt D (upk v) j : Nat))
def RelP (g : Lv) (wt th : Nat → Nat) (st : Nat) (gx gy gt : Nat → Int) (D : Nat → Nat → Int) (p : Nat → Nat) (X M : St) : Prop := pE g wt th st gx gy gt D ∧ okA g p ∧ xE g wt th st gt D X ∧ mE g wt th st gx gy gt D false M ∧ mPl p M ∧ xG g gx gy gt X ∧ rHi g (pkA p) X M ∧ rSl g X M ∧ rTx X M ∧ rCa g wt th st gx gy gt D X
def Rel (X M : St) : Prop := ∃ g wt th st gx gy gt D p, RelP g wt th st gx gy gt D p X M
abbrev XS (X Y : St) : Prop := agr [25, 26, 27, 30] [2, 3, 4, 5, 6, 7, 8, 9] [2, 19, 20, 21, 22, 23, 24, 25, 28, 29, 30] [9, 10, 12] X Y
abbrev MS (M Y : St) : Prop := agr [4, 5, 6, 7, 10, 11] [] [9, 11, 12, 13, 14, 15, 16, 17, 18, 19, 23, 24, 25, 26, 27] [3] M Y
theorem RelP.scr {g : Lv} {wt th : Nat → Nat} {st : Nat} {gx gy gt : Nat → Int} {D : Nat → Nat → Int} {p : Nat → Nat} {X M X2 M2 : St} (h : RelP g wt th st gx gy gt D p X M) (a : XS X X2) (m : MS M M2) (hp : mPl p M2) : RelP g wt th st gx gy gt D p X2 M2 := by
  obtain ⟨h1, h2, ⟨e1, e2, e3, e4, e5, e6⟩, ⟨f1, f2, f3, f4, f5, f6⟩, h5, h6, h7, h8, h9, h10⟩ := h
  refine ⟨h1, h2, ⟨e1.ag a (by decide) (by decide) (by decide) (by decide) (by decide) (by decide) (by decide) (by decide), e2.ag a (fun b hb => by simp; omega) (fun b hb => by simp; omega) (fun b hb => by simp; omega) (fun b hb => by simp; omega), fun b hb hn => ?_, fun r hr => ?_, ?_, fun b hb P hP => ?_⟩, ⟨f1.ag m (by decide) (by decide) (by decide) (by decide) (by decide) (by decide), f2.ag m (by decide), f3.ag m (by decide), ?_, fun b hb => ?_, fun h => by cases h⟩, hp, fun b hb hn => ?_, ?_, ?_, ?_, ?_⟩
  · rw [a.1 _ (by simp; omega)]; exact e3 b hb hn
  · rw [a.2.2.1 1 (by decide)]; exact e4 r hr
  · rw [a.1 2 (by decide)]; exact e5
  · rw [a.2.2.1 _ (by simp; omega)]; exact e6 b hb P hP
  · rw [m.1 2 (by decide)]; exact f4
  · rw [m.2.2.1 6 (by decide), m.2.2.1 7 (by decide), m.2.2.1 8 (by decide)]; exact f5 b hb
  · rw [a.1 (15 + b) (by simp; omega), a.1 (20 + b) (by simp; omega)]; exact h6 b hb hn
  · unfold rHi
    rw [a.1 28 (by decide), a.1 29 (by decide), m.1 8 (by decide), m.1 9 (by decide), a.2.2.2 11 (by decide), a.2.2.1 27 (by decide), m.2.2.2 0 (by decide), m.2.2.2 1 (by decide), a.2.2.1 26 (by decide), m.2.2.1 20 (by decide), m.2.2.1 21 (by decide)]
    exact h7
  · unfold rSl
    rw [a.1 0 (by decide), m.2.2.1 22 (by decide), m.2.2.2 2 (by decide), a.2.2.2 0 (by decide)]
    exact h8
  · unfold rTx
    rw [a.1 1 (by decide), m.1 3 (by decide), a.2.2.1 0 (by decide), m.2.2.1 10 (by decide)]
    exact h9
  · unfold rCa
    rw [a.1 32 (by decide), a.2.1 10 (by decide), a.1 31 (by decide), a.2.2.1 31 (by decide)]
    exact h10
theorem RelP.same {g : Lv} {wt th : Nat → Nat} {st : Nat} {gx gy gt : Nat → Int} {D : Nat → Nat → Int} {p : Nat → Nat} {X M X2 M2 : St} (h : RelP g wt th st gx gy gt D p X M) (a : XS X X2) (m : MS M M2) (m9 : M2.2.2.1 9 = M.2.2.1 9) : RelP g wt th st gx gy gt D p X2 M2 := h.scr a m (fun b hb => by rw [m9]; exact h.2.2.2.2.1 b hb)
theorem RelP.rel {g : Lv} {wt th : Nat → Nat} {st : Nat} {gx gy gt : Nat → Int} {D : Nat → Nat → Int} {p : Nat → Nat} {X M : St} (h : RelP g wt th st gx gy gt D p X M) : Rel X M := ⟨g, wt, th, st, gx, gy, gt, D, p, h⟩
theorem x_present {N : Nat} {g : Lv} {v : Nat} {X M : St} (h : rHi g v X M) : fX1_present N X = some (lN v, X) := by
  obtain ⟨md, kn, ar, mv, ef, h1, h2, h3, h4, h5, h6, h7, h8, h9, h10⟩ := h
  unfold fX1_present
  rw [h3, ck_z (by omega) (by omega) (by omega), z_cl (by omega) (by omega), show ((md : Int)).toNat = md by omega, (h8 md h1).1, h7]
theorem bb0 (b : Bool) : (b2i b) = zI (if b then 1 else 0) := by cases b <;> rfl
