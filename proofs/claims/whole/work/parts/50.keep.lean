/-! a move that can be leads to an arrangement that can be -/
def rot2 (x y : Int) : Bool := decide (rad x y = 0) || (decide ((ri true (rad x y) (x, y) (2 * rad x y).toNat).1 = -y) && (decide ((ri true (rad x y) (x, y) (2 * rad x y).toNat).2 = x) && (decide ((ri false (rad x y) (x, y) (2 * rad x y).toNat).1 = y) && (decide ((ri false (rad x y) (x, y) (2 * rad x y).toNat).2 = -x) && decide (0 < rad x y)))))
theorem ring_end0 : ∀ a : Nat, a < 15 → ∀ b : Nat, b < 15 → rot2 ((a : Int) - 7) ((b : Int) - 7) = true := by decide +kernel
theorem rad0 {x y : Int} (h : rad x y = 0) : x = 0 ∧ y = 0 := by
  unfold rad ab at h
  split at h <;> split at h <;> (try split at h) <;> omega
theorem swp_end {t : Int → Int → Bool} {cw : Bool} {px py x y : Int} (h : rg7 x y) (hs : swp t cw px py x y = true) : (x = 0 ∧ y = 0) ∨ t (px + (if cw then -y else y)) (py + (if cw then x else -x)) = true := by
  have h1 := ring_end0 (x + 7).toNat (by unfold rg7 at h; omega) (y + 7).toNat (by unfold rg7 at h; omega)
  rw [show (((x + 7).toNat : Nat) : Int) - 7 = x by unfold rg7 at h; omega, show (((y + 7).toNat : Nat) : Int) - 7 = y by unfold rg7 at h; omega] at h1
  unfold rot2 at h1
  rw [Bool.or_eq_true] at h1
  rcases h1 with h1 | h1
  · exact Or.inl (rad0 (of_decide_eq_true h1))
  · right
    simp only [Bool.and_eq_true, decide_eq_true_eq] at h1
    unfold swp at hs
    have h2 := allB_iff.mp hs ((2 * rad x y).toNat - 1) (by omega)
    rw [show (2 * rad x y).toNat - 1 + 1 = (2 * rad x y).toNat by omega] at h2
    cases cw
    · rw [h1.2.2.1, h1.2.2.2.1] at h2
      exact h2
    · rw [h1.1, h1.2.1] at h2
      exact h2
theorem rot_t {p : Nat} (hp : p < 256) (cw : Bool) (a b : Int) : rX ((p + (if cw then 64 else 192)) % 256 / 64) a b = (if cw then -(rY (p / 64) a b) else rY (p / 64) a b) ∧ rY ((p + (if cw then 64 else 192)) % 256 / 64) a b = (if cw then rX (p / 64) a b else -(rX (p / 64) a b)) := by
  have h4 : p / 64 = 0 ∨ p / 64 = 1 ∨ p / 64 = 2 ∨ p / 64 = 3 := by omega
  cases cw
  · simp only [Bool.false_eq_true, if_false]
    rcases h4 with h | h | h | h
    · rw [h, show (p + 192) % 256 / 64 = 3 by omega]; simp [rX, rY]
    · rw [h, show (p + 192) % 256 / 64 = 0 by omega]; simp [rX, rY]
    · rw [h, show (p + 192) % 256 / 64 = 1 by omega]; simp [rX, rY]
    · rw [h, show (p + 192) % 256 / 64 = 2 by omega]; simp [rX, rY]
  · simp only [if_true]
    rcases h4 with h | h | h | h
    · rw [h, show (p + 64) % 256 / 64 = 1 by omega]; simp [rX, rY]
    · rw [h, show (p + 64) % 256 / 64 = 2 by omega]; simp [rX, rY]
    · rw [h, show (p + 64) % 256 / 64 = 3 by omega]; simp [rX, rY]
    · rw [h, show (p + 64) % 256 / 64 = 0 by omega]; simp [rX, rY]
theorem trn_cell {g : Lv} {wt th p : Nat → Nat} (hw : wfL g) (hok : okA g p) {b : Nat} {cw : Bool} (hb : b < 5) (h : trn g wt th p b cw = true) : ∀ i, i < gN g b → fr g (cx g b i ((p b + (if cw then 64 else 192)) % 256)) (cy g b i ((p b + (if cw then 64 else 192)) % 256)) = true ∧ ∀ c d : Nat, d < 5 → d ≠ b → (c : Int) = 8 * cy g b i ((p b + (if cw then 64 else 192)) % 256) + cx g b i ((p b + (if cw then 64 else 192)) % 256) → hasC g d (p d) c = false := by
  intro i hi
  have hp := (hok.1 b hb).1
  have h7 : rg7 (oX g b i (p b)) (oY g b i (p b)) := ⟨(rX_bd (hw.2.2.2.1 b i)).1, (rX_bd (hw.2.2.2.1 b i)).2, (rY_bd (hw.2.2.2.1 b i)).1, (rY_bd (hw.2.2.2.1 b i)).2⟩
  have hs := swp_end h7 (allB_iff.mp h i hi)
  have hr := rot_t hp cw (gX g b i) (gY g b i)
  have hcx : cx g b i ((p b + (if cw then 64 else 192)) % 256) = ((p b % 8 : Nat) : Int) + (if cw then -(oY g b i (p b)) else oY g b i (p b)) := by
    unfold cx oY
    rw [hr.1]
    congr 2
    cases cw <;> simp <;> omega
  have hcy : cy g b i ((p b + (if cw then 64 else 192)) % 256) = ((p b / 8 % 8 : Nat) : Int) + (if cw then oX g b i (p b) else -(oX g b i (p b))) := by
    unfold cy oX
    rw [hr.2]
    congr 2
    cases cw <;> simp <;> omega
  rw [hcx, hcy]
  rcases hs with ⟨h0, h1⟩ | hs
  · rw [h0, h1]
    have e1 : cx g b i (p b) = ((p b % 8 : Nat) : Int) := by show ((p b % 8 : Nat) : Int) + oX g b i (p b) = _; omega
    have e2 : cy g b i (p b) = ((p b / 8 % 8 : Nat) : Int) := by show ((p b / 8 % 8 : Nat) : Int) + oY g b i (p b) = _; omega
    have hpl := allB_iff.mp (hok.1 b hb).2.2 i hi
    rw [e1, e2] at hpl
    simp only [Int.neg_zero, ite_self, Int.add_zero]
    refine ⟨hpl, fun c d hd hdb hc => ?_⟩
    cases hh : hasC g d (p d) c
    · rfl
    · exact absurd ⟨hasC_cell hi (by rw [e1, e2]; exact hc), hh⟩ (hok.2 b hb d hd (fun z => hdb z.symm) c)
  · unfold tc1 at hs
    rw [Bool.and_eq_true, Bool.and_eq_true] at hs
    refine ⟨psb_fr hs.1, fun c d hd hdb hc => ?_⟩
    rw [← hc, show ((c : Int)).toNat = c by omega, Bool.or_eq_true] at hs
    cases hh : hasC g d (p d) c
    · rfl
    · have h3 := (ow_iff hok hd).mpr hh
      rcases hs.2.2 with h4 | h4
      · have := of_decide_eq_true h4; omega
      · have := of_decide_eq_true h4; omega
theorem pset_ex {g : Lv} {p : Nat → Nat} (hok : okA g p) {b k : Nat} (hb0 : 0 < gN g b) {q : Nat} (hq : q < 5) (h : (pset g p b k).testBit q = true) : 0 < gN g q := by
  have h1 := clo_sub (g := g) (p := p) (k := k) (s := mk (fun o => decide (0 < gN g o)) 5) (fun q hq _ o ho hh => by rw [mk_bit, decide_eq_true ho, decide_eq_true (hit_ex hok ho hh)]; rfl) 5 (2 ^ b) (fun o ho h => by
    rw [tb_pow] at h
    have := of_decide_eq_true h
    subst this
    rw [mk_bit, decide_eq_true ho, decide_eq_true hb0]; rfl) q hq h
  rw [mk_bit, Bool.and_eq_true] at h1
  exact of_decide_eq_true h1.2
/-- the arrangement after a move -/
def nxA (g : Lv) (wt th : Nat → Nat) (st : Nat) (p : Nat → Nat) (b k q : Nat) : Nat := (p2I p (mvs g wt th st p b k) k q).toNat
theorem okA_of {g : Lv} {p n : Nat → Nat} {s : Nat} (hok : okA g p) (hs : ∀ q, q < 5 → s.testBit q = false → n q = p q) (h1 : ∀ q, q < 5 → s.testBit q = true → 0 < gN g q ∧ n q < 256 ∧ plc g q (n q) = true) (h2 : ∀ q, q < 5 → s.testBit q = true → ∀ d, d < 5 → s.testBit d = false → ∀ c, ¬ (hasC g q (n q) c = true ∧ hasC g d (p d) c = true)) (h3 : ∀ q, q < 5 → s.testBit q = true → ∀ d, d < 5 → s.testBit d = true → q ≠ d → ∀ c, ¬ (hasC g q (n q) c = true ∧ hasC g d (n d) c = true)) : okA g n := by
  refine ⟨fun q hq => ?_, fun q hq d hd hqd c => ?_⟩
  · cases hh : s.testBit q
    · rw [hs q hq hh]; exact hok.1 q hq
    · obtain ⟨a1, a2, a3⟩ := h1 q hq hh
      exact ⟨a2, fun h => by omega, a3⟩
  · cases hh : s.testBit q
    · rw [hs q hq hh]
      cases hh2 : s.testBit d
      · rw [hs d hd hh2]; exact hok.2 q hq d hd hqd c
      · exact fun z => h2 d hd hh2 q hq hh c ⟨z.2, z.1⟩
    · cases hh2 : s.testBit d
      · rw [hs d hd hh2]; exact h2 q hq hh d hd hh2 c
      · exact h3 q hq hh d hd hh2 hqd c
theorem nx_ok {g : Lv} {wt th p : Nat → Nat} {st b k : Nat} (hw : wfL g) (hok : okA g p) (hb : b < 5) (hb0 : 0 < gN g b) (hk : k < 6) (hm : mvs g wt th st p b k ≠ 0) : (∀ q, q < 5 → p2I p (mvs g wt th st p b k) k q = (nxA g wt th st p b k q : Nat)) ∧ okA g (nxA g wt th st p b k) := by
  by_cases hk4 : k < 4
  · have e : mvs g wt th st p b k = psh g wt th st p b k := by unfold mvs; rw [if_pos hk4]
    rw [e] at hm
    have hc : ((allB 5 fun q => !(pset g p b k).testBit q || sld g wt th p q k) && decide (wsN wt (pset g p b k) 5 ≤ st)) = true := by
      cases hh : ((allB 5 fun q => !(pset g p b k).testBit q || sld g wt th p q k) && decide (wsN wt (pset g p b k) 5 ≤ st))
      · unfold psh at hm
        rw [hh] at hm
        exact absurd rfl hm
      · rfl
    have e2 : mvs g wt th st p b k = pset g p b k := by
      rw [e]
      unfold psh
      rw [hc]
      rfl
    rw [Bool.and_eq_true] at hc
    have hsl : ∀ q, q < 5 → (pset g p b k).testBit q = true → sld g wt th p q k = true := fun q hq h => by
      have := allB_iff.mp hc.1 q hq
      rw [h] at this
      exact this
    have hcell : ∀ q, q < 5 → (pset g p b k).testBit q = true → pbI (p q) k = (nxA g wt th st p b k q : Nat) ∧ nxA g wt th st p b k q < 256 ∧ plc g q (nxA g wt th st p b k q) = true ∧ ∀ i, cx g q i (nxA g wt th st p b k q) = cx g q i (p q) + dX k ∧ cy g q i (nxA g wt th st p b k q) = cy g q i (p q) + dY k := fun q hq h => by
      obtain ⟨n, r⟩ := sld_cell hw hok hq hk4 (pset_ex hok hb0 hq h) (hsl q hq h)
      have : nxA g wt th st p b k q = n := by
        unfold nxA p2I
        rw [e2, h, if_pos rfl, r.1]
        omega
      rw [this]
      exact r
    have hst : ∀ q, (pset g p b k).testBit q = false → nxA g wt th st p b k q = p q := fun q h => by
      unfold nxA p2I
      rw [e2, h, if_neg (by simp)]
      omega
    refine ⟨fun q hq => ?_, okA_of (s := pset g p b k) hok (fun q _ h => hst q h) (fun q hq h => ⟨pset_ex hok hb0 hq h, (hcell q hq h).2.1, (hcell q hq h).2.2.1⟩) (fun q hq h d hd hd2 c z => ?_) (fun q hq h d hd h2 hqd c z => ?_)⟩
    · unfold p2I
      rw [e2]
      cases hh : (pset g p b k).testBit q
      · rw [hst q hh, if_neg (by simp)]
      · rw [if_pos rfl, (hcell q hq hh).1]
    · obtain ⟨i, hi, hci⟩ := hasC_in z.1
      obtain ⟨a1, a2, a3, a4⟩ := hcell q hq h
      have hin := (plc_in a3 hi).1
      have hhit : hit g p k q d = true := anyB_iff.mpr ⟨i, hi, by
        unfold hit1
        rw [← (a4 i).1, ← (a4 i).2, decide_eq_true hin, ← hci, show ((c : Int)).toNat = c by omega]
        exact decide_eq_true ((ow_iff hok hd).mpr z.2)⟩
      have := pset_cl hb hq hd h hhit
      rw [hd2] at this
      cases this
    · obtain ⟨i, hi, hci⟩ := hasC_in z.1
      obtain ⟨i2, hi2, hci2⟩ := hasC_in z.2
      obtain ⟨a1, a2, a3, a4⟩ := hcell q hq h
      obtain ⟨b1, b2, b3, b4⟩ := hcell d hd h2
      have hin := plc_in a3 hi
      have hin2 := plc_in b3 hi2
      have c1 := cel_in hw hin.1
      have c2 := cel_in hw hin2.1
      have o1 := (plc_in (hok.1 q hq).2.2 hi).1
      have o2 := (plc_in (hok.1 d hd).2.2 hi2).1
      have d1 := cel_in hw o1
      have d2 := cel_in hw o2
      have f1 := a4 i
      have f2 := b4 i2
      have g1 := hin.1
      have g2 := hin2.1
      have hc0 : ((8 * cy g q i (p q) + cx g q i (p q)).toNat : Int) = 8 * cy g q i (p q) + cx g q i (p q) := by omega
      refine hok.2 q hq d hd hqd (8 * cy g q i (p q) + cx g q i (p q)).toNat ⟨hasC_cell hi hc0, hasC_cell hi2 ?_⟩
      rw [hc0]
      have : cx g q i (nxA g wt th st p b k q) = cx g d i2 (nxA g wt th st p b k d) := by omega
      omega
  · have ht : trn g wt th p b (k == 4) = true := by
      cases hh : trn g wt th p b (k == 4)
      · unfold mvs at hm
        rw [if_neg hk4, hh] at hm
        exact absurd rfl hm
      · rfl
    have e2 : mvs g wt th st p b k = 2 ^ b := by
      unfold mvs
      rw [if_neg hk4, ht]
      rfl
    have hpb : pbI (p b) k = (((p b + (if (k == 4) = true then 64 else 192)) % 256 : Nat) : Int) := by
      unfold pbI
      rw [if_neg hk4]
      by_cases h : k = 4
      · rw [if_pos h, if_pos (by rw [h]; rfl)]
      · rw [if_neg h, if_neg (by simpa using h)]
    have hnb : nxA g wt th st p b k b = (p b + (if (k == 4) = true then 64 else 192)) % 256 := by
      unfold nxA p2I
      rw [e2, tb_pow, decide_eq_true rfl, if_pos rfl, hpb]
      omega
    have hst : ∀ q, (2 ^ b).testBit q = false → nxA g wt th st p b k q = p q := fun q h => by
      unfold nxA p2I
      rw [e2, h, if_neg (by simp)]
      omega
    have hcell := trn_cell hw hok hb ht
    refine ⟨fun q hq => ?_, okA_of (s := 2 ^ b) hok (fun q _ h => hst q h) (fun q hq h => ?_) (fun q hq h d hd hd2 c z => ?_) (fun q hq h d hd h2 hqd c z => ?_)⟩
    · unfold p2I
      rw [e2]
      cases hh : (2 ^ b).testBit q
      · rw [hst q hh, if_neg (by simp)]
      · rw [tb_pow] at hh
        have := of_decide_eq_true hh
        subst this
        rw [if_pos rfl, hnb, hpb]
    · rw [tb_pow] at h
      have := of_decide_eq_true h
      subst this
      rw [hnb]
      exact ⟨hb0, Nat.mod_lt _ (by decide), allB_iff.mpr fun i hi => (hcell i hi).1⟩
    · rw [tb_pow] at h
      have := of_decide_eq_true h
      subst this
      rw [hnb] at z
      obtain ⟨i, hi, hci⟩ := hasC_in z.1
      have h5 := (hcell i hi).2 c d hd (fun h6 => by rw [tb_pow, h6, decide_eq_true rfl] at hd2; cases hd2) hci
      rw [z.2] at h5
      cases h5
    · rw [tb_pow] at h h2
      have h3 := of_decide_eq_true h
      have h4 := of_decide_eq_true h2
      omega
