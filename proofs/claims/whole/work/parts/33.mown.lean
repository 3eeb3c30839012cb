/-! bits of sets -/
theorem z_bitT {s b : Nat} (hs : s < 65536) (hb : b < 16) : (zI s >>> (zI b &&& zI 31)) &&& zI 1 = zI (if s.testBit b then 1 else 0) := by
  rw [z_bit hs hb, Nat.testBit_eq_decide_div_mod_eq]
  congr 1
  have : s / 2 ^ b % 2 < 2 := Nat.mod_lt _ (by omega)
  by_cases h : s / 2 ^ b % 2 = 1
  · simp [h]
  · have : s / 2 ^ b % 2 = 0 := by omega
    simp [this]
theorem i_bit1 {β : Type} {s b : Nat} (hs : s < 65536) (hb : b < 16) (E1 E2 : β) : (if (zI s >>> (zI b &&& zI 31)) &&& zI 1 = zI 1 then E1 else E2) = if s.testBit b = true then E1 else E2 := by
  rw [z_bitT hs hb]
  cases s.testBit b
  · rfl
  · rfl
theorem i_bit0 {β : Type} {s b : Nat} (hs : s < 65536) (hb : b < 16) (E1 E2 : β) : (if (zI s >>> (zI b &&& zI 31)) &&& zI 1 = zI 0 then E1 else E2) = if s.testBit b = true then E2 else E1 := by
  rw [z_bitT hs hb]
  cases s.testBit b
  · rfl
  · rfl
theorem tb_pow (k r : Nat) : (2 ^ k).testBit r = decide (k = r) := Nat.testBit_two_pow
theorem or_lt {a b n : Nat} (h1 : a < 2 ^ n) (h2 : b < 2 ^ n) : a ||| b < 2 ^ n := Nat.or_lt_two_pow h1 h2
/-! where the blocks stand: the reference's two rows -/
def lo (M : St) (f h : Nat → Int32) : St := fA (fA M 18 f) 19 h
theorem lo_ag (M : St) (f h : Nat → Int32) : agr [] [] [18, 19] [] M (lo M f h) := ((agr.rf M).fA (by decide) f).fA (by decide) h
theorem lo_18 (M : St) (f h : Nat → Int32) : (lo M f h).2.2.1 18 = f := rfl
theorem lo_19 (M : St) (f h : Nat → Int32) : (lo M f h).2.2.1 19 = h := rfl
theorem fA_fA' (S : St) (k : Nat) (f g : Nat → Int32) : fA (fA S k f) k g = fA S k g := fA_fA S k f g
theorem fA_cm (S : St) {k j : Nat} (h : k ≠ j) (f g : Nat → Int32) : fA (fA S k f) j g = fA (fA S j g) k f := by
  unfold fA
  congr 3
  funext i
  by_cases h1 : i = j
  · by_cases h2 : i = k
    · omega
    · simp [h1, show ¬ j = k from fun e => h e.symm]
  · by_cases h2 : i = k
    · simp [h2, h]
    · simp [h1, h2]
theorem lo_s18 (M : St) (f h : Nat → Int32) (c : Nat) (v : Int32) : sA (lo M f h) 18 c v = lo M (upd f c v) h := by
  rw [sA_d, lo_18]
  unfold lo
  rw [fA_cm _ (by decide : (19 : Nat) ≠ 18), fA_fA]
theorem lo_s19 (M : St) (f h : Nat → Int32) (c : Nat) (v : Int32) : sA (lo M f h) 19 c v = lo M f (upd h c v) := by
  rw [sA_d, lo_19]
  unfold lo
  rw [fA_fA]
/-- the first i cells of a block have this cell -/
def hasI (g : Lv) (b p c i : Nat) : Bool := anyB i fun j => decide (8 * cy g b j p + cx g b j p = (c : Int))
def onI (g : Lv) (b p r i : Nat) : Bool := anyB i fun j => kd g (cx g b j p) (cy g b j p) == 6 + r
theorem m_lay144 {N : Nat} {M : St} {f : Nat → Int32} {k : Int32 → St → Option (Unit × St)} {b grp : Nat} {wt : Nat → Nat} (hb : b < 5) (hgr : grp < 16) (hw : M.2.2.1 5 b = zI (wt b)) (hwt : wt b ≤ 9) :
    ∀ (d r n : Nat) (h : Nat → Int32) (L0 : Nat → Nat), r + d = 4 → d < n → (∀ q, q < 4 → L0 q ≤ 100) → (∀ q, q < 4 → h q = zI (L0 q + (if q < r ∧ grp.testBit q = true then wt b else 0) : Nat)) →
      ∃ h2, fX9_layOwners_144 N k n (zI b) (zI grp) (zI r) (lo M f h) = k (zI b + 1) (lo M f h2) ∧ ∀ q, q < 4 → h2 q = zI (L0 q + (if grp.testBit q = true then wt b else 0) : Nat) := by
  intro d
  induction d with
  | zero =>
    intro r n h L0 hr hn hL hh
    obtain ⟨n, rfl⟩ : ∃ n', n = n' + 1 := ⟨n - 1, by omega⟩
    refine ⟨h, ?_, fun q hq => ?_⟩
    · show fX9_layOwners_144b N k (fX9_layOwners_144 N k n) (zI b) (zI grp) (zI r) (lo M f h) = _
      unfold fX9_layOwners_144b
      rw [zl4, i_le (by omega) (by omega), if_pos (by omega)]
    · rw [hh q hq]
      by_cases hq2 : grp.testBit q = true
      · rw [if_pos hq2, if_pos ⟨by omega, hq2⟩]
      · rw [if_neg hq2, if_neg (fun z => hq2 z.2)]
  | succ d ih =>
    intro r n h L0 hr hn hL hh
    obtain ⟨n, rfl⟩ : ∃ n', n = n' + 1 := ⟨n - 1, by omega⟩
    have e1 : fX9_layOwners_144 N k (n + 1) (zI b) (zI grp) (zI r) (lo M f h) = fX9_layOwners_144 N k n (zI b) (zI grp) (zI (r + 1 : Nat)) (lo M f (upd h r (h r + zI (if grp.testBit r then 1 else 0) * zI (wt b)))) := by
      show fX9_layOwners_144b N k (fX9_layOwners_144 N k n) (zI b) (zI grp) (zI r) (lo M f h) = _
      unfold fX9_layOwners_144b
      rw [zl4, i_le (by omega) (by omega), if_neg (by omega), ck_z (by omega) (by omega) (by omega), ck_z (by omega) (by omega) (by omega), ck_z (by omega) (by omega) (by omega), z_cl (by omega) (by omega), z_cl (by omega) (by omega), zl31, zl1, z_bitT (by omega) (by omega), stp_ok, lo_19, zA]
      rw [show ((r : Int)).toNat = r by omega, show ((b : Int)).toNat = b by omega, lo_s19, show (lo M f h).2.2.1 5 b = M.2.2.1 5 b from rfl, hw]
      rfl
    rw [e1]
    refine ih (r + 1) n _ L0 (by omega) (by omega) hL (fun q hq => ?_)
    by_cases hqr : q = r
    · subst hqr
      rw [upd_s, hh q hq, zM, zA, if_neg (by omega)]
      by_cases hb2 : grp.testBit q = true
      · rw [if_pos hb2, if_pos ⟨by omega, hb2⟩]
        congr 1
        omega
      · rw [if_neg hb2, if_neg (fun z => hb2 z.2)]
        congr 1
        omega
    · rw [upd_n _ _ hqr, hh q hq]
      by_cases h2 : q < r ∧ grp.testBit q = true
      · rw [if_pos h2, if_pos ⟨by omega, h2.2⟩]
      · rw [if_neg h2, if_neg (fun z => h2 ⟨by omega, z.2⟩)]
theorem cel_in {g : Lv} (hw : wfL g) {x y : Int} (h : inY g x y) : 0 ≤ 8 * y + x ∧ 8 * y + x < 64 ∧ x < 8 ∧ y < 8 := by
  obtain ⟨⟨w1, w2, w3, w4⟩, -⟩ := hw
  obtain ⟨h1, h2, h3, h4⟩ := h
  omega
theorem plc_in {g : Lv} {b p i : Nat} (h : plc g b p = true) (hi : i < gN g b) : inY g (cx g b i p) (cy g b i p) ∧ kd g (cx g b i p) (cy g b i p) ≠ 1 := by
  have := allB_iff.mp h i hi
  unfold fr at this
  simp at this
  exact ⟨⟨this.1.1, this.1.2.1, this.1.2.2.1, this.1.2.2.2⟩, this.2⟩
theorem m_lay52 {N : Nat} {g : Lv} {M : St} {h : Nat → Int32} {k : Int32 → St → Option (Unit × St)} {b : Nat} {p : Nat → Nat} (hg : mL g M) (hw : wfL g) (hp : mPl p M) (hb : b < 5) (hp2 : p b < 256) (hpl : plc g b (p b) = true) :
    ∀ (d i n grp : Nat) (f : Nat → Int32), i + d = gN g b → d < n → grp < 16 → (∀ r, r < 4 → grp.testBit r = onI g b (p b) r i) → (∀ c, c < 64 → f c = zI (if hasI g b (p b) c i then (b : Int) else owN g p c b)) →
      ∃ f2 grp2, fX9_layOwners_52 N k n (zI b) (zI grp) (zI i) (lo M f h) = fX9_layOwners_144 N k N (zI b) (zI (grp2 : Nat)) (zI 0) (lo M f2 h) ∧ grp2 < 16 ∧ (∀ r, r < 4 → grp2.testBit r = onP g b (p b) r) ∧ ∀ c, c < 64 → f2 c = zI (owN g p c (b + 1)) := by
  intro d
  have hn5 := hw.2.2.1 b
  induction d with
  | zero =>
    intro i n grp f hi hn hgr hbit hf
    obtain ⟨n, rfl⟩ : ∃ n', n = n' + 1 := ⟨n - 1, by omega⟩
    refine ⟨f, grp, ?_, hgr, fun r hr => ?_, fun c hc => ?_⟩
    · show fX9_layOwners_52b N k (fX9_layOwners_52 N k n) (zI b) (zI grp) (zI i) (lo M f h) = _
      unfold fX9_layOwners_52b
      rw [ck_z (by omega) (by omega) (by omega), z_cl (by omega) (by omega), show ((b : Int)).toNat = b by omega, show (lo M f h).2.2.1 2 b = M.2.2.1 2 b from rfl, hg.2.2.2.1 b hb, i_le (by omega) (by omega), if_pos (by omega)]
      rfl
    · rw [hbit r hr]
      unfold onI onP
      rw [show i = gN g b by omega]
    · rw [hf c hc]
      unfold hasI
      rw [show i = gN g b by omega]
      rfl
  | succ d ih =>
    intro i n grp f hi hn hgr hbit hf
    obtain ⟨n, rfl⟩ : ∃ n', n = n' + 1 := ⟨n - 1, by omega⟩
    have hig : i < gN g b := by omega
    obtain ⟨hin, hk1⟩ := plc_in hpl hig
    obtain ⟨q1, q2, q3, q4⟩ := cel_in hw hin
    have hg2 : ∀ f h, mL g (lo M f h) := fun f h => hg.ag (lo_ag M f h) (by decide) (by decide) (by decide) (by decide) (by decide) (by decide)
    have hkd : kd g (cx g b i (p b)) (cy g b i (p b)) ≤ 13 := hw.2.1 _
    obtain ⟨cc, hcc⟩ : ∃ cc : Nat, (cc : Int) = 8 * cy g b i (p b) + cx g b i (p b) := ⟨(8 * cy g b i (p b) + cx g b i (p b)).toNat, by omega⟩
    have hkc : M.2.2.1 1 cc = zI (kd g (cx g b i (p b)) (cy g b i (p b))) := by
      have h1 := hg.2.2.1 (cx g b i (p b)).toNat (cy g b i (p b)).toNat (by obtain ⟨a1, a2, a3, a4⟩ := hin; omega) (by obtain ⟨a1, a2, a3, a4⟩ := hin; omega)
      rw [show 8 * (cy g b i (p b)).toNat + (cx g b i (p b)).toNat = cc by obtain ⟨a1, a2, a3, a4⟩ := hin; omega] at h1
      rw [h1]
      unfold kd
      rw [← hcc, show ((cc : Int)).toNat = cc by omega]
    have e1 : ∃ grp2 : Nat, grp2 < 16 ∧ (∀ r, r < 4 → grp2.testBit r = onI g b (p b) r (i + 1)) ∧ fX9_layOwners_52 N k (n + 1) (zI b) (zI grp) (zI i) (lo M f h) = fX9_layOwners_52 N k n (zI b) (zI grp2) (zI (i + 1 : Nat)) (lo M (upd f cc (zI b)) h) := by
      have e2 : ∀ s0 : Nat, fX9_layOwners_134 N k (fX9_layOwners_52 N k n) (zI s0) (zI grp) (zI b) (zI i) (lo M (upd f cc (zI b)) h) = fX9_layOwners_52 N k n (zI b) (zI (grp ||| s0 : Nat)) (zI (i + 1 : Nat)) (lo M (upd f cc (zI b)) h) := by
        intro s0
        unfold fX9_layOwners_134
        rw [nm_ok, z_or, zl1, zA]
        rfl
      have e3 : fX9_layOwners_52 N k (n + 1) (zI b) (zI grp) (zI i) (lo M f h) = if 6 ≤ kd g (cx g b i (p b)) (cy g b i (p b)) ∧ kd g (cx g b i (p b)) (cy g b i (p b)) ≤ 9 then fX9_layOwners_134 N k (fX9_layOwners_52 N k n) (zI (2 ^ (kd g (cx g b i (p b)) (cy g b i (p b)) - 6) : Nat)) (zI grp) (zI b) (zI i) (lo M (upd f cc (zI b)) h) else fX9_layOwners_134 N k (fX9_layOwners_52 N k n) (zI (0 : Nat)) (zI grp) (zI b) (zI i) (lo M (upd f cc (zI b)) h) := by
        show fX9_layOwners_52b N k (fX9_layOwners_52 N k n) (zI b) (zI grp) (zI i) (lo M f h) = _
        unfold fX9_layOwners_52b
        rw [ck_z (by omega) (by omega) (by omega), z_cl (by omega) (by omega), show ((b : Int)).toNat = b by omega, show (lo M f h).2.2.1 2 b = M.2.2.1 2 b from rfl, hg.2.2.2.1 b hb, i_le (by omega) (by omega), if_neg (by omega), ck_z (by omega) (by omega) (by omega), show (lo M f h).2.2.1 9 b = M.2.2.1 9 b from rfl, hp b hb, m_cellY (hg2 f h) hw hb hig hp2, bd_ok, ck_z (by omega) (by omega) (by omega), show (lo M f h).2.2.1 9 b = M.2.2.1 9 b from rfl, hp b hb, m_cellX (hg2 f h) hw hb hig hp2, bd_ok, nm_ok, zl8, zM, zA, ← hcc, ck_z (by omega) (by omega) (by omega), stp_ok, z_cl (by omega) (by omega), show ((cc : Int)).toNat = cc by omega, lo_s18, ck_z (by omega) (by omega) (by omega), show (lo M (upd f cc (zI b)) h).2.2.1 1 cc = M.2.2.1 1 cc from rfl, hkc, zl6, zl9, m_in (by omega) (by omega) (by omega), bd_ok, zl0, i_d]
        by_cases h6 : (6 : Int) ≤ (kd g (cx g b i (p b)) (cy g b i (p b)) : Int) ∧ (kd g (cx g b i (p b)) (cy g b i (p b)) : Int) ≤ 9
        · rw [if_pos h6, if_pos (by omega), ck_z (by omega) (by omega) (by omega), show (lo M (upd f cc (zI b)) h).2.2.1 1 cc = M.2.2.1 1 cc from rfl, hkc, zS, zl1, zl31, show ((kd g (cx g b i (p b)) (cy g b i (p b)) : Int) - 6) = ((kd g (cx g b i (p b)) (cy g b i (p b)) - 6 : Nat) : Int) by omega, z_one (by omega)]
        · rw [if_neg h6, if_neg (by omega)]
          rfl
      rw [e3]
      by_cases h6 : 6 ≤ kd g (cx g b i (p b)) (cy g b i (p b)) ∧ kd g (cx g b i (p b)) (cy g b i (p b)) ≤ 9
      · rw [if_pos h6, e2]
        refine ⟨_, ?_, fun r hr => ?_, rfl⟩
        · have : 2 ^ (kd g (cx g b i (p b)) (cy g b i (p b)) - 6) < 2 ^ 4 := Nat.pow_lt_pow_right (by omega) (by omega)
          exact or_lt (n := 4) hgr this
        · rw [Nat.testBit_or, hbit r hr, tb_pow]
          unfold onI
          simp only [anyB]
          congr 1
          by_cases h7 : kd g (cx g b i (p b)) (cy g b i (p b)) = 6 + r
          · simp [h7]
          · rw [decide_eq_false (by omega), beq_false_of_ne h7]
      · rw [if_neg h6, e2]
        refine ⟨_, ?_, fun r hr => ?_, rfl⟩
        · exact or_lt (n := 4) hgr (by omega)
        · rw [Nat.testBit_or, hbit r hr, Nat.zero_testBit, Bool.or_false]
          unfold onI
          simp only [anyB]
          rw [beq_false_of_ne (by omega), Bool.or_false]
    obtain ⟨grp2, g1, g2, e1⟩ := e1
    rw [e1]
    refine ih (i + 1) n grp2 _ (by omega) (by omega) g1 g2 (fun c hc => ?_)
    have hs : hasI g b (p b) c (i + 1) = (hasI g b (p b) c i || decide (8 * cy g b i (p b) + cx g b i (p b) = (c : Int))) := rfl
    by_cases hcq : c = cc
    · rw [hs, decide_eq_true (by omega), Bool.or_true, if_pos rfl, hcq, upd_s]
    · rw [upd_n _ _ hcq, hf c hc, hs, decide_eq_false (by omega), Bool.or_false]
theorem m_lay43 {N : Nat} {g : Lv} {M : St} {p wt : Nat → Nat} (hN : 100 ≤ N) (hg : mL g M) (hw : wfL g) (hp : mPl p M) (hwt : mW8 wt M) (hw9 : ∀ b, wt b ≤ 9) (hok : okA g p) :
    ∀ (d b n : Nat) (f h : Nat → Int32), b + d = 5 → d < n → (∀ c, c < 64 → f c = zI (owN g p c b)) → (∀ r, r < 4 → h r = zI (ldN g wt p r b : Nat)) →
      ∃ f2 h2, fX9_layOwners_43 N n (zI b) (lo M f h) = some ((), lo M f2 h2) ∧ (∀ c, c < 64 → f2 c = zI (ow g p c)) ∧ ∀ r, r < 4 → h2 r = zI (ld g wt p r : Nat) := by
  intro d
  induction d with
  | zero =>
    intro b n f h hb hn hf hh
    obtain ⟨n, rfl⟩ : ∃ n', n = n' + 1 := ⟨n - 1, by omega⟩
    have hb : b = 5 := by omega
    subst hb
    refine ⟨f, h, ?_, hf, hh⟩
    show fX9_layOwners_43b N (fX9_layOwners_43 N n) (zI (5 : Nat)) (lo M f h) = _
    unfold fX9_layOwners_43b
    rw [zl5, i_le (by omega) (by omega), if_pos (by omega)]
  | succ d ih =>
    intro b n f h hb hn hf hh
    obtain ⟨n, rfl⟩ : ∃ n', n = n' + 1 := ⟨n - 1, by omega⟩
    have hb5 : b < 5 := by omega
    obtain ⟨o1, o2, o3⟩ := hok.1 b hb5
    have hn5 := hw.2.2.1 b
    obtain ⟨f2, grp2, e1, g1, g2, hf2⟩ := m_lay52 (N := N) (h := h) (k := fX9_layOwners_43 N n) hg hw hp hb5 o1 o3 (gN g b) 0 N 0 f (by omega) (by omega) (by omega) (fun r hr => by rw [Nat.zero_testBit]; rfl) (fun c hc => by rw [hf c hc]; rfl)
    obtain ⟨h2, e2, hh2⟩ := m_lay144 (N := N) (M := M) (f := f2) (k := fX9_layOwners_43 N n) hb5 g1 (hwt b hb5) (hw9 b) 4 0 N h (fun r => ldN g wt p r b) (by omega) (by omega) (fun q hq => by have := ldN_bd (g := g) (p := p) (r := q) hw9 b; omega) (fun q hq => by rw [hh q hq, if_neg (by omega)]; rfl)
    obtain ⟨f3, h3, e3, r1, r2⟩ := ih (b + 1) n f2 h2 (by omega) (by omega) hf2 (fun r hr => by
      rw [hh2 r hr, g2 r hr]
      rfl)
    refine ⟨f3, h3, ?_, r1, r2⟩
    rw [← e3]
    show fX9_layOwners_43b N (fX9_layOwners_43 N n) (zI b) (lo M f h) = _
    unfold fX9_layOwners_43b
    rw [zl5, i_le (by omega) (by omega), if_neg (by omega)]
    have e4 : fX9_layOwners_52 N (fX9_layOwners_43 N n) N (zI b) 0 0 (lo M f h) = _ := e1
    rw [e4]
    have e5 : fX9_layOwners_144 N (fX9_layOwners_43 N n) N (zI b) (zI grp2) (zI 0) (lo M f2 h) = _ := e2
    rw [e5, zl1, zA]
    rfl
theorem m_layOwners {N : Nat} {g : Lv} {M : St} {p wt : Nat → Nat} (hN : 100 ≤ N) (hg : mL g M) (hw : wfL g) (hp : mPl p M) (hwt : mW8 wt M) (hw9 : ∀ b, wt b ≤ 9) (hok : okA g p) :
    ∃ f h, fX9_layOwners N M = some ((), lo M f h) ∧ (∀ c, c < 64 → f c = zI (ow g p c)) ∧ ∀ r, r < 4 → h r = zI (ld g wt p r : Nat) := by
  have l1 : ∀ (d c n : Nat) (f h : Nat → Int32), c + d = 64 → d < n → (∀ q, q < c → f q = zI (-1)) → ∃ f2, fX9_layOwners_2 N n (zI c) (lo M f h) = fX9_layOwners_23 N N (zI 0) (lo M f2 h) ∧ ∀ q, q < 64 → f2 q = zI (-1) := by
    intro d
    induction d with
    | zero =>
      intro c n f h hc hn hf
      obtain ⟨n, rfl⟩ : ∃ n', n = n' + 1 := ⟨n - 1, by omega⟩
      refine ⟨f, ?_, fun q hq => hf q (by omega)⟩
      show fX9_layOwners_2b N (fX9_layOwners_2 N n) (zI c) (lo M f h) = _
      unfold fX9_layOwners_2b
      rw [zl64, i_le (by omega) (by omega), if_pos (by omega)]
      rfl
    | succ d ih =>
      intro c n f h hc hn hf
      obtain ⟨n, rfl⟩ : ∃ n', n = n' + 1 := ⟨n - 1, by omega⟩
      obtain ⟨f2, e, r⟩ := ih (c + 1) n (upd f c (zI (-1))) h (by omega) (by omega) (fun q hq => by
        by_cases h2 : q = c
        · rw [h2, upd_s]
        · rw [upd_n _ _ h2]; exact hf q (by omega))
      refine ⟨f2, ?_, r⟩
      rw [← e]
      show fX9_layOwners_2b N (fX9_layOwners_2 N n) (zI c) (lo M f h) = _
      unfold fX9_layOwners_2b
      rw [zl64, i_le (by omega) (by omega), if_neg (by omega), ck_z (by omega) (by omega) (by omega), stp_ok, z_cl (by omega) (by omega), show ((c : Int)).toNat = c by omega, zlm1, lo_s18, zl1, zA]
      rfl
  have l2 : ∀ (d c n : Nat) (f h : Nat → Int32), c + d = 4 → d < n → (∀ q, q < c → h q = zI 0) → ∃ h2, fX9_layOwners_23 N n (zI c) (lo M f h) = fX9_layOwners_43 N N (zI 0) (lo M f h2) ∧ ∀ q, q < 4 → h2 q = zI 0 := by
    intro d
    induction d with
    | zero =>
      intro c n f h hc hn hf
      obtain ⟨n, rfl⟩ : ∃ n', n = n' + 1 := ⟨n - 1, by omega⟩
      refine ⟨h, ?_, fun q hq => hf q (by omega)⟩
      show fX9_layOwners_23b N (fX9_layOwners_23 N n) (zI c) (lo M f h) = _
      unfold fX9_layOwners_23b
      rw [zl4, i_le (by omega) (by omega), if_pos (by omega)]
      rfl
    | succ d ih =>
      intro c n f h hc hn hf
      obtain ⟨n, rfl⟩ : ∃ n', n = n' + 1 := ⟨n - 1, by omega⟩
      obtain ⟨f2, e, r⟩ := ih (c + 1) n f (upd h c (zI 0)) (by omega) (by omega) (fun q hq => by
        by_cases h2 : q = c
        · rw [h2, upd_s]
        · rw [upd_n _ _ h2]; exact hf q (by omega))
      refine ⟨f2, ?_, r⟩
      rw [← e]
      show fX9_layOwners_23b N (fX9_layOwners_23 N n) (zI c) (lo M f h) = _
      unfold fX9_layOwners_23b
      rw [zl4, i_le (by omega) (by omega), if_neg (by omega), ck_z (by omega) (by omega) (by omega), stp_ok, z_cl (by omega) (by omega), show ((c : Int)).toNat = c by omega, zl0, lo_s19, zl1, zA]
      rfl
  have e0 : M = lo M (M.2.2.1 18) (M.2.2.1 19) := by
    unfold lo
    rw [fA_self]
    exact (fA_self M 19).symm
  obtain ⟨f1, e1, r1⟩ := l1 64 0 N (M.2.2.1 18) (M.2.2.1 19) (by omega) (by omega) (fun q hq => by omega)
  obtain ⟨h1, e2, r2⟩ := l2 4 0 N f1 (M.2.2.1 19) (by omega) (by omega) (fun q hq => by omega)
  obtain ⟨f3, h3, e3, r3, r4⟩ := m_lay43 hN hg hw hp hwt hw9 hok 5 0 N f1 h1 (by omega) (by omega) r1 (fun r hr => by rw [r2 r hr]; rfl)
  refine ⟨f3, h3, ?_, r3, r4⟩
  have e4 : fX9_layOwners N M = fX9_layOwners_2 N N (zI (0 : Nat)) (lo M (M.2.2.1 18) (M.2.2.1 19)) := by
    rw [← e0]
    rfl
  rw [e4, e1]
  have e5 : fX9_layOwners_23 N N (zI 0) (lo M f1 (M.2.2.1 19)) = _ := e2
  rw [e5]
  exact e3
