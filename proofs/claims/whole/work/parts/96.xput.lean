/-! the class lays a cell of the yard, or adds one to a block -/
def vis (W τ q : Nat) : Bool := decide (q % 8 < W ∧ (W + 1) * (q / 8) + q % 8 < τ)
def BY (g : Lv) (W τ : Nat) (B : St) : Prop := (∀ q, q < 64 → B.2.2.1 3 q = zI ((if vis W τ q then gK g q else 0 : Nat))) ∧ (∀ q, q < 64 → bit (B.2.1 0) q = (vis W τ q && (gK g q == 1))) ∧ (∀ q, q < 64 → bit (B.2.1 1) q = (vis W τ q && decide (2 ≤ gK g q ∧ gK g q ≤ 5))) ∧ (∀ k, k < 4 → ∀ q, q < 64 → bit (B.2.2.2 1 k) q = (vis W τ q && (gK g q == 2 + k))) ∧ (∀ r, r < 4 → ∀ q, q < 64 → bit (B.2.2.2 2 r) q = (vis W τ q && (gK g q == 6 + r))) ∧ (∀ r, r < 4 → ∀ q, q < 64 → bit (B.2.2.2 3 r) q = (vis W τ q && (gK g q == 10 + r)))
theorem BY.ag {g : Lv} {W τ : Nat} {is js as ls : List Nat} {B B2 : St} (h : BY g W τ B) (a : agr is js as ls B B2) (j0 : 0 ∉ js) (j1 : 1 ∉ js) (a3 : 3 ∉ as) (l1 : 1 ∉ ls) (l2 : 2 ∉ ls) (l3 : 3 ∉ ls) : BY g W τ B2 := by
  unfold BY
  rw [a.2.2.1 3 a3, a.2.1 0 j0, a.2.1 1 j1, a.2.2.2 1 l1, a.2.2.2 2 l2, a.2.2.2 3 l3]
  exact h
theorem BY.cong {g : Lv} {W τ τ2 : Nat} {B : St} (h : BY g W τ B) (hv : ∀ q, q < 64 → vis W τ2 q = vis W τ q) : BY g W τ2 B := by
  obtain ⟨h1, h2, h3, h4, h5, h6⟩ := h
  exact ⟨fun q hq => by rw [hv q hq]; exact h1 q hq, fun q hq => by rw [hv q hq]; exact h2 q hq, fun q hq => by rw [hv q hq]; exact h3 q hq, fun k hk q hq => by rw [hv q hq]; exact h4 k hk q hq, fun k hk q hq => by rw [hv q hq]; exact h5 k hk q hq, fun k hk q hq => by rw [hv q hq]; exact h6 k hk q hq⟩
theorem vs_t {K : Nat → Nat} {q kk z : Nat} {v v2 : Nat → Bool} (P : Nat → Bool) (hv : v2 z = (v z || decide (z = q))) (hk : K q = kk) (hP : P kk = true) : (v2 z && P (K z)) = ((v z && P (K z)) || decide (z = q)) := by
  rw [hv]
  by_cases hz : z = q
  · subst hz; rw [hk, hP, decide_eq_true rfl]; simp
  · rw [decide_eq_false hz]; simp
theorem vs_f {K : Nat → Nat} {q kk z : Nat} {v v2 : Nat → Bool} (P : Nat → Bool) (hv : v2 z = (v z || decide (z = q))) (hk : K q = kk) (hP : P kk = false) : (v2 z && P (K z)) = (v z && P (K z)) := by
  rw [hv]
  by_cases hz : z = q
  · subst hz; rw [hk, hP]; simp
  · rw [decide_eq_false hz]; simp
theorem sL_at (S : St) (k i : Nat) (v : Int64) (j : Nat) : (sL S k i v).2.2.2 k j = if j = i then v else S.2.2.2 k j := by
  by_cases h : j = i
  · subst h; rw [if_pos rfl, sL_same]
  · rw [if_neg h, sL_oth _ _ h]
theorem x_put {N : Nat} {g : Lv} {W τ τ2 q kk : Nat} {B : St} (hB : BY g W τ B) (hq : q < 64) (hk : gK g q = kk) (h13 : kk ≤ 13) (hv : ∀ z, z < 64 → vis W τ2 z = (vis W τ z || decide (z = q))) : ∃ B2, fX7_put N (zI q) (zI kk) B = some ((), B2) ∧ agr [] [0, 1] [3] [1, 2, 3] B B2 ∧ BY g W τ2 B2 := by
  obtain ⟨h1, h2, h3, h4, h5, h6⟩ := hB
  have k3 : ∀ (v : Int32), v = zI kk → ∀ z, z < 64 → (sA B 3 q v).2.2.1 3 z = zI ((if vis W τ2 z then gK g z else 0 : Nat)) := by
    intro v hvv z hz
    by_cases hzq : z = q
    · subst hzq; rw [sA_same, hv z hz, decide_eq_true rfl, Bool.or_true, if_pos rfl, hk, hvv]
    · rw [sA_oth _ _ hzq, hv z hz, decide_eq_false hzq, Bool.or_false]; exact h1 z hz
  have bput : ∀ (w : Int64) (z : Nat), z < 64 → bit (w ||| ((1 : Int64) <<< ((zI (q : Int)).toInt64 &&& 63))) z = (bit w z || decide (z = q)) := fun w z hz => by rw [bit_or, bit_one hq hz]
  have f1 : ∀ (P : Nat → Bool), P kk = false → ∀ z, z < 64 → (vis W τ2 z && P (gK g z)) = (vis W τ z && P (gK g z)) := fun P hP z hz => vs_f P (hv z hz) hk hP
  have t1 : ∀ (P : Nat → Bool), P kk = true → ∀ z, z < 64 → (vis W τ2 z && P (gK g z)) = ((vis W τ z && P (gK g z)) || decide (z = q)) := fun P hP z hz => vs_t P (hv z hz) hk hP
  have e1 : ∀ m, m ≠ kk → ((fun x : Nat => x == m) kk) = false := fun m hm => by simp; omega
  have e2 : (2 ≤ kk ∧ kk ≤ 5 → False) → (fun x : Nat => decide (2 ≤ x ∧ x ≤ 5)) kk = false := fun h => decide_eq_false h
  unfold fX7_put fX7_put_100
  rw [nm_ok, ck_z (by omega) (by omega) (by omega), stp_ok, z_cl (by omega) (by omega), show ((q : Int)).toNat = q by omega, show (10 : Int32) = zI 10 from rfl, show (6 : Int32) = zI 6 from rfl, show (2 : Int32) = zI 2 from rfl, zl1, i_lt (by omega) (by omega), i_lt (by omega) (by omega), i_lt (by omega) (by omega), i_eq (by omega) (by omega), zS, zS, zS]
  by_cases c10 : (kk : Int) < 10
  · rw [if_pos c10]
    by_cases c6 : (kk : Int) < 6
    · rw [if_pos c6]
      by_cases c2 : (kk : Int) < 2
      · rw [if_pos c2]
        by_cases c1 : (kk : Int) = 1
        · rw [if_pos c1, stp_ok]
          refine ⟨_, rfl, agr.sJ (agr.sA (agr.rf _) (by simp) _ _) (by simp) _, k3 _ rfl, fun z hz => ?_, fun z hz => ?_, fun k hk2 z hz => ?_, fun k hk2 z hz => ?_, fun k hk2 z hz => ?_⟩
          · show bit (B.2.1 0 ||| ((1 : Int64) <<< ((zI (q : Int)).toInt64 &&& 63))) z = _
            rw [bput _ z hz, h2 z hz]
            exact (t1 (fun x => x == 1) (by show (kk == 1) = true; simp; omega) z hz).symm
          · exact (h3 z hz).trans (f1 (fun x => decide (2 ≤ x ∧ x ≤ 5)) (e2 (by omega)) z hz).symm
          · exact (h4 k hk2 z hz).trans (f1 (fun x => x == 2 + k) (e1 _ (by omega)) z hz).symm
          · exact (h5 k hk2 z hz).trans (f1 (fun x => x == 6 + k) (e1 _ (by omega)) z hz).symm
          · exact (h6 k hk2 z hz).trans (f1 (fun x => x == 10 + k) (e1 _ (by omega)) z hz).symm
        · rw [if_neg c1]
          refine ⟨_, rfl, agr.sA (agr.rf _) (by simp) _ _, k3 _ rfl, fun z hz => ?_, fun z hz => ?_, fun k hk2 z hz => ?_, fun k hk2 z hz => ?_, fun k hk2 z hz => ?_⟩
          · exact (h2 z hz).trans (f1 (fun x => x == 1) (e1 _ (by omega)) z hz).symm
          · exact (h3 z hz).trans (f1 (fun x => decide (2 ≤ x ∧ x ≤ 5)) (e2 (by omega)) z hz).symm
          · exact (h4 k hk2 z hz).trans (f1 (fun x => x == 2 + k) (e1 _ (by omega)) z hz).symm
          · exact (h5 k hk2 z hz).trans (f1 (fun x => x == 6 + k) (e1 _ (by omega)) z hz).symm
          · exact (h6 k hk2 z hz).trans (f1 (fun x => x == 10 + k) (e1 _ (by omega)) z hz).symm
      · rw [if_neg c2, ck_z (by omega) (by omega) (by omega), ck_z (by omega) (by omega) (by omega), stp_ok, stp_ok, z_cl (by omega) (by omega)]
        refine ⟨_, rfl, agr.sJ (agr.sL (agr.sA (agr.rf _) (by simp) _ _) (by simp) _ _) (by simp) _, k3 _ rfl, fun z hz => ?_, fun z hz => ?_, fun k hk2 z hz => ?_, fun k hk2 z hz => ?_, fun k hk2 z hz => ?_⟩
        · exact (h2 z hz).trans (f1 (fun x => x == 1) (e1 _ (by omega)) z hz).symm
        · show bit (B.2.1 1 ||| ((1 : Int64) <<< ((zI (q : Int)).toInt64 &&& 63))) z = _
          rw [bput _ z hz, h3 z hz]
          exact (t1 (fun x => decide (2 ≤ x ∧ x ≤ 5)) (decide_eq_true (by omega)) z hz).symm
        · show bit ((sL B 1 ((kk : Int) - 2).toNat (B.2.2.2 1 ((kk : Int) - 2).toNat ||| ((1 : Int64) <<< ((zI (q : Int)).toInt64 &&& 63)))).2.2.2 1 k) z = _
          rw [sL_at]
          by_cases hkk : k = ((kk : Int) - 2).toNat
          · rw [if_pos hkk, ← hkk, bput _ z hz, h4 k hk2 z hz]
            exact (t1 (fun x => x == 2 + k) (by show (kk == 2 + k) = true; simp; omega) z hz).symm
          · rw [if_neg hkk]
            exact (h4 k hk2 z hz).trans (f1 (fun x => x == 2 + k) (e1 _ (by omega)) z hz).symm
        · exact (h5 k hk2 z hz).trans (f1 (fun x => x == 6 + k) (e1 _ (by omega)) z hz).symm
        · exact (h6 k hk2 z hz).trans (f1 (fun x => x == 10 + k) (e1 _ (by omega)) z hz).symm
    · rw [if_neg c6, ck_z (by omega) (by omega) (by omega), ck_z (by omega) (by omega) (by omega), stp_ok, z_cl (by omega) (by omega)]
      refine ⟨_, rfl, agr.sL (agr.sA (agr.rf _) (by simp) _ _) (by simp) _ _, k3 _ rfl, fun z hz => ?_, fun z hz => ?_, fun k hk2 z hz => ?_, fun k hk2 z hz => ?_, fun k hk2 z hz => ?_⟩
      · exact (h2 z hz).trans (f1 (fun x => x == 1) (e1 _ (by omega)) z hz).symm
      · exact (h3 z hz).trans (f1 (fun x => decide (2 ≤ x ∧ x ≤ 5)) (e2 (by omega)) z hz).symm
      · exact (h4 k hk2 z hz).trans (f1 (fun x => x == 2 + k) (e1 _ (by omega)) z hz).symm
      · show bit ((sL B 2 ((kk : Int) - 6).toNat (B.2.2.2 2 ((kk : Int) - 6).toNat ||| ((1 : Int64) <<< ((zI (q : Int)).toInt64 &&& 63)))).2.2.2 2 k) z = _
        rw [sL_at]
        by_cases hkk : k = ((kk : Int) - 6).toNat
        · rw [if_pos hkk, ← hkk, bput _ z hz, h5 k hk2 z hz]
          exact (t1 (fun x => x == 6 + k) (by show (kk == 6 + k) = true; simp; omega) z hz).symm
        · rw [if_neg hkk]
          exact (h5 k hk2 z hz).trans (f1 (fun x => x == 6 + k) (e1 _ (by omega)) z hz).symm
      · exact (h6 k hk2 z hz).trans (f1 (fun x => x == 10 + k) (e1 _ (by omega)) z hz).symm
  · rw [if_neg c10, ck_z (by omega) (by omega) (by omega), ck_z (by omega) (by omega) (by omega), stp_ok, z_cl (by omega) (by omega)]
    refine ⟨_, rfl, agr.sL (agr.sA (agr.rf _) (by simp) _ _) (by simp) _ _, k3 _ rfl, fun z hz => ?_, fun z hz => ?_, fun k hk2 z hz => ?_, fun k hk2 z hz => ?_, fun k hk2 z hz => ?_⟩
    · exact (h2 z hz).trans (f1 (fun x => x == 1) (e1 _ (by omega)) z hz).symm
    · exact (h3 z hz).trans (f1 (fun x => decide (2 ≤ x ∧ x ≤ 5)) (e2 (by omega)) z hz).symm
    · exact (h4 k hk2 z hz).trans (f1 (fun x => x == 2 + k) (e1 _ (by omega)) z hz).symm
    · exact (h5 k hk2 z hz).trans (f1 (fun x => x == 6 + k) (e1 _ (by omega)) z hz).symm
    · show bit ((sL B 3 ((kk : Int) - 10).toNat (B.2.2.2 3 ((kk : Int) - 10).toNat ||| ((1 : Int64) <<< ((zI (q : Int)).toInt64 &&& 63)))).2.2.2 3 k) z = _
      rw [sL_at]
      by_cases hkk : k = ((kk : Int) - 10).toNat
      · rw [if_pos hkk, ← hkk, bput _ z hz, h6 k hk2 z hz]
        exact (t1 (fun x => x == 10 + k) (by show (kk == 10 + k) = true; simp; omega) z hz).symm
      · rw [if_neg hkk]
        exact (h6 k hk2 z hz).trans (f1 (fun x => x == 10 + k) (e1 _ (by omega)) z hz).symm
theorem rX_s {o : Nat} (ho : o < 3) (a d : Int) : rX (o + 1) a d = -rY o a d ∧ rY (o + 1) a d = rX o a d := by
  obtain rfl | rfl | rfl : o = 0 ∨ o = 1 ∨ o = 2 := by omega
  · exact ⟨rfl, rfl⟩
  · exact ⟨rfl, rfl⟩
  · refine ⟨?_, rfl⟩
    show d = - -d
    omega
theorem x_addC {N b m : Nat} {a d : Int} {B : St} (hN : 100 ≤ N) (hb : b < 5) (hm : m < 5) (hB : B.1 (5 + b) = zI m) : ∃ B2, fX0_addCell N b (zI a) (zI d) B = some ((), B2) ∧ agr [5 + b] [] [4 + b, 9 + b] [] B B2 ∧ B2.1 (5 + b) = zI (m + 1 : Nat) ∧ (∀ o, o < 4 → B2.2.2.1 (4 + b) (5 * o + m) = zI (rX o a d) ∧ B2.2.2.1 (9 + b) (5 * o + m) = zI (rY o a d)) ∧ ∀ o i, i < 5 → i ≠ m → B2.2.2.1 (4 + b) (5 * o + i) = B.2.2.1 (4 + b) (5 * o + i) ∧ B2.2.2.1 (9 + b) (5 * o + i) = B.2.2.1 (9 + b) (5 * o + i) := by
  have main : ∀ (e o n : Nat) (x y : Int32) (Y : St), o + e = 4 → e < n → (o < 4 → x = zI (rX o a d) ∧ y = zI (rY o a d)) → agr [] [] [4 + b, 9 + b] [] B Y → (∀ o2, o2 < o → Y.2.2.1 (4 + b) (5 * o2 + m) = zI (rX o2 a d) ∧ Y.2.2.1 (9 + b) (5 * o2 + m) = zI (rY o2 a d)) → (∀ o2 i, i < 5 → i ≠ m → Y.2.2.1 (4 + b) (5 * o2 + i) = B.2.2.1 (4 + b) (5 * o2 + i) ∧ Y.2.2.1 (9 + b) (5 * o2 + i) = B.2.2.1 (9 + b) (5 * o2 + i)) → ∃ B2, fX0_addCell_17 N b n x y (zI o) Y = some ((), B2) ∧ agr [5 + b] [] [4 + b, 9 + b] [] B B2 ∧ B2.1 (5 + b) = zI (m + 1 : Nat) ∧ (∀ o, o < 4 → B2.2.2.1 (4 + b) (5 * o + m) = zI (rX o a d) ∧ B2.2.2.1 (9 + b) (5 * o + m) = zI (rY o a d)) ∧ ∀ o i, i < 5 → i ≠ m → B2.2.2.1 (4 + b) (5 * o + i) = B.2.2.1 (4 + b) (5 * o + i) ∧ B2.2.2.1 (9 + b) (5 * o + i) = B.2.2.1 (9 + b) (5 * o + i) := by
    intro e
    induction e with
    | zero =>
      intro o n x y Y h1 h2 hxy aY k1 k2
      obtain ⟨n, rfl⟩ : ∃ n', n = n' + 1 := ⟨n - 1, by omega⟩
      show ∃ B2, fX0_addCell_17b N b (fX0_addCell_17 N b n) x y (zI o) Y = some ((), B2) ∧ _
      unfold fX0_addCell_17b
      rw [zl4, i_le (by omega) (by omega), if_pos (by omega), stp_ok, aY.1 _ (by simp), hB, zl1, zA]
      exact ⟨_, rfl, agr.sI (aY.wk (by simp) (by simp) (by simp) (by simp)) (by simp) _, sI_same _ _ _, fun o2 ho2 => k1 o2 (by omega), k2⟩
    | succ e ih =>
      intro o n x y Y h1 h2 hxy aY k1 k2
      obtain ⟨n, rfl⟩ : ∃ n', n = n' + 1 := ⟨n - 1, by omega⟩
      obtain ⟨rfl, rfl⟩ := hxy (by omega)
      have q1 : Y.1 (5 + b) = zI m := by rw [aY.1 _ (by simp)]; exact hB
      have q2 : ∀ (k i : Nat) (v : Int32), (sA Y k i v).1 (5 + b) = zI m := fun _ _ _ => q1
      show ∃ B2, fX0_addCell_17b N b (fX0_addCell_17 N b n) (zI (rX o a d)) (zI (rY o a d)) (zI o) Y = some ((), B2) ∧ _
      unfold fX0_addCell_17b
      rw [zl4, i_le (by omega) (by omega), if_neg (by omega), q1, zl5, zM, zA, ck_z (by omega) (by omega) (by omega), stp_ok, q2, zA, ck_z (by omega) (by omega) (by omega), stp_ok, nm_ok, zN, zl1, zA, z_cl (by omega) (by omega), show (5 * (o : Int) + (m : Int)).toNat = 5 * o + m by omega]
      refine ih (o + 1) n _ _ _ (by omega) (by omega) (fun ho => ?_) (agr.sA (agr.sA aY (by simp) _ _) (by simp) _ _) (fun o2 ho2 => ?_) (fun o2 i hi him => ?_)
      · obtain ⟨r1, r2⟩ := rX_s (o := o) (by omega) a d
        rw [r1, r2]
        exact ⟨rfl, rfl⟩
      · rw [sA_ne _ _ _ (by omega)]
        by_cases hoo : o2 = o
        · subst hoo; rw [sA_same, sA_same]; exact ⟨rfl, rfl⟩
        · rw [sA_oth _ _ (by omega), sA_oth _ _ (by omega), sA_ne _ _ _ (by omega)]; exact k1 o2 (by omega)
      · rw [sA_ne _ _ _ (by omega), sA_oth _ _ (by omega), sA_oth _ _ (by omega), sA_ne _ _ _ (by omega)]
        exact k2 o2 i hi him
  unfold fX0_addCell
  rw [hB, zl5, i_lt (by omega) (by omega), if_pos (by omega)]
  exact main 4 0 N (zI a) (zI d) B (by omega) (by omega) (fun _ => ⟨rfl, rfl⟩) (agr.rf _) (fun o2 ho2 => absurd ho2 (Nat.not_lt_zero _)) (fun o2 i _ _ => ⟨rfl, rfl⟩)
