def S0X : St := (fun k => ([0, 0, 45, 3, 3, 0, 0, 0, 0, 0, 1, 1, 1, 1, 1, (-1), (-1), (-1), (-1), (-1), 4, 4, 4, 4, 4, 0, 0, 0, 0, 0, 0, 0, 0] : List Int32).getD k 0, fun _ => 0, fun k => (if k = 1 then (fil 4 1 (fun _ => 0)) else (fun _ => 0)), fun _ _ => 0)
def S0M : St := (fun k => ([3, 3, 45, 0, 0, 0, 0, 0, 0, 0, 0, 0] : List Int32).getD k 0, fun _ => 0, fun k => (if k = 0 then (upd (upd (upd (upd (fun _ => 0) 0 1) 1 1) 2 1) 3 1) else (fun _ => 0)), fun _ _ => 0)
def mkad (l : List Nat) (t0 t1 t2 t3 : Nat) (k : Nat) : Nat := if k < 100 then l.getD k 0 else if k = 200 then t0 else if k = 201 then t1 else if k = 202 then t2 else t3
theorem blk_fix {D : va_G} {cl : List vw_C} {ws ws2 : va_W} {H : Heap} (h : va_P D cl ws H) (i : Nat) {a n : Nat} {c4 : ClassId} {f g : Nat → Option Nat} (hi : ws[i]? = some (a, .inl (c4, n, .inr (.inr (.inr (.inr f)))))) (hfg : ∀ j, j < n → f j = g j) (he : ws.set i (a, .inl (c4, n, .inr (.inr (.inr (.inr g))))) = ws2) : va_P D cl ws2 H := by
  subst he
  intro k x hx
  by_cases hk : k = i
  · subst hk
    have hlt : k < ws.length := (List.getElem?_eq_some_iff.mp hi).1
    rw [List.getElem?_set_self hlt] at hx
    cases hx
    have h1 := h k _ hi
    have e : vp_cell c4 (n, .inr (.inr (.inr (.inr g)))) = vp_cell c4 (n, .inr (.inr (.inr (.inr f)))) := by
      show arrV c4 n (fun j => va_rf (g j)) = arrV c4 n (fun j => va_rf (f j))
      unfold arrV
      congr 2
      funext j
      show va_rf (g j.val) = va_rf (f j.val)
      rw [hfg j.val j.isLt]
    show H[a]? = some (vp_cell c4 _)
    rw [e]
    exact h1
  · rw [List.getElem?_set_ne (Ne.symm hk)] at hx
    exact h k x hx
theorem inj_of {A : Nat → Prop} {ws : va_W} {ad : Nat → Nat} {n : Nat} (hD : va_D A ws) (h : ws.map Prod.fst = (List.range n).map ad) : ∀ i, i < n → ∀ j, j < n → ad i = ad j → i = j := by
  have key : ∀ i, i < n → ∃ x, ws[i]? = some x ∧ x.1 = ad i := by
    intro i hi
    have h1 : (ws.map Prod.fst)[i]? = some (ad i) := by rw [h, List.getElem?_map, List.getElem?_range hi]; rfl
    rw [List.getElem?_map] at h1
    cases hw : ws[i]? with
    | none => rw [hw] at h1; cases h1
    | some x => rw [hw] at h1; exact ⟨x, rfl, Option.some.inj h1⟩
  intro i hi j hj e
  obtain ⟨x, hx, ex⟩ := key i hi
  obtain ⟨y, hy, ey⟩ := key j hj
  exact hD.1 i j x y hx hy (by rw [ex, ey, e])
theorem in_of {A : Nat → Prop} {ws : va_W} {ad : Nat → Nat} {n : Nat} (hD : va_D A ws) (h : ws.map Prod.fst = (List.range n).map ad) : ∀ i, i < n → A (ad i) := by
  intro i hi
  have h1 : (ws.map Prod.fst)[i]? = some (ad i) := by rw [h, List.getElem?_map, List.getElem?_range hi]; rfl
  rw [List.getElem?_map] at h1
  cases hw : ws[i]? with
  | none => rw [hw] at h1; cases h1
  | some x => rw [hw] at h1; rw [← Option.some.inj h1]; exact hD.2 i x hw
theorem dX_of {ad : Nat → Nat} {cA : Nat → ClassId} (h : ∀ i, i < 60 → ∀ j, j < 60 → ad i = ad j → i = j) (S : St) : va_D (xA ad) (xW ad cA S) := ⟨fun i j x y hx hy e => by
    obtain ⟨a1, a2⟩ := xW_at hx
    obtain ⟨b1, b2⟩ := xW_at hy
    exact h i a1 j b1 (by rw [← a2, ← b2, e]), fun k x hx => ⟨k, xW_at hx⟩⟩
theorem dM_of {am : Nat → Nat} {cA : Nat → ClassId} (h : ∀ i, i < 33 → ∀ j, j < 33 → am i = am j → i = j) (S : St) : va_D (mA am) (mW am cA S) := ⟨fun i j x y hx hy e => by
    obtain ⟨a1, a2⟩ := mW_at hx
    obtain ⟨b1, b2⟩ := mW_at hy
    exact h i a1 j b1 (by rw [← a2, ← b2, e]), fun k x hx => ⟨k, mW_at hx⟩⟩
set_option maxRecDepth 100000 in
theorem tab_KIND_LETTERS {s : State} {b : Nat} (hts0 : ∀ w ∈ lw_tbl, w.before #[Value.ref b] s = true) (hgv : (Jvm.Cond.and given_1 narrow_1).before #[Value.ref b] s = true) : ∃ t : Nat, va_Z "BlockYard" "KIND_LETTERS" "[C" (.ref t) (lA s) s s.heap ∧ va_T .char t 6 (fun j => .int (tKL j)) (lA s) s s.heap := by
  have hs := flat_of_before _ hgv
  have hA : ∀ q : Nat, q < s.heap.size → ¬ lA s q := fun q h => Nat.not_le.mpr h
  obtain ⟨t, ht, hT⟩ := va_Tof (args := #[Value.ref b]) (s := s) (tm := (Term.static "BlockYard" "KIND_LETTERS" "[C")) (ty := .char) (N := 6) (f := fun j => .int (tKL j)) (A := lA s) (by decide) (hs _ (by decide +kernel)) (va_eqt (hs (Cond.eq (.length (Term.static "BlockYard" "KIND_LETTERS" "[C")) (.int 6)) (by decide +kernel))) (fun j hj => match j, hj with
    | 0, _ => va_eqt (hs (Cond.eq (.elem (Term.static "BlockYard" "KIND_LETTERS" "[C") (.int 0)) (.int 114)) (by decide +kernel))
    | 1, _ => va_eqt (hs (Cond.eq (.elem (Term.static "BlockYard" "KIND_LETTERS" "[C") (.int 1)) (.int 100)) (by decide +kernel))
    | 2, _ => va_eqt (hs (Cond.eq (.elem (Term.static "BlockYard" "KIND_LETTERS" "[C") (.int 2)) (.int 108)) (by decide +kernel))
    | 3, _ => va_eqt (hs (Cond.eq (.elem (Term.static "BlockYard" "KIND_LETTERS" "[C") (.int 3)) (.int 117)) (by decide +kernel))
    | 4, _ => va_eqt (hs (Cond.eq (.elem (Term.static "BlockYard" "KIND_LETTERS" "[C") (.int 4)) (.int 116)) (by decide +kernel))
    | 5, _ => va_eqt (hs (Cond.eq (.elem (Term.static "BlockYard" "KIND_LETTERS" "[C") (.int 5)) (.int 115)) (by decide +kernel))
    | n + 6, h => absurd h (by omega)) hA
  exact ⟨t, va_Zof (hts0 _ (List.mem_of_getElem? (i := 535) (by decide +kernel))) (hts0 _ (List.mem_of_getElem? (i := 55) (by decide +kernel))) ht hA, hT⟩
set_option maxRecDepth 100000 in
theorem tab_GROUND {s : State} {b : Nat} (hts0 : ∀ w ∈ lw_tbl, w.before #[Value.ref b] s = true) (hgv : (Jvm.Cond.and given_1 narrow_1).before #[Value.ref b] s = true) : ∃ t : Nat, va_Z "BlockYard$LevelReader" "GROUND" "[C" (.ref t) (lA s) s s.heap ∧ va_T .char t 14 (fun j => .int (tGR j)) (lA s) s s.heap := by
  have hs := flat_of_before _ hgv
  have hA : ∀ q : Nat, q < s.heap.size → ¬ lA s q := fun q h => Nat.not_le.mpr h
  obtain ⟨t, ht, hT⟩ := va_Tof (args := #[Value.ref b]) (s := s) (tm := (Term.static "BlockYard$LevelReader" "GROUND" "[C")) (ty := .char) (N := 14) (f := fun j => .int (tGR j)) (A := lA s) (by decide) (hs _ (by decide +kernel)) (va_eqt (hs (Cond.eq (.length (Term.static "BlockYard$LevelReader" "GROUND" "[C")) (.int 14)) (by decide +kernel))) (fun j hj => match j, hj with
    | 0, _ => va_eqt (hs (Cond.eq (.elem (Term.static "BlockYard$LevelReader" "GROUND" "[C") (.int 0)) (.int 46)) (by decide +kernel))
    | 1, _ => va_eqt (hs (Cond.eq (.elem (Term.static "BlockYard$LevelReader" "GROUND" "[C") (.int 1)) (.int 35)) (by decide +kernel))
    | 2, _ => va_eqt (hs (Cond.eq (.elem (Term.static "BlockYard$LevelReader" "GROUND" "[C") (.int 2)) (.int 62)) (by decide +kernel))
    | 3, _ => va_eqt (hs (Cond.eq (.elem (Term.static "BlockYard$LevelReader" "GROUND" "[C") (.int 3)) (.int 118)) (by decide +kernel))
    | 4, _ => va_eqt (hs (Cond.eq (.elem (Term.static "BlockYard$LevelReader" "GROUND" "[C") (.int 4)) (.int 60)) (by decide +kernel))
    | 5, _ => va_eqt (hs (Cond.eq (.elem (Term.static "BlockYard$LevelReader" "GROUND" "[C") (.int 5)) (.int 94)) (by decide +kernel))
    | 6, _ => va_eqt (hs (Cond.eq (.elem (Term.static "BlockYard$LevelReader" "GROUND" "[C") (.int 6)) (.int 48)) (by decide +kernel))
    | 7, _ => va_eqt (hs (Cond.eq (.elem (Term.static "BlockYard$LevelReader" "GROUND" "[C") (.int 7)) (.int 49)) (by decide +kernel))
    | 8, _ => va_eqt (hs (Cond.eq (.elem (Term.static "BlockYard$LevelReader" "GROUND" "[C") (.int 8)) (.int 50)) (by decide +kernel))
    | 9, _ => va_eqt (hs (Cond.eq (.elem (Term.static "BlockYard$LevelReader" "GROUND" "[C") (.int 9)) (.int 51)) (by decide +kernel))
    | 10, _ => va_eqt (hs (Cond.eq (.elem (Term.static "BlockYard$LevelReader" "GROUND" "[C") (.int 10)) (.int 119)) (by decide +kernel))
    | 11, _ => va_eqt (hs (Cond.eq (.elem (Term.static "BlockYard$LevelReader" "GROUND" "[C") (.int 11)) (.int 120)) (by decide +kernel))
    | 12, _ => va_eqt (hs (Cond.eq (.elem (Term.static "BlockYard$LevelReader" "GROUND" "[C") (.int 12)) (.int 121)) (by decide +kernel))
    | 13, _ => va_eqt (hs (Cond.eq (.elem (Term.static "BlockYard$LevelReader" "GROUND" "[C") (.int 13)) (.int 122)) (by decide +kernel))
    | n + 14, h => absurd h (by omega)) hA
  exact ⟨t, va_Zof (hts0 _ (List.mem_of_getElem? (i := 409) (by decide +kernel))) (hts0 _ (List.mem_of_getElem? (i := 61) (by decide +kernel))) ht hA, hT⟩
set_option maxRecDepth 100000 in
theorem tab_STEP_X {s : State} {b : Nat} (hts0 : ∀ w ∈ lw_tbl, w.before #[Value.ref b] s = true) (hgv : (Jvm.Cond.and given_1 narrow_1).before #[Value.ref b] s = true) : ∃ t : Nat, va_Z "BlockYard$Yard" "STEP_X" "[I" (.ref t) (lA s) s s.heap ∧ va_T .int t 4 (fun j => .int (tSX j)) (lA s) s s.heap := by
  have hs := flat_of_before _ hgv
  have hA : ∀ q : Nat, q < s.heap.size → ¬ lA s q := fun q h => Nat.not_le.mpr h
  obtain ⟨t, ht, hT⟩ := va_Tof (args := #[Value.ref b]) (s := s) (tm := (Term.static "BlockYard$Yard" "STEP_X" "[I")) (ty := .int) (N := 4) (f := fun j => .int (tSX j)) (A := lA s) (by decide) (hs _ (by decide +kernel)) (va_eqt (hs (Cond.eq (.length (Term.static "BlockYard$Yard" "STEP_X" "[I")) (.int 4)) (by decide +kernel))) (fun j hj => match j, hj with
    | 0, _ => va_eqt (hs (Cond.eq (.elem (Term.static "BlockYard$Yard" "STEP_X" "[I") (.int 0)) (.int 1)) (by decide +kernel))
    | 1, _ => va_eqt (hs (Cond.eq (.elem (Term.static "BlockYard$Yard" "STEP_X" "[I") (.int 1)) (.int 0)) (by decide +kernel))
    | 2, _ => va_eqt (hs (Cond.eq (.elem (Term.static "BlockYard$Yard" "STEP_X" "[I") (.int 2)) (.int (-1))) (by decide +kernel))
    | 3, _ => va_eqt (hs (Cond.eq (.elem (Term.static "BlockYard$Yard" "STEP_X" "[I") (.int 3)) (.int 0)) (by decide +kernel))
    | n + 4, h => absurd h (by omega)) hA
  exact ⟨t, va_Zof (hts0 _ (List.mem_of_getElem? (i := 555) (by decide +kernel))) (hts0 _ (List.mem_of_getElem? (i := 58) (by decide +kernel))) ht hA, hT⟩
set_option maxRecDepth 100000 in
theorem tab_STEP_Y {s : State} {b : Nat} (hts0 : ∀ w ∈ lw_tbl, w.before #[Value.ref b] s = true) (hgv : (Jvm.Cond.and given_1 narrow_1).before #[Value.ref b] s = true) : ∃ t : Nat, va_Z "BlockYard$Yard" "STEP_Y" "[I" (.ref t) (lA s) s s.heap ∧ va_T .int t 4 (fun j => .int (tSY j)) (lA s) s s.heap := by
  have hs := flat_of_before _ hgv
  have hA : ∀ q : Nat, q < s.heap.size → ¬ lA s q := fun q h => Nat.not_le.mpr h
  obtain ⟨t, ht, hT⟩ := va_Tof (args := #[Value.ref b]) (s := s) (tm := (Term.static "BlockYard$Yard" "STEP_Y" "[I")) (ty := .int) (N := 4) (f := fun j => .int (tSY j)) (A := lA s) (by decide) (hs _ (by decide +kernel)) (va_eqt (hs (Cond.eq (.length (Term.static "BlockYard$Yard" "STEP_Y" "[I")) (.int 4)) (by decide +kernel))) (fun j hj => match j, hj with
    | 0, _ => va_eqt (hs (Cond.eq (.elem (Term.static "BlockYard$Yard" "STEP_Y" "[I") (.int 0)) (.int 0)) (by decide +kernel))
    | 1, _ => va_eqt (hs (Cond.eq (.elem (Term.static "BlockYard$Yard" "STEP_Y" "[I") (.int 1)) (.int 1)) (by decide +kernel))
    | 2, _ => va_eqt (hs (Cond.eq (.elem (Term.static "BlockYard$Yard" "STEP_Y" "[I") (.int 2)) (.int 0)) (by decide +kernel))
    | 3, _ => va_eqt (hs (Cond.eq (.elem (Term.static "BlockYard$Yard" "STEP_Y" "[I") (.int 3)) (.int (-1))) (by decide +kernel))
    | n + 4, h => absurd h (by omega)) hA
  exact ⟨t, va_Zof (hts0 _ (List.mem_of_getElem? (i := 557) (by decide +kernel))) (hts0 _ (List.mem_of_getElem? (i := 58) (by decide +kernel))) ht hA, hT⟩
def x0W (cA : Nat → ClassId) (q1 : Nat) (qb1 : Nat → Nat) : va_W := [(q1, .inr (8, [.ref (qb1 0), .ref (qb1 2), .ref (qb1 36), .ref (qb1 40), .ref (qb1 44), .ref (qb1 48), .ref (qb1 58), .int 0])), ((qb1 0), .inr (6, [.ref (qb1 1), .int 0])), ((qb1 2), .inr (2, [.ref (qb1 3), .ref (qb1 8), .ref (qb1 9), .int 45, .ref (qb1 10)])), ((qb1 3), .inr (7, [.int 3, .int 3, .ref (qb1 4), .long 0, .long 0, .ref (qb1 5), .ref (qb1 6), .ref (qb1 7)])), ((qb1 11), .inr (0, [.ref (qb1 12), .ref (qb1 13), .ref (qb1 14), .ref (qb1 15), .int 0, .int 1, .int (-1), .int 4])), ((qb1 16), .inr (0, [.ref (qb1 17), .ref (qb1 18), .ref (qb1 19), .ref (qb1 20), .int 0, .int 1, .int (-1), .int 4])), ((qb1 21), .inr (0, [.ref (qb1 22), .ref (qb1 23), .ref (qb1 24), .ref (qb1 25), .int 0, .int 1, .int (-1), .int 4])), ((qb1 26), .inr (0, [.ref (qb1 27), .ref (qb1 28), .ref (qb1 29), .ref (qb1 30), .int 0, .int 1, .int (-1), .int 4])), ((qb1 31), .inr (0, [.ref (qb1 32), .ref (qb1 33), .ref (qb1 34), .ref (qb1 35), .int 0, .int 1, .int (-1), .int 4])), ((qb1 36), .inr (3, [.ref (qb1 0), .ref (qb1 37), .ref (qb1 38), .ref (qb1 39), .int 0, .int 0, .int 0])), ((qb1 40), .inr (4, [.ref (qb1 2), .ref (qb1 41), .ref (qb1 42), .ref (qb1 43), .long 0, .long 0, .long 0, .long 0])), ((qb1 54), .inr (4, [.ref (qb1 2), .ref (qb1 55), .ref (qb1 56), .ref (qb1 57), .long 0, .long 0, .long 0, .long 0])), ((qb1 44), .inr (1, [.ref (qb1 45), .ref (qb1 46), .ref (qb1 47), .int 0, .int 0])), ((qb1 48), .inr (5, [.ref (qb1 2), .ref (qb1 54), .ref (qb1 49), .ref (qb1 50), .ref (qb1 51), .int 0, .ref (qb1 52), .ref (qb1 53), .int 0, .long 0, .int 0])), ((qb1 58), .inl (cA 1, 4, .inr (.inl (fun _ => 0)))), ((qb1 1), .inl (cA 2, 80, .inl (fun _ => 0))), ((qb1 8), .inl (cA 4, 5, .inr (.inr (.inr (.inr (va_up (va_up (va_up (va_up (va_up (fun _ => none) 0 (some (qb1 11))) 1 (some (qb1 16))) 2 (some (qb1 21))) 3 (some (qb1 26))) 4 (some (qb1 31)))))))), ((qb1 9), .inl (cA 0, 4, .inl (fil 4 1 (fun _ => 0)))), ((qb1 10), .inl (cA 0, 256, .inl (fun _ => 0))), ((qb1 4), .inl (cA 0, 64, .inl (fun _ => 0))), ((qb1 5), .inl (cA 1, 4, .inr (.inl (fun _ => 0)))), ((qb1 6), .inl (cA 1, 4, .inr (.inl (fun _ => 0)))), ((qb1 7), .inl (cA 1, 4, .inr (.inl (fun _ => 0)))), ((qb1 12), .inl (cA 0, 20, .inl (fun _ => 0))), ((qb1 17), .inl (cA 0, 20, .inl (fun _ => 0))), ((qb1 22), .inl (cA 0, 20, .inl (fun _ => 0))), ((qb1 27), .inl (cA 0, 20, .inl (fun _ => 0))), ((qb1 32), .inl (cA 0, 20, .inl (fun _ => 0))), ((qb1 13), .inl (cA 0, 20, .inl (fun _ => 0))), ((qb1 18), .inl (cA 0, 20, .inl (fun _ => 0))), ((qb1 23), .inl (cA 0, 20, .inl (fun _ => 0))), ((qb1 28), .inl (cA 0, 20, .inl (fun _ => 0))), ((qb1 33), .inl (cA 0, 20, .inl (fun _ => 0))), ((qb1 14), .inl (cA 1, 256, .inr (.inl (fun _ => 0)))), ((qb1 19), .inl (cA 1, 256, .inr (.inl (fun _ => 0)))), ((qb1 24), .inl (cA 1, 256, .inr (.inl (fun _ => 0)))), ((qb1 29), .inl (cA 1, 256, .inr (.inl (fun _ => 0)))), ((qb1 34), .inl (cA 1, 256, .inr (.inl (fun _ => 0)))), ((qb1 15), .inl (cA 0, 256, .inl (fun _ => 0))), ((qb1 20), .inl (cA 0, 256, .inl (fun _ => 0))), ((qb1 25), .inl (cA 0, 256, .inl (fun _ => 0))), ((qb1 30), .inl (cA 0, 256, .inl (fun _ => 0))), ((qb1 35), .inl (cA 0, 256, .inl (fun _ => 0))), ((qb1 37), .inl (cA 0, 5, .inl (fun _ => 0))), ((qb1 38), .inl (cA 0, 5, .inl (fun _ => 0))), ((qb1 39), .inl (cA 0, 5, .inl (fun _ => 0))), ((qb1 41), .inl (cA 0, 5, .inl (fun _ => 0))), ((qb1 55), .inl (cA 0, 5, .inl (fun _ => 0))), ((qb1 42), .inl (cA 0, 5, .inl (fun _ => 0))), ((qb1 56), .inl (cA 0, 5, .inl (fun _ => 0))), ((qb1 43), .inl (cA 1, 5, .inr (.inl (fun _ => 0)))), ((qb1 57), .inl (cA 1, 5, .inr (.inl (fun _ => 0)))), ((qb1 45), .inl (cA 1, 201, .inr (.inl (fun _ => 0)))), ((qb1 46), .inl (cA 0, 200, .inl (fun _ => 0))), ((qb1 47), .inl (cA 0, 201, .inl (fun _ => 0))), ((qb1 49), .inl (cA 1, 1200, .inr (.inl (fun _ => 0)))), ((qb1 50), .inl (cA 0, 1200, .inl (fun _ => 0))), ((qb1 51), .inl (cA 0, 1200, .inl (fun _ => 0))), ((qb1 52), .inl (cA 0, 2048, .inl (fun _ => 0))), ((qb1 53), .inl (cA 0, 1200, .inl (fun _ => 0)))]
set_option maxRecDepth 100000 in
set_option maxHeartbeats 8000000 in
/-- the claim out of a relation that the calls keep -/
theorem whole_of {p : Program} {e : Env} {s : State} {m : MethodId} {below : List Frame} {meth : Method} {c : Code} (l : Launch) {b L : Nat} {xs : Nat → Int32} (hL : L ≤ 2560) (C0 : lw_At p s m meth c b L xs) {N : Nat} {Rel : St → St → Prop} (h0 : Rel S0X S0M) (hs : Keeps N Rel) : W p l e room_1 s m #[Value.ref b] below meth c s.heap [] 0 0 (lw_Z below #[Value.ref b] s) (entryFrame m ([Value.ref b] : List Value).toArray 4) := by
  obtain ⟨hx, hb, hr, hml, hown, hts0, hX, hbl, hlocks, hgv⟩ := C0
  have hts : ∀ w ∈ gw_tbl, w.before #[Value.ref b] s = true := fun w h => hts0 w (List.mem_filter.mp h).1
  obtain ⟨c0, iS0, hKn0⟩ := u_known (C := RX0) (T := TX0) (N := 8) (n := 8) hts inX0 (hts (.instantiable RX0 8) (gm (i := 140) (by decide +kernel) rfl))
  obtain ⟨c1, iS1, hKn1⟩ := u_known (C := RX1) (T := TX1) (N := 5) (n := 5) hts inX1 (hts (.instantiable RX1 5) (gm (i := 273) (by decide +kernel) rfl))
  obtain ⟨c2, iS2, hKn2⟩ := u_known (C := RX2) (T := TX2) (N := 5) (n := 5) hts inX2 (hts (.instantiable RX2 5) (gm (i := 92) (by decide +kernel) rfl))
  obtain ⟨c3, iS3, hKn3⟩ := u_known (C := RX3) (T := TX3) (N := 7) (n := 7) hts inX3 (hts (.instantiable RX3 7) (gm (i := 211) (by decide +kernel) rfl))
  obtain ⟨c4, iS4, hKn4⟩ := u_known (C := RX4) (T := TX4) (N := 8) (n := 8) hts inX4 (hts (.instantiable RX4 8) (gm (i := 239) (by decide +kernel) rfl))
  obtain ⟨c5, iS5, hKn5⟩ := u_known (C := RX5) (T := TX5) (N := 11) (n := 11) hts inX5 (hts (.instantiable RX5 11) (gm (i := 299) (by decide +kernel) rfl))
  obtain ⟨c6, iS6, hKn6⟩ := u_known (C := RX6) (T := TX6) (N := 2) (n := 2) hts inX6 (hts (.instantiable RX6 2) (gm (i := 76) (by decide +kernel) rfl))
  obtain ⟨c7, iS7, hKn7⟩ := u_known (C := RX7) (T := TX7) (N := 8) (n := 8) hts inX7 (hts (.instantiable RX7 8) (gm (i := 98) (by decide +kernel) rfl))
  obtain ⟨c8, iS8, hKn8⟩ := u_known (C := RX8) (T := TX8) (N := 8) (n := 8) hts inX8 (hts (.instantiable RX8 8) (gm (i := 68) (by decide +kernel) rfl))
  obtain ⟨c9, iS9, hKn9⟩ := u_known (C := RX9) (T := TX9) (N := 44) (n := 44) hts inX9 (hts (.instantiable RX9 44) (gm (i := 800) (by decide +kernel) rfl))
  obtain ⟨dC, dI, hKc⟩ : ∃ (dC : Nat → ClassId) (dI : Nat → Nat → Nat), ∀ (k : Nat) (q : vw_C), vwCl[k]? = some q → u_Kn s q.1 q.2.1 q.2.2 (dC k) (dI k) := by
    refine ⟨fun k => match k with | 0 => c0 | 1 => c1 | 2 => c2 | 3 => c3 | 4 => c4 | 5 => c5 | 6 => c6 | 7 => c7 | 8 => c8 | _ => c9, fun k => match k with | 0 => iS0 | 1 => iS1 | 2 => iS2 | 3 => iS3 | 4 => iS4 | 5 => iS5 | 6 => iS6 | 7 => iS7 | 8 => iS8 | _ => iS9, ?_⟩
    intro k q hq
    match k, hq with
    | 0, hq => cases hq; exact hKn0
    | 1, hq => cases hq; exact hKn1
    | 2, hq => cases hq; exact hKn2
    | 3, hq => cases hq; exact hKn3
    | 4, hq => cases hq; exact hKn4
    | 5, hq => cases hq; exact hKn5
    | 6, hq => cases hq; exact hKn6
    | 7, hq => cases hq; exact hKn7
    | 8, hq => cases hq; exact hKn8
    | 9, hq => cases hq; exact hKn9
    | k + 10, hq => simp [vwCl] at hq
  obtain ⟨ca0, ka0, co0, a10, a20, a30⟩ := Cond.arrayClass_spec (type := .int) (hts (.arrayClass .int) (gm (i := 136) (by decide +kernel) rfl))
  obtain ⟨ca1, ka1, co1, a11, a21, a31⟩ := Cond.arrayClass_spec (type := .long) (hts (.arrayClass .long) (gm (i := 137) (by decide +kernel) rfl))
  obtain ⟨ca2, ka2, co2, a12, a22, a32⟩ := Cond.arrayClass_spec (type := .char) (hts (.arrayClass .char) (gm (i := 90) (by decide +kernel) rfl))
  obtain ⟨ca3, ka3, co3, a13, a23, a33⟩ := Cond.arrayClass_spec (type := .boolean) (hts (.arrayClass .boolean) (gm (i := 938) (by decide +kernel) rfl))
  have hao : (Cond.arrayOver (.object "BlockYard$Block")).before #[Value.ref b] s = true := hts0 _ (List.mem_of_getElem? (i := 139) (by decide +kernel))
  obtain ⟨co4, ca4, ka4, b1, b2, b3, b4, b5⟩ := Cond.arrayOver_spec hao
  obtain ⟨cA, hcA⟩ : ∃ cA : Nat → ClassId, cA = fun k => match k with | 0 => ca0 | 1 => ca1 | 2 => ca2 | 3 => ca3 | _ => ca4 := ⟨_, rfl⟩
  have hK : va_K (dC, dI) vwCl (tysF cA) s := by
    refine ⟨hKc, fun k q hq => ?_⟩
    subst hcA
    match k, hq with
    | 0, hq => cases hq; exact ⟨fun n z => ⟨fun k h => (by cases h), ka0, a20, co0, a30⟩, a10⟩
    | 1, hq => cases hq; exact ⟨fun n z => ⟨fun k h => (by cases h), ka1, a21, co1, a31⟩, a11⟩
    | 2, hq => cases hq; exact ⟨fun n z => ⟨fun k h => (by cases h), ka2, a22, co2, a32⟩, a12⟩
    | 3, hq => cases hq; exact ⟨fun n z => ⟨fun k h => (by cases h), ka3, a23, co3, a33⟩, a13⟩
    | 4, hq => cases hq; exact ⟨fun n z => ⟨fun k h => (by cases h), ka4, b3, co4, b4⟩, ka4, co4, b3, b4, b1, b5⟩
    | k + 5, hq => simp [tysF] at hq
  clear hcA
  have hnx : nx s := ⟨fun w hw => by
      have h1 := hts0 w ((by decide +kernel : ∀ w ∈ nestw, w ∈ lw_tbl) w hw)
      obtain ⟨x1, x2, x3, x4, rfl⟩ := nestw_all w hw
      exact va_Nw.of rfl h1, va_AO.of hao⟩
  obtain ⟨t0, hz0, ht0⟩ := tab_KIND_LETTERS hts0 hgv
  obtain ⟨t1, hz1, ht1⟩ := tab_GROUND hts0 hgv
  obtain ⟨t2, hz2, ht2⟩ := tab_STEP_X hts0 hgv
  obtain ⟨t3, hz3, ht3⟩ := tab_STEP_Y hts0 hgv
  have C : OkC p s m #[Value.ref b] c meth (dC, dI) cA (lA s) RL cL_law 4 True := ⟨hx, hb, hml, hown, hts, hK, fun q h => h, hnx, trivial⟩
  have key : VC p l e room_1 s m #[Value.ref b] below meth c (lw_Z below #[Value.ref b] s) (dC, dI) (lA s) 4 [] 0 0 0 [(0, .ref b)] [] := by
    refine c_new C (ci := 8) (pc := 0) inX8 tyX8 tyX8_ok (gm (i := 67) (by decide +kernel) rfl) (gm (i := 68) (by decide +kernel) rfl) (gm (i := 55) (by decide +kernel) rfl) rfl [.null, .null, .null, .null, .null, .null, .null, .int 0] dfX8 (nc2 := 1) (ns2 := 8) rfl rfl (Nat.le_of_ble_eq_true rfl) (Nat.le_of_ble_eq_true rfl) dL_law_0 (fun q1 => ?_)
    refine c_dup C (pc := 3) dL_law_3 rfl ?_
    refine c_callI C (pc := 4) (wr := []) (gm (i := 69) (by decide +kernel) rfl : Cond.methodLink RL 9 yX8_init ∈ gw_tbl) infcX8_init (rm2 := rmX8_init) ⟨rfl, rfl⟩ (Nat.le_of_ble_eq_true rfl) (Nat.le_of_ble_eq_true rfl) (fun sz => mX8_init q1 sz) rfl (As := []) rfl rfl (Nat.le_of_ble_eq_true rfl) (nc2 := 60) (ns2 := 10782) rfl rfl (Nat.le_of_ble_eq_true rfl) (Nat.le_of_ble_eq_true rfl) dL_law_4 (fun qb1 => ?_)
    refine c_ws (ws2 := wX8_init cA q1 qb1) rfl ?_
    refine c_astore_n C (pc := 7) [(1, .ref q1), (0, .ref b)] dL_law_7 rfl (by decide) rfl ?_
    refine c_new C (ci := 9) (pc := 8) inX9 tyX9 tyX9_ok (gm (i := 799) (by decide +kernel) rfl) (gm (i := 800) (by decide +kernel) rfl) (gm (i := 65) (by decide +kernel) rfl) rfl [.int 0, .int 0, .int 0, .null, .null, .null, .null, .null, .null, .null, .null, .null, .null, .int 0, .null, .null, .null, .null, .null, .null, .null, .null, .int 0, .int 0, .null, .null, .int 0, .int 0, .int 0, .int 0, .null, .null, .null, .null, .null, .null, .null, .null, .null, .null, .null, .null, .int 0, .int 0] dfX9 (nc2 := 61) (ns2 := 10826) rfl rfl (Nat.le_of_ble_eq_true rfl) (Nat.le_of_ble_eq_true rfl) dL_law_8 (fun q2 => ?_)
    refine c_dup C (pc := 11) dL_law_11 rfl ?_
    refine c_callI C (pc := 12) (wr := wX8_init cA q1 qb1) (gm (i := 801) (by decide +kernel) rfl : Cond.methodLink RL 12 yX9_init ∈ gw_tbl) infcX9_init (rm2 := rmX9_init) ⟨rfl, rfl⟩ (Nat.le_of_ble_eq_true rfl) (Nat.le_of_ble_eq_true rfl) (fun sz => mX9_init q2 sz) rfl (As := []) rfl rfl (Nat.le_of_ble_eq_true rfl) (nc2 := 93) (ns2 := 19680) rfl rfl (Nat.le_of_ble_eq_true rfl) (Nat.le_of_ble_eq_true rfl) dL_law_12 (fun qb2 => ?_)
    refine c_astore_n C (pc := 15) [(2, .ref q2), (1, .ref q1), (0, .ref b)] dL_law_15 rfl (by decide) rfl ?_
    refine c_iconst C (pc := 16) 0 dL_law_16 rfl ?_
    refine c_istore_n C (pc := 17) [(3, .int 0), (2, .ref q2), (1, .ref q1), (0, .ref b)] dL_law_17 rfl (by decide) rfl ?_
    intro H locs ls hP hD hS hl
    have hPx := hP.sub (ws' := x0W cA q1 qb1) [0, 1, 3, 4, 12, 17, 22, 27, 32, 37, 41, 55, 45, 49, 59, 2, 9, 10, 11, 5, 6, 7, 8, 13, 18, 23, 28, 33, 14, 19, 24, 29, 34, 15, 20, 25, 30, 35, 16, 21, 26, 31, 36, 38, 39, 40, 42, 56, 43, 57, 44, 58, 46, 47, 48, 50, 51, 52, 53, 54] rfl
    have hDx := hD.sub (ws' := x0W cA q1 qb1) [0, 1, 3, 4, 12, 17, 22, 27, 32, 37, 41, 55, 45, 49, 59, 2, 9, 10, 11, 5, 6, 7, 8, 13, 18, 23, 28, 33, 14, 19, 24, 29, 34, 15, 20, 25, 30, 35, 16, 21, 26, 31, 36, 38, 39, 40, 42, 56, 43, 57, 44, 58, 46, 47, 48, 50, 51, 52, 53, 54] (by decide) rfl
    have hPm := hP.sub (ws' := mW (fun k => ([q2, (qb2 0), (qb2 1), (qb2 2), (qb2 3), (qb2 4), (qb2 5), (qb2 6), (qb2 7), (qb2 8), (qb2 9), (qb2 10), (qb2 11), (qb2 12), (qb2 13), (qb2 14), (qb2 15), (qb2 16), (qb2 17), (qb2 18), (qb2 19), (qb2 20), (qb2 21), (qb2 22), (qb2 23), (qb2 24), (qb2 25), (qb2 26), (qb2 27), (qb2 28), (qb2 29), (qb2 30), (qb2 31)] : List Nat).getD k 0) cA S0M) [60, 61, 62, 63, 64, 65, 66, 67, 68, 69, 70, 71, 72, 73, 74, 75, 76, 77, 78, 79, 80, 81, 82, 83, 84, 85, 86, 87, 88, 89, 90, 91, 92] rfl
    have hDm := hD.sub (ws' := mW (fun k => ([q2, (qb2 0), (qb2 1), (qb2 2), (qb2 3), (qb2 4), (qb2 5), (qb2 6), (qb2 7), (qb2 8), (qb2 9), (qb2 10), (qb2 11), (qb2 12), (qb2 13), (qb2 14), (qb2 15), (qb2 16), (qb2 17), (qb2 18), (qb2 19), (qb2 20), (qb2 21), (qb2 22), (qb2 23), (qb2 24), (qb2 25), (qb2 26), (qb2 27), (qb2 28), (qb2 29), (qb2 30), (qb2 31)] : List Nat).getD k 0) cA S0M) [60, 61, 62, 63, 64, 65, 66, 67, 68, 69, 70, 71, 72, 73, 74, 75, 76, 77, 78, 79, 80, 81, 82, 83, 84, 85, 86, 87, 88, 89, 90, 91, 92] (by decide) rfl
    have hDa := hD.sub (ws' := x0W cA q1 qb1 ++ mW (fun k => ([q2, (qb2 0), (qb2 1), (qb2 2), (qb2 3), (qb2 4), (qb2 5), (qb2 6), (qb2 7), (qb2 8), (qb2 9), (qb2 10), (qb2 11), (qb2 12), (qb2 13), (qb2 14), (qb2 15), (qb2 16), (qb2 17), (qb2 18), (qb2 19), (qb2 20), (qb2 21), (qb2 22), (qb2 23), (qb2 24), (qb2 25), (qb2 26), (qb2 27), (qb2 28), (qb2 29), (qb2 30), (qb2 31)] : List Nat).getD k 0) cA S0M) [0, 1, 3, 4, 12, 17, 22, 27, 32, 37, 41, 55, 45, 49, 59, 2, 9, 10, 11, 5, 6, 7, 8, 13, 18, 23, 28, 33, 14, 19, 24, 29, 34, 15, 20, 25, 30, 35, 16, 21, 26, 31, 36, 38, 39, 40, 42, 56, 43, 57, 44, 58, 46, 47, 48, 50, 51, 52, 53, 54, 60, 61, 62, 63, 64, 65, 66, 67, 68, 69, 70, 71, 72, 73, 74, 75, 76, 77, 78, 79, 80, 81, 82, 83, 84, 85, 86, 87, 88, 89, 90, 91, 92] (by decide) rfl
    obtain ⟨ad, had⟩ : ∃ ad : Nat → Nat, ad = mkad [q1, (qb1 0), (qb1 2), (qb1 3), (qb1 11), (qb1 16), (qb1 21), (qb1 26), (qb1 31), (qb1 36), (qb1 40), (qb1 54), (qb1 44), (qb1 48), (qb1 58), (qb1 1), (qb1 8), (qb1 9), (qb1 10), (qb1 4), (qb1 5), (qb1 6), (qb1 7), (qb1 12), (qb1 17), (qb1 22), (qb1 27), (qb1 32), (qb1 13), (qb1 18), (qb1 23), (qb1 28), (qb1 33), (qb1 14), (qb1 19), (qb1 24), (qb1 29), (qb1 34), (qb1 15), (qb1 20), (qb1 25), (qb1 30), (qb1 35), (qb1 37), (qb1 38), (qb1 39), (qb1 41), (qb1 55), (qb1 42), (qb1 56), (qb1 43), (qb1 57), (qb1 45), (qb1 46), (qb1 47), (qb1 49), (qb1 50), (qb1 51), (qb1 52), (qb1 53)] t0 t1 t2 t3 := ⟨_, rfl⟩
    obtain ⟨am, ham⟩ : ∃ am : Nat → Nat, am = (fun k => ([q2, (qb2 0), (qb2 1), (qb2 2), (qb2 3), (qb2 4), (qb2 5), (qb2 6), (qb2 7), (qb2 8), (qb2 9), (qb2 10), (qb2 11), (qb2 12), (qb2 13), (qb2 14), (qb2 15), (qb2 16), (qb2 17), (qb2 18), (qb2 19), (qb2 20), (qb2 21), (qb2 22), (qb2 23), (qb2 24), (qb2 25), (qb2 26), (qb2 27), (qb2 28), (qb2 29), (qb2 30), (qb2 31)] : List Nat).getD k 0) := ⟨_, rfl⟩
    have fx : (x0W cA q1 qb1).map Prod.fst = (List.range 60).map ad := by subst had; rfl
    have hq1 : q1 = ad 0 := by subst had; rfl
    have hq2 : q2 = am 0 := by subst ham; rfl
    have hPX : va_P (dC, dI) vwCl (xW ad cA S0X) H := by
      subst had
      refine blk_fix hPx 16 rfl (g := fun i => some (mkad [q1, (qb1 0), (qb1 2), (qb1 3), (qb1 11), (qb1 16), (qb1 21), (qb1 26), (qb1 31), (qb1 36), (qb1 40), (qb1 54), (qb1 44), (qb1 48), (qb1 58), (qb1 1), (qb1 8), (qb1 9), (qb1 10), (qb1 4), (qb1 5), (qb1 6), (qb1 7), (qb1 12), (qb1 17), (qb1 22), (qb1 27), (qb1 32), (qb1 13), (qb1 18), (qb1 23), (qb1 28), (qb1 33), (qb1 14), (qb1 19), (qb1 24), (qb1 29), (qb1 34), (qb1 15), (qb1 20), (qb1 25), (qb1 30), (qb1 35), (qb1 37), (qb1 38), (qb1 39), (qb1 41), (qb1 55), (qb1 42), (qb1 56), (qb1 43), (qb1 57), (qb1 45), (qb1 46), (qb1 47), (qb1 49), (qb1 50), (qb1 51), (qb1 52), (qb1 53)] t0 t1 t2 t3 (4 + i))) (fun j hj => ?_) rfl
      match j, hj with
      | 0, _ => rfl
      | 1, _ => rfl
      | 2, _ => rfl
      | 3, _ => rfl
      | 4, _ => rfl
      | n + 5, h => exact absurd h (by omega)
    rw [← ham] at hPm hDm hDa
    have ij := inj_of hDx fx
    have im := inj_of hDm (mW_fst S0M)
    have hne : ∀ i, i < 60 → ∀ j, j < 33 → ad i ≠ am j := by
      intro i hi j hj e
      have fa : (x0W cA q1 qb1 ++ mW am cA S0M).map Prod.fst = (List.range 93).map (fun k => if k < 60 then ad k else am (k - 60)) := by subst had; subst ham; rfl
      have := inj_of hDa fa i (by omega) (60 + j) (by omega) (by
        rw [if_pos hi, if_neg (by omega), show 60 + j - 60 = j by omega]
        exact e)
      omega
    have hAX : ∀ k, k < 60 → s.heap.size ≤ ad k := in_of hDx fx
    have hxA : ∀ q, xA ad q → lA s q := fun q ⟨k, h1, h2⟩ => h2 ▸ hAX k h1
    have e200 : ad 200 = t0 ∧ ad 201 = t1 ∧ ad 202 = t2 ∧ ad 203 = t3 := by subst had; exact ⟨rfl, rfl, rfl, rfl⟩
    have hxs : xS ad s s.heap := by
      unfold xS
      rw [e200.1, e200.2.1, e200.2.2.1, e200.2.2.2]
      exact ⟨⟨hz0.narrow hxA, ht0.narrow hxA⟩, ⟨hz1.narrow hxA, ht1.narrow hxA⟩, ⟨hz2.narrow hxA, ht2.narrow hxA⟩, ⟨hz3.narrow hxA, ht3.narrow hxA⟩, hnx.1⟩
    have CL : OkL p s m b L xs meth c (dC, dI) cA ad am := ⟨hx, hb, hml, hown, hts, hK, dX_of ij, dM_of im, hAX, in_of hDm (mW_fst S0M), hne, hxs, hX, hbl, hr, hlocks⟩
    have hfin := law_loop (l := l) (e := e) (below := below) CL hL hs (L + 6) 0 S0X S0M (by omega) (by omega) h0
    refine hfin H locs ls hPX hPm hS ?_
    rw [← hq1, ← hq2]
    exact lv_sub hl [3, 2, 1, 0] rfl
  have hl := lv_entry ([.ref b]) (n := 4) (Nat.le_of_ble_eq_true rfl)
  rw [lg_entry_eq]
  exact key s.heap [] _ (fun k q h => by simp at h) ⟨fun i j p q h => by simp at h, fun k q h => by simp at h⟩ va_S.rf hl
