def xW (ad : Nat → Nat) (cA : Nat → ClassId) (S : St) : va_W := [(ad 0, .inr (8, [.ref (ad 1), .ref (ad 2), .ref (ad 9), .ref (ad 10), .ref (ad 12), .ref (ad 13), .ref (ad 14), .int (S.1 0)])),
  (ad 1, .inr (6, [.ref (ad 15), .int (S.1 1)])),
  (ad 2, .inr (2, [.ref (ad 3), .ref (ad 16), .ref (ad 17), .int (S.1 2), .ref (ad 18)])),
  (ad 3, .inr (7, [.int (S.1 3), .int (S.1 4), .ref (ad 19), .long (S.2.1 0), .long (S.2.1 1), .ref (ad 20), .ref (ad 21), .ref (ad 22)])),
  (ad 4, .inr (0, [.ref (ad (23 + 0)), .ref (ad (28 + 0)), .ref (ad (33 + 0)), .ref (ad (38 + 0)), .int (S.1 (5 + 0)), .int (S.1 (10 + 0)), .int (S.1 (15 + 0)), .int (S.1 (20 + 0))])),
  (ad 5, .inr (0, [.ref (ad (23 + 1)), .ref (ad (28 + 1)), .ref (ad (33 + 1)), .ref (ad (38 + 1)), .int (S.1 (5 + 1)), .int (S.1 (10 + 1)), .int (S.1 (15 + 1)), .int (S.1 (20 + 1))])),
  (ad 6, .inr (0, [.ref (ad (23 + 2)), .ref (ad (28 + 2)), .ref (ad (33 + 2)), .ref (ad (38 + 2)), .int (S.1 (5 + 2)), .int (S.1 (10 + 2)), .int (S.1 (15 + 2)), .int (S.1 (20 + 2))])),
  (ad 7, .inr (0, [.ref (ad (23 + 3)), .ref (ad (28 + 3)), .ref (ad (33 + 3)), .ref (ad (38 + 3)), .int (S.1 (5 + 3)), .int (S.1 (10 + 3)), .int (S.1 (15 + 3)), .int (S.1 (20 + 3))])),
  (ad 8, .inr (0, [.ref (ad (23 + 4)), .ref (ad (28 + 4)), .ref (ad (33 + 4)), .ref (ad (38 + 4)), .int (S.1 (5 + 4)), .int (S.1 (10 + 4)), .int (S.1 (15 + 4)), .int (S.1 (20 + 4))])),
  (ad 9, .inr (3, [.ref (ad 1), .ref (ad 43), .ref (ad 44), .ref (ad 45), .int (S.1 25), .int (S.1 26), .int (S.1 27)])),
  (ad 10, .inr (4, [.ref (ad 2), .ref (ad (46 + 0)), .ref (ad (48 + 0)), .ref (ad (50 + 0)), .long (S.2.1 (2 + 0)), .long (S.2.1 (4 + 0)), .long (S.2.1 (6 + 0)), .long (S.2.1 (8 + 0))])),
  (ad 11, .inr (4, [.ref (ad 2), .ref (ad (46 + 1)), .ref (ad (48 + 1)), .ref (ad (50 + 1)), .long (S.2.1 (2 + 1)), .long (S.2.1 (4 + 1)), .long (S.2.1 (6 + 1)), .long (S.2.1 (8 + 1))])),
  (ad 12, .inr (1, [.ref (ad 52), .ref (ad 53), .ref (ad 54), .int (S.1 28), .int (S.1 29)])),
  (ad 13, .inr (5, [.ref (ad 2), .ref (ad 11), .ref (ad 55), .ref (ad 56), .ref (ad 57), .int (S.1 30), .ref (ad 58), .ref (ad 59), .int (S.1 31), .long (S.2.1 10), .int (S.1 32)])),
  (ad 14, .inl (cA 1, 4, .inr (.inl (S.2.2.2 0)))),
  (ad 15, .inl (cA 2, 80, .inl (S.2.2.1 0))),
  (ad 16, .inl (cA 4, 5, .inr (.inr (.inr (.inr (fun i => some (ad (4 + i)))))))),
  (ad 17, .inl (cA 0, 4, .inl (S.2.2.1 1))),
  (ad 18, .inl (cA 0, 256, .inl (S.2.2.1 2))),
  (ad 19, .inl (cA 0, 64, .inl (S.2.2.1 3))),
  (ad 20, .inl (cA 1, 4, .inr (.inl (S.2.2.2 1)))),
  (ad 21, .inl (cA 1, 4, .inr (.inl (S.2.2.2 2)))),
  (ad 22, .inl (cA 1, 4, .inr (.inl (S.2.2.2 3)))),
  (ad 23, .inl (cA 0, 20, .inl (S.2.2.1 (4 + 0)))),
  (ad 24, .inl (cA 0, 20, .inl (S.2.2.1 (4 + 1)))),
  (ad 25, .inl (cA 0, 20, .inl (S.2.2.1 (4 + 2)))),
  (ad 26, .inl (cA 0, 20, .inl (S.2.2.1 (4 + 3)))),
  (ad 27, .inl (cA 0, 20, .inl (S.2.2.1 (4 + 4)))),
  (ad 28, .inl (cA 0, 20, .inl (S.2.2.1 (9 + 0)))),
  (ad 29, .inl (cA 0, 20, .inl (S.2.2.1 (9 + 1)))),
  (ad 30, .inl (cA 0, 20, .inl (S.2.2.1 (9 + 2)))),
  (ad 31, .inl (cA 0, 20, .inl (S.2.2.1 (9 + 3)))),
  (ad 32, .inl (cA 0, 20, .inl (S.2.2.1 (9 + 4)))),
  (ad 33, .inl (cA 1, 256, .inr (.inl (S.2.2.2 (4 + 0))))),
  (ad 34, .inl (cA 1, 256, .inr (.inl (S.2.2.2 (4 + 1))))),
  (ad 35, .inl (cA 1, 256, .inr (.inl (S.2.2.2 (4 + 2))))),
  (ad 36, .inl (cA 1, 256, .inr (.inl (S.2.2.2 (4 + 3))))),
  (ad 37, .inl (cA 1, 256, .inr (.inl (S.2.2.2 (4 + 4))))),
  (ad 38, .inl (cA 0, 256, .inl (S.2.2.1 (14 + 0)))),
  (ad 39, .inl (cA 0, 256, .inl (S.2.2.1 (14 + 1)))),
  (ad 40, .inl (cA 0, 256, .inl (S.2.2.1 (14 + 2)))),
  (ad 41, .inl (cA 0, 256, .inl (S.2.2.1 (14 + 3)))),
  (ad 42, .inl (cA 0, 256, .inl (S.2.2.1 (14 + 4)))),
  (ad 43, .inl (cA 0, 5, .inl (S.2.2.1 19))),
  (ad 44, .inl (cA 0, 5, .inl (S.2.2.1 20))),
  (ad 45, .inl (cA 0, 5, .inl (S.2.2.1 21))),
  (ad 46, .inl (cA 0, 5, .inl (S.2.2.1 (22 + 0)))),
  (ad 47, .inl (cA 0, 5, .inl (S.2.2.1 (22 + 1)))),
  (ad 48, .inl (cA 0, 5, .inl (S.2.2.1 (24 + 0)))),
  (ad 49, .inl (cA 0, 5, .inl (S.2.2.1 (24 + 1)))),
  (ad 50, .inl (cA 1, 5, .inr (.inl (S.2.2.2 (9 + 0))))),
  (ad 51, .inl (cA 1, 5, .inr (.inl (S.2.2.2 (9 + 1))))),
  (ad 52, .inl (cA 1, 201, .inr (.inl (S.2.2.2 11)))),
  (ad 53, .inl (cA 0, 200, .inl (S.2.2.1 26))),
  (ad 54, .inl (cA 0, 201, .inl (S.2.2.1 27))),
  (ad 55, .inl (cA 1, 1200, .inr (.inl (S.2.2.2 12)))),
  (ad 56, .inl (cA 0, 1200, .inl (S.2.2.1 28))),
  (ad 57, .inl (cA 0, 1200, .inl (S.2.2.1 29))),
  (ad 58, .inl (cA 0, 2048, .inl (S.2.2.1 30))),
  (ad 59, .inl (cA 0, 1200, .inl (S.2.2.1 31)))]
def xA (ad : Nat → Nat) (q : Nat) : Prop := ∃ k, k < 60 ∧ q = ad k
set_option maxRecDepth 20000 in
theorem oX8 (ad : Nat → Nat) (cA : Nat → ClassId) (S : St) : (xW ad cA S)[0]? = some (ad 0, .inr (8, [.ref (ad 1), .ref (ad 2), .ref (ad 9), .ref (ad 10), .ref (ad 12), .ref (ad 13), .ref (ad 14), .int (S.1 0)])) := rfl
set_option maxRecDepth 20000 in
theorem aX8_saved (ad : Nat → Nat) (cA : Nat → ClassId) (S : St) : (xW ad cA S)[14]? = some (ad 14, .inl (cA 1, 4, .inr (.inl (S.2.2.2 0)))) := rfl
set_option maxRecDepth 20000 in
theorem wX8_saved (ad : Nat → Nat) (cA : Nat → ClassId) (S : St) (g : Nat → Int64) : (xW ad cA S).set 14 (ad 14, .inl (cA 1, 4, .inr (.inl g))) = xW ad cA (fL S 0 g) := rfl
set_option maxRecDepth 20000 in
theorem pX8_filledSlots (ad : Nat → Nat) (cA : Nat → ClassId) (S : St) (v : Int32) : (xW ad cA S).set 0 (ad 0, .inr (8, ([.ref (ad 1), .ref (ad 2), .ref (ad 9), .ref (ad 10), .ref (ad 12), .ref (ad 13), .ref (ad 14), .int (S.1 0)] : List Value).set 7 (.int v))) = xW ad cA (sI S 0 v) := rfl
set_option maxRecDepth 20000 in
theorem oX6 (ad : Nat → Nat) (cA : Nat → ClassId) (S : St) : (xW ad cA S)[1]? = some (ad 1, .inr (6, [.ref (ad 15), .int (S.1 1)])) := rfl
set_option maxRecDepth 20000 in
theorem aX6_signs (ad : Nat → Nat) (cA : Nat → ClassId) (S : St) : (xW ad cA S)[15]? = some (ad 15, .inl (cA 2, 80, .inl (S.2.2.1 0))) := rfl
set_option maxRecDepth 20000 in
theorem wX6_signs (ad : Nat → Nat) (cA : Nat → ClassId) (S : St) (g : Nat → Int32) : (xW ad cA S).set 15 (ad 15, .inl (cA 2, 80, .inl g)) = xW ad cA (fA S 0 g) := rfl
set_option maxRecDepth 20000 in
theorem pX6_length (ad : Nat → Nat) (cA : Nat → ClassId) (S : St) (v : Int32) : (xW ad cA S).set 1 (ad 1, .inr (6, ([.ref (ad 15), .int (S.1 1)] : List Value).set 1 (.int v))) = xW ad cA (sI S 1 v) := rfl
set_option maxRecDepth 20000 in
theorem oX2 (ad : Nat → Nat) (cA : Nat → ClassId) (S : St) : (xW ad cA S)[2]? = some (ad 2, .inr (2, [.ref (ad 3), .ref (ad 16), .ref (ad 17), .int (S.1 2), .ref (ad 18)])) := rfl
set_option maxRecDepth 20000 in
theorem aX2_blocks (ad : Nat → Nat) (cA : Nat → ClassId) (S : St) : (xW ad cA S)[16]? = some (ad 16, .inl (cA 4, 5, .inr (.inr (.inr (.inr (fun i => some (ad (4 + i)))))))) := rfl
set_option maxRecDepth 20000 in
theorem aX2_thresholds (ad : Nat → Nat) (cA : Nat → ClassId) (S : St) : (xW ad cA S)[17]? = some (ad 17, .inl (cA 0, 4, .inl (S.2.2.1 1))) := rfl
set_option maxRecDepth 20000 in
theorem wX2_thresholds (ad : Nat → Nat) (cA : Nat → ClassId) (S : St) (g : Nat → Int32) : (xW ad cA S).set 17 (ad 17, .inl (cA 0, 4, .inl g)) = xW ad cA (fA S 1 g) := rfl
set_option maxRecDepth 20000 in
theorem pX2_strength (ad : Nat → Nat) (cA : Nat → ClassId) (S : St) (v : Int32) : (xW ad cA S).set 2 (ad 2, .inr (2, ([.ref (ad 3), .ref (ad 16), .ref (ad 17), .int (S.1 2), .ref (ad 18)] : List Value).set 3 (.int v))) = xW ad cA (sI S 2 v) := rfl
set_option maxRecDepth 20000 in
theorem aX2_queue (ad : Nat → Nat) (cA : Nat → ClassId) (S : St) : (xW ad cA S)[18]? = some (ad 18, .inl (cA 0, 256, .inl (S.2.2.1 2))) := rfl
set_option maxRecDepth 20000 in
theorem wX2_queue (ad : Nat → Nat) (cA : Nat → ClassId) (S : St) (g : Nat → Int32) : (xW ad cA S).set 18 (ad 18, .inl (cA 0, 256, .inl g)) = xW ad cA (fA S 2 g) := rfl
set_option maxRecDepth 20000 in
theorem oX7 (ad : Nat → Nat) (cA : Nat → ClassId) (S : St) : (xW ad cA S)[3]? = some (ad 3, .inr (7, [.int (S.1 3), .int (S.1 4), .ref (ad 19), .long (S.2.1 0), .long (S.2.1 1), .ref (ad 20), .ref (ad 21), .ref (ad 22)])) := rfl
set_option maxRecDepth 20000 in
theorem pX7_columns (ad : Nat → Nat) (cA : Nat → ClassId) (S : St) (v : Int32) : (xW ad cA S).set 3 (ad 3, .inr (7, ([.int (S.1 3), .int (S.1 4), .ref (ad 19), .long (S.2.1 0), .long (S.2.1 1), .ref (ad 20), .ref (ad 21), .ref (ad 22)] : List Value).set 0 (.int v))) = xW ad cA (sI S 3 v) := rfl
set_option maxRecDepth 20000 in
theorem pX7_rows (ad : Nat → Nat) (cA : Nat → ClassId) (S : St) (v : Int32) : (xW ad cA S).set 3 (ad 3, .inr (7, ([.int (S.1 3), .int (S.1 4), .ref (ad 19), .long (S.2.1 0), .long (S.2.1 1), .ref (ad 20), .ref (ad 21), .ref (ad 22)] : List Value).set 1 (.int v))) = xW ad cA (sI S 4 v) := rfl
set_option maxRecDepth 20000 in
theorem aX7_kinds (ad : Nat → Nat) (cA : Nat → ClassId) (S : St) : (xW ad cA S)[19]? = some (ad 19, .inl (cA 0, 64, .inl (S.2.2.1 3))) := rfl
set_option maxRecDepth 20000 in
theorem wX7_kinds (ad : Nat → Nat) (cA : Nat → ClassId) (S : St) (g : Nat → Int32) : (xW ad cA S).set 19 (ad 19, .inl (cA 0, 64, .inl g)) = xW ad cA (fA S 3 g) := rfl
set_option maxRecDepth 20000 in
theorem pX7_walls (ad : Nat → Nat) (cA : Nat → ClassId) (S : St) (v : Int64) : (xW ad cA S).set 3 (ad 3, .inr (7, ([.int (S.1 3), .int (S.1 4), .ref (ad 19), .long (S.2.1 0), .long (S.2.1 1), .ref (ad 20), .ref (ad 21), .ref (ad 22)] : List Value).set 3 (.long v))) = xW ad cA (sJ S 0 v) := rfl
set_option maxRecDepth 20000 in
theorem pX7_oneWays (ad : Nat → Nat) (cA : Nat → ClassId) (S : St) (v : Int64) : (xW ad cA S).set 3 (ad 3, .inr (7, ([.int (S.1 3), .int (S.1 4), .ref (ad 19), .long (S.2.1 0), .long (S.2.1 1), .ref (ad 20), .ref (ad 21), .ref (ad 22)] : List Value).set 4 (.long v))) = xW ad cA (sJ S 1 v) := rfl
set_option maxRecDepth 20000 in
theorem aX7_oneWaysFor (ad : Nat → Nat) (cA : Nat → ClassId) (S : St) : (xW ad cA S)[20]? = some (ad 20, .inl (cA 1, 4, .inr (.inl (S.2.2.2 1)))) := rfl
set_option maxRecDepth 20000 in
theorem wX7_oneWaysFor (ad : Nat → Nat) (cA : Nat → ClassId) (S : St) (g : Nat → Int64) : (xW ad cA S).set 20 (ad 20, .inl (cA 1, 4, .inr (.inl g))) = xW ad cA (fL S 1 g) := rfl
set_option maxRecDepth 20000 in
theorem aX7_plates (ad : Nat → Nat) (cA : Nat → ClassId) (S : St) : (xW ad cA S)[21]? = some (ad 21, .inl (cA 1, 4, .inr (.inl (S.2.2.2 2)))) := rfl
set_option maxRecDepth 20000 in
theorem wX7_plates (ad : Nat → Nat) (cA : Nat → ClassId) (S : St) (g : Nat → Int64) : (xW ad cA S).set 21 (ad 21, .inl (cA 1, 4, .inr (.inl g))) = xW ad cA (fL S 2 g) := rfl
set_option maxRecDepth 20000 in
theorem aX7_gates (ad : Nat → Nat) (cA : Nat → ClassId) (S : St) : (xW ad cA S)[22]? = some (ad 22, .inl (cA 1, 4, .inr (.inl (S.2.2.2 3)))) := rfl
set_option maxRecDepth 20000 in
theorem wX7_gates (ad : Nat → Nat) (cA : Nat → ClassId) (S : St) (g : Nat → Int64) : (xW ad cA S).set 22 (ad 22, .inl (cA 1, 4, .inr (.inl g))) = xW ad cA (fL S 3 g) := rfl
set_option maxRecDepth 20000 in
theorem oX0 (ad : Nat → Nat) (cA : Nat → ClassId) (i : Nat) (hi : i < 5) (S : St) : (xW ad cA S)[(4 + i)]? = some (ad (4 + i), .inr (0, [.ref (ad (23 + i)), .ref (ad (28 + i)), .ref (ad (33 + i)), .ref (ad (38 + i)), .int (S.1 (5 + i)), .int (S.1 (10 + i)), .int (S.1 (15 + i)), .int (S.1 (20 + i))])) := match i, hi with
  | 0, _ => rfl
  | 1, _ => rfl
  | 2, _ => rfl
  | 3, _ => rfl
  | 4, _ => rfl
  | n + 5, h => absurd h (by omega)
set_option maxRecDepth 20000 in
theorem aX0_offsetX (ad : Nat → Nat) (cA : Nat → ClassId) (i : Nat) (hi : i < 5) (S : St) : (xW ad cA S)[(23 + i)]? = some (ad (23 + i), .inl (cA 0, 20, .inl (S.2.2.1 (4 + i)))) := match i, hi with
  | 0, _ => rfl
  | 1, _ => rfl
  | 2, _ => rfl
  | 3, _ => rfl
  | 4, _ => rfl
  | n + 5, h => absurd h (by omega)
set_option maxRecDepth 20000 in
theorem wX0_offsetX (ad : Nat → Nat) (cA : Nat → ClassId) (i : Nat) (hi : i < 5) (S : St) (g : Nat → Int32) : (xW ad cA S).set (23 + i) (ad (23 + i), .inl (cA 0, 20, .inl g)) = xW ad cA (fA S (4 + i) g) := match i, hi with
  | 0, _ => rfl
  | 1, _ => rfl
  | 2, _ => rfl
  | 3, _ => rfl
  | 4, _ => rfl
  | n + 5, h => absurd h (by omega)
set_option maxRecDepth 20000 in
theorem aX0_offsetY (ad : Nat → Nat) (cA : Nat → ClassId) (i : Nat) (hi : i < 5) (S : St) : (xW ad cA S)[(28 + i)]? = some (ad (28 + i), .inl (cA 0, 20, .inl (S.2.2.1 (9 + i)))) := match i, hi with
  | 0, _ => rfl
  | 1, _ => rfl
  | 2, _ => rfl
  | 3, _ => rfl
  | 4, _ => rfl
  | n + 5, h => absurd h (by omega)
set_option maxRecDepth 20000 in
theorem wX0_offsetY (ad : Nat → Nat) (cA : Nat → ClassId) (i : Nat) (hi : i < 5) (S : St) (g : Nat → Int32) : (xW ad cA S).set (28 + i) (ad (28 + i), .inl (cA 0, 20, .inl g)) = xW ad cA (fA S (9 + i) g) := match i, hi with
  | 0, _ => rfl
  | 1, _ => rfl
  | 2, _ => rfl
  | 3, _ => rfl
  | 4, _ => rfl
  | n + 5, h => absurd h (by omega)
set_option maxRecDepth 20000 in
theorem aX0_cells (ad : Nat → Nat) (cA : Nat → ClassId) (i : Nat) (hi : i < 5) (S : St) : (xW ad cA S)[(33 + i)]? = some (ad (33 + i), .inl (cA 1, 256, .inr (.inl (S.2.2.2 (4 + i))))) := match i, hi with
  | 0, _ => rfl
  | 1, _ => rfl
  | 2, _ => rfl
  | 3, _ => rfl
  | 4, _ => rfl
  | n + 5, h => absurd h (by omega)
set_option maxRecDepth 20000 in
theorem wX0_cells (ad : Nat → Nat) (cA : Nat → ClassId) (i : Nat) (hi : i < 5) (S : St) (g : Nat → Int64) : (xW ad cA S).set (33 + i) (ad (33 + i), .inl (cA 1, 256, .inr (.inl g))) = xW ad cA (fL S (4 + i) g) := match i, hi with
  | 0, _ => rfl
  | 1, _ => rfl
  | 2, _ => rfl
  | 3, _ => rfl
  | 4, _ => rfl
  | n + 5, h => absurd h (by omega)
set_option maxRecDepth 20000 in
theorem aX0_distances (ad : Nat → Nat) (cA : Nat → ClassId) (i : Nat) (hi : i < 5) (S : St) : (xW ad cA S)[(38 + i)]? = some (ad (38 + i), .inl (cA 0, 256, .inl (S.2.2.1 (14 + i)))) := match i, hi with
  | 0, _ => rfl
  | 1, _ => rfl
  | 2, _ => rfl
  | 3, _ => rfl
  | 4, _ => rfl
  | n + 5, h => absurd h (by omega)
set_option maxRecDepth 20000 in
theorem wX0_distances (ad : Nat → Nat) (cA : Nat → ClassId) (i : Nat) (hi : i < 5) (S : St) (g : Nat → Int32) : (xW ad cA S).set (38 + i) (ad (38 + i), .inl (cA 0, 256, .inl g)) = xW ad cA (fA S (14 + i) g) := match i, hi with
  | 0, _ => rfl
  | 1, _ => rfl
  | 2, _ => rfl
  | 3, _ => rfl
  | 4, _ => rfl
  | n + 5, h => absurd h (by omega)
set_option maxRecDepth 20000 in
theorem pX0_cellCount (ad : Nat → Nat) (cA : Nat → ClassId) (i : Nat) (hi : i < 5) (S : St) (v : Int32) : (xW ad cA S).set (4 + i) (ad (4 + i), .inr (0, ([.ref (ad (23 + i)), .ref (ad (28 + i)), .ref (ad (33 + i)), .ref (ad (38 + i)), .int (S.1 (5 + i)), .int (S.1 (10 + i)), .int (S.1 (15 + i)), .int (S.1 (20 + i))] : List Value).set 4 (.int v))) = xW ad cA (sI S (5 + i) v) := match i, hi with
  | 0, _ => rfl
  | 1, _ => rfl
  | 2, _ => rfl
  | 3, _ => rfl
  | 4, _ => rfl
  | n + 5, h => absurd h (by omega)
set_option maxRecDepth 20000 in
theorem pX0_weight (ad : Nat → Nat) (cA : Nat → ClassId) (i : Nat) (hi : i < 5) (S : St) (v : Int32) : (xW ad cA S).set (4 + i) (ad (4 + i), .inr (0, ([.ref (ad (23 + i)), .ref (ad (28 + i)), .ref (ad (33 + i)), .ref (ad (38 + i)), .int (S.1 (5 + i)), .int (S.1 (10 + i)), .int (S.1 (15 + i)), .int (S.1 (20 + i))] : List Value).set 5 (.int v))) = xW ad cA (sI S (10 + i) v) := match i, hi with
  | 0, _ => rfl
  | 1, _ => rfl
  | 2, _ => rfl
  | 3, _ => rfl
  | 4, _ => rfl
  | n + 5, h => absurd h (by omega)
set_option maxRecDepth 20000 in
theorem pX0_goalCell (ad : Nat → Nat) (cA : Nat → ClassId) (i : Nat) (hi : i < 5) (S : St) (v : Int32) : (xW ad cA S).set (4 + i) (ad (4 + i), .inr (0, ([.ref (ad (23 + i)), .ref (ad (28 + i)), .ref (ad (33 + i)), .ref (ad (38 + i)), .int (S.1 (5 + i)), .int (S.1 (10 + i)), .int (S.1 (15 + i)), .int (S.1 (20 + i))] : List Value).set 6 (.int v))) = xW ad cA (sI S (15 + i) v) := match i, hi with
  | 0, _ => rfl
  | 1, _ => rfl
  | 2, _ => rfl
  | 3, _ => rfl
  | 4, _ => rfl
  | n + 5, h => absurd h (by omega)
set_option maxRecDepth 20000 in
theorem pX0_goalOrientation (ad : Nat → Nat) (cA : Nat → ClassId) (i : Nat) (hi : i < 5) (S : St) (v : Int32) : (xW ad cA S).set (4 + i) (ad (4 + i), .inr (0, ([.ref (ad (23 + i)), .ref (ad (28 + i)), .ref (ad (33 + i)), .ref (ad (38 + i)), .int (S.1 (5 + i)), .int (S.1 (10 + i)), .int (S.1 (15 + i)), .int (S.1 (20 + i))] : List Value).set 7 (.int v))) = xW ad cA (sI S (20 + i) v) := match i, hi with
  | 0, _ => rfl
  | 1, _ => rfl
  | 2, _ => rfl
  | 3, _ => rfl
  | 4, _ => rfl
  | n + 5, h => absurd h (by omega)
set_option maxRecDepth 20000 in
theorem oX3 (ad : Nat → Nat) (cA : Nat → ClassId) (S : St) : (xW ad cA S)[9]? = some (ad 9, .inr (3, [.ref (ad 1), .ref (ad 43), .ref (ad 44), .ref (ad 45), .int (S.1 25), .int (S.1 26), .int (S.1 27)])) := rfl
set_option maxRecDepth 20000 in
theorem aX3_cellCounts (ad : Nat → Nat) (cA : Nat → ClassId) (S : St) : (xW ad cA S)[43]? = some (ad 43, .inl (cA 0, 5, .inl (S.2.2.1 19))) := rfl
set_option maxRecDepth 20000 in
theorem wX3_cellCounts (ad : Nat → Nat) (cA : Nat → ClassId) (S : St) (g : Nat → Int32) : (xW ad cA S).set 43 (ad 43, .inl (cA 0, 5, .inl g)) = xW ad cA (fA S 19 g) := rfl
set_option maxRecDepth 20000 in
theorem aX3_firstPlaces (ad : Nat → Nat) (cA : Nat → ClassId) (S : St) : (xW ad cA S)[44]? = some (ad 44, .inl (cA 0, 5, .inl (S.2.2.1 20))) := rfl
set_option maxRecDepth 20000 in
theorem wX3_firstPlaces (ad : Nat → Nat) (cA : Nat → ClassId) (S : St) (g : Nat → Int32) : (xW ad cA S).set 44 (ad 44, .inl (cA 0, 5, .inl g)) = xW ad cA (fA S 20 g) := rfl
set_option maxRecDepth 20000 in
theorem aX3_pivots (ad : Nat → Nat) (cA : Nat → ClassId) (S : St) : (xW ad cA S)[45]? = some (ad 45, .inl (cA 0, 5, .inl (S.2.2.1 21))) := rfl
set_option maxRecDepth 20000 in
theorem wX3_pivots (ad : Nat → Nat) (cA : Nat → ClassId) (S : St) (g : Nat → Int32) : (xW ad cA S).set 45 (ad 45, .inl (cA 0, 5, .inl g)) = xW ad cA (fA S 21 g) := rfl
set_option maxRecDepth 20000 in
theorem pX3_columns (ad : Nat → Nat) (cA : Nat → ClassId) (S : St) (v : Int32) : (xW ad cA S).set 9 (ad 9, .inr (3, ([.ref (ad 1), .ref (ad 43), .ref (ad 44), .ref (ad 45), .int (S.1 25), .int (S.1 26), .int (S.1 27)] : List Value).set 4 (.int v))) = xW ad cA (sI S 25 v) := rfl
set_option maxRecDepth 20000 in
theorem pX3_row (ad : Nat → Nat) (cA : Nat → ClassId) (S : St) (v : Int32) : (xW ad cA S).set 9 (ad 9, .inr (3, ([.ref (ad 1), .ref (ad 43), .ref (ad 44), .ref (ad 45), .int (S.1 25), .int (S.1 26), .int (S.1 27)] : List Value).set 5 (.int v))) = xW ad cA (sI S 26 v) := rfl
set_option maxRecDepth 20000 in
theorem pX3_column (ad : Nat → Nat) (cA : Nat → ClassId) (S : St) (v : Int32) : (xW ad cA S).set 9 (ad 9, .inr (3, ([.ref (ad 1), .ref (ad 43), .ref (ad 44), .ref (ad 45), .int (S.1 25), .int (S.1 26), .int (S.1 27)] : List Value).set 6 (.int v))) = xW ad cA (sI S 27 v) := rfl
set_option maxRecDepth 20000 in
theorem oX4 (ad : Nat → Nat) (cA : Nat → ClassId) (i : Nat) (hi : i < 2) (S : St) : (xW ad cA S)[(10 + i)]? = some (ad (10 + i), .inr (4, [.ref (ad 2), .ref (ad (46 + i)), .ref (ad (48 + i)), .ref (ad (50 + i)), .long (S.2.1 (2 + i)), .long (S.2.1 (4 + i)), .long (S.2.1 (6 + i)), .long (S.2.1 (8 + i))])) := match i, hi with
  | 0, _ => rfl
  | 1, _ => rfl
  | n + 2, h => absurd h (by omega)
set_option maxRecDepth 20000 in
theorem aX4_placements (ad : Nat → Nat) (cA : Nat → ClassId) (i : Nat) (hi : i < 2) (S : St) : (xW ad cA S)[(46 + i)]? = some (ad (46 + i), .inl (cA 0, 5, .inl (S.2.2.1 (22 + i)))) := match i, hi with
  | 0, _ => rfl
  | 1, _ => rfl
  | n + 2, h => absurd h (by omega)
set_option maxRecDepth 20000 in
theorem wX4_placements (ad : Nat → Nat) (cA : Nat → ClassId) (i : Nat) (hi : i < 2) (S : St) (g : Nat → Int32) : (xW ad cA S).set (46 + i) (ad (46 + i), .inl (cA 0, 5, .inl g)) = xW ad cA (fA S (22 + i) g) := match i, hi with
  | 0, _ => rfl
  | 1, _ => rfl
  | n + 2, h => absurd h (by omega)
set_option maxRecDepth 20000 in
theorem aX4_pushed (ad : Nat → Nat) (cA : Nat → ClassId) (i : Nat) (hi : i < 2) (S : St) : (xW ad cA S)[(48 + i)]? = some (ad (48 + i), .inl (cA 0, 5, .inl (S.2.2.1 (24 + i)))) := match i, hi with
  | 0, _ => rfl
  | 1, _ => rfl
  | n + 2, h => absurd h (by omega)
set_option maxRecDepth 20000 in
theorem wX4_pushed (ad : Nat → Nat) (cA : Nat → ClassId) (i : Nat) (hi : i < 2) (S : St) (g : Nat → Int32) : (xW ad cA S).set (48 + i) (ad (48 + i), .inl (cA 0, 5, .inl g)) = xW ad cA (fA S (24 + i) g) := match i, hi with
  | 0, _ => rfl
  | 1, _ => rfl
  | n + 2, h => absurd h (by omega)
set_option maxRecDepth 20000 in
theorem aX4_masks (ad : Nat → Nat) (cA : Nat → ClassId) (i : Nat) (hi : i < 2) (S : St) : (xW ad cA S)[(50 + i)]? = some (ad (50 + i), .inl (cA 1, 5, .inr (.inl (S.2.2.2 (9 + i))))) := match i, hi with
  | 0, _ => rfl
  | 1, _ => rfl
  | n + 2, h => absurd h (by omega)
set_option maxRecDepth 20000 in
theorem wX4_masks (ad : Nat → Nat) (cA : Nat → ClassId) (i : Nat) (hi : i < 2) (S : St) (g : Nat → Int64) : (xW ad cA S).set (50 + i) (ad (50 + i), .inl (cA 1, 5, .inr (.inl g))) = xW ad cA (fL S (9 + i) g) := match i, hi with
  | 0, _ => rfl
  | 1, _ => rfl
  | n + 2, h => absurd h (by omega)
set_option maxRecDepth 20000 in
theorem pX4_arrangement (ad : Nat → Nat) (cA : Nat → ClassId) (i : Nat) (hi : i < 2) (S : St) (v : Int64) : (xW ad cA S).set (10 + i) (ad (10 + i), .inr (4, ([.ref (ad 2), .ref (ad (46 + i)), .ref (ad (48 + i)), .ref (ad (50 + i)), .long (S.2.1 (2 + i)), .long (S.2.1 (4 + i)), .long (S.2.1 (6 + i)), .long (S.2.1 (8 + i))] : List Value).set 4 (.long v))) = xW ad cA (sJ S (2 + i) v) := match i, hi with
  | 0, _ => rfl
  | 1, _ => rfl
  | n + 2, h => absurd h (by omega)
set_option maxRecDepth 20000 in
theorem pX4_occupied (ad : Nat → Nat) (cA : Nat → ClassId) (i : Nat) (hi : i < 2) (S : St) (v : Int64) : (xW ad cA S).set (10 + i) (ad (10 + i), .inr (4, ([.ref (ad 2), .ref (ad (46 + i)), .ref (ad (48 + i)), .ref (ad (50 + i)), .long (S.2.1 (2 + i)), .long (S.2.1 (4 + i)), .long (S.2.1 (6 + i)), .long (S.2.1 (8 + i))] : List Value).set 5 (.long v))) = xW ad cA (sJ S (4 + i) v) := match i, hi with
  | 0, _ => rfl
  | 1, _ => rfl
  | n + 2, h => absurd h (by omega)
set_option maxRecDepth 20000 in
theorem pX4_closedGates (ad : Nat → Nat) (cA : Nat → ClassId) (i : Nat) (hi : i < 2) (S : St) (v : Int64) : (xW ad cA S).set (10 + i) (ad (10 + i), .inr (4, ([.ref (ad 2), .ref (ad (46 + i)), .ref (ad (48 + i)), .ref (ad (50 + i)), .long (S.2.1 (2 + i)), .long (S.2.1 (4 + i)), .long (S.2.1 (6 + i)), .long (S.2.1 (8 + i))] : List Value).set 6 (.long v))) = xW ad cA (sJ S (6 + i) v) := match i, hi with
  | 0, _ => rfl
  | 1, _ => rfl
  | n + 2, h => absurd h (by omega)
set_option maxRecDepth 20000 in
theorem pX4_result (ad : Nat → Nat) (cA : Nat → ClassId) (i : Nat) (hi : i < 2) (S : St) (v : Int64) : (xW ad cA S).set (10 + i) (ad (10 + i), .inr (4, ([.ref (ad 2), .ref (ad (46 + i)), .ref (ad (48 + i)), .ref (ad (50 + i)), .long (S.2.1 (2 + i)), .long (S.2.1 (4 + i)), .long (S.2.1 (6 + i)), .long (S.2.1 (8 + i))] : List Value).set 7 (.long v))) = xW ad cA (sJ S (8 + i) v) := match i, hi with
  | 0, _ => rfl
  | 1, _ => rfl
  | n + 2, h => absurd h (by omega)
set_option maxRecDepth 20000 in
theorem oX1 (ad : Nat → Nat) (cA : Nat → ClassId) (S : St) : (xW ad cA S)[12]? = some (ad 12, .inr (1, [.ref (ad 52), .ref (ad 53), .ref (ad 54), .int (S.1 28), .int (S.1 29)])) := rfl
set_option maxRecDepth 20000 in
theorem aX1_arrangements (ad : Nat → Nat) (cA : Nat → ClassId) (S : St) : (xW ad cA S)[52]? = some (ad 52, .inl (cA 1, 201, .inr (.inl (S.2.2.2 11)))) := rfl
set_option maxRecDepth 20000 in
theorem wX1_arrangements (ad : Nat → Nat) (cA : Nat → ClassId) (S : St) (g : Nat → Int64) : (xW ad cA S).set 52 (ad 52, .inl (cA 1, 201, .inr (.inl g))) = xW ad cA (fL S 11 g) := rfl
set_option maxRecDepth 20000 in
theorem aX1_moves (ad : Nat → Nat) (cA : Nat → ClassId) (S : St) : (xW ad cA S)[53]? = some (ad 53, .inl (cA 0, 200, .inl (S.2.2.1 26))) := rfl
set_option maxRecDepth 20000 in
theorem wX1_moves (ad : Nat → Nat) (cA : Nat → ClassId) (S : St) (g : Nat → Int32) : (xW ad cA S).set 53 (ad 53, .inl (cA 0, 200, .inl g)) = xW ad cA (fA S 26 g) := rfl
set_option maxRecDepth 20000 in
theorem aX1_efforts (ad : Nat → Nat) (cA : Nat → ClassId) (S : St) : (xW ad cA S)[54]? = some (ad 54, .inl (cA 0, 201, .inl (S.2.2.1 27))) := rfl
set_option maxRecDepth 20000 in
theorem wX1_efforts (ad : Nat → Nat) (cA : Nat → ClassId) (S : St) (g : Nat → Int32) : (xW ad cA S).set 54 (ad 54, .inl (cA 0, 201, .inl g)) = xW ad cA (fA S 27 g) := rfl
set_option maxRecDepth 20000 in
theorem pX1_made (ad : Nat → Nat) (cA : Nat → ClassId) (S : St) (v : Int32) : (xW ad cA S).set 12 (ad 12, .inr (1, ([.ref (ad 52), .ref (ad 53), .ref (ad 54), .int (S.1 28), .int (S.1 29)] : List Value).set 3 (.int v))) = xW ad cA (sI S 28 v) := rfl
set_option maxRecDepth 20000 in
theorem pX1_known (ad : Nat → Nat) (cA : Nat → ClassId) (S : St) (v : Int32) : (xW ad cA S).set 12 (ad 12, .inr (1, ([.ref (ad 52), .ref (ad 53), .ref (ad 54), .int (S.1 28), .int (S.1 29)] : List Value).set 4 (.int v))) = xW ad cA (sI S 29 v) := rfl
set_option maxRecDepth 20000 in
theorem oX5 (ad : Nat → Nat) (cA : Nat → ClassId) (S : St) : (xW ad cA S)[13]? = some (ad 13, .inr (5, [.ref (ad 2), .ref (ad 11), .ref (ad 55), .ref (ad 56), .ref (ad 57), .int (S.1 30), .ref (ad 58), .ref (ad 59), .int (S.1 31), .long (S.2.1 10), .int (S.1 32)])) := rfl
set_option maxRecDepth 20000 in
theorem aX5_list (ad : Nat → Nat) (cA : Nat → ClassId) (S : St) : (xW ad cA S)[55]? = some (ad 55, .inl (cA 1, 1200, .inr (.inl (S.2.2.2 12)))) := rfl
set_option maxRecDepth 20000 in
theorem wX5_list (ad : Nat → Nat) (cA : Nat → ClassId) (S : St) (g : Nat → Int64) : (xW ad cA S).set 55 (ad 55, .inl (cA 1, 1200, .inr (.inl g))) = xW ad cA (fL S 12 g) := rfl
set_option maxRecDepth 20000 in
theorem aX5_origins (ad : Nat → Nat) (cA : Nat → ClassId) (S : St) : (xW ad cA S)[56]? = some (ad 56, .inl (cA 0, 1200, .inl (S.2.2.1 28))) := rfl
set_option maxRecDepth 20000 in
theorem wX5_origins (ad : Nat → Nat) (cA : Nat → ClassId) (S : St) (g : Nat → Int32) : (xW ad cA S).set 56 (ad 56, .inl (cA 0, 1200, .inl g)) = xW ad cA (fA S 28 g) := rfl
set_option maxRecDepth 20000 in
theorem aX5_leadingMoves (ad : Nat → Nat) (cA : Nat → ClassId) (S : St) : (xW ad cA S)[57]? = some (ad 57, .inl (cA 0, 1200, .inl (S.2.2.1 29))) := rfl
set_option maxRecDepth 20000 in
theorem wX5_leadingMoves (ad : Nat → Nat) (cA : Nat → ClassId) (S : St) (g : Nat → Int32) : (xW ad cA S).set 57 (ad 57, .inl (cA 0, 1200, .inl g)) = xW ad cA (fA S 29 g) := rfl
set_option maxRecDepth 20000 in
theorem pX5_listed (ad : Nat → Nat) (cA : Nat → ClassId) (S : St) (v : Int32) : (xW ad cA S).set 13 (ad 13, .inr (5, ([.ref (ad 2), .ref (ad 11), .ref (ad 55), .ref (ad 56), .ref (ad 57), .int (S.1 30), .ref (ad 58), .ref (ad 59), .int (S.1 31), .long (S.2.1 10), .int (S.1 32)] : List Value).set 5 (.int v))) = xW ad cA (sI S 30 v) := rfl
set_option maxRecDepth 20000 in
theorem aX5_table (ad : Nat → Nat) (cA : Nat → ClassId) (S : St) : (xW ad cA S)[58]? = some (ad 58, .inl (cA 0, 2048, .inl (S.2.2.1 30))) := rfl
set_option maxRecDepth 20000 in
theorem wX5_table (ad : Nat → Nat) (cA : Nat → ClassId) (S : St) (g : Nat → Int32) : (xW ad cA S).set 58 (ad 58, .inl (cA 0, 2048, .inl g)) = xW ad cA (fA S 30 g) := rfl
set_option maxRecDepth 20000 in
theorem aX5_solutionMoves (ad : Nat → Nat) (cA : Nat → ClassId) (S : St) : (xW ad cA S)[59]? = some (ad 59, .inl (cA 0, 1200, .inl (S.2.2.1 31))) := rfl
set_option maxRecDepth 20000 in
theorem wX5_solutionMoves (ad : Nat → Nat) (cA : Nat → ClassId) (S : St) (g : Nat → Int32) : (xW ad cA S).set 59 (ad 59, .inl (cA 0, 1200, .inl g)) = xW ad cA (fA S 31 g) := rfl
set_option maxRecDepth 20000 in
theorem pX5_solutionResult (ad : Nat → Nat) (cA : Nat → ClassId) (S : St) (v : Int32) : (xW ad cA S).set 13 (ad 13, .inr (5, ([.ref (ad 2), .ref (ad 11), .ref (ad 55), .ref (ad 56), .ref (ad 57), .int (S.1 30), .ref (ad 58), .ref (ad 59), .int (S.1 31), .long (S.2.1 10), .int (S.1 32)] : List Value).set 8 (.int v))) = xW ad cA (sI S 31 v) := rfl
set_option maxRecDepth 20000 in
theorem pX5_solutionStart (ad : Nat → Nat) (cA : Nat → ClassId) (S : St) (v : Int64) : (xW ad cA S).set 13 (ad 13, .inr (5, ([.ref (ad 2), .ref (ad 11), .ref (ad 55), .ref (ad 56), .ref (ad 57), .int (S.1 30), .ref (ad 58), .ref (ad 59), .int (S.1 31), .long (S.2.1 10), .int (S.1 32)] : List Value).set 9 (.long v))) = xW ad cA (sJ S 10 v) := rfl
set_option maxRecDepth 20000 in
theorem pX5_solutionIsKnown (ad : Nat → Nat) (cA : Nat → ClassId) (S : St) (v : Int32) : (xW ad cA S).set 13 (ad 13, .inr (5, ([.ref (ad 2), .ref (ad 11), .ref (ad 55), .ref (ad 56), .ref (ad 57), .int (S.1 30), .ref (ad 58), .ref (ad 59), .int (S.1 31), .long (S.2.1 10), .int (S.1 32)] : List Value).set 10 (.int v))) = xW ad cA (sI S 32 v) := rfl
def mW (ad : Nat → Nat) (cA : Nat → ClassId) (S : St) : va_W := [(ad 0, .inr (9, [.int (S.1 0), .int (S.1 1), .int (S.1 2), .ref (ad 1), .ref (ad 2), .ref (ad 3), .ref (ad 4), .ref (ad 5), .ref (ad 6), .ref (ad 7), .ref (ad 8), .ref (ad 9), .ref (ad 10), .int (S.1 3), .ref (ad 11), .ref (ad 12), .ref (ad 13), .ref (ad 14), .ref (ad 15), .ref (ad 16), .ref (ad 17), .ref (ad 18), .int (S.1 4), .int (S.1 5), .ref (ad 19), .ref (ad 20), .int (S.1 6), .int (S.1 7), .int (S.1 8), .int (S.1 9), .ref (ad 21), .ref (ad 22), .ref (ad 23), .ref (ad 24), .ref (ad 25), .ref (ad 26), .ref (ad 27), .ref (ad 28), .ref (ad 29), .ref (ad 30), .ref (ad 31), .ref (ad 32), .int (S.1 10), .int (S.1 11)])),
  (ad 1, .inl (cA 0, 4, .inl (S.2.2.1 0))),
  (ad 2, .inl (cA 0, 64, .inl (S.2.2.1 1))),
  (ad 3, .inl (cA 0, 5, .inl (S.2.2.1 2))),
  (ad 4, .inl (cA 0, 25, .inl (S.2.2.1 3))),
  (ad 5, .inl (cA 0, 25, .inl (S.2.2.1 4))),
  (ad 6, .inl (cA 0, 5, .inl (S.2.2.1 5))),
  (ad 7, .inl (cA 0, 5, .inl (S.2.2.1 6))),
  (ad 8, .inl (cA 0, 5, .inl (S.2.2.1 7))),
  (ad 9, .inl (cA 0, 5, .inl (S.2.2.1 8))),
  (ad 10, .inl (cA 0, 5, .inl (S.2.2.1 9))),
  (ad 11, .inl (cA 2, 80, .inl (S.2.2.1 10))),
  (ad 12, .inl (cA 0, 64, .inl (S.2.2.1 11))),
  (ad 13, .inl (cA 0, 5, .inl (S.2.2.1 12))),
  (ad 14, .inl (cA 0, 25, .inl (S.2.2.1 13))),
  (ad 15, .inl (cA 0, 25, .inl (S.2.2.1 14))),
  (ad 16, .inl (cA 0, 5, .inl (S.2.2.1 15))),
  (ad 17, .inl (cA 0, 5, .inl (S.2.2.1 16))),
  (ad 18, .inl (cA 0, 5, .inl (S.2.2.1 17))),
  (ad 19, .inl (cA 0, 64, .inl (S.2.2.1 18))),
  (ad 20, .inl (cA 0, 4, .inl (S.2.2.1 19))),
  (ad 21, .inl (cA 0, 200, .inl (S.2.2.1 20))),
  (ad 22, .inl (cA 0, 200, .inl (S.2.2.1 21))),
  (ad 23, .inl (cA 1, 200, .inr (.inl (S.2.2.2 0)))),
  (ad 24, .inl (cA 1, 200, .inr (.inl (S.2.2.2 1)))),
  (ad 25, .inl (cA 3, 4, .inl (S.2.2.1 22))),
  (ad 26, .inl (cA 1, 4, .inr (.inl (S.2.2.2 2)))),
  (ad 27, .inl (cA 0, 1536, .inl (S.2.2.1 23))),
  (ad 28, .inl (cA 0, 1280, .inl (S.2.2.1 24))),
  (ad 29, .inl (cA 1, 1200, .inr (.inl (S.2.2.2 3)))),
  (ad 30, .inl (cA 0, 1200, .inl (S.2.2.1 25))),
  (ad 31, .inl (cA 0, 1200, .inl (S.2.2.1 26))),
  (ad 32, .inl (cA 0, 1200, .inl (S.2.2.1 27)))]
def mA (ad : Nat → Nat) (q : Nat) : Prop := ∃ k, k < 33 ∧ q = ad k
set_option maxRecDepth 20000 in
theorem oX9 (ad : Nat → Nat) (cA : Nat → ClassId) (S : St) : (mW ad cA S)[0]? = some (ad 0, .inr (9, [.int (S.1 0), .int (S.1 1), .int (S.1 2), .ref (ad 1), .ref (ad 2), .ref (ad 3), .ref (ad 4), .ref (ad 5), .ref (ad 6), .ref (ad 7), .ref (ad 8), .ref (ad 9), .ref (ad 10), .int (S.1 3), .ref (ad 11), .ref (ad 12), .ref (ad 13), .ref (ad 14), .ref (ad 15), .ref (ad 16), .ref (ad 17), .ref (ad 18), .int (S.1 4), .int (S.1 5), .ref (ad 19), .ref (ad 20), .int (S.1 6), .int (S.1 7), .int (S.1 8), .int (S.1 9), .ref (ad 21), .ref (ad 22), .ref (ad 23), .ref (ad 24), .ref (ad 25), .ref (ad 26), .ref (ad 27), .ref (ad 28), .ref (ad 29), .ref (ad 30), .ref (ad 31), .ref (ad 32), .int (S.1 10), .int (S.1 11)])) := rfl
set_option maxRecDepth 20000 in
theorem pX9_columns (ad : Nat → Nat) (cA : Nat → ClassId) (S : St) (v : Int32) : (mW ad cA S).set 0 (ad 0, .inr (9, ([.int (S.1 0), .int (S.1 1), .int (S.1 2), .ref (ad 1), .ref (ad 2), .ref (ad 3), .ref (ad 4), .ref (ad 5), .ref (ad 6), .ref (ad 7), .ref (ad 8), .ref (ad 9), .ref (ad 10), .int (S.1 3), .ref (ad 11), .ref (ad 12), .ref (ad 13), .ref (ad 14), .ref (ad 15), .ref (ad 16), .ref (ad 17), .ref (ad 18), .int (S.1 4), .int (S.1 5), .ref (ad 19), .ref (ad 20), .int (S.1 6), .int (S.1 7), .int (S.1 8), .int (S.1 9), .ref (ad 21), .ref (ad 22), .ref (ad 23), .ref (ad 24), .ref (ad 25), .ref (ad 26), .ref (ad 27), .ref (ad 28), .ref (ad 29), .ref (ad 30), .ref (ad 31), .ref (ad 32), .int (S.1 10), .int (S.1 11)] : List Value).set 0 (.int v))) = mW ad cA (sI S 0 v) := rfl
set_option maxRecDepth 20000 in
theorem pX9_rows (ad : Nat → Nat) (cA : Nat → ClassId) (S : St) (v : Int32) : (mW ad cA S).set 0 (ad 0, .inr (9, ([.int (S.1 0), .int (S.1 1), .int (S.1 2), .ref (ad 1), .ref (ad 2), .ref (ad 3), .ref (ad 4), .ref (ad 5), .ref (ad 6), .ref (ad 7), .ref (ad 8), .ref (ad 9), .ref (ad 10), .int (S.1 3), .ref (ad 11), .ref (ad 12), .ref (ad 13), .ref (ad 14), .ref (ad 15), .ref (ad 16), .ref (ad 17), .ref (ad 18), .int (S.1 4), .int (S.1 5), .ref (ad 19), .ref (ad 20), .int (S.1 6), .int (S.1 7), .int (S.1 8), .int (S.1 9), .ref (ad 21), .ref (ad 22), .ref (ad 23), .ref (ad 24), .ref (ad 25), .ref (ad 26), .ref (ad 27), .ref (ad 28), .ref (ad 29), .ref (ad 30), .ref (ad 31), .ref (ad 32), .int (S.1 10), .int (S.1 11)] : List Value).set 1 (.int v))) = mW ad cA (sI S 1 v) := rfl
set_option maxRecDepth 20000 in
theorem pX9_strength (ad : Nat → Nat) (cA : Nat → ClassId) (S : St) (v : Int32) : (mW ad cA S).set 0 (ad 0, .inr (9, ([.int (S.1 0), .int (S.1 1), .int (S.1 2), .ref (ad 1), .ref (ad 2), .ref (ad 3), .ref (ad 4), .ref (ad 5), .ref (ad 6), .ref (ad 7), .ref (ad 8), .ref (ad 9), .ref (ad 10), .int (S.1 3), .ref (ad 11), .ref (ad 12), .ref (ad 13), .ref (ad 14), .ref (ad 15), .ref (ad 16), .ref (ad 17), .ref (ad 18), .int (S.1 4), .int (S.1 5), .ref (ad 19), .ref (ad 20), .int (S.1 6), .int (S.1 7), .int (S.1 8), .int (S.1 9), .ref (ad 21), .ref (ad 22), .ref (ad 23), .ref (ad 24), .ref (ad 25), .ref (ad 26), .ref (ad 27), .ref (ad 28), .ref (ad 29), .ref (ad 30), .ref (ad 31), .ref (ad 32), .int (S.1 10), .int (S.1 11)] : List Value).set 2 (.int v))) = mW ad cA (sI S 2 v) := rfl
set_option maxRecDepth 20000 in
theorem aX9_threshold (ad : Nat → Nat) (cA : Nat → ClassId) (S : St) : (mW ad cA S)[1]? = some (ad 1, .inl (cA 0, 4, .inl (S.2.2.1 0))) := rfl
set_option maxRecDepth 20000 in
theorem wX9_threshold (ad : Nat → Nat) (cA : Nat → ClassId) (S : St) (g : Nat → Int32) : (mW ad cA S).set 1 (ad 1, .inl (cA 0, 4, .inl g)) = mW ad cA (fA S 0 g) := rfl
set_option maxRecDepth 20000 in
theorem aX9_kindOf (ad : Nat → Nat) (cA : Nat → ClassId) (S : St) : (mW ad cA S)[2]? = some (ad 2, .inl (cA 0, 64, .inl (S.2.2.1 1))) := rfl
set_option maxRecDepth 20000 in
theorem wX9_kindOf (ad : Nat → Nat) (cA : Nat → ClassId) (S : St) (g : Nat → Int32) : (mW ad cA S).set 2 (ad 2, .inl (cA 0, 64, .inl g)) = mW ad cA (fA S 1 g) := rfl
set_option maxRecDepth 20000 in
theorem aX9_cells (ad : Nat → Nat) (cA : Nat → ClassId) (S : St) : (mW ad cA S)[3]? = some (ad 3, .inl (cA 0, 5, .inl (S.2.2.1 2))) := rfl
set_option maxRecDepth 20000 in
theorem wX9_cells (ad : Nat → Nat) (cA : Nat → ClassId) (S : St) (g : Nat → Int32) : (mW ad cA S).set 3 (ad 3, .inl (cA 0, 5, .inl g)) = mW ad cA (fA S 2 g) := rfl
set_option maxRecDepth 20000 in
theorem aX9_offX (ad : Nat → Nat) (cA : Nat → ClassId) (S : St) : (mW ad cA S)[4]? = some (ad 4, .inl (cA 0, 25, .inl (S.2.2.1 3))) := rfl
set_option maxRecDepth 20000 in
theorem wX9_offX (ad : Nat → Nat) (cA : Nat → ClassId) (S : St) (g : Nat → Int32) : (mW ad cA S).set 4 (ad 4, .inl (cA 0, 25, .inl g)) = mW ad cA (fA S 3 g) := rfl
set_option maxRecDepth 20000 in
theorem aX9_offY (ad : Nat → Nat) (cA : Nat → ClassId) (S : St) : (mW ad cA S)[5]? = some (ad 5, .inl (cA 0, 25, .inl (S.2.2.1 4))) := rfl
set_option maxRecDepth 20000 in
theorem wX9_offY (ad : Nat → Nat) (cA : Nat → ClassId) (S : St) (g : Nat → Int32) : (mW ad cA S).set 5 (ad 5, .inl (cA 0, 25, .inl g)) = mW ad cA (fA S 4 g) := rfl
set_option maxRecDepth 20000 in
theorem aX9_weightOf (ad : Nat → Nat) (cA : Nat → ClassId) (S : St) : (mW ad cA S)[6]? = some (ad 6, .inl (cA 0, 5, .inl (S.2.2.1 5))) := rfl
set_option maxRecDepth 20000 in
theorem wX9_weightOf (ad : Nat → Nat) (cA : Nat → ClassId) (S : St) (g : Nat → Int32) : (mW ad cA S).set 6 (ad 6, .inl (cA 0, 5, .inl g)) = mW ad cA (fA S 5 g) := rfl
set_option maxRecDepth 20000 in
theorem aX9_goalX (ad : Nat → Nat) (cA : Nat → ClassId) (S : St) : (mW ad cA S)[7]? = some (ad 7, .inl (cA 0, 5, .inl (S.2.2.1 6))) := rfl
set_option maxRecDepth 20000 in
theorem wX9_goalX (ad : Nat → Nat) (cA : Nat → ClassId) (S : St) (g : Nat → Int32) : (mW ad cA S).set 7 (ad 7, .inl (cA 0, 5, .inl g)) = mW ad cA (fA S 6 g) := rfl
set_option maxRecDepth 20000 in
theorem aX9_goalY (ad : Nat → Nat) (cA : Nat → ClassId) (S : St) : (mW ad cA S)[8]? = some (ad 8, .inl (cA 0, 5, .inl (S.2.2.1 7))) := rfl
set_option maxRecDepth 20000 in
theorem wX9_goalY (ad : Nat → Nat) (cA : Nat → ClassId) (S : St) (g : Nat → Int32) : (mW ad cA S).set 8 (ad 8, .inl (cA 0, 5, .inl g)) = mW ad cA (fA S 7 g) := rfl
set_option maxRecDepth 20000 in
theorem aX9_goalTurn (ad : Nat → Nat) (cA : Nat → ClassId) (S : St) : (mW ad cA S)[9]? = some (ad 9, .inl (cA 0, 5, .inl (S.2.2.1 8))) := rfl
set_option maxRecDepth 20000 in
theorem wX9_goalTurn (ad : Nat → Nat) (cA : Nat → ClassId) (S : St) (g : Nat → Int32) : (mW ad cA S).set 9 (ad 9, .inl (cA 0, 5, .inl g)) = mW ad cA (fA S 8 g) := rfl
set_option maxRecDepth 20000 in
theorem aX9_placeOf (ad : Nat → Nat) (cA : Nat → ClassId) (S : St) : (mW ad cA S)[10]? = some (ad 10, .inl (cA 0, 5, .inl (S.2.2.1 9))) := rfl
set_option maxRecDepth 20000 in
theorem wX9_placeOf (ad : Nat → Nat) (cA : Nat → ClassId) (S : St) (g : Nat → Int32) : (mW ad cA S).set 10 (ad 10, .inl (cA 0, 5, .inl g)) = mW ad cA (fA S 9 g) := rfl
set_option maxRecDepth 20000 in
theorem pX9_typed (ad : Nat → Nat) (cA : Nat → ClassId) (S : St) (v : Int32) : (mW ad cA S).set 0 (ad 0, .inr (9, ([.int (S.1 0), .int (S.1 1), .int (S.1 2), .ref (ad 1), .ref (ad 2), .ref (ad 3), .ref (ad 4), .ref (ad 5), .ref (ad 6), .ref (ad 7), .ref (ad 8), .ref (ad 9), .ref (ad 10), .int (S.1 3), .ref (ad 11), .ref (ad 12), .ref (ad 13), .ref (ad 14), .ref (ad 15), .ref (ad 16), .ref (ad 17), .ref (ad 18), .int (S.1 4), .int (S.1 5), .ref (ad 19), .ref (ad 20), .int (S.1 6), .int (S.1 7), .int (S.1 8), .int (S.1 9), .ref (ad 21), .ref (ad 22), .ref (ad 23), .ref (ad 24), .ref (ad 25), .ref (ad 26), .ref (ad 27), .ref (ad 28), .ref (ad 29), .ref (ad 30), .ref (ad 31), .ref (ad 32), .int (S.1 10), .int (S.1 11)] : List Value).set 13 (.int v))) = mW ad cA (sI S 3 v) := rfl
set_option maxRecDepth 20000 in
theorem aX9_text (ad : Nat → Nat) (cA : Nat → ClassId) (S : St) : (mW ad cA S)[11]? = some (ad 11, .inl (cA 2, 80, .inl (S.2.2.1 10))) := rfl
set_option maxRecDepth 20000 in
theorem wX9_text (ad : Nat → Nat) (cA : Nat → ClassId) (S : St) (g : Nat → Int32) : (mW ad cA S).set 11 (ad 11, .inl (cA 2, 80, .inl g)) = mW ad cA (fA S 10 g) := rfl
set_option maxRecDepth 20000 in
theorem aX9_readKind (ad : Nat → Nat) (cA : Nat → ClassId) (S : St) : (mW ad cA S)[12]? = some (ad 12, .inl (cA 0, 64, .inl (S.2.2.1 11))) := rfl
set_option maxRecDepth 20000 in
theorem wX9_readKind (ad : Nat → Nat) (cA : Nat → ClassId) (S : St) (g : Nat → Int32) : (mW ad cA S).set 12 (ad 12, .inl (cA 0, 64, .inl g)) = mW ad cA (fA S 11 g) := rfl
set_option maxRecDepth 20000 in
theorem aX9_readCells (ad : Nat → Nat) (cA : Nat → ClassId) (S : St) : (mW ad cA S)[13]? = some (ad 13, .inl (cA 0, 5, .inl (S.2.2.1 12))) := rfl
set_option maxRecDepth 20000 in
theorem wX9_readCells (ad : Nat → Nat) (cA : Nat → ClassId) (S : St) (g : Nat → Int32) : (mW ad cA S).set 13 (ad 13, .inl (cA 0, 5, .inl g)) = mW ad cA (fA S 12 g) := rfl
set_option maxRecDepth 20000 in
theorem aX9_readX (ad : Nat → Nat) (cA : Nat → ClassId) (S : St) : (mW ad cA S)[14]? = some (ad 14, .inl (cA 0, 25, .inl (S.2.2.1 13))) := rfl
set_option maxRecDepth 20000 in
theorem wX9_readX (ad : Nat → Nat) (cA : Nat → ClassId) (S : St) (g : Nat → Int32) : (mW ad cA S).set 14 (ad 14, .inl (cA 0, 25, .inl g)) = mW ad cA (fA S 13 g) := rfl
set_option maxRecDepth 20000 in
theorem aX9_readY (ad : Nat → Nat) (cA : Nat → ClassId) (S : St) : (mW ad cA S)[15]? = some (ad 15, .inl (cA 0, 25, .inl (S.2.2.1 14))) := rfl
set_option maxRecDepth 20000 in
theorem wX9_readY (ad : Nat → Nat) (cA : Nat → ClassId) (S : St) (g : Nat → Int32) : (mW ad cA S).set 15 (ad 15, .inl (cA 0, 25, .inl g)) = mW ad cA (fA S 14 g) := rfl
set_option maxRecDepth 20000 in
theorem aX9_firstOf (ad : Nat → Nat) (cA : Nat → ClassId) (S : St) : (mW ad cA S)[16]? = some (ad 16, .inl (cA 0, 5, .inl (S.2.2.1 15))) := rfl
set_option maxRecDepth 20000 in
theorem wX9_firstOf (ad : Nat → Nat) (cA : Nat → ClassId) (S : St) (g : Nat → Int32) : (mW ad cA S).set 16 (ad 16, .inl (cA 0, 5, .inl g)) = mW ad cA (fA S 15 g) := rfl
set_option maxRecDepth 20000 in
theorem aX9_pivotX (ad : Nat → Nat) (cA : Nat → ClassId) (S : St) : (mW ad cA S)[17]? = some (ad 17, .inl (cA 0, 5, .inl (S.2.2.1 16))) := rfl
set_option maxRecDepth 20000 in
theorem wX9_pivotX (ad : Nat → Nat) (cA : Nat → ClassId) (S : St) (g : Nat → Int32) : (mW ad cA S).set 17 (ad 17, .inl (cA 0, 5, .inl g)) = mW ad cA (fA S 16 g) := rfl
set_option maxRecDepth 20000 in
theorem aX9_pivotY (ad : Nat → Nat) (cA : Nat → ClassId) (S : St) : (mW ad cA S)[18]? = some (ad 18, .inl (cA 0, 5, .inl (S.2.2.1 17))) := rfl
set_option maxRecDepth 20000 in
theorem wX9_pivotY (ad : Nat → Nat) (cA : Nat → ClassId) (S : St) (g : Nat → Int32) : (mW ad cA S).set 18 (ad 18, .inl (cA 0, 5, .inl g)) = mW ad cA (fA S 17 g) := rfl
set_option maxRecDepth 20000 in
theorem pX9_readWide (ad : Nat → Nat) (cA : Nat → ClassId) (S : St) (v : Int32) : (mW ad cA S).set 0 (ad 0, .inr (9, ([.int (S.1 0), .int (S.1 1), .int (S.1 2), .ref (ad 1), .ref (ad 2), .ref (ad 3), .ref (ad 4), .ref (ad 5), .ref (ad 6), .ref (ad 7), .ref (ad 8), .ref (ad 9), .ref (ad 10), .int (S.1 3), .ref (ad 11), .ref (ad 12), .ref (ad 13), .ref (ad 14), .ref (ad 15), .ref (ad 16), .ref (ad 17), .ref (ad 18), .int (S.1 4), .int (S.1 5), .ref (ad 19), .ref (ad 20), .int (S.1 6), .int (S.1 7), .int (S.1 8), .int (S.1 9), .ref (ad 21), .ref (ad 22), .ref (ad 23), .ref (ad 24), .ref (ad 25), .ref (ad 26), .ref (ad 27), .ref (ad 28), .ref (ad 29), .ref (ad 30), .ref (ad 31), .ref (ad 32), .int (S.1 10), .int (S.1 11)] : List Value).set 22 (.int v))) = mW ad cA (sI S 4 v) := rfl
set_option maxRecDepth 20000 in
theorem pX9_readRows (ad : Nat → Nat) (cA : Nat → ClassId) (S : St) (v : Int32) : (mW ad cA S).set 0 (ad 0, .inr (9, ([.int (S.1 0), .int (S.1 1), .int (S.1 2), .ref (ad 1), .ref (ad 2), .ref (ad 3), .ref (ad 4), .ref (ad 5), .ref (ad 6), .ref (ad 7), .ref (ad 8), .ref (ad 9), .ref (ad 10), .int (S.1 3), .ref (ad 11), .ref (ad 12), .ref (ad 13), .ref (ad 14), .ref (ad 15), .ref (ad 16), .ref (ad 17), .ref (ad 18), .int (S.1 4), .int (S.1 5), .ref (ad 19), .ref (ad 20), .int (S.1 6), .int (S.1 7), .int (S.1 8), .int (S.1 9), .ref (ad 21), .ref (ad 22), .ref (ad 23), .ref (ad 24), .ref (ad 25), .ref (ad 26), .ref (ad 27), .ref (ad 28), .ref (ad 29), .ref (ad 30), .ref (ad 31), .ref (ad 32), .int (S.1 10), .int (S.1 11)] : List Value).set 23 (.int v))) = mW ad cA (sI S 5 v) := rfl
set_option maxRecDepth 20000 in
theorem aX9_ownerOf (ad : Nat → Nat) (cA : Nat → ClassId) (S : St) : (mW ad cA S)[19]? = some (ad 19, .inl (cA 0, 64, .inl (S.2.2.1 18))) := rfl
set_option maxRecDepth 20000 in
theorem wX9_ownerOf (ad : Nat → Nat) (cA : Nat → ClassId) (S : St) (g : Nat → Int32) : (mW ad cA S).set 19 (ad 19, .inl (cA 0, 64, .inl g)) = mW ad cA (fA S 18 g) := rfl
set_option maxRecDepth 20000 in
theorem aX9_loadOf (ad : Nat → Nat) (cA : Nat → ClassId) (S : St) : (mW ad cA S)[20]? = some (ad 20, .inl (cA 0, 4, .inl (S.2.2.1 19))) := rfl
set_option maxRecDepth 20000 in
theorem wX9_loadOf (ad : Nat → Nat) (cA : Nat → ClassId) (S : St) (g : Nat → Int32) : (mW ad cA S).set 20 (ad 20, .inl (cA 0, 4, .inl g)) = mW ad cA (fA S 19 g) := rfl
set_option maxRecDepth 20000 in
theorem pX9_ringX (ad : Nat → Nat) (cA : Nat → ClassId) (S : St) (v : Int32) : (mW ad cA S).set 0 (ad 0, .inr (9, ([.int (S.1 0), .int (S.1 1), .int (S.1 2), .ref (ad 1), .ref (ad 2), .ref (ad 3), .ref (ad 4), .ref (ad 5), .ref (ad 6), .ref (ad 7), .ref (ad 8), .ref (ad 9), .ref (ad 10), .int (S.1 3), .ref (ad 11), .ref (ad 12), .ref (ad 13), .ref (ad 14), .ref (ad 15), .ref (ad 16), .ref (ad 17), .ref (ad 18), .int (S.1 4), .int (S.1 5), .ref (ad 19), .ref (ad 20), .int (S.1 6), .int (S.1 7), .int (S.1 8), .int (S.1 9), .ref (ad 21), .ref (ad 22), .ref (ad 23), .ref (ad 24), .ref (ad 25), .ref (ad 26), .ref (ad 27), .ref (ad 28), .ref (ad 29), .ref (ad 30), .ref (ad 31), .ref (ad 32), .int (S.1 10), .int (S.1 11)] : List Value).set 26 (.int v))) = mW ad cA (sI S 6 v) := rfl
set_option maxRecDepth 20000 in
theorem pX9_ringY (ad : Nat → Nat) (cA : Nat → ClassId) (S : St) (v : Int32) : (mW ad cA S).set 0 (ad 0, .inr (9, ([.int (S.1 0), .int (S.1 1), .int (S.1 2), .ref (ad 1), .ref (ad 2), .ref (ad 3), .ref (ad 4), .ref (ad 5), .ref (ad 6), .ref (ad 7), .ref (ad 8), .ref (ad 9), .ref (ad 10), .int (S.1 3), .ref (ad 11), .ref (ad 12), .ref (ad 13), .ref (ad 14), .ref (ad 15), .ref (ad 16), .ref (ad 17), .ref (ad 18), .int (S.1 4), .int (S.1 5), .ref (ad 19), .ref (ad 20), .int (S.1 6), .int (S.1 7), .int (S.1 8), .int (S.1 9), .ref (ad 21), .ref (ad 22), .ref (ad 23), .ref (ad 24), .ref (ad 25), .ref (ad 26), .ref (ad 27), .ref (ad 28), .ref (ad 29), .ref (ad 30), .ref (ad 31), .ref (ad 32), .int (S.1 10), .int (S.1 11)] : List Value).set 27 (.int v))) = mW ad cA (sI S 7 v) := rfl
set_option maxRecDepth 20000 in
theorem pX9_made (ad : Nat → Nat) (cA : Nat → ClassId) (S : St) (v : Int32) : (mW ad cA S).set 0 (ad 0, .inr (9, ([.int (S.1 0), .int (S.1 1), .int (S.1 2), .ref (ad 1), .ref (ad 2), .ref (ad 3), .ref (ad 4), .ref (ad 5), .ref (ad 6), .ref (ad 7), .ref (ad 8), .ref (ad 9), .ref (ad 10), .int (S.1 3), .ref (ad 11), .ref (ad 12), .ref (ad 13), .ref (ad 14), .ref (ad 15), .ref (ad 16), .ref (ad 17), .ref (ad 18), .int (S.1 4), .int (S.1 5), .ref (ad 19), .ref (ad 20), .int (S.1 6), .int (S.1 7), .int (S.1 8), .int (S.1 9), .ref (ad 21), .ref (ad 22), .ref (ad 23), .ref (ad 24), .ref (ad 25), .ref (ad 26), .ref (ad 27), .ref (ad 28), .ref (ad 29), .ref (ad 30), .ref (ad 31), .ref (ad 32), .int (S.1 10), .int (S.1 11)] : List Value).set 28 (.int v))) = mW ad cA (sI S 8 v) := rfl
set_option maxRecDepth 20000 in
theorem pX9_known (ad : Nat → Nat) (cA : Nat → ClassId) (S : St) (v : Int32) : (mW ad cA S).set 0 (ad 0, .inr (9, ([.int (S.1 0), .int (S.1 1), .int (S.1 2), .ref (ad 1), .ref (ad 2), .ref (ad 3), .ref (ad 4), .ref (ad 5), .ref (ad 6), .ref (ad 7), .ref (ad 8), .ref (ad 9), .ref (ad 10), .int (S.1 3), .ref (ad 11), .ref (ad 12), .ref (ad 13), .ref (ad 14), .ref (ad 15), .ref (ad 16), .ref (ad 17), .ref (ad 18), .int (S.1 4), .int (S.1 5), .ref (ad 19), .ref (ad 20), .int (S.1 6), .int (S.1 7), .int (S.1 8), .int (S.1 9), .ref (ad 21), .ref (ad 22), .ref (ad 23), .ref (ad 24), .ref (ad 25), .ref (ad 26), .ref (ad 27), .ref (ad 28), .ref (ad 29), .ref (ad 30), .ref (ad 31), .ref (ad 32), .int (S.1 10), .int (S.1 11)] : List Value).set 29 (.int v))) = mW ad cA (sI S 9 v) := rfl
set_option maxRecDepth 20000 in
theorem aX9_moveOf (ad : Nat → Nat) (cA : Nat → ClassId) (S : St) : (mW ad cA S)[21]? = some (ad 21, .inl (cA 0, 200, .inl (S.2.2.1 20))) := rfl
set_option maxRecDepth 20000 in
theorem wX9_moveOf (ad : Nat → Nat) (cA : Nat → ClassId) (S : St) (g : Nat → Int32) : (mW ad cA S).set 21 (ad 21, .inl (cA 0, 200, .inl g)) = mW ad cA (fA S 20 g) := rfl
set_option maxRecDepth 20000 in
theorem aX9_effortOf (ad : Nat → Nat) (cA : Nat → ClassId) (S : St) : (mW ad cA S)[22]? = some (ad 22, .inl (cA 0, 200, .inl (S.2.2.1 21))) := rfl
set_option maxRecDepth 20000 in
theorem wX9_effortOf (ad : Nat → Nat) (cA : Nat → ClassId) (S : St) (g : Nat → Int32) : (mW ad cA S).set 22 (ad 22, .inl (cA 0, 200, .inl g)) = mW ad cA (fA S 21 g) := rfl
set_option maxRecDepth 20000 in
theorem aX9_beforeOf (ad : Nat → Nat) (cA : Nat → ClassId) (S : St) : (mW ad cA S)[23]? = some (ad 23, .inl (cA 1, 200, .inr (.inl (S.2.2.2 0)))) := rfl
set_option maxRecDepth 20000 in
theorem wX9_beforeOf (ad : Nat → Nat) (cA : Nat → ClassId) (S : St) (g : Nat → Int64) : (mW ad cA S).set 23 (ad 23, .inl (cA 1, 200, .inr (.inl g))) = mW ad cA (fL S 0 g) := rfl
set_option maxRecDepth 20000 in
theorem aX9_afterOf (ad : Nat → Nat) (cA : Nat → ClassId) (S : St) : (mW ad cA S)[24]? = some (ad 24, .inl (cA 1, 200, .inr (.inl (S.2.2.2 1)))) := rfl
set_option maxRecDepth 20000 in
theorem wX9_afterOf (ad : Nat → Nat) (cA : Nat → ClassId) (S : St) (g : Nat → Int64) : (mW ad cA S).set 24 (ad 24, .inl (cA 1, 200, .inr (.inl g))) = mW ad cA (fL S 1 g) := rfl
set_option maxRecDepth 20000 in
theorem aX9_isSaved (ad : Nat → Nat) (cA : Nat → ClassId) (S : St) : (mW ad cA S)[25]? = some (ad 25, .inl (cA 3, 4, .inl (S.2.2.1 22))) := rfl
set_option maxRecDepth 20000 in
theorem wX9_isSaved (ad : Nat → Nat) (cA : Nat → ClassId) (S : St) (g : Nat → Int32) : (mW ad cA S).set 25 (ad 25, .inl (cA 3, 4, .inl g)) = mW ad cA (fA S 22 g) := rfl
set_option maxRecDepth 20000 in
theorem aX9_savedOf (ad : Nat → Nat) (cA : Nat → ClassId) (S : St) : (mW ad cA S)[26]? = some (ad 26, .inl (cA 1, 4, .inr (.inl (S.2.2.2 2)))) := rfl
set_option maxRecDepth 20000 in
theorem wX9_savedOf (ad : Nat → Nat) (cA : Nat → ClassId) (S : St) (g : Nat → Int64) : (mW ad cA S).set 26 (ad 26, .inl (cA 1, 4, .inr (.inl g))) = mW ad cA (fL S 2 g) := rfl
set_option maxRecDepth 20000 in
theorem aX9_nextOf (ad : Nat → Nat) (cA : Nat → ClassId) (S : St) : (mW ad cA S)[27]? = some (ad 27, .inl (cA 0, 1536, .inl (S.2.2.1 23))) := rfl
set_option maxRecDepth 20000 in
theorem wX9_nextOf (ad : Nat → Nat) (cA : Nat → ClassId) (S : St) (g : Nat → Int32) : (mW ad cA S).set 27 (ad 27, .inl (cA 0, 1536, .inl g)) = mW ad cA (fA S 23 g) := rfl
set_option maxRecDepth 20000 in
theorem aX9_farOf (ad : Nat → Nat) (cA : Nat → ClassId) (S : St) : (mW ad cA S)[28]? = some (ad 28, .inl (cA 0, 1280, .inl (S.2.2.1 24))) := rfl
set_option maxRecDepth 20000 in
theorem wX9_farOf (ad : Nat → Nat) (cA : Nat → ClassId) (S : St) (g : Nat → Int32) : (mW ad cA S).set 28 (ad 28, .inl (cA 0, 1280, .inl g)) = mW ad cA (fA S 24 g) := rfl
set_option maxRecDepth 20000 in
theorem aX9_listOf (ad : Nat → Nat) (cA : Nat → ClassId) (S : St) : (mW ad cA S)[29]? = some (ad 29, .inl (cA 1, 1200, .inr (.inl (S.2.2.2 3)))) := rfl
set_option maxRecDepth 20000 in
theorem wX9_listOf (ad : Nat → Nat) (cA : Nat → ClassId) (S : St) (g : Nat → Int64) : (mW ad cA S).set 29 (ad 29, .inl (cA 1, 1200, .inr (.inl g))) = mW ad cA (fL S 3 g) := rfl
set_option maxRecDepth 20000 in
theorem aX9_cameFrom (ad : Nat → Nat) (cA : Nat → ClassId) (S : St) : (mW ad cA S)[30]? = some (ad 30, .inl (cA 0, 1200, .inl (S.2.2.1 25))) := rfl
set_option maxRecDepth 20000 in
theorem wX9_cameFrom (ad : Nat → Nat) (cA : Nat → ClassId) (S : St) (g : Nat → Int32) : (mW ad cA S).set 30 (ad 30, .inl (cA 0, 1200, .inl g)) = mW ad cA (fA S 25 g) := rfl
set_option maxRecDepth 20000 in
theorem aX9_cameBy (ad : Nat → Nat) (cA : Nat → ClassId) (S : St) : (mW ad cA S)[31]? = some (ad 31, .inl (cA 0, 1200, .inl (S.2.2.1 26))) := rfl
set_option maxRecDepth 20000 in
theorem wX9_cameBy (ad : Nat → Nat) (cA : Nat → ClassId) (S : St) (g : Nat → Int32) : (mW ad cA S).set 31 (ad 31, .inl (cA 0, 1200, .inl g)) = mW ad cA (fA S 26 g) := rfl
set_option maxRecDepth 20000 in
theorem aX9_stepsTo (ad : Nat → Nat) (cA : Nat → ClassId) (S : St) : (mW ad cA S)[32]? = some (ad 32, .inl (cA 0, 1200, .inl (S.2.2.1 27))) := rfl
set_option maxRecDepth 20000 in
theorem wX9_stepsTo (ad : Nat → Nat) (cA : Nat → ClassId) (S : St) (g : Nat → Int32) : (mW ad cA S).set 32 (ad 32, .inl (cA 0, 1200, .inl g)) = mW ad cA (fA S 27 g) := rfl
set_option maxRecDepth 20000 in
theorem pX9_listed (ad : Nat → Nat) (cA : Nat → ClassId) (S : St) (v : Int32) : (mW ad cA S).set 0 (ad 0, .inr (9, ([.int (S.1 0), .int (S.1 1), .int (S.1 2), .ref (ad 1), .ref (ad 2), .ref (ad 3), .ref (ad 4), .ref (ad 5), .ref (ad 6), .ref (ad 7), .ref (ad 8), .ref (ad 9), .ref (ad 10), .int (S.1 3), .ref (ad 11), .ref (ad 12), .ref (ad 13), .ref (ad 14), .ref (ad 15), .ref (ad 16), .ref (ad 17), .ref (ad 18), .int (S.1 4), .int (S.1 5), .ref (ad 19), .ref (ad 20), .int (S.1 6), .int (S.1 7), .int (S.1 8), .int (S.1 9), .ref (ad 21), .ref (ad 22), .ref (ad 23), .ref (ad 24), .ref (ad 25), .ref (ad 26), .ref (ad 27), .ref (ad 28), .ref (ad 29), .ref (ad 30), .ref (ad 31), .ref (ad 32), .int (S.1 10), .int (S.1 11)] : List Value).set 42 (.int v))) = mW ad cA (sI S 10 v) := rfl
set_option maxRecDepth 20000 in
theorem pX9_foundAt (ad : Nat → Nat) (cA : Nat → ClassId) (S : St) (v : Int32) : (mW ad cA S).set 0 (ad 0, .inr (9, ([.int (S.1 0), .int (S.1 1), .int (S.1 2), .ref (ad 1), .ref (ad 2), .ref (ad 3), .ref (ad 4), .ref (ad 5), .ref (ad 6), .ref (ad 7), .ref (ad 8), .ref (ad 9), .ref (ad 10), .int (S.1 3), .ref (ad 11), .ref (ad 12), .ref (ad 13), .ref (ad 14), .ref (ad 15), .ref (ad 16), .ref (ad 17), .ref (ad 18), .int (S.1 4), .int (S.1 5), .ref (ad 19), .ref (ad 20), .int (S.1 6), .int (S.1 7), .int (S.1 8), .int (S.1 9), .ref (ad 21), .ref (ad 22), .ref (ad 23), .ref (ad 24), .ref (ad 25), .ref (ad 26), .ref (ad 27), .ref (ad 28), .ref (ad 29), .ref (ad 30), .ref (ad 31), .ref (ad 32), .int (S.1 10), .int (S.1 11)] : List Value).set 43 (.int v))) = mW ad cA (sI S 11 v) := rfl
def tKL : Nat → Int32 := fun j => match j with
  | 0 => 114
  | 1 => 100
  | 2 => 108
  | 3 => 117
  | 4 => 116
  | _ => 115
def tGR : Nat → Int32 := fun j => match j with
  | 0 => 46
  | 1 => 35
  | 2 => 62
  | 3 => 118
  | 4 => 60
  | 5 => 94
  | 6 => 48
  | 7 => 49
  | 8 => 50
  | 9 => 51
  | 10 => 119
  | 11 => 120
  | 12 => 121
  | _ => 122
def tSX : Nat → Int32 := fun j => match j with
  | 0 => 1
  | 1 => 0
  | 2 => -1
  | _ => 0
def tSY : Nat → Int32 := fun j => match j with
  | 0 => 0
  | 1 => 1
  | 2 => 0
  | _ => -1
def nestw : List Cond := [Cond.methodLinkNest "BlockYard" 9 ⟨"BlockYard$Text", "<init>", "()V"⟩ "BlockYard", Cond.methodLinkNest "BlockYard$Level" 11 ⟨"BlockYard$Yard", "<init>", "()V"⟩ "BlockYard", Cond.methodLinkNest "BlockYard$Level" 35 ⟨"BlockYard$Block", "<init>", "()V"⟩ "BlockYard", Cond.methodLinkNest "BlockYard" 43 ⟨"BlockYard$History", "<init>", "()V"⟩ "BlockYard", Cond.methodLinkNest "BlockYard$LevelReader" 123 ⟨"BlockYard", "placeOf", "(C[C)I"⟩ "BlockYard", Cond.methodLinkNest "BlockYard$LevelReader" 110 ⟨"BlockYard", "columnOf", "(I)I"⟩ "BlockYard", Cond.methodLinkNest "BlockYard$LevelReader" 114 ⟨"BlockYard", "rowOf", "(I)I"⟩ "BlockYard", Cond.methodLinkNest "BlockYard$Block" 62 ⟨"BlockYard", "orientationOf", "(I)I"⟩ "BlockYard", Cond.methodLinkNest "BlockYard$Block" 51 ⟨"BlockYard", "columnOf", "(I)I"⟩ "BlockYard", Cond.methodLinkNest "BlockYard$Block" 55 ⟨"BlockYard", "rowOf", "(I)I"⟩ "BlockYard", Cond.methodLinkNest "BlockYard$Block" 75 ⟨"BlockYard", "holds", "(JI)Z"⟩ "BlockYard", Cond.methodLinkNest "BlockYard$LevelReader" 101 ⟨"BlockYard", "withPlacement", "(JII)J"⟩ "BlockYard", Cond.methodLinkNest "BlockYard$Mover" 39 ⟨"BlockYard", "placementIn", "(JI)I"⟩ "BlockYard", Cond.methodLinkNest "BlockYard$Mover" 91 ⟨"BlockYard", "withPlacement", "(JII)J"⟩ "BlockYard", Cond.methodLinkNest "BlockYard$Level" 61 ⟨"BlockYard", "placementIn", "(JI)I"⟩ "BlockYard", Cond.methodLinkNest "BlockYard$Search" 100 ⟨"BlockYard", "moveCode", "(II)I"⟩ "BlockYard"]
def xS (ad : Nat → Nat) (U : State) (H : Heap) : Prop := (va_Z "BlockYard" "KIND_LETTERS" "[C" (.ref (ad 200)) (xA ad) U H ∧ va_T .char (ad 200) 6 (fun j => .int (tKL j)) (xA ad) U H) ∧ (va_Z "BlockYard$LevelReader" "GROUND" "[C" (.ref (ad 201)) (xA ad) U H ∧ va_T .char (ad 201) 14 (fun j => .int (tGR j)) (xA ad) U H) ∧ (va_Z "BlockYard$Yard" "STEP_X" "[I" (.ref (ad 202)) (xA ad) U H ∧ va_T .int (ad 202) 4 (fun j => .int (tSX j)) (xA ad) U H) ∧ (va_Z "BlockYard$Yard" "STEP_Y" "[I" (.ref (ad 203)) (xA ad) U H ∧ va_T .int (ad 203) 4 (fun j => .int (tSY j)) (xA ad) U H) ∧ ∀ w ∈ nestw, va_Nw w U
def mS (_ : State) (_ : Heap) : Prop := True
theorem nestw_all : ∀ w ∈ nestw, ∃ a i x h, w = Cond.methodLinkNest a i x h := by
  intro w hw
  simp only [nestw, List.mem_cons, List.not_mem_nil, or_false] at hw
  rcases hw with rfl | rfl | rfl | rfl | rfl | rfl | rfl | rfl | rfl | rfl | rfl | rfl | rfl | rfl | rfl | rfl <;> exact ⟨_, _, _, _, rfl⟩
theorem xS_mv (ad : Nat → Nat) : ∀ (u U : State) (H : Heap), (u.WarmedH U.vm ∨ u.vm = U.vm) → xS ad u H → xS ad U H := by
  intro u U H h q
  have hv : u.vm.Alike U.vm := h.elim (fun h => h.alike) (fun h => h ▸ Vm.Alike.refl _)
  obtain ⟨⟨a1, a2⟩, ⟨b1, b2⟩, ⟨c1, c2⟩, ⟨d1, d2⟩, n⟩ := q
  refine ⟨⟨a1.moved hv, a2.moved hv⟩, ⟨b1.moved hv, b2.moved hv⟩, ⟨c1.moved hv, c2.moved hv⟩, ⟨d1.moved hv, d2.moved hv⟩, fun w hw => ?_⟩
  obtain ⟨a, i, x, k, rfl⟩ := nestw_all w hw
  rcases h with h | h
  · exact va_Nw.warmM h (n _ hw)
  · exact va_Nw.same rfl h (n _ hw)
theorem xS_kp (ad : Nat → Nat) : ∀ (U : State) (H H1 : Heap), (∀ a : Nat, a < H.size → ¬ xA ad a → H1[a]? = H[a]?) → xS ad U H → xS ad U H1 := by
  intro U H H1 h q
  obtain ⟨⟨a1, a2⟩, ⟨b1, b2⟩, ⟨c1, c2⟩, ⟨d1, d2⟩, n⟩ := q
  exact ⟨⟨a1.kept h, a2.kept h⟩, ⟨b1.kept h, b2.kept h⟩, ⟨c1.kept h, c2.kept h⟩, ⟨d1.kept h, d2.kept h⟩, n⟩
set_option maxRecDepth 100000 in
theorem inX8 : ∀ w ∈ u_ws RX8 TX8 8, w ∈ gw_tbl := fun w h => List.mem_filter.mpr ⟨(by decide +kernel : ∀ w ∈ u_ws RX8 TX8 8, w ∈ lw_tbl) w h, List.all_eq_true.mp (by decide +kernel : (u_ws RX8 TX8 8).all goodWord = true) w h⟩
set_option maxRecDepth 100000 in
theorem inX6 : ∀ w ∈ u_ws RX6 TX6 2, w ∈ gw_tbl := fun w h => List.mem_filter.mpr ⟨(by decide +kernel : ∀ w ∈ u_ws RX6 TX6 2, w ∈ lw_tbl) w h, List.all_eq_true.mp (by decide +kernel : (u_ws RX6 TX6 2).all goodWord = true) w h⟩
set_option maxRecDepth 100000 in
theorem inX2 : ∀ w ∈ u_ws RX2 TX2 5, w ∈ gw_tbl := fun w h => List.mem_filter.mpr ⟨(by decide +kernel : ∀ w ∈ u_ws RX2 TX2 5, w ∈ lw_tbl) w h, List.all_eq_true.mp (by decide +kernel : (u_ws RX2 TX2 5).all goodWord = true) w h⟩
set_option maxRecDepth 100000 in
theorem inX7 : ∀ w ∈ u_ws RX7 TX7 8, w ∈ gw_tbl := fun w h => List.mem_filter.mpr ⟨(by decide +kernel : ∀ w ∈ u_ws RX7 TX7 8, w ∈ lw_tbl) w h, List.all_eq_true.mp (by decide +kernel : (u_ws RX7 TX7 8).all goodWord = true) w h⟩
set_option maxRecDepth 100000 in
theorem inX0 : ∀ w ∈ u_ws RX0 TX0 8, w ∈ gw_tbl := fun w h => List.mem_filter.mpr ⟨(by decide +kernel : ∀ w ∈ u_ws RX0 TX0 8, w ∈ lw_tbl) w h, List.all_eq_true.mp (by decide +kernel : (u_ws RX0 TX0 8).all goodWord = true) w h⟩
set_option maxRecDepth 100000 in
theorem inX3 : ∀ w ∈ u_ws RX3 TX3 7, w ∈ gw_tbl := fun w h => List.mem_filter.mpr ⟨(by decide +kernel : ∀ w ∈ u_ws RX3 TX3 7, w ∈ lw_tbl) w h, List.all_eq_true.mp (by decide +kernel : (u_ws RX3 TX3 7).all goodWord = true) w h⟩
set_option maxRecDepth 100000 in
theorem inX4 : ∀ w ∈ u_ws RX4 TX4 8, w ∈ gw_tbl := fun w h => List.mem_filter.mpr ⟨(by decide +kernel : ∀ w ∈ u_ws RX4 TX4 8, w ∈ lw_tbl) w h, List.all_eq_true.mp (by decide +kernel : (u_ws RX4 TX4 8).all goodWord = true) w h⟩
set_option maxRecDepth 100000 in
theorem inX1 : ∀ w ∈ u_ws RX1 TX1 5, w ∈ gw_tbl := fun w h => List.mem_filter.mpr ⟨(by decide +kernel : ∀ w ∈ u_ws RX1 TX1 5, w ∈ lw_tbl) w h, List.all_eq_true.mp (by decide +kernel : (u_ws RX1 TX1 5).all goodWord = true) w h⟩
set_option maxRecDepth 100000 in
theorem inX5 : ∀ w ∈ u_ws RX5 TX5 11, w ∈ gw_tbl := fun w h => List.mem_filter.mpr ⟨(by decide +kernel : ∀ w ∈ u_ws RX5 TX5 11, w ∈ lw_tbl) w h, List.all_eq_true.mp (by decide +kernel : (u_ws RX5 TX5 11).all goodWord = true) w h⟩
set_option maxRecDepth 100000 in
theorem inX9 : ∀ w ∈ u_ws RX9 TX9 44, w ∈ gw_tbl := fun w h => List.mem_filter.mpr ⟨(by decide +kernel : ∀ w ∈ u_ws RX9 TX9 44, w ∈ lw_tbl) w h, List.all_eq_true.mp (by decide +kernel : (u_ws RX9 TX9 44).all goodWord = true) w h⟩
