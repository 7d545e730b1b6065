/-! The reference's state: ints and longs by field, arrays by their place. -/
def mo (i : Nat → Int32) (j : Nat → Int64) (a : Nat → Nat → Int32) (b : Nat → Nat → Int64) : List am_C := [.inr (9, [.int (i 0), .ref 1, .int (i 2), .ref 2, .ref 3, .ref 4, .ref 5, .ref 6, .ref 7, .int (i 9), .ref 8, .ref 9, .ref 10, .ref 11, .ref 12, .int (i 15), .ref 13, .ref 14, .ref 15, .int (i 19), .ref 16, .ref 17, .ref 18, .ref 19, .ref 20, .ref 21, .int (i 26), .ref 22, .ref 23, .ref 24, .int (i 30), .ref 25, .ref 26, .ref 27, .ref 28, .ref 29, .ref 30, .ref 31, .int (i 38), .int (i 39), .ref 32, .ref 33, .ref 34, .ref 35, .ref 36, .long (j 45), .long (j 46)]),
  .inl (1, 1096, .inl (a 1)),
  .inl (0, 48, .inl (a 2)),
  .inl (0, 40, .inl (a 3)),
  .inl (0, 40, .inl (a 4)),
  .inl (0, 60, .inl (a 5)),
  .inl (0, 60, .inl (a 6)),
  .inl (0, 60, .inl (a 7)),
  .inl (0, 12, .inl (a 8)),
  .inl (0, 12, .inl (a 9)),
  .inl (0, 12, .inl (a 10)),
  .inl (0, 12, .inl (a 11)),
  .inl (1, 144, .inl (a 12)),
  .inl (0, 42, .inl (a 13)),
  .inl (0, 6, .inl (a 14)),
  .inl (0, 6, .inl (a 15)),
  .inl (0, 30, .inl (a 16)),
  .inl (0, 30, .inl (a 17)),
  .inl (0, 30, .inl (a 18)),
  .inl (0, 600, .inl (a 19)),
  .inl (0, 600, .inl (a 20)),
  .inl (0, 30, .inl (a 21)),
  .inl (0, 12000, .inl (a 22)),
  .inl (0, 12000, .inl (a 23)),
  .inl (0, 400, .inl (a 24)),
  .inl (0, 400, .inl (a 25)),
  .inl (0, 400, .inl (a 26)),
  .inl (0, 400, .inl (a 27)),
  .inl (0, 400, .inl (a 28)),
  .inl (1, 400, .inl (a 29)),
  .inl (0, 2880, .inl (a 30)),
  .inl (0, 5, .inl (a 31)),
  .inl (2, 1080, .inr (.inl (b 32))),
  .inl (2, 1080, .inr (.inl (b 33))),
  .inl (2, 1080, .inr (.inl (b 34))),
  .inl (2, 1080, .inr (.inl (b 35))),
  .inl (2, 1080, .inr (.inl (b 36)))]
/-! what a store makes of the state -/
theorem mo_a1 {i : Nat → Int32} {j : Nat → Int64} {a : Nat → Nat → Int32} {b : Nat → Nat → Int64} (h : Nat → Int32) : am_w (am_L (mo i j a b)) 1 (.inl (1, 1096, .inl h)) = am_L (mo i j (va_up a 1 h) b) := by rw [am_w_L (Nat.le_of_ble_eq_true rfl)]; rfl
theorem mo_a2 {i : Nat → Int32} {j : Nat → Int64} {a : Nat → Nat → Int32} {b : Nat → Nat → Int64} (h : Nat → Int32) : am_w (am_L (mo i j a b)) 2 (.inl (0, 48, .inl h)) = am_L (mo i j (va_up a 2 h) b) := by rw [am_w_L (Nat.le_of_ble_eq_true rfl)]; rfl
theorem mo_a3 {i : Nat → Int32} {j : Nat → Int64} {a : Nat → Nat → Int32} {b : Nat → Nat → Int64} (h : Nat → Int32) : am_w (am_L (mo i j a b)) 3 (.inl (0, 40, .inl h)) = am_L (mo i j (va_up a 3 h) b) := by rw [am_w_L (Nat.le_of_ble_eq_true rfl)]; rfl
theorem mo_a4 {i : Nat → Int32} {j : Nat → Int64} {a : Nat → Nat → Int32} {b : Nat → Nat → Int64} (h : Nat → Int32) : am_w (am_L (mo i j a b)) 4 (.inl (0, 40, .inl h)) = am_L (mo i j (va_up a 4 h) b) := by rw [am_w_L (Nat.le_of_ble_eq_true rfl)]; rfl
theorem mo_a5 {i : Nat → Int32} {j : Nat → Int64} {a : Nat → Nat → Int32} {b : Nat → Nat → Int64} (h : Nat → Int32) : am_w (am_L (mo i j a b)) 5 (.inl (0, 60, .inl h)) = am_L (mo i j (va_up a 5 h) b) := by rw [am_w_L (Nat.le_of_ble_eq_true rfl)]; rfl
theorem mo_a6 {i : Nat → Int32} {j : Nat → Int64} {a : Nat → Nat → Int32} {b : Nat → Nat → Int64} (h : Nat → Int32) : am_w (am_L (mo i j a b)) 6 (.inl (0, 60, .inl h)) = am_L (mo i j (va_up a 6 h) b) := by rw [am_w_L (Nat.le_of_ble_eq_true rfl)]; rfl
theorem mo_a7 {i : Nat → Int32} {j : Nat → Int64} {a : Nat → Nat → Int32} {b : Nat → Nat → Int64} (h : Nat → Int32) : am_w (am_L (mo i j a b)) 7 (.inl (0, 60, .inl h)) = am_L (mo i j (va_up a 7 h) b) := by rw [am_w_L (Nat.le_of_ble_eq_true rfl)]; rfl
theorem mo_a8 {i : Nat → Int32} {j : Nat → Int64} {a : Nat → Nat → Int32} {b : Nat → Nat → Int64} (h : Nat → Int32) : am_w (am_L (mo i j a b)) 8 (.inl (0, 12, .inl h)) = am_L (mo i j (va_up a 8 h) b) := by rw [am_w_L (Nat.le_of_ble_eq_true rfl)]; rfl
theorem mo_a9 {i : Nat → Int32} {j : Nat → Int64} {a : Nat → Nat → Int32} {b : Nat → Nat → Int64} (h : Nat → Int32) : am_w (am_L (mo i j a b)) 9 (.inl (0, 12, .inl h)) = am_L (mo i j (va_up a 9 h) b) := by rw [am_w_L (Nat.le_of_ble_eq_true rfl)]; rfl
theorem mo_a10 {i : Nat → Int32} {j : Nat → Int64} {a : Nat → Nat → Int32} {b : Nat → Nat → Int64} (h : Nat → Int32) : am_w (am_L (mo i j a b)) 10 (.inl (0, 12, .inl h)) = am_L (mo i j (va_up a 10 h) b) := by rw [am_w_L (Nat.le_of_ble_eq_true rfl)]; rfl
theorem mo_a11 {i : Nat → Int32} {j : Nat → Int64} {a : Nat → Nat → Int32} {b : Nat → Nat → Int64} (h : Nat → Int32) : am_w (am_L (mo i j a b)) 11 (.inl (0, 12, .inl h)) = am_L (mo i j (va_up a 11 h) b) := by rw [am_w_L (Nat.le_of_ble_eq_true rfl)]; rfl
theorem mo_a12 {i : Nat → Int32} {j : Nat → Int64} {a : Nat → Nat → Int32} {b : Nat → Nat → Int64} (h : Nat → Int32) : am_w (am_L (mo i j a b)) 12 (.inl (1, 144, .inl h)) = am_L (mo i j (va_up a 12 h) b) := by rw [am_w_L (Nat.le_of_ble_eq_true rfl)]; rfl
theorem mo_a13 {i : Nat → Int32} {j : Nat → Int64} {a : Nat → Nat → Int32} {b : Nat → Nat → Int64} (h : Nat → Int32) : am_w (am_L (mo i j a b)) 13 (.inl (0, 42, .inl h)) = am_L (mo i j (va_up a 13 h) b) := by rw [am_w_L (Nat.le_of_ble_eq_true rfl)]; rfl
theorem mo_a14 {i : Nat → Int32} {j : Nat → Int64} {a : Nat → Nat → Int32} {b : Nat → Nat → Int64} (h : Nat → Int32) : am_w (am_L (mo i j a b)) 14 (.inl (0, 6, .inl h)) = am_L (mo i j (va_up a 14 h) b) := by rw [am_w_L (Nat.le_of_ble_eq_true rfl)]; rfl
theorem mo_a15 {i : Nat → Int32} {j : Nat → Int64} {a : Nat → Nat → Int32} {b : Nat → Nat → Int64} (h : Nat → Int32) : am_w (am_L (mo i j a b)) 15 (.inl (0, 6, .inl h)) = am_L (mo i j (va_up a 15 h) b) := by rw [am_w_L (Nat.le_of_ble_eq_true rfl)]; rfl
theorem mo_a16 {i : Nat → Int32} {j : Nat → Int64} {a : Nat → Nat → Int32} {b : Nat → Nat → Int64} (h : Nat → Int32) : am_w (am_L (mo i j a b)) 16 (.inl (0, 30, .inl h)) = am_L (mo i j (va_up a 16 h) b) := by rw [am_w_L (Nat.le_of_ble_eq_true rfl)]; rfl
theorem mo_a17 {i : Nat → Int32} {j : Nat → Int64} {a : Nat → Nat → Int32} {b : Nat → Nat → Int64} (h : Nat → Int32) : am_w (am_L (mo i j a b)) 17 (.inl (0, 30, .inl h)) = am_L (mo i j (va_up a 17 h) b) := by rw [am_w_L (Nat.le_of_ble_eq_true rfl)]; rfl
theorem mo_a18 {i : Nat → Int32} {j : Nat → Int64} {a : Nat → Nat → Int32} {b : Nat → Nat → Int64} (h : Nat → Int32) : am_w (am_L (mo i j a b)) 18 (.inl (0, 30, .inl h)) = am_L (mo i j (va_up a 18 h) b) := by rw [am_w_L (Nat.le_of_ble_eq_true rfl)]; rfl
theorem mo_a19 {i : Nat → Int32} {j : Nat → Int64} {a : Nat → Nat → Int32} {b : Nat → Nat → Int64} (h : Nat → Int32) : am_w (am_L (mo i j a b)) 19 (.inl (0, 600, .inl h)) = am_L (mo i j (va_up a 19 h) b) := by rw [am_w_L (Nat.le_of_ble_eq_true rfl)]; rfl
theorem mo_a20 {i : Nat → Int32} {j : Nat → Int64} {a : Nat → Nat → Int32} {b : Nat → Nat → Int64} (h : Nat → Int32) : am_w (am_L (mo i j a b)) 20 (.inl (0, 600, .inl h)) = am_L (mo i j (va_up a 20 h) b) := by rw [am_w_L (Nat.le_of_ble_eq_true rfl)]; rfl
theorem mo_a21 {i : Nat → Int32} {j : Nat → Int64} {a : Nat → Nat → Int32} {b : Nat → Nat → Int64} (h : Nat → Int32) : am_w (am_L (mo i j a b)) 21 (.inl (0, 30, .inl h)) = am_L (mo i j (va_up a 21 h) b) := by rw [am_w_L (Nat.le_of_ble_eq_true rfl)]; rfl
theorem mo_a22 {i : Nat → Int32} {j : Nat → Int64} {a : Nat → Nat → Int32} {b : Nat → Nat → Int64} (h : Nat → Int32) : am_w (am_L (mo i j a b)) 22 (.inl (0, 12000, .inl h)) = am_L (mo i j (va_up a 22 h) b) := by rw [am_w_L (Nat.le_of_ble_eq_true rfl)]; rfl
theorem mo_a23 {i : Nat → Int32} {j : Nat → Int64} {a : Nat → Nat → Int32} {b : Nat → Nat → Int64} (h : Nat → Int32) : am_w (am_L (mo i j a b)) 23 (.inl (0, 12000, .inl h)) = am_L (mo i j (va_up a 23 h) b) := by rw [am_w_L (Nat.le_of_ble_eq_true rfl)]; rfl
theorem mo_a24 {i : Nat → Int32} {j : Nat → Int64} {a : Nat → Nat → Int32} {b : Nat → Nat → Int64} (h : Nat → Int32) : am_w (am_L (mo i j a b)) 24 (.inl (0, 400, .inl h)) = am_L (mo i j (va_up a 24 h) b) := by rw [am_w_L (Nat.le_of_ble_eq_true rfl)]; rfl
theorem mo_a25 {i : Nat → Int32} {j : Nat → Int64} {a : Nat → Nat → Int32} {b : Nat → Nat → Int64} (h : Nat → Int32) : am_w (am_L (mo i j a b)) 25 (.inl (0, 400, .inl h)) = am_L (mo i j (va_up a 25 h) b) := by rw [am_w_L (Nat.le_of_ble_eq_true rfl)]; rfl
theorem mo_a26 {i : Nat → Int32} {j : Nat → Int64} {a : Nat → Nat → Int32} {b : Nat → Nat → Int64} (h : Nat → Int32) : am_w (am_L (mo i j a b)) 26 (.inl (0, 400, .inl h)) = am_L (mo i j (va_up a 26 h) b) := by rw [am_w_L (Nat.le_of_ble_eq_true rfl)]; rfl
theorem mo_a27 {i : Nat → Int32} {j : Nat → Int64} {a : Nat → Nat → Int32} {b : Nat → Nat → Int64} (h : Nat → Int32) : am_w (am_L (mo i j a b)) 27 (.inl (0, 400, .inl h)) = am_L (mo i j (va_up a 27 h) b) := by rw [am_w_L (Nat.le_of_ble_eq_true rfl)]; rfl
theorem mo_a28 {i : Nat → Int32} {j : Nat → Int64} {a : Nat → Nat → Int32} {b : Nat → Nat → Int64} (h : Nat → Int32) : am_w (am_L (mo i j a b)) 28 (.inl (0, 400, .inl h)) = am_L (mo i j (va_up a 28 h) b) := by rw [am_w_L (Nat.le_of_ble_eq_true rfl)]; rfl
theorem mo_a29 {i : Nat → Int32} {j : Nat → Int64} {a : Nat → Nat → Int32} {b : Nat → Nat → Int64} (h : Nat → Int32) : am_w (am_L (mo i j a b)) 29 (.inl (1, 400, .inl h)) = am_L (mo i j (va_up a 29 h) b) := by rw [am_w_L (Nat.le_of_ble_eq_true rfl)]; rfl
theorem mo_a30 {i : Nat → Int32} {j : Nat → Int64} {a : Nat → Nat → Int32} {b : Nat → Nat → Int64} (h : Nat → Int32) : am_w (am_L (mo i j a b)) 30 (.inl (0, 2880, .inl h)) = am_L (mo i j (va_up a 30 h) b) := by rw [am_w_L (Nat.le_of_ble_eq_true rfl)]; rfl
theorem mo_a31 {i : Nat → Int32} {j : Nat → Int64} {a : Nat → Nat → Int32} {b : Nat → Nat → Int64} (h : Nat → Int32) : am_w (am_L (mo i j a b)) 31 (.inl (0, 5, .inl h)) = am_L (mo i j (va_up a 31 h) b) := by rw [am_w_L (Nat.le_of_ble_eq_true rfl)]; rfl
theorem mo_b32 {i : Nat → Int32} {j : Nat → Int64} {a : Nat → Nat → Int32} {b : Nat → Nat → Int64} (h : Nat → Int64) : am_w (am_L (mo i j a b)) 32 (.inl (2, 1080, .inr (.inl h))) = am_L (mo i j a (va_up b 32 h)) := by rw [am_w_L (Nat.le_of_ble_eq_true rfl)]; rfl
theorem mo_b33 {i : Nat → Int32} {j : Nat → Int64} {a : Nat → Nat → Int32} {b : Nat → Nat → Int64} (h : Nat → Int64) : am_w (am_L (mo i j a b)) 33 (.inl (2, 1080, .inr (.inl h))) = am_L (mo i j a (va_up b 33 h)) := by rw [am_w_L (Nat.le_of_ble_eq_true rfl)]; rfl
theorem mo_b34 {i : Nat → Int32} {j : Nat → Int64} {a : Nat → Nat → Int32} {b : Nat → Nat → Int64} (h : Nat → Int64) : am_w (am_L (mo i j a b)) 34 (.inl (2, 1080, .inr (.inl h))) = am_L (mo i j a (va_up b 34 h)) := by rw [am_w_L (Nat.le_of_ble_eq_true rfl)]; rfl
theorem mo_b35 {i : Nat → Int32} {j : Nat → Int64} {a : Nat → Nat → Int32} {b : Nat → Nat → Int64} (h : Nat → Int64) : am_w (am_L (mo i j a b)) 35 (.inl (2, 1080, .inr (.inl h))) = am_L (mo i j a (va_up b 35 h)) := by rw [am_w_L (Nat.le_of_ble_eq_true rfl)]; rfl
theorem mo_b36 {i : Nat → Int32} {j : Nat → Int64} {a : Nat → Nat → Int32} {b : Nat → Nat → Int64} (h : Nat → Int64) : am_w (am_L (mo i j a b)) 36 (.inl (2, 1080, .inr (.inl h))) = am_L (mo i j a (va_up b 36 h)) := by rw [am_w_L (Nat.le_of_ble_eq_true rfl)]; rfl
theorem mo_i2 {i : Nat → Int32} {j : Nat → Int64} {a : Nat → Nat → Int32} {b : Nat → Nat → Int64} (x : Int32) : am_w (am_L (mo i j a b)) 0 (.inr (9, [.int (i 0), .ref 1, .int (i 2), .ref 2, .ref 3, .ref 4, .ref 5, .ref 6, .ref 7, .int (i 9), .ref 8, .ref 9, .ref 10, .ref 11, .ref 12, .int (i 15), .ref 13, .ref 14, .ref 15, .int (i 19), .ref 16, .ref 17, .ref 18, .ref 19, .ref 20, .ref 21, .int (i 26), .ref 22, .ref 23, .ref 24, .int (i 30), .ref 25, .ref 26, .ref 27, .ref 28, .ref 29, .ref 30, .ref 31, .int (i 38), .int (i 39), .ref 32, .ref 33, .ref 34, .ref 35, .ref 36, .long (j 45), .long (j 46)].set 2 (.int x))) = am_L (mo (va_up i 2 x) j a b) := by rw [am_w_L (Nat.le_of_ble_eq_true rfl)]; rfl
theorem mo_i9 {i : Nat → Int32} {j : Nat → Int64} {a : Nat → Nat → Int32} {b : Nat → Nat → Int64} (x : Int32) : am_w (am_L (mo i j a b)) 0 (.inr (9, [.int (i 0), .ref 1, .int (i 2), .ref 2, .ref 3, .ref 4, .ref 5, .ref 6, .ref 7, .int (i 9), .ref 8, .ref 9, .ref 10, .ref 11, .ref 12, .int (i 15), .ref 13, .ref 14, .ref 15, .int (i 19), .ref 16, .ref 17, .ref 18, .ref 19, .ref 20, .ref 21, .int (i 26), .ref 22, .ref 23, .ref 24, .int (i 30), .ref 25, .ref 26, .ref 27, .ref 28, .ref 29, .ref 30, .ref 31, .int (i 38), .int (i 39), .ref 32, .ref 33, .ref 34, .ref 35, .ref 36, .long (j 45), .long (j 46)].set 9 (.int x))) = am_L (mo (va_up i 9 x) j a b) := by rw [am_w_L (Nat.le_of_ble_eq_true rfl)]; rfl
theorem mo_i15 {i : Nat → Int32} {j : Nat → Int64} {a : Nat → Nat → Int32} {b : Nat → Nat → Int64} (x : Int32) : am_w (am_L (mo i j a b)) 0 (.inr (9, [.int (i 0), .ref 1, .int (i 2), .ref 2, .ref 3, .ref 4, .ref 5, .ref 6, .ref 7, .int (i 9), .ref 8, .ref 9, .ref 10, .ref 11, .ref 12, .int (i 15), .ref 13, .ref 14, .ref 15, .int (i 19), .ref 16, .ref 17, .ref 18, .ref 19, .ref 20, .ref 21, .int (i 26), .ref 22, .ref 23, .ref 24, .int (i 30), .ref 25, .ref 26, .ref 27, .ref 28, .ref 29, .ref 30, .ref 31, .int (i 38), .int (i 39), .ref 32, .ref 33, .ref 34, .ref 35, .ref 36, .long (j 45), .long (j 46)].set 15 (.int x))) = am_L (mo (va_up i 15 x) j a b) := by rw [am_w_L (Nat.le_of_ble_eq_true rfl)]; rfl
theorem mo_i19 {i : Nat → Int32} {j : Nat → Int64} {a : Nat → Nat → Int32} {b : Nat → Nat → Int64} (x : Int32) : am_w (am_L (mo i j a b)) 0 (.inr (9, [.int (i 0), .ref 1, .int (i 2), .ref 2, .ref 3, .ref 4, .ref 5, .ref 6, .ref 7, .int (i 9), .ref 8, .ref 9, .ref 10, .ref 11, .ref 12, .int (i 15), .ref 13, .ref 14, .ref 15, .int (i 19), .ref 16, .ref 17, .ref 18, .ref 19, .ref 20, .ref 21, .int (i 26), .ref 22, .ref 23, .ref 24, .int (i 30), .ref 25, .ref 26, .ref 27, .ref 28, .ref 29, .ref 30, .ref 31, .int (i 38), .int (i 39), .ref 32, .ref 33, .ref 34, .ref 35, .ref 36, .long (j 45), .long (j 46)].set 19 (.int x))) = am_L (mo (va_up i 19 x) j a b) := by rw [am_w_L (Nat.le_of_ble_eq_true rfl)]; rfl
theorem mo_i26 {i : Nat → Int32} {j : Nat → Int64} {a : Nat → Nat → Int32} {b : Nat → Nat → Int64} (x : Int32) : am_w (am_L (mo i j a b)) 0 (.inr (9, [.int (i 0), .ref 1, .int (i 2), .ref 2, .ref 3, .ref 4, .ref 5, .ref 6, .ref 7, .int (i 9), .ref 8, .ref 9, .ref 10, .ref 11, .ref 12, .int (i 15), .ref 13, .ref 14, .ref 15, .int (i 19), .ref 16, .ref 17, .ref 18, .ref 19, .ref 20, .ref 21, .int (i 26), .ref 22, .ref 23, .ref 24, .int (i 30), .ref 25, .ref 26, .ref 27, .ref 28, .ref 29, .ref 30, .ref 31, .int (i 38), .int (i 39), .ref 32, .ref 33, .ref 34, .ref 35, .ref 36, .long (j 45), .long (j 46)].set 26 (.int x))) = am_L (mo (va_up i 26 x) j a b) := by rw [am_w_L (Nat.le_of_ble_eq_true rfl)]; rfl
theorem mo_i30 {i : Nat → Int32} {j : Nat → Int64} {a : Nat → Nat → Int32} {b : Nat → Nat → Int64} (x : Int32) : am_w (am_L (mo i j a b)) 0 (.inr (9, [.int (i 0), .ref 1, .int (i 2), .ref 2, .ref 3, .ref 4, .ref 5, .ref 6, .ref 7, .int (i 9), .ref 8, .ref 9, .ref 10, .ref 11, .ref 12, .int (i 15), .ref 13, .ref 14, .ref 15, .int (i 19), .ref 16, .ref 17, .ref 18, .ref 19, .ref 20, .ref 21, .int (i 26), .ref 22, .ref 23, .ref 24, .int (i 30), .ref 25, .ref 26, .ref 27, .ref 28, .ref 29, .ref 30, .ref 31, .int (i 38), .int (i 39), .ref 32, .ref 33, .ref 34, .ref 35, .ref 36, .long (j 45), .long (j 46)].set 30 (.int x))) = am_L (mo (va_up i 30 x) j a b) := by rw [am_w_L (Nat.le_of_ble_eq_true rfl)]; rfl
theorem mo_i38 {i : Nat → Int32} {j : Nat → Int64} {a : Nat → Nat → Int32} {b : Nat → Nat → Int64} (x : Int32) : am_w (am_L (mo i j a b)) 0 (.inr (9, [.int (i 0), .ref 1, .int (i 2), .ref 2, .ref 3, .ref 4, .ref 5, .ref 6, .ref 7, .int (i 9), .ref 8, .ref 9, .ref 10, .ref 11, .ref 12, .int (i 15), .ref 13, .ref 14, .ref 15, .int (i 19), .ref 16, .ref 17, .ref 18, .ref 19, .ref 20, .ref 21, .int (i 26), .ref 22, .ref 23, .ref 24, .int (i 30), .ref 25, .ref 26, .ref 27, .ref 28, .ref 29, .ref 30, .ref 31, .int (i 38), .int (i 39), .ref 32, .ref 33, .ref 34, .ref 35, .ref 36, .long (j 45), .long (j 46)].set 38 (.int x))) = am_L (mo (va_up i 38 x) j a b) := by rw [am_w_L (Nat.le_of_ble_eq_true rfl)]; rfl
theorem mo_i39 {i : Nat → Int32} {j : Nat → Int64} {a : Nat → Nat → Int32} {b : Nat → Nat → Int64} (x : Int32) : am_w (am_L (mo i j a b)) 0 (.inr (9, [.int (i 0), .ref 1, .int (i 2), .ref 2, .ref 3, .ref 4, .ref 5, .ref 6, .ref 7, .int (i 9), .ref 8, .ref 9, .ref 10, .ref 11, .ref 12, .int (i 15), .ref 13, .ref 14, .ref 15, .int (i 19), .ref 16, .ref 17, .ref 18, .ref 19, .ref 20, .ref 21, .int (i 26), .ref 22, .ref 23, .ref 24, .int (i 30), .ref 25, .ref 26, .ref 27, .ref 28, .ref 29, .ref 30, .ref 31, .int (i 38), .int (i 39), .ref 32, .ref 33, .ref 34, .ref 35, .ref 36, .long (j 45), .long (j 46)].set 39 (.int x))) = am_L (mo (va_up i 39 x) j a b) := by rw [am_w_L (Nat.le_of_ble_eq_true rfl)]; rfl
theorem mo_j45 {i : Nat → Int32} {j : Nat → Int64} {a : Nat → Nat → Int32} {b : Nat → Nat → Int64} (x : Int64) : am_w (am_L (mo i j a b)) 0 (.inr (9, [.int (i 0), .ref 1, .int (i 2), .ref 2, .ref 3, .ref 4, .ref 5, .ref 6, .ref 7, .int (i 9), .ref 8, .ref 9, .ref 10, .ref 11, .ref 12, .int (i 15), .ref 13, .ref 14, .ref 15, .int (i 19), .ref 16, .ref 17, .ref 18, .ref 19, .ref 20, .ref 21, .int (i 26), .ref 22, .ref 23, .ref 24, .int (i 30), .ref 25, .ref 26, .ref 27, .ref 28, .ref 29, .ref 30, .ref 31, .int (i 38), .int (i 39), .ref 32, .ref 33, .ref 34, .ref 35, .ref 36, .long (j 45), .long (j 46)].set 45 (.long x))) = am_L (mo i (va_up j 45 x) a b) := by rw [am_w_L (Nat.le_of_ble_eq_true rfl)]; rfl
theorem mo_j46 {i : Nat → Int32} {j : Nat → Int64} {a : Nat → Nat → Int32} {b : Nat → Nat → Int64} (x : Int64) : am_w (am_L (mo i j a b)) 0 (.inr (9, [.int (i 0), .ref 1, .int (i 2), .ref 2, .ref 3, .ref 4, .ref 5, .ref 6, .ref 7, .int (i 9), .ref 8, .ref 9, .ref 10, .ref 11, .ref 12, .int (i 15), .ref 13, .ref 14, .ref 15, .int (i 19), .ref 16, .ref 17, .ref 18, .ref 19, .ref 20, .ref 21, .int (i 26), .ref 22, .ref 23, .ref 24, .int (i 30), .ref 25, .ref 26, .ref 27, .ref 28, .ref 29, .ref 30, .ref 31, .int (i 38), .int (i 39), .ref 32, .ref 33, .ref 34, .ref 35, .ref 36, .long (j 45), .long (j 46)].set 46 (.long x))) = am_L (mo i (va_up j 46 x) a b) := by rw [am_w_L (Nat.le_of_ble_eq_true rfl)]; rfl
theorem fa_first_is {p : Nat → Bool} {n k : Nat} (h1 : ∀ q, q < k → p q = false) (h2 : k ≤ n) (h3 : k = n ∨ p k = true) : fa_first p n = k := by
  have a1 := fa_first_le p n
  rcases Nat.lt_trichotomy (fa_first p n) k with h | h | h
  · have := fa_first_yes p n (by omega)
    rw [h1 _ h] at this
    cases this
  · exact h
  · rcases h3 with e | e
    · omega
    · rw [fa_first_no p n k h] at e
      cases e
/-- a truth as a number -/
def bI (c : Bool) : Int32 := if c then 1 else 0
theorem bI_01 (c : Bool) : bI c = 0 ∨ bI c = 1 := by cases c <;> decide
theorem bI_0 {c : Bool} : bI c = 0 ↔ c = false := by cases c <;> decide
theorem bI_n {c : Bool} : ¬ bI c = 0 ↔ c = true := by cases c <;> decide
/-- v from lo to hi -/
def inB (v lo hi : Int32) : Bool := decide (lo ≤ v) && decide (v ≤ hi)
section MO
variable {E : am_E} {d : Nat} {i : Nat → Int32} {j : Nat → Int64} {a : Nat → Nat → Int32} {b : Nat → Nat → Int64}
theorem x9_in {M : am_M} {v lo hi : Int32} : am_D E (d + 1) tX9_in [.int v, .int lo, .int hi] M 0 0 (some (.int (bI (inB v lo hi)))) M := by
  refine am_D_of (Nat.le_of_ble_eq_true rfl) ?_
  refine ev_go 999 rfl trivial ?_
  refine ev_if (fun h => ?_) (fun h => ?_)
  · refine ev_go 999 rfl trivial ?_
    refine ev_ret rfl ⟨Or.inl rfl, trivial⟩ ⟨?_, rfl⟩
    have e : inB v lo hi = false := by unfold inB; rw [decide_eq_false (Int32.not_le.mpr h)]; rfl
    rw [e]; rfl
  · have h1 := Int32.not_lt.mp h
    refine ev_go 999 rfl trivial ?_
    refine ev_if (fun h => ?_) (fun h => ?_)
    · refine ev_go 999 rfl trivial ?_
      refine ev_ret rfl ⟨Or.inl rfl, trivial⟩ ⟨?_, rfl⟩
      have e : inB v lo hi = false := by unfold inB; rw [decide_eq_false (Int32.not_le.mpr h), Bool.and_false]
      rw [e]; rfl
    · refine ev_go 999 rfl trivial ?_
      refine ev_go 999 rfl trivial ?_
      refine ev_ret rfl ⟨Or.inr rfl, trivial⟩ ⟨?_, rfl⟩
      have e : inB v lo hi = true := by unfold inB; rw [decide_eq_true h1, decide_eq_true (Int32.not_lt.mp h)]; rfl
      rw [e]; rfl
theorem x9_markAt {w n : Nat} {t : Int32} (hw : w < 30) (hn : n ≤ 400) (hc : a 21 w = nI n) : am_D E (d + 1) tX9_markAt [.ref 0, .int (nI w), .int t] (am_L (mo i j a b)) 0 0 (some (.int (nI (fa_first (fun k => decide (t ≤ a 22 (400 * w + k))) n)))) (am_L (mo i j a b)) := by
  refine am_D_of (Nat.le_of_ble_eq_true rfl) ?_
  refine ev_go 2 rfl trivial ?_
  have loop : ∀ m k, n - k = m → k ≤ n → (∀ q, q < k → decide (t ≤ a 22 (400 * w + q)) = false) → am_ev E d tX9_markAt (2, [some (.ref 0), some (.int (nI w)), some (.int t), some (.int (nI k))], [], am_L (mo i j a b), 0, 0) (fun v' M'' => v' = some (.int (nI (fa_first (fun k => decide (t ≤ a 22 (400 * w + k))) n))) ∧ M'' = am_L (mo i j a b)) := by
    intro m
    induction m with
    | zero =>
      intro k h1 h2 h3
      have e : k = n := by omega
      subst e
      refine ev_go 999 rfl ⟨vp_in_nI hw (by omega), trivial⟩ ?_
      refine ev_pos (by show a 21 (nI w).toNatClampNeg ≤ nI k; rw [nI_clamp (by omega), hc]; exact nI_le (Nat.le_refl _) (by omega)) ?_
      refine ev_go 999 rfl trivial ?_
      refine ev_ret rfl trivial ⟨?_, rfl⟩
      rw [fa_first_is h3 h2 (Or.inl rfl)]
    | succ m ih =>
      intro k h1 h2 h3
      have ex : nI 400 * nI w + nI k = nI (400 * w + k) := by rw [pk_mul, nI_add]
      refine ev_go 999 rfl ⟨vp_in_nI hw (by omega), trivial⟩ ?_
      refine ev_neg (by show ¬ a 21 (nI w).toNatClampNeg ≤ nI k; rw [nI_clamp (by omega), hc]; exact nI_ge (by omega) (by omega)) ?_
      refine ev_go 999 rfl ⟨by show vp_in (nI 400 * nI w + nI k) 12000; rw [ex]; exact vp_in_nI (by omega) (by omega), trivial⟩ ?_
      refine ev_if (fun h => ?_) (fun h => ?_)
      · have h : t ≤ a 22 (nI 400 * nI w + nI k).toNatClampNeg := h
        rw [ex, nI_clamp (by omega)] at h
        refine ev_go 999 rfl trivial ?_
        refine ev_ret rfl trivial ⟨?_, rfl⟩
        rw [fa_first_is h3 h2 (Or.inr (decide_eq_true h))]
      · have h : ¬ t ≤ a 22 (nI 400 * nI w + nI k).toNatClampNeg := h
        rw [ex, nI_clamp (by omega)] at h
        refine ev_go 999 rfl trivial ?_
        have kk := ih (k + 1) (by omega) (by omega) (fun q hq => by
          rcases Nat.lt_or_ge q k with z | z
          · exact h3 q z
          · have : q = k := by omega
            subst this
            exact decide_eq_false h)
        rw [← nI_1] at kk
        exact kk
  exact loop n 0 (by omega) (by omega) (fun q h => absurd h (Nat.not_lt_zero q))
end MO
