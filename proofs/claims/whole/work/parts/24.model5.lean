section M5
variable {E : am_E} {d : Nat} {i : Nat → Int32} {j : Nat → Int64} {a : Nat → Nat → Int32} {b : Nat → Nat → Int64}
theorem x9_kind_none {g w k : Int32} (h : (inB g 0 5 && inB k 0 7) = false) : am_D E (d + 3) tX9_kind [.ref 0, .int g, .int w, .int k] (am_L (mo i j a b)) 0 0 (some (.int (-1))) (am_L (mo i j a b)) := by
  refine am_D_of (Nat.le_of_ble_eq_true rfl) ?_
  refine ev_go 999 rfl trivial ?_
  refine ev_call0 rfl (Nat.le_of_ble_eq_true rfl) (fun z => by cases z) (x9_isGroup) ?_
  cases hg : inB g 0 5 with
  | false =>
    refine ev_go 999 rfl trivial ?_
    refine ev_pos (by decide) ?_
    refine ev_go 999 rfl trivial ?_
    exact ev_ret rfl trivial ⟨rfl, rfl⟩
  | true =>
    rw [hg, Bool.true_and] at h
    refine ev_go 999 rfl trivial ?_
    refine ev_neg (by decide) ?_
    refine ev_go 999 rfl trivial ?_
    refine ev_call0 rfl (Nat.le_of_ble_eq_true rfl) (fun z => by cases z) (x9_in) ?_
    rw [show inB k (Int32.ofInt 0) (Int8.ofInt 7).toInt32 = false from h]
    refine ev_go 999 rfl trivial ?_
    refine ev_neg (by decide) ?_
    refine ev_go 999 rfl trivial ?_
    exact ev_ret rfl trivial ⟨rfl, rfl⟩
theorem x9_kind_bad {g w k : Int32} (h : (inB g 0 5 && inB k 0 7) = true) (h2 : inB w 0 7 = false) : am_D E (d + 3) tX9_kind [.ref 0, .int g, .int w, .int k] (am_L (mo i j a b)) 0 0 (some (.int (-2))) (am_L (mo i j a b)) := by
  rw [Bool.and_eq_true_iff] at h
  refine am_D_of (Nat.le_of_ble_eq_true rfl) ?_
  refine ev_go 999 rfl trivial ?_
  refine ev_call0 rfl (Nat.le_of_ble_eq_true rfl) (fun z => by cases z) (x9_isGroup) ?_
  rw [h.1]
  refine ev_go 999 rfl trivial ?_
  refine ev_neg (by decide) ?_
  refine ev_go 999 rfl trivial ?_
  refine ev_call0 rfl (Nat.le_of_ble_eq_true rfl) (fun z => by cases z) (x9_in) ?_
  rw [show inB k (Int32.ofInt 0) (Int8.ofInt 7).toInt32 = true from h.2]
  refine ev_go 999 rfl trivial ?_
  refine ev_pos (by decide) ?_
  refine ev_go 999 rfl trivial ?_
  refine ev_call0 rfl (Nat.le_of_ble_eq_true rfl) (fun z => by cases z) (x9_in) ?_
  rw [show inB w (Int32.ofInt 0) (Int8.ofInt 7).toInt32 = false from h2]
  refine ev_go 999 rfl trivial ?_
  refine ev_neg (by decide) ?_
  refine ev_go 999 rfl trivial ?_
  exact ev_ret rfl trivial ⟨rfl, rfl⟩
theorem x9_kind_ok {g w : Nat} {k : Int32} (hg : g < 6) (hw : w < 8) (h : (inB (nI g) 0 5 && inB k 0 7) = true) (h2 : inB (nI w) 0 7 = true) : am_D E (d + 3) tX9_kind [.ref 0, .int (nI g), .int (nI w), .int k] (am_L (mo i j a b)) 0 0 (some (.int (a 2 (8 * g + w)))) (am_L (mo i j (va_up a 2 (upd (a 2) (8 * g + w) k)) b)) := by
  rw [Bool.and_eq_true_iff] at h
  have ex : nI 8 * nI g + nI w = nI (8 * g + w) := by rw [pk_mul, nI_add]
  have hv : vp_in (nI 8 * nI g + nI w) 48 := by rw [ex]; exact vp_in_nI (by omega) (by omega)
  have hcl : (nI 8 * nI g + nI w).toNatClampNeg = 8 * g + w := by rw [ex]; exact nI_clamp (by omega)
  refine am_D_of (Nat.le_of_ble_eq_true rfl) ?_
  refine ev_go 999 rfl trivial ?_
  refine ev_call0 rfl (Nat.le_of_ble_eq_true rfl) (fun z => by cases z) (x9_isGroup) ?_
  rw [h.1]
  refine ev_go 999 rfl trivial ?_
  refine ev_neg (by decide) ?_
  refine ev_go 999 rfl trivial ?_
  refine ev_call0 rfl (Nat.le_of_ble_eq_true rfl) (fun z => by cases z) (x9_in) ?_
  rw [show inB k (Int32.ofInt 0) (Int8.ofInt 7).toInt32 = true from h.2]
  refine ev_go 999 rfl trivial ?_
  refine ev_pos (by decide) ?_
  refine ev_go 999 rfl trivial ?_
  refine ev_call0 rfl (Nat.le_of_ble_eq_true rfl) (fun z => by cases z) (x9_in) ?_
  rw [show inB (nI w) (Int32.ofInt 0) (Int8.ofInt 7).toInt32 = true from h2]
  refine ev_go 999 rfl trivial ?_
  refine ev_pos (by decide) ?_
  refine ev_go 999 rfl ⟨hv, hv, trivial⟩ ?_
  refine ev_ret rfl trivial ⟨?_, ?_⟩
  · show some (Value.int (a 2 (nI 8 * nI g + nI w).toNatClampNeg)) = _
    rw [hcl]
  · show am_w (am_L (mo i j a b)) 2 (.inl (0, 48, .inl (upd (a 2) (nI 8 * nI g + nI w).toNatClampNeg k))) = _
    rw [mo_a2, hcl]
theorem x9_target_none {g w k : Int32} (h : inB g 0 5 = false) : am_D E (d + 3) tX9_target [.ref 0, .int g, .int w, .int k] (am_L (mo i j a b)) 0 0 (some (.int (-1))) (am_L (mo i j a b)) := by
  refine am_D_of (Nat.le_of_ble_eq_true rfl) ?_
  refine ev_go 999 rfl trivial ?_
  refine ev_call0 rfl (Nat.le_of_ble_eq_true rfl) (fun z => by cases z) (x9_isGroup) ?_
  rw [h]
  refine ev_go 999 rfl trivial ?_
  refine ev_neg (by decide) ?_
  refine ev_go 999 rfl trivial ?_
  exact ev_ret rfl trivial ⟨rfl, rfl⟩
theorem x9_target_bad {g w k : Int32} (h : inB g 0 5 = true) (h2 : (inB w 0 6 && inB k 0 1440) = false) : am_D E (d + 3) tX9_target [.ref 0, .int g, .int w, .int k] (am_L (mo i j a b)) 0 0 (some (.int (-2))) (am_L (mo i j a b)) := by
  refine am_D_of (Nat.le_of_ble_eq_true rfl) ?_
  refine ev_go 999 rfl trivial ?_
  refine ev_call0 rfl (Nat.le_of_ble_eq_true rfl) (fun z => by cases z) (x9_isGroup) ?_
  rw [h]
  refine ev_go 999 rfl trivial ?_
  refine ev_pos (by decide) ?_
  refine ev_go 999 rfl trivial ?_
  refine ev_call0 rfl (Nat.le_of_ble_eq_true rfl) (fun z => by cases z) (x9_in) ?_
  cases hg : inB w 0 6 with
  | false =>
    rw [show inB w (Int32.ofInt 0) (Int8.ofInt 6).toInt32 = false from hg]
    refine ev_go 999 rfl trivial ?_
    refine ev_pos (by decide) ?_
    refine ev_go 999 rfl trivial ?_
    exact ev_ret rfl trivial ⟨rfl, rfl⟩
  | true =>
    rw [hg, Bool.true_and] at h2
    rw [show inB w (Int32.ofInt 0) (Int8.ofInt 6).toInt32 = true from hg]
    refine ev_go 999 rfl trivial ?_
    refine ev_neg (by decide) ?_
    refine ev_go 999 rfl trivial ?_
    refine ev_call0 rfl (Nat.le_of_ble_eq_true rfl) (fun z => by cases z) (x9_in) ?_
    rw [show inB k (Int32.ofInt 0) (Int16.ofInt 1440).toInt32 = false from h2]
    refine ev_go 999 rfl trivial ?_
    refine ev_neg (by decide) ?_
    refine ev_go 999 rfl trivial ?_
    exact ev_ret rfl trivial ⟨rfl, rfl⟩
theorem x9_target_ok {g w : Nat} {k : Int32} (hg : g < 6) (hw : w < 7) (h : inB (nI g) 0 5 = true) (h2 : (inB (nI w) 0 6 && inB k 0 1440) = true) : am_D E (d + 3) tX9_target [.ref 0, .int (nI g), .int (nI w), .int k] (am_L (mo i j a b)) 0 0 (some (.int (a 13 (7 * g + w)))) (am_L (mo i j (va_up a 13 (upd (a 13) (7 * g + w) k)) b)) := by
  rw [Bool.and_eq_true_iff] at h2
  have ex : nI 7 * nI g + nI w = nI (7 * g + w) := by rw [pk_mul, nI_add]
  have hv : vp_in (nI 7 * nI g + nI w) 42 := by rw [ex]; exact vp_in_nI (by omega) (by omega)
  have hcl : (nI 7 * nI g + nI w).toNatClampNeg = 7 * g + w := by rw [ex]; exact nI_clamp (by omega)
  refine am_D_of (Nat.le_of_ble_eq_true rfl) ?_
  refine ev_go 999 rfl trivial ?_
  refine ev_call0 rfl (Nat.le_of_ble_eq_true rfl) (fun z => by cases z) (x9_isGroup) ?_
  rw [h]
  refine ev_go 999 rfl trivial ?_
  refine ev_pos (by decide) ?_
  refine ev_go 999 rfl trivial ?_
  refine ev_call0 rfl (Nat.le_of_ble_eq_true rfl) (fun z => by cases z) (x9_in) ?_
  rw [show inB (nI w) (Int32.ofInt 0) (Int8.ofInt 6).toInt32 = true from h2.1]
  refine ev_go 999 rfl trivial ?_
  refine ev_neg (by decide) ?_
  refine ev_go 999 rfl trivial ?_
  refine ev_call0 rfl (Nat.le_of_ble_eq_true rfl) (fun z => by cases z) (x9_in) ?_
  rw [show inB k (Int32.ofInt 0) (Int16.ofInt 1440).toInt32 = true from h2.2]
  refine ev_go 999 rfl trivial ?_
  refine ev_pos (by decide) ?_
  refine ev_go 999 rfl ⟨hv, hv, trivial⟩ ?_
  refine ev_ret rfl trivial ⟨?_, ?_⟩
  · show some (Value.int (a 13 (nI 7 * nI g + nI w).toNatClampNeg)) = _
    rw [hcl]
  · show am_w (am_L (mo i j a b)) 13 (.inl (0, 42, .inl (upd (a 13) (nI 7 * nI g + nI w).toNatClampNeg k))) = _
    rw [mo_a13, hcl]
theorem x9_limits_none {g x y : Int32} (h : inB g 0 5 = false) : am_D E (d + 3) tX9_limits [.ref 0, .int g, .int x, .int y] (am_L (mo i j a b)) 0 0 (some (.int (-1))) (am_L (mo i j a b)) := by
  refine am_D_of (Nat.le_of_ble_eq_true rfl) ?_
  refine ev_go 999 rfl trivial ?_
  refine ev_call0 rfl (Nat.le_of_ble_eq_true rfl) (fun z => by cases z) (x9_isGroup) ?_
  rw [h]
  refine ev_go 999 rfl trivial ?_
  refine ev_neg (by decide) ?_
  refine ev_go 999 rfl trivial ?_
  exact ev_ret rfl trivial ⟨rfl, rfl⟩
theorem x9_limits_bad {g x y : Int32} (h : inB g 0 5 = true) (h2 : (inB x (-100000) 100000 && inB y (-100000) 100000 && decide (x ≤ y)) = false) : am_D E (d + 3) tX9_limits [.ref 0, .int g, .int x, .int y] (am_L (mo i j a b)) 0 0 (some (.int (-2))) (am_L (mo i j a b)) := by
  refine am_D_of (Nat.le_of_ble_eq_true rfl) ?_
  refine ev_go 999 rfl trivial ?_
  refine ev_call0 rfl (Nat.le_of_ble_eq_true rfl) (fun z => by cases z) (x9_isGroup) ?_
  rw [h]
  refine ev_go 999 rfl trivial ?_
  refine ev_pos (by decide) ?_
  refine ev_go 999 rfl trivial ?_
  refine ev_call0 rfl (Nat.le_of_ble_eq_true rfl) (fun z => by cases z) (x9_in) ?_
  cases hg : inB x (-100000) 100000 with
  | false =>
    refine ev_go 999 rfl trivial ?_
    refine ev_pos (by decide) ?_
    refine ev_go 999 rfl trivial ?_
    exact ev_ret rfl trivial ⟨rfl, rfl⟩
  | true =>
    rw [hg, Bool.true_and] at h2
    refine ev_go 999 rfl trivial ?_
    refine ev_neg (by decide) ?_
    refine ev_go 999 rfl trivial ?_
    refine ev_call0 rfl (Nat.le_of_ble_eq_true rfl) (fun z => by cases z) (x9_in) ?_
    cases hk : inB y (-100000) 100000 with
    | false =>
      refine ev_go 999 rfl trivial ?_
      refine ev_pos (by decide) ?_
      refine ev_go 999 rfl trivial ?_
      exact ev_ret rfl trivial ⟨rfl, rfl⟩
    | true =>
      rw [hk, Bool.true_and] at h2
      refine ev_go 999 rfl trivial ?_
      refine ev_neg (by decide) ?_
      refine ev_go 999 rfl trivial ?_
      refine ev_neg (of_decide_eq_false h2) ?_
      refine ev_go 999 rfl trivial ?_
      exact ev_ret rfl trivial ⟨rfl, rfl⟩
theorem x9_limits_ok {g : Nat} {x y : Int32} (hg : g < 6) (h : inB (nI g) 0 5 = true) (h2 : (inB x (-100000) 100000 && inB y (-100000) 100000 && decide (x ≤ y)) = true) : am_D E (d + 3) tX9_limits [.ref 0, .int (nI g), .int x, .int y] (am_L (mo i j a b)) 0 0 (some (.int 0)) (am_L (mo i j (va_up (va_up a 14 (upd (a 14) g x)) 15 (upd (a 15) g y)) b)) := by
  rw [Bool.and_eq_true_iff, Bool.and_eq_true_iff] at h2
  have hv : vp_in (nI g) 6 := vp_in_nI hg (by omega)
  have hcl : (nI g).toNatClampNeg = g := nI_clamp (by omega)
  refine am_D_of (Nat.le_of_ble_eq_true rfl) ?_
  refine ev_go 999 rfl trivial ?_
  refine ev_call0 rfl (Nat.le_of_ble_eq_true rfl) (fun z => by cases z) (x9_isGroup) ?_
  rw [h]
  refine ev_go 999 rfl trivial ?_
  refine ev_pos (by decide) ?_
  refine ev_go 999 rfl trivial ?_
  refine ev_call0 rfl (Nat.le_of_ble_eq_true rfl) (fun z => by cases z) (x9_in) ?_
  rw [show inB x _ _ = true from h2.1.1]
  refine ev_go 999 rfl trivial ?_
  refine ev_neg (by decide) ?_
  refine ev_go 999 rfl trivial ?_
  refine ev_call0 rfl (Nat.le_of_ble_eq_true rfl) (fun z => by cases z) (x9_in) ?_
  rw [show inB y _ _ = true from h2.1.2]
  refine ev_go 999 rfl trivial ?_
  refine ev_neg (by decide) ?_
  refine ev_go 999 rfl trivial ?_
  refine ev_pos (of_decide_eq_true h2.2) ?_
  refine ev_go 999 rfl ⟨hv, hv, trivial⟩ ?_
  refine ev_ret rfl trivial ⟨rfl, ?_⟩
  dsimp only
  rw [hcl, mo_a14, mo_a15]
theorem x9_open : am_D E (d + 1) tX9_open [.ref 0] (am_L (mo i j a b)) 0 0 (some (.int (i 39))) (am_L (mo i j a b)) := by
  refine am_D_of (Nat.le_of_ble_eq_true rfl) ?_
  refine ev_go 999 rfl trivial ?_
  exact ev_ret rfl trivial ⟨rfl, rfl⟩
theorem x9_worker_none {g f : Int32} (h : (inB g 0 5 && inB f 0 1095) = false) : am_D E (d + 3) tX9_worker [.ref 0, .int g, .int f] (am_L (mo i j a b)) 0 0 (some (.int (-1))) (am_L (mo i j a b)) := by
  refine am_D_of (Nat.le_of_ble_eq_true rfl) ?_
  refine ev_go 999 rfl trivial ?_
  refine ev_call0 rfl (Nat.le_of_ble_eq_true rfl) (fun z => by cases z) (x9_isGroup) ?_
  cases hg : inB g 0 5 with
  | false =>
    refine ev_go 999 rfl trivial ?_
    refine ev_pos (by decide) ?_
    refine ev_go 999 rfl trivial ?_
    exact ev_ret rfl trivial ⟨rfl, rfl⟩
  | true =>
    rw [hg, Bool.true_and] at h
    refine ev_go 999 rfl trivial ?_
    refine ev_neg (by decide) ?_
    refine ev_go 999 rfl trivial ?_
    refine ev_call0 rfl (Nat.le_of_ble_eq_true rfl) (fun z => by cases z) (x9_isDay) ?_
    rw [h]
    refine ev_go 999 rfl trivial ?_
    refine ev_neg (by decide) ?_
    refine ev_go 999 rfl trivial ?_
    exact ev_ret rfl trivial ⟨rfl, rfl⟩
theorem x9_worker_full {g f : Int32} (h : (inB g 0 5 && inB f 0 1095) = true) (hi : i 19 = 30) : am_D E (d + 3) tX9_worker [.ref 0, .int g, .int f] (am_L (mo i j a b)) 0 0 (some (.int (-4))) (am_L (mo i j a b)) := by
  rw [Bool.and_eq_true_iff] at h
  refine am_D_of (Nat.le_of_ble_eq_true rfl) ?_
  refine ev_go 999 rfl trivial ?_
  refine ev_call0 rfl (Nat.le_of_ble_eq_true rfl) (fun z => by cases z) (x9_isGroup) ?_
  rw [h.1]
  refine ev_go 999 rfl trivial ?_
  refine ev_neg (by decide) ?_
  refine ev_go 999 rfl trivial ?_
  refine ev_call0 rfl (Nat.le_of_ble_eq_true rfl) (fun z => by cases z) (x9_isDay) ?_
  rw [h.2]
  refine ev_go 999 rfl trivial ?_
  refine ev_pos (by decide) ?_
  refine ev_go 999 rfl trivial ?_
  refine ev_neg (fun z => z hi) ?_
  refine ev_go 999 rfl trivial ?_
  exact ev_ret rfl trivial ⟨rfl, rfl⟩
theorem x9_worker_ok {g f : Int32} {n : Nat} (h : (inB g 0 5 && inB f 0 1095) = true) (hn : n < 30) (hi : i 19 = nI n) : am_D E (d + 3) tX9_worker [.ref 0, .int g, .int f] (am_L (mo i j a b)) 0 0 (some (.int (nI n))) (am_L (mo (va_up i 19 (nI (n + 1))) j (va_up (va_up a 16 (upd (a 16) n g)) 17 (upd (a 17) n f)) b)) := by
  rw [Bool.and_eq_true_iff] at h
  have hv : vp_in (i 19) 30 := by rw [hi]; exact vp_in_nI hn (by omega)
  have hcl : (i 19).toNatClampNeg = n := by rw [hi]; exact nI_clamp (by omega)
  refine am_D_of (Nat.le_of_ble_eq_true rfl) ?_
  refine ev_go 999 rfl trivial ?_
  refine ev_call0 rfl (Nat.le_of_ble_eq_true rfl) (fun z => by cases z) (x9_isGroup) ?_
  rw [h.1]
  refine ev_go 999 rfl trivial ?_
  refine ev_neg (by decide) ?_
  refine ev_go 999 rfl trivial ?_
  refine ev_call0 rfl (Nat.le_of_ble_eq_true rfl) (fun z => by cases z) (x9_isDay) ?_
  rw [h.2]
  refine ev_go 999 rfl trivial ?_
  refine ev_pos (by decide) ?_
  refine ev_go 999 rfl trivial ?_
  refine ev_pos (by show ¬ i 19 = nI 30; rw [hi, nI_eq (by omega) (by omega)]; omega) ?_
  refine ev_go 999 rfl ⟨hv, hv, trivial⟩ ?_
  refine ev_ret rfl trivial ⟨?_, ?_⟩
  · show some (Value.int (i 19 + nI 1 - nI 1)) = _
    rw [hi, nI_add, pk_sub (by omega)]
    rfl
  · dsimp only
    rw [hcl, mo_a16, mo_a17]
    have e : i 19 + Int32.ofInt 1 = nI (n + 1) := by rw [hi]; exact nI_1 n
    rw [e]
    exact mo_i19 _
end M5
