section M7
variable {E : am_E} {d : Nat} {i : Nat → Int32} {j : Nat → Int64} {a : Nat → Nat → Int32} {b : Nat → Nat → Int64}
theorem x9_rate_none {g f c : Int32} (h : (inB g 0 5 && inB f 0 1095) = false) : am_D E (d + 3) tX9_rate [.ref 0, .int g, .int f, .int c] (am_L (mo i j a b)) 0 0 (some (.int (-1))) (am_L (mo i j a b)) := by
  refine am_D_of (Nat.le_of_ble_eq_true rfl) ?_
  refine ev_go 999 rfl trivial ?_
  refine ev_call0 rfl (Nat.le_of_ble_eq_true rfl) (fun z => by cases z) (x9_isGroup) ?_
  cases hg : inB g 0 5 with
  | false =>
    refine ev_go 999 rfl trivial ?_
    refine ev_pos (by decide) ?_
    refine ev_go 999 rfl trivial ?_
    exact ev_ret rfl trivial ⟨rfl, rfl⟩
  | true =>
    rw [hg, Bool.true_and] at h
    refine ev_go 999 rfl trivial ?_
    refine ev_neg (by decide) ?_
    refine ev_go 999 rfl trivial ?_
    refine ev_call0 rfl (Nat.le_of_ble_eq_true rfl) (fun z => by cases z) (x9_isDay) ?_
    rw [h]
    refine ev_go 999 rfl trivial ?_
    refine ev_neg (by decide) ?_
    refine ev_go 999 rfl trivial ?_
    exact ev_ret rfl trivial ⟨rfl, rfl⟩
theorem x9_rate_bad {g f c : Int32} (h : (inB g 0 5 && inB f 0 1095) = true) (h2 : inB c 0 100000 = false) : am_D E (d + 3) tX9_rate [.ref 0, .int g, .int f, .int c] (am_L (mo i j a b)) 0 0 (some (.int (-2))) (am_L (mo i j a b)) := by
  rw [Bool.and_eq_true_iff] at h
  refine am_D_of (Nat.le_of_ble_eq_true rfl) ?_
  refine ev_go 999 rfl trivial ?_
  refine ev_call0 rfl (Nat.le_of_ble_eq_true rfl) (fun z => by cases z) (x9_isGroup) ?_
  rw [h.1]
  refine ev_go 999 rfl trivial ?_
  refine ev_neg (by decide) ?_
  refine ev_go 999 rfl trivial ?_
  refine ev_call0 rfl (Nat.le_of_ble_eq_true rfl) (fun z => by cases z) (x9_isDay) ?_
  rw [h.2]
  refine ev_go 999 rfl trivial ?_
  refine ev_pos (by decide) ?_
  refine ev_go 999 rfl trivial ?_
  refine ev_call0 rfl (Nat.le_of_ble_eq_true rfl) (fun z => by cases z) (x9_in) ?_
  rw [show inB c (Int32.ofInt 0) 100000 = false from h2]
  refine ev_go 999 rfl trivial ?_
  refine ev_neg (by decide) ?_
  refine ev_go 999 rfl trivial ?_
  exact ev_ret rfl trivial ⟨rfl, rfl⟩
theorem x9_rate_full {g f c : Int32} (h : (inB g 0 5 && inB f 0 1095) = true) (h2 : inB c 0 100000 = true) (hi : i 9 = 60) : am_D E (d + 3) tX9_rate [.ref 0, .int g, .int f, .int c] (am_L (mo i j a b)) 0 0 (some (.int (-4))) (am_L (mo i j a b)) := by
  rw [Bool.and_eq_true_iff] at h
  refine am_D_of (Nat.le_of_ble_eq_true rfl) ?_
  refine ev_go 999 rfl trivial ?_
  refine ev_call0 rfl (Nat.le_of_ble_eq_true rfl) (fun z => by cases z) (x9_isGroup) ?_
  rw [h.1]
  refine ev_go 999 rfl trivial ?_
  refine ev_neg (by decide) ?_
  refine ev_go 999 rfl trivial ?_
  refine ev_call0 rfl (Nat.le_of_ble_eq_true rfl) (fun z => by cases z) (x9_isDay) ?_
  rw [h.2]
  refine ev_go 999 rfl trivial ?_
  refine ev_pos (by decide) ?_
  refine ev_go 999 rfl trivial ?_
  refine ev_call0 rfl (Nat.le_of_ble_eq_true rfl) (fun z => by cases z) (x9_in) ?_
  rw [show inB c (Int32.ofInt 0) 100000 = true from h2]
  refine ev_go 999 rfl trivial ?_
  refine ev_pos (by decide) ?_
  refine ev_go 999 rfl trivial ?_
  refine ev_neg (fun z => z hi) ?_
  refine ev_go 999 rfl trivial ?_
  exact ev_ret rfl trivial ⟨rfl, rfl⟩
theorem x9_rate_ok {g f c : Int32} {n : Nat} (h : (inB g 0 5 && inB f 0 1095) = true) (h2 : inB c 0 100000 = true) (hn : n < 60) (hi : i 9 = nI n) : am_D E (d + 3) tX9_rate [.ref 0, .int g, .int f, .int c] (am_L (mo i j a b)) 0 0 (some (.int (nI (n + 1)))) (am_L (mo (va_up i 9 (nI (n + 1))) j (va_up (va_up (va_up a 5 (upd (a 5) n g)) 6 (upd (a 6) n f)) 7 (upd (a 7) n c)) b)) := by
  rw [Bool.and_eq_true_iff] at h
  have hv : vp_in (i 9) 60 := by rw [hi]; exact vp_in_nI hn (by omega)
  have hcl : (i 9).toNatClampNeg = n := by rw [hi]; exact nI_clamp (by omega)
  have e : i 9 + Int32.ofInt 1 = nI (n + 1) := by rw [hi]; exact nI_1 n
  refine am_D_of (Nat.le_of_ble_eq_true rfl) ?_
  refine ev_go 999 rfl trivial ?_
  refine ev_call0 rfl (Nat.le_of_ble_eq_true rfl) (fun z => by cases z) (x9_isGroup) ?_
  rw [h.1]
  refine ev_go 999 rfl trivial ?_
  refine ev_neg (by decide) ?_
  refine ev_go 999 rfl trivial ?_
  refine ev_call0 rfl (Nat.le_of_ble_eq_true rfl) (fun z => by cases z) (x9_isDay) ?_
  rw [h.2]
  refine ev_go 999 rfl trivial ?_
  refine ev_pos (by decide) ?_
  refine ev_go 999 rfl trivial ?_
  refine ev_call0 rfl (Nat.le_of_ble_eq_true rfl) (fun z => by cases z) (x9_in) ?_
  rw [show inB c (Int32.ofInt 0) 100000 = true from h2]
  refine ev_go 999 rfl trivial ?_
  refine ev_pos (by decide) ?_
  refine ev_go 999 rfl trivial ?_
  refine ev_pos (by show ¬ i 9 = nI 60; rw [hi, nI_eq (by omega) (by omega)]; omega) ?_
  refine ev_go 999 rfl ⟨hv, hv, hv, trivial⟩ ?_
  refine ev_ret rfl trivial ⟨?_, ?_⟩
  · show some (Value.int (i 9 + Int32.ofInt 1)) = _
    rw [e]
  · dsimp only
    rw [hcl, mo_a5, mo_a6, mo_a7, e]
    exact mo_i9 _
theorem x9_surcharge_bad {k f t p : Int32} (h : (inB k 0 255 && inB f 0 1439 && inB t 0 1439 && inB p 0 20000) = false) : am_D E (d + 2) tX9_surcharge [.ref 0, .int k, .int f, .int t, .int p] (am_L (mo i j a b)) 0 0 (some (.int (-2))) (am_L (mo i j a b)) := by
  refine am_D_of (Nat.le_of_ble_eq_true rfl) ?_
  refine ev_go 999 rfl trivial ?_
  refine ev_call0 rfl (Nat.le_of_ble_eq_true rfl) (fun z => by cases z) (x9_in) ?_
  cases h1 : inB k 0 255 with
  | false =>
    rw [show inB k (Int32.ofInt 0) (Int16.ofInt 255).toInt32 = false from h1]
    refine ev_go 999 rfl trivial ?_
    refine ev_pos (by decide) ?_
    refine ev_go 999 rfl trivial ?_
    exact ev_ret rfl trivial ⟨rfl, rfl⟩
  | true =>
    rw [show inB k (Int32.ofInt 0) (Int16.ofInt 255).toInt32 = true from h1]
    refine ev_go 999 rfl trivial ?_
    refine ev_neg (by decide) ?_
    refine ev_go 999 rfl trivial ?_
    refine ev_call0 rfl (Nat.le_of_ble_eq_true rfl) (fun z => by cases z) (x9_in) ?_
    cases h2 : inB f 0 1439 with
    | false =>
      rw [show inB f (Int32.ofInt 0) (Int16.ofInt 1439).toInt32 = false from h2]
      refine ev_go 999 rfl trivial ?_
      refine ev_pos (by decide) ?_
      refine ev_go 999 rfl trivial ?_
      exact ev_ret rfl trivial ⟨rfl, rfl⟩
    | true =>
      rw [show inB f (Int32.ofInt 0) (Int16.ofInt 1439).toInt32 = true from h2]
      refine ev_go 999 rfl trivial ?_
      refine ev_neg (by decide) ?_
      refine ev_go 999 rfl trivial ?_
      refine ev_call0 rfl (Nat.le_of_ble_eq_true rfl) (fun z => by cases z) (x9_in) ?_
      cases h3 : inB t 0 1439 with
      | false =>
        rw [show inB t (Int32.ofInt 0) (Int16.ofInt 1439).toInt32 = false from h3]
        refine ev_go 999 rfl trivial ?_
        refine ev_pos (by decide) ?_
        refine ev_go 999 rfl trivial ?_
        exact ev_ret rfl trivial ⟨rfl, rfl⟩
      | true =>
        rw [h1, h2, h3, Bool.true_and, Bool.true_and, Bool.true_and] at h
        rw [show inB t (Int32.ofInt 0) (Int16.ofInt 1439).toInt32 = true from h3]
        refine ev_go 999 rfl trivial ?_
        refine ev_neg (by decide) ?_
        refine ev_go 999 rfl trivial ?_
        refine ev_call0 rfl (Nat.le_of_ble_eq_true rfl) (fun z => by cases z) (x9_in) ?_
        rw [show inB p (Int32.ofInt 0) (Int16.ofInt 20000).toInt32 = false from h]
        refine ev_go 999 rfl trivial ?_
        refine ev_neg (by decide) ?_
        refine ev_go 999 rfl trivial ?_
        exact ev_ret rfl trivial ⟨rfl, rfl⟩
theorem x9_surcharge_go {P : Option Value → am_M → Prop} {M : am_M} {k f t p : Int32} (h : (inB k 0 255 && inB f 0 1439 && inB t 0 1439 && inB p 0 20000) = true) (kk : am_ev E (d + 1) tX9_surcharge (48, [some (.ref 0), some (.int k), some (.int f), some (.int t), some (.int p)], [], M, 0, 0) P) : am_ev E (d + 1) tX9_surcharge (0, [some (.ref 0), some (.int k), some (.int f), some (.int t), some (.int p)], [], M, 0, 0) P := by
  rw [Bool.and_eq_true_iff, Bool.and_eq_true_iff, Bool.and_eq_true_iff] at h
  refine ev_go 999 rfl trivial ?_
  refine ev_call0 rfl (Nat.le_of_ble_eq_true rfl) (fun z => by cases z) (x9_in) ?_
  rw [show inB k (Int32.ofInt 0) (Int16.ofInt 255).toInt32 = true from h.1.1.1]
  refine ev_go 999 rfl trivial ?_
  refine ev_neg (by decide) ?_
  refine ev_go 999 rfl trivial ?_
  refine ev_call0 rfl (Nat.le_of_ble_eq_true rfl) (fun z => by cases z) (x9_in) ?_
  rw [show inB f (Int32.ofInt 0) (Int16.ofInt 1439).toInt32 = true from h.1.1.2]
  refine ev_go 999 rfl trivial ?_
  refine ev_neg (by decide) ?_
  refine ev_go 999 rfl trivial ?_
  refine ev_call0 rfl (Nat.le_of_ble_eq_true rfl) (fun z => by cases z) (x9_in) ?_
  rw [show inB t (Int32.ofInt 0) (Int16.ofInt 1439).toInt32 = true from h.1.2]
  refine ev_go 999 rfl trivial ?_
  refine ev_neg (by decide) ?_
  refine ev_go 999 rfl trivial ?_
  refine ev_call0 rfl (Nat.le_of_ble_eq_true rfl) (fun z => by cases z) (x9_in) ?_
  rw [show inB p (Int32.ofInt 0) (Int16.ofInt 20000).toInt32 = true from h.2]
  refine ev_go 999 rfl trivial ?_
  refine ev_pos (by decide) ?_
  exact kk
theorem x9_surcharge_full {k f t p : Int32} (h : (inB k 0 255 && inB f 0 1439 && inB t 0 1439 && inB p 0 20000) = true) (hi : i 15 = 12) : am_D E (d + 2) tX9_surcharge [.ref 0, .int k, .int f, .int t, .int p] (am_L (mo i j a b)) 0 0 (some (.int (-4))) (am_L (mo i j a b)) := by
  refine am_D_of (Nat.le_of_ble_eq_true rfl) ?_
  refine x9_surcharge_go h ?_
  refine ev_go 999 rfl trivial ?_
  refine ev_neg (fun z => z hi) ?_
  refine ev_go 999 rfl trivial ?_
  exact ev_ret rfl trivial ⟨rfl, rfl⟩
theorem x9_surcharge_ok {k f t p : Int32} {n : Nat} (h : (inB k 0 255 && inB f 0 1439 && inB t 0 1439 && inB p 0 20000) = true) (hn : n < 12) (hi : i 15 = nI n) : am_D E (d + 2) tX9_surcharge [.ref 0, .int k, .int f, .int t, .int p] (am_L (mo i j a b)) 0 0 (some (.int (nI n))) (am_L (mo (va_up i 15 (nI (n + 1))) j (va_up (va_up (va_up (va_up a 8 (upd (a 8) n k)) 9 (upd (a 9) n f)) 10 (upd (a 10) n t)) 11 (upd (a 11) n p)) b)) := by
  have hv : vp_in (i 15) 12 := by rw [hi]; exact vp_in_nI hn (by omega)
  have hcl : (i 15).toNatClampNeg = n := by rw [hi]; exact nI_clamp (by omega)
  have e : i 15 + Int32.ofInt 1 = nI (n + 1) := by rw [hi]; exact nI_1 n
  refine am_D_of (Nat.le_of_ble_eq_true rfl) ?_
  refine x9_surcharge_go h ?_
  refine ev_go 999 rfl trivial ?_
  refine ev_pos (by show ¬ i 15 = nI 12; rw [hi, nI_eq (by omega) (by omega)]; omega) ?_
  refine ev_go 999 rfl ⟨hv, hv, hv, hv, trivial⟩ ?_
  refine ev_ret rfl trivial ⟨?_, ?_⟩
  · show some (Value.int (i 15 + Int32.ofInt 1 - nI 1)) = _
    rw [e, pk_sub (by omega)]
    rfl
  · dsimp only
    rw [hcl, mo_a8, mo_a9, mo_a10, mo_a11, e]
    exact mo_i15 _
theorem x9_exclude_none {s t : Int32} (h : (inB s 0 (i 15 - 1) && inB t 0 (i 15 - 1)) = false) : am_D E (d + 2) tX9_exclude [.ref 0, .int s, .int t] (am_L (mo i j a b)) 0 0 (some (.int (-1))) (am_L (mo i j a b)) := by
  refine am_D_of (Nat.le_of_ble_eq_true rfl) ?_
  refine ev_go 999 rfl trivial ?_
  refine ev_call0 rfl (Nat.le_of_ble_eq_true rfl) (fun z => by cases z) (x9_in) ?_
  cases h1 : inB s 0 (i 15 - 1) with
  | false =>
    rw [show inB s (Int32.ofInt 0) (i 15 - Int32.ofInt 1) = false from h1]
    refine ev_go 999 rfl trivial ?_
    refine ev_pos (by decide) ?_
    refine ev_go 999 rfl trivial ?_
    exact ev_ret rfl trivial ⟨rfl, rfl⟩
  | true =>
    rw [h1, Bool.true_and] at h
    rw [show inB s (Int32.ofInt 0) (i 15 - Int32.ofInt 1) = true from h1]
    refine ev_go 999 rfl trivial ?_
    refine ev_neg (by decide) ?_
    refine ev_go 999 rfl trivial ?_
    refine ev_call0 rfl (Nat.le_of_ble_eq_true rfl) (fun z => by cases z) (x9_in) ?_
    rw [show inB t (Int32.ofInt 0) (i 15 - Int32.ofInt 1) = false from h]
    refine ev_go 999 rfl trivial ?_
    refine ev_neg (by decide) ?_
    refine ev_go 999 rfl trivial ?_
    exact ev_ret rfl trivial ⟨rfl, rfl⟩
theorem x9_exclude_bad {s t : Int32} (h : (inB s 0 (i 15 - 1) && inB t 0 (i 15 - 1)) = true) (h2 : s = t) : am_D E (d + 2) tX9_exclude [.ref 0, .int s, .int t] (am_L (mo i j a b)) 0 0 (some (.int (-2))) (am_L (mo i j a b)) := by
  rw [Bool.and_eq_true_iff] at h
  refine am_D_of (Nat.le_of_ble_eq_true rfl) ?_
  refine ev_go 999 rfl trivial ?_
  refine ev_call0 rfl (Nat.le_of_ble_eq_true rfl) (fun z => by cases z) (x9_in) ?_
  rw [show inB s (Int32.ofInt 0) (i 15 - Int32.ofInt 1) = true from h.1]
  refine ev_go 999 rfl trivial ?_
  refine ev_neg (by decide) ?_
  refine ev_go 999 rfl trivial ?_
  refine ev_call0 rfl (Nat.le_of_ble_eq_true rfl) (fun z => by cases z) (x9_in) ?_
  rw [show inB t (Int32.ofInt 0) (i 15 - Int32.ofInt 1) = true from h.2]
  refine ev_go 999 rfl trivial ?_
  refine ev_pos (by decide) ?_
  refine ev_go 999 rfl trivial ?_
  refine ev_neg (fun z => z h2) ?_
  refine ev_go 999 rfl trivial ?_
  exact ev_ret rfl trivial ⟨rfl, rfl⟩
theorem x9_exclude_ok {s t : Nat} (hs : s < 12) (ht : t < 12) (h : (inB (nI s) 0 (i 15 - 1) && inB (nI t) 0 (i 15 - 1)) = true) (h2 : s ≠ t) : am_D E (d + 2) tX9_exclude [.ref 0, .int (nI s), .int (nI t)] (am_L (mo i j a b)) 0 0 (some (.int (bI (decide (a 12 (12 * s + t) = 0))))) (am_L (mo i j (va_up a 12 (upd (upd (a 12) (12 * s + t) 1) (12 * t + s) 1)) b)) := by
  rw [Bool.and_eq_true_iff] at h
  have ex : nI 12 * nI s + nI t = nI (12 * s + t) := by rw [pk_mul, nI_add]
  have hv : vp_in (nI 12 * nI s + nI t) 144 := by rw [ex]; exact vp_in_nI (by omega) (by omega)
  have hcl : (nI 12 * nI s + nI t).toNatClampNeg = 12 * s + t := by rw [ex]; exact nI_clamp (by omega)
  have ex2 : nI 12 * nI t + nI s = nI (12 * t + s) := by rw [pk_mul, nI_add]
  have hv2 : vp_in (nI 12 * nI t + nI s) 144 := by rw [ex2]; exact vp_in_nI (by omega) (by omega)
  have hcl2 : (nI 12 * nI t + nI s).toNatClampNeg = 12 * t + s := by rw [ex2]; exact nI_clamp (by omega)
  have fin : am_w (am_w (am_L (mo i j a b)) 12 (.inl (1, 144, .inl (upd (a 12) (nI 12 * nI s + nI t).toNatClampNeg 1)))) 12 (.inl (1, 144, .inl (upd (upd (a 12) (nI 12 * nI s + nI t).toNatClampNeg 1) (nI 12 * nI t + nI s).toNatClampNeg 1))) = am_L (mo i j (va_up a 12 (upd (upd (a 12) (12 * s + t) 1) (12 * t + s) 1)) b) := by rw [hcl, hcl2, mo_a12, mo_a12, bx_uu]
  refine am_D_of (Nat.le_of_ble_eq_true rfl) ?_
  refine ev_go 999 rfl trivial ?_
  refine ev_call0 rfl (Nat.le_of_ble_eq_true rfl) (fun z => by cases z) (x9_in) ?_
  rw [show inB (nI s) (Int32.ofInt 0) (i 15 - Int32.ofInt 1) = true from h.1]
  refine ev_go 999 rfl trivial ?_
  refine ev_neg (by decide) ?_
  refine ev_go 999 rfl trivial ?_
  refine ev_call0 rfl (Nat.le_of_ble_eq_true rfl) (fun z => by cases z) (x9_in) ?_
  rw [show inB (nI t) (Int32.ofInt 0) (i 15 - Int32.ofInt 1) = true from h.2]
  refine ev_go 999 rfl trivial ?_
  refine ev_pos (by decide) ?_
  refine ev_go 999 rfl trivial ?_
  refine ev_pos (by show ¬ nI s = nI t; rw [nI_eq (by omega) (by omega)]; exact h2) ?_
  refine ev_go 999 rfl ⟨hv, trivial⟩ ?_
  refine ev_if (fun h => ?_) (fun h => ?_)
  · have h3 : a 12 (nI 12 * nI s + nI t).toNatClampNeg = 0 := h
    rw [hcl] at h3
    refine ev_go 999 rfl ⟨hv, hv2, trivial⟩ ?_
    refine ev_ret rfl trivial ⟨?_, fin⟩
    rw [decide_eq_true h3]; rfl
  · have h3 : ¬ a 12 (nI 12 * nI s + nI t).toNatClampNeg = 0 := h
    rw [hcl] at h3
    refine ev_go 999 rfl trivial ?_
    refine ev_go 999 rfl ⟨hv, hv2, trivial⟩ ?_
    refine ev_ret rfl trivial ⟨?_, fin⟩
    rw [decide_eq_false h3]; rfl
theorem x9_absent_none {w f t : Int32} (h : (inB w 0 (i 19 - 1) && inB f 0 1095 && inB t 0 1095) = false) : am_D E (d + 3) tX9_absent [.ref 0, .int w, .int f, .int t] (am_L (mo i j a b)) 0 0 (some (.int (-1))) (am_L (mo i j a b)) := by
  refine am_D_of (Nat.le_of_ble_eq_true rfl) ?_
  refine ev_go 999 rfl trivial ?_
  refine ev_call0 rfl (Nat.le_of_ble_eq_true rfl) (fun _ => ⟨_, _, _, rfl, rfl⟩) (x9_isWorker) ?_
  cases h1 : inB w 0 (i 19 - 1) with
  | false =>
    refine ev_go 999 rfl trivial ?_
    refine ev_pos (by decide) ?_
    refine ev_go 999 rfl trivial ?_
    exact ev_ret rfl trivial ⟨rfl, rfl⟩
  | true =>
    refine ev_go 999 rfl trivial ?_
    refine ev_neg (by decide) ?_
    refine ev_go 999 rfl trivial ?_
    refine ev_call0 rfl (Nat.le_of_ble_eq_true rfl) (fun z => by cases z) (x9_isDay) ?_
    cases h2 : inB f 0 1095 with
    | false =>
      refine ev_go 999 rfl trivial ?_
      refine ev_pos (by decide) ?_
      refine ev_go 999 rfl trivial ?_
      exact ev_ret rfl trivial ⟨rfl, rfl⟩
    | true =>
      rw [h1, h2, Bool.true_and, Bool.true_and] at h
      refine ev_go 999 rfl trivial ?_
      refine ev_neg (by decide) ?_
      refine ev_go 999 rfl trivial ?_
      refine ev_call0 rfl (Nat.le_of_ble_eq_true rfl) (fun z => by cases z) (x9_isDay) ?_
      rw [h]
      refine ev_go 999 rfl trivial ?_
      refine ev_neg (by decide) ?_
      refine ev_go 999 rfl trivial ?_
      exact ev_ret rfl trivial ⟨rfl, rfl⟩
theorem x9_absent_go {P : Option Value → am_M → Prop} {w f t : Int32} (h : (inB w 0 (i 19 - 1) && inB f 0 1095 && inB t 0 1095) = true) (kk : am_ev E (d + 2) tX9_absent (24, [some (.ref 0), some (.int w), some (.int f), some (.int t)], [], am_L (mo i j a b), 0, 0) P) : am_ev E (d + 2) tX9_absent (0, [some (.ref 0), some (.int w), some (.int f), some (.int t)], [], am_L (mo i j a b), 0, 0) P := by
  rw [Bool.and_eq_true_iff, Bool.and_eq_true_iff] at h
  refine ev_go 999 rfl trivial ?_
  refine ev_call0 rfl (Nat.le_of_ble_eq_true rfl) (fun _ => ⟨_, _, _, rfl, rfl⟩) (x9_isWorker) ?_
  rw [h.1.1]
  refine ev_go 999 rfl trivial ?_
  refine ev_neg (by decide) ?_
  refine ev_go 999 rfl trivial ?_
  refine ev_call0 rfl (Nat.le_of_ble_eq_true rfl) (fun z => by cases z) (x9_isDay) ?_
  rw [h.1.2]
  refine ev_go 999 rfl trivial ?_
  refine ev_neg (by decide) ?_
  refine ev_go 999 rfl trivial ?_
  refine ev_call0 rfl (Nat.le_of_ble_eq_true rfl) (fun z => by cases z) (x9_isDay) ?_
  rw [h.2]
  refine ev_go 999 rfl trivial ?_
  refine ev_pos (by decide) ?_
  exact kk
theorem x9_absent_bad {w f t : Int32} (h : (inB w 0 (i 19 - 1) && inB f 0 1095 && inB t 0 1095) = true) (h2 : ¬ f ≤ t) : am_D E (d + 3) tX9_absent [.ref 0, .int w, .int f, .int t] (am_L (mo i j a b)) 0 0 (some (.int (-2))) (am_L (mo i j a b)) := by
  refine am_D_of (Nat.le_of_ble_eq_true rfl) ?_
  refine x9_absent_go h ?_
  refine ev_go 999 rfl trivial ?_
  refine ev_neg h2 ?_
  refine ev_go 999 rfl trivial ?_
  exact ev_ret rfl trivial ⟨rfl, rfl⟩
theorem x9_absent_full {w : Nat} {f t : Int32} (hw : w < 30) (h : (inB (nI w) 0 (i 19 - 1) && inB f 0 1095 && inB t 0 1095) = true) (h2 : f ≤ t) (h3 : a 18 w = 20) : am_D E (d + 3) tX9_absent [.ref 0, .int (nI w), .int f, .int t] (am_L (mo i j a b)) 0 0 (some (.int (-4))) (am_L (mo i j a b)) := by
  refine am_D_of (Nat.le_of_ble_eq_true rfl) ?_
  refine x9_absent_go h ?_
  refine ev_go 999 rfl trivial ?_
  refine ev_pos h2 ?_
  refine ev_go 999 rfl ⟨vp_in_nI hw (by omega), trivial⟩ ?_
  refine ev_neg (fun z => z (by rw [nI_clamp (by omega)]; exact h3)) ?_
  refine ev_go 999 rfl trivial ?_
  exact ev_ret rfl trivial ⟨rfl, rfl⟩
theorem x9_absent_ok {w n : Nat} {f t : Int32} (hw : w < 30) (h : (inB (nI w) 0 (i 19 - 1) && inB f 0 1095 && inB t 0 1095) = true) (h2 : f ≤ t) (hn : n < 20) (h3 : a 18 w = nI n) : am_D E (d + 3) tX9_absent [.ref 0, .int (nI w), .int f, .int t] (am_L (mo i j a b)) 0 0 (some (.int (nI (n + 1)))) (am_L (mo i j (va_up (va_up (va_up a 19 (upd (a 19) (20 * w + n) f)) 20 (upd (a 20) (20 * w + n) t)) 18 (upd (a 18) w (nI (n + 1)))) b)) := by
  have hv : vp_in (nI w) 30 := vp_in_nI hw (by omega)
  have hc : (nI w).toNatClampNeg = w := nI_clamp (by omega)
  have ex : nI 20 * nI w + a 18 (nI w).toNatClampNeg = nI (20 * w + n) := by rw [hc, h3, pk_mul, nI_add]
  have hv2 : vp_in (nI 20 * nI w + a 18 (nI w).toNatClampNeg) 600 := by rw [ex]; exact vp_in_nI (by omega) (by omega)
  have hcl : (nI 20 * nI w + a 18 (nI w).toNatClampNeg).toNatClampNeg = 20 * w + n := by rw [ex]; exact nI_clamp (by omega)
  have e : a 18 w + Int32.ofInt 1 = nI (n + 1) := by rw [h3]; exact nI_1 n
  refine am_D_of (Nat.le_of_ble_eq_true rfl) ?_
  refine x9_absent_go h ?_
  refine ev_go 999 rfl trivial ?_
  refine ev_pos h2 ?_
  refine ev_go 999 rfl ⟨hv, trivial⟩ ?_
  refine ev_pos (by show ¬ a 18 (nI w).toNatClampNeg = nI 20; rw [hc, h3, nI_eq (by omega) (by omega)]; omega) ?_
  refine ev_go 999 rfl ⟨hv, hv2, hv, hv2, hv, hv, hv, trivial⟩ ?_
  refine ev_ret rfl trivial ⟨?_, ?_⟩
  · show some (Value.int (upd (a 18) (nI w).toNatClampNeg (a 18 (nI w).toNatClampNeg + Int32.ofInt 1) (nI w).toNatClampNeg)) = _
    rw [hc, e, pk_us]
  · show am_w (am_w (am_w (am_L (mo i j a b)) 19 (.inl (0, 600, .inl (upd (a 19) (nI 20 * nI w + a 18 (nI w).toNatClampNeg).toNatClampNeg f)))) 20 (.inl (0, 600, .inl (upd (a 20) (nI 20 * nI w + a 18 (nI w).toNatClampNeg).toNatClampNeg t)))) 18 (.inl (0, 30, .inl (upd (a 18) (nI w).toNatClampNeg (a 18 (nI w).toNatClampNeg + Int32.ofInt 1)))) = _
    rw [hcl, hc, e, mo_a19, mo_a20, mo_a18]
end M7
