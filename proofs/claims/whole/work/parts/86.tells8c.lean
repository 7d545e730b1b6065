section XO
variable {E : am_E} {d : Nat} {i ri : Nat → Int32} {j : Nat → Int64} {a rA : Nat → Nat → Int32} {W : Nat → Option Nat}
theorem xo_limits {g x y : Int32} (hc : CX i a ri rA) : ∃ i', CX i' a ri (liT rA g x y) ∧ am_D E (d + 9) tX8_limits [.ref 0, .int g, .int x, .int y] (am_L (xo i j a W)) 0 0 (some (.int (liQ g x y))) (am_L (xo i' j a W)) := by
  unfold liQ liT
  cases h : inB g 0 5 with
  | false =>
    refine ⟨i, hc, ?_⟩
    refine am_D_of (Nat.le_of_ble_eq_true rfl) ?_
    refine ev_go 999 rfl trivial ?_
    refine ev_call0 rfl (Nat.le_of_ble_eq_true rfl) (fun _ => ⟨_, _, _, rfl, rfl⟩) (xo_findGroup_no (d := d + 6) h) ?_
    refine ev_go 999 rfl trivial ?_
    refine ev_go 999 rfl trivial ?_
    exact ev_ret rfl trivial ⟨rfl, rfl⟩
  | true =>
  have hfg := xo_findGroup (E := E) (d := d + 6) (i := i) (j := j) (a := a) (W := W) h
  rw [if_pos rfl, Bool.true_and]
  cases h2 : inB x (-100000) 100000 with
  | false =>
    have hl : liC x y = false := by unfold liC; rw [h2]; rfl
    refine ⟨i, by rw [hl]; exact hc, ?_⟩
    rw [hl]
    refine am_D_of (Nat.le_of_ble_eq_true rfl) ?_
    refine ev_go 999 rfl trivial ?_
    refine ev_call0 rfl (Nat.le_of_ble_eq_true rfl) (fun _ => ⟨_, _, _, rfl, rfl⟩) hfg ?_
    refine ev_go 999 rfl trivial ?_
    refine ev_go 999 rfl trivial ?_
    refine ev_call0 rfl (Nat.le_of_ble_eq_true rfl) (fun z => by cases z) (x8_isWithin (d := d + 7) (v := x) (lo := -100000) (hi := 100000)) ?_
    rw [h2]
    refine ev_go 999 rfl trivial ?_
    first | refine ev_pos (by decide) ?_ | refine ev_neg (by decide) ?_
    refine ev_go 999 rfl trivial ?_
    exact ev_ret rfl trivial ⟨rfl, rfl⟩
  | true =>
  have hl : liC x y = inB y x 100000 := by
    unfold liC
    rw [h2, Bool.true_and]
    unfold inB at h2 ⊢
    rw [Bool.and_eq_true_iff] at h2
    have x1 := of_decide_eq_true h2.1
    rw [← Bool.decide_and, ← Bool.decide_and, ← Bool.decide_and]
    refine decide_eq_decide.mpr ?_
    rw [fa_le] at x1
    rw [fa_le, fa_le, fa_le]
    omega
  rw [hl]
  cases h3 : inB y x 100000 with
  | false =>
    refine ⟨i, hc, ?_⟩
    refine am_D_of (Nat.le_of_ble_eq_true rfl) ?_
    refine ev_go 999 rfl trivial ?_
    refine ev_call0 rfl (Nat.le_of_ble_eq_true rfl) (fun _ => ⟨_, _, _, rfl, rfl⟩) hfg ?_
    refine ev_go 999 rfl trivial ?_
    refine ev_go 999 rfl trivial ?_
    refine ev_call0 rfl (Nat.le_of_ble_eq_true rfl) (fun z => by cases z) (x8_isWithin (d := d + 7) (v := x) (lo := -100000) (hi := 100000)) ?_
    rw [h2]
    refine ev_go 999 rfl trivial ?_
    first | refine ev_pos (by decide) ?_ | refine ev_neg (by decide) ?_
    refine ev_go 999 rfl trivial ?_
    refine ev_call0 rfl (Nat.le_of_ble_eq_true rfl) (fun z => by cases z) (x8_isWithin (d := d + 7) (v := y) (lo := x) (hi := 100000)) ?_
    rw [h3]
    refine ev_go 999 rfl trivial ?_
    first | refine ev_pos (by decide) ?_ | refine ev_neg (by decide) ?_
    refine ev_go 999 rfl trivial ?_
    exact ev_ret rfl trivial ⟨rfl, rfl⟩
  | true =>
  rw [if_pos rfl, if_pos rfl]
  have hg := le0_in (N := 5) (by omega) h
  have gb := hg.2
  refine ⟨va_up (va_up i (21 + 3 * cl g) x) (22 + 3 * cl g) y, ?_, ?_⟩
  · obtain ⟨c1, c2, c3, c4, c5, c6, c7, c8, c9, c10, c11, c12, c13, c14⟩ := hc
    have o : ∀ p, p ≠ 21 + 3 * cl g → p ≠ 22 + 3 * cl g → va_up (va_up i (21 + 3 * cl g) x) (22 + 3 * cl g) y p = i p := fun p h1 h2 => by rw [va_n h2, va_n h1]
    refine ⟨by rw [o 0 (by omega) (by omega)]; exact c1, by rw [o 1 (by omega) (by omega)]; exact c2, by rw [o 2 (by omega) (by omega)]; exact c3, by rw [o 3 (by omega) (by omega)]; exact c4, by rw [o 4 (by omega) (by omega)]; exact c5, by rw [o 8 (by omega) (by omega)]; exact c6, fun g' hg' => ?_, c8, c9, c10, c11, c12, c13, c14⟩
    show _ ∧ _ = upd (rA 14) (cl g) x g' ∧ _ = upd (rA 15) (cl g) y g'
    unfold upd
    rw [o (20 + 3 * g') (by omega) (by omega)]
    by_cases z : g' = cl g
    · rw [z, if_pos rfl, if_pos rfl, va_s, va_n (by omega), va_s]
      exact ⟨(c7 _ (by omega)).1, rfl, rfl⟩
    · rw [if_neg z, if_neg z, o _ (by omega) (by omega), o _ (by omega) (by omega)]
      exact c7 g' hg'
  · refine am_D_of (Nat.le_of_ble_eq_true rfl) ?_
    refine ev_go 999 rfl trivial ?_
    refine ev_call0 rfl (Nat.le_of_ble_eq_true rfl) (fun _ => ⟨_, _, _, rfl, rfl⟩) hfg ?_
    refine ev_go 999 rfl trivial ?_
    refine ev_go 999 rfl trivial ?_
    refine ev_call0 rfl (Nat.le_of_ble_eq_true rfl) (fun z => by cases z) (x8_isWithin (d := d + 7) (v := x) (lo := -100000) (hi := 100000)) ?_
    rw [h2]
    refine ev_go 999 rfl trivial ?_
    first | refine ev_pos (by decide) ?_ | refine ev_neg (by decide) ?_
    refine ev_go 999 rfl trivial ?_
    refine ev_call0 rfl (Nat.le_of_ble_eq_true rfl) (fun z => by cases z) (x8_isWithin (d := d + 7) (v := y) (lo := x) (hi := 100000)) ?_
    rw [h3]
    refine ev_go 999 rfl trivial ?_
    first | refine ev_pos (by decide) ?_ | refine ev_neg (by decide) ?_
    obtain ⟨gg, hgg⟩ : ∃ gg, gg = cl g := ⟨_, rfl⟩
    rw [← hgg] at gb ⊢
    rcases (show gg = 0 ∨ gg = 1 ∨ gg = 2 ∨ gg = 3 ∨ gg = 4 ∨ gg = 5 by omega) with e | e | e | e | e | e <;> rw [e] <;> (
      refine ev_go 44 rfl trivial ?_
      refine ev_M (am_w_L (Nat.le_of_ble_eq_true rfl) _) ?_
      refine ev_go 999 rfl trivial ?_
      exact ev_ret rfl trivial ⟨rfl, (am_w_L (Nat.le_of_ble_eq_true rfl) _).trans rfl⟩)
theorem rk_in {x : Int32} (h : rkB x = true) : inB x 0 30 = true := by
  unfold rkB at h
  simp only [Bool.or_eq_true, decide_eq_true_eq] at h
  rcases h with (((e | e) | e) | e) | e <;> (subst e; decide)
theorem xo_rule {k w x y : Int32} (hE1 : E 1 = (5, fun j => am_HA.getD j 0)) (hE2 : E 2 = (5, fun j => am_HB.getD j 0)) (hc : CX i a ri rA) : ∃ a', CX i a' ri (ruT rA k w x y) ∧ am_D E (d + 9) tX8_rule [.ref 0, .int k, .int w, .int x, .int y] (am_L (xo i j a W)) 0 0 (some (.int (ruQ k w x y))) (am_L (xo i j a' W)) := by
  unfold ruQ ruT ruC
  cases h : inB k 0 7 with
  | false =>
    refine ⟨a, hc, ?_⟩
    refine am_D_of (Nat.le_of_ble_eq_true rfl) ?_
    refine ev_go 999 rfl trivial ?_
    refine ev_call0 rfl (Nat.le_of_ble_eq_true rfl) (fun _ => ⟨_, _, _, rfl, rfl⟩) (xo_findRules_no (d := d + 6) h) ?_
    refine ev_go 999 rfl trivial ?_
    refine ev_go 999 rfl trivial ?_
    exact ev_ret rfl trivial ⟨rfl, rfl⟩
  | true =>
  have hfr := xo_findRules (E := E) (d := d + 6) (i := i) (j := j) (a := a) (W := W) h
  rw [Bool.true_and]
  cases h2 : inB w 0 4 with
  | false =>
    refine ⟨a, hc, ?_⟩
    refine am_D_of (Nat.le_of_ble_eq_true rfl) ?_
    refine ev_go 999 rfl trivial ?_
    refine ev_call0 rfl (Nat.le_of_ble_eq_true rfl) (fun _ => ⟨_, _, _, rfl, rfl⟩) hfr ?_
    refine ev_go 999 rfl trivial ?_
    refine ev_go 999 rfl trivial ?_
    refine ev_call0 rfl (Nat.le_of_ble_eq_true rfl) (fun z => by cases z) (x8_isWithin (d := d + 7) (v := w) (lo := 0) (hi := 4)) ?_
    rw [h2]
    refine ev_go 999 rfl trivial ?_
    first | refine ev_pos (by decide) ?_ | refine ev_neg (by decide) ?_
    refine ev_go 999 rfl trivial ?_
    exact ev_ret rfl trivial ⟨rfl, rfl⟩
  | true =>
  rw [if_pos rfl, Bool.true_and]
  have hk := le0_in (N := 7) (by omega) h
  have hw := le0_in (N := 4) (by omega) h2
  have kb := hk.2
  have wb := hw.2
  have v5 : vp_in w 5 := by rw [hw.1]; exact vp_in_nI (by omega) (by omega)
  have va : vp_in w (E 1).1 := by rw [hE1]; exact v5
  have vb : vp_in w (E 2).1 := by rw [hE2]; exact v5
  obtain ⟨HA, hHA⟩ : ∃ HA, HA = am_HA.getD (cl w) 0 := ⟨_, rfl⟩
  have eA : (E 1).2 w.toNatClampNeg = HA := by rw [hE1, hHA]; rfl
  have eB : (E 2).2 w.toNatClampNeg = mostR (cl w) := by
    rw [hE2]
    show am_HB.getD (cl w) 0 = mostR (cl w)
    rcases (show cl w = 0 ∨ cl w = 1 ∨ cl w = 2 ∨ cl w = 3 ∨ cl w = 4 by omega) with e | e | e | e | e <;> rw [e] <;> rfl
  have hok : okR (cl w) x y = (inB x 0 HA && inB y 0 (mostR (cl w)) && (decide (¬ w = 0) || rkB x)) := by
    unfold okR
    rw [hHA]
    by_cases z : cl w = 0
    · have e0 : w = 0 := by rw [hw.1, z]; rfl
      rw [z, if_pos rfl, decide_eq_false (fun y => y e0), Bool.false_or]
      show (rkB x && inB y 0 (mostR 0)) = (inB x 0 30 && inB y 0 (mostR 0) && rkB x)
      cases hr : rkB x with
      | false => rw [Bool.false_and, Bool.and_false]
      | true => rw [rk_in hr, Bool.true_and, Bool.and_true]
    · have e0 : ¬ w = 0 := fun y => z (by rw [y]; rfl)
      rw [if_neg z, decide_eq_true e0, Bool.true_or, Bool.and_true]
      have e2 : am_HA.getD (cl w) 0 = 2880 := by rcases (show cl w = 1 ∨ cl w = 2 ∨ cl w = 3 ∨ cl w = 4 by omega) with e | e | e | e <;> rw [e] <;> rfl
      rw [e2]
  have A0 : ∀ {P : Option Value → am_M → Prop}, am_ev E (d + 8) tX8_rule (23, [some (.ref 0), some (.int k), some (.int w), some (.int x), some (.int y), some (.ref (38 + 3 * cl k))], [], am_L (xo i j a W), 0, 0) P → am_ev E (d + 8) tX8_rule (0, [some (.ref 0), some (.int k), some (.int w), some (.int x), some (.int y), none], [], am_L (xo i j a W), 0, 0) P := fun {P} kk => by
    refine ev_go 999 rfl trivial ?_
    refine ev_call0 rfl (Nat.le_of_ble_eq_true rfl) (fun _ => ⟨_, _, _, rfl, rfl⟩) hfr ?_
    refine ev_go 999 rfl trivial ?_
    refine ev_go 999 rfl trivial ?_
    refine ev_call0 rfl (Nat.le_of_ble_eq_true rfl) (fun z => by cases z) (x8_isWithin (d := d + 7) (v := w) (lo := 0) (hi := 4)) ?_
    rw [h2]
    refine ev_go 999 rfl trivial ?_
    first | refine ev_pos (by decide) ?_ | refine ev_neg (by decide) ?_
    exact kk
  rw [hok]
  have hA := x8_isWithin (E := E) (d := d + 7) (M := am_L (xo i j a W)) (v := x) (lo := 0) (hi := HA)
  have hB := x8_isWithin (E := E) (d := d + 7) (M := am_L (xo i j a W)) (v := y) (lo := 0) (hi := mostR (cl w))
  cases h3 : inB x 0 HA with
  | false =>
    refine ⟨a, hc, ?_⟩
    rw [h3, ← eA] at hA
    refine am_D_of (Nat.le_of_ble_eq_true rfl) ?_
    refine A0 ?_
    refine ev_go 999 rfl ⟨va, trivial⟩ ?_
    refine ev_call0 rfl (Nat.le_of_ble_eq_true rfl) (fun z => by cases z) hA ?_
    refine ev_go 999 rfl trivial ?_
    refine ev_pos (by decide) ?_
    refine ev_go 999 rfl trivial ?_
    exact ev_ret rfl trivial ⟨rfl, rfl⟩
  | true =>
  rw [h3, ← eA] at hA
  rw [Bool.true_and]
  cases h4 : inB y 0 (mostR (cl w)) with
  | false =>
    refine ⟨a, hc, ?_⟩
    rw [h4, ← eB] at hB
    refine am_D_of (Nat.le_of_ble_eq_true rfl) ?_
    refine A0 ?_
    refine ev_go 999 rfl ⟨va, trivial⟩ ?_
    refine ev_call0 rfl (Nat.le_of_ble_eq_true rfl) (fun z => by cases z) hA ?_
    refine ev_go 999 rfl trivial ?_
    refine ev_neg (by decide) ?_
    refine ev_go 999 rfl ⟨vb, trivial⟩ ?_
    refine ev_call0 rfl (Nat.le_of_ble_eq_true rfl) (fun z => by cases z) hB ?_
    refine ev_go 999 rfl trivial ?_
    refine ev_neg (by decide) ?_
    refine ev_go 999 rfl trivial ?_
    exact ev_ret rfl trivial ⟨rfl, rfl⟩
  | true =>
  rw [h4, ← eB] at hB
  rw [Bool.true_and]
  have A1 : ∀ {P : Option Value → am_M → Prop}, am_ev E (d + 8) tX8_rule (53, [some (.ref 0), some (.int k), some (.int w), some (.int x), some (.int y), some (.ref (38 + 3 * cl k))], [], am_L (xo i j a W), 0, 0) P → am_ev E (d + 8) tX8_rule (0, [some (.ref 0), some (.int k), some (.int w), some (.int x), some (.int y), none], [], am_L (xo i j a W), 0, 0) P := fun {P} kk => by
    refine A0 ?_
    refine ev_go 999 rfl ⟨va, trivial⟩ ?_
    refine ev_call0 rfl (Nat.le_of_ble_eq_true rfl) (fun z => by cases z) hA ?_
    refine ev_go 999 rfl trivial ?_
    refine ev_neg (by decide) ?_
    refine ev_go 999 rfl ⟨vb, trivial⟩ ?_
    refine ev_call0 rfl (Nat.le_of_ble_eq_true rfl) (fun z => by cases z) hB ?_
    refine ev_go 999 rfl trivial ?_
    refine ev_pos (by decide) ?_
    exact kk
  cases h5 : (decide (¬ w = 0) || rkB x) with
  | false =>
    refine ⟨a, hc, ?_⟩
    have w0 : w = 0 := Classical.not_not.mp (of_decide_eq_false (Bool.or_eq_false_iff.mp h5).1)
    have hr := (Bool.or_eq_false_iff.mp h5).2
    refine am_D_of (Nat.le_of_ble_eq_true rfl) ?_
    refine A1 ?_
    refine ev_go 999 rfl trivial ?_
    refine ev_neg (by rw [w0]; decide) ?_
    refine ev_go 999 rfl trivial ?_
    refine ev_call0 rfl (Nat.le_of_ble_eq_true rfl) (fun z => by cases z) (x8_isRoundStep (d := d + 7) (x := x)) ?_
    rw [hr]
    refine ev_go 999 rfl trivial ?_
    first | refine ev_pos (by decide) ?_ | refine ev_neg (by decide) ?_
    refine ev_go 999 rfl trivial ?_
    exact ev_ret rfl trivial ⟨rfl, rfl⟩
  | true =>
  rw [if_pos rfl, if_pos rfl]
  refine ⟨va_up (va_up a (39 + 3 * cl k) (upd (a (39 + 3 * cl k)) (cl w) x)) (40 + 3 * cl k) (upd (a (40 + 3 * cl k)) (cl w) y), ?_, ?_⟩
  · obtain ⟨c1, c2, c3, c4, c5, c6, c7, c8, c9, c10, c11, c12, c13, c14⟩ := hc
    have o : ∀ p, p ≠ 39 + 3 * cl k → p ≠ 40 + 3 * cl k → va_up (va_up a (39 + 3 * cl k) (upd (a (39 + 3 * cl k)) (cl w) x)) (40 + 3 * cl k) (upd (a (40 + 3 * cl k)) (cl w) y) p = a p := fun p h1 h2 => by rw [va_n h2, va_n h1]
    refine ⟨c1, c2, c3, c4, c5, c6, c7, fun g' k' hg' hk' => ?_, fun g' k' hg' hk' => ?_, ?_, fun q r hq hr => ?_, ?_, ?_, ?_⟩
    · rw [o _ (by omega) (by omega)]; exact c8 g' k' hg' hk'
    · rw [o _ (by omega) (by omega)]; exact c9 g' k' hg' hk'
    · rw [o 1 (by omega) (by omega)]; exact c10
    · show _ = upd (rA 3) (5 * cl k + cl w) x (5 * q + r) ∧ _ = upd (rA 4) (5 * cl k + cl w) y (5 * q + r)
      by_cases z : q = cl k
      · rw [z, va_n (by omega), va_s, va_s]
        unfold upd
        by_cases u : r = cl w
        · rw [if_pos u, if_pos u, if_pos (by omega), if_pos (by omega)]; exact ⟨rfl, rfl⟩
        · rw [if_neg u, if_neg u, if_neg (by omega), if_neg (by omega)]; exact c11 _ _ (by omega) hr
      · rw [o _ (by omega) (by omega), o _ (by omega) (by omega)]
        unfold upd
        rw [if_neg (by omega), if_neg (by omega)]
        exact c11 q r hq hr
    · rw [o 5 (by omega) (by omega), o 6 (by omega) (by omega), o 7 (by omega) (by omega)]; exact c12
    · rw [o 9 (by omega) (by omega), o 10 (by omega) (by omega), o 11 (by omega) (by omega), o 12 (by omega) (by omega)]; exact c13
    · rw [o 13 (by omega) (by omega)]; exact c14
  · refine am_D_of (Nat.le_of_ble_eq_true rfl) ?_
    refine A1 ?_
    have fin : am_ev E (d + 8) tX8_rule (67, [some (.ref 0), some (.int k), some (.int w), some (.int x), some (.int y), some (.ref (38 + 3 * cl k))], [], am_L (xo i j a W), 0, 0) (fun v' M'' => v' = some (.int 0) ∧ M'' = am_L (xo i j (va_up (va_up a (39 + 3 * cl k) (upd (a (39 + 3 * cl k)) (cl w) x)) (40 + 3 * cl k) (upd (a (40 + 3 * cl k)) (cl w) y)) W)) := by
      obtain ⟨kk, hkk⟩ : ∃ kk, kk = cl k := ⟨_, rfl⟩
      rw [← hkk] at kb ⊢
      rcases (show kk = 0 ∨ kk = 1 ∨ kk = 2 ∨ kk = 3 ∨ kk = 4 ∨ kk = 5 ∨ kk = 6 ∨ kk = 7 by omega) with e | e | e | e | e | e | e | e <;> rw [e] <;> (
        refine ev_go 75 rfl ⟨v5, trivial⟩ ?_
        refine ev_M (am_w_L (Nat.le_of_ble_eq_true rfl) _) ?_
        refine ev_go 999 rfl ⟨v5, trivial⟩ ?_
        exact ev_ret rfl trivial ⟨rfl, (am_w_L (Nat.le_of_ble_eq_true rfl) _).trans rfl⟩)
    refine ev_go 999 rfl trivial ?_
    by_cases w0 : w = 0
    · refine ev_neg (by rw [w0]; decide) ?_
      have hr : rkB x = true := by
        rw [decide_eq_false (fun z => z w0), Bool.false_or] at h5
        exact h5
      refine ev_go 999 rfl trivial ?_
      refine ev_call0 rfl (Nat.le_of_ble_eq_true rfl) (fun z => by cases z) (x8_isRoundStep (d := d + 7) (x := x)) ?_
      rw [hr]
      refine ev_go 999 rfl trivial ?_
      first | refine ev_pos (by decide) ?_ | refine ev_neg (by decide) ?_
      exact fin
    · refine ev_pos w0 ?_
      exact fin
end XO
