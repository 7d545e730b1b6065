/-! What the class answers of a worker. -/
abbrev XH (E : am_E) (i : Nat → Int32) (a : Nat → Nat → Int32) (b : Nat → Nat → Int64) (W : Nat → Option Nat) (ri : Nat → Int32) (rA : Nat → Nat → Int32) (rb : Nat → Nat → Int64) (w : Int32) : Prop := (E 3 = (37, fun j => am_MS.getD j 0)) ∧ (INV ri rA) ∧ (CX i a ri rA) ∧ (CW i a b rA rb (cl w)) ∧ (inB w 0 (ri 19 - 1) = true) ∧ (W (cl w) = some 62)
theorem XH.e {E : am_E} {i : Nat → Int32} {a : Nat → Nat → Int32} {b : Nat → Nat → Int64} {W : Nat → Option Nat} {ri : Nat → Int32} {rA : Nat → Nat → Int32} {rb : Nat → Nat → Int64} {w : Int32} (h : XH E i a b W ri rA rb w) : E 3 = (37, fun j => am_MS.getD j 0) := h.1
theorem XH.inv {E : am_E} {i : Nat → Int32} {a : Nat → Nat → Int32} {b : Nat → Nat → Int64} {W : Nat → Option Nat} {ri : Nat → Int32} {rA : Nat → Nat → Int32} {rb : Nat → Nat → Int64} {w : Int32} (h : XH E i a b W ri rA rb w) : INV ri rA := h.2.1
theorem XH.cx {E : am_E} {i : Nat → Int32} {a : Nat → Nat → Int32} {b : Nat → Nat → Int64} {W : Nat → Option Nat} {ri : Nat → Int32} {rA : Nat → Nat → Int32} {rb : Nat → Nat → Int64} {w : Int32} (h : XH E i a b W ri rA rb w) : CX i a ri rA := h.2.2.1
theorem XH.cw {E : am_E} {i : Nat → Int32} {a : Nat → Nat → Int32} {b : Nat → Nat → Int64} {W : Nat → Option Nat} {ri : Nat → Int32} {rA : Nat → Nat → Int32} {rb : Nat → Nat → Int64} {w : Int32} (h : XH E i a b W ri rA rb w) : CW i a b rA rb (cl w) := h.2.2.2.1
theorem XH.ok {E : am_E} {i : Nat → Int32} {a : Nat → Nat → Int32} {b : Nat → Nat → Int64} {W : Nat → Option Nat} {ri : Nat → Int32} {rA : Nat → Nat → Int32} {rb : Nat → Nat → Int64} {w : Int32} (h : XH E i a b W ri rA rb w) : inB w 0 (ri 19 - 1) = true := h.2.2.2.2.1
theorem XH.wo {E : am_E} {i : Nat → Int32} {a : Nat → Nat → Int32} {b : Nat → Nat → Int64} {W : Nat → Option Nat} {ri : Nat → Int32} {rA : Nat → Nat → Int32} {rb : Nat → Nat → Int64} {w : Int32} (h : XH E i a b W ri rA rb w) : W (cl w) = some 62 := h.2.2.2.2.2
section X8
variable {E : am_E} {d : Nat} {i ri : Nat → Int32} {j : Nat → Int64} {a rA : Nat → Nat → Int32} {b rb : Nat → Nat → Int64} {W : Nat → Option Nat} {g : Nat} {w : Int32}
theorem XH.w30 (h : XH E i a b W ri rA rb w) : cl w < 30 := (h.inv.wIn h.ok).2.1
theorem x8_findWorker (h : XH E i a b W ri rA rb w) : am_D E (d + 1) tX8_findWorker [.ref 0, .int w] (am_L (xw i j a b W g)) 0 0 (some (.ref 62)) (am_L (xw i j a b W g)) := by
  obtain ⟨w1, w2, w3⟩ := h.inv.wIn h.ok
  have h19 := h.inv.w19
  have h19b := h19.2
  have e1 : i 1 = nI (cl (ri 19)) := by rw [h.cx.i1]; exact h19.1
  have v : vp_in w 30 := by rw [w1]; exact vp_in_nI w2 (by omega)
  refine am_D_of (Nat.le_of_ble_eq_true rfl) ?_
  refine ev_go 999 rfl trivial ?_
  refine ev_neg (by show ¬ w < 0; rw [w1]; exact nI_pos (by omega)) ?_
  refine ev_go 999 rfl trivial ?_
  refine ev_neg (by show ¬ i 1 ≤ w; rw [e1, w1]; exact nI_ge w3 (by omega)) ?_
  refine ev_go 999 rfl trivial ?_
  refine ev_aa (v := .ref 62) rfl rfl (by omega) (by omega) v (by show va_rf (W (cl w)) = .ref 62; rw [h.wo]; rfl) ?_
  refine ev_go 999 rfl trivial ?_
  exact ev_ret rfl trivial ⟨rfl, rfl⟩
theorem x8_classAt {G : Nat → Int32} {m : Nat} (hG : SR i a G) (hm : m < 2880) : am_D E (d + 1) tX4_classAt [.ref 15, .int (nI m)] (am_L (xw i j a b W g)) 0 0 (some (.int (G m))) (am_L (xw i j a b W g)) := by
  obtain ⟨z, f, t, c, hz, hR, hr⟩ := hG
  have h := x4_classAt (E := E) (d := d) (X := []) (m := m) hR hr hm
  rw [← hz] at h
  exact lift_sh0 h
theorem x8_minute_pre {P : Option Value → am_M → Prop} {day m : Int32} (h : XH E i a b W ri rA rb w) (no : ∀ M L, (inB m 0 2879 && okL ri w day) = false → M = am_L (xw i j a b W g) → am_ev E (d + 9) tX8_minute (30, L, [], M, 0, 0) P) (yes : inB day 0 1095 = true → inB m 0 2879 = true → am_ev E (d + 9) tX8_minute (30 + 2, [some (.ref 0), some (.int w), some (.int day), some (.int m), some (.ref 62)], [], am_L (xw i j a b W g), 0, 0) P) : am_ev E (d + 9) tX8_minute (0, [some (.ref 0), some (.int w), some (.int day), some (.int m), none], [], am_L (xw i j a b W g), 0, 0) P := by
  refine ev_go 999 rfl trivial ?_
  refine ev_call0 rfl (Nat.le_of_ble_eq_true rfl) (fun _ => ⟨_, _, _, rfl, rfl⟩) (x8_findWorker (d := d + 8) h) ?_
  refine ev_go 999 rfl trivial ?_
  cases h2 : inB day 0 1095 with
  | false =>
    refine ev_go 999 rfl trivial ?_
    refine ev_call0 rfl (Nat.le_of_ble_eq_true rfl) (fun z => by cases z) (x8_isDay (d := d + 7) (v := day)) ?_
    rw [h2]
    refine ev_go 999 rfl trivial ?_
    first | refine ev_pos (by decide) ?_ | refine ev_neg (by decide) ?_
    exact no _ _ (by unfold okL; rw [h2, Bool.and_false, Bool.and_false]) rfl
  | true =>
    refine ev_go 999 rfl trivial ?_
    refine ev_call0 rfl (Nat.le_of_ble_eq_true rfl) (fun z => by cases z) (x8_isDay (d := d + 7) (v := day)) ?_
    rw [h2]
    refine ev_go 999 rfl trivial ?_
    first | refine ev_pos (by decide) ?_ | refine ev_neg (by decide) ?_
    cases h3 : inB m 0 2879 with
    | false =>
      refine ev_go 999 rfl trivial ?_
      refine ev_call0 rfl (Nat.le_of_ble_eq_true rfl) (fun z => by cases z) (x8_isWithin (d := d + 8) (v := m) (lo := 0) (hi := 2879)) ?_
      rw [h3]
      refine ev_go 999 rfl trivial ?_
      first | refine ev_pos (by decide) ?_ | refine ev_neg (by decide) ?_
      exact no _ _ (by rw [h3, Bool.false_and]) rfl
    | true =>
      refine ev_go 999 rfl trivial ?_
      refine ev_call0 rfl (Nat.le_of_ble_eq_true rfl) (fun z => by cases z) (x8_isWithin (d := d + 8) (v := m) (lo := 0) (hi := 2879)) ?_
      rw [h3]
      refine ev_go 999 rfl trivial ?_
      first | refine ev_pos (by decide) ?_ | refine ev_neg (by decide) ?_
      exact yes h2 h3
theorem x8_minutes_pre {P : Option Value → am_M → Prop} {day m : Int32} (h : XH E i a b W ri rA rb w) (no : ∀ M L, (inB m 0 7 && okL ri w day) = false → M = am_L (xw i j a b W g) → am_ev E (d + 9) tX8_minutes (29, L, [], M, 0, 0) P) (yes : inB day 0 1095 = true → inB m 0 7 = true → am_ev E (d + 9) tX8_minutes (29 + 2, [some (.ref 0), some (.int w), some (.int day), some (.int m), some (.ref 62)], [], am_L (xw i j a b W g), 0, 0) P) : am_ev E (d + 9) tX8_minutes (0, [some (.ref 0), some (.int w), some (.int day), some (.int m), none], [], am_L (xw i j a b W g), 0, 0) P := by
  refine ev_go 999 rfl trivial ?_
  refine ev_call0 rfl (Nat.le_of_ble_eq_true rfl) (fun _ => ⟨_, _, _, rfl, rfl⟩) (x8_findWorker (d := d + 8) h) ?_
  refine ev_go 999 rfl trivial ?_
  cases h2 : inB day 0 1095 with
  | false =>
    refine ev_go 999 rfl trivial ?_
    refine ev_call0 rfl (Nat.le_of_ble_eq_true rfl) (fun z => by cases z) (x8_isDay (d := d + 7) (v := day)) ?_
    rw [h2]
    refine ev_go 999 rfl trivial ?_
    first | refine ev_pos (by decide) ?_ | refine ev_neg (by decide) ?_
    exact no _ _ (by unfold okL; rw [h2, Bool.and_false, Bool.and_false]) rfl
  | true =>
    refine ev_go 999 rfl trivial ?_
    refine ev_call0 rfl (Nat.le_of_ble_eq_true rfl) (fun z => by cases z) (x8_isDay (d := d + 7) (v := day)) ?_
    rw [h2]
    refine ev_go 999 rfl trivial ?_
    first | refine ev_pos (by decide) ?_ | refine ev_neg (by decide) ?_
    cases h3 : inB m 0 7 with
    | false =>
      refine ev_go 999 rfl trivial ?_
      refine ev_call0 rfl (Nat.le_of_ble_eq_true rfl) (fun z => by cases z) (x8_isWithin (d := d + 8) (v := m) (lo := 0) (hi := 7)) ?_
      rw [h3]
      refine ev_go 999 rfl trivial ?_
      first | refine ev_pos (by decide) ?_ | refine ev_neg (by decide) ?_
      exact no _ _ (by rw [h3, Bool.false_and]) rfl
    | true =>
      refine ev_go 999 rfl trivial ?_
      refine ev_call0 rfl (Nat.le_of_ble_eq_true rfl) (fun z => by cases z) (x8_isWithin (d := d + 8) (v := m) (lo := 0) (hi := 7)) ?_
      rw [h3]
      refine ev_go 999 rfl trivial ?_
      first | refine ev_pos (by decide) ?_ | refine ev_neg (by decide) ?_
      exact yes h2 h3
theorem x8_why_pre {P : Option Value → am_M → Prop} {day m : Int32} (h : XH E i a b W ri rA rb w) (no : ∀ M L, (inB m 0 4 && okL ri w day) = false → M = am_L (xw i j a b W g) → am_ev E (d + 9) tX8_why (28, L, [], M, 0, 0) P) (yes : inB day 0 1095 = true → inB m 0 4 = true → am_ev E (d + 9) tX8_why (28 + 2, [some (.ref 0), some (.int w), some (.int day), some (.int m), some (.ref 62)], [], am_L (xw i j a b W g), 0, 0) P) : am_ev E (d + 9) tX8_why (0, [some (.ref 0), some (.int w), some (.int day), some (.int m), none], [], am_L (xw i j a b W g), 0, 0) P := by
  refine ev_go 999 rfl trivial ?_
  refine ev_call0 rfl (Nat.le_of_ble_eq_true rfl) (fun _ => ⟨_, _, _, rfl, rfl⟩) (x8_findWorker (d := d + 8) h) ?_
  refine ev_go 999 rfl trivial ?_
  cases h2 : inB day 0 1095 with
  | false =>
    refine ev_go 999 rfl trivial ?_
    refine ev_call0 rfl (Nat.le_of_ble_eq_true rfl) (fun z => by cases z) (x8_isDay (d := d + 7) (v := day)) ?_
    rw [h2]
    refine ev_go 999 rfl trivial ?_
    first | refine ev_pos (by decide) ?_ | refine ev_neg (by decide) ?_
    exact no _ _ (by unfold okL; rw [h2, Bool.and_false, Bool.and_false]) rfl
  | true =>
    refine ev_go 999 rfl trivial ?_
    refine ev_call0 rfl (Nat.le_of_ble_eq_true rfl) (fun z => by cases z) (x8_isDay (d := d + 7) (v := day)) ?_
    rw [h2]
    refine ev_go 999 rfl trivial ?_
    first | refine ev_pos (by decide) ?_ | refine ev_neg (by decide) ?_
    cases h3 : inB m 0 4 with
    | false =>
      refine ev_go 999 rfl trivial ?_
      refine ev_call0 rfl (Nat.le_of_ble_eq_true rfl) (fun z => by cases z) (x8_isWithin (d := d + 8) (v := m) (lo := 0) (hi := 4)) ?_
      rw [h3]
      refine ev_go 999 rfl trivial ?_
      first | refine ev_pos (by decide) ?_ | refine ev_neg (by decide) ?_
      exact no _ _ (by rw [h3, Bool.false_and]) rfl
    | true =>
      refine ev_go 999 rfl trivial ?_
      refine ev_call0 rfl (Nat.le_of_ble_eq_true rfl) (fun z => by cases z) (x8_isWithin (d := d + 8) (v := m) (lo := 0) (hi := 4)) ?_
      rw [h3]
      refine ev_go 999 rfl trivial ?_
      first | refine ev_pos (by decide) ?_ | refine ev_neg (by decide) ?_
      exact yes h2 h3
theorem ok_t {m day : Int32} {hi : Int32} (h : XH E i a b W ri rA rb w) (h2 : inB day 0 1095 = true) (h3 : inB m 0 hi = true) : (inB m 0 hi && okL ri w day) = true := by
  unfold okL
  rw [h2, h3, h.ok]
  rfl
theorem x8_minute {day m : Int32} (h : XH E i a b W ri rA rb w) : ∃ i' j' a', Sx i i' a a' ∧ am_D E (d + 10) tX8_minute [.ref 0, .int w, .int day, .int m] (am_L (xw i j a b W (gA rA (cl w)))) 0 0 (some (.int (minQ ri rA w day m))) (am_L (xw i' j' a' b W (gA rA (cl w)))) := by
  obtain ⟨P, hP⟩ : ∃ P : Option Value → am_M → Prop, P = fun v M => v = some (.int (minQ ri rA w day m)) ∧ ∃ i' j' a', Sx i i' a a' ∧ M = am_L (xw i' j' a' b W (gA rA (cl w))) := ⟨_, rfl⟩
  have main : am_ev E (d + 9) tX8_minute (0, am_in [.ref 0, .int w, .int day, .int m] tX8_minute.2.2.2.1, [], am_L (xw i j a b W (gA rA (cl w))), 0, 0) P := by
    refine x8_minute_pre h (fun M L hno hM => ?_) (fun h2 h3 => ?_)
    · refine ev_go 999 rfl trivial ?_
      refine ev_ret rfl trivial ?_
      rw [hP]
      refine ⟨?_, i, j, a, Sx.rf, hM⟩
      unfold minQ
      rw [hno]
      rfl
    · obtain ⟨d1, d2⟩ := dIn h2
      have m1 := le0_in (N := 2879) (by omega) h3
      have mb := m1.2
      obtain ⟨i1, a1, sx, sr, hF⟩ := x8_fillSheet (E := E) (d := d + 4) (i := i) (j := j) (a := a) (W := W) (day := cl day) h.w30 d2 h.cx h.cw h.inv
      rw [← d1] at hF
      have hcl := x8_classAt (E := E) (d := d + 8) (j := j) (b := b) (W := W) (g := gA rA (cl w)) (m := cl m) sr (by omega)
      rw [← m1.1] at hcl
      refine ev_go 999 rfl trivial ?_
      refine ev_call0 rfl (Nat.le_of_ble_eq_true rfl) (fun _ => ⟨_, _, _, rfl, rfl⟩) hF ?_
      refine ev_go 999 rfl trivial ?_
      refine ev_call0 rfl (Nat.le_of_ble_eq_true rfl) (fun _ => ⟨_, _, _, rfl, rfl⟩) hcl ?_
      refine ev_ret rfl trivial ?_
      rw [hP]
      refine ⟨?_, i1, j, a1, sx, rfl⟩
      unfold minQ
      rw [ok_t h h2 h3, if_pos rfl]
  obtain ⟨v, M', hv, hD2⟩ := am_D_ex (Nat.le_of_ble_eq_true rfl) main
  rw [hP] at hv
  obtain ⟨rfl, i', j', a', h1, rfl⟩ := hv
  exact ⟨i', j', a', h1, hD2⟩
theorem x8_minutes {day m : Int32} (h : XH E i a b W ri rA rb w) : ∃ i' j' a', Sx i i' a a' ∧ am_D E (d + 10) tX8_minutes [.ref 0, .int w, .int day, .int m] (am_L (xw i j a b W (gA rA (cl w)))) 0 0 (some (.int (minsQ ri rA w day m))) (am_L (xw i' j' a' b W (gA rA (cl w)))) := by
  obtain ⟨P, hP⟩ : ∃ P : Option Value → am_M → Prop, P = fun v M => v = some (.int (minsQ ri rA w day m)) ∧ ∃ i' j' a', Sx i i' a a' ∧ M = am_L (xw i' j' a' b W (gA rA (cl w))) := ⟨_, rfl⟩
  have main : am_ev E (d + 9) tX8_minutes (0, am_in [.ref 0, .int w, .int day, .int m] tX8_minutes.2.2.2.1, [], am_L (xw i j a b W (gA rA (cl w))), 0, 0) P := by
    refine x8_minutes_pre h (fun M L hno hM => ?_) (fun h2 h3 => ?_)
    · refine ev_go 999 rfl trivial ?_
      refine ev_ret rfl trivial ?_
      rw [hP]
      refine ⟨?_, i, j, a, Sx.rf, hM⟩
      unfold minsQ
      rw [hno]
      rfl
    · obtain ⟨d1, d2⟩ := dIn h2
      have m1 := le0_in (N := 7) (by omega) h3
      have mb := m1.2
      obtain ⟨i1, a1, sx, sr, hF⟩ := x8_fillSheet (E := E) (d := d + 4) (i := i) (j := j) (a := a) (W := W) (day := cl day) h.w30 d2 h.cx h.cw h.inv
      rw [← d1] at hF
      refine ev_go 999 rfl trivial ?_
      refine ev_call0 rfl (Nat.le_of_ble_eq_true rfl) (fun _ => ⟨_, _, _, rfl, rfl⟩) hF ?_
      refine ev_go 999 rfl trivial ?_
      refine ev_if (fun h => ?_) (fun h => ?_)
      · have hm0 : ¬ m = 0 := h
        have hc0 : 1 ≤ cl m := by
          rcases Nat.eq_zero_or_pos (cl m) with z | z
          · exact absurd (by rw [m1.1, z]; rfl) hm0
          · exact z
        have ham := x8_amount67 (E := E) (d := d + 8) (j := j) (b := b) (W := W) (g := gA rA (cl w)) (lo := cl m) (hi := cl m) sr hc0 (by omega) (by omega)
        rw [sr.one (by omega), ← m1.1] at ham
        refine ev_go 999 rfl trivial ?_
        refine ev_call0 rfl (Nat.le_of_ble_eq_true rfl) (fun _ => ⟨_, _, _, rfl, rfl⟩) ham ?_
        refine ev_ret rfl trivial ?_
        rw [hP]
        refine ⟨?_, i1, j, a1, sx, rfl⟩
        unfold minsQ
        rw [ok_t ‹XH E i a b W ri rA rb w› h2 h3, if_pos rfl, if_neg hm0]
      · have hm0 : ¬ ¬ m = 0 := h
        have ham := x8_amount67 (E := E) (d := d + 8) (j := j) (b := b) (W := W) (g := gA rA (cl w)) (lo := 6) (hi := 7) sr (by omega) (by omega) (by omega)
        rw [sr.up (by omega), cntF_6] at ham
        refine ev_go 999 rfl trivial ?_
        refine ev_call0 rfl (Nat.le_of_ble_eq_true rfl) (fun _ => ⟨_, _, _, rfl, rfl⟩) ham ?_
        refine ev_go 999 rfl trivial ?_
        refine ev_ret rfl trivial ?_
        rw [hP]
        refine ⟨?_, i1, j, a1, sx, rfl⟩
        unfold minsQ
        rw [ok_t ‹XH E i a b W ri rA rb w› h2 h3, if_pos rfl, if_pos (Classical.not_not.mp hm0)]
        rfl
  obtain ⟨v, M', hv, hD2⟩ := am_D_ex (Nat.le_of_ble_eq_true rfl) main
  rw [hP] at hv
  obtain ⟨rfl, i', j', a', h1, rfl⟩ := hv
  exact ⟨i', j', a', h1, hD2⟩
theorem x8_why {day m : Int32} (h : XH E i a b W ri rA rb w) : ∃ i' j' a', Sx i i' a a' ∧ am_D E (d + 10) tX8_why [.ref 0, .int w, .int day, .int m] (am_L (xw i j a b W (gA rA (cl w)))) 0 0 (some (.int (whyQ ri rA w day m))) (am_L (xw i' j' a' b W (gA rA (cl w)))) := by
  obtain ⟨P, hP⟩ : ∃ P : Option Value → am_M → Prop, P = fun v M => v = some (.int (whyQ ri rA w day m)) ∧ ∃ i' j' a', Sx i i' a a' ∧ M = am_L (xw i' j' a' b W (gA rA (cl w))) := ⟨_, rfl⟩
  have main : am_ev E (d + 9) tX8_why (0, am_in [.ref 0, .int w, .int day, .int m] tX8_why.2.2.2.1, [], am_L (xw i j a b W (gA rA (cl w))), 0, 0) P := by
    refine x8_why_pre h (fun M L hno hM => ?_) (fun h2 h3 => ?_)
    · refine ev_go 999 rfl trivial ?_
      refine ev_ret rfl trivial ?_
      rw [hP]
      refine ⟨?_, i, j, a, Sx.rf, hM⟩
      unfold whyQ
      rw [hno]
      rfl
    · obtain ⟨d1, d2⟩ := dIn h2
      have m1 := le0_in (N := 4) (by omega) h3
      have mb := m1.2
      obtain ⟨i1, a1, sx, sr, hF⟩ := x8_fillSheet (E := E) (d := d + 4) (i := i) (j := j) (a := a) (W := W) (day := cl day) h.w30 d2 h.cx h.cw h.inv
      rw [← d1] at hF
      have ham := x8_amount67 (E := E) (d := d + 8) (j := j) (b := b) (W := W) (g := gA rA (cl w)) (lo := cl m + 2) (hi := 7) sr (by omega) (by omega) (by omega)
      have em : nI (cl m + 2) = Int32.ofInt 2 + m := by
        rw [Nat.add_comm, ← nI_add, ← m1.1]
        rfl
      rw [sr.up (by omega), em] at ham
      refine ev_go 999 rfl trivial ?_
      refine ev_call0 rfl (Nat.le_of_ble_eq_true rfl) (fun _ => ⟨_, _, _, rfl, rfl⟩) hF ?_
      refine ev_go 999 rfl trivial ?_
      refine ev_call0 rfl (Nat.le_of_ble_eq_true rfl) (fun _ => ⟨_, _, _, rfl, rfl⟩) ham ?_
      refine ev_ret rfl trivial ?_
      rw [hP]
      refine ⟨?_, i1, j, a1, sx, rfl⟩
      unfold whyQ
      rw [ok_t h h2 h3, if_pos rfl]
  obtain ⟨v, M', hv, hD2⟩ := am_D_ex (Nat.le_of_ble_eq_true rfl) main
  rw [hP] at hv
  obtain ⟨rfl, i', j', a', h1, rfl⟩ := hv
  exact ⟨i', j', a', h1, hD2⟩
theorem x8_cents {day : Int32} (h : XH E i a b W ri rA rb w) : ∃ i' j' a', Sx i i' a a' ∧ am_D E (d + 10) tX8_cents [.ref 0, .int w, .int day] (am_L (xw i j a b W (gA rA (cl w)))) 0 0 (some (.long (centQ ri rA w day))) (am_L (xw i' j' a' b W (gA rA (cl w)))) := by
  unfold centQ okL
  rw [h.ok, Bool.true_and]
  cases h2 : inB day 0 1095 with
  | false =>
    refine ⟨i, j, a, Sx.rf, ?_⟩
    rw [if_neg (by decide)]
    refine am_D_of (Nat.le_of_ble_eq_true rfl) ?_
    refine ev_go 999 rfl trivial ?_
    refine ev_call0 rfl (Nat.le_of_ble_eq_true rfl) (fun _ => ⟨_, _, _, rfl, rfl⟩) (x8_findWorker (d := d + 8) h) ?_
    refine ev_go 999 rfl trivial ?_
    refine ev_go 999 rfl trivial ?_
    refine ev_call0 rfl (Nat.le_of_ble_eq_true rfl) (fun z => by cases z) (x8_isDay (d := d + 7) (v := day)) ?_
    rw [h2]
    refine ev_go 999 rfl trivial ?_
    first | refine ev_pos (by decide) ?_ | refine ev_neg (by decide) ?_
    refine ev_go 999 rfl trivial ?_
    exact ev_ret rfl trivial ⟨rfl, rfl⟩
  | true =>
    obtain ⟨d1, d2⟩ := dIn h2
    obtain ⟨i1, a1, sx, sr, hF⟩ := x8_fillSheet (E := E) (d := d + 4) (i := i) (j := j) (a := a) (W := W) (day := cl day) h.w30 d2 h.cx h.cw h.inv
    have hpy := x8_payOfSheet (E := E) (d := d + 5) (i := i1) (j := j) (a := a1) (b := b) (W := W) (g := gA rA (cl w)) (h := gA rA (cl w)) (day := cl day) (h.inv.gl h.w30) d2 (sx.cx h.cx) h.inv sr
    have hce : centsN (payN (dA rA (cl w) (cl day)) (rbA rA (kdA rA (gA rA (cl w)) (cl day)) 4) (exA rA (kdA rA (gA rA (cl w)) (cl day)) (cl (ri 15)) (pA rA)) 2880 * rtA ri rA (gA rA (cl w)) (cl day)) = centA ri rA (cl w) (cl day) := rfl
    rw [hce, ← d1] at hpy
    rw [← d1] at hF
    refine ⟨i1, j, a1, sx, ?_⟩
    rw [if_pos rfl]
    refine am_D_of (Nat.le_of_ble_eq_true rfl) ?_
    refine ev_go 999 rfl trivial ?_
    refine ev_call0 rfl (Nat.le_of_ble_eq_true rfl) (fun _ => ⟨_, _, _, rfl, rfl⟩) (x8_findWorker (d := d + 8) h) ?_
    refine ev_go 999 rfl trivial ?_
    refine ev_go 999 rfl trivial ?_
    refine ev_call0 rfl (Nat.le_of_ble_eq_true rfl) (fun z => by cases z) (x8_isDay (d := d + 7) (v := day)) ?_
    rw [h2]
    refine ev_go 999 rfl trivial ?_
    first | refine ev_pos (by decide) ?_ | refine ev_neg (by decide) ?_
    refine ev_go 999 rfl trivial ?_
    refine ev_call0 rfl (Nat.le_of_ble_eq_true rfl) (fun _ => ⟨_, _, _, rfl, rfl⟩) hF ?_
    refine ev_go 999 rfl trivial ?_
    refine ev_call0 rfl (Nat.le_of_ble_eq_true rfl) (fun _ => ⟨_, _, _, rfl, rfl⟩) hpy ?_
    exact ev_ret rfl trivial ⟨rfl, rfl⟩
theorem x8_due {day : Int32} (h : XH E i a b W ri rA rb w) : am_D E (d + 10) tX8_due [.ref 0, .int w, .int day] (am_L (xw i j a b W (gA rA (cl w)))) 0 0 (some (.int (dueQ ri rA w day))) (am_L (xw i j a b W (gA rA (cl w)))) := by
  unfold dueQ
  rw [h.ok, Bool.true_and]
  refine am_D_of (Nat.le_of_ble_eq_true rfl) ?_
  refine ev_go 999 rfl trivial ?_
  refine ev_call0 rfl (Nat.le_of_ble_eq_true rfl) (fun _ => ⟨_, _, _, rfl, rfl⟩) (x8_findWorker (d := d + 8) h) ?_
  refine ev_go 999 rfl trivial ?_
  cases h2 : inB day 0 1095 with
  | false =>
    rw [if_neg (by decide)]
    refine ev_go 999 rfl trivial ?_
    refine ev_call0 rfl (Nat.le_of_ble_eq_true rfl) (fun z => by cases z) (x8_isDay (d := d + 7) (v := day)) ?_
    rw [h2]
    refine ev_go 999 rfl trivial ?_
    first | refine ev_pos (by decide) ?_ | refine ev_neg (by decide) ?_
    refine ev_go 999 rfl trivial ?_
    exact ev_ret rfl trivial ⟨rfl, rfl⟩
  | true =>
    obtain ⟨d1, d2⟩ := dIn h2
    have hD := x8_dueOf (E := E) (d := d + 7) (j := j) (W := W) (day := cl day) h.w30 d2 h.cx h.cw h.inv
    rw [← d1] at hD
    rw [if_pos rfl]
    refine ev_go 999 rfl trivial ?_
    refine ev_call0 rfl (Nat.le_of_ble_eq_true rfl) (fun z => by cases z) (x8_isDay (d := d + 7) (v := day)) ?_
    rw [h2]
    refine ev_go 999 rfl trivial ?_
    first | refine ev_pos (by decide) ?_ | refine ev_neg (by decide) ?_
    refine ev_go 999 rfl trivial ?_
    refine ev_call0 rfl (Nat.le_of_ble_eq_true rfl) (fun _ => ⟨_, _, _, rfl, rfl⟩) hD ?_
    exact ev_ret rfl trivial ⟨rfl, rfl⟩
theorem x8_month {m what : Int32} (h : XH E i a b W ri rA rb w) : ∃ i' j' a', Sx i i' a a' ∧ am_D E (d + 10) tX8_month [.ref 0, .int w, .int m, .int what] (am_L (xw i j a b W (gA rA (cl w)))) 0 0 (some (.long (monthA ri rA rb w m what))) (am_L (xw i' j' a' b W (gA rA (cl w)))) := by
  unfold monthA
  rw [h.ok, Bool.true_and]
  cases h2 : inB m 0 35 with
  | false =>
    refine ⟨i, j, a, Sx.rf, ?_⟩
    rw [Bool.false_and, if_neg (by decide)]
    refine am_D_of (Nat.le_of_ble_eq_true rfl) ?_
    refine ev_go 999 rfl trivial ?_
    refine ev_call0 rfl (Nat.le_of_ble_eq_true rfl) (fun _ => ⟨_, _, _, rfl, rfl⟩) (x8_findWorker (d := d + 8) h) ?_
    refine ev_go 999 rfl trivial ?_
    refine ev_go 999 rfl trivial ?_
    refine ev_call0 rfl (Nat.le_of_ble_eq_true rfl) (fun z => by cases z) (x8_isMonth (d := d + 7) (v := m)) ?_
    rw [h2]
    refine ev_go 999 rfl trivial ?_
    first | refine ev_pos (by decide) ?_ | refine ev_neg (by decide) ?_
    refine ev_go 999 rfl trivial ?_
    exact ev_ret rfl trivial ⟨rfl, rfl⟩
  | true =>
    cases h3 : inB what 0 4 with
    | false =>
      refine ⟨i, j, a, Sx.rf, ?_⟩
      rw [Bool.true_and, if_neg (by decide)]
      refine am_D_of (Nat.le_of_ble_eq_true rfl) ?_
      refine ev_go 999 rfl trivial ?_
      refine ev_call0 rfl (Nat.le_of_ble_eq_true rfl) (fun _ => ⟨_, _, _, rfl, rfl⟩) (x8_findWorker (d := d + 8) h) ?_
      refine ev_go 999 rfl trivial ?_
      refine ev_go 999 rfl trivial ?_
      refine ev_call0 rfl (Nat.le_of_ble_eq_true rfl) (fun z => by cases z) (x8_isMonth (d := d + 7) (v := m)) ?_
      rw [h2]
      refine ev_go 999 rfl trivial ?_
      first | refine ev_pos (by decide) ?_ | refine ev_neg (by decide) ?_
      refine ev_go 999 rfl trivial ?_
      refine ev_call0 rfl (Nat.le_of_ble_eq_true rfl) (fun z => by cases z) (x8_isWithin (d := d + 8) (v := what) (lo := 0) (hi := 4)) ?_
      rw [h3]
      refine ev_go 999 rfl trivial ?_
      first | refine ev_pos (by decide) ?_ | refine ev_neg (by decide) ?_
      refine ev_go 999 rfl trivial ?_
      exact ev_ret rfl trivial ⟨rfl, rfl⟩
    | true =>
      have m1 := le0_in (N := 35) (by omega) h2
      have q1 := le0_in (N := 4) (by omega) h3
      have mb := m1.2
      have qb := q1.2
      obtain ⟨i1, j1, a1, sx, hD⟩ := x8_sayingOf (E := E) (d := d + 1) (i := i) (j := j) (a := a) (W := W) (m := cl m) (what := cl what) h.e h.w30 (by omega) (by omega) h.cx h.cw h.inv
      rw [← m1.1, ← q1.1] at hD
      refine ⟨i1, j1, a1, sx, ?_⟩
      rw [Bool.true_and, if_pos rfl]
      refine am_D_of (Nat.le_of_ble_eq_true rfl) ?_
      refine ev_go 999 rfl trivial ?_
      refine ev_call0 rfl (Nat.le_of_ble_eq_true rfl) (fun _ => ⟨_, _, _, rfl, rfl⟩) (x8_findWorker (d := d + 8) h) ?_
      refine ev_go 999 rfl trivial ?_
      refine ev_go 999 rfl trivial ?_
      refine ev_call0 rfl (Nat.le_of_ble_eq_true rfl) (fun z => by cases z) (x8_isMonth (d := d + 7) (v := m)) ?_
      rw [h2]
      refine ev_go 999 rfl trivial ?_
      first | refine ev_pos (by decide) ?_ | refine ev_neg (by decide) ?_
      refine ev_go 999 rfl trivial ?_
      refine ev_call0 rfl (Nat.le_of_ble_eq_true rfl) (fun z => by cases z) (x8_isWithin (d := d + 8) (v := what) (lo := 0) (hi := 4)) ?_
      rw [h3]
      refine ev_go 999 rfl trivial ?_
      first | refine ev_pos (by decide) ?_ | refine ev_neg (by decide) ?_
      refine ev_go 999 rfl trivial ?_
      refine ev_call0 rfl (Nat.le_of_ble_eq_true rfl) (fun _ => ⟨_, _, _, rfl, rfl⟩) hD ?_
      exact ev_ret rfl trivial ⟨rfl, rfl⟩
end X8
