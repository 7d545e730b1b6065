/-! Class and reference one after the other: what is asked of a worker. -/
section TW
variable {E : am_E} {d : Nat}
theorem t_minute {w day m : Int32} (hE : E 3 = (37, fun j => am_MS.getD j 0)) : TWO E (d + 63) tX8_minute tX9_minute [.int w, .int day, .int m] := by
  rintro G ⟨ri, rj, rA, rb, h⟩
  obtain ⟨si, sA, sc, hR⟩ := x9_minute (E := E) (d := d + 2) (i := ri) (j := rj) (a := rA) (b := rb) (w := w) (day := day) (m := m) h.inv
  cases hw : inB w 0 (ri 19 - 1) with
  | false =>
    obtain ⟨i, j, a, hc, L⟩ := h.cls (E := E)
    obtain ⟨G1, g1, h1⟩ := L (xo_minute_no (E := E) (d := d + 54) (j := j) (W := Wl (cl (ri 19))) (x := day) (y := m) h.inv hc hw) rfl rfl hc h.inv rfl (KR.of fun p _ _ => rfl)
    obtain ⟨G2, g2, h2⟩ := h1.ref hR rfl rfl
    have e : minQ ri rA w day m = -1 := by
      unfold minQ
      rw [if_neg]
      try unfold okL
      rw [hw]
      simp
    rw [e] at g2
    exact ⟨G1, G2, _, g1, g2, h1.hx, _, _, _, _, h2.scr sc⟩
  | true =>
    obtain ⟨i, j, a, b, hc, hcw, hWq, L⟩ := h.wrk (E := E) (q := cl w) (h.inv.wIn hw).2.2
    obtain ⟨i', j', a', sx, hD⟩ := x8_minute (E := E) (d := d + 53) (j := j) (day := day) (m := m) ⟨hE, h.inv, hc, hcw, hw, hWq⟩
    obtain ⟨G1, g1, h1⟩ := L hD rfl rfl (sx.cx hc) (sx.cw hcw) h.inv rfl rfl (KR.of fun p _ _ => rfl)
    obtain ⟨G2, g2, h2⟩ := h1.ref hR rfl rfl
    exact ⟨G1, G2, _, g1, g2, h1.hx, _, _, _, _, h2.scr sc⟩
theorem t_minutes {w day m : Int32} (hE : E 3 = (37, fun j => am_MS.getD j 0)) : TWO E (d + 63) tX8_minutes tX9_minutes [.int w, .int day, .int m] := by
  rintro G ⟨ri, rj, rA, rb, h⟩
  obtain ⟨si, sA, sc, hR⟩ := x9_minutes (E := E) (d := d + 2) (i := ri) (j := rj) (a := rA) (b := rb) (w := w) (day := day) (s := m) h.inv
  cases hw : inB w 0 (ri 19 - 1) with
  | false =>
    obtain ⟨i, j, a, hc, L⟩ := h.cls (E := E)
    obtain ⟨G1, g1, h1⟩ := L (xo_minutes_no (E := E) (d := d + 54) (j := j) (W := Wl (cl (ri 19))) (x := day) (y := m) h.inv hc hw) rfl rfl hc h.inv rfl (KR.of fun p _ _ => rfl)
    obtain ⟨G2, g2, h2⟩ := h1.ref hR rfl rfl
    have e : minsQ ri rA w day m = -1 := by
      unfold minsQ
      rw [if_neg]
      try unfold okL
      rw [hw]
      simp
    rw [e] at g2
    exact ⟨G1, G2, _, g1, g2, h1.hx, _, _, _, _, h2.scr sc⟩
  | true =>
    obtain ⟨i, j, a, b, hc, hcw, hWq, L⟩ := h.wrk (E := E) (q := cl w) (h.inv.wIn hw).2.2
    obtain ⟨i', j', a', sx, hD⟩ := x8_minutes (E := E) (d := d + 53) (j := j) (day := day) (m := m) ⟨hE, h.inv, hc, hcw, hw, hWq⟩
    obtain ⟨G1, g1, h1⟩ := L hD rfl rfl (sx.cx hc) (sx.cw hcw) h.inv rfl rfl (KR.of fun p _ _ => rfl)
    obtain ⟨G2, g2, h2⟩ := h1.ref hR rfl rfl
    exact ⟨G1, G2, _, g1, g2, h1.hx, _, _, _, _, h2.scr sc⟩
theorem t_why {w day m : Int32} (hE : E 3 = (37, fun j => am_MS.getD j 0)) : TWO E (d + 63) tX8_why tX9_why [.int w, .int day, .int m] := by
  rintro G ⟨ri, rj, rA, rb, h⟩
  obtain ⟨si, sA, sc, hR⟩ := x9_why (E := E) (d := d + 2) (i := ri) (j := rj) (a := rA) (b := rb) (w := w) (day := day) (k := m) h.inv
  cases hw : inB w 0 (ri 19 - 1) with
  | false =>
    obtain ⟨i, j, a, hc, L⟩ := h.cls (E := E)
    obtain ⟨G1, g1, h1⟩ := L (xo_why_no (E := E) (d := d + 54) (j := j) (W := Wl (cl (ri 19))) (x := day) (y := m) h.inv hc hw) rfl rfl hc h.inv rfl (KR.of fun p _ _ => rfl)
    obtain ⟨G2, g2, h2⟩ := h1.ref hR rfl rfl
    have e : whyQ ri rA w day m = -1 := by
      unfold whyQ
      rw [if_neg]
      try unfold okL
      rw [hw]
      simp
    rw [e] at g2
    exact ⟨G1, G2, _, g1, g2, h1.hx, _, _, _, _, h2.scr sc⟩
  | true =>
    obtain ⟨i, j, a, b, hc, hcw, hWq, L⟩ := h.wrk (E := E) (q := cl w) (h.inv.wIn hw).2.2
    obtain ⟨i', j', a', sx, hD⟩ := x8_why (E := E) (d := d + 53) (j := j) (day := day) (m := m) ⟨hE, h.inv, hc, hcw, hw, hWq⟩
    obtain ⟨G1, g1, h1⟩ := L hD rfl rfl (sx.cx hc) (sx.cw hcw) h.inv rfl rfl (KR.of fun p _ _ => rfl)
    obtain ⟨G2, g2, h2⟩ := h1.ref hR rfl rfl
    exact ⟨G1, G2, _, g1, g2, h1.hx, _, _, _, _, h2.scr sc⟩
theorem t_cents {w day : Int32} (hE : E 3 = (37, fun j => am_MS.getD j 0)) : TWOL E (d + 63) tX8_cents tX9_cents [.int w, .int day] := by
  rintro G ⟨ri, rj, rA, rb, h⟩
  obtain ⟨si, sA, sc, hR⟩ := x9_cents (E := E) (d := d + 2) (i := ri) (j := rj) (a := rA) (b := rb) (w := w) (day := day) h.inv
  cases hw : inB w 0 (ri 19 - 1) with
  | false =>
    obtain ⟨i, j, a, hc, L⟩ := h.cls (E := E)
    obtain ⟨G1, g1, h1⟩ := L (xo_cents_no (E := E) (d := d + 54) (j := j) (W := Wl (cl (ri 19))) (x := day) h.inv hc hw) rfl rfl hc h.inv rfl (KR.of fun p _ _ => rfl)
    obtain ⟨G2, g2, h2⟩ := h1.ref hR rfl rfl
    have e : centQ ri rA w day = -1 := by
      unfold centQ
      rw [if_neg]
      try unfold okL
      rw [hw]
      simp
    rw [e] at g2
    exact ⟨G1, G2, _, g1, g2, h1.hx, _, _, _, _, h2.scr sc⟩
  | true =>
    obtain ⟨i, j, a, b, hc, hcw, hWq, L⟩ := h.wrk (E := E) (q := cl w) (h.inv.wIn hw).2.2
    obtain ⟨i', j', a', sx, hD⟩ := x8_cents (E := E) (d := d + 53) (j := j) (day := day) ⟨hE, h.inv, hc, hcw, hw, hWq⟩
    obtain ⟨G1, g1, h1⟩ := L hD rfl rfl (sx.cx hc) (sx.cw hcw) h.inv rfl rfl (KR.of fun p _ _ => rfl)
    obtain ⟨G2, g2, h2⟩ := h1.ref hR rfl rfl
    exact ⟨G1, G2, _, g1, g2, h1.hx, _, _, _, _, h2.scr sc⟩
theorem t_due {w day : Int32} (hE : E 3 = (37, fun j => am_MS.getD j 0)) : TWO E (d + 63) tX8_due tX9_due [.int w, .int day] := by
  rintro G ⟨ri, rj, rA, rb, h⟩
  have hR := x9_due (E := E) (d := d + 2) (i := ri) (j := rj) (a := rA) (b := rb) (w := w) (day := day) h.inv
  cases hw : inB w 0 (ri 19 - 1) with
  | false =>
    obtain ⟨i, j, a, hc, L⟩ := h.cls (E := E)
    obtain ⟨G1, g1, h1⟩ := L (xo_due_no (E := E) (d := d + 54) (j := j) (W := Wl (cl (ri 19))) (x := day) h.inv hc hw) rfl rfl hc h.inv rfl (KR.of fun p _ _ => rfl)
    obtain ⟨G2, g2, h2⟩ := h1.ref hR rfl rfl
    have e : dueQ ri rA w day = -1 := by
      unfold dueQ
      rw [if_neg]
      try unfold okL
      rw [hw]
      simp
    rw [e] at g2
    exact ⟨G1, G2, _, g1, g2, h1.hx, _, _, _, _, h2⟩
  | true =>
    obtain ⟨i, j, a, b, hc, hcw, hWq, L⟩ := h.wrk (E := E) (q := cl w) (h.inv.wIn hw).2.2
    have hD := x8_due (E := E) (d := d + 53) (j := j) (day := day) ⟨hE, h.inv, hc, hcw, hw, hWq⟩
    obtain ⟨G1, g1, h1⟩ := L hD rfl rfl hc hcw h.inv rfl rfl (KR.of fun p _ _ => rfl)
    obtain ⟨G2, g2, h2⟩ := h1.ref hR rfl rfl
    exact ⟨G1, G2, _, g1, g2, h1.hx, _, _, _, _, h2⟩
theorem t_month {w m what : Int32} (hE : E 3 = (37, fun j => am_MS.getD j 0)) : TWOL E (d + 63) tX8_month tX9_month [.int w, .int m, .int what] := by
  rintro G ⟨ri, rj, rA, rb, h⟩
  obtain ⟨si, sj, sA, sc, hR⟩ := x9_month (E := E) (d := d + 2) (i := ri) (j := rj) (a := rA) (b := rb) (w := w) (m := m) (what := what) h.inv
  cases hw : inB w 0 (ri 19 - 1) with
  | false =>
    obtain ⟨i, j, a, hc, L⟩ := h.cls (E := E)
    obtain ⟨G1, g1, h1⟩ := L (xo_month_no (E := E) (d := d + 54) (j := j) (W := Wl (cl (ri 19))) (x := m) (y := what) h.inv hc hw) rfl rfl hc h.inv rfl (KR.of fun p _ _ => rfl)
    obtain ⟨G2, g2, h2⟩ := h1.ref hR rfl rfl
    have e : monthA ri rA rb w m what = Int64.minValue := by
      unfold monthA
      rw [if_neg]
      try unfold okL
      rw [hw]
      simp
    rw [e] at g2
    exact ⟨G1, G2, _, g1, g2, h1.hx, _, _, _, _, h2.scr sc⟩
  | true =>
    obtain ⟨i, j, a, b, hc, hcw, hWq, L⟩ := h.wrk (E := E) (q := cl w) (h.inv.wIn hw).2.2
    obtain ⟨i', j', a', sx, hD⟩ := x8_month (E := E) (d := d + 53) (j := j) (m := m) (what := what) ⟨hE, h.inv, hc, hcw, hw, hWq⟩
    obtain ⟨G1, g1, h1⟩ := L hD rfl rfl (sx.cx hc) (sx.cw hcw) h.inv rfl rfl (KR.of fun p _ _ => rfl)
    obtain ⟨G2, g2, h2⟩ := h1.ref hR rfl rfl
    exact ⟨G1, G2, _, g1, g2, h1.hx, _, _, _, _, h2.scr sc⟩
theorem t_counts {w day m s what : Int32} (hE : E 3 = (37, fun j => am_MS.getD j 0)) : TWO E (d + 63) tX8_counts tX9_counts [.int w, .int day, .int m, .int s, .int what] := by
  rintro G ⟨ri, rj, rA, rb, h⟩
  obtain ⟨si, sA, sc, hR⟩ := x9_counts (E := E) (d := d + 2) (i := ri) (j := rj) (a := rA) (b := rb) (w := w) (day := day) (m := m) (s := s) (what := what) h.inv
  cases hw : inB w 0 (ri 19 - 1) with
  | false =>
    obtain ⟨i, j, a, hc, L⟩ := h.cls (E := E)
    obtain ⟨G1, g1, h1⟩ := L (xo_counts_no (E := E) (d := d + 54) (j := j) (W := Wl (cl (ri 19))) (x := day) (y := m) (z := s) (u := what) h.inv hc hw) rfl rfl hc h.inv rfl (KR.of fun p _ _ => rfl)
    obtain ⟨G2, g2, h2⟩ := h1.ref hR rfl rfl
    have e : ctsQ ri rA w day m s what = -1 := by
      unfold ctsQ
      rw [if_neg]
      try unfold okL
      rw [hw]
      simp
    rw [e] at g2
    exact ⟨G1, G2, _, g1, g2, h1.hx, _, _, _, _, h2.scr sc⟩
  | true =>
    obtain ⟨i, j, a, b, hc, hcw, hWq, L⟩ := h.wrk (E := E) (q := cl w) (h.inv.wIn hw).2.2
    obtain ⟨i', j', a', sx, hD⟩ := x8_counts (E := E) (d := d + 53) (j := j) (day := day) (m := m) (s := s) (what := what) ⟨hE, h.inv, hc, hcw, hw, hWq⟩
    obtain ⟨G1, g1, h1⟩ := L hD rfl rfl (sx.cx hc) (sx.cw hcw) h.inv rfl rfl (KR.of fun p _ _ => rfl)
    obtain ⟨G2, g2, h2⟩ := h1.ref hR rfl rfl
    exact ⟨G1, G2, _, g1, g2, h1.hx, _, _, _, _, h2.scr sc⟩
theorem t_shifts {w day what : Int32} (hE : E 3 = (37, fun j => am_MS.getD j 0)) : TWO E (d + 63) tX8_shifts tX9_shifts [.int w, .int day, .int what] := by
  rintro G ⟨ri, rj, rA, rb, h⟩
  obtain ⟨si, sA, sc, hR⟩ := x9_shifts (E := E) (d := d + 2) (i := ri) (j := rj) (a := rA) (b := rb) (w := w) (day := day) (what := what) h.inv
  cases hw : inB w 0 (ri 19 - 1) with
  | false =>
    obtain ⟨i, j, a, hc, L⟩ := h.cls (E := E)
    obtain ⟨G1, g1, h1⟩ := L (xo_shifts_no (E := E) (d := d + 54) (j := j) (W := Wl (cl (ri 19))) (x := day) (y := what) h.inv hc hw) rfl rfl hc h.inv rfl (KR.of fun p _ _ => rfl)
    obtain ⟨G2, g2, h2⟩ := h1.ref hR rfl rfl
    have e : shQ ri rA w day what = -1 := by
      unfold shQ
      rw [if_neg]
      try unfold okL
      rw [hw]
      simp
    rw [e] at g2
    exact ⟨G1, G2, _, g1, g2, h1.hx, _, _, _, _, h2.scr sc⟩
  | true =>
    obtain ⟨i, j, a, b, hc, hcw, hWq, L⟩ := h.wrk (E := E) (q := cl w) (h.inv.wIn hw).2.2
    have hD := x8_shifts (E := E) (d := d + 53) (j := j) (day := day) (what := what) ⟨hE, h.inv, hc, hcw, hw, hWq⟩
    obtain ⟨G1, g1, h1⟩ := L hD rfl rfl hc hcw h.inv rfl rfl (KR.of fun p _ _ => rfl)
    obtain ⟨G2, g2, h2⟩ := h1.ref hR rfl rfl
    exact ⟨G1, G2, _, g1, g2, h1.hx, _, _, _, _, h2.scr sc⟩
theorem t_marked {w k what : Int32} (hE : E 3 = (37, fun j => am_MS.getD j 0)) : TWO E (d + 63) tX8_marked tX9_marked [.int w, .int k, .int what] := by
  rintro G ⟨ri, rj, rA, rb, h⟩
  obtain ⟨si, sA, sc, hR⟩ := x9_marked (E := E) (d := d + 2) (i := ri) (j := rj) (a := rA) (b := rb) (w := w) (k := k) (what := what) h.inv
  cases hw : inB w 0 (ri 19 - 1) with
  | false =>
    obtain ⟨i, j, a, hc, L⟩ := h.cls (E := E)
    obtain ⟨G1, g1, h1⟩ := L (xo_marked_no (E := E) (d := d + 54) (j := j) (W := Wl (cl (ri 19))) (x := k) (y := what) h.inv hc hw) rfl rfl hc h.inv rfl (KR.of fun p _ _ => rfl)
    obtain ⟨G2, g2, h2⟩ := h1.ref hR rfl rfl
    have e : mrkQ ri rA w k what = -1 := by
      unfold mrkQ
      rw [if_neg]
      try unfold okL
      rw [hw]
      simp
    rw [e] at g2
    exact ⟨G1, G2, _, g1, g2, h1.hx, _, _, _, _, h2.scr sc⟩
  | true =>
    obtain ⟨i, j, a, b, hc, hcw, hWq, L⟩ := h.wrk (E := E) (q := cl w) (h.inv.wIn hw).2.2
    have hD := x8_marked (E := E) (d := d + 53) (j := j) (k := k) (what := what) ⟨hE, h.inv, hc, hcw, hw, hWq⟩
    obtain ⟨G1, g1, h1⟩ := L hD rfl rfl hc hcw h.inv rfl rfl (KR.of fun p _ _ => rfl)
    obtain ⟨G2, g2, h2⟩ := h1.ref hR rfl rfl
    exact ⟨G1, G2, _, g1, g2, h1.hx, _, _, _, _, h2.scr sc⟩
end TW
