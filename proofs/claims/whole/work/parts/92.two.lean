/-! Class and reference one after the other: what is told and needs no worker. -/
def OKM (G : am_M) : Prop := ∃ ri rj rA rb, FM G ri rA rb ri rj rA rb
def TWO (E : am_E) (d : Nat) (t8 t9 : am_T) (as : List Value) : Prop := ∀ G, OKM G → ∃ G1 G2 v, am_D E d t8 (.ref 0 :: as) G 0 0 (some (.int v)) G1 ∧ am_D E d t9 (.ref 62 :: as) G1 0 0 (some (.int v)) G2 ∧ HX G1 ∧ OKM G2
def TWOL (E : am_E) (d : Nat) (t8 t9 : am_T) (as : List Value) : Prop := ∀ G, OKM G → ∃ G1 G2 v, am_D E d t8 (.ref 0 :: as) G 0 0 (some (.long v)) G1 ∧ am_D E d t9 (.ref 62 :: as) G1 0 0 (some (.long v)) G2 ∧ HX G1 ∧ OKM G2
theorem CW.eqr {i : Nat → Int32} {a rA rA' : Nat → Nat → Int32} {b rb : Nat → Nat → Int64} {q : Nat} (hc : CW i a b rA rb q) (e : ∀ p, 16 ≤ p → p < 24 → rA' p = rA p) : CW i a b rA' rb q := by
  obtain ⟨c1, c2, c3, c4, c5, c6, c7, c8⟩ := hc
  have n : ∀ w, nA rA' w = nA rA w := fun w => by unfold nA; rw [e 21 (by decide) (by decide)]
  have t : ∀ w, tA rA' w = tA rA w := fun w => by funext k; unfold tA; rw [e 22 (by decide) (by decide)]
  have s : ∀ w, sA rA' w = sA rA w := fun w => by funext k; unfold sA; rw [e 23 (by decide) (by decide)]
  have r : ∀ w, rolA rA' w = rolA rA w := fun w => by unfold rolA; rw [t, s, n]
  refine ⟨?_, ?_, ?_, ?_, ?_, ?_, ?_, c8⟩
  · rw [e 17 (by decide) (by decide)]; exact c1
  · rw [e 21 (by decide) (by decide)]; exact c2
  · rw [e 18 (by decide) (by decide)]; exact c3
  · rw [n, e 22 (by decide) (by decide)]; exact c4
  · rw [n, e 23 (by decide) (by decide)]; exact c5
  · rw [n, r]; exact c6
  · rw [e 18 (by decide) (by decide), e 19 (by decide) (by decide), e 20 (by decide) (by decide)]; exact c7
theorem KR.of {rA rA' : Nat → Nat → Int32} {rb : Nat → Nat → Int64} {q : Nat} (e : ∀ p, 16 ≤ p → p < 24 → rA' p = rA p) : KR q rA rA' rb rb := fun o _ _ => ⟨by unfold gA; rw [e 16 (by decide) (by decide)], fun _ _ _ h => h.eqr e⟩
section TW
variable {E : am_E} {d : Nat}
theorem t_feast {day : Int32} : TWO E (d + 63) tX8_feast tX9_feast [.int day] := by
  rintro G ⟨ri, rj, rA, rb, h⟩
  obtain ⟨i, j, a, hc, L⟩ := h.cls (E := E)
  obtain ⟨i', a', hc', hD⟩ := xo_feast (E := E) (d := d + 54) (j := j) (W := Wl (cl (ri 19))) (day := day)  hc
  obtain ⟨G1, g1, h1⟩ := L hD rfl rfl hc' (fe_inv h.inv) (by unfold feI; split <;> first | exact va_n (by decide) | rfl) (KR.of fun p h1 h2 => by
    unfold feA
    split
    · repeat rw [va_n (by omega)]
    · rfl)
  obtain ⟨G2, g2, h2⟩ := h1.ref (x9_feast (E := E) (d := d + 3) ) rfl rfl
  exact ⟨G1, G2, _, g1, g2, h1.hx, _, _, _, _, h2⟩
theorem t_kind {g w k : Int32} : TWO E (d + 63) tX8_kind tX9_kind [.int g, .int w, .int k] := by
  rintro G ⟨ri, rj, rA, rb, h⟩
  obtain ⟨i, j, a, hc, L⟩ := h.cls (E := E)
  obtain ⟨a', hc', hD⟩ := xo_kind (E := E) (d := d + 54) (j := j) (W := Wl (cl (ri 19))) (g := g) (w := w) (k := k)  hc
  obtain ⟨G1, g1, h1⟩ := L hD rfl rfl hc' (ki_inv h.inv) rfl (KR.of fun p h1 h2 => by
    unfold kiA
    split
    · repeat rw [va_n (by omega)]
    · rfl)
  obtain ⟨G2, g2, h2⟩ := h1.ref (x9_kind (E := E) (d := d + 3) ) rfl rfl
  exact ⟨G1, G2, _, g1, g2, h1.hx, _, _, _, _, h2⟩
theorem t_rule {k w x y : Int32} (hE1 : E 1 = (5, fun j => am_HA.getD j 0)) (hE2 : E 2 = (5, fun j => am_HB.getD j 0)) : TWO E (d + 63) tX8_rule tX9_rule [.int k, .int w, .int x, .int y] := by
  rintro G ⟨ri, rj, rA, rb, h⟩
  obtain ⟨i, j, a, hc, L⟩ := h.cls (E := E)
  obtain ⟨a', hc', hD⟩ := xo_rule (E := E) (d := d + 54) (j := j) (W := Wl (cl (ri 19))) (k := k) (w := w) (x := x) (y := y) hE1 hE2 hc
  obtain ⟨G1, g1, h1⟩ := L hD rfl rfl hc' (ru_inv h.inv) rfl (KR.of fun p h1 h2 => by
    unfold ruT
    split
    · repeat rw [va_n (by omega)]
    · rfl)
  obtain ⟨G2, g2, h2⟩ := h1.ref (x9_rule (E := E) (d := d + 3) ) rfl rfl
  exact ⟨G1, G2, _, g1, g2, h1.hx, _, _, _, _, h2⟩
theorem t_rate {g f c : Int32} : TWO E (d + 63) tX8_rate tX9_rate [.int g, .int f, .int c] := by
  rintro G ⟨ri, rj, rA, rb, h⟩
  obtain ⟨i, j, a, hc, L⟩ := h.cls (E := E)
  obtain ⟨i', a', hc', hD⟩ := xo_rate (E := E) (d := d + 54) (j := j) (W := Wl (cl (ri 19))) (g := g) (f := f) (c := c) h.inv hc
  obtain ⟨G1, g1, h1⟩ := L hD rfl rfl hc' (rt_inv h.inv) (by unfold rtI; split <;> first | exact va_n (by decide) | rfl) (KR.of fun p h1 h2 => by
    unfold rtT
    split
    · repeat rw [va_n (by omega)]
    · rfl)
  obtain ⟨G2, g2, h2⟩ := h1.ref (x9_rate (E := E) (d := d + 3) h.inv) rfl rfl
  exact ⟨G1, G2, _, g1, g2, h1.hx, _, _, _, _, h2⟩
theorem t_surcharge {k f t p : Int32} : TWO E (d + 63) tX8_surcharge tX9_surcharge [.int k, .int f, .int t, .int p] := by
  rintro G ⟨ri, rj, rA, rb, h⟩
  obtain ⟨i, j, a, hc, L⟩ := h.cls (E := E)
  obtain ⟨i', a', hc', hD⟩ := xo_surcharge (E := E) (d := d + 54) (j := j) (W := Wl (cl (ri 19))) (k := k) (f := f) (t := t) (p := p) h.inv hc
  obtain ⟨G1, g1, h1⟩ := L hD rfl rfl hc' (su_inv h.inv) (by unfold suI; split <;> first | exact va_n (by decide) | rfl) (KR.of fun p h1 h2 => by
    unfold suT
    split
    · repeat rw [va_n (by omega)]
    · rfl)
  obtain ⟨G2, g2, h2⟩ := h1.ref (x9_surcharge (E := E) (d := d + 3) h.inv) rfl rfl
  exact ⟨G1, G2, _, g1, g2, h1.hx, _, _, _, _, h2⟩
theorem t_exclude {s t : Int32} : TWO E (d + 63) tX8_exclude tX9_exclude [.int s, .int t] := by
  rintro G ⟨ri, rj, rA, rb, h⟩
  obtain ⟨i, j, a, hc, L⟩ := h.cls (E := E)
  obtain ⟨a', hc', hD⟩ := xo_exclude (E := E) (d := d + 54) (j := j) (W := Wl (cl (ri 19))) (s := s) (t := t) h.inv hc
  obtain ⟨G1, g1, h1⟩ := L hD rfl rfl hc' (ex_inv h.inv) rfl (KR.of fun p h1 h2 => by
    unfold exT
    split
    · repeat rw [va_n (by omega)]
    · rfl)
  obtain ⟨G2, g2, h2⟩ := h1.ref (x9_exclude (E := E) (d := d + 3) h.inv) rfl rfl
  exact ⟨G1, G2, _, g1, g2, h1.hx, _, _, _, _, h2⟩
theorem t_target {g w k : Int32} : TWO E (d + 63) tX8_target tX9_target [.int g, .int w, .int k] := by
  rintro G ⟨ri, rj, rA, rb, h⟩
  obtain ⟨i, j, a, hc, L⟩ := h.cls (E := E)
  obtain ⟨a', hc', hD⟩ := xo_target (E := E) (d := d + 54) (j := j) (W := Wl (cl (ri 19))) (g := g) (w := w) (k := k)  hc
  obtain ⟨G1, g1, h1⟩ := L hD rfl rfl hc' (tg_inv h.inv) rfl (KR.of fun p h1 h2 => by
    unfold tgT
    split
    · repeat rw [va_n (by omega)]
    · rfl)
  obtain ⟨G2, g2, h2⟩ := h1.ref (x9_target (E := E) (d := d + 3) ) rfl rfl
  exact ⟨G1, G2, _, g1, g2, h1.hx, _, _, _, _, h2⟩
theorem t_limits {g x y : Int32} : TWO E (d + 63) tX8_limits tX9_limits [.int g, .int x, .int y] := by
  rintro G ⟨ri, rj, rA, rb, h⟩
  obtain ⟨i, j, a, hc, L⟩ := h.cls (E := E)
  obtain ⟨i', hc', hD⟩ := xo_limits (E := E) (d := d + 54) (j := j) (W := Wl (cl (ri 19))) (g := g) (x := x) (y := y)  hc
  obtain ⟨G1, g1, h1⟩ := L hD rfl rfl hc' (li_inv h.inv) rfl (KR.of fun p h1 h2 => by
    unfold liT
    split
    · repeat rw [va_n (by omega)]
    · rfl)
  obtain ⟨G2, g2, h2⟩ := h1.ref (x9_limits (E := E) (d := d + 3) ) rfl rfl
  exact ⟨G1, G2, _, g1, g2, h1.hx, _, _, _, _, h2⟩
theorem t_open : TWO E (d + 63) tX8_open tX9_open [] := by
  rintro G ⟨ri, rj, rA, rb, h⟩
  obtain ⟨i, j, a, hc, L⟩ := h.cls (E := E)
  obtain ⟨G1, g1, h1⟩ := L (xo_open (E := E) (d := d + 54) (j := j) (W := Wl (cl (ri 19)))  hc) rfl rfl hc h.inv rfl (KR.of fun p _ _ => rfl)
  obtain ⟨G2, g2, h2⟩ := h1.ref (x9_open (E := E) (d := d + 62) ) rfl rfl
  exact ⟨G1, G2, _, g1, g2, h1.hx, _, _, _, _, h2⟩
theorem t_count {w : Int32} : TWO E (d + 63) tX8_count tX9_count [.int w] := by
  rintro G ⟨ri, rj, rA, rb, h⟩
  obtain ⟨i, j, a, hc, L⟩ := h.cls (E := E)
  obtain ⟨G1, g1, h1⟩ := L (xo_count (E := E) (d := d + 54) (j := j) (W := Wl (cl (ri 19))) (w := w) hc) rfl rfl hc h.inv rfl (KR.of fun p _ _ => rfl)
  obtain ⟨G2, g2, h2⟩ := h1.ref (x9_count (E := E) (d := d + 3) ) rfl rfl
  exact ⟨G1, G2, _, g1, g2, h1.hx, _, _, _, _, h2⟩
theorem t_day {g day what : Int32} (hE : E 3 = (37, fun j => am_MS.getD j 0)) : TWO E (d + 63) tX8_day tX9_day [.int g, .int day, .int what] := by
  rintro G ⟨ri, rj, rA, rb, h⟩
  obtain ⟨i, j, a, hc, L⟩ := h.cls (E := E)
  obtain ⟨G1, g1, h1⟩ := L (xo_day (E := E) (d := d + 54) (j := j) (W := Wl (cl (ri 19))) (g := g) (day := day) (what := what) hE h.inv hc) rfl rfl hc h.inv rfl (KR.of fun p _ _ => rfl)
  obtain ⟨G2, g2, h2⟩ := h1.ref (x9_day (E := E) (d := d + 2) h.inv) rfl rfl
  exact ⟨G1, G2, _, g1, g2, h1.hx, _, _, _, _, h2⟩
end TW
