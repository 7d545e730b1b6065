/-! What holds of the full memory between two lines of the script. -/
def am_at0 (G : am_M) (p : Nat) (l : List am_C) : Prop := ∀ k x, l[k]? = some x → G.2 (p + k) = some x
theorem at_map {l : List am_C} {ρ : Nat → Nat} {G : am_M} (h : ∀ k x, l[k]? = some x → G.2 (ρ k) = some (am_rc ρ x)) : ∀ k y, (l.map (am_rc ρ))[k]? = some y → G.2 (ρ k) = some y := by
  intro k y hk
  rw [List.getElem?_map] at hk
  cases e : l[k]? with
  | none => rw [e] at hk; cases hk
  | some x => rw [e] at hk; cases hk; exact h k x e
theorem map_at {l : List am_C} {ρ : Nat → Nat} {G : am_M} (h : ∀ k y, (l.map (am_rc ρ))[k]? = some y → G.2 (ρ k) = some y) : ∀ k x, l[k]? = some x → G.2 (ρ k) = some (am_rc ρ x) := fun k x hk => h k _ (by rw [List.getElem?_map, hk]; rfl)
def FC (G : am_M) (ri : Nat → Int32) (rA : Nat → Nat → Int32) : Prop := ∃ i j a, CX i a ri rA ∧ am_at0 G 0 (xo i j a (Wf (cl (ri 19))))
def FW (G : am_M) (rA : Nat → Nat → Int32) (rb : Nat → Nat → Int64) (q : Nat) : Prop := ∃ i a b, CW i a b rA rb q ∧ am_at0 G (99 + 13 * q) (wc (99 + 13 * q) i a b (gA rA q))
/-- the row of a worker who is still to come -/
def FE (rA : Nat → Nat → Int32) (rb : Nat → Nat → Int64) (o : Nat) : Prop := ∃ i a, CW i a (fun _ _ => 0) rA rb o ∧ i 63 = 0 ∧ i 67 = 0
abbrev FM (G : am_M) (ri : Nat → Int32) (rA : Nat → Nat → Int32) (rb : Nat → Nat → Int64) (si : Nat → Int32) (sj : Nat → Int64) (sA : Nat → Nat → Int32) (sb : Nat → Nat → Int64) : Prop := (INV ri rA) ∧ (FC G ri rA) ∧ (∀ q, q < cl (ri 19) → FW G rA rb q) ∧ (am_at0 G 62 ((mo si sj sA sb).map (am_rc r9))) ∧ (G.1 = 99 + 13 * cl (ri 19)) ∧ (∀ k, 99 + 13 * cl (ri 19) ≤ k → G.2 k = none) ∧ (∀ o, cl (ri 19) ≤ o → o < 30 → FE rA rb o)
theorem FM.inv {G : am_M} {ri : Nat → Int32} {rA : Nat → Nat → Int32} {rb : Nat → Nat → Int64} {si : Nat → Int32} {sj : Nat → Int64} {sA : Nat → Nat → Int32} {sb : Nat → Nat → Int64} (h : FM G ri rA rb si sj sA sb) : INV ri rA := h.1
theorem FM.c {G : am_M} {ri : Nat → Int32} {rA : Nat → Nat → Int32} {rb : Nat → Nat → Int64} {si : Nat → Int32} {sj : Nat → Int64} {sA : Nat → Nat → Int32} {sb : Nat → Nat → Int64} (h : FM G ri rA rb si sj sA sb) : FC G ri rA := h.2.1
theorem FM.w {G : am_M} {ri : Nat → Int32} {rA : Nat → Nat → Int32} {rb : Nat → Nat → Int64} {si : Nat → Int32} {sj : Nat → Int64} {sA : Nat → Nat → Int32} {sb : Nat → Nat → Int64} (h : FM G ri rA rb si sj sA sb) : ∀ q, q < cl (ri 19) → FW G rA rb q := h.2.2.1
theorem FM.r {G : am_M} {ri : Nat → Int32} {rA : Nat → Nat → Int32} {rb : Nat → Nat → Int64} {si : Nat → Int32} {sj : Nat → Int64} {sA : Nat → Nat → Int32} {sb : Nat → Nat → Int64} (h : FM G ri rA rb si sj sA sb) : am_at0 G 62 ((mo si sj sA sb).map (am_rc r9)) := h.2.2.2.1
theorem FM.n {G : am_M} {ri : Nat → Int32} {rA : Nat → Nat → Int32} {rb : Nat → Nat → Int64} {si : Nat → Int32} {sj : Nat → Int64} {sA : Nat → Nat → Int32} {sb : Nat → Nat → Int64} (h : FM G ri rA rb si sj sA sb) : G.1 = 99 + 13 * cl (ri 19) := h.2.2.2.2.1
theorem FM.o {G : am_M} {ri : Nat → Int32} {rA : Nat → Nat → Int32} {rb : Nat → Nat → Int64} {si : Nat → Int32} {sj : Nat → Int64} {sA : Nat → Nat → Int32} {sb : Nat → Nat → Int64} (h : FM G ri rA rb si sj sA sb) : ∀ k, 99 + 13 * cl (ri 19) ≤ k → G.2 k = none := h.2.2.2.2.2.1
theorem FM.e {G : am_M} {ri : Nat → Int32} {rA : Nat → Nat → Int32} {rb : Nat → Nat → Int64} {si : Nat → Int32} {sj : Nat → Int64} {sA : Nat → Nat → Int32} {sb : Nat → Nat → Int64} (h : FM G ri rA rb si sj sA sb) : ∀ o, cl (ri 19) ≤ o → o < 30 → FE rA rb o := h.2.2.2.2.2.2
/-- the other workers' rows are kept -/
def KR (q : Nat) (rA rA' : Nat → Nat → Int32) (rb rb' : Nat → Nat → Int64) : Prop := ∀ o, o ≠ q → o < 30 → gA rA' o = gA rA o ∧ ∀ i a b, CW i a b rA rb o → CW i a b rA' rb' o
theorem CX.scr {i ri si : Nat → Int32} {a rA sA : Nat → Nat → Int32} (hc : CX i a ri rA) (h : Scr ri si rA sA) : CX i a si sA := by
  obtain ⟨c1, c2, c3, c4, c5, c6, c7, c8, c9, c10, c11, c12, c13, c14⟩ := hc
  have e := h.1
  have f := h.2
  refine ⟨?_, ?_, ?_, ?_, ?_, ?_, ?_, ?_, ?_, ?_, ?_, ?_, ?_, ?_⟩
  · rw [f 2 (by decide) (by decide)]; exact c1
  · rw [f 19 (by decide) (by decide)]; exact c2
  · rw [f 26 (by decide) (by decide)]; exact c3
  · rw [f 39 (by decide) (by decide)]; exact c4
  · rw [f 9 (by decide) (by decide)]; exact c5
  · rw [f 15 (by decide) (by decide)]; exact c6
  · rw [e 14 (by decide), e 15 (by decide)]; exact c7
  · rw [e 2 (by decide)]; exact c8
  · rw [e 13 (by decide)]; exact c9
  · rw [e 1 (by decide)]; exact c10
  · rw [e 3 (by decide), e 4 (by decide)]; exact c11
  · rw [e 5 (by decide), e 6 (by decide), e 7 (by decide), f 9 (by decide) (by decide)]; exact c12
  · rw [e 8 (by decide), e 9 (by decide), e 10 (by decide), e 11 (by decide), f 15 (by decide) (by decide)]; exact c13
  · rw [e 12 (by decide)]; exact c14
theorem CW.scr {i ri si : Nat → Int32} {a rA sA : Nat → Nat → Int32} {b rb : Nat → Nat → Int64} {q : Nat} (hc : CW i a b rA rb q) (h : Scr ri si rA sA) : CW i a b sA rb q := by
  obtain ⟨c1, c2, c3, c4, c5, c6, c7, c8⟩ := hc
  have e := h.1
  refine ⟨?_, ?_, ?_, ?_, ?_, ?_, ?_, c8⟩
  · rw [e 17 (by decide)]; exact c1
  · rw [e 21 (by decide)]; exact c2
  · rw [e 18 (by decide)]; exact c3
  · rw [h.n, e 22 (by decide)]; exact c4
  · rw [h.n, e 23 (by decide)]; exact c5
  · rw [h.n, h.r]; exact c6
  · rw [e 18 (by decide), e 19 (by decide), e 20 (by decide)]; exact c7
section FM
variable {E : am_E} {d : Nat} {τ : am_T} {as as' : List Value} {v v' : Option Value} {G : am_M} {ri ri' si si' : Nat → Int32} {rA rA' sA sA' : Nat → Nat → Int32} {rb rb' sb sb' : Nat → Nat → Int64} {sj sj' : Nat → Int64}
theorem FM.scr (h : FM G ri rA rb si sj sA sb) (s : Scr ri ri' rA rA') : FM G ri' rA' rb si sj sA sb := by
  have e : ri' 19 = ri 19 := s.2 19 (by decide) (by decide)
  obtain ⟨i, j, a, hc, hG⟩ := h.c
  refine ⟨s.inv h.inv, ⟨i, j, a, hc.scr s, by rw [e]; exact hG⟩, fun q hq => ?_, h.r, by rw [e]; exact h.n, by rw [e]; exact h.o, fun o h1 h2 => ?_⟩
  · obtain ⟨wi, wa, wb, hw, hG⟩ := h.w q (by rw [← e]; exact hq)
    exact ⟨wi, wa, wb, hw.scr s, by rw [s.g]; exact hG⟩
  · obtain ⟨wi, wa, hw, e1, e2⟩ := h.e o (by rw [← e]; exact h1) h2
    exact ⟨wi, wa, hw.scr s, e1, e2⟩
theorem FM.n30 (h : FM G ri rA rb si sj sA sb) : cl (ri 19) ≤ 30 := by
  have := h.inv.w19
  unfold le0 at this
  omega
def HX (G : am_M) : Prop := G.2 am_X = none ∧ (∃ fs, G.2 0 = some (.inr (8, fs))) ∧ ∃ fs, G.2 62 = some (.inr (9, fs))
theorem FM.hx (h : FM G ri rA rb si sj sA sb) : HX G := by
  have n30 := h.n30
  obtain ⟨i, j, a, hc, hG⟩ := h.c
  exact ⟨h.o am_X (by unfold am_X; omega), ⟨_, hG 0 _ rfl⟩, ⟨_, h.r 0 _ rfl⟩⟩
/-- a run of the reference -/
theorem FM.ref (h : FM G ri rA rb si sj sA sb) (hD : am_D E d τ as (am_L (mo si sj sA sb)) 0 0 v (am_L (mo si' sj' sA' sb'))) (ha : am_rS r9 as = as') (hv : v.map (am_rv r9) = v') : ∃ G', am_D E d τ as' G 0 0 v' G' ∧ FM G' ri rA rb si' sj' sA' sb' := by
  subst ha hv
  have n30 := h.n30
  have r9k : ∀ k, k < 37 → r9 k = 62 + k := fun k hk => by unfold r9 am_X; rw [if_pos (by omega)]
  have lt : ∀ {si sj sA sb} {k : Nat} {y}, ((mo si sj sA sb).map (am_rc r9))[k]? = some y → k < 37 := fun hk => (List.getElem?_eq_some_iff.mp hk).1
  obtain ⟨G', g1, g2, g3, g4⟩ := ren_L (ρ := r9) (G := G) hD (map_at fun k y hk => by rw [r9k k (lt hk)]; exact h.r k y hk) (fun i j (hi : i < 37) (hj : j < 37) e => by rw [r9k i hi, r9k j hj] at e; omega) (fun k h1 h2 => ⟨h.o k (by unfold am_X at h1; omega), by unfold r9; rw [if_neg (by omega)]⟩) (by show 37 ≤ am_X; decide)
  have fr : ∀ q, q < 62 ∨ 99 ≤ q → G'.2 q = G.2 q := fun q hq => g4 q (fun k (hk : k < 37) e => by rw [r9k k hk] at e; omega)
  refine ⟨G', g1, h.inv, ?_, fun q hq => ?_, fun k y hk => ?_, g3.trans h.n, fun k hk => (fr k (by omega)).trans (h.o k hk), h.e⟩
  · obtain ⟨i, j, a, hc, hG⟩ := h.c
    refine ⟨i, j, a, hc, fun k x hk => ?_⟩
    have k62 : k < 62 := (List.getElem?_eq_some_iff.mp hk).1
    rw [fr _ (by omega)]
    exact hG k x hk
  · obtain ⟨wi, wa, wb, hw, hG⟩ := h.w q hq
    refine ⟨wi, wa, wb, hw, fun k x hk => ?_⟩
    rw [fr _ (by omega)]
    exact hG k x hk
  · have := at_map g2 k y hk
    rw [r9k k (lt hk)] at this
    exact this
end FM
