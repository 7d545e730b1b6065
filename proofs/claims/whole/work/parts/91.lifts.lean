/-! A run of the class that needs no worker, and one that needs one, in the full memory. -/
def cmb {α : Type} (x y : Nat → α) (k : Nat) : α := if k < 62 then x k else y k
theorem CX.cm2 {i ri wi : Nat → Int32} {a rA wa : Nat → Nat → Int32} (hc : CX i a ri rA) : CX (cmb i wi) (cmb a wa) ri rA := by
  have e : ∀ {α : Type} {x y : Nat → α} (k), k < 62 → cmb x y k = x k := fun _ h => if_pos h
  obtain ⟨c1, c2, c3, c4, c5, c6, c7, c8, c9, c10, c11, c12, c13, c14⟩ := hc
  refine ⟨c1, c2, c3, c4, c5, c6, fun g hg => ?_, fun g k hg hk => ?_, fun g k hg hk => ?_, c10, fun k q hk hq => ?_, c12, c13, c14⟩
  · rw [e (20 + 3 * g) (by omega), e (21 + 3 * g) (by omega), e (22 + 3 * g) (by omega)]; exact c7 g hg
  · rw [e (21 + 3 * g) (by omega)]; exact c8 g k hg hk
  · rw [e (22 + 3 * g) (by omega)]; exact c9 g k hg hk
  · rw [e (39 + 3 * k) (by omega), e (40 + 3 * k) (by omega)]; exact c11 k q hk hq
theorem CW.cm2 {i wi : Nat → Int32} {a rA wa : Nat → Nat → Int32} {b rb : Nat → Nat → Int64} {q : Nat} (hc : CW wi wa b rA rb q) : CW (cmb i wi) (cmb a wa) b rA rb q := by
  obtain ⟨c1, c2, c3, c4, c5, c6, c7, c8⟩ := hc
  exact ⟨c1, c2, c3, c4, c5, c6, c7, c8⟩
section FM
variable {E : am_E} {G : am_M} {ri si : Nat → Int32} {rA sA : Nat → Nat → Int32} {rb sb : Nat → Nat → Int64} {sj : Nat → Int64}
/-- a run of the class that needs no worker -/
theorem FM.cls (h : FM G ri rA rb si sj sA sb) : ∃ i j a, CX i a ri rA ∧ ∀ {d τ as as' v v' ri' rA' rb' i' j' a'}, am_D E d τ as (am_L (xo i j a (Wl (cl (ri 19))))) 0 0 v (am_L (xo i' j' a' (Wl (cl (ri 19))))) → am_rS r0 as = as' → v.map (am_rv r0) = v' → CX i' a' ri' rA' → INV ri' rA' → ri' 19 = ri 19 → KR 30 rA rA' rb rb' → ∃ G', am_D E d τ as' G 0 0 v' G' ∧ FM G' ri' rA' rb' si sj sA sb := by
  have n30 := h.n30
  obtain ⟨i, j, a, hc, hG⟩ := h.c
  refine ⟨i, j, a, hc, fun {d τ as as' v v' ri' rA' rb' i' j' a'} hD ha hv hc' hI' e19 kr => ?_⟩
  subst ha hv
  have r0k : ∀ k, k < 62 → r0 k = k := fun k hk => by unfold r0; rw [if_pos (by omega)]
  have lt : ∀ {i j a W} {k : Nat} {y}, (xo i j a W)[k]? = some y → k < 62 := fun hk => (List.getElem?_eq_some_iff.mp hk).1
  have em : ∀ i j a, (xo i j a (Wl (cl (ri 19)))).map (am_rc r0) = xo i j a (Wf (cl (ri 19))) := fun i j a => by rw [xo_r0, Wl_r0 n30]
  obtain ⟨G', g1, g2, g3, g4⟩ := ren_L (ρ := r0) (G := G) hD (map_at fun k y hk => by rw [em] at hk; rw [r0k k (lt hk), ← Nat.zero_add k]; exact hG k y hk) (fun i j (hi : i < 62) (hj : j < 62) e => by rw [r0k i hi, r0k j hj] at e; exact e) (fun k h1 h2 => ⟨h.o k (by unfold am_X at h1; omega), by unfold r0; unfold am_X at *; rw [if_neg (by omega), if_neg (by omega)]⟩) (by show 62 ≤ am_X; decide)
  have fr : ∀ q, 62 ≤ q → G'.2 q = G.2 q := fun q hq => g4 q (fun k (hk : k < 62) e => by rw [r0k k hk] at e; omega)
  refine ⟨G', g1, hI', ⟨i', j', a', hc', fun k x hk => ?_⟩, fun q hq => ?_, fun k y hk => ?_, by rw [e19]; exact g3.trans h.n, fun k hk => ?_, fun o h1 h2 => ?_⟩
  · rw [e19] at hk
    have z := at_map g2 k x (by rw [em]; exact hk)
    rw [r0k k (lt hk)] at z
    rw [Nat.zero_add]
    exact z
  · rw [e19] at hq
    obtain ⟨wi, wa, wb, hw, hG⟩ := h.w q hq
    obtain ⟨k1, k2⟩ := kr q (by omega) (by omega)
    refine ⟨wi, wa, wb, k2 _ _ _ hw, fun k x hk => ?_⟩
    rw [k1] at hk
    rw [fr _ (by omega)]
    exact hG k x hk
  · rw [fr _ (by omega)]
    exact h.r k y hk
  · rw [e19] at hk
    rw [fr _ (by omega)]
    exact h.o k hk
  · obtain ⟨wi, wa, hw, e1, e2⟩ := h.e o (by rw [← e19]; exact h1) h2
    exact ⟨wi, wa, (kr o (by omega) h2).2 _ _ _ hw, e1, e2⟩
/-- a run of the class that needs worker q -/
theorem FM.wrk {q : Nat} (h : FM G ri rA rb si sj sA sb) (hq : q < cl (ri 19)) : ∃ i j a b, CX i a ri rA ∧ CW i a b rA rb q ∧ Wq (cl (ri 19)) q q = some 62 ∧ ∀ {d τ as as' v v' ri' rA' rb' i' j' a' b'}, am_D E d τ as (am_L (xw i j a b (Wq (cl (ri 19)) q) (gA rA q))) 0 0 v (am_L (xw i' j' a' b' (Wq (cl (ri 19)) q) (gA rA q))) → am_rS (rq q) as = as' → v.map (am_rv (rq q)) = v' → CX i' a' ri' rA' → CW i' a' b' rA' rb' q → INV ri' rA' → ri' 19 = ri 19 → gA rA' q = gA rA q → KR q rA rA' rb rb' → ∃ G', am_D E d τ as' G 0 0 v' G' ∧ FM G' ri' rA' rb' si sj sA sb := by
  have n30 := h.n30
  obtain ⟨i, j, a, hc, hG⟩ := h.c
  obtain ⟨wi, wa, wb, hw, hH⟩ := h.w q hq
  have g6 : gA rA q < 6 := by
    have := h.inv.wg q (by omega)
    unfold le0 at this
    unfold gA
    omega
  refine ⟨cmb i wi, j, cmb a wa, wb, hc.cm2, hw.cm2, by unfold Wq; rw [if_pos rfl], fun {d τ as as' v v' ri' rA' rb' i' j' a' b'} hD ha hv hc' hw' hI' e19 eg kr => ?_⟩
  subst ha hv
  have rk : ∀ k, k < 62 → rq q k = k := fun k hk => by unfold rq; rw [if_pos hk]
  have rw' : ∀ k, k < 13 → rq q (62 + k) = 99 + 13 * q + k := fun k hk => by unfold rq; rw [if_neg (by omega), if_pos (by omega), Nat.add_sub_cancel_left]
  have lt : ∀ {i j a W} {k : Nat} {y}, (xo i j a W)[k]? = some y → k < 62 := fun hk => (List.getElem?_eq_some_iff.mp hk).1
  have ltw : ∀ {p i a b g} {k : Nat} {y}, (wc p i a b g)[k]? = some y → k < 13 := fun hk => (List.getElem?_eq_some_iff.mp hk).1
  have em : ∀ i j a b, (xw i j a b (Wq (cl (ri 19)) q) (gA rA q)).map (am_rc (rq q)) = xo i j a (Wf (cl (ri 19))) ++ wc (99 + 13 * q) i a b (gA rA q) := fun i j a b => by rw [xw_rq g6, Wq_rq n30 hq]
  have lo : ∀ {i j a W} {l : List am_C} {k : Nat}, k < 62 → (xo i j a W ++ l)[k]? = (xo i j a W)[k]? := fun {i j a W l k} hk => List.getElem?_append_left hk
  have hi : ∀ {i j a W} {l : List am_C} {k : Nat}, (xo i j a W ++ l)[62 + k]? = l[k]? := fun {i j a W l k} => by
    rw [List.getElem?_append_right (show 62 ≤ 62 + k by omega)]
    show l[62 + k - 62]? = _
    rw [Nat.add_sub_cancel_left]
  obtain ⟨G', g1, g2, g3, g4⟩ := ren_L (ρ := rq q) (G := G) hD (map_at fun k y hk => by
    rw [em] at hk
    by_cases z : k < 62
    · rw [lo z] at hk
      rw [rk k z, ← Nat.zero_add k]
      exact hG k y hk
    · obtain ⟨m, rfl⟩ : ∃ m, k = 62 + m := ⟨k - 62, by omega⟩
      rw [hi] at hk
      rw [rw' m (ltw hk)]
      exact hH m y hk) (fun x y (hx : x < 75) (hy : y < 75) e => by
    unfold rq at e
    by_cases z : x < 62 <;> by_cases z' : y < 62
    · rw [if_pos z, if_pos z'] at e; exact e
    · rw [if_pos z, if_neg z', if_pos (by omega)] at e; omega
    · rw [if_neg z, if_pos (by omega), if_pos z'] at e; omega
    · rw [if_neg z, if_pos (by omega), if_neg z', if_pos (by omega)] at e; omega) (fun k h1 h2 => ⟨h.o k (by unfold am_X at h1; omega), by unfold rq; unfold am_X at *; rw [if_neg (by omega), if_neg (by omega), if_neg (by omega)]⟩) (by show 75 ≤ am_X; decide)
  have fr : ∀ p, 62 ≤ p → (p < 99 + 13 * q ∨ 99 + 13 * q + 13 ≤ p) → G'.2 p = G.2 p := fun p hp hp2 => g4 p (fun k (hk : k < 75) e => by
    unfold rq at e
    by_cases z : k < 62
    · rw [if_pos z] at e; omega
    · rw [if_neg z, if_pos (by omega)] at e; omega)
  refine ⟨G', g1, hI', ⟨i', j', a', hc', fun k x hk => ?_⟩, fun o ho => ?_, fun k y hk => ?_, by rw [e19]; exact g3.trans h.n, fun k hk => ?_, fun o h1 h2 => ?_⟩
  · rw [e19] at hk
    have z := at_map g2 k x (by rw [em, lo (lt hk)]; exact hk)
    rw [rk k (lt hk)] at z
    rw [Nat.zero_add]
    exact z
  · rw [e19] at ho
    by_cases z : o = q
    · subst z
      refine ⟨i', a', b', hw', fun k x hk => ?_⟩
      rw [eg] at hk
      have z := at_map g2 (62 + k) x (by rw [em, hi]; exact hk)
      rw [rw' k (ltw hk)] at z
      exact z
    · obtain ⟨vi, va, vb, hv, hK⟩ := h.w o ho
      obtain ⟨k1, k2⟩ := kr o z (by omega)
      refine ⟨vi, va, vb, k2 _ _ _ hv, fun k x hk => ?_⟩
      rw [k1] at hk
      have := ltw hk
      rw [fr _ (by omega) (by omega)]
      exact hK k x hk
  · have : k < 37 := (List.getElem?_eq_some_iff.mp hk).1
    rw [fr _ (by omega) (by omega)]
    exact h.r k y hk
  · rw [e19] at hk
    rw [fr _ (by omega) (by omega)]
    exact h.o k hk
  · rw [e19] at h1
    obtain ⟨vi, va, hv, e1, e2⟩ := h.e o h1 h2
    exact ⟨vi, va, (kr o (by omega) h2).2 _ _ _ hv, e1, e2⟩
end FM
