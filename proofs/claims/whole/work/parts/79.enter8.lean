/-! Marks come to the class. -/
theorem fa_first_cong {p q : Nat → Bool} {n : Nat} (h : ∀ k, k < n → p k = q k) : fa_first p n = fa_first q n := by
  refine fa_first_is (fun k hk => ?_) (fa_first_le _ _) ?_
  · rw [h k (Nat.lt_of_lt_of_le hk (fa_first_le _ _))]; exact fa_first_no q n k hk
  · rcases Nat.lt_or_ge (fa_first q n) n with w | w
    · exact Or.inr (by rw [h _ w]; exact fa_first_yes q n w)
    · exact Or.inl (Nat.le_antisymm (fa_first_le _ _) w)
section X8
variable {E : am_E} {d : Nat} {i ri : Nat → Int32} {j : Nat → Int64} {a rA : Nat → Nat → Int32} {b rb : Nat → Nat → Int64} {W : Nat → Option Nat} {g v : Nat} {w : Int32}
theorem CW.at (hc : CW i a b rA rb v) {x : Int32} : fa_first (fun k => decide (x ≤ a 64 k)) (nA rA v) = atA rA v x := fa_first_cong (fun k hk => by rw [hc.t k hk])
theorem x8_standsAt {x : Int32} (hcw : CW i a b rA rb v) (hI : INV ri rA) (hv : v < 30) : am_D E (d + 2) tX1_standsAt [.ref 63, .int x] (am_L (xw i j a b W g)) 0 0 (some (.int (bI (stA rA v x)))) (am_L (xw i j a b W g)) := by
  have h := x1_standsAt (E := E) (d := d) (T := a 64) (S := a 65) (R := a 66) (t := x) (n := nA rA v) (hI.wm v hv).n4
  rw [hcw.at, ← hcw.n' hI hv] at h
  have e : (decide (atA rA v x < nA rA v) && decide (a 64 (atA rA v x) = x)) = stA rA v x := by
    unfold stA
    by_cases z : atA rA v x < nA rA v
    · rw [hcw.t _ z]
    · rw [decide_eq_false z, Bool.false_and, Bool.false_and]
  rw [e] at h
  exact lift_mk0 h
theorem xw_i2 (x : Int32) : am_w (am_L (xw i j a b W g)) 0 (.inr (8, [.ref 1, .int (i 0), .ref 2, .ref 3, .ref 4, .ref 8, .ref 14, .int (i 1), .int (i 2), .int (i 3), .ref 15, .ref 19].set 8 (.int x))) = am_L (xw (va_up i 2 x) j a b W g) := by rw [am_w_L (Nat.le_of_ble_eq_true rfl)]; rfl
theorem x8_isClosed {day : Nat} (hE : E 3 = (37, fun j => am_MS.getD j 0)) (hd : day < 1096) (hc : CX i a ri rA) (hI : INV ri rA) : am_D E (d + 2) tX8_isClosed [.ref 0, .int (nI day)] (am_L (xw i j a b W g)) 0 0 (some (.int (bI (decide (mOf day < cl (ri 39)))))) (am_L (xw i j a b W g)) := by
  have h39 := hI.c39
  have h39b := h39.2
  have e3 : i 3 = nI (cl (ri 39)) := by rw [hc.i3]; exact h39.1
  obtain ⟨mo1, _, _⟩ := mOf_sp hd
  have hmo := x8_monthOf (E := E) (d := d) (M := am_L (xw i j a b W g)) hE rfl hd
  refine am_D_of (Nat.le_of_ble_eq_true rfl) ?_
  refine ev_go 999 rfl trivial ?_
  refine ev_call0 rfl (Nat.le_of_ble_eq_true rfl) (fun z => by cases z) hmo ?_
  refine ev_go 999 rfl trivial ?_
  by_cases z : mOf day < cl (ri 39)
  · refine ev_neg (by show ¬ i 3 ≤ nI (mOf day); rw [e3]; exact nI_ge z (by omega)) ?_
    rw [decide_eq_true z]
    refine ev_go 999 rfl trivial ?_
    refine ev_go 999 rfl trivial ?_
    exact ev_ret rfl ⟨Or.inr rfl, trivial⟩ ⟨rfl, rfl⟩
  · refine ev_pos (by show i 3 ≤ nI (mOf day); rw [e3]; exact nI_le (by omega) (by omega)) ?_
    rw [decide_eq_false z]
    refine ev_go 999 rfl trivial ?_
    exact ev_ret rfl ⟨Or.inl rfl, trivial⟩ ⟨rfl, rfl⟩
/-- the told things stay where only marks change -/
theorem CX.rw {X Y Z : Nat → Int32} {y u : Int32} {a' : Nat → Nat → Int32} {z : Int32} (hc : CX i a ri rA) (e : ∀ p, p < 62 → a' p = a p) (hy : y = i 2 + z) : CX (va_up (va_up i 63 u) 2 y) a' (va_up ri 26 (ri 26 + z)) (rwA rA X Y Z) := by
  have o : ∀ p, p < 21 → rwA rA X Y Z p = rA p := fun p hp => rw_o (by omega) (by omega) (by omega)
  have oi : ∀ k, k ≠ 2 → k ≠ 63 → va_up (va_up i 63 u) 2 y k = i k := fun k h1 h2 => by rw [va_n h1, va_n h2]
  have oj : ∀ k, k ≠ 26 → va_up ri 26 (ri 26 + z) k = ri k := fun k h => va_n h
  obtain ⟨c1, c2, c3, c4, c5, c6, c7, c8, c9, c10, c11, c12, c13, c14⟩ := hc
  refine ⟨?_, ?_, ?_, ?_, ?_, ?_, fun g hg => ?_, fun g k hg hk => ?_, fun g k hg hk => ?_, ?_, fun k q hk hq => ?_, ?_, ?_, ?_⟩
  · rw [oi 0 (by decide) (by decide), oj 2 (by decide)]; exact c1
  · rw [oi 1 (by decide) (by decide), oj 19 (by decide)]; exact c2
  · rw [va_s, va_s, hy, c3]
  · rw [oi 3 (by decide) (by decide), oj 39 (by decide)]; exact c4
  · rw [oi 4 (by decide) (by decide), oj 9 (by decide)]; exact c5
  · rw [oi 8 (by decide) (by decide), oj 15 (by decide)]; exact c6
  · rw [oi (20 + 3 * g) (by omega) (by omega), oi (21 + 3 * g) (by omega) (by omega), oi (22 + 3 * g) (by omega) (by omega), o 14 (by omega), o 15 (by omega)]; exact c7 g hg
  · rw [e (21 + 3 * g) (by omega), o 2 (by omega)]; exact c8 g k hg hk
  · rw [e (22 + 3 * g) (by omega), o 13 (by omega)]; exact c9 g k hg hk
  · rw [e 1 (by omega), o 1 (by omega)]; exact c10
  · rw [e (39 + 3 * k) (by omega), e (40 + 3 * k) (by omega), o 3 (by omega), o 4 (by omega)]; exact c11 k q hk hq
  · rw [oj 9 (by decide), e 5 (by omega), e 6 (by omega), e 7 (by omega), o 5 (by omega), o 6 (by omega), o 7 (by omega)]; exact c12
  · rw [oj 15 (by decide), e 9 (by omega), e 10 (by omega), e 11 (by omega), e 12 (by omega), o 8 (by omega), o 9 (by omega), o 10 (by omega), o 11 (by omega)]; exact c13
  · rw [e 13 (by omega), o 12 (by omega)]; exact c14
end X8
