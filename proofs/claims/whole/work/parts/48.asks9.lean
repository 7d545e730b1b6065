/-! What the reference answers. -/
theorem inW {x : Int32} {n : Nat} (hn : n < 2 ^ 31) (h : inB x 0 (nI n - 1) = true) : x = nI (cl x) ∧ cl x < n := by
  cases n with
  | zero =>
    unfold inB at h
    rw [Bool.and_eq_true_iff] at h
    have h1 := of_decide_eq_true h.1
    have h2 := of_decide_eq_true h.2
    rw [fa_le] at h1 h2
    have e1 : (0 : Int32).toInt = 0 := by decide
    have e2 : (nI 0 - 1 : Int32).toInt = -1 := by decide
    omega
  | succ n =>
    rw [nI_pred] at h
    have := le0_in (by omega) h
    exact ⟨this.1, by have := this.2; omega⟩
theorem and3 {x y z : Bool} : (x && y && z) = true ↔ x = true ∧ y = true ∧ z = true := by cases x <;> cases y <;> cases z <;> decide
section Q9
variable {E : am_E} {d : Nat} {i : Nat → Int32} {j : Nat → Int64} {a : Nat → Nat → Int32} {b : Nat → Nat → Int64}
theorem INV.wIn (hI : INV i a) {w : Int32} (h : inB w 0 (i 19 - 1) = true) : w = nI (cl w) ∧ cl w < 30 ∧ cl w < cl (i 19) := by
  have h9 := hI.w19
  rw [h9.1] at h
  obtain ⟨h1, h2⟩ := inW (by have := h9.2; omega) h
  exact ⟨h1, by have := h9.2; omega, h2⟩
theorem dIn {x : Int32} (h : inB x 0 1095 = true) : x = nI (cl x) ∧ cl x < 1096 := by
  have := le0_in (N := 1095) (by omega) h
  exact ⟨this.1, by have := this.2; omega⟩
theorem x9_says {w m what : Nat} (hI : INV i a) (hw : w < 30) (hm : m < 36) (hwh : what < 5) : ∃ i' j' a', Scr i i' a a' ∧ am_D E (d + 60) tX9_says [.ref 0, .int (nI w), .int (nI m), .int (nI what)] (am_L (mo i j a b)) 0 0 (some (.long (saysA i a b w m what))) (am_L (mo i' j' a' b)) := by
  have hc := hI.c39
  have ex : nI 36 * nI w + nI m = nI (36 * w + m) := by rw [pk_mul, nI_add]
  have vx : vp_in (nI (36 * w + m)) 1080 := vp_in_nI (by omega) (by omega)
  have cx : (nI (36 * w + m)).toNatClampNeg = 36 * w + m := nI_clamp (by omega)
  obtain ⟨P, hP⟩ : ∃ P : Option Value → am_M → Prop, P = fun v M => v = some (.long (saysA i a b w m what)) ∧ ∃ i' j' a', Scr i i' a a' ∧ M = am_L (mo i' j' a' b) := ⟨_, rfl⟩
  have main : am_ev E (d + 59) tX9_says (0, am_in [.ref 0, .int (nI w), .int (nI m), .int (nI what)] tX9_says.2.2.2.1, [], am_L (mo i j a b), 0, 0) P := by
    refine ev_go 8 rfl trivial ?_
    show am_ev _ _ _ (8, [_, _, _, _, some (.int (nI 36 * nI w + nI m))], _, _, _, _) _
    rw [ex]
    refine ev_go 999 rfl trivial ?_
    by_cases w3 : what = 3
    · refine ev_neg (by show ¬ ¬ nI what = nI 3; rw [w3]; exact fun z => z rfl) ?_
      refine ev_go 999 rfl ⟨vx, trivial⟩ ?_
      refine ev_ret rfl trivial ?_
      rw [hP]
      refine ⟨?_, i, j, a, Scr.rf, rfl⟩
      show some (Value.long (b 35 (nI (36 * w + m)).toNatClampNeg)) = _
      unfold saysA
      rw [if_pos w3, cx]
    refine ev_pos (by show ¬ nI what = nI 3; rw [nI_eq (by omega) (by omega)]; exact w3) ?_
    refine ev_go 999 rfl trivial ?_
    by_cases w4 : what = 4
    · refine ev_neg (by show ¬ ¬ nI what = nI 4; rw [w4]; exact fun z => z rfl) ?_
      refine ev_go 999 rfl ⟨vx, trivial⟩ ?_
      refine ev_ret rfl trivial ?_
      rw [hP]
      refine ⟨?_, i, j, a, Scr.rf, rfl⟩
      show some (Value.long (b 36 (nI (36 * w + m)).toNatClampNeg)) = _
      unfold saysA
      rw [if_neg w3, if_pos w4, cx]
    refine ev_pos (by show ¬ nI what = nI 4; rw [nI_eq (by omega) (by omega)]; exact w4) ?_
    refine ev_go 999 rfl trivial ?_
    by_cases mc : m < cl (i 39)
    · refine ev_neg (by show ¬ i 39 ≤ nI m; rw [hc.1]; exact nI_ge (by omega) (by have := hc.2; omega)) ?_
      refine ev_go 999 rfl trivial ?_
      by_cases w0 : what = 0
      · refine ev_neg (by show ¬ ¬ nI what = 0; rw [w0]; exact fun z => z rfl) ?_
        refine ev_go 999 rfl ⟨vx, trivial⟩ ?_
        refine ev_ret rfl trivial ?_
        rw [hP]
        refine ⟨?_, i, j, a, Scr.rf, rfl⟩
        show some (Value.long (b 32 (nI (36 * w + m)).toNatClampNeg)) = _
        unfold saysA
        rw [if_neg w3, if_neg w4, if_pos mc, if_pos w0, cx]
      refine ev_pos (nI_ne0 (by omega) (by omega)) ?_
      refine ev_go 999 rfl trivial ?_
      by_cases w1 : what = 1
      · refine ev_neg (by show ¬ ¬ nI what = nI 1; rw [w1]; exact fun z => z rfl) ?_
        refine ev_go 999 rfl ⟨vx, trivial⟩ ?_
        refine ev_ret rfl trivial ?_
        rw [hP]
        refine ⟨?_, i, j, a, Scr.rf, rfl⟩
        show some (Value.long (b 33 (nI (36 * w + m)).toNatClampNeg)) = _
        unfold saysA
        rw [if_neg w3, if_neg w4, if_pos mc, if_neg w0, if_pos w1, cx]
      refine ev_pos (by show ¬ nI what = nI 1; rw [nI_eq (by omega) (by omega)]; exact w1) ?_
      refine ev_go 999 rfl ⟨vx, trivial⟩ ?_
      refine ev_ret rfl trivial ?_
      rw [hP]
      refine ⟨?_, i, j, a, Scr.rf, rfl⟩
      show some (Value.long (b 34 (nI (36 * w + m)).toNatClampNeg)) = _
      unfold saysA
      rw [if_neg w3, if_neg w4, if_pos mc, if_neg w0, if_neg w1, cx]
    refine ev_pos (by show i 39 ≤ nI m; rw [hc.1]; exact nI_le (by omega) (by omega)) ?_
    obtain ⟨i1, a1, sc1, pd1, hD1⟩ := x9_pairA (E := E) (d := d + 58) (i := i) (j := j) (a := a) (b := b) hI hw
    refine ev_go 999 rfl trivial ?_
    refine ev_call0 rfl (Nat.le_of_ble_eq_true rfl) (fun _ => ⟨_, _, _, rfl, rfl⟩) hD1 ?_
    refine ev_go 999 rfl trivial ?_
    by_cases w2 : what = 2
    · refine ev_neg (by show ¬ ¬ nI what = nI 2; rw [w2]; exact fun z => z rfl) ?_
      obtain ⟨i2, j2, a2, sc2, pd2, hD2⟩ := x9_flexOf (E := E) (b := b) hI hw (m + 1 - cl (i 39)) (by omega) (d + 54 - (m + 1 - cl (i 39))) i1 j a1 sc1 pd1
      have hc2 := hc.2
      rw [show d + 54 - (m + 1 - cl (i 39)) + 5 + (m + 1 - cl (i 39)) = d + 59 by omega, show cl (i 39) + (m + 1 - cl (i 39)) = m + 1 by omega, nI_pred] at hD2
      refine ev_go 999 rfl trivial ?_
      refine ev_call0 rfl (Nat.le_of_ble_eq_true rfl) (fun _ => ⟨_, _, _, rfl, rfl⟩) hD2 ?_
      refine ev_ret rfl trivial ?_
      rw [hP]
      refine ⟨?_, i2, j2, a2, sc2, rfl⟩
      unfold saysA
      rw [if_neg w3, if_neg w4, if_neg mc, if_pos w2]
    refine ev_pos (by show ¬ nI what = nI 2; rw [nI_eq (by omega) (by omega)]; exact w2) ?_
    have hml := mlen_in m
    have hmb := mday_b (m := m + 1) (by omega)
    have hms : mday (m + 1) = mday m + mlen m := rfl
    obtain ⟨i3, a3, sc3, pd3, hD3⟩ := x9_sumDays (E := E) (d := d + 55) (i := i1) (j := j) (a := a1) (b := b) (w := w) (lo := mday m) (hi := mday m + mlen m) (sc1.inv hI) hw (by rw [sc1.n, sc1.t, sc1.s]; exact pd1) (by omega) (by omega)
    rw [sc1.n, sc1.t, sc1.r, sc1.paidF, sc1.centF, ← hms] at hD3
    obtain ⟨SP, hSP⟩ : ∃ SP, SP = dSum (tA a w) (rolA a w) (paidA a w) (mday m) (mday (m + 1)) (nA a w) := ⟨_, rfl⟩
    obtain ⟨SC, hSC⟩ : ∃ SC, SC = dSum (tA a w) (rolA a w) (centA i a w) (mday m) (mday (m + 1)) (nA a w) := ⟨_, rfl⟩
    obtain ⟨j3, hj3⟩ : ∃ j3, j3 = va_up (va_up j 45 (lN SP)) 46 (lN SC) := ⟨_, rfl⟩
    rw [← hSP, ← hSC, ← hj3, hms, ← nI_add] at hD3
    have j45 : j3 45 = lN SP := by rw [hj3, va_n (by decide), va_s]
    have j46 : j3 46 = lN SC := by rw [hj3, va_s]
    refine ev_go 999 rfl trivial ?_
    refine ev_call0 rfl (Nat.le_of_ble_eq_true rfl) (fun z => by cases z) (x9_firstDay (d := d + 57) (m := m) (by omega)) ?_
    refine ev_go 999 rfl trivial ?_
    refine ev_call0 rfl (Nat.le_of_ble_eq_true rfl) (fun z => by cases z) (x9_firstDay (d := d + 57) (m := m) (by omega)) ?_
    refine ev_go 999 rfl trivial ?_
    refine ev_call0 rfl (Nat.le_of_ble_eq_true rfl) (fun z => by cases z) (x9_length (d := d + 58) (m := m) (by omega)) ?_
    refine ev_go 999 rfl trivial ?_
    refine ev_call0 rfl (Nat.le_of_ble_eq_true rfl) (fun _ => ⟨_, _, _, rfl, rfl⟩) hD3 ?_
    refine ev_go 999 rfl trivial ?_
    by_cases w0 : what = 0
    · refine ev_neg (by show ¬ ¬ nI what = 0; rw [w0]; exact fun z => z rfl) ?_
      refine ev_go 999 rfl ⟨vx, trivial⟩ ?_
      refine ev_ret rfl trivial ?_
      rw [hP]
      refine ⟨?_, i3, j3, a3, sc1.tr sc3, rfl⟩
      show some (Value.long (j3 45 + b 35 (nI (36 * w + m)).toNatClampNeg)) = _
      unfold saysA
      rw [if_neg w3, if_neg w4, if_neg mc, if_neg w2, if_pos w0, cx, j45, hSP]
    refine ev_pos (nI_ne0 (by omega) (by omega)) ?_
    refine ev_go 999 rfl ⟨vx, trivial⟩ ?_
    refine ev_ret rfl trivial ?_
    rw [hP]
    refine ⟨?_, i3, j3, a3, sc1.tr sc3, rfl⟩
    show some (Value.long (j3 46 + b 36 (nI (36 * w + m)).toNatClampNeg)) = _
    unfold saysA
    rw [if_neg w3, if_neg w4, if_neg mc, if_neg w2, if_neg w0, cx, j46, hSC]
  obtain ⟨v, M', hv, hD2⟩ := am_D_ex (Nat.le_of_ble_eq_true rfl) main
  rw [hP] at hv
  obtain ⟨rfl, i', j', a', h1, rfl⟩ := hv
  exact ⟨i', j', a', h1, hD2⟩
def monthA (i : Nat → Int32) (a : Nat → Nat → Int32) (b : Nat → Nat → Int64) (w m what : Int32) : Int64 := if (inB w 0 (i 19 - 1) && inB m 0 35 && inB what 0 4) = true then saysA i a b (cl w) (cl m) (cl what) else Int64.minValue
theorem x9_month {w m what : Int32} (hI : INV i a) : ∃ i' j' a', Scr i i' a a' ∧ am_D E (d + 61) tX9_month [.ref 0, .int w, .int m, .int what] (am_L (mo i j a b)) 0 0 (some (.long (monthA i a b w m what))) (am_L (mo i' j' a' b)) := by
  unfold monthA
  cases h : (inB w 0 (i 19 - 1) && inB m 0 35 && inB what 0 4) with
  | false =>
    refine ⟨i, j, a, Scr.rf, ?_⟩
    rw [if_neg (by decide)]
    refine am_D_of (Nat.le_of_ble_eq_true rfl) ?_
    cases h1 : inB w 0 (i 19 - 1) with
    | false =>
      refine ev_go 999 rfl trivial ?_
      refine ev_call0 rfl (Nat.le_of_ble_eq_true rfl) (fun _ => ⟨_, _, _, rfl, rfl⟩) (x9_isWorker (d := d + 58) (v := w)) ?_
      rw [h1]
      refine ev_go 999 rfl trivial ?_
      first | refine ev_pos (by decide) ?_ | refine ev_neg (by decide) ?_
      refine ev_go 999 rfl trivial ?_
      exact ev_ret rfl trivial ⟨rfl, rfl⟩
    | true =>
      refine ev_go 999 rfl trivial ?_
      refine ev_call0 rfl (Nat.le_of_ble_eq_true rfl) (fun _ => ⟨_, _, _, rfl, rfl⟩) (x9_isWorker (d := d + 58) (v := w)) ?_
      rw [h1]
      refine ev_go 999 rfl trivial ?_
      first | refine ev_pos (by decide) ?_ | refine ev_neg (by decide) ?_
      cases h2 : inB m 0 35 with
      | false =>
        refine ev_go 999 rfl trivial ?_
        refine ev_call0 rfl (Nat.le_of_ble_eq_true rfl) (fun z => by cases z) (x9_in (d := d + 59) (v := m) (lo := 0) (hi := 35)) ?_
        rw [h2]
        refine ev_go 999 rfl trivial ?_
        first | refine ev_pos (by decide) ?_ | refine ev_neg (by decide) ?_
        refine ev_go 999 rfl trivial ?_
        exact ev_ret rfl trivial ⟨rfl, rfl⟩
      | true =>
        rw [h1, h2] at h
        refine ev_go 999 rfl trivial ?_
        refine ev_call0 rfl (Nat.le_of_ble_eq_true rfl) (fun z => by cases z) (x9_in (d := d + 59) (v := m) (lo := 0) (hi := 35)) ?_
        rw [h2]
        refine ev_go 999 rfl trivial ?_
        first | refine ev_pos (by decide) ?_ | refine ev_neg (by decide) ?_
        refine ev_go 999 rfl trivial ?_
        refine ev_call0 rfl (Nat.le_of_ble_eq_true rfl) (fun z => by cases z) (x9_in (d := d + 59) (v := what) (lo := 0) (hi := 4)) ?_
        rw [show inB what 0 4 = false from h]
        refine ev_go 999 rfl trivial ?_
        first | refine ev_pos (by decide) ?_ | refine ev_neg (by decide) ?_
        refine ev_go 999 rfl trivial ?_
        exact ev_ret rfl trivial ⟨rfl, rfl⟩
  | true =>
    rw [if_pos rfl]
    obtain ⟨h1, h2, h3⟩ := and3.mp h
    obtain ⟨w1, w2, _⟩ := hI.wIn h1
    have m1 := le0_in (N := 35) (by omega) h2
    have q1 := le0_in (N := 4) (by omega) h3
    obtain ⟨i', j', a', sc, hD⟩ := x9_says (E := E) (d := d) (i := i) (j := j) (a := a) (b := b) (m := cl m) (what := cl what) hI w2 (by have := m1.2; omega) (by have := q1.2; omega)
    rw [← w1, ← m1.1, ← q1.1] at hD
    refine ⟨i', j', a', sc, ?_⟩
    refine am_D_of (Nat.le_of_ble_eq_true rfl) ?_
    refine ev_go 999 rfl trivial ?_
    refine ev_call0 rfl (Nat.le_of_ble_eq_true rfl) (fun _ => ⟨_, _, _, rfl, rfl⟩) (x9_isWorker (d := d + 58) (v := w)) ?_
    rw [h1]
    refine ev_go 999 rfl trivial ?_
    first | refine ev_pos (by decide) ?_ | refine ev_neg (by decide) ?_
    refine ev_go 999 rfl trivial ?_
    refine ev_call0 rfl (Nat.le_of_ble_eq_true rfl) (fun z => by cases z) (x9_in (d := d + 59) (v := m) (lo := 0) (hi := 35)) ?_
    rw [h2]
    refine ev_go 999 rfl trivial ?_
    first | refine ev_pos (by decide) ?_ | refine ev_neg (by decide) ?_
    refine ev_go 999 rfl trivial ?_
    refine ev_call0 rfl (Nat.le_of_ble_eq_true rfl) (fun z => by cases z) (x9_in (d := d + 59) (v := what) (lo := 0) (hi := 4)) ?_
    rw [h3]
    refine ev_go 999 rfl trivial ?_
    first | refine ev_pos (by decide) ?_ | refine ev_neg (by decide) ?_
    refine ev_go 999 rfl trivial ?_
    refine ev_call0 rfl (Nat.le_of_ble_eq_true rfl) (fun _ => ⟨_, _, _, rfl, rfl⟩) hD ?_
    exact ev_ret rfl trivial ⟨rfl, rfl⟩
/-- what a group's workers say, added up -/
def sumS (i : Nat → Int32) (a : Nat → Nat → Int32) (b : Nat → Nat → Int64) (g m what : Nat) : Nat → Int64
  | 0 => 0
  | w + 1 => sumS i a b g m what w + (if gA a w = g then saysA i a b w m what else 0)
def sumA (i : Nat → Int32) (a : Nat → Nat → Int32) (b : Nat → Nat → Int64) (g m what : Int32) : Int64 := if (inB g 0 5 && inB m 0 35 && inB what 0 1) = true then sumS i a b (cl g) (cl m) (cl what) (cl (i 19)) else Int64.minValue
end Q9
