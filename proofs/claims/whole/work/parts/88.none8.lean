/-! No such worker. -/
section XO
variable {E : am_E} {d : Nat} {i ri : Nat → Int32} {j : Nat → Int64} {a rA : Nat → Nat → Int32} {b rb : Nat → Nat → Int64} {W : Nat → Option Nat} {w x y z u : Int32}
theorem xo_findWorker_no (hI : INV ri rA) (hc : CX i a ri rA) (h : inB w 0 (ri 19 - 1) = false) : am_D E (d + 1) tX8_findWorker [.ref 0, .int w] (am_L (xo i j a W)) 0 0 (some .null) (am_L (xo i j a W)) := by
  have h19 := hI.w19
  have h19b := h19.2
  have e1 : i 1 = nI (cl (ri 19)) := by rw [hc.i1]; exact h19.1
  refine am_D_of (Nat.le_of_ble_eq_true rfl) ?_
  refine ev_go 999 rfl trivial ?_
  by_cases w0 : w < 0
  · refine ev_pos w0 ?_
    refine ev_go 999 rfl trivial ?_
    exact ev_ret rfl trivial ⟨rfl, rfl⟩
  · refine ev_neg w0 ?_
    obtain ⟨q, hq, rfl⟩ := nI_of w0
    refine ev_go 999 rfl trivial ?_
    refine ev_pos (by
      show i 1 ≤ nI q
      rw [e1]
      rcases Nat.lt_or_ge q (cl (ri 19)) with z | z
      · exfalso
        rw [h19.1] at h
        unfold inB at h
        obtain ⟨n, hn⟩ : ∃ n, cl (ri 19) = n + 1 := ⟨cl (ri 19) - 1, by omega⟩
        rw [hn, nI_pred, decide_eq_true (nI_pos' (by omega)), decide_eq_true (nI_le (by omega) (by omega))] at h
        cases h
      · exact nI_le z hq) ?_
    refine ev_go 999 rfl trivial ?_
    exact ev_ret rfl trivial ⟨rfl, rfl⟩
theorem xo_minute_no (hI : INV ri rA) (hc : CX i a ri rA) (h : inB w 0 (ri 19 - 1) = false) : am_D E (d + 9) tX8_minute [.ref 0, .int w, .int x, .int y] (am_L (xo i j a W)) 0 0 (some (.int (-1))) (am_L (xo i j a W)) := by
  refine am_D_of (Nat.le_of_ble_eq_true rfl) ?_
  refine ev_go 999 rfl trivial ?_
  refine ev_call0 rfl (Nat.le_of_ble_eq_true rfl) (fun _ => ⟨_, _, _, rfl, rfl⟩) (xo_findWorker_no (d := d + 7) hI hc h) ?_
  refine ev_go 999 rfl trivial ?_
  refine ev_go 999 rfl trivial ?_
  exact ev_ret rfl trivial ⟨rfl, rfl⟩
theorem xo_minutes_no (hI : INV ri rA) (hc : CX i a ri rA) (h : inB w 0 (ri 19 - 1) = false) : am_D E (d + 9) tX8_minutes [.ref 0, .int w, .int x, .int y] (am_L (xo i j a W)) 0 0 (some (.int (-1))) (am_L (xo i j a W)) := by
  refine am_D_of (Nat.le_of_ble_eq_true rfl) ?_
  refine ev_go 999 rfl trivial ?_
  refine ev_call0 rfl (Nat.le_of_ble_eq_true rfl) (fun _ => ⟨_, _, _, rfl, rfl⟩) (xo_findWorker_no (d := d + 7) hI hc h) ?_
  refine ev_go 999 rfl trivial ?_
  refine ev_go 999 rfl trivial ?_
  exact ev_ret rfl trivial ⟨rfl, rfl⟩
theorem xo_why_no (hI : INV ri rA) (hc : CX i a ri rA) (h : inB w 0 (ri 19 - 1) = false) : am_D E (d + 9) tX8_why [.ref 0, .int w, .int x, .int y] (am_L (xo i j a W)) 0 0 (some (.int (-1))) (am_L (xo i j a W)) := by
  refine am_D_of (Nat.le_of_ble_eq_true rfl) ?_
  refine ev_go 999 rfl trivial ?_
  refine ev_call0 rfl (Nat.le_of_ble_eq_true rfl) (fun _ => ⟨_, _, _, rfl, rfl⟩) (xo_findWorker_no (d := d + 7) hI hc h) ?_
  refine ev_go 999 rfl trivial ?_
  refine ev_go 999 rfl trivial ?_
  exact ev_ret rfl trivial ⟨rfl, rfl⟩
theorem xo_shifts_no (hI : INV ri rA) (hc : CX i a ri rA) (h : inB w 0 (ri 19 - 1) = false) : am_D E (d + 9) tX8_shifts [.ref 0, .int w, .int x, .int y] (am_L (xo i j a W)) 0 0 (some (.int (-1))) (am_L (xo i j a W)) := by
  refine am_D_of (Nat.le_of_ble_eq_true rfl) ?_
  refine ev_go 999 rfl trivial ?_
  refine ev_call0 rfl (Nat.le_of_ble_eq_true rfl) (fun _ => ⟨_, _, _, rfl, rfl⟩) (xo_findWorker_no (d := d + 7) hI hc h) ?_
  refine ev_go 999 rfl trivial ?_
  refine ev_go 999 rfl trivial ?_
  exact ev_ret rfl trivial ⟨rfl, rfl⟩
theorem xo_marked_no (hI : INV ri rA) (hc : CX i a ri rA) (h : inB w 0 (ri 19 - 1) = false) : am_D E (d + 9) tX8_marked [.ref 0, .int w, .int x, .int y] (am_L (xo i j a W)) 0 0 (some (.int (-1))) (am_L (xo i j a W)) := by
  refine am_D_of (Nat.le_of_ble_eq_true rfl) ?_
  refine ev_go 999 rfl trivial ?_
  refine ev_call0 rfl (Nat.le_of_ble_eq_true rfl) (fun _ => ⟨_, _, _, rfl, rfl⟩) (xo_findWorker_no (d := d + 7) hI hc h) ?_
  refine ev_go 999 rfl trivial ?_
  refine ev_go 999 rfl trivial ?_
  exact ev_ret rfl trivial ⟨rfl, rfl⟩
theorem xo_absent_no (hI : INV ri rA) (hc : CX i a ri rA) (h : inB w 0 (ri 19 - 1) = false) : am_D E (d + 9) tX8_absent [.ref 0, .int w, .int x, .int y] (am_L (xo i j a W)) 0 0 (some (.int (-1))) (am_L (xo i j a W)) := by
  refine am_D_of (Nat.le_of_ble_eq_true rfl) ?_
  refine ev_go 999 rfl trivial ?_
  refine ev_call0 rfl (Nat.le_of_ble_eq_true rfl) (fun _ => ⟨_, _, _, rfl, rfl⟩) (xo_findWorker_no (d := d + 7) hI hc h) ?_
  refine ev_go 999 rfl trivial ?_
  refine ev_go 999 rfl trivial ?_
  exact ev_ret rfl trivial ⟨rfl, rfl⟩
theorem xo_unmark_no (hI : INV ri rA) (hc : CX i a ri rA) (h : inB w 0 (ri 19 - 1) = false) : am_D E (d + 9) tX8_unmark [.ref 0, .int w, .int x, .int y] (am_L (xo i j a W)) 0 0 (some (.int (-1))) (am_L (xo i j a W)) := by
  refine am_D_of (Nat.le_of_ble_eq_true rfl) ?_
  refine ev_go 999 rfl trivial ?_
  refine ev_call0 rfl (Nat.le_of_ble_eq_true rfl) (fun _ => ⟨_, _, _, rfl, rfl⟩) (xo_findWorker_no (d := d + 7) hI hc h) ?_
  refine ev_go 999 rfl trivial ?_
  refine ev_go 999 rfl trivial ?_
  exact ev_ret rfl trivial ⟨rfl, rfl⟩
theorem xo_month_no (hI : INV ri rA) (hc : CX i a ri rA) (h : inB w 0 (ri 19 - 1) = false) : am_D E (d + 9) tX8_month [.ref 0, .int w, .int x, .int y] (am_L (xo i j a W)) 0 0 (some (.long Int64.minValue)) (am_L (xo i j a W)) := by
  refine am_D_of (Nat.le_of_ble_eq_true rfl) ?_
  refine ev_go 999 rfl trivial ?_
  refine ev_call0 rfl (Nat.le_of_ble_eq_true rfl) (fun _ => ⟨_, _, _, rfl, rfl⟩) (xo_findWorker_no (d := d + 7) hI hc h) ?_
  refine ev_go 999 rfl trivial ?_
  refine ev_go 999 rfl trivial ?_
  exact ev_ret rfl trivial ⟨rfl, rfl⟩
theorem xo_cents_no (hI : INV ri rA) (hc : CX i a ri rA) (h : inB w 0 (ri 19 - 1) = false) : am_D E (d + 9) tX8_cents [.ref 0, .int w, .int x] (am_L (xo i j a W)) 0 0 (some (.long (-1))) (am_L (xo i j a W)) := by
  refine am_D_of (Nat.le_of_ble_eq_true rfl) ?_
  refine ev_go 999 rfl trivial ?_
  refine ev_call0 rfl (Nat.le_of_ble_eq_true rfl) (fun _ => ⟨_, _, _, rfl, rfl⟩) (xo_findWorker_no (d := d + 7) hI hc h) ?_
  refine ev_go 999 rfl trivial ?_
  refine ev_go 999 rfl trivial ?_
  exact ev_ret rfl trivial ⟨rfl, rfl⟩
theorem xo_due_no (hI : INV ri rA) (hc : CX i a ri rA) (h : inB w 0 (ri 19 - 1) = false) : am_D E (d + 9) tX8_due [.ref 0, .int w, .int x] (am_L (xo i j a W)) 0 0 (some (.int (-1))) (am_L (xo i j a W)) := by
  refine am_D_of (Nat.le_of_ble_eq_true rfl) ?_
  refine ev_go 999 rfl trivial ?_
  refine ev_call0 rfl (Nat.le_of_ble_eq_true rfl) (fun _ => ⟨_, _, _, rfl, rfl⟩) (xo_findWorker_no (d := d + 7) hI hc h) ?_
  refine ev_go 999 rfl trivial ?_
  refine ev_go 999 rfl trivial ?_
  exact ev_ret rfl trivial ⟨rfl, rfl⟩
theorem xo_counts_no (hI : INV ri rA) (hc : CX i a ri rA) (h : inB w 0 (ri 19 - 1) = false) : am_D E (d + 9) tX8_counts [.ref 0, .int w, .int x, .int y, .int z, .int u] (am_L (xo i j a W)) 0 0 (some (.int (-1))) (am_L (xo i j a W)) := by
  refine am_D_of (Nat.le_of_ble_eq_true rfl) ?_
  refine ev_go 999 rfl trivial ?_
  refine ev_call0 rfl (Nat.le_of_ble_eq_true rfl) (fun _ => ⟨_, _, _, rfl, rfl⟩) (xo_findWorker_no (d := d + 7) hI hc h) ?_
  refine ev_go 999 rfl trivial ?_
  refine ev_go 999 rfl trivial ?_
  exact ev_ret rfl trivial ⟨rfl, rfl⟩
theorem xo_enter_no (hI : INV ri rA) (hc : CX i a ri rA) (h : inB w 0 (ri 19 - 1) = false) : am_D E (d + 9) tX8_enter [.ref 0, .int w, .int x, .int y, .int z, .int u] (am_L (xo i j a W)) 0 0 (some (.int (-1))) (am_L (xo i j a W)) := by
  refine am_D_of (Nat.le_of_ble_eq_true rfl) ?_
  refine ev_go 999 rfl trivial ?_
  refine ev_call0 rfl (Nat.le_of_ble_eq_true rfl) (fun _ => ⟨_, _, _, rfl, rfl⟩) (xo_findWorker_no (d := d + 7) hI hc h) ?_
  refine ev_go 999 rfl trivial ?_
  refine ev_go 999 rfl trivial ?_
  exact ev_ret rfl trivial ⟨rfl, rfl⟩
theorem xo_mark_no (hI : INV ri rA) (hc : CX i a ri rA) (h : inB w 0 (ri 19 - 1) = false) : am_D E (d + 10) tX8_mark [.ref 0, .int w, .int x, .int y, .int z] (am_L (xo i j a W)) 0 0 (some (.int (-1))) (am_L (xo i j a W)) := by
  refine am_D_of (Nat.le_of_ble_eq_true rfl) ?_
  refine ev_go 999 rfl trivial ?_
  refine ev_call0 rfl (Nat.le_of_ble_eq_true rfl) (fun _ => ⟨_, _, _, rfl, rfl⟩) (xo_enter_no (d := d) hI hc h) ?_
  exact ev_ret rfl trivial ⟨rfl, rfl⟩
theorem xo_late_no (hI : INV ri rA) (hc : CX i a ri rA) (h : inB w 0 (ri 19 - 1) = false) : am_D E (d + 10) tX8_late [.ref 0, .int w, .int x, .int y, .int z] (am_L (xo i j a W)) 0 0 (some (.int (-1))) (am_L (xo i j a W)) := by
  refine am_D_of (Nat.le_of_ble_eq_true rfl) ?_
  refine ev_go 999 rfl trivial ?_
  refine ev_call0 rfl (Nat.le_of_ble_eq_true rfl) (fun _ => ⟨_, _, _, rfl, rfl⟩) (xo_enter_no (d := d) hI hc h) ?_
  exact ev_ret rfl trivial ⟨rfl, rfl⟩
end XO
section AB
variable {E : am_E} {d : Nat} {i ri : Nat → Int32} {j : Nat → Int64} {a rA : Nat → Nat → Int32} {b rb : Nat → Nat → Int64} {W : Nat → Option Nat} {w : Int32}
theorem x7_addAbsence {g n : Nat} {f t : Int32} (hn : n < 20) (hab : i 67 = nI n) : am_D E (d + 1) tX7_addAbsence [.ref 62, .int f, .int t] (am_L (xw i j a b W g)) 0 0 none (am_L (xw (va_up i 67 (nI (n + 1))) j (va_up (va_up a 67 (upd (a 67) n f)) 68 (upd (a 68) n t)) b W g)) := by
  have v : vp_in (i 67) 20 := by rw [hab]; exact vp_in_nI hn (by omega)
  have ck : (i 67).toNatClampNeg = n := by rw [hab]; exact nI_clamp (by omega)
  refine am_D_of (Nat.le_of_ble_eq_true rfl) ?_
  refine ev_go 999 rfl trivial ?_
  refine ev_neg (by show ¬ nI 20 ≤ i 67; rw [hab]; exact nI_ge hn (by omega)) ?_
  refine ev_go 19 rfl ⟨v, trivial⟩ ?_
  refine ev_M (show _ = am_L (xw i j (va_up a 67 (upd (a 67) n f)) b W g) by rw [am_w_L (Nat.le_of_ble_eq_true rfl), ck]; rfl) ?_
  refine ev_go 29 rfl ⟨v, trivial⟩ ?_
  refine ev_M (show _ = am_L (xw i j (va_up (va_up a 67 (upd (a 67) n f)) 68 (upd (a 68) n t)) b W g) by rw [am_w_L (Nat.le_of_ble_eq_true rfl), ck]; rfl) ?_
  refine ev_go 39 rfl trivial ?_
  refine ev_M (show _ = am_L (xw (va_up i 67 (nI (n + 1))) j (va_up (va_up a 67 (upd (a 67) n f)) 68 (upd (a 68) n t)) b W g) by rw [am_w_L (Nat.le_of_ble_eq_true rfl), ← nI_1 n, ← hab]; rfl) ?_
  exact ev_ret rfl trivial ⟨rfl, rfl⟩
theorem x8_absent {f t : Int32} (h : XH E i a b W ri rA rb w) : ∃ i' a', CX i' a' ri (abA ri rA w f t) ∧ CW i' a' b (abA ri rA w f t) rb (cl w) ∧ am_D E (d + 10) tX8_absent [.ref 0, .int w, .int f, .int t] (am_L (xw i j a b W (gA rA (cl w)))) 0 0 (some (.int (abQ ri rA w f t))) (am_L (xw i' j a' b W (gA rA (cl w)))) := by
  have hfw := x8_findWorker (d := d + 8) (j := j) (g := gA rA (cl w)) h
  have ha := h.inv.wa _ h.w30
  have hb20 := ha.2
  have e67 : i 67 = nI (cl (rA 18 (cl w))) := by rw [h.cw.ab]; exact ha.1
  unfold abA abQ abOK abC
  rw [h.ok, Bool.true_and]
  cases h2 : inB f 0 1095 with
  | false =>
    refine ⟨i, a, h.cx, h.cw, ?_⟩
    refine am_D_of (Nat.le_of_ble_eq_true rfl) ?_
    refine ev_go 999 rfl trivial ?_
    refine ev_call0 rfl (Nat.le_of_ble_eq_true rfl) (fun _ => ⟨_, _, _, rfl, rfl⟩) hfw ?_
    refine ev_go 999 rfl trivial ?_
    refine ev_go 999 rfl trivial ?_
    refine ev_call0 rfl (Nat.le_of_ble_eq_true rfl) (fun z => by cases z) (x8_isDay (d := d + 7) (v := f)) ?_
    rw [h2]
    refine ev_go 999 rfl trivial ?_
    first | refine ev_pos (by decide) ?_ | refine ev_neg (by decide) ?_
    refine ev_go 999 rfl trivial ?_
    exact ev_ret rfl trivial ⟨rfl, rfl⟩
  | true =>
  rw [Bool.true_and]
  cases h3 : inB t 0 1095 with
  | false =>
    refine ⟨i, a, h.cx, h.cw, ?_⟩
    refine am_D_of (Nat.le_of_ble_eq_true rfl) ?_
    refine ev_go 999 rfl trivial ?_
    refine ev_call0 rfl (Nat.le_of_ble_eq_true rfl) (fun _ => ⟨_, _, _, rfl, rfl⟩) hfw ?_
    refine ev_go 999 rfl trivial ?_
    refine ev_go 999 rfl trivial ?_
    refine ev_call0 rfl (Nat.le_of_ble_eq_true rfl) (fun z => by cases z) (x8_isDay (d := d + 7) (v := f)) ?_
    rw [h2]
    refine ev_go 999 rfl trivial ?_
    first | refine ev_pos (by decide) ?_ | refine ev_neg (by decide) ?_
    refine ev_go 999 rfl trivial ?_
    refine ev_call0 rfl (Nat.le_of_ble_eq_true rfl) (fun z => by cases z) (x8_isDay (d := d + 7) (v := t)) ?_
    rw [h3]
    refine ev_go 999 rfl trivial ?_
    first | refine ev_pos (by decide) ?_ | refine ev_neg (by decide) ?_
    refine ev_go 999 rfl trivial ?_
    exact ev_ret rfl trivial ⟨rfl, rfl⟩
  | true =>
  rw [if_pos rfl, Bool.true_and]
  have A0 : ∀ {P : Option Value → am_M → Prop}, am_ev E (d + 9) tX8_absent (28, [some (.ref 0), some (.int w), some (.int f), some (.int t), some (.ref 62)], [], am_L (xw i j a b W (gA rA (cl w))), 0, 0) P → am_ev E (d + 9) tX8_absent (0, [some (.ref 0), some (.int w), some (.int f), some (.int t), none], [], am_L (xw i j a b W (gA rA (cl w))), 0, 0) P := fun {P} kk => by
    refine ev_go 999 rfl trivial ?_
    refine ev_call0 rfl (Nat.le_of_ble_eq_true rfl) (fun _ => ⟨_, _, _, rfl, rfl⟩) hfw ?_
    refine ev_go 999 rfl trivial ?_
    refine ev_go 999 rfl trivial ?_
    refine ev_call0 rfl (Nat.le_of_ble_eq_true rfl) (fun z => by cases z) (x8_isDay (d := d + 7) (v := f)) ?_
    rw [h2]
    refine ev_go 999 rfl trivial ?_
    first | refine ev_pos (by decide) ?_ | refine ev_neg (by decide) ?_
    refine ev_go 999 rfl trivial ?_
    refine ev_call0 rfl (Nat.le_of_ble_eq_true rfl) (fun z => by cases z) (x8_isDay (d := d + 7) (v := t)) ?_
    rw [h3]
    refine ev_go 999 rfl trivial ?_
    first | refine ev_pos (by decide) ?_ | refine ev_neg (by decide) ?_
    exact kk
  by_cases hft : f ≤ t
  · rw [if_pos hft, decide_eq_true hft, Bool.true_and]
    by_cases hn : cl (rA 18 (cl w)) < 20
    · rw [if_pos hn, decide_eq_true hn, if_pos rfl]
      have hadd := x7_addAbsence (E := E) (d := d + 8) (i := i) (j := j) (a := a) (b := b) (W := W) (g := gA rA (cl w)) (f := f) (t := t) hn e67
      obtain ⟨n, hnd⟩ : ∃ n, n = cl (rA 18 (cl w)) := ⟨_, rfl⟩
      rw [← hnd] at hadd hn ⊢
      refine ⟨va_up i 67 (nI (n + 1)), va_up (va_up a 67 (upd (a 67) n f)) 68 (upd (a 68) n t), ?_, ?_, ?_⟩
      · obtain ⟨c1, c2, c3, c4, c5, c6, c7, c8, c9, c10, c11, c12, c13, c14⟩ := h.cx
        have o : ∀ p, p < 62 → va_up (va_up a 67 (upd (a 67) n f)) 68 (upd (a 68) n t) p = a p := fun p hp => by rw [va_n (by omega), va_n (by omega)]
        refine ⟨c1, c2, c3, c4, c5, c6, fun g hg => ?_, fun g k hg hk => ?_, fun g k hg hk => ?_, c10, fun k q hk hq => ?_, c12, c13, c14⟩
        · show va_up i 67 (nI (n + 1)) (20 + 3 * g) = nI g ∧ va_up i 67 (nI (n + 1)) (21 + 3 * g) = rA 14 g ∧ va_up i 67 (nI (n + 1)) (22 + 3 * g) = rA 15 g
          rw [va_n (by omega), va_n (by omega), va_n (by omega)]; exact c7 g hg
        · rw [o _ (by omega)]; exact c8 g k hg hk
        · rw [o _ (by omega)]; exact c9 g k hg hk
        · rw [o _ (by omega), o _ (by omega)]; exact c11 k q hk hq
      · obtain ⟨c1, c2, c3, c4, c5, c6, c7, c8⟩ := h.cw
        rw [← hnd] at c7
        refine ⟨c1, c2, ?_, c4, c5, c6, fun k hk => ?_, c8⟩
        · rw [va_s, va_s]; unfold upd; rw [if_pos rfl]
        · have hk : k < cl (upd (rA 18) (cl w) (nI (n + 1)) (cl w)) := hk
          unfold upd at hk
          rw [if_pos rfl, cl_nI (by omega)] at hk
          show upd (a 67) n f k = upd (rA 19) (20 * cl w + n) f (20 * cl w + k) ∧ upd (a 68) n t k = upd (rA 20) (20 * cl w + n) t (20 * cl w + k)
          unfold upd
          by_cases z : k = n
          · rw [if_pos z, if_pos z, if_pos (by omega), if_pos (by omega)]; exact ⟨rfl, rfl⟩
          · rw [if_neg z, if_neg z, if_neg (by omega), if_neg (by omega)]; exact c7 k (by omega)
      · refine am_D_of (Nat.le_of_ble_eq_true rfl) ?_
        refine A0 ?_
        refine ev_go 999 rfl trivial ?_
        refine ev_pos hft ?_
        refine ev_go 999 rfl trivial ?_
        refine ev_pos (by show i 67 < nI 20; rw [e67, ← hnd]; exact nI_lt hn (by omega)) ?_
        refine ev_go 999 rfl trivial ?_
        refine ev_call0 rfl (Nat.le_of_ble_eq_true rfl) (fun _ => ⟨_, _, _, rfl, rfl⟩) hadd ?_
        refine ev_go 999 rfl trivial ?_
        exact ev_ret rfl trivial ⟨rfl, rfl⟩
    · rw [if_neg hn, decide_eq_false hn, if_neg (by decide)]
      refine ⟨i, a, h.cx, h.cw, ?_⟩
      refine am_D_of (Nat.le_of_ble_eq_true rfl) ?_
      refine A0 ?_
      refine ev_go 999 rfl trivial ?_
      refine ev_pos hft ?_
      refine ev_go 999 rfl trivial ?_
      refine ev_neg (by show ¬ i 67 < nI 20; rw [e67]; exact nI_nlt (by omega) (by omega)) ?_
      refine ev_go 999 rfl trivial ?_
      exact ev_ret rfl trivial ⟨rfl, rfl⟩
  · rw [if_neg hft, decide_eq_false hft, Bool.false_and, if_neg (by decide)]
    refine ⟨i, a, h.cx, h.cw, ?_⟩
    refine am_D_of (Nat.le_of_ble_eq_true rfl) ?_
    refine A0 ?_
    refine ev_go 999 rfl trivial ?_
    refine ev_neg hft ?_
    refine ev_go 999 rfl trivial ?_
    exact ev_ret rfl trivial ⟨rfl, rfl⟩
end AB
