section XO
variable {E : am_E} {d : Nat} {i ri : Nat → Int32} {j : Nat → Int64} {a rA : Nat → Nat → Int32} {W : Nat → Option Nat}
theorem xo_rate {g f c : Int32} (hI : INV ri rA) (hc : CX i a ri rA) : ∃ i' a', CX i' a' (rtI ri g f c) (rtT ri rA g f c) ∧ am_D E (d + 9) tX8_rate [.ref 0, .int g, .int f, .int c] (am_L (xo i j a W)) 0 0 (some (.int (rtQ ri g f c))) (am_L (xo i' j a' W)) := by
  unfold rtI rtT rtQ rtOK gdC
  have h9 := hI.r9
  have e4 : i 4 = nI (cl (ri 9)) := by rw [hc.i4]; exact h9.1
  have h9b := h9.2
  cases h : inB g 0 5 with
  | false =>
    refine ⟨i, a, hc, ?_⟩
    refine am_D_of (Nat.le_of_ble_eq_true rfl) ?_
    refine ev_go 999 rfl trivial ?_
    refine ev_call0 rfl (Nat.le_of_ble_eq_true rfl) (fun _ => ⟨_, _, _, rfl, rfl⟩) (xo_findGroup_no (d := d + 6) h) ?_
    refine ev_go 999 rfl trivial ?_
    refine ev_go 999 rfl trivial ?_
    exact ev_ret rfl trivial ⟨rfl, rfl⟩
  | true =>
  have hfg := xo_findGroup (E := E) (d := d + 6) (i := i) (j := j) (a := a) (W := W) h
  rw [Bool.true_and]
  cases h2 : inB f 0 1095 with
  | false =>
    refine ⟨i, a, hc, ?_⟩
    refine am_D_of (Nat.le_of_ble_eq_true rfl) ?_
    refine ev_go 999 rfl trivial ?_
    refine ev_call0 rfl (Nat.le_of_ble_eq_true rfl) (fun _ => ⟨_, _, _, rfl, rfl⟩) hfg ?_
    refine ev_go 999 rfl trivial ?_
    refine ev_go 999 rfl trivial ?_
    refine ev_call0 rfl (Nat.le_of_ble_eq_true rfl) (fun z => by cases z) (x8_isDay (d := d + 6) (v := f)) ?_
    rw [h2]
    refine ev_go 999 rfl trivial ?_
    first | refine ev_pos (by decide) ?_ | refine ev_neg (by decide) ?_
    refine ev_go 999 rfl trivial ?_
    exact ev_ret rfl trivial ⟨rfl, rfl⟩
  | true =>
  rw [if_pos rfl, Bool.true_and]
  cases h3 : inB c 0 100000 with
  | false =>
    refine ⟨i, a, hc, ?_⟩
    refine am_D_of (Nat.le_of_ble_eq_true rfl) ?_
    refine ev_go 999 rfl trivial ?_
    refine ev_call0 rfl (Nat.le_of_ble_eq_true rfl) (fun _ => ⟨_, _, _, rfl, rfl⟩) hfg ?_
    refine ev_go 999 rfl trivial ?_
    refine ev_go 999 rfl trivial ?_
    refine ev_call0 rfl (Nat.le_of_ble_eq_true rfl) (fun z => by cases z) (x8_isDay (d := d + 6) (v := f)) ?_
    rw [h2]
    refine ev_go 999 rfl trivial ?_
    first | refine ev_pos (by decide) ?_ | refine ev_neg (by decide) ?_
    refine ev_go 999 rfl trivial ?_
    refine ev_call0 rfl (Nat.le_of_ble_eq_true rfl) (fun z => by cases z) (x8_isWithin (d := d + 7) (v := c) (lo := 0) (hi := 100000)) ?_
    rw [h3]
    refine ev_go 999 rfl trivial ?_
    first | refine ev_pos (by decide) ?_ | refine ev_neg (by decide) ?_
    refine ev_go 999 rfl trivial ?_
    exact ev_ret rfl trivial ⟨rfl, rfl⟩
  | true =>
  rw [if_pos rfl, Bool.true_and]
  have A0 : ∀ {P : Option Value → am_M → Prop}, am_ev E (d + 8) tX8_rate (30, [some (.ref 0), some (.int g), some (.int f), some (.int c)], [], am_L (xo i j a W), 0, 0) P → am_ev E (d + 8) tX8_rate (0, [some (.ref 0), some (.int g), some (.int f), some (.int c)], [], am_L (xo i j a W), 0, 0) P := fun {P} kk => by
    refine ev_go 999 rfl trivial ?_
    refine ev_call0 rfl (Nat.le_of_ble_eq_true rfl) (fun _ => ⟨_, _, _, rfl, rfl⟩) hfg ?_
    refine ev_go 999 rfl trivial ?_
    refine ev_go 999 rfl trivial ?_
    refine ev_call0 rfl (Nat.le_of_ble_eq_true rfl) (fun z => by cases z) (x8_isDay (d := d + 6) (v := f)) ?_
    rw [h2]
    refine ev_go 999 rfl trivial ?_
    first | refine ev_pos (by decide) ?_ | refine ev_neg (by decide) ?_
    refine ev_go 999 rfl trivial ?_
    refine ev_call0 rfl (Nat.le_of_ble_eq_true rfl) (fun z => by cases z) (x8_isWithin (d := d + 7) (v := c) (lo := 0) (hi := 100000)) ?_
    rw [h3]
    refine ev_go 999 rfl trivial ?_
    first | refine ev_pos (by decide) ?_ | refine ev_neg (by decide) ?_
    exact kk
  by_cases hn : cl (ri 9) < 60
  · rw [if_pos hn, decide_eq_true hn, if_pos rfl, if_pos rfl]
    have hA := x2_add (E := E) (d := d + 7) (G := a 5) (D := a 6) (A := a 7) (g := g) (y := f) (c := c) hn
    rw [← e4] at hA
    have hA2 := lo_ra (j := j) (W := W) hA
    refine ⟨va_up i 4 (nI (cl (ri 9) + 1)), va_up (va_up (va_up a 5 (upd (a 5) (cl (ri 9)) g)) 6 (upd (a 6) (cl (ri 9)) f)) 7 (upd (a 7) (cl (ri 9)) c), ?_, ?_⟩
    · have hl := hc.low (i' := va_up i 4 (nI (cl (ri 9) + 1))) (a' := va_up (va_up (va_up a 5 (upd (a 5) (cl (ri 9)) g)) 6 (upd (a 6) (cl (ri 9)) f)) 7 (upd (a 7) (cl (ri 9)) c)) (rA' := va_up (va_up (va_up rA 5 (upd (rA 5) (cl (ri 9)) g)) 6 (upd (rA 6) (cl (ri 9)) f)) 7 (upd (rA 7) (cl (ri 9)) c)) (fun k hk => va_n (by omega)) (fun p hp => by rw [va_n (by omega), va_n (by omega), va_n (by omega)]) rfl rfl rfl rfl rfl rfl
      obtain ⟨c1, c2, c3, c4, c5, c6, c7, c8, c9, c10, c11, c12, c13, c14⟩ := hc
      refine ⟨c1, c2, c3, c4, ?_, c6, hl.1, hl.2.1, hl.2.2.1, c10, hl.2.2.2, fun k hk => ?_, c13, c14⟩
      · rw [va_s, va_s]
      · have hk : k < cl (nI (cl (ri 9) + 1)) := hk
        rw [cl_nI (by omega)] at hk
        show upd (a 5) (cl (ri 9)) g k = upd (rA 5) (cl (ri 9)) g k ∧ upd (a 6) (cl (ri 9)) f k = upd (rA 6) (cl (ri 9)) f k ∧ upd (a 7) (cl (ri 9)) c k = upd (rA 7) (cl (ri 9)) c k
        unfold upd
        by_cases z : k = cl (ri 9)
        · rw [if_pos z, if_pos z, if_pos z, if_pos z, if_pos z, if_pos z]; exact ⟨rfl, rfl, rfl⟩
        · rw [if_neg z, if_neg z, if_neg z, if_neg z, if_neg z, if_neg z]; exact c12 k (by omega)
    · refine am_D_of (Nat.le_of_ble_eq_true rfl) ?_
      refine A0 ?_
      refine ev_go 999 rfl trivial ?_
      refine ev_pos (by show i 4 < nI 60; rw [e4]; exact nI_lt hn (by omega)) ?_
      refine ev_go 999 rfl trivial ?_
      refine ev_call0 rfl (Nat.le_of_ble_eq_true rfl) (fun _ => ⟨_, _, _, rfl, rfl⟩) hA2 ?_
      refine ev_go 999 rfl trivial ?_
      exact ev_ret rfl trivial ⟨rfl, rfl⟩
  · rw [if_neg hn, decide_eq_false hn, if_neg (by decide), if_neg (by decide)]
    refine ⟨i, a, hc, ?_⟩
    refine am_D_of (Nat.le_of_ble_eq_true rfl) ?_
    refine A0 ?_
    refine ev_go 999 rfl trivial ?_
    refine ev_neg (by show ¬ i 4 < nI 60; rw [e4]; exact nI_nlt (by omega) (by omega)) ?_
    refine ev_go 999 rfl trivial ?_
    exact ev_ret rfl trivial ⟨rfl, rfl⟩
theorem xo_surcharge {k f t p : Int32} (hI : INV ri rA) (hc : CX i a ri rA) : ∃ i' a', CX i' a' (suI ri k f t p) (suT ri rA k f t p) ∧ am_D E (d + 9) tX8_surcharge [.ref 0, .int k, .int f, .int t, .int p] (am_L (xo i j a W)) 0 0 (some (.int (suQ ri k f t p))) (am_L (xo i' j a' W)) := by
  unfold suI suT suQ suOK suC
  have h9 := hI.s15
  have e8 : i 8 = nI (cl (ri 15)) := by rw [hc.i8]; exact h9.1
  have h9b := h9.2
  cases h1 : inB k 0 255 with
  | false =>
    refine ⟨i, a, hc, ?_⟩
    refine am_D_of (Nat.le_of_ble_eq_true rfl) ?_
    refine ev_go 999 rfl trivial ?_
    refine ev_call0 rfl (Nat.le_of_ble_eq_true rfl) (fun z => by cases z) (x8_isWithin (d := d + 7) (v := k) (lo := 0) (hi := 255)) ?_
    rw [h1]
    refine ev_go 999 rfl trivial ?_
    first | refine ev_pos (by decide) ?_ | refine ev_neg (by decide) ?_
    refine ev_go 999 rfl trivial ?_
    exact ev_ret rfl trivial ⟨rfl, rfl⟩
  | true =>
  cases h2 : inB f 0 1439 with
  | false =>
    refine ⟨i, a, hc, ?_⟩
    refine am_D_of (Nat.le_of_ble_eq_true rfl) ?_
    refine ev_go 999 rfl trivial ?_
    refine ev_call0 rfl (Nat.le_of_ble_eq_true rfl) (fun z => by cases z) (x8_isWithin (d := d + 7) (v := k) (lo := 0) (hi := 255)) ?_
    rw [h1]
    refine ev_go 999 rfl trivial ?_
    first | refine ev_pos (by decide) ?_ | refine ev_neg (by decide) ?_
    refine ev_go 999 rfl trivial ?_
    refine ev_call0 rfl (Nat.le_of_ble_eq_true rfl) (fun z => by cases z) (x8_isMinuteOfDay (d := d + 6) (v := f)) ?_
    rw [h2]
    refine ev_go 999 rfl trivial ?_
    first | refine ev_pos (by decide) ?_ | refine ev_neg (by decide) ?_
    refine ev_go 999 rfl trivial ?_
    exact ev_ret rfl trivial ⟨rfl, rfl⟩
  | true =>
  cases h3 : inB t 0 1439 with
  | false =>
    refine ⟨i, a, hc, ?_⟩
    refine am_D_of (Nat.le_of_ble_eq_true rfl) ?_
    refine ev_go 999 rfl trivial ?_
    refine ev_call0 rfl (Nat.le_of_ble_eq_true rfl) (fun z => by cases z) (x8_isWithin (d := d + 7) (v := k) (lo := 0) (hi := 255)) ?_
    rw [h1]
    refine ev_go 999 rfl trivial ?_
    first | refine ev_pos (by decide) ?_ | refine ev_neg (by decide) ?_
    refine ev_go 999 rfl trivial ?_
    refine ev_call0 rfl (Nat.le_of_ble_eq_true rfl) (fun z => by cases z) (x8_isMinuteOfDay (d := d + 6) (v := f)) ?_
    rw [h2]
    refine ev_go 999 rfl trivial ?_
    first | refine ev_pos (by decide) ?_ | refine ev_neg (by decide) ?_
    refine ev_go 999 rfl trivial ?_
    refine ev_call0 rfl (Nat.le_of_ble_eq_true rfl) (fun z => by cases z) (x8_isMinuteOfDay (d := d + 6) (v := t)) ?_
    rw [h3]
    refine ev_go 999 rfl trivial ?_
    first | refine ev_pos (by decide) ?_ | refine ev_neg (by decide) ?_
    refine ev_go 999 rfl trivial ?_
    exact ev_ret rfl trivial ⟨rfl, rfl⟩
  | true =>
  cases h4 : inB p 0 20000 with
  | false =>
    refine ⟨i, a, hc, ?_⟩
    refine am_D_of (Nat.le_of_ble_eq_true rfl) ?_
    refine ev_go 999 rfl trivial ?_
    refine ev_call0 rfl (Nat.le_of_ble_eq_true rfl) (fun z => by cases z) (x8_isWithin (d := d + 7) (v := k) (lo := 0) (hi := 255)) ?_
    rw [h1]
    refine ev_go 999 rfl trivial ?_
    first | refine ev_pos (by decide) ?_ | refine ev_neg (by decide) ?_
    refine ev_go 999 rfl trivial ?_
    refine ev_call0 rfl (Nat.le_of_ble_eq_true rfl) (fun z => by cases z) (x8_isMinuteOfDay (d := d + 6) (v := f)) ?_
    rw [h2]
    refine ev_go 999 rfl trivial ?_
    first | refine ev_pos (by decide) ?_ | refine ev_neg (by decide) ?_
    refine ev_go 999 rfl trivial ?_
    refine ev_call0 rfl (Nat.le_of_ble_eq_true rfl) (fun z => by cases z) (x8_isMinuteOfDay (d := d + 6) (v := t)) ?_
    rw [h3]
    refine ev_go 999 rfl trivial ?_
    first | refine ev_pos (by decide) ?_ | refine ev_neg (by decide) ?_
    refine ev_go 999 rfl trivial ?_
    refine ev_call0 rfl (Nat.le_of_ble_eq_true rfl) (fun z => by cases z) (x8_isWithin (d := d + 7) (v := p) (lo := 0) (hi := 20000)) ?_
    rw [h4]
    refine ev_go 999 rfl trivial ?_
    first | refine ev_pos (by decide) ?_ | refine ev_neg (by decide) ?_
    refine ev_go 999 rfl trivial ?_
    exact ev_ret rfl trivial ⟨rfl, rfl⟩
  | true =>
  have A0 : ∀ {P : Option Value → am_M → Prop}, am_ev E (d + 8) tX8_surcharge (40, [some (.ref 0), some (.int k), some (.int f), some (.int t), some (.int p)], [], am_L (xo i j a W), 0, 0) P → am_ev E (d + 8) tX8_surcharge (0, [some (.ref 0), some (.int k), some (.int f), some (.int t), some (.int p)], [], am_L (xo i j a W), 0, 0) P := fun {P} kk => by
    refine ev_go 999 rfl trivial ?_
    refine ev_call0 rfl (Nat.le_of_ble_eq_true rfl) (fun z => by cases z) (x8_isWithin (d := d + 7) (v := k) (lo := 0) (hi := 255)) ?_
    rw [h1]
    refine ev_go 999 rfl trivial ?_
    first | refine ev_pos (by decide) ?_ | refine ev_neg (by decide) ?_
    refine ev_go 999 rfl trivial ?_
    refine ev_call0 rfl (Nat.le_of_ble_eq_true rfl) (fun z => by cases z) (x8_isMinuteOfDay (d := d + 6) (v := f)) ?_
    rw [h2]
    refine ev_go 999 rfl trivial ?_
    first | refine ev_pos (by decide) ?_ | refine ev_neg (by decide) ?_
    refine ev_go 999 rfl trivial ?_
    refine ev_call0 rfl (Nat.le_of_ble_eq_true rfl) (fun z => by cases z) (x8_isMinuteOfDay (d := d + 6) (v := t)) ?_
    rw [h3]
    refine ev_go 999 rfl trivial ?_
    first | refine ev_pos (by decide) ?_ | refine ev_neg (by decide) ?_
    refine ev_go 999 rfl trivial ?_
    refine ev_call0 rfl (Nat.le_of_ble_eq_true rfl) (fun z => by cases z) (x8_isWithin (d := d + 7) (v := p) (lo := 0) (hi := 20000)) ?_
    rw [h4]
    refine ev_go 999 rfl trivial ?_
    first | refine ev_pos (by decide) ?_ | refine ev_neg (by decide) ?_
    exact kk
  rw [Bool.true_and, Bool.true_and, Bool.true_and, if_pos rfl, Bool.true_and]
  by_cases hn : cl (ri 15) < 12
  · rw [if_pos hn, decide_eq_true hn, if_pos rfl, if_pos rfl]
    have hA := x5_add (E := E) (d := d + 7) (K := a 9) (F := a 10) (T := a 11) (P := a 12) (X := a 13) (k := k) (f := f) (t := t) (q := p) hn
    rw [← e8] at hA
    have hA2 := lo_su (j := j) (W := W) hA
    refine ⟨va_up i 8 (nI (cl (ri 15) + 1)), va_up (va_up (va_up (va_up (va_up a 9 (upd (a 9) (cl (ri 15)) k)) 10 (upd (a 10) (cl (ri 15)) f)) 11 (upd (a 11) (cl (ri 15)) t)) 12 (upd (a 12) (cl (ri 15)) p)) 13 (a 13), ?_, ?_⟩
    · have hl := hc.low (i' := va_up i 8 (nI (cl (ri 15) + 1))) (a' := va_up (va_up (va_up (va_up (va_up a 9 (upd (a 9) (cl (ri 15)) k)) 10 (upd (a 10) (cl (ri 15)) f)) 11 (upd (a 11) (cl (ri 15)) t)) 12 (upd (a 12) (cl (ri 15)) p)) 13 (a 13)) (rA' := va_up (va_up (va_up (va_up rA 8 (upd (rA 8) (cl (ri 15)) k)) 9 (upd (rA 9) (cl (ri 15)) f)) 10 (upd (rA 10) (cl (ri 15)) t)) 11 (upd (rA 11) (cl (ri 15)) p)) (fun k hk => va_n (by omega)) (fun p hp => by rw [va_n (by omega), va_n (by omega), va_n (by omega), va_n (by omega), va_n (by omega)]) rfl rfl rfl rfl rfl rfl
      obtain ⟨c1, c2, c3, c4, c5, c6, c7, c8, c9, c10, c11, c12, c13, c14⟩ := hc
      refine ⟨c1, c2, c3, c4, c5, ?_, hl.1, hl.2.1, hl.2.2.1, c10, hl.2.2.2, c12, fun s hs => ?_, c14⟩
      · rw [va_s, va_s]
      · have hs : s < cl (nI (cl (ri 15) + 1)) := hs
        rw [cl_nI (by omega)] at hs
        show upd (a 9) (cl (ri 15)) k s = upd (rA 8) (cl (ri 15)) k s ∧ upd (a 10) (cl (ri 15)) f s = upd (rA 9) (cl (ri 15)) f s ∧ upd (a 11) (cl (ri 15)) t s = upd (rA 10) (cl (ri 15)) t s ∧ upd (a 12) (cl (ri 15)) p s = upd (rA 11) (cl (ri 15)) p s
        unfold upd
        by_cases z : s = cl (ri 15)
        · rw [if_pos z, if_pos z, if_pos z, if_pos z, if_pos z, if_pos z, if_pos z, if_pos z]; exact ⟨rfl, rfl, rfl, rfl⟩
        · rw [if_neg z, if_neg z, if_neg z, if_neg z, if_neg z, if_neg z, if_neg z, if_neg z]; exact c13 s (by omega)
    · refine am_D_of (Nat.le_of_ble_eq_true rfl) ?_
      refine A0 ?_
      refine ev_go 999 rfl trivial ?_
      refine ev_pos (by show i 8 < nI 12; rw [e8]; exact nI_lt hn (by omega)) ?_
      refine ev_go 999 rfl trivial ?_
      refine ev_call0 rfl (Nat.le_of_ble_eq_true rfl) (fun _ => ⟨_, _, _, rfl, rfl⟩) hA2 ?_
      refine ev_go 999 rfl trivial ?_
      refine ev_ret rfl trivial ⟨?_, rfl⟩
      show some (Value.int (nI (cl (ri 15) + 1) - 1)) = _
      rw [nI_pred]
  · rw [if_neg hn, decide_eq_false hn, if_neg (by decide), if_neg (by decide)]
    refine ⟨i, a, hc, ?_⟩
    refine am_D_of (Nat.le_of_ble_eq_true rfl) ?_
    refine A0 ?_
    refine ev_go 999 rfl trivial ?_
    refine ev_neg (by show ¬ i 8 < nI 12; rw [e8]; exact nI_nlt (by omega) (by omega)) ?_
    refine ev_go 999 rfl trivial ?_
    exact ev_ret rfl trivial ⟨rfl, rfl⟩
theorem xo_has {s : Int32} (hI : INV ri rA) (hc : CX i a ri rA) : am_D E (d + 1) tX5_has [.ref 8, .int s] (am_L (xo i j a W)) 0 0 (some (.int (bI (inB s 0 (ri 15 - 1))))) (am_L (xo i j a W)) := by
  have h9 := hI.s15
  have e8 : i 8 = nI (cl (ri 15)) := by rw [hc.i8]; exact h9.1
  have hh := x5_has (E := E) (d := d) (K := a 9) (F := a 10) (T := a 11) (P := a 12) (X := a 13) (s := s) (z := cl (ri 15)) h9.2
  rw [← h9.1, ← hc.i8] at hh
  have h2 := lo_su (j := j) (W := W) hh
  rw [va_id, va_id, va_id, va_id, va_id, va_id] at h2
  rw [hc.i8] at h2
  exact h2
theorem xo_exclude {s t : Int32} (hI : INV ri rA) (hc : CX i a ri rA) : ∃ a', CX i a' ri (exT ri rA s t) ∧ am_D E (d + 9) tX8_exclude [.ref 0, .int s, .int t] (am_L (xo i j a W)) 0 0 (some (.int (exQ ri rA s t))) (am_L (xo i j a' W)) := by
  unfold exT exQ exC
  have h9 := hI.s15
  have h9b := h9.2
  have hs := xo_has (E := E) (d := d + 7) (j := j) (W := W) (s := s) hI hc
  have ht := xo_has (E := E) (d := d + 7) (j := j) (W := W) (s := t) hI hc
  cases h1 : inB s 0 (ri 15 - 1) with
  | false =>
    rw [h1] at hs
    refine ⟨a, hc, ?_⟩
    refine am_D_of (Nat.le_of_ble_eq_true rfl) ?_
    refine ev_go 999 rfl trivial ?_
    refine ev_call0 rfl (Nat.le_of_ble_eq_true rfl) (fun _ => ⟨_, _, _, rfl, rfl⟩) (hs) ?_
    rw [show bI false = bI false from rfl]
    refine ev_go 999 rfl trivial ?_
    first | refine ev_pos (by decide) ?_ | refine ev_neg (by decide) ?_
    refine ev_go 999 rfl trivial ?_
    exact ev_ret rfl trivial ⟨rfl, rfl⟩
  | true =>
  rw [h1] at hs
  rw [Bool.true_and]
  cases h2 : inB t 0 (ri 15 - 1) with
  | false =>
    rw [h2] at ht
    refine ⟨a, hc, ?_⟩
    refine am_D_of (Nat.le_of_ble_eq_true rfl) ?_
    refine ev_go 999 rfl trivial ?_
    refine ev_call0 rfl (Nat.le_of_ble_eq_true rfl) (fun _ => ⟨_, _, _, rfl, rfl⟩) (hs) ?_
    rw [show bI true = bI true from rfl]
    refine ev_go 999 rfl trivial ?_
    first | refine ev_pos (by decide) ?_ | refine ev_neg (by decide) ?_
    refine ev_go 999 rfl trivial ?_
    refine ev_call0 rfl (Nat.le_of_ble_eq_true rfl) (fun _ => ⟨_, _, _, rfl, rfl⟩) (ht) ?_
    rw [show bI false = bI false from rfl]
    refine ev_go 999 rfl trivial ?_
    first | refine ev_pos (by decide) ?_ | refine ev_neg (by decide) ?_
    refine ev_go 999 rfl trivial ?_
    exact ev_ret rfl trivial ⟨rfl, rfl⟩
  | true =>
  rw [h2] at ht
  rw [if_pos rfl, Bool.true_and]
  have h1' := h1
  have h2' := h2
  rw [h9.1] at h1' h2'
  obtain ⟨s1, s2⟩ := inW (by omega) h1'
  obtain ⟨t1, t2⟩ := inW (by omega) h2'
  by_cases e : s = t
  · rw [if_pos e, decide_eq_true e, if_neg (by decide)]
    refine ⟨a, hc, ?_⟩
    refine am_D_of (Nat.le_of_ble_eq_true rfl) ?_
    refine ev_go 999 rfl trivial ?_
    refine ev_call0 rfl (Nat.le_of_ble_eq_true rfl) (fun _ => ⟨_, _, _, rfl, rfl⟩) (hs) ?_
    rw [show bI true = bI true from rfl]
    refine ev_go 999 rfl trivial ?_
    first | refine ev_pos (by decide) ?_ | refine ev_neg (by decide) ?_
    refine ev_go 999 rfl trivial ?_
    refine ev_call0 rfl (Nat.le_of_ble_eq_true rfl) (fun _ => ⟨_, _, _, rfl, rfl⟩) (ht) ?_
    rw [show bI true = bI true from rfl]
    refine ev_go 999 rfl trivial ?_
    first | refine ev_pos (by decide) ?_ | refine ev_neg (by decide) ?_
    refine ev_go 999 rfl trivial ?_
    refine ev_neg (fun z => z e) ?_
    refine ev_go 999 rfl trivial ?_
    exact ev_ret rfl trivial ⟨rfl, rfl⟩
  · rw [if_neg e, decide_eq_false e, if_pos (by decide)]
    have est : cl s ≠ cl t := fun z => e (by rw [s1, t1, z])
    have hap := x5_setApart (E := E) (d := d + 7) (K := a 9) (F := a 10) (T := a 11) (P := a 12) (X := a 13) (Z := i 8) (s := cl s) (t := cl t) (xs := fun q => cl (a 13 q)) (by omega) (by omega) est (fun q hq => ⟨(hc.ex q hq).1, (hc.ex q hq).2.1⟩)
    rw [← s1, ← t1] at hap
    have hap2 := lo_su (j := j) (W := W) hap
    rw [va_id, va_id, va_id, va_id, va_id] at hap2
    refine ⟨va_up a 13 (upd (upd (a 13) (cl s) (nI (cl (a 13 (cl s)) ||| 2 ^ cl t))) (cl t) (nI (cl (a 13 (cl t)) ||| 2 ^ cl s))), ?_, ?_⟩
    rotate_left
    · refine am_D_of (Nat.le_of_ble_eq_true rfl) ?_
      refine ev_go 999 rfl trivial ?_
      refine ev_call0 rfl (Nat.le_of_ble_eq_true rfl) (fun _ => ⟨_, _, _, rfl, rfl⟩) (hs) ?_
      rw [show bI true = bI true from rfl]
      refine ev_go 999 rfl trivial ?_
      first | refine ev_pos (by decide) ?_ | refine ev_neg (by decide) ?_
      refine ev_go 999 rfl trivial ?_
      refine ev_call0 rfl (Nat.le_of_ble_eq_true rfl) (fun _ => ⟨_, _, _, rfl, rfl⟩) (ht) ?_
      rw [show bI true = bI true from rfl]
      refine ev_go 999 rfl trivial ?_
      first | refine ev_pos (by decide) ?_ | refine ev_neg (by decide) ?_
      refine ev_go 999 rfl trivial ?_
      refine ev_pos e ?_
      refine ev_go 999 rfl trivial ?_
      refine ev_call0 rfl (Nat.le_of_ble_eq_true rfl) (fun _ => ⟨_, _, _, rfl, rfl⟩) hap2 ?_
      have hx := (hc.ex (cl s) (by omega)).2.2 (cl t) (by omega)
      have eb : (decide (rA 12 (12 * cl s + cl t) = 0)) = !(cl (a 13 (cl s))).testBit (cl t) := by
        rw [hx]
        by_cases z : rA 12 (12 * cl s + cl t) = 0
        · rw [decide_eq_true z, decide_eq_false (fun y => y z)]; rfl
        · rw [decide_eq_false z, decide_eq_true z]; rfl
      rw [eb]
      cases hb : !(cl (a 13 (cl s))).testBit (cl t) with
      | false =>
        refine ev_go 999 rfl trivial ?_
        refine ev_pos (by decide) ?_
        refine ev_go 999 rfl trivial ?_
        exact ev_ret rfl trivial ⟨rfl, rfl⟩
      | true =>
        refine ev_go 999 rfl trivial ?_
        refine ev_neg (by decide) ?_
        refine ev_go 999 rfl trivial ?_
        refine ev_go 999 rfl trivial ?_
        exact ev_ret rfl trivial ⟨rfl, rfl⟩
    · have hex := hc.ex
      have hl := hc.low (i' := i) (a' := va_up a 13 (upd (upd (a 13) (cl s) (nI (cl (a 13 (cl s)) ||| 2 ^ cl t))) (cl t) (nI (cl (a 13 (cl t)) ||| 2 ^ cl s)))) (rA' := va_up rA 12 (upd (upd (rA 12) (12 * cl s + cl t) 1) (12 * cl t + cl s) 1)) (fun k hk => rfl) (fun p hp => va_n (by omega)) rfl rfl rfl rfl rfl rfl
      obtain ⟨c1, c2, c3, c4, c5, c6, c7, c8, c9, c10, c11, c12, c13, c14⟩ := hc
      refine ⟨c1, c2, c3, c4, c5, c6, hl.1, hl.2.1, hl.2.2.1, c10, hl.2.2.2, c12, c13, fun q hq => ?_⟩
      have hor : ∀ u v, u < 12 → v < 12 → cl (a 13 u) ||| 2 ^ v < 4096 := fun u v hu hv => Nat.or_lt_two_pow (n := 12) (hex u hu).2.1 (Nat.pow_lt_pow_right (by omega) hv)
      obtain ⟨val, hval⟩ : ∃ val, val = if q = cl t then cl (a 13 (cl t)) ||| 2 ^ cl s else if q = cl s then cl (a 13 (cl s)) ||| 2 ^ cl t else cl (a 13 q) := ⟨_, rfl⟩
      have hv4 : val < 4096 := by
        rw [hval]
        split
        · exact hor _ _ (by omega) (by omega)
        · split
          · exact hor _ _ (by omega) (by omega)
          · exact (hex q hq).2.1
      have hva : upd (upd (a 13) (cl s) (nI (cl (a 13 (cl s)) ||| 2 ^ cl t))) (cl t) (nI (cl (a 13 (cl t)) ||| 2 ^ cl s)) q = nI val := by
        unfold upd
        rw [hval]
        by_cases z : q = cl t
        · rw [if_pos z, if_pos z]
        · rw [if_neg z, if_neg z]
          by_cases y : q = cl s
          · rw [if_pos y, if_pos y]
          · rw [if_neg y, if_neg y]; exact (hex q hq).1
      rw [va_s, hva, cl_nI (by omega)]
      refine ⟨rfl, hv4, fun r hr => ?_⟩
      show val.testBit r = decide (¬ upd (upd (rA 12) (12 * cl s + cl t) 1) (12 * cl t + cl s) 1 (12 * q + r) = 0)
      unfold upd
      rw [hval]
      by_cases z : q = cl t
      · rw [if_pos z, fb_bit_set, (hex _ (by omega)).2.2 r hr]
        by_cases y : r = cl s
        · rw [decide_eq_true y, Bool.or_true, if_pos (by omega)]; rfl
        · rw [decide_eq_false y, Bool.or_false, if_neg (by omega), if_neg (by omega), z]
      · rw [if_neg z]
        by_cases y : q = cl s
        · rw [if_pos y, fb_bit_set, (hex _ (by omega)).2.2 r hr]
          by_cases u : r = cl t
          · rw [decide_eq_true u, Bool.or_true, if_neg (by omega), if_pos (by omega)]; rfl
          · rw [decide_eq_false u, Bool.or_false, if_neg (by omega), if_neg (by omega), y]
        · rw [if_neg y, if_neg (by omega), if_neg (by omega)]
          exact (hex q hq).2.2 r hr
theorem xo_open (hc : CX i a ri rA) : am_D E (d + 9) tX8_open [.ref 0] (am_L (xo i j a W)) 0 0 (some (.int (ri 39))) (am_L (xo i j a W)) := by
  rw [← hc.i3]
  refine am_D_of (Nat.le_of_ble_eq_true rfl) ?_
  refine ev_go 999 rfl trivial ?_
  exact ev_ret rfl trivial ⟨rfl, rfl⟩
theorem xo_count {w : Int32} (hc : CX i a ri rA) : am_D E (d + 9) tX8_count [.ref 0, .int w] (am_L (xo i j a W)) 0 0 (some (.int (coQ ri w))) (am_L (xo i j a W)) := by
  unfold coQ
  cases h : inB w 0 4 with
  | false =>
    rw [if_neg (by decide)]
    refine am_D_of (Nat.le_of_ble_eq_true rfl) ?_
    refine ev_run 1 rfl trivial ?_
    refine ev_sw rfl (am_sw_out (pc := 1) 4 (by omega) h) ?_
    refine ev_go 999 rfl trivial ?_
    exact ev_ret rfl trivial ⟨rfl, rfl⟩
  | true =>
    rw [if_pos rfl]
    have hw := le0_in (N := 4) (by omega) h
    have wb := hw.2
    rw [hw.1]
    rw [cl_nI (by omega)]
    rcases (show cl w = 0 ∨ cl w = 1 ∨ cl w = 2 ∨ cl w = 3 ∨ cl w = 4 by omega) with e | e | e | e | e <;> rw [e]
    · show am_D E (d + 9) tX8_count [.ref 0, .int (nI 0)] (am_L (xo i j a W)) 0 0 (some (.int (ri 19))) _
      rw [← hc.i1]
      refine am_D_of (Nat.le_of_ble_eq_true rfl) ?_
      refine ev_go 999 rfl trivial ?_
      refine ev_go 999 rfl trivial ?_
      exact ev_ret rfl trivial ⟨rfl, rfl⟩
    · show am_D E (d + 9) tX8_count [.ref 0, .int (nI 1)] (am_L (xo i j a W)) 0 0 (some (.int (ri 2))) _
      rw [← hc.i0]
      refine am_D_of (Nat.le_of_ble_eq_true rfl) ?_
      refine ev_go 999 rfl trivial ?_
      refine ev_go 999 rfl trivial ?_
      exact ev_ret rfl trivial ⟨rfl, rfl⟩
    · show am_D E (d + 9) tX8_count [.ref 0, .int (nI 2)] (am_L (xo i j a W)) 0 0 (some (.int (ri 9))) _
      rw [← hc.i4]
      refine am_D_of (Nat.le_of_ble_eq_true rfl) ?_
      refine ev_go 999 rfl trivial ?_
      refine ev_go 999 rfl trivial ?_
      exact ev_ret rfl trivial ⟨rfl, rfl⟩
    · show am_D E (d + 9) tX8_count [.ref 0, .int (nI 3)] (am_L (xo i j a W)) 0 0 (some (.int (ri 15))) _
      rw [← hc.i8]
      refine am_D_of (Nat.le_of_ble_eq_true rfl) ?_
      refine ev_go 999 rfl trivial ?_
      refine ev_go 999 rfl trivial ?_
      exact ev_ret rfl trivial ⟨rfl, rfl⟩
    · show am_D E (d + 9) tX8_count [.ref 0, .int (nI 4)] (am_L (xo i j a W)) 0 0 (some (.int (ri 26))) _
      rw [← hc.i2]
      refine am_D_of (Nat.le_of_ble_eq_true rfl) ?_
      refine ev_go 999 rfl trivial ?_
      refine ev_go 999 rfl trivial ?_
      exact ev_ret rfl trivial ⟨rfl, rfl⟩
theorem xo_day {g day what : Int32} (hE : E 3 = (37, fun j => am_MS.getD j 0)) (hI : INV ri rA) (hc : CX i a ri rA) : am_D E (d + 9) tX8_day [.ref 0, .int g, .int day, .int what] (am_L (xo i j a W)) 0 0 (some (.int (dayQ rA g day what))) (am_L (xo i j a W)) := by
  unfold dayQ
  refine am_D_of (Nat.le_of_ble_eq_true rfl) ?_
  cases h1 : inB g 0 5 with
  | false =>
    rw [Bool.false_and, if_neg (by decide)]
    refine ev_go 999 rfl trivial ?_
    refine ev_call0 rfl (Nat.le_of_ble_eq_true rfl) (fun _ => ⟨_, _, _, rfl, rfl⟩) (xo_findGroup_no (d := d + 6) h1) ?_
    refine ev_go 999 rfl trivial ?_
    refine ev_go 999 rfl trivial ?_
    exact ev_ret rfl trivial ⟨rfl, rfl⟩
  | true =>
  have hfg := xo_findGroup (E := E) (d := d + 6) (i := i) (j := j) (a := a) (W := W) h1
  refine ev_go 999 rfl trivial ?_
  refine ev_call0 rfl (Nat.le_of_ble_eq_true rfl) (fun _ => ⟨_, _, _, rfl, rfl⟩) hfg ?_
  refine ev_go 999 rfl trivial ?_
  rw [Bool.true_and]
  cases h2 : inB day 0 1095 with
  | false =>
    rw [if_neg (by decide)]
    refine ev_go 999 rfl trivial ?_
    refine ev_call0 rfl (Nat.le_of_ble_eq_true rfl) (fun z => by cases z) (x8_isDay (d := d + 6) (v := day)) ?_
    rw [h2]
    refine ev_go 999 rfl trivial ?_
    first | refine ev_pos (by decide) ?_ | refine ev_neg (by decide) ?_
    refine ev_go 999 rfl trivial ?_
    exact ev_ret rfl trivial ⟨rfl, rfl⟩
  | true =>
  rw [if_pos rfl]
  obtain ⟨d1, d2⟩ := dIn h2
  have g1 := le0_in (N := 5) (by omega) h1
  have gb := g1.2
  have f1 := hc.fe _ d2
  refine ev_go 999 rfl trivial ?_
  refine ev_call0 rfl (Nat.le_of_ble_eq_true rfl) (fun z => by cases z) (x8_isDay (d := d + 6) (v := day)) ?_
  rw [h2]
  refine ev_go 999 rfl trivial ?_
  first | refine ev_pos (by decide) ?_ | refine ev_neg (by decide) ?_
  by_cases q0 : what = 0
  · rw [if_pos q0]
    subst q0
    have hD := x8_monthOf (E := E) (d := d + 7) (M := am_L (xo i j a W)) hE rfl d2
    rw [← d1] at hD
    refine ev_go 999 rfl trivial ?_
    refine ev_go 999 rfl trivial ?_
    refine ev_call0 rfl (Nat.le_of_ble_eq_true rfl) (fun z => by cases z) hD ?_
    exact ev_ret rfl trivial ⟨rfl, rfl⟩
  rw [if_neg q0]
  by_cases q1 : what = 1
  · rw [if_pos q1]
    subst q1
    refine ev_go 999 rfl trivial ?_
    refine ev_go 999 rfl ⟨by rw [d1]; exact vp_in_nI d2 (by omega), trivial⟩ ?_
    refine ev_if (fun h => ?_) (fun h => ?_)
    · have h : a 1 (cl day) = 0 := h
      rw [f1] at h
      rw [if_pos h]
      refine ev_go 999 rfl trivial ?_
      exact ev_ret rfl trivial ⟨rfl, rfl⟩
    · have h : ¬ a 1 (cl day) = 0 := h
      rw [f1] at h
      rw [if_neg h]
      refine ev_go 999 rfl trivial ?_
      refine ev_go 999 rfl trivial ?_
      exact ev_ret rfl trivial ⟨rfl, rfl⟩
  rw [if_neg q1]
  by_cases q2 : what = 2
  · rw [if_pos q2]
    subst q2
    have hD := xo_kindOf (E := E) (d := d + 7) (j := j) (W := W) (h := cl g) (day := cl day) (by omega) d2 hc hI
    rw [← d1] at hD
    refine ev_go 999 rfl trivial ?_
    refine ev_go 999 rfl trivial ?_
    refine ev_call0 rfl (Nat.le_of_ble_eq_true rfl) (fun _ => ⟨_, _, _, rfl, rfl⟩) hD ?_
    exact ev_ret rfl trivial ⟨rfl, rfl⟩
  · rw [if_neg q2]
    refine ev_run 1 rfl trivial ?_
    refine ev_sw rfl (am_sw_out (pc := 22) 2 (by omega) (out2 q0 q1 q2)) ?_
    refine ev_go 999 rfl trivial ?_
    exact ev_ret rfl trivial ⟨rfl, rfl⟩
end XO
