section X8
variable {E : am_E} {d : Nat} {i ri : Nat → Int32} {j : Nat → Int64} {a rA : Nat → Nat → Int32} {b rb : Nat → Nat → Int64} {W : Nat → Option Nat} {g v : Nat} {w : Int32}
/-- the worker's part behind a change of marks -/
theorem CW.rw {T S R : Nat → Int32} {i' : Nat → Int32} {X Y Z : Nat → Int32} {n' : Nat} (hc : CW i a b rA rb v) (hI' : INV ri (rwA rA X Y Z)) (hv : v < 30) (hn : nA (rwA rA X Y Z) v = n') (e62 : i' 62 = i 62) (e67 : i' 67 = i 67) (e63 : i' 63 = nI n') (hT : ∀ k, k < n' → T k = nI (tA (rwA rA X Y Z) v k)) (hS : ∀ k, k < n' → S k = nI (sA (rwA rA X Y Z) v k)) (hR : ∀ k, k < n' → R k = nI (pR (tA (rwA rA X Y Z) v) (sA (rwA rA X Y Z) v) n' k)) : CW i' (va_up (va_up (va_up a 64 T) 65 S) 66 R) b (rwA rA X Y Z) rb v := by
  have hm := hI'.wm v hv
  have o : ∀ p, p < 21 → rwA rA X Y Z p = rA p := fun p hp => rw_o (by omega) (by omega) (by omega)
  obtain ⟨c1, c2, c3, c4, c5, c6, c7, c8⟩ := hc
  rw [hn] at hm
  refine ⟨?_, ?_, ?_, ?_, ?_, ?_, ?_, c8⟩
  · rw [e62, o 17 (by omega)]; exact c1
  · rw [e63]; exact hm.h21.symm
  · rw [e67, o 18 (by omega)]; exact c3
  · rw [hn]; intro k hk; rw [va_n (by decide), va_n (by decide), va_s, hT k hk]; exact (hm.ht k hk).symm
  · rw [hn]; intro k hk; rw [va_n (by decide), va_s, hS k hk]; exact (hm.hs k hk).symm
  · rw [hn]; intro k hk; rw [va_s, hR k hk]; unfold rolA; rw [hn]
  · rw [o 18 (by omega), o 19 (by omega), o 20 (by omega), va_n (by decide), va_n (by decide), va_n (by decide), va_n (by decide), va_n (by decide), va_n (by decide)]; exact c7
theorem nA_rw {X Y Z : Nat → Int32} : nA (rwA rA X Y Z) v = cl (X v) := by unfold nA; rw [rw_21]
theorem gA_rw {X Y Z : Nat → Int32} : gA (rwA rA X Y Z) v = gA rA v := by unfold gA; rw [rw_o (by decide) (by decide) (by decide)]
theorem x8_enter_ok {x s : Nat} {v1 v2 v3 v5 : Int32} (hE : E 3 = (37, fun j => am_MS.getD j 0)) (hI : INV ri rA) (hc : CX i a ri rA) (hcw : CW i a b rA rb v) (hv : v < 30) (hx : x < 1578240) (hs : s ≤ 3) (hst : stA rA v (nI x) = false) (hn : nA rA v < 400) (hT : fb_sm (nA rA) 30 < 1000) (hcl : cl (ri 39) < 36) :
    ∃ i' j' a' b', CX i' a' (va_up ri 26 (ri 26 + 1)) (inA rA v (nI x) (nI s)) ∧ CW i' a' b' (inA rA v (nI x) (nI s)) (bookA (va_up ri 26 (ri 26 + 1)) (inA rA v (nI x) (nI s)) (bookA ri rA rb v (-1)) v 1) v ∧ am_ev E (d + 9) tX8_enter (122, [some (.ref 0), some (.int v1), some (.int v2), some (.int v3), some (.int (nI s)), some (.int v5), some (.ref 62), some (.int (nI x))], [], am_L (xw i j a b W (gA rA v)), 0, 0) (fun v' M'' => v' = some (.int (nI (nA rA v + 1))) ∧ M'' = am_L (xw i' j' a' b' W (gA rA v))) := by
  obtain ⟨i1, j1, a1, b1, sx1, cw1, D1⟩ := x8_book (E := E) (d := d + 2) (i := i) (j := j) (a := a) (W := W) (sg := -1) hE hv hcl hc hcw hI
  have em1 : ((-1 : Int32)).toInt64 = -1 := by decide
  rw [em1] at cw1
  have cx1 := sx1.cx hc
  have hI2 := hI.ins hv hx hs hst hn hT
  obtain ⟨n, hnd⟩ : ∃ n, n = nA rA v := ⟨_, rfl⟩
  have hn' : nA (inA rA v (nI x) (nI s)) v = n + 1 := by
    unfold inA
    rw [nA_rw]
    unfold upd
    rw [if_pos rfl, cl_nI (by omega), hnd]
  have hm2 := hI2.wm v hv
  rw [hn'] at hm2
  have hat := cw1.at (x := nI x)
  have hp4 : atA rA v (nI x) ≤ nA rA v := atA_le
  have key : ∀ (p : Nat) (Aw : Nat → Int32) (y : Int32), (∀ k, k < n → Aw k = rA p (400 * v + k)) → ∀ k, k < n + 1 → insF Aw (atA rA v (nI x)) n y k = insF (rA p) (400 * v + atA rA v (nI x)) (400 * v + n) y (400 * v + k) := fun p Aw y hAw k hk => by
    rw [insF_in (by omega) (by omega)]
    unfold insF
    by_cases z1 : k < atA rA v (nI x)
    · rw [if_pos z1, if_pos z1, hAw k (by omega)]
    · rw [if_neg z1, if_neg z1]
      by_cases z2 : k = atA rA v (nI x)
      · rw [if_pos z2, if_pos z2]
      · rw [if_neg z2, if_neg z2, if_pos (by omega), hAw (k - 1) (by omega)]
  have k1 := fun k hk => key 22 (a1 64) (nI x) (fun k hk => cw1.t k (by rw [← hnd]; exact hk)) k hk
  have k2 := fun k hk => key 23 (a1 65) (nI s) (fun k hk => cw1.s k (by rw [← hnd]; exact hk)) k hk
  obtain ⟨T', S', R', hT', hS', hR', D2⟩ := x1_insert (E := E) (d := d + 6) (T := a1 64) (S := a1 65) (R := a1 66) (x := nI x) (y := nI s) (n := n) (t := tA (inA rA v (nI x) (nI s)) v) (s := sA (inA rA v (nI x) (nI s)) v) (by omega)
    (fun k hk => by rw [hnd, hat, ← hnd, k1 k hk, ← hm2.ht k hk]; unfold inA; rw [rw_22, ← hnd])
    (fun k hk => by rw [hnd, hat, ← hnd, k2 k hk, ← hm2.hs k hk]; unfold inA; rw [rw_23, ← hnd])
    hm2.s3 (fun k hk => by have := hm2.t2 k hk; omega) hm2.inc
  have e63 := cw1.n' hI hv
  rw [hnd, ← e63, ← hnd] at D2
  have L2 := lift_mk (j := j1) (b := b1) (W := W) (g := gA rA v) D2
  obtain ⟨a2, ha2⟩ : ∃ a2, a2 = va_up (va_up (va_up a1 64 T') 65 S') 66 R' := ⟨_, rfl⟩
  obtain ⟨i2, hi2⟩ : ∃ i2, i2 = va_up (va_up i1 63 (nI (n + 1))) 2 (i1 2 + 1) := ⟨_, rfl⟩
  have cx2 : CX i2 a2 (va_up ri 26 (ri 26 + 1)) (inA rA v (nI x) (nI s)) := by
    rw [hi2]
    unfold inA
    exact cx1.rw (fun p hp => by rw [ha2, va_n (by omega), va_n (by omega), va_n (by omega)]) rfl
  have cw2 : CW i2 a2 b1 (inA rA v (nI x) (nI s)) (bookA ri rA rb v (-1)) v := by
    rw [ha2]
    refine CW.rw cw1 hI2 hv hn' ?_ ?_ ?_ hT' hS' hR'
    · rw [hi2, va_n (by decide), va_n (by decide)]
    · rw [hi2, va_n (by decide), va_n (by decide)]
    · rw [hi2, va_n (by decide), va_s]
  have hg2 : gA (inA rA v (nI x) (nI s)) v = gA rA v := by unfold inA; exact gA_rw
  obtain ⟨i3, j3, a3, b3, sx3, cw3, D3⟩ := x8_book (E := E) (d := d + 2) (i := i2) (j := j1) (a := a2) (W := W) (sg := 1) hE hv (by rw [va_n (by decide)]; exact hcl) cx2 cw2 hI2
  have e1 : ((1 : Int32)).toInt64 = 1 := by decide
  rw [e1] at cw3
  rw [hg2] at D3
  refine ⟨i3, j3, a3, b3, sx3.cx cx2, cw3, ?_⟩
  refine ev_go 999 rfl trivial ?_
  refine ev_call0 rfl (Nat.le_of_ble_eq_true rfl) (fun _ => ⟨_, _, _, rfl, rfl⟩) D1 ?_
  refine ev_go 999 rfl trivial ?_
  refine ev_call0 rfl (Nat.le_of_ble_eq_true rfl) (fun _ => ⟨_, _, _, rfl, rfl⟩) L2 ?_
  refine ev_go 151 rfl trivial ?_
  refine ev_M (xw_i2 _) ?_
  refine ev_M (show am_L (xw (va_up (va_up i1 63 (nI (n + 1))) 2 (va_up i1 63 (nI (n + 1)) 2 + 1)) j1 (va_up (va_up (va_up a1 64 T') 65 S') 66 R') b1 W (gA rA v)) = am_L (xw i2 j1 a2 b1 W (gA rA v)) by rw [va_n (show (2 : Nat) ≠ 63 by decide), ← hi2, ← ha2]) ?_
  refine ev_go 999 rfl trivial ?_
  refine ev_call0 rfl (Nat.le_of_ble_eq_true rfl) (fun _ => ⟨_, _, _, rfl, rfl⟩) D3 ?_
  refine ev_go 999 rfl trivial ?_
  refine ev_ret rfl trivial ⟨?_, rfl⟩
  show some (Value.int (i3 63)) = _
  rw [sx3.1 63 (by decide), hi2, va_n (by decide), va_s, hnd]
theorem x8_enter {day mi s : Int32} {beh : Bool} (h : XH E i a b W ri rA rb w) : ∃ i' j' a' b', CX i' a' (cmI ri rA w day mi s beh) (cmA ri rA w day mi s beh) ∧ CW i' a' b' (cmA ri rA w day mi s beh) (cmB ri rA rb w day mi s beh) (cl w) ∧ am_D E (d + 10) tX8_enter [.ref 0, .int w, .int day, .int mi, .int s, .int (bI beh)] (am_L (xw i j a b W (gA rA (cl w)))) 0 0 (some (.int (cmQ ri rA w day mi s beh))) (am_L (xw i' j' a' b' W (gA rA (cl w)))) := by
  have hfw := x8_findWorker (d := d + 8) (j := j) (g := gA rA (cl w)) h
  have hI := h.inv
  have no : ∀ q : Int32, cmOK ri rA w day mi s beh = false → cmQ ri rA w day mi s beh = q → am_ev E (d + 9) tX8_enter (0, [some (.ref 0), some (.int w), some (.int day), some (.int mi), some (.int s), some (.int (bI beh)), none, none], [], am_L (xw i j a b W (gA rA (cl w))), 0, 0) (fun v' M'' => v' = some (.int q) ∧ M'' = am_L (xw i j a b W (gA rA (cl w)))) → ∃ i' j' a' b', CX i' a' (cmI ri rA w day mi s beh) (cmA ri rA w day mi s beh) ∧ CW i' a' b' (cmA ri rA w day mi s beh) (cmB ri rA rb w day mi s beh) (cl w) ∧ am_D E (d + 10) tX8_enter [.ref 0, .int w, .int day, .int mi, .int s, .int (bI beh)] (am_L (xw i j a b W (gA rA (cl w)))) 0 0 (some (.int (cmQ ri rA w day mi s beh))) (am_L (xw i' j' a' b' W (gA rA (cl w)))) := by
    intro q h1 h2 h3
    unfold cmI cmA cmB
    rw [h1, h2, if_neg (by decide), if_neg (by decide), if_neg (by decide)]
    refine ⟨i, j, a, b, h.cx, h.cw, ?_⟩
    refine am_D_of (Nat.le_of_ble_eq_true rfl) ?_
    exact h3
  have A0 : ∀ {P : Option Value → am_M → Prop}, am_ev E (d + 9) tX8_enter (12, [some (.ref 0), some (.int w), some (.int day), some (.int mi), some (.int s), some (.int (bI beh)), some (.ref 62), none], [], am_L (xw i j a b W (gA rA (cl w))), 0, 0) P → am_ev E (d + 9) tX8_enter (0, [some (.ref 0), some (.int w), some (.int day), some (.int mi), some (.int s), some (.int (bI beh)), none, none], [], am_L (xw i j a b W (gA rA (cl w))), 0, 0) P := fun {P} kk => by
    refine ev_go 999 rfl trivial ?_
    refine ev_call0 rfl (Nat.le_of_ble_eq_true rfl) (fun _ => ⟨_, _, _, rfl, rfl⟩) hfw ?_
    refine ev_go 999 rfl trivial ?_
    exact kk
  cases h2 : inB day 0 1095 with
  | false =>
    refine no (-1) (by unfold cmOK okL; rw [h2, Bool.and_false]; rfl) (by unfold cmQ okL; rw [h2, Bool.and_false]; rfl) (A0 ?_)
    refine ev_go 999 rfl trivial ?_
    refine ev_call0 rfl (Nat.le_of_ble_eq_true rfl) (fun z => by cases z) (x8_isDay (d := d + 7) (v := day)) ?_
    rw [h2]
    refine ev_go 999 rfl trivial ?_
    first | refine ev_pos (by decide) ?_ | refine ev_neg (by decide) ?_
    refine ev_go 999 rfl trivial ?_
    exact ev_ret rfl trivial ⟨rfl, rfl⟩
  | true =>
  have hok : okL ri w day = true := okL_t.mpr ⟨h.ok, h2⟩
  obtain ⟨w1, w2, _⟩ := hI.wIn h.ok
  obtain ⟨d1, d2⟩ := dIn h2
  cases h3 : inB mi 0 1439 with
  | false =>
    refine no (-2) (by unfold cmOK cm2; rw [h3, Bool.false_and, Bool.false_and, Bool.false_and, Bool.and_false]; rfl) (by unfold cmQ cm2; rw [hok, h3]; rfl) (A0 ?_)
    refine ev_go 999 rfl trivial ?_
    refine ev_call0 rfl (Nat.le_of_ble_eq_true rfl) (fun z => by cases z) (x8_isDay (d := d + 7) (v := day)) ?_
    rw [h2]
    refine ev_go 999 rfl trivial ?_
    first | refine ev_pos (by decide) ?_ | refine ev_neg (by decide) ?_
    refine ev_go 999 rfl trivial ?_
    refine ev_call0 rfl (Nat.le_of_ble_eq_true rfl) (fun z => by cases z) (x8_isMinuteOfDay (d := d + 7) (v := mi)) ?_
    rw [h3]
    refine ev_go 999 rfl trivial ?_
    first | refine ev_pos (by decide) ?_ | refine ev_neg (by decide) ?_
    refine ev_go 999 rfl trivial ?_
    exact ev_ret rfl trivial ⟨rfl, rfl⟩
  | true =>
  cases h4 : inB s 0 3 with
  | false =>
    refine no (-2) (by unfold cmOK cm2; rw [h4, Bool.and_false, Bool.false_and, Bool.false_and, Bool.and_false]; rfl) (by unfold cmQ cm2; rw [hok, h3, h4]; rfl) (A0 ?_)
    refine ev_go 999 rfl trivial ?_
    refine ev_call0 rfl (Nat.le_of_ble_eq_true rfl) (fun z => by cases z) (x8_isDay (d := d + 7) (v := day)) ?_
    rw [h2]
    refine ev_go 999 rfl trivial ?_
    first | refine ev_pos (by decide) ?_ | refine ev_neg (by decide) ?_
    refine ev_go 999 rfl trivial ?_
    refine ev_call0 rfl (Nat.le_of_ble_eq_true rfl) (fun z => by cases z) (x8_isMinuteOfDay (d := d + 7) (v := mi)) ?_
    rw [h3]
    refine ev_go 999 rfl trivial ?_
    first | refine ev_pos (by decide) ?_ | refine ev_neg (by decide) ?_
    refine ev_go 999 rfl trivial ?_
    refine ev_call0 rfl (Nat.le_of_ble_eq_true rfl) (fun z => by cases z) (x8_isWithin (d := d + 8) (v := s) (lo := 0) (hi := 3)) ?_
    rw [h4]
    refine ev_go 999 rfl trivial ?_
    first | refine ev_pos (by decide) ?_ | refine ev_neg (by decide) ?_
    refine ev_go 999 rfl trivial ?_
    exact ev_ret rfl trivial ⟨rfl, rfl⟩
  | true =>
  have m1 := le0_in (N := 1439) (by omega) h3
  have s1 := le0_in (N := 3) (by omega) h4
  have mb := m1.2
  have sb := s1.2
  have eT := cmT_nI d1 m1.1
  have A1 : ∀ {P : Option Value → am_M → Prop}, am_ev E (d + 9) tX8_enter (38, [some (.ref 0), some (.int w), some (.int day), some (.int mi), some (.int s), some (.int (bI beh)), some (.ref 62), none], [], am_L (xw i j a b W (gA rA (cl w))), 0, 0) P → am_ev E (d + 9) tX8_enter (0, [some (.ref 0), some (.int w), some (.int day), some (.int mi), some (.int s), some (.int (bI beh)), none, none], [], am_L (xw i j a b W (gA rA (cl w))), 0, 0) P := fun {P} kk => by
    refine A0 ?_
    refine ev_go 999 rfl trivial ?_
    refine ev_call0 rfl (Nat.le_of_ble_eq_true rfl) (fun z => by cases z) (x8_isDay (d := d + 7) (v := day)) ?_
    rw [h2]
    refine ev_go 999 rfl trivial ?_
    first | refine ev_pos (by decide) ?_ | refine ev_neg (by decide) ?_
    refine ev_go 999 rfl trivial ?_
    refine ev_call0 rfl (Nat.le_of_ble_eq_true rfl) (fun z => by cases z) (x8_isMinuteOfDay (d := d + 7) (v := mi)) ?_
    rw [h3]
    refine ev_go 999 rfl trivial ?_
    first | refine ev_pos (by decide) ?_ | refine ev_neg (by decide) ?_
    refine ev_go 999 rfl trivial ?_
    refine ev_call0 rfl (Nat.le_of_ble_eq_true rfl) (fun z => by cases z) (x8_isWithin (d := d + 8) (v := s) (lo := 0) (hi := 3)) ?_
    rw [h4]
    refine ev_go 999 rfl trivial ?_
    first | refine ev_pos (by decide) ?_ | refine ev_neg (by decide) ?_
    exact kk
  by_cases h5 : day < rA 17 (cl w)
  · refine no (-2) (by unfold cmOK cm2; rw [decide_eq_true h5, Bool.not_true, Bool.and_false, Bool.false_and, Bool.and_false]; rfl) (by unfold cmQ cm2; rw [hok, decide_eq_true h5, Bool.not_true, Bool.and_false]; rfl) (A1 ?_)
    refine ev_go 999 rfl trivial ?_
    refine ev_neg (by show ¬ i 62 ≤ day; rw [h.cw.f]; exact Int32.not_le.mpr h5) ?_
    refine ev_go 999 rfl trivial ?_
    exact ev_ret rfl trivial ⟨rfl, rfl⟩
  have hto := x8_timeOf (E := E) (d := d + 8) (M := am_L (xw i j a b W (gA rA (cl w)))) (x := day) (y := mi)
  have hst := x8_standsAt (E := E) (d := d + 7) (j := j) (W := W) (g := gA rA (cl w)) (x := cmT day mi) h.cw hI w2
  have A2 : ∀ {P : Option Value → am_M → Prop}, am_ev E (d + 9) tX8_enter (67, [some (.ref 0), some (.int w), some (.int day), some (.int mi), some (.int s), some (.int (bI beh)), some (.ref 62), some (.int (cmT day mi))], [.int (bI (stA rA (cl w) (cmT day mi)))], am_L (xw i j a b W (gA rA (cl w))), 0, 0) P → am_ev E (d + 9) tX8_enter (0, [some (.ref 0), some (.int w), some (.int day), some (.int mi), some (.int s), some (.int (bI beh)), none, none], [], am_L (xw i j a b W (gA rA (cl w))), 0, 0) P := fun {P} kk => by
    refine A1 ?_
    refine ev_go 999 rfl trivial ?_
    refine ev_pos (by show i 62 ≤ day; rw [h.cw.f]; exact Int32.not_lt.mp h5) ?_
    refine ev_go 999 rfl trivial ?_
    refine ev_call0 rfl (Nat.le_of_ble_eq_true rfl) (fun z => by cases z) hto ?_
    refine ev_go 999 rfl trivial ?_
    refine ev_call0 rfl (Nat.le_of_ble_eq_true rfl) (fun _ => ⟨_, _, _, rfl, rfl⟩) hst ?_
    exact kk
  cases h6 : stA rA (cl w) (cmT day mi) with
  | true =>
    rw [h6] at A2
    refine no (-2) (by unfold cmOK cm2; rw [h6, Bool.not_true, Bool.and_false, Bool.and_false]; rfl) (by unfold cmQ cm2; rw [hok, h6, Bool.not_true, Bool.and_false]; rfl) (A2 ?_)
    refine ev_go 999 rfl trivial ?_
    refine ev_neg (by decide) ?_
    refine ev_go 999 rfl trivial ?_
    exact ev_ret rfl trivial ⟨rfl, rfl⟩
  | false =>
  rw [h6] at A2
  have hc2 : cm2 rA w day mi s = true := by unfold cm2; rw [h3, h4, decide_eq_false h5, h6]; rfl
  have h39 := hI.c39
  have h39b := h39.2
  have e3 : i 3 = nI (cl (ri 39)) := by rw [h.cx.i3]; exact h39.1
  have hic := x8_isClosed (E := E) (d := d + 7) (j := j) (b := b) (W := W) (g := gA rA (cl w)) h.e d2 h.cx hI
  rw [← d1] at hic
  have A3 : ∀ {P : Option Value → am_M → Prop}, am_ev E (d + 9) tX8_enter (78, [some (.ref 0), some (.int w), some (.int day), some (.int mi), some (.int s), some (.int (bI beh)), some (.ref 62), some (.int (cmT day mi))], [.int (bI (decide (mOf (cl day) < cl (ri 39))))], am_L (xw i j a b W (gA rA (cl w))), 0, 0) P → am_ev E (d + 9) tX8_enter (0, [some (.ref 0), some (.int w), some (.int day), some (.int mi), some (.int s), some (.int (bI beh)), none, none], [], am_L (xw i j a b W (gA rA (cl w))), 0, 0) P := fun {P} kk => by
    refine A2 ?_
    refine ev_go 999 rfl trivial ?_
    refine ev_pos (by decide) ?_
    refine ev_go 999 rfl trivial ?_
    refine ev_call0 rfl (Nat.le_of_ble_eq_true rfl) (fun _ => ⟨_, _, _, rfl, rfl⟩) hic ?_
    exact kk
  by_cases h7 : decide (mOf (cl day) < cl (ri 39)) = beh
  · rw [h7] at A3
    by_cases h8 : cl (ri 39) < 36
    · have hc3 : cm3 ri day beh = true := by unfold cm3; rw [decide_eq_true h7, decide_eq_true h8]; rfl
      have hm := hI.wm (cl w) w2
      have n4 := hm.n4
      have e63 := h.cw.n' hI w2
      have h26 := hI.m26
      have e2 : i 2 = nI (fb_sm (nA rA) 30) := by rw [h.cx.i2]; exact h26.1
      have A4 : ∀ {P : Option Value → am_M → Prop}, am_ev E (d + 9) tX8_enter (95, [some (.ref 0), some (.int w), some (.int day), some (.int mi), some (.int s), some (.int (bI beh)), some (.ref 62), some (.int (cmT day mi))], [], am_L (xw i j a b W (gA rA (cl w))), 0, 0) P → am_ev E (d + 9) tX8_enter (0, [some (.ref 0), some (.int w), some (.int day), some (.int mi), some (.int s), some (.int (bI beh)), none, none], [], am_L (xw i j a b W (gA rA (cl w))), 0, 0) P := fun {P} kk => by
        refine A3 ?_
        refine ev_go 999 rfl trivial ?_
        refine ev_neg (fun z => z rfl) ?_
        refine ev_go 999 rfl trivial ?_
        refine ev_pos (by show i 3 < nI 36; rw [e3]; exact nI_lt h8 (by omega)) ?_
        exact kk
      by_cases h9 : nA rA (cl w) < 400
      · by_cases h10 : fb_sm (nA rA) 30 < 1000
        · have hc4 : cm4 rA w = true := by unfold cm4; rw [decide_eq_true h9, decide_eq_true h10]; rfl
          have hOK : cmOK ri rA w day mi s beh = true := by unfold cmOK; rw [hok, hc2, hc3, hc4]; rfl
          have eQ : cmQ ri rA w day mi s beh = nI (nA rA (cl w) + 1) := by unfold cmQ; rw [if_pos hok, if_pos hc2, if_pos hc3, if_pos hc4]
          unfold cmI cmA cmB
          rw [hOK, eQ, if_pos rfl, if_pos rfl, if_pos rfl]
          rw [eT] at h6 ⊢
          obtain ⟨i', j', a', b', cx', cw', hD⟩ := x8_enter_ok (E := E) (d := d) (i := i) (j := j) (a := a) (b := b) (W := W) (x := 1440 * cl day + cl mi) (s := cl s) (v1 := w) (v2 := day) (v3 := mi) (v5 := bI beh) h.e hI h.cx h.cw w2 (by omega) sb h6 h9 h10 h8
          rw [← s1.1] at cx' cw' hD
          refine ⟨i', j', a', b', cx', cw', ?_⟩
          rw [← eT] at hD
          refine am_D_of (Nat.le_of_ble_eq_true rfl) ?_
          refine A4 ?_
          refine ev_go 999 rfl trivial ?_
          refine ev_neg (by show ¬ nI 400 ≤ i 63; rw [e63]; exact nI_ge h9 (by omega)) ?_
          refine ev_go 999 rfl trivial ?_
          refine ev_pos (by show i 2 < nI 1000; rw [e2]; exact nI_lt h10 (by omega)) ?_
          exact hD
        · have hc4 : cm4 rA w = false := by unfold cm4; rw [decide_eq_false h10, Bool.and_false]
          refine no (-4) (by unfold cmOK; rw [hc4, Bool.and_false]) (by unfold cmQ; rw [if_pos hok, if_pos hc2, if_pos hc3, hc4]; rfl) (A4 ?_)
          refine ev_go 999 rfl trivial ?_
          refine ev_neg (by show ¬ nI 400 ≤ i 63; rw [e63]; exact nI_ge h9 (by omega)) ?_
          refine ev_go 999 rfl trivial ?_
          refine ev_neg (by show ¬ i 2 < nI 1000; rw [e2]; exact nI_nlt (by omega) (by omega)) ?_
          refine ev_go 999 rfl trivial ?_
          exact ev_ret rfl trivial ⟨rfl, rfl⟩
      · have hc4 : cm4 rA w = false := by unfold cm4; rw [decide_eq_false h9, Bool.false_and]
        refine no (-4) (by unfold cmOK; rw [hc4, Bool.and_false]) (by unfold cmQ; rw [if_pos hok, if_pos hc2, if_pos hc3, hc4]; rfl) (A4 ?_)
        refine ev_go 999 rfl trivial ?_
        refine ev_pos (by show nI 400 ≤ i 63; rw [e63]; exact nI_le (by omega) (by omega)) ?_
        refine ev_go 999 rfl trivial ?_
        exact ev_ret rfl trivial ⟨rfl, rfl⟩
    · have hc3 : cm3 ri day beh = false := by unfold cm3; rw [decide_eq_false h8, Bool.and_false]
      refine no (-3) (by unfold cmOK; rw [hc3, Bool.and_false, Bool.false_and]) (by unfold cmQ; rw [if_pos hok, if_pos hc2, hc3]; rfl) (A3 ?_)
      refine ev_go 999 rfl trivial ?_
      refine ev_neg (fun z => z rfl) ?_
      refine ev_go 999 rfl trivial ?_
      refine ev_neg (by show ¬ i 3 < nI 36; rw [e3]; exact nI_nlt (by omega) (by omega)) ?_
      refine ev_go 999 rfl trivial ?_
      exact ev_ret rfl trivial ⟨rfl, rfl⟩
  · have hc3 : cm3 ri day beh = false := by unfold cm3; rw [decide_eq_false h7, Bool.false_and]
    refine no (-3) (by unfold cmOK; rw [hc3, Bool.and_false, Bool.false_and]) (by unfold cmQ; rw [if_pos hok, if_pos hc2, hc3]; rfl) (A3 ?_)
    refine ev_go 999 rfl trivial ?_
    refine ev_pos (fun z => h7 (by cases hx : decide (mOf (cl day) < cl (ri 39)) <;> cases beh <;> first | rfl | (rw [hx] at z; revert z; decide))) ?_
    refine ev_go 999 rfl trivial ?_
    exact ev_ret rfl trivial ⟨rfl, rfl⟩
theorem x8_mark {day mi s : Int32} (h : XH E i a b W ri rA rb w) : ∃ i' j' a' b', CX i' a' (cmI ri rA w day mi s false) (cmA ri rA w day mi s false) ∧ CW i' a' b' (cmA ri rA w day mi s false) (cmB ri rA rb w day mi s false) (cl w) ∧ am_D E (d + 11) tX8_mark [.ref 0, .int w, .int day, .int mi, .int s] (am_L (xw i j a b W (gA rA (cl w)))) 0 0 (some (.int (cmQ ri rA w day mi s false))) (am_L (xw i' j' a' b' W (gA rA (cl w)))) := by
  obtain ⟨i', j', a', b', c1, c2, hD⟩ := x8_enter (E := E) (d := d) (j := j) (day := day) (mi := mi) (s := s) (beh := false) h
  refine ⟨i', j', a', b', c1, c2, ?_⟩
  refine am_D_of (Nat.le_of_ble_eq_true rfl) ?_
  refine ev_go 999 rfl trivial ?_
  refine ev_call0 rfl (Nat.le_of_ble_eq_true rfl) (fun _ => ⟨_, _, _, rfl, rfl⟩) hD ?_
  exact ev_ret rfl trivial ⟨rfl, rfl⟩
theorem x8_late {day mi s : Int32} (h : XH E i a b W ri rA rb w) : ∃ i' j' a' b', CX i' a' (cmI ri rA w day mi s true) (cmA ri rA w day mi s true) ∧ CW i' a' b' (cmA ri rA w day mi s true) (cmB ri rA rb w day mi s true) (cl w) ∧ am_D E (d + 11) tX8_late [.ref 0, .int w, .int day, .int mi, .int s] (am_L (xw i j a b W (gA rA (cl w)))) 0 0 (some (.int (cmQ ri rA w day mi s true))) (am_L (xw i' j' a' b' W (gA rA (cl w)))) := by
  obtain ⟨i', j', a', b', c1, c2, hD⟩ := x8_enter (E := E) (d := d) (j := j) (day := day) (mi := mi) (s := s) (beh := true) h
  refine ⟨i', j', a', b', c1, c2, ?_⟩
  refine am_D_of (Nat.le_of_ble_eq_true rfl) ?_
  refine ev_go 999 rfl trivial ?_
  refine ev_call0 rfl (Nat.le_of_ble_eq_true rfl) (fun _ => ⟨_, _, _, rfl, rfl⟩) hD ?_
  exact ev_ret rfl trivial ⟨rfl, rfl⟩
end X8
