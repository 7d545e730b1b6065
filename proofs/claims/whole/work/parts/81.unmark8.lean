section X8
variable {E : am_E} {d : Nat} {i ri : Nat → Int32} {j : Nat → Int64} {a rA : Nat → Nat → Int32} {b rb : Nat → Nat → Int64} {W : Nat → Option Nat} {g v : Nat} {w : Int32}
theorem x8_unmark_ok {x : Nat} {v1 v2 v3 : Int32} (hE : E 3 = (37, fun j => am_MS.getD j 0)) (hI : INV ri rA) (hc : CX i a ri rA) (hcw : CW i a b rA rb v) (hv : v < 30) (hst : stA rA v (nI x) = true) (hcl : cl (ri 39) < 36) :
    ∃ i' j' a' b', CX i' a' (va_up ri 26 (ri 26 - 1)) (unA rA v (nI x)) ∧ CW i' a' b' (unA rA v (nI x)) (bookA (va_up ri 26 (ri 26 - 1)) (unA rA v (nI x)) (bookA ri rA rb v (-1)) v 1) v ∧ am_ev E (d + 9) tX8_unmark (65, [some (.ref 0), some (.int v1), some (.int v2), some (.int v3), some (.ref 62), some (.int (nI x))], [], am_L (xw i j a b W (gA rA v)), 0, 0) (fun v' M'' => v' = some (.int (nI (nA rA v - 1))) ∧ M'' = am_L (xw i' j' a' b' W (gA rA v))) := by
  obtain ⟨i1, j1, a1, b1, sx1, cw1, D1⟩ := x8_book (E := E) (d := d + 2) (i := i) (j := j) (a := a) (W := W) (sg := -1) hE hv hcl hc hcw hI
  have em1 : ((-1 : Int32)).toInt64 = -1 := by decide
  rw [em1] at cw1
  have cx1 := sx1.cx hc
  have hI2 := hI.del hv hst
  have hn4 := (hI.wm v hv).n4
  have hp4 := stA_lt hst
  obtain ⟨n, hnd⟩ : ∃ n, n = nA rA v := ⟨_, rfl⟩
  have hn' : nA (unA rA v (nI x)) v = n - 1 := by
    unfold unA
    rw [nA_rw]
    unfold upd
    rw [if_pos rfl, cl_nI (by omega), hnd]
  have hm2 := hI2.wm v hv
  rw [hn'] at hm2
  have hat := cw1.at (x := nI x)
  have key : ∀ (p : Nat) (Aw : Nat → Int32), (∀ k, k < n → Aw k = rA p (400 * v + k)) → ∀ k, k < n - 1 → remF Aw (atA rA v (nI x)) (n - 1) k = remF (rA p) (400 * v + atA rA v (nI x)) (400 * v + (n - 1)) (400 * v + k) := fun p Aw hAw k hk => by
    rw [remF_in hk]
    unfold remF
    by_cases z1 : k < atA rA v (nI x)
    · rw [if_pos z1, if_pos z1, hAw k (by omega)]
    · rw [if_neg z1, if_neg z1, if_pos hk, hAw (k + 1) (by omega)]
  have k1 := fun k hk => key 22 (a1 64) (fun k hk => cw1.t k (by rw [← hnd]; exact hk)) k hk
  have k2 := fun k hk => key 23 (a1 65) (fun k hk => cw1.s k (by rw [← hnd]; exact hk)) k hk
  have hsta : a1 64 (atA rA v (nI x)) = nI x := by
    rw [cw1.t _ hp4]
    unfold stA at hst
    rw [Bool.and_eq_true_iff] at hst
    exact of_decide_eq_true hst.2
  obtain ⟨T', S', R', hT', hS', hR', D2⟩ := x1_remove (E := E) (d := d + 6) (T := a1 64) (S := a1 65) (R := a1 66) (x := nI x) (n := n) (t := tA (unA rA v (nI x)) v) (s := sA (unA rA v (nI x)) v) (by omega)
    (by rw [hnd, hat]; exact hp4) (by rw [hnd, hat]; exact hsta)
    (fun k hk => by rw [hnd, hat, ← hnd, k1 k hk, ← hm2.ht k hk]; unfold unA; rw [rw_22, ← hnd])
    (fun k hk => by rw [hnd, hat, ← hnd, k2 k hk, ← hm2.hs k hk]; unfold unA; rw [rw_23, ← hnd])
    hm2.s3 (fun k hk => by have := hm2.t2 k hk; omega) hm2.inc
  have e63 := cw1.n' hI hv
  rw [show am_L (mk (nI n) (a1 64) (a1 65) (a1 66)) = am_L (mk (i1 63) (a1 64) (a1 65) (a1 66)) by rw [e63, hnd]] at D2
  have L2 := lift_mk (j := j1) (b := b1) (W := W) (g := gA rA v) D2
  obtain ⟨a2, ha2⟩ : ∃ a2, a2 = va_up (va_up (va_up a1 64 T') 65 S') 66 R' := ⟨_, rfl⟩
  obtain ⟨i2, hi2⟩ : ∃ i2, i2 = va_up (va_up i1 63 (nI (n - 1))) 2 (i1 2 - 1) := ⟨_, rfl⟩
  have cx2 : CX i2 a2 (va_up ri 26 (ri 26 - 1)) (unA rA v (nI x)) := by
    rw [hi2, show ri 26 - 1 = ri 26 + (-1) from Int32.sub_eq_add_neg _ _]
    unfold unA
    exact cx1.rw (fun p hp => by rw [ha2, va_n (by omega), va_n (by omega), va_n (by omega)]) (Int32.sub_eq_add_neg _ _)
  have cw2 : CW i2 a2 b1 (unA rA v (nI x)) (bookA ri rA rb v (-1)) v := by
    rw [ha2]
    refine CW.rw cw1 hI2 hv hn' ?_ ?_ ?_ hT' hS' hR'
    · rw [hi2, va_n (by decide), va_n (by decide)]
    · rw [hi2, va_n (by decide), va_n (by decide)]
    · rw [hi2, va_n (by decide), va_s]
  have hg2 : gA (unA rA v (nI x)) v = gA rA v := by unfold unA; exact gA_rw
  obtain ⟨i3, j3, a3, b3, sx3, cw3, D3⟩ := x8_book (E := E) (d := d + 2) (i := i2) (j := j1) (a := a2) (W := W) (sg := 1) hE hv (by rw [va_n (by decide)]; exact hcl) cx2 cw2 hI2
  have e1 : ((1 : Int32)).toInt64 = 1 := by decide
  rw [e1] at cw3
  rw [hg2] at D3
  refine ⟨i3, j3, a3, b3, sx3.cx cx2, cw3, ?_⟩
  refine ev_go 999 rfl trivial ?_
  refine ev_call0 rfl (Nat.le_of_ble_eq_true rfl) (fun _ => ⟨_, _, _, rfl, rfl⟩) D1 ?_
  refine ev_go 999 rfl trivial ?_
  refine ev_call0 rfl (Nat.le_of_ble_eq_true rfl) (fun _ => ⟨_, _, _, rfl, rfl⟩) L2 ?_
  refine ev_go 92 rfl trivial ?_
  refine ev_M (xw_i2 _) ?_
  refine ev_M (show am_L (xw (va_up (va_up i1 63 (nI (n - 1))) 2 (va_up i1 63 (nI (n - 1)) 2 - 1)) j1 (va_up (va_up (va_up a1 64 T') 65 S') 66 R') b1 W (gA rA v)) = am_L (xw i2 j1 a2 b1 W (gA rA v)) by rw [va_n (show (2 : Nat) ≠ 63 by decide), ← hi2, ← ha2]) ?_
  refine ev_go 999 rfl trivial ?_
  refine ev_call0 rfl (Nat.le_of_ble_eq_true rfl) (fun _ => ⟨_, _, _, rfl, rfl⟩) D3 ?_
  refine ev_go 999 rfl trivial ?_
  refine ev_ret rfl trivial ⟨?_, rfl⟩
  show some (Value.int (i3 63)) = _
  rw [sx3.1 63 (by decide), hi2, va_n (by decide), va_s, hnd]
theorem x8_unmark {day mi : Int32} (h : XH E i a b W ri rA rb w) : ∃ i' j' a' b', CX i' a' (umI ri rA w day mi) (umA ri rA w day mi) ∧ CW i' a' b' (umA ri rA w day mi) (umB ri rA rb w day mi) (cl w) ∧ am_D E (d + 10) tX8_unmark [.ref 0, .int w, .int day, .int mi] (am_L (xw i j a b W (gA rA (cl w)))) 0 0 (some (.int (umQ ri rA w day mi))) (am_L (xw i' j' a' b' W (gA rA (cl w)))) := by
  have hfw := x8_findWorker (d := d + 8) (j := j) (g := gA rA (cl w)) h
  have hI := h.inv
  have no : ∀ q : Int32, umOK ri rA w day mi = false → umQ ri rA w day mi = q → am_ev E (d + 9) tX8_unmark (0, [some (.ref 0), some (.int w), some (.int day), some (.int mi), none, none], [], am_L (xw i j a b W (gA rA (cl w))), 0, 0) (fun v' M'' => v' = some (.int q) ∧ M'' = am_L (xw i j a b W (gA rA (cl w)))) → ∃ i' j' a' b', CX i' a' (umI ri rA w day mi) (umA ri rA w day mi) ∧ CW i' a' b' (umA ri rA w day mi) (umB ri rA rb w day mi) (cl w) ∧ am_D E (d + 10) tX8_unmark [.ref 0, .int w, .int day, .int mi] (am_L (xw i j a b W (gA rA (cl w)))) 0 0 (some (.int (umQ ri rA w day mi))) (am_L (xw i' j' a' b' W (gA rA (cl w)))) := by
    intro q h1 h2 h3
    unfold umI umA umB
    rw [h1, h2, if_neg (by decide), if_neg (by decide), if_neg (by decide)]
    refine ⟨i, j, a, b, h.cx, h.cw, ?_⟩
    refine am_D_of (Nat.le_of_ble_eq_true rfl) ?_
    exact h3
  have A0 : ∀ {P : Option Value → am_M → Prop}, am_ev E (d + 9) tX8_unmark (12, [some (.ref 0), some (.int w), some (.int day), some (.int mi), some (.ref 62), none], [], am_L (xw i j a b W (gA rA (cl w))), 0, 0) P → am_ev E (d + 9) tX8_unmark (0, [some (.ref 0), some (.int w), some (.int day), some (.int mi), none, none], [], am_L (xw i j a b W (gA rA (cl w))), 0, 0) P := fun {P} kk => by
    refine ev_go 999 rfl trivial ?_
    refine ev_call0 rfl (Nat.le_of_ble_eq_true rfl) (fun _ => ⟨_, _, _, rfl, rfl⟩) hfw ?_
    refine ev_go 999 rfl trivial ?_
    exact kk
  cases h2 : inB day 0 1095 with
  | false =>
    refine no (-1) (by unfold umOK okL; rw [h2, Bool.and_false]; rfl) (by unfold umQ okL; rw [h2, Bool.and_false]; rfl) (A0 ?_)
    refine ev_go 999 rfl trivial ?_
    refine ev_call0 rfl (Nat.le_of_ble_eq_true rfl) (fun z => by cases z) (x8_isDay (d := d + 7) (v := day)) ?_
    rw [h2]
    refine ev_go 999 rfl trivial ?_
    first | refine ev_pos (by decide) ?_ | refine ev_neg (by decide) ?_
    refine ev_go 999 rfl trivial ?_
    exact ev_ret rfl trivial ⟨rfl, rfl⟩
  | true =>
  have hok : okL ri w day = true := okL_t.mpr ⟨h.ok, h2⟩
  obtain ⟨w1, w2, _⟩ := hI.wIn h.ok
  obtain ⟨d1, d2⟩ := dIn h2
  cases h3 : inB mi 0 1439 with
  | false =>
    refine no (-2) (by unfold umOK um2; rw [h3, Bool.false_and, Bool.and_false]; rfl) (by unfold umQ um2; rw [hok, h3]; rfl) (A0 ?_)
    refine ev_go 999 rfl trivial ?_
    refine ev_call0 rfl (Nat.le_of_ble_eq_true rfl) (fun z => by cases z) (x8_isDay (d := d + 7) (v := day)) ?_
    rw [h2]
    refine ev_go 999 rfl trivial ?_
    first | refine ev_pos (by decide) ?_ | refine ev_neg (by decide) ?_
    refine ev_go 999 rfl trivial ?_
    refine ev_call0 rfl (Nat.le_of_ble_eq_true rfl) (fun z => by cases z) (x8_isMinuteOfDay (d := d + 7) (v := mi)) ?_
    rw [h3]
    refine ev_go 999 rfl trivial ?_
    first | refine ev_pos (by decide) ?_ | refine ev_neg (by decide) ?_
    refine ev_go 999 rfl trivial ?_
    exact ev_ret rfl trivial ⟨rfl, rfl⟩
  | true =>
  have m1 := le0_in (N := 1439) (by omega) h3
  have mb := m1.2
  have eT := cmT_nI d1 m1.1
  have hto := x8_timeOf (E := E) (d := d + 8) (M := am_L (xw i j a b W (gA rA (cl w)))) (x := day) (y := mi)
  have hst := x8_standsAt (E := E) (d := d + 7) (j := j) (W := W) (g := gA rA (cl w)) (x := cmT day mi) h.cw hI w2
  have A2 : ∀ {P : Option Value → am_M → Prop}, am_ev E (d + 9) tX8_unmark (48, [some (.ref 0), some (.int w), some (.int day), some (.int mi), some (.ref 62), some (.int (cmT day mi))], [.int (bI (stA rA (cl w) (cmT day mi)))], am_L (xw i j a b W (gA rA (cl w))), 0, 0) P → am_ev E (d + 9) tX8_unmark (0, [some (.ref 0), some (.int w), some (.int day), some (.int mi), none, none], [], am_L (xw i j a b W (gA rA (cl w))), 0, 0) P := fun {P} kk => by
    refine A0 ?_
    refine ev_go 999 rfl trivial ?_
    refine ev_call0 rfl (Nat.le_of_ble_eq_true rfl) (fun z => by cases z) (x8_isDay (d := d + 7) (v := day)) ?_
    rw [h2]
    refine ev_go 999 rfl trivial ?_
    first | refine ev_pos (by decide) ?_ | refine ev_neg (by decide) ?_
    refine ev_go 999 rfl trivial ?_
    refine ev_call0 rfl (Nat.le_of_ble_eq_true rfl) (fun z => by cases z) (x8_isMinuteOfDay (d := d + 7) (v := mi)) ?_
    rw [h3]
    refine ev_go 999 rfl trivial ?_
    first | refine ev_pos (by decide) ?_ | refine ev_neg (by decide) ?_
    refine ev_go 999 rfl trivial ?_
    refine ev_call0 rfl (Nat.le_of_ble_eq_true rfl) (fun z => by cases z) hto ?_
    refine ev_go 999 rfl trivial ?_
    refine ev_call0 rfl (Nat.le_of_ble_eq_true rfl) (fun _ => ⟨_, _, _, rfl, rfl⟩) hst ?_
    exact kk
  cases h6 : stA rA (cl w) (cmT day mi) with
  | false =>
    rw [h6] at A2
    refine no (-2) (by unfold umOK um2; rw [h6, Bool.and_false, Bool.and_false]; rfl) (by unfold umQ um2; rw [hok, h6, Bool.and_false]; rfl) (A2 ?_)
    refine ev_go 999 rfl trivial ?_
    refine ev_neg (by decide) ?_
    refine ev_go 999 rfl trivial ?_
    exact ev_ret rfl trivial ⟨rfl, rfl⟩
  | true =>
  rw [h6] at A2
  have hu2 : um2 rA w day mi = true := by unfold um2; rw [h3, h6]; rfl
  obtain ⟨mo1, _, _⟩ := mOf_sp d2
  have hic := x8_isClosed (E := E) (d := d + 7) (j := j) (b := b) (W := W) (g := gA rA (cl w)) h.e d2 h.cx hI
  rw [← d1] at hic
  by_cases h7 : mOf (cl day) < cl (ri 39)
  · have hu3 : um3 ri day = false := decide_eq_false (fun z => z h7)
    rw [decide_eq_true h7] at hic
    refine no (-3) (by unfold umOK; rw [hu3, Bool.and_false]) (by unfold umQ; rw [if_pos hok, if_pos hu2, hu3]; rfl) (A2 ?_)
    refine ev_go 999 rfl trivial ?_
    refine ev_pos (by decide) ?_
    refine ev_go 999 rfl trivial ?_
    refine ev_call0 rfl (Nat.le_of_ble_eq_true rfl) (fun _ => ⟨_, _, _, rfl, rfl⟩) (hic) ?_
    rw [show bI true = bI true from rfl]
    refine ev_go 999 rfl trivial ?_
    first | refine ev_pos (by decide) ?_ | refine ev_neg (by decide) ?_
    refine ev_go 999 rfl trivial ?_
    exact ev_ret rfl trivial ⟨rfl, rfl⟩
  · have hu3 : um3 ri day = true := decide_eq_true h7
    rw [decide_eq_false h7] at hic
    have hOK : umOK ri rA w day mi = true := by unfold umOK; rw [hok, hu2, hu3]; rfl
    have eQ : umQ ri rA w day mi = nI (nA rA (cl w) - 1) := by unfold umQ; rw [if_pos hok, if_pos hu2, if_pos hu3]
    unfold umI umA umB
    rw [hOK, eQ, if_pos rfl, if_pos rfl, if_pos rfl]
    rw [eT] at h6 ⊢
    obtain ⟨i', j', a', b', cx', cw', hD⟩ := x8_unmark_ok (E := E) (d := d) (i := i) (j := j) (a := a) (b := b) (W := W) (x := 1440 * cl day + cl mi) (v1 := w) (v2 := day) (v3 := mi) h.e hI h.cx h.cw w2 h6 (by omega)
    refine ⟨i', j', a', b', cx', cw', ?_⟩
    rw [← eT] at hD
    refine am_D_of (Nat.le_of_ble_eq_true rfl) ?_
    refine A2 ?_
    refine ev_go 999 rfl trivial ?_
    refine ev_pos (by decide) ?_
    refine ev_go 999 rfl trivial ?_
    refine ev_call0 rfl (Nat.le_of_ble_eq_true rfl) (fun _ => ⟨_, _, _, rfl, rfl⟩) (hic) ?_
    rw [show bI false = bI false from rfl]
    refine ev_go 999 rfl trivial ?_
    first | refine ev_pos (by decide) ?_ | refine ev_neg (by decide) ?_
    exact hD
end X8
/-- an absence is told -/
def abC (i : Nat → Int32) (w f t : Int32) : Bool := inB w 0 (i 19 - 1) && inB f 0 1095 && inB t 0 1095
def abOK (i : Nat → Int32) (a : Nat → Nat → Int32) (w f t : Int32) : Bool := abC i w f t && decide (f ≤ t) && decide (cl (a 18 (cl w)) < 20)
def abQ (i : Nat → Int32) (a : Nat → Nat → Int32) (w f t : Int32) : Int32 := if abC i w f t = true then (if f ≤ t then (if cl (a 18 (cl w)) < 20 then nI (cl (a 18 (cl w)) + 1) else -4) else -2) else -1
def abA (i : Nat → Int32) (a : Nat → Nat → Int32) (w f t : Int32) : Nat → Nat → Int32 := if abOK i a w f t = true then va_up (va_up (va_up a 19 (upd (a 19) (20 * cl w + cl (a 18 (cl w))) f)) 20 (upd (a 20) (20 * cl w + cl (a 18 (cl w))) t)) 18 (upd (a 18) (cl w) (nI (cl (a 18 (cl w)) + 1))) else a
section A9
variable {E : am_E} {d : Nat} {i : Nat → Int32} {j : Nat → Int64} {a : Nat → Nat → Int32} {b : Nat → Nat → Int64}
theorem x9_absent {w f t : Int32} (hI : INV i a) : am_D E (d + 60) tX9_absent [.ref 0, .int w, .int f, .int t] (am_L (mo i j a b)) 0 0 (some (.int (abQ i a w f t))) (am_L (mo i j (abA i a w f t) b)) := by
  unfold abQ abA abOK
  cases h : abC i w f t with
  | false =>
    rw [if_neg (by decide), Bool.false_and, Bool.false_and, if_neg (by decide)]
    exact x9_absent_none (d := d + 57) h
  | true =>
    rw [if_pos rfl, Bool.true_and]
    obtain ⟨h1, h2, h3⟩ := and3.mp h
    obtain ⟨w1, w2, _⟩ := hI.wIn h1
    have ha := hI.wa _ w2
    by_cases hft : f ≤ t
    · rw [if_pos hft, decide_eq_true hft, Bool.true_and]
      by_cases hn : cl (a 18 (cl w)) < 20
      · rw [if_pos hn, decide_eq_true hn, if_pos rfl]
        have h' := h
        unfold abC at h'
        rw [w1] at h'
        have hD := x9_absent_ok (E := E) (d := d + 57) (i := i) (j := j) (a := a) (b := b) (w := cl w) (n := cl (a 18 (cl w))) w2 h' hft hn ha.1
        rw [← w1] at hD
        exact hD
      · rw [if_neg hn, decide_eq_false hn, if_neg (by decide)]
        have h' := h
        unfold abC at h'
        rw [w1] at h'
        have hD := x9_absent_full (E := E) (d := d + 57) (i := i) (j := j) (a := a) (b := b) (w := cl w) (f := f) (t := t) w2 h' hft (by rw [ha.1, show cl (a 18 (cl w)) = 20 by have := ha.2; omega]; rfl)
        rw [← w1] at hD
        exact hD
    · rw [if_neg hft, decide_eq_false hft, Bool.false_and, if_neg (by decide)]
      exact x9_absent_bad (d := d + 57) h hft
end A9
