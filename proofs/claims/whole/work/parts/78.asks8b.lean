section CS
variable {i ri : Nat → Int32} {a rA : Nat → Nat → Int32}
theorem CX.mev (hc : CX i a ri rA) {kd m t : Nat} (ht : t < cl (ri 15)) : meV (a 9) (a 10) (a 11) kd (m % 1440) t = meA rA kd m t := by
  unfold meV meA
  rw [(hc.su t ht).1, (hc.su t ht).2.1, (hc.su t ht).2.2.1]
theorem CX.ctb (hc : CX i a ri rA) (hI : INV ri rA) {kd m s : Nat} (hs : s < cl (ri 15)) : ctB (fun s t => (cl (a 13 s)).testBit t) (meV (a 9) (a 10) (a 11) kd (m % 1440)) (a 12) (cl (ri 15)) s = ctB (fun s t => decide (¬ rA 12 (12 * s + t) = 0)) (meA rA kd m) (rA 11) (cl (ri 15)) s := by
  have h12 := hI.s15.2
  have e : ∀ s, s < cl (ri 15) → a 12 s = rA 11 s := fun s hs => (hc.su s hs).2.2.2
  unfold ctB
  rw [hc.mev hs]
  congr 2
  refine decide_eq_decide.mpr ⟨fun ⟨t, t1, t2, t3, t4⟩ => ⟨t, t1, ?_, ?_, ?_⟩, fun ⟨t, t1, t2, t3, t4⟩ => ⟨t, t1, ?_, ?_, ?_⟩⟩
  · show decide (¬ rA 12 (12 * s + t) = 0) = true; rw [← (hc.ex s (by omega)).2.2 t (by omega)]; exact t2
  · rw [← hc.mev t1]; exact t3
  · unfold btB at t4 ⊢; rw [← e s hs, ← e t t1]; exact t4
  · show (cl (a 13 s)).testBit t = true; rw [(hc.ex s (by omega)).2.2 t (by omega)]; exact t2
  · rw [hc.mev t1]; exact t3
  · unfold btB at t4 ⊢; rw [e s hs, e t t1]; exact t4
end CS
theorem ctD_R {t r : Nat → Nat} {day role n : Nat} : ctD t r day (day + 1) role n = ctR t r day role n := by
  unfold ctD ctR
  refine fb_ct_cong (fun k _ => ?_)
  congr 1
  rw [← Bool.decide_and]
  refine decide_eq_decide.mpr ⟨fun h => by omega, fun h => by omega⟩
section X8
variable {E : am_E} {d : Nat} {i ri : Nat → Int32} {j : Nat → Int64} {a rA : Nat → Nat → Int32} {b rb : Nat → Nat → Int64} {W : Nat → Option Nat} {g : Nat} {w : Int32}
theorem x8_has {s : Int32} (hc : CX i a ri rA) (hI : INV ri rA) : am_D E (d + 1) tX5_has [.ref 8, .int s] (am_L (xw i j a b W g)) 0 0 (some (.int (bI (inB s 0 (ri 15 - 1))))) (am_L (xw i j a b W g)) := by
  have e15 : i 8 = nI (cl (ri 15)) := by rw [hc.i8]; exact hI.s15.1
  have h := x5_has (E := E) (d := d) (K := a 9) (F := a 10) (T := a 11) (P := a 12) (X := a 13) (s := s) (z := cl (ri 15)) hI.s15.2
  rw [← e15, hc.i8] at h
  rw [← hc.i8] at h
  have h2 := lift_su0 (j := j) (b := b) (W := W) (g := g) h
  rw [hc.i8] at h2
  exact h2
theorem x8_counts {day m s what : Int32} (h : XH E i a b W ri rA rb w) : ∃ i' j' a', Sx i i' a a' ∧ am_D E (d + 10) tX8_counts [.ref 0, .int w, .int day, .int m, .int s, .int what] (am_L (xw i j a b W (gA rA (cl w)))) 0 0 (some (.int (ctsQ ri rA w day m s what))) (am_L (xw i' j' a' b W (gA rA (cl w)))) := by
  have hfw := x8_findWorker (d := d + 8) (j := j) (g := gA rA (cl w)) h
  unfold ctsQ okL
  rw [h.ok, Bool.true_and]
  cases h2 : inB day 0 1095 with
  | false =>
    refine ⟨i, j, a, Sx.rf, ?_⟩
    rw [Bool.and_false, if_neg (by decide)]
    refine am_D_of (Nat.le_of_ble_eq_true rfl) ?_
    refine ev_go 999 rfl trivial ?_
    refine ev_call0 rfl (Nat.le_of_ble_eq_true rfl) (fun _ => ⟨_, _, _, rfl, rfl⟩) hfw ?_
    refine ev_go 999 rfl trivial ?_
    refine ev_go 999 rfl trivial ?_
    refine ev_call0 rfl (Nat.le_of_ble_eq_true rfl) (fun z => by cases z) (x8_isDay (d := d + 7) (v := day)) ?_
    rw [h2]
    refine ev_go 999 rfl trivial ?_
    first | refine ev_pos (by decide) ?_ | refine ev_neg (by decide) ?_
    refine ev_go 999 rfl trivial ?_
    exact ev_ret rfl trivial ⟨rfl, rfl⟩
  | true =>
  cases h3 : inB m 0 2879 with
  | false =>
    refine ⟨i, j, a, Sx.rf, ?_⟩
    rw [Bool.false_and, Bool.false_and, Bool.false_and, if_neg (by decide)]
    refine am_D_of (Nat.le_of_ble_eq_true rfl) ?_
    refine ev_go 999 rfl trivial ?_
    refine ev_call0 rfl (Nat.le_of_ble_eq_true rfl) (fun _ => ⟨_, _, _, rfl, rfl⟩) hfw ?_
    refine ev_go 999 rfl trivial ?_
    refine ev_go 999 rfl trivial ?_
    refine ev_call0 rfl (Nat.le_of_ble_eq_true rfl) (fun z => by cases z) (x8_isDay (d := d + 7) (v := day)) ?_
    rw [h2]
    refine ev_go 999 rfl trivial ?_
    first | refine ev_pos (by decide) ?_ | refine ev_neg (by decide) ?_
    refine ev_go 999 rfl trivial ?_
    refine ev_call0 rfl (Nat.le_of_ble_eq_true rfl) (fun z => by cases z) (x8_isWithin (d := d + 8) (v := m) (lo := 0) (hi := 2879)) ?_
    rw [h3]
    refine ev_go 999 rfl trivial ?_
    first | refine ev_pos (by decide) ?_ | refine ev_neg (by decide) ?_
    refine ev_go 999 rfl trivial ?_
    exact ev_ret rfl trivial ⟨rfl, rfl⟩
  | true =>
  have hhs := x8_has (E := E) (d := d + 8) (j := j) (b := b) (W := W) (g := gA rA (cl w)) (s := s) h.cx h.inv
  cases h4 : inB s 0 (ri 15 - 1) with
  | false =>
    refine ⟨i, j, a, Sx.rf, ?_⟩
    rw [Bool.true_and, Bool.false_and, Bool.false_and, if_neg (by decide)]
    rw [h4] at hhs
    refine am_D_of (Nat.le_of_ble_eq_true rfl) ?_
    refine ev_go 999 rfl trivial ?_
    refine ev_call0 rfl (Nat.le_of_ble_eq_true rfl) (fun _ => ⟨_, _, _, rfl, rfl⟩) hfw ?_
    refine ev_go 999 rfl trivial ?_
    refine ev_go 999 rfl trivial ?_
    refine ev_call0 rfl (Nat.le_of_ble_eq_true rfl) (fun z => by cases z) (x8_isDay (d := d + 7) (v := day)) ?_
    rw [h2]
    refine ev_go 999 rfl trivial ?_
    first | refine ev_pos (by decide) ?_ | refine ev_neg (by decide) ?_
    refine ev_go 999 rfl trivial ?_
    refine ev_call0 rfl (Nat.le_of_ble_eq_true rfl) (fun z => by cases z) (x8_isWithin (d := d + 8) (v := m) (lo := 0) (hi := 2879)) ?_
    rw [h3]
    refine ev_go 999 rfl trivial ?_
    first | refine ev_pos (by decide) ?_ | refine ev_neg (by decide) ?_
    refine ev_go 999 rfl trivial ?_
    refine ev_call0 rfl (Nat.le_of_ble_eq_true rfl) (fun _ => ⟨_, _, _, rfl, rfl⟩) (hhs) ?_
    rw [show bI false = bI false from rfl]
    refine ev_go 999 rfl trivial ?_
    first | refine ev_pos (by decide) ?_ | refine ev_neg (by decide) ?_
    refine ev_go 999 rfl trivial ?_
    exact ev_ret rfl trivial ⟨rfl, rfl⟩
  | true =>
  rw [h4] at hhs
  cases h5 : inB what 0 1 with
  | false =>
    refine ⟨i, j, a, Sx.rf, ?_⟩
    rw [Bool.true_and, Bool.true_and, Bool.false_and, if_neg (by decide)]
    refine am_D_of (Nat.le_of_ble_eq_true rfl) ?_
    refine ev_go 999 rfl trivial ?_
    refine ev_call0 rfl (Nat.le_of_ble_eq_true rfl) (fun _ => ⟨_, _, _, rfl, rfl⟩) hfw ?_
    refine ev_go 999 rfl trivial ?_
    refine ev_go 999 rfl trivial ?_
    refine ev_call0 rfl (Nat.le_of_ble_eq_true rfl) (fun z => by cases z) (x8_isDay (d := d + 7) (v := day)) ?_
    rw [h2]
    refine ev_go 999 rfl trivial ?_
    first | refine ev_pos (by decide) ?_ | refine ev_neg (by decide) ?_
    refine ev_go 999 rfl trivial ?_
    refine ev_call0 rfl (Nat.le_of_ble_eq_true rfl) (fun z => by cases z) (x8_isWithin (d := d + 8) (v := m) (lo := 0) (hi := 2879)) ?_
    rw [h3]
    refine ev_go 999 rfl trivial ?_
    first | refine ev_pos (by decide) ?_ | refine ev_neg (by decide) ?_
    refine ev_go 999 rfl trivial ?_
    refine ev_call0 rfl (Nat.le_of_ble_eq_true rfl) (fun _ => ⟨_, _, _, rfl, rfl⟩) (hhs) ?_
    rw [show bI true = bI true from rfl]
    refine ev_go 999 rfl trivial ?_
    first | refine ev_pos (by decide) ?_ | refine ev_neg (by decide) ?_
    refine ev_go 999 rfl trivial ?_
    refine ev_call0 rfl (Nat.le_of_ble_eq_true rfl) (fun z => by cases z) (x8_isWithin (d := d + 8) (v := what) (lo := 0) (hi := 1)) ?_
    rw [h5]
    refine ev_go 999 rfl trivial ?_
    first | refine ev_pos (by decide) ?_ | refine ev_neg (by decide) ?_
    refine ev_go 999 rfl trivial ?_
    exact ev_ret rfl trivial ⟨rfl, rfl⟩
  | true =>
  obtain ⟨d1, d2⟩ := dIn h2
  have m1 := le0_in (N := 2879) (by omega) h3
  have mb := m1.2
  have q1 := le0_in (N := 1) (by omega) h5
  have h15 := h.inv.s15
  have h15b := h15.2
  have h4' := h4
  rw [h15.1] at h4'
  obtain ⟨s1, s2⟩ := inW (by omega) h4'
  have hg := h.inv.gl h.w30
  obtain ⟨i1, a1, sx, sr, hF⟩ := x8_fillSheet (E := E) (d := d + 4) (i := i) (j := j) (a := a) (W := W) (day := cl day) h.w30 d2 h.cx h.cw h.inv
  have hc1 := sx.cx h.cx
  have hcl := x8_classAt (E := E) (d := d + 8) (j := j) (b := b) (W := W) (g := gA rA (cl w)) (m := cl m) sr (by omega)
  rw [← m1.1] at hcl
  have hk8 := h.inv.kdl (day := cl day) hg
  have hkd := x8_kindOf (E := E) (d := d + 8) (i := i1) (j := j) (a := a1) (b := b) (W := W) (g := gA rA (cl w)) (day := cl day) hg d2 hc1 h.inv
  obtain ⟨kd, hkdd⟩ : ∃ kd, kd = kdA rA (gA rA (cl w)) (cl day) := ⟨_, rfl⟩
  rw [← hkdd] at hk8 hkd
  rw [← d1] at hF hkd
  have e15 : i1 8 = nI (cl (ri 15)) := by rw [hc1.i8]; exact h15.1
  have hSV := hc1.sv h.inv
  have hmt := x5_meeting (E := E) (d := d + 7) (X := a1 13) (m := cl m % 1440) hSV hk8
  have hct := x5_countingOf (E := E) (d := d + 7) (X := a1 13) (xs := fun s => cl (a1 13 s)) (me := meV (a1 9) (a1 10) (a1 11) kd (cl m % 1440)) hSV (fun s hs => (hc1.ex s (by omega)).1)
  rw [← e15] at hmt hct
  have hmt2 := lift_su0 (j := j) (b := b) (W := W) (g := gA rA (cl w)) hmt
  have hct2 := lift_su0 (j := j) (b := b) (W := W) (g := gA rA (cl w)) hct
  refine ⟨i1, j, a1, sx, ?_⟩
  rw [Bool.true_and, Bool.true_and, Bool.true_and, if_pos rfl]
  have erem : nI (cl m) - nI (cl m) / nI 1440 * nI 1440 = nI (cl m % 1440) := pk_rem (by omega) (by omega) (by omega)
  have fin : ∀ (bb : Nat → Bool) L, am_ev E (d + 9) tX8_counts (131, L, [.int ((nI (mk2 bb (cl (ri 15))) >>> (s &&& 31)) &&& 1)], am_L (xw i1 j a1 b W (gA rA (cl w))), 0, 0) (fun v' M'' => v' = some (.int (bI (bb (cl s)))) ∧ M'' = am_L (xw i1 j a1 b W (gA rA (cl w)))) := fun bb L => by
    refine ev_ret rfl trivial ⟨?_, rfl⟩
    have hb := bitS (m := mk2 bb (cl (ri 15))) (s := cl s) (by have := mk2_12 bb h15b; omega) (by omega)
    rw [← s1, mk2_bit, decide_eq_true s2, Bool.true_and] at hb
    rw [hb]
  refine am_D_of (Nat.le_of_ble_eq_true rfl) ?_
  refine ev_go 999 rfl trivial ?_
  refine ev_call0 rfl (Nat.le_of_ble_eq_true rfl) (fun _ => ⟨_, _, _, rfl, rfl⟩) hfw ?_
  refine ev_go 999 rfl trivial ?_
  refine ev_go 999 rfl trivial ?_
  refine ev_call0 rfl (Nat.le_of_ble_eq_true rfl) (fun z => by cases z) (x8_isDay (d := d + 7) (v := day)) ?_
  rw [h2]
  refine ev_go 999 rfl trivial ?_
  first | refine ev_pos (by decide) ?_ | refine ev_neg (by decide) ?_
  refine ev_go 999 rfl trivial ?_
  refine ev_call0 rfl (Nat.le_of_ble_eq_true rfl) (fun z => by cases z) (x8_isWithin (d := d + 8) (v := m) (lo := 0) (hi := 2879)) ?_
  rw [h3]
  refine ev_go 999 rfl trivial ?_
  first | refine ev_pos (by decide) ?_ | refine ev_neg (by decide) ?_
  refine ev_go 999 rfl trivial ?_
  refine ev_call0 rfl (Nat.le_of_ble_eq_true rfl) (fun _ => ⟨_, _, _, rfl, rfl⟩) (hhs) ?_
  rw [show bI true = bI true from rfl]
  refine ev_go 999 rfl trivial ?_
  first | refine ev_pos (by decide) ?_ | refine ev_neg (by decide) ?_
  refine ev_go 999 rfl trivial ?_
  refine ev_call0 rfl (Nat.le_of_ble_eq_true rfl) (fun z => by cases z) (x8_isWithin (d := d + 8) (v := what) (lo := 0) (hi := 1)) ?_
  rw [h5]
  refine ev_go 999 rfl trivial ?_
  first | refine ev_pos (by decide) ?_ | refine ev_neg (by decide) ?_
  refine ev_go 999 rfl trivial ?_
  refine ev_call0 rfl (Nat.le_of_ble_eq_true rfl) (fun _ => ⟨_, _, _, rfl, rfl⟩) hF ?_
  refine ev_go 999 rfl trivial ?_
  refine ev_call0 rfl (Nat.le_of_ble_eq_true rfl) (fun _ => ⟨_, _, _, rfl, rfl⟩) hcl ?_
  refine ev_go 999 rfl trivial ?_
  by_cases h6 : nI 6 ≤ dA rA (cl w) (cl day) (cl m)
  · refine ev_pos h6 ?_
    rw [if_pos h6]
    refine ev_go 999 rfl trivial ?_
    refine ev_call0 rfl (Nat.le_of_ble_eq_true rfl) (fun _ => ⟨_, _, _, rfl, rfl⟩) hkd ?_
    refine ev_go 999 rfl ⟨by decide, trivial⟩ ?_
    rw [← erem, ← m1.1] at hmt2
    refine ev_call0 rfl (Nat.le_of_ble_eq_true rfl) (fun _ => ⟨_, _, _, rfl, rfl⟩) hmt2 ?_
    refine ev_go 999 rfl trivial ?_
    unfold ctsA
    rw [← hkdd]
    by_cases hw0 : what = 0
    · refine ev_pos (by rw [hw0]; decide) ?_
      rw [if_pos hw0]
      refine ev_go 999 rfl trivial ?_
      refine ev_call0 rfl (Nat.le_of_ble_eq_true rfl) (fun _ => ⟨_, _, _, rfl, rfl⟩) hct2 ?_
      refine ev_go 999 rfl trivial ?_
      have k0 := fin (ctB (fun s t => (cl (a1 13 s)).testBit t) (meV (a1 9) (a1 10) (a1 11) kd (cl m % 1440)) (a1 12) (cl (ri 15)))
      rw [hc1.ctb h.inv s2] at k0
      exact k0 _
    · have hw1 : what = 1 := by
        have qb := q1.2
        rcases (show cl what = 0 ∨ cl what = 1 by omega) with z | z
        · exact absurd (by rw [q1.1, z]; rfl) hw0
        · rw [q1.1, z]; rfl
      refine ev_neg (by rw [hw1]; decide) ?_
      rw [if_neg hw0]
      refine ev_go 999 rfl trivial ?_
      refine ev_go 999 rfl trivial ?_
      have k0 := fin (meV (a1 9) (a1 10) (a1 11) kd (cl m % 1440))
      rw [hc1.mev s2] at k0
      exact k0 _
  · refine ev_neg h6 ?_
    rw [if_neg h6]
    refine ev_go 999 rfl trivial ?_
    exact ev_ret rfl trivial ⟨rfl, rfl⟩
theorem x8_shifts {day what : Int32} (h : XH E i a b W ri rA rb w) : am_D E (d + 10) tX8_shifts [.ref 0, .int w, .int day, .int what] (am_L (xw i j a b W (gA rA (cl w)))) 0 0 (some (.int (shQ ri rA w day what))) (am_L (xw i j a b W (gA rA (cl w)))) := by
  have hfw := x8_findWorker (d := d + 8) (j := j) (g := gA rA (cl w)) h
  unfold shQ
  rw [h.ok, Bool.true_and]
  refine am_D_of (Nat.le_of_ble_eq_true rfl) ?_
  refine ev_go 999 rfl trivial ?_
  refine ev_call0 rfl (Nat.le_of_ble_eq_true rfl) (fun _ => ⟨_, _, _, rfl, rfl⟩) hfw ?_
  refine ev_go 999 rfl trivial ?_
  cases h2 : inB day 0 1095 with
  | false =>
    rw [Bool.false_and, if_neg (by decide)]
    refine ev_go 999 rfl trivial ?_
    refine ev_call0 rfl (Nat.le_of_ble_eq_true rfl) (fun z => by cases z) (x8_isDay (d := d + 7) (v := day)) ?_
    rw [h2]
    refine ev_go 999 rfl trivial ?_
    first | refine ev_pos (by decide) ?_ | refine ev_neg (by decide) ?_
    refine ev_go 999 rfl trivial ?_
    exact ev_ret rfl trivial ⟨rfl, rfl⟩
  | true =>
  refine ev_go 999 rfl trivial ?_
  refine ev_call0 rfl (Nat.le_of_ble_eq_true rfl) (fun z => by cases z) (x8_isDay (d := d + 7) (v := day)) ?_
  rw [h2]
  refine ev_go 999 rfl trivial ?_
  first | refine ev_pos (by decide) ?_ | refine ev_neg (by decide) ?_
  cases h3 : inB what 0 1 with
  | false =>
    rw [Bool.true_and, if_neg (by decide)]
    refine ev_go 999 rfl trivial ?_
    refine ev_call0 rfl (Nat.le_of_ble_eq_true rfl) (fun z => by cases z) (x8_isWithin (d := d + 8) (v := what) (lo := 0) (hi := 1)) ?_
    rw [h3]
    refine ev_go 999 rfl trivial ?_
    first | refine ev_pos (by decide) ?_ | refine ev_neg (by decide) ?_
    refine ev_go 999 rfl trivial ?_
    exact ev_ret rfl trivial ⟨rfl, rfl⟩
  | true =>
  refine ev_go 999 rfl trivial ?_
  refine ev_call0 rfl (Nat.le_of_ble_eq_true rfl) (fun z => by cases z) (x8_isWithin (d := d + 8) (v := what) (lo := 0) (hi := 1)) ?_
  rw [h3]
  refine ev_go 999 rfl trivial ?_
  first | refine ev_pos (by decide) ?_ | refine ev_neg (by decide) ?_
  rw [Bool.true_and, if_pos rfl]
  obtain ⟨d1, d2⟩ := dIn h2
  have q1 := le0_in (N := 1) (by omega) h3
  have qb := q1.2
  have ham : ∀ role, role < 1000 → am_D E (d + 9) tX1_amountOf [.ref 63, .int (nI role), .int day, .int (day + 1)] (am_L (xw i j a b W (gA rA (cl w)))) 0 0 (some (.int (nI (ctR (tA rA (cl w)) (rolA rA (cl w)) (cl day) role (nA rA (cl w)))))) (am_L (xw i j a b W (gA rA (cl w)))) := fun role hr => by
    have h' := x8_amountOf (E := E) (d := d + 7) (j := j) (W := W) (g := gA rA (cl w)) (role := role) (lo := cl day) (hi := cl day + 1) h.w30 (by omega) (by omega) hr h.cw h.inv
    rw [ctD_R, ← nI_1, ← d1] at h'
    exact h'
  refine ev_go 999 rfl trivial ?_
  rcases (show cl what = 0 ∨ cl what = 1 by omega) with z | z
  · have e : what = 0 := by rw [q1.1, z]; rfl
    refine ev_neg (by rw [e]; decide) ?_
    rw [z]
    refine ev_go 999 rfl trivial ?_
    refine ev_go 999 rfl trivial ?_
    refine ev_call0 rfl (Nat.le_of_ble_eq_true rfl) (fun _ => ⟨_, _, _, rfl, rfl⟩) (ham 1 (by omega)) ?_
    exact ev_ret rfl trivial ⟨rfl, rfl⟩
  · have e : what = 1 := by rw [q1.1, z]; rfl
    refine ev_pos (by rw [e]; decide) ?_
    rw [z]
    refine ev_go 999 rfl trivial ?_
    refine ev_call0 rfl (Nat.le_of_ble_eq_true rfl) (fun _ => ⟨_, _, _, rfl, rfl⟩) (ham 2 (by omega)) ?_
    exact ev_ret rfl trivial ⟨rfl, rfl⟩
theorem x8_marked {k what : Int32} (h : XH E i a b W ri rA rb w) : am_D E (d + 10) tX8_marked [.ref 0, .int w, .int k, .int what] (am_L (xw i j a b W (gA rA (cl w)))) 0 0 (some (.int (mrkQ ri rA w k what))) (am_L (xw i j a b W (gA rA (cl w)))) := by
  have hfw := x8_findWorker (d := d + 8) (j := j) (g := gA rA (cl w)) h
  have hM := h.cw.ma h.inv h.w30
  have n4 := hM.n4
  have e63 := h.cw.n' h.inv h.w30
  have h21 := (h.inv.wm _ h.w30).h21
  unfold mrkQ
  rw [h.ok, Bool.true_and, h21]
  refine am_D_of (Nat.le_of_ble_eq_true rfl) ?_
  refine ev_go 999 rfl trivial ?_
  refine ev_call0 rfl (Nat.le_of_ble_eq_true rfl) (fun _ => ⟨_, _, _, rfl, rfl⟩) hfw ?_
  refine ev_go 999 rfl trivial ?_
  refine ev_go 999 rfl trivial ?_
  by_cases k0 : k < 0
  · refine ev_pos k0 ?_
    have e : inB k 0 (nI (nA rA (cl w)) - 1) = false := by unfold inB; rw [decide_eq_false (Int32.not_le.mpr k0), Bool.false_and]
    rw [e, if_neg (by decide)]
    refine ev_go 999 rfl trivial ?_
    exact ev_ret rfl trivial ⟨rfl, rfl⟩
  · refine ev_neg k0 ?_
    obtain ⟨q, hq, rfl⟩ := nI_of k0
    refine ev_go 999 rfl trivial ?_
    by_cases hqn : q < nA rA (cl w)
    · refine ev_pos (by show nI q < i 63; rw [e63]; exact nI_lt hqn (by omega)) ?_
      have e : inB (nI q) 0 (nI (nA rA (cl w)) - 1) = true := by
        unfold inB
        obtain ⟨n, hn⟩ : ∃ n, nA rA (cl w) = n + 1 := ⟨nA rA (cl w) - 1, by omega⟩
        rw [hn, nI_pred, decide_eq_true (nI_pos' (by omega)), decide_eq_true (nI_le (by omega) (by omega))]
        rfl
      rw [e, if_pos rfl, cl_nI (by omega)]
      have vq : vp_in (nI q) 400 := vp_in_nI (by omega) (by omega)
      have cq : (nI q).toNatClampNeg = q := nI_clamp (by omega)
      by_cases q0 : what = 0
      · rw [if_pos q0]
        subst q0
        refine ev_go 999 rfl trivial ?_
        refine ev_go 999 rfl ⟨vq, trivial⟩ ?_
        refine ev_ret rfl trivial ⟨?_, rfl⟩
        show some (Value.int (a 64 (nI q).toNatClampNeg)) = _
        rw [cq, h.cw.t q hqn]
      rw [if_neg q0]
      by_cases q1 : what = 1
      · rw [if_pos q1]
        subst q1
        refine ev_go 999 rfl trivial ?_
        refine ev_go 999 rfl ⟨vq, trivial⟩ ?_
        refine ev_ret rfl trivial ⟨?_, rfl⟩
        show some (Value.int (a 65 (nI q).toNatClampNeg)) = _
        rw [cq, h.cw.s q hqn]
      rw [if_neg q1]
      by_cases q2 : what = 2
      · rw [if_pos q2]
        subst q2
        refine ev_go 999 rfl trivial ?_
        refine ev_go 999 rfl ⟨vq, trivial⟩ ?_
        refine ev_ret rfl trivial ⟨?_, rfl⟩
        show some (Value.int (a 66 (nI q).toNatClampNeg)) = _
        rw [cq, h.cw.r q hqn]
      · rw [if_neg q2]
        refine ev_run 1 rfl trivial ?_
        refine ev_sw rfl (am_sw_out (pc := 31) 2 (by omega) (out2 q0 q1 q2)) ?_
        refine ev_go 999 rfl trivial ?_
        exact ev_ret rfl trivial ⟨rfl, rfl⟩
    · refine ev_neg (by show ¬ nI q < i 63; rw [e63]; exact nI_nlt (by omega) (by omega)) ?_
      have e : inB (nI q) 0 (nI (nA rA (cl w)) - 1) = false := by
        cases hb : inB (nI q) 0 (nI (nA rA (cl w)) - 1) with
        | false => rfl
        | true =>
          have := (inW (by omega) hb).2
          rw [cl_nI (by omega)] at this
          exact absurd this hqn
      rw [e, if_neg (by decide)]
      refine ev_go 999 rfl trivial ?_
      exact ev_ret rfl trivial ⟨rfl, rfl⟩
end X8
