section C9
variable {E : am_E} {d : Nat} {i : Nat → Int32} {j : Nat → Int64} {a : Nat → Nat → Int32} {b : Nat → Nat → Int64}
theorem x9_comes {w day mi s : Int32} {beh : Bool} (hI : INV i a) : ∃ i' j' a', Scr (cmI i a w day mi s beh) i' (cmA i a w day mi s beh) a' ∧ am_D E (d + 61) tX9_comes [.ref 0, .int w, .int day, .int mi, .int s, .int (bI beh)] (am_L (mo i j a b)) 0 0 (some (.int (cmQ i a w day mi s beh))) (am_L (mo i' j' a' (cmB i a b w day mi s beh))) := by
  have no : ∀ q : Int32, cmOK i a w day mi s beh = false → cmQ i a w day mi s beh = q → am_ev E (d + 60) tX9_comes (0, [some (.ref 0), some (.int w), some (.int day), some (.int mi), some (.int s), some (.int (bI beh)), none, none, none], [], am_L (mo i j a b), 0, 0) (fun v' M'' => v' = some (.int q) ∧ M'' = am_L (mo i j a b)) → ∃ i' j' a', Scr (cmI i a w day mi s beh) i' (cmA i a w day mi s beh) a' ∧ am_D E (d + 61) tX9_comes [.ref 0, .int w, .int day, .int mi, .int s, .int (bI beh)] (am_L (mo i j a b)) 0 0 (some (.int (cmQ i a w day mi s beh))) (am_L (mo i' j' a' (cmB i a b w day mi s beh))) := by
    intro q h1 h2 h3
    unfold cmI cmA cmB
    rw [h1, h2]
    refine ⟨i, j, a, Scr.rf, ?_⟩
    rw [if_neg (by decide)]
    refine am_D_of (Nat.le_of_ble_eq_true rfl) ?_
    exact h3
  cases h1 : inB w 0 (i 19 - 1) with
  | false =>
    refine no (-1) (by unfold cmOK okL; rw [h1]; rfl) (by unfold cmQ okL; rw [h1]; rfl) ?_
    refine ev_go 999 rfl trivial ?_
    refine ev_call0 rfl (Nat.le_of_ble_eq_true rfl) (fun _ => ⟨_, _, _, rfl, rfl⟩) (x9_isWorker (d := d + 58) (v := w)) ?_
    rw [h1]
    refine ev_go 999 rfl trivial ?_
    first | refine ev_pos (by decide) ?_ | refine ev_neg (by decide) ?_
    refine ev_go 999 rfl trivial ?_
    exact ev_ret rfl trivial ⟨rfl, rfl⟩
  | true =>
  cases h2 : inB day 0 1095 with
  | false =>
    refine no (-1) (by unfold cmOK okL; rw [h1, h2]; rfl) (by unfold cmQ okL; rw [h1, h2]; rfl) ?_
    refine ev_go 999 rfl trivial ?_
    refine ev_call0 rfl (Nat.le_of_ble_eq_true rfl) (fun _ => ⟨_, _, _, rfl, rfl⟩) (x9_isWorker (d := d + 58) (v := w)) ?_
    rw [h1]
    refine ev_go 999 rfl trivial ?_
    first | refine ev_pos (by decide) ?_ | refine ev_neg (by decide) ?_
    refine ev_go 999 rfl trivial ?_
    refine ev_call0 rfl (Nat.le_of_ble_eq_true rfl) (fun z => by cases z) (x9_isDay (d := d + 58) (v := day)) ?_
    rw [h2]
    refine ev_go 999 rfl trivial ?_
    first | refine ev_pos (by decide) ?_ | refine ev_neg (by decide) ?_
    refine ev_go 999 rfl trivial ?_
    exact ev_ret rfl trivial ⟨rfl, rfl⟩
  | true =>
  have hok : okL i w day = true := okL_t.mpr ⟨h1, h2⟩
  obtain ⟨w1, w2, _⟩ := hI.wIn h1
  obtain ⟨d1, d2⟩ := dIn h2
  have vw : vp_in w 30 := by rw [w1]; exact vp_in_nI w2 (by omega)
  have A : ∀ {P : Option Value → am_M → Prop}, am_ev E (d + 60) tX9_comes (26, [some (.ref 0), some (.int w), some (.int day), some (.int mi), some (.int s), some (.int (bI beh)), some (.int (cmT day mi)), none, none], [], am_L (mo i j a b), 0, 0) P → am_ev E (d + 60) tX9_comes (0, [some (.ref 0), some (.int w), some (.int day), some (.int mi), some (.int s), some (.int (bI beh)), none, none, none], [], am_L (mo i j a b), 0, 0) P := fun {P} kk => by
    refine ev_go 999 rfl trivial ?_
    refine ev_call0 rfl (Nat.le_of_ble_eq_true rfl) (fun _ => ⟨_, _, _, rfl, rfl⟩) (x9_isWorker (d := d + 58) (v := w)) ?_
    rw [h1]
    refine ev_go 999 rfl trivial ?_
    first | refine ev_pos (by decide) ?_ | refine ev_neg (by decide) ?_
    refine ev_go 999 rfl trivial ?_
    refine ev_call0 rfl (Nat.le_of_ble_eq_true rfl) (fun z => by cases z) (x9_isDay (d := d + 58) (v := day)) ?_
    rw [h2]
    refine ev_go 999 rfl trivial ?_
    first | refine ev_pos (by decide) ?_ | refine ev_neg (by decide) ?_
    refine ev_go 26 rfl trivial ?_
    exact kk
  cases h3 : inB mi 0 1439 with
  | false =>
    refine no (-2) (by unfold cmOK cm2; rw [h3, Bool.false_and, Bool.false_and, Bool.false_and, Bool.and_false]; rfl) (by unfold cmQ cm2; rw [hok, h3]; rfl) (A ?_)
    refine ev_go 999 rfl trivial ?_
    refine ev_call0 rfl (Nat.le_of_ble_eq_true rfl) (fun z => by cases z) (x9_in (d := d + 59) (v := mi) (lo := 0) (hi := 1439)) ?_
    rw [h3]
    refine ev_go 999 rfl trivial ?_
    first | refine ev_pos (by decide) ?_ | refine ev_neg (by decide) ?_
    refine ev_go 999 rfl trivial ?_
    exact ev_ret rfl trivial ⟨rfl, rfl⟩
  | true =>
  cases h4 : inB s 0 3 with
  | false =>
    refine no (-2) (by unfold cmOK cm2; rw [h4, Bool.and_false, Bool.false_and, Bool.false_and, Bool.and_false]; rfl) (by unfold cmQ cm2; rw [hok, h3, h4]; rfl) (A ?_)
    refine ev_go 999 rfl trivial ?_
    refine ev_call0 rfl (Nat.le_of_ble_eq_true rfl) (fun z => by cases z) (x9_in (d := d + 59) (v := mi) (lo := 0) (hi := 1439)) ?_
    rw [h3]
    refine ev_go 999 rfl trivial ?_
    first | refine ev_pos (by decide) ?_ | refine ev_neg (by decide) ?_
    refine ev_go 999 rfl trivial ?_
    refine ev_call0 rfl (Nat.le_of_ble_eq_true rfl) (fun z => by cases z) (x9_in (d := d + 59) (v := s) (lo := 0) (hi := 3)) ?_
    rw [h4]
    refine ev_go 999 rfl trivial ?_
    first | refine ev_pos (by decide) ?_ | refine ev_neg (by decide) ?_
    refine ev_go 999 rfl trivial ?_
    exact ev_ret rfl trivial ⟨rfl, rfl⟩
  | true =>
  have m1 := le0_in (N := 1439) (by omega) h3
  have s1 := le0_in (N := 3) (by omega) h4
  have mb := m1.2
  have sb := s1.2
  have eT := cmT_nI d1 m1.1
  have Bq : ∀ {P : Option Value → am_M → Prop}, am_ev E (d + 60) tX9_comes (47, [some (.ref 0), some (.int w), some (.int day), some (.int mi), some (.int s), some (.int (bI beh)), some (.int (cmT day mi)), none, none], [], am_L (mo i j a b), 0, 0) P → am_ev E (d + 60) tX9_comes (0, [some (.ref 0), some (.int w), some (.int day), some (.int mi), some (.int s), some (.int (bI beh)), none, none, none], [], am_L (mo i j a b), 0, 0) P := fun {P} kk => by
    refine A ?_
    refine ev_go 999 rfl trivial ?_
    refine ev_call0 rfl (Nat.le_of_ble_eq_true rfl) (fun z => by cases z) (x9_in (d := d + 59) (v := mi) (lo := 0) (hi := 1439)) ?_
    rw [h3]
    refine ev_go 999 rfl trivial ?_
    first | refine ev_pos (by decide) ?_ | refine ev_neg (by decide) ?_
    refine ev_go 999 rfl trivial ?_
    refine ev_call0 rfl (Nat.le_of_ble_eq_true rfl) (fun z => by cases z) (x9_in (d := d + 59) (v := s) (lo := 0) (hi := 3)) ?_
    rw [h4]
    refine ev_go 999 rfl trivial ?_
    first | refine ev_pos (by decide) ?_ | refine ev_neg (by decide) ?_
    exact kk
  by_cases h5 : day < a 17 (cl w)
  · refine no (-2) (by unfold cmOK cm2; rw [decide_eq_true h5, Bool.not_true, Bool.and_false, Bool.false_and, Bool.and_false]; rfl) (by unfold cmQ cm2; rw [hok, decide_eq_true h5, Bool.not_true, Bool.and_false]; rfl) (Bq ?_)
    refine ev_go 999 rfl ⟨vw, trivial⟩ ?_
    refine ev_pos h5 ?_
    refine ev_go 999 rfl trivial ?_
    exact ev_ret rfl trivial ⟨rfl, rfl⟩
  have hma := x9_markAtA (E := E) (d := d + 59) (i := i) (j := j) (a := a) (b := b) (x := cmT day mi) hI w2
  have him := x9_isMarkA (E := E) (d := d + 59) (i := i) (j := j) (a := a) (b := b) (x := cmT day mi) hI w2
  rw [← w1] at hma him
  cases h6 : stA a (cl w) (cmT day mi) with
  | true =>
    refine no (-2) (by unfold cmOK cm2; rw [h6, Bool.not_true, Bool.and_false, Bool.and_false]; rfl) (by unfold cmQ cm2; rw [hok, h6, Bool.not_true, Bool.and_false]; rfl) (Bq ?_)
    rw [h6] at him
    refine ev_go 999 rfl ⟨vw, trivial⟩ ?_
    refine ev_neg h5 ?_
    refine ev_go 999 rfl trivial ?_
    refine ev_call0 rfl (Nat.le_of_ble_eq_true rfl) (fun _ => ⟨_, _, _, rfl, rfl⟩) hma ?_
    refine ev_go 999 rfl trivial ?_
    refine ev_call0 rfl (Nat.le_of_ble_eq_true rfl) (fun _ => ⟨_, _, _, rfl, rfl⟩) him ?_
    refine ev_go 999 rfl trivial ?_
    refine ev_neg (by decide) ?_
    refine ev_go 999 rfl trivial ?_
    exact ev_ret rfl trivial ⟨rfl, rfl⟩
  | false =>
  rw [h6] at him
  have hc2 : cm2 a w day mi s = true := by unfold cm2; rw [h3, h4, decide_eq_false h5, h6]; rfl
  have h39 := hI.c39
  have h39b := h39.2
  have hmo := x9_monthOf (E := E) (d := d + 58) (M := am_L (mo i j a b)) d2
  rw [← d1] at hmo
  obtain ⟨mo1, _, _⟩ := mOf_sp d2
  have C : ∀ {P : Option Value → am_M → Prop}, am_ev E (d + 60) tX9_comes (93, [some (.ref 0), some (.int w), some (.int day), some (.int mi), some (.int s), some (.int (bI beh)), some (.int (cmT day mi)), none, none], [.int (bI (decide (mOf (cl day) < cl (i 39))))], am_L (mo i j a b), 0, 0) P → am_ev E (d + 60) tX9_comes (0, [some (.ref 0), some (.int w), some (.int day), some (.int mi), some (.int s), some (.int (bI beh)), none, none, none], [], am_L (mo i j a b), 0, 0) P := fun {P} kk => by
    refine Bq ?_
    refine ev_go 999 rfl ⟨vw, trivial⟩ ?_
    refine ev_neg h5 ?_
    refine ev_go 999 rfl trivial ?_
    refine ev_call0 rfl (Nat.le_of_ble_eq_true rfl) (fun _ => ⟨_, _, _, rfl, rfl⟩) hma ?_
    refine ev_go 999 rfl trivial ?_
    refine ev_call0 rfl (Nat.le_of_ble_eq_true rfl) (fun _ => ⟨_, _, _, rfl, rfl⟩) him ?_
    refine ev_go 999 rfl trivial ?_
    refine ev_pos (by decide) ?_
    refine ev_go 999 rfl trivial ?_
    refine ev_call0 rfl (Nat.le_of_ble_eq_true rfl) (fun z => by cases z) hmo ?_
    refine ev_go 999 rfl trivial ?_
    by_cases z : mOf (cl day) < cl (i 39)
    · rw [decide_eq_true z] at kk
      refine ev_neg (by show ¬ i 39 ≤ nI (mOf (cl day)); rw [h39.1]; exact nI_ge z (by omega)) ?_
      refine ev_go 999 rfl trivial ?_
      exact kk
    · rw [decide_eq_false z] at kk
      refine ev_pos (by show i 39 ≤ nI (mOf (cl day)); rw [h39.1]; exact nI_le (by omega) (by omega)) ?_
      refine ev_go 93 rfl trivial ?_
      exact kk
  by_cases h7 : decide (mOf (cl day) < cl (i 39)) = beh
  · by_cases h8 : cl (i 39) < 36
    · have hc3 : cm3 i day beh = true := by unfold cm3; rw [decide_eq_true h7, decide_eq_true h8]; rfl
      have hm := hI.wm (cl w) w2
      have n4 := hm.n4
      have e21 : a 21 w.toNatClampNeg = nI (nA a (cl w)) := hm.h21
      have h26 := hI.m26
      have F : ∀ {P : Option Value → am_M → Prop}, am_ev E (d + 60) tX9_comes (110, [some (.ref 0), some (.int w), some (.int day), some (.int mi), some (.int s), some (.int (bI beh)), some (.int (cmT day mi)), none, none], [], am_L (mo i j a b), 0, 0) P → am_ev E (d + 60) tX9_comes (0, [some (.ref 0), some (.int w), some (.int day), some (.int mi), some (.int s), some (.int (bI beh)), none, none, none], [], am_L (mo i j a b), 0, 0) P := fun {P} kk => by
        refine C ?_
        rw [h7]
        refine ev_go 999 rfl trivial ?_
        refine ev_neg (fun z => z rfl) ?_
        refine ev_go 999 rfl trivial ?_
        refine ev_pos (by show ¬ i 39 = nI 36; rw [h39.1, nI_eq (by omega) (by omega)]; omega) ?_
        exact kk
      by_cases h9 : nA a (cl w) < 400
      · by_cases h10 : fb_sm (nA a) 30 < 1000
        · have hc4 : cm4 a w = true := by unfold cm4; rw [decide_eq_true h9, decide_eq_true h10]; rfl
          have hOK : cmOK i a w day mi s beh = true := by unfold cmOK; rw [hok, hc2, hc3, hc4]; rfl
          have eQ : cmQ i a w day mi s beh = nI (nA a (cl w) + 1) := by unfold cmQ; rw [if_pos hok, if_pos hc2, if_pos hc3, if_pos hc4]
          unfold cmI cmA cmB
          rw [hOK, eQ, if_pos rfl, if_pos rfl, if_pos rfl]
          rw [eT] at h6 ⊢
          obtain ⟨i', j', a', sc, hD⟩ := x9_comes_ok (E := E) (d := d) (i := i) (j := j) (a := a) (b := b) (x := 1440 * cl day + cl mi) (s := cl s) (v2 := day) (v3 := mi) (v5 := bI beh) (o7 := none) (o8 := none) hI w2 (by omega) sb h6 h9 h10 h8
          rw [← s1.1] at sc hD
          refine ⟨i', j', a', sc, ?_⟩
          rw [← w1, ← eT] at hD
          rw [← eT]
          refine am_D_of (Nat.le_of_ble_eq_true rfl) ?_
          refine F ?_
          refine ev_go 999 rfl ⟨vw, trivial⟩ ?_
          refine ev_neg (by show ¬ a 21 w.toNatClampNeg = nI 400; rw [e21, nI_eq (by omega) (by omega)]; omega) ?_
          refine ev_go 999 rfl trivial ?_
          refine ev_pos (by show ¬ i 26 = nI 1000; rw [h26.1, nI_eq (by omega) (by omega)]; omega) ?_
          exact hD
        · have hc4 : cm4 a w = false := by unfold cm4; rw [decide_eq_false h10, Bool.and_false]
          refine no (-4) (by unfold cmOK; rw [hc4, Bool.and_false]) (by unfold cmQ; rw [if_pos hok, if_pos hc2, if_pos hc3, hc4]; rfl) (F ?_)
          refine ev_go 999 rfl ⟨vw, trivial⟩ ?_
          refine ev_neg (by show ¬ a 21 w.toNatClampNeg = nI 400; rw [e21, nI_eq (by omega) (by omega)]; omega) ?_
          refine ev_go 999 rfl trivial ?_
          refine ev_neg (by show ¬ ¬ i 26 = nI 1000; rw [h26.1, nI_eq (by omega) (by omega)]; omega) ?_
          refine ev_go 999 rfl trivial ?_
          exact ev_ret rfl trivial ⟨rfl, rfl⟩
      · have hc4 : cm4 a w = false := by unfold cm4; rw [decide_eq_false h9, Bool.false_and]
        refine no (-4) (by unfold cmOK; rw [hc4, Bool.and_false]) (by unfold cmQ; rw [if_pos hok, if_pos hc2, if_pos hc3, hc4]; rfl) (F ?_)
        refine ev_go 999 rfl ⟨vw, trivial⟩ ?_
        refine ev_pos (by show a 21 w.toNatClampNeg = nI 400; rw [e21, nI_eq (by omega) (by omega)]; omega) ?_
        refine ev_go 999 rfl trivial ?_
        exact ev_ret rfl trivial ⟨rfl, rfl⟩
    · have hc3 : cm3 i day beh = false := by unfold cm3; rw [decide_eq_false h8, Bool.and_false]
      refine no (-3) (by unfold cmOK; rw [hc3, Bool.and_false, Bool.false_and]) (by unfold cmQ; rw [if_pos hok, if_pos hc2, hc3]; rfl) (C ?_)
      rw [h7]
      refine ev_go 999 rfl trivial ?_
      refine ev_neg (fun z => z rfl) ?_
      refine ev_go 999 rfl trivial ?_
      refine ev_neg (by show ¬ ¬ i 39 = nI 36; rw [h39.1, nI_eq (by omega) (by omega)]; omega) ?_
      refine ev_go 999 rfl trivial ?_
      exact ev_ret rfl trivial ⟨rfl, rfl⟩
  · have hc3 : cm3 i day beh = false := by unfold cm3; rw [decide_eq_false h7, Bool.false_and]
    refine no (-3) (by unfold cmOK; rw [hc3, Bool.and_false, Bool.false_and]) (by unfold cmQ; rw [if_pos hok, if_pos hc2, hc3]; rfl) (C ?_)
    refine ev_go 999 rfl trivial ?_
    refine ev_pos (fun z => h7 (by cases hx : decide (mOf (cl day) < cl (i 39)) <;> cases beh <;> first | rfl | (rw [hx] at z; revert z; decide))) ?_
    refine ev_go 999 rfl trivial ?_
    exact ev_ret rfl trivial ⟨rfl, rfl⟩
theorem x9_mark {w day mi s : Int32} (hI : INV i a) : ∃ i' j' a', Scr (cmI i a w day mi s false) i' (cmA i a w day mi s false) a' ∧ am_D E (d + 62) tX9_mark [.ref 0, .int w, .int day, .int mi, .int s] (am_L (mo i j a b)) 0 0 (some (.int (cmQ i a w day mi s false))) (am_L (mo i' j' a' (cmB i a b w day mi s false))) := by
  obtain ⟨i', j', a', sc, hD⟩ := x9_comes (E := E) (d := d) (i := i) (j := j) (a := a) (b := b) (w := w) (day := day) (mi := mi) (s := s) (beh := false) hI
  refine ⟨i', j', a', sc, ?_⟩
  refine am_D_of (Nat.le_of_ble_eq_true rfl) ?_
  refine ev_go 999 rfl trivial ?_
  refine ev_call0 rfl (Nat.le_of_ble_eq_true rfl) (fun _ => ⟨_, _, _, rfl, rfl⟩) hD ?_
  exact ev_ret rfl trivial ⟨rfl, rfl⟩
theorem x9_late {w day mi s : Int32} (hI : INV i a) : ∃ i' j' a', Scr (cmI i a w day mi s true) i' (cmA i a w day mi s true) a' ∧ am_D E (d + 62) tX9_late [.ref 0, .int w, .int day, .int mi, .int s] (am_L (mo i j a b)) 0 0 (some (.int (cmQ i a w day mi s true))) (am_L (mo i' j' a' (cmB i a b w day mi s true))) := by
  obtain ⟨i', j', a', sc, hD⟩ := x9_comes (E := E) (d := d) (i := i) (j := j) (a := a) (b := b) (w := w) (day := day) (mi := mi) (s := s) (beh := true) hI
  refine ⟨i', j', a', sc, ?_⟩
  refine am_D_of (Nat.le_of_ble_eq_true rfl) ?_
  refine ev_go 999 rfl trivial ?_
  refine ev_call0 rfl (Nat.le_of_ble_eq_true rfl) (fun _ => ⟨_, _, _, rfl, rfl⟩) hD ?_
  exact ev_ret rfl trivial ⟨rfl, rfl⟩
end C9
