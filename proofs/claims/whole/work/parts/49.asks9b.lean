theorem scr_fx {i i' : Nat → Int32} {a a' : Nat → Nat → Int32} (h : Scr i i' a a') (b : Nat → Nat → Int64) (w : Nat) : ∀ k, FX i' a' b w k = FX i a b w k
  | 0 => by unfold FX; rw [h.2 39 (by decide) (by decide)]
  | k + 1 => by
    unfold FX
    rw [scr_fx h b w k, h.2 39 (by decide) (by decide), h.t, h.r, h.n, h.paidF, h.dueS]
theorem scr_says {i i' : Nat → Int32} {a a' : Nat → Nat → Int32} (h : Scr i i' a a') (b : Nat → Nat → Int64) (w m what : Nat) : saysA i' a' b w m what = saysA i a b w m what := by
  unfold saysA
  rw [scr_fx h, h.2 39 (by decide) (by decide), h.t, h.r, h.n, h.paidF, h.centF]
section Q9
variable {E : am_E} {d : Nat} {i : Nat → Int32} {j : Nat → Int64} {a : Nat → Nat → Int32} {b : Nat → Nat → Int64}
theorem x9_sum {g m what : Int32} (hI : INV i a) : ∃ i' j' a', Scr i i' a a' ∧ am_D E (d + 61) tX9_sum [.ref 0, .int g, .int m, .int what] (am_L (mo i j a b)) 0 0 (some (.long (sumA i a b g m what))) (am_L (mo i' j' a' b)) := by
  unfold sumA
  cases h : (inB g 0 5 && inB m 0 35 && inB what 0 1) with
  | false =>
    refine ⟨i, j, a, Scr.rf, ?_⟩
    rw [if_neg (by decide)]
    refine am_D_of (Nat.le_of_ble_eq_true rfl) ?_
    cases h1 : inB g 0 5 with
    | false =>
      refine ev_go 999 rfl trivial ?_
      refine ev_call0 rfl (Nat.le_of_ble_eq_true rfl) (fun z => by cases z) (x9_isGroup (d := d + 58) (v := g)) ?_
      rw [h1]
      refine ev_go 999 rfl trivial ?_
      first | refine ev_pos (by decide) ?_ | refine ev_neg (by decide) ?_
      refine ev_go 999 rfl trivial ?_
      exact ev_ret rfl trivial ⟨rfl, rfl⟩
    | true =>
      refine ev_go 999 rfl trivial ?_
      refine ev_call0 rfl (Nat.le_of_ble_eq_true rfl) (fun z => by cases z) (x9_isGroup (d := d + 58) (v := g)) ?_
      rw [h1]
      refine ev_go 999 rfl trivial ?_
      first | refine ev_pos (by decide) ?_ | refine ev_neg (by decide) ?_
      cases h2 : inB m 0 35 with
      | false =>
        refine ev_go 999 rfl trivial ?_
        refine ev_call0 rfl (Nat.le_of_ble_eq_true rfl) (fun z => by cases z) (x9_in (d := d + 59) (v := m) (lo := 0) (hi := 35)) ?_
        rw [h2]
        refine ev_go 999 rfl trivial ?_
        first | refine ev_pos (by decide) ?_ | refine ev_neg (by decide) ?_
        refine ev_go 999 rfl trivial ?_
        exact ev_ret rfl trivial ⟨rfl, rfl⟩
      | true =>
        rw [h1, h2] at h
        refine ev_go 999 rfl trivial ?_
        refine ev_call0 rfl (Nat.le_of_ble_eq_true rfl) (fun z => by cases z) (x9_in (d := d + 59) (v := m) (lo := 0) (hi := 35)) ?_
        rw [h2]
        refine ev_go 999 rfl trivial ?_
        first | refine ev_pos (by decide) ?_ | refine ev_neg (by decide) ?_
        refine ev_go 999 rfl trivial ?_
        refine ev_call0 rfl (Nat.le_of_ble_eq_true rfl) (fun z => by cases z) (x9_in (d := d + 59) (v := what) (lo := 0) (hi := 1)) ?_
        rw [show inB what 0 1 = false from h]
        refine ev_go 999 rfl trivial ?_
        first | refine ev_pos (by decide) ?_ | refine ev_neg (by decide) ?_
        refine ev_go 999 rfl trivial ?_
        exact ev_ret rfl trivial ⟨rfl, rfl⟩
  | true =>
    rw [if_pos rfl]
    obtain ⟨h1, h2, h3⟩ := and3.mp h
    have g1 := le0_in (N := 5) (by omega) h1
    have m1 := le0_in (N := 35) (by omega) h2
    have q1 := le0_in (N := 1) (by omega) h3
    have hnw := hI.w19
    obtain ⟨nw, hnwd⟩ : ∃ nw, nw = cl (i 19) := ⟨_, rfl⟩
    have hnb := hnw.2
    rw [← hnwd] at hnb ⊢
    obtain ⟨P, hP⟩ : ∃ P : Option Value → am_M → Prop, P = fun v M => v = some (.long (sumS i a b (cl g) (cl m) (cl what) nw)) ∧ ∃ i' j' a', Scr i i' a a' ∧ M = am_L (mo i' j' a' b) := ⟨_, rfl⟩
    have loop : ∀ n q, nw - q = n → q ≤ nw → ∀ i1 j1 a1, Scr i i1 a a1 → am_ev E (d + 60) tX9_sum (36, [some (.ref 0), some (.int g), some (.int m), some (.int what), some (.long (sumS i a b (cl g) (cl m) (cl what) q)), none, some (.int (nI q))], [], am_L (mo i1 j1 a1 b), 0, 0) P := by
      intro n
      induction n with
      | zero =>
        intro q e1 e2 i1 j1 a1 sc
        have e : q = nw := by omega
        subst e
        refine ev_go 999 rfl trivial ?_
        refine ev_pos (by show i1 19 ≤ nI q; rw [sc.2 19 (by decide) (by decide), hnw.1, ← hnwd]; exact nI_le (Nat.le_refl _) (by omega)) ?_
        refine ev_go 999 rfl trivial ?_
        refine ev_ret rfl trivial ?_
        rw [hP]
        exact ⟨rfl, i1, j1, a1, sc, rfl⟩
      | succ n ih =>
        intro q e1 e2 i1 j1 a1 sc
        have vq : vp_in (nI q) 30 := vp_in_nI (by omega) (by omega)
        have e16 : a1 16 (nI q).toNatClampNeg = nI (gA a q) := by rw [nI_clamp (by omega), sc.1 16 (by omega)]; exact hI.h16 (by omega)
        have gl := hI.gl (w := q) (by omega)
        have gb := g1.2
        have hs : sumS i a b (cl g) (cl m) (cl what) (q + 1) = sumS i a b (cl g) (cl m) (cl what) q + (if gA a q = cl g then saysA i a b q (cl m) (cl what) else 0) := rfl
        refine ev_go 999 rfl trivial ?_
        refine ev_neg (by show ¬ i1 19 ≤ nI q; rw [sc.2 19 (by decide) (by decide), hnw.1, ← hnwd]; exact nI_ge (by omega) (by omega)) ?_
        refine ev_go 999 rfl ⟨vq, trivial⟩ ?_
        by_cases hg : gA a q = cl g
        · refine ev_neg (by show ¬ ¬ a1 16 (nI q).toNatClampNeg = g; rw [e16, hg, ← g1.1]; exact fun z => z rfl) ?_
          obtain ⟨i2, j2, a2, sc2, hD⟩ := x9_says (E := E) (d := d) (i := i1) (j := j1) (a := a1) (b := b) (w := q) (m := cl m) (what := cl what) (sc.inv hI) (by omega) (by have := m1.2; omega) (by have := q1.2; omega)
          rw [scr_says sc, ← m1.1, ← q1.1] at hD
          have kk := ih (q + 1) (by omega) (by omega) i2 j2 a2 (sc.tr sc2)
          rw [hs, if_pos hg, ← nI_1 q] at kk
          refine ev_go 999 rfl trivial ?_
          refine ev_call0 rfl (Nat.le_of_ble_eq_true rfl) (fun _ => ⟨_, _, _, rfl, rfl⟩) hD ?_
          refine ev_go 999 rfl trivial ?_
          refine ev_go 999 rfl trivial ?_
          exact kk
        · refine ev_pos (by show ¬ a1 16 (nI q).toNatClampNeg = g; rw [e16, g1.1, nI_eq (by omega) (by omega)]; exact hg) ?_
          have kk := ih (q + 1) (by omega) (by omega) i1 j1 a1 sc
          rw [hs, if_neg hg, ← nI_1 q] at kk
          refine ev_go 999 rfl trivial ?_
          exact kk
    have main : am_ev E (d + 60) tX9_sum (0, am_in [.ref 0, .int g, .int m, .int what] tX9_sum.2.2.2.1, [], am_L (mo i j a b), 0, 0) P := by
      refine ev_go 999 rfl trivial ?_
      refine ev_call0 rfl (Nat.le_of_ble_eq_true rfl) (fun z => by cases z) (x9_isGroup (d := d + 58) (v := g)) ?_
      rw [h1]
      refine ev_go 999 rfl trivial ?_
      first | refine ev_pos (by decide) ?_ | refine ev_neg (by decide) ?_
      refine ev_go 999 rfl trivial ?_
      refine ev_call0 rfl (Nat.le_of_ble_eq_true rfl) (fun z => by cases z) (x9_in (d := d + 59) (v := m) (lo := 0) (hi := 35)) ?_
      rw [h2]
      refine ev_go 999 rfl trivial ?_
      first | refine ev_pos (by decide) ?_ | refine ev_neg (by decide) ?_
      refine ev_go 999 rfl trivial ?_
      refine ev_call0 rfl (Nat.le_of_ble_eq_true rfl) (fun z => by cases z) (x9_in (d := d + 59) (v := what) (lo := 0) (hi := 1)) ?_
      rw [h3]
      refine ev_go 999 rfl trivial ?_
      first | refine ev_pos (by decide) ?_ | refine ev_neg (by decide) ?_
      refine ev_go 36 rfl trivial ?_
      exact loop nw 0 (by omega) (Nat.zero_le _) i j a Scr.rf
    obtain ⟨v, M', hv, hD2⟩ := am_D_ex (Nat.le_of_ble_eq_true rfl) main
    rw [hP] at hv
    obtain ⟨rfl, i', j', a', h1, rfl⟩ := hv
    exact ⟨i', j', a', h1, hD2⟩
def dueQ (i : Nat → Int32) (a : Nat → Nat → Int32) (w day : Int32) : Int32 := if (inB w 0 (i 19 - 1) && inB day 0 1095) = true then nI (dueA a (cl w) (cl day)) else -1
theorem x9_due {w day : Int32} (hI : INV i a) : am_D E (d + 61) tX9_due [.ref 0, .int w, .int day] (am_L (mo i j a b)) 0 0 (some (.int (dueQ i a w day))) (am_L (mo i j a b)) := by
  unfold dueQ
  refine am_D_of (Nat.le_of_ble_eq_true rfl) ?_
  cases h1 : inB w 0 (i 19 - 1) with
  | false =>
    rw [Bool.false_and, if_neg (by decide)]
    refine ev_go 999 rfl trivial ?_
    refine ev_call0 rfl (Nat.le_of_ble_eq_true rfl) (fun _ => ⟨_, _, _, rfl, rfl⟩) (x9_isWorker (d := d + 58) (v := w)) ?_
    rw [h1]
    refine ev_go 999 rfl trivial ?_
    first | refine ev_pos (by decide) ?_ | refine ev_neg (by decide) ?_
    refine ev_go 999 rfl trivial ?_
    exact ev_ret rfl trivial ⟨rfl, rfl⟩
  | true =>
    refine ev_go 999 rfl trivial ?_
    refine ev_call0 rfl (Nat.le_of_ble_eq_true rfl) (fun _ => ⟨_, _, _, rfl, rfl⟩) (x9_isWorker (d := d + 58) (v := w)) ?_
    rw [h1]
    refine ev_go 999 rfl trivial ?_
    first | refine ev_pos (by decide) ?_ | refine ev_neg (by decide) ?_
    cases h2 : inB day 0 1095 with
    | false =>
      rw [Bool.and_false, if_neg (by decide)]
      refine ev_go 999 rfl trivial ?_
      refine ev_call0 rfl (Nat.le_of_ble_eq_true rfl) (fun z => by cases z) (x9_isDay (d := d + 58) (v := day)) ?_
      rw [h2]
      refine ev_go 999 rfl trivial ?_
      first | refine ev_pos (by decide) ?_ | refine ev_neg (by decide) ?_
      refine ev_go 999 rfl trivial ?_
      exact ev_ret rfl trivial ⟨rfl, rfl⟩
    | true =>
      rw [Bool.and_true, if_pos rfl]
      obtain ⟨w1, w2, _⟩ := hI.wIn h1
      obtain ⟨d1, d2⟩ := dIn h2
      have hD := x9_dueA (E := E) (d := d + 58) (i := i) (j := j) (a := a) (b := b) (w := cl w) (day := cl day) hI w2 d2
      rw [← w1, ← d1] at hD
      refine ev_go 999 rfl trivial ?_
      refine ev_call0 rfl (Nat.le_of_ble_eq_true rfl) (fun z => by cases z) (x9_isDay (d := d + 58) (v := day)) ?_
      rw [h2]
      refine ev_go 999 rfl trivial ?_
      first | refine ev_pos (by decide) ?_ | refine ev_neg (by decide) ?_
      refine ev_go 999 rfl trivial ?_
      refine ev_call0 rfl (Nat.le_of_ble_eq_true rfl) (fun _ => ⟨_, _, _, rfl, rfl⟩) hD ?_
      refine ev_go 999 rfl trivial ?_
      exact ev_ret rfl trivial ⟨rfl, rfl⟩
theorem x9_looks_no {w day : Int32} (h : (inB w 0 (i 19 - 1) && inB day 0 1095) = false) : am_D E (d + 59) tX9_looks [.ref 0, .int w, .int day] (am_L (mo i j a b)) 0 0 (some (.int (bI false))) (am_L (mo i j a b)) := by
  refine am_D_of (Nat.le_of_ble_eq_true rfl) ?_
  cases h1 : inB w 0 (i 19 - 1) with
  | false =>
    refine ev_go 999 rfl trivial ?_
    refine ev_call0 rfl (Nat.le_of_ble_eq_true rfl) (fun _ => ⟨_, _, _, rfl, rfl⟩) (x9_isWorker (d := d + 56) (v := w)) ?_
    rw [h1]
    refine ev_go 999 rfl trivial ?_
    first | refine ev_pos (by decide) ?_ | refine ev_neg (by decide) ?_
    refine ev_go 999 rfl trivial ?_
    exact ev_ret rfl ⟨Or.inl rfl, trivial⟩ ⟨rfl, rfl⟩
  | true =>
    rw [h1, Bool.true_and] at h
    refine ev_go 999 rfl trivial ?_
    refine ev_call0 rfl (Nat.le_of_ble_eq_true rfl) (fun _ => ⟨_, _, _, rfl, rfl⟩) (x9_isWorker (d := d + 56) (v := w)) ?_
    rw [h1]
    refine ev_go 999 rfl trivial ?_
    first | refine ev_pos (by decide) ?_ | refine ev_neg (by decide) ?_
    refine ev_go 999 rfl trivial ?_
    refine ev_call0 rfl (Nat.le_of_ble_eq_true rfl) (fun z => by cases z) (x9_isDay (d := d + 56) (v := day)) ?_
    rw [h]
    refine ev_go 999 rfl trivial ?_
    first | refine ev_pos (by decide) ?_ | refine ev_neg (by decide) ?_
    refine ev_go 999 rfl trivial ?_
    exact ev_ret rfl ⟨Or.inl rfl, trivial⟩ ⟨rfl, rfl⟩
theorem x9_looks_ok {w day : Int32} (hI : INV i a) (h1 : inB w 0 (i 19 - 1) = true) (h2 : inB day 0 1095 = true) : ∃ i' a', Scr i i' a a' ∧ (∀ m, m < 2880 → a' 30 m = dA a (cl w) (cl day) m) ∧ (∀ q, q < 5 → a' 31 q = nI (cntF (dA a (cl w) (cl day)) (q + 2) 2880)) ∧ am_D E (d + 59) tX9_looks [.ref 0, .int w, .int day] (am_L (mo i j a b)) 0 0 (some (.int (bI true))) (am_L (mo i' j a' b)) := by
  obtain ⟨w1, w2, _⟩ := hI.wIn h1
  obtain ⟨d1, d2⟩ := dIn h2
  obtain ⟨i1, a1, sc1, pd1, hD1⟩ := x9_pairA (E := E) (d := d + 57) (i := i) (j := j) (a := a) (b := b) hI w2
  obtain ⟨f, h, c, hf, hh, hD2⟩ := x9_lookA (E := E) (d := d + 55) (i := i1) (j := j) (a := a1) (b := b) (day := cl day) (sc1.inv hI) w2 (by rw [sc1.n, sc1.t, sc1.s]; exact pd1) d2
  rw [sc1.d] at hf hh
  rw [← w1, ← d1] at hD2
  rw [← w1] at hD1
  have e30 : lk a1 f h 30 = f := lk_30
  have e31 : lk a1 f h 31 = h := lk_31
  refine ⟨va_up i1 38 c, lk a1 f h, sc1.tr Scr.lk, by rw [e30]; exact hf, by rw [e31]; exact hh, ?_⟩
  refine am_D_of (Nat.le_of_ble_eq_true rfl) ?_
  refine ev_go 999 rfl trivial ?_
  refine ev_call0 rfl (Nat.le_of_ble_eq_true rfl) (fun _ => ⟨_, _, _, rfl, rfl⟩) (x9_isWorker (d := d + 56) (v := w)) ?_
  rw [h1]
  refine ev_go 999 rfl trivial ?_
  first | refine ev_pos (by decide) ?_ | refine ev_neg (by decide) ?_
  refine ev_go 999 rfl trivial ?_
  refine ev_call0 rfl (Nat.le_of_ble_eq_true rfl) (fun z => by cases z) (x9_isDay (d := d + 56) (v := day)) ?_
  rw [h2]
  refine ev_go 999 rfl trivial ?_
  first | refine ev_pos (by decide) ?_ | refine ev_neg (by decide) ?_
  refine ev_go 999 rfl trivial ?_
  refine ev_call0 rfl (Nat.le_of_ble_eq_true rfl) (fun _ => ⟨_, _, _, rfl, rfl⟩) hD1 ?_
  refine ev_go 999 rfl trivial ?_
  refine ev_call0 rfl (Nat.le_of_ble_eq_true rfl) (fun _ => ⟨_, _, _, rfl, rfl⟩) hD2 ?_
  refine ev_go 999 rfl trivial ?_
  exact ev_ret rfl ⟨Or.inr rfl, trivial⟩ ⟨rfl, rfl⟩
end Q9
