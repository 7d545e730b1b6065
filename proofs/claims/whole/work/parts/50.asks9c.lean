theorem am_sw_out {pc : Nat} {dd : Int} {offs : Array Int} {x : Int32} (hi : Nat) (hh : hi < 2 ^ 31) (h : inB x 0 (nI hi) = false) : am_sw pc dd 0 (hi : Int) offs x = am_tg pc dd := by
  unfold am_sw
  unfold inB at h
  have e : (decide (x.toInt < 0) || decide ((hi : Int) < x.toInt)) = true := by
    rw [Bool.and_eq_false_iff] at h
    rcases h with z | z
    · have := of_decide_eq_false z
      rw [fa_le] at this
      have e0 : (0 : Int32).toInt = 0 := by decide
      rw [e0] at this
      rw [decide_eq_true (show x.toInt < 0 by omega)]; rfl
    · have := of_decide_eq_false z
      rw [fa_le, nI_toInt hh] at this
      rw [decide_eq_true (show (hi : Int) < x.toInt by omega), Bool.or_true]
  rw [e]
  rfl
section Q9
variable {E : am_E} {d : Nat} {i : Nat → Int32} {j : Nat → Int64} {a : Nat → Nat → Int32} {b : Nat → Nat → Int64}
def okL (i : Nat → Int32) (w day : Int32) : Bool := inB w 0 (i 19 - 1) && inB day 0 1095
theorem okL_t {w day : Int32} : okL i w day = true ↔ inB w 0 (i 19 - 1) = true ∧ inB day 0 1095 = true := Bool.and_eq_true_iff
def minQ (i : Nat → Int32) (a : Nat → Nat → Int32) (w day m : Int32) : Int32 := if (inB m 0 2879 && okL i w day) = true then dA a (cl w) (cl day) (cl m) else -1
theorem x9_minute {w day m : Int32} (hI : INV i a) : ∃ i' a', Scr i i' a a' ∧ am_D E (d + 61) tX9_minute [.ref 0, .int w, .int day, .int m] (am_L (mo i j a b)) 0 0 (some (.int (minQ i a w day m))) (am_L (mo i' j a' b)) := by
  unfold minQ
  cases h1 : inB m 0 2879 with
  | false =>
    refine ⟨i, a, Scr.rf, ?_⟩
    rw [Bool.false_and, if_neg (by decide)]
    refine am_D_of (Nat.le_of_ble_eq_true rfl) ?_
    refine ev_go 999 rfl trivial ?_
    refine ev_call0 rfl (Nat.le_of_ble_eq_true rfl) (fun z => by cases z) (x9_in (d := d + 59) (v := m) (lo := 0) (hi := 2879)) ?_
    rw [h1]
    refine ev_go 999 rfl trivial ?_
    first | refine ev_pos (by decide) ?_ | refine ev_neg (by decide) ?_
    refine ev_go 999 rfl trivial ?_
    exact ev_ret rfl trivial ⟨rfl, rfl⟩
  | true =>
    cases h2 : okL i w day with
    | false =>
      refine ⟨i, a, Scr.rf, ?_⟩
      rw [Bool.and_false, if_neg (by decide)]
      refine am_D_of (Nat.le_of_ble_eq_true rfl) ?_
      refine ev_go 999 rfl trivial ?_
      refine ev_call0 rfl (Nat.le_of_ble_eq_true rfl) (fun z => by cases z) (x9_in (d := d + 59) (v := m) (lo := 0) (hi := 2879)) ?_
      rw [h1]
      refine ev_go 999 rfl trivial ?_
      first | refine ev_pos (by decide) ?_ | refine ev_neg (by decide) ?_
      refine ev_go 999 rfl trivial ?_
      refine ev_call0 rfl (Nat.le_of_ble_eq_true rfl) (fun _ => ⟨_, _, _, rfl, rfl⟩) (x9_looks_no (d := d + 1) h2) ?_
      rw [show bI false = bI false from rfl]
      refine ev_go 999 rfl trivial ?_
      first | refine ev_pos (by decide) ?_ | refine ev_neg (by decide) ?_
      refine ev_go 999 rfl trivial ?_
      exact ev_ret rfl trivial ⟨rfl, rfl⟩
    | true =>
      obtain ⟨g1, g2⟩ := okL_t.mp h2
      obtain ⟨i', a', sc, hf, hh, hD⟩ := x9_looks_ok (E := E) (d := d + 1) (i := i) (j := j) (a := a) (b := b) hI g1 g2
      refine ⟨i', a', sc, ?_⟩
      rw [Bool.true_and, if_pos rfl]
      have m1 := le0_in (N := 2879) (by omega) h1
      have mb := m1.2
      refine am_D_of (Nat.le_of_ble_eq_true rfl) ?_
      refine ev_go 999 rfl trivial ?_
      refine ev_call0 rfl (Nat.le_of_ble_eq_true rfl) (fun z => by cases z) (x9_in (d := d + 59) (v := m) (lo := 0) (hi := 2879)) ?_
      rw [h1]
      refine ev_go 999 rfl trivial ?_
      first | refine ev_pos (by decide) ?_ | refine ev_neg (by decide) ?_
      refine ev_go 999 rfl trivial ?_
      refine ev_call0 rfl (Nat.le_of_ble_eq_true rfl) (fun _ => ⟨_, _, _, rfl, rfl⟩) (hD) ?_
      rw [show bI true = bI true from rfl]
      refine ev_go 999 rfl trivial ?_
      first | refine ev_pos (by decide) ?_ | refine ev_neg (by decide) ?_
      refine ev_go 999 rfl ⟨by rw [m1.1]; exact vp_in_nI (by omega) (by omega), trivial⟩ ?_
      refine ev_ret rfl trivial ⟨?_, rfl⟩
      show some (Value.int (a' 30 (cl m))) = _
      rw [hf (cl m) (by omega)]
def minsQ (i : Nat → Int32) (a : Nat → Nat → Int32) (w day s : Int32) : Int32 := if (inB s 0 7 && okL i w day) = true then (if s = 0 then nI (paidA a (cl w) (cl day)) else nI (cntC (dA a (cl w) (cl day)) s 2880)) else -1
theorem x9_minutes {w day s : Int32} (hI : INV i a) : ∃ i' a', Scr i i' a a' ∧ am_D E (d + 61) tX9_minutes [.ref 0, .int w, .int day, .int s] (am_L (mo i j a b)) 0 0 (some (.int (minsQ i a w day s))) (am_L (mo i' j a' b)) := by
  unfold minsQ
  cases h1 : inB s 0 7 with
  | false =>
    refine ⟨i, a, Scr.rf, ?_⟩
    rw [Bool.false_and, if_neg (by decide)]
    refine am_D_of (Nat.le_of_ble_eq_true rfl) ?_
    refine ev_go 999 rfl trivial ?_
    refine ev_call0 rfl (Nat.le_of_ble_eq_true rfl) (fun z => by cases z) (x9_in (d := d + 59) (v := s) (lo := 0) (hi := 7)) ?_
    rw [h1]
    refine ev_go 999 rfl trivial ?_
    first | refine ev_pos (by decide) ?_ | refine ev_neg (by decide) ?_
    refine ev_go 999 rfl trivial ?_
    exact ev_ret rfl trivial ⟨rfl, rfl⟩
  | true =>
    cases h2 : okL i w day with
    | false =>
      refine ⟨i, a, Scr.rf, ?_⟩
      rw [Bool.and_false, if_neg (by decide)]
      refine am_D_of (Nat.le_of_ble_eq_true rfl) ?_
      refine ev_go 999 rfl trivial ?_
      refine ev_call0 rfl (Nat.le_of_ble_eq_true rfl) (fun z => by cases z) (x9_in (d := d + 59) (v := s) (lo := 0) (hi := 7)) ?_
      rw [h1]
      refine ev_go 999 rfl trivial ?_
      first | refine ev_pos (by decide) ?_ | refine ev_neg (by decide) ?_
      refine ev_go 999 rfl trivial ?_
      refine ev_call0 rfl (Nat.le_of_ble_eq_true rfl) (fun _ => ⟨_, _, _, rfl, rfl⟩) (x9_looks_no (d := d + 1) h2) ?_
      rw [show bI false = bI false from rfl]
      refine ev_go 999 rfl trivial ?_
      first | refine ev_pos (by decide) ?_ | refine ev_neg (by decide) ?_
      refine ev_go 999 rfl trivial ?_
      exact ev_ret rfl trivial ⟨rfl, rfl⟩
    | true =>
      obtain ⟨g1, g2⟩ := okL_t.mp h2
      obtain ⟨i', a', sc, hf, hh, hD⟩ := x9_looks_ok (E := E) (d := d + 1) (i := i) (j := j) (a := a) (b := b) hI g1 g2
      refine ⟨i', a', sc, ?_⟩
      rw [Bool.true_and, if_pos rfl]
      have hp : cntP (a' 30) 2880 = paidA a (cl w) (cl day) := cntP_cong hf
      have hc : cntC (a' 30) s 2880 = cntC (dA a (cl w) (cl day)) s 2880 := cntC_cong hf
      have loop : ∀ n q, 2880 - q = n → q ≤ 2880 → am_ev E (d + 60) tX9_minutes (27, [some (.ref 0), some (.int w), some (.int day), some (.int s), some (.int (nI (cntC (a' 30) s q))), some (.int (nI q))], [], am_L (mo i' j a' b), 0, 0) (fun v' M'' => v' = some (.int (if s = 0 then nI (paidA a (cl w) (cl day)) else nI (cntC (dA a (cl w) (cl day)) s 2880))) ∧ M'' = am_L (mo i' j a' b)) := by
        intro n
        induction n with
        | zero =>
          intro q e1 e2
          have e : q = 2880 := by omega
          subst e
          refine ev_go 999 rfl trivial ?_
          refine ev_pos (nI_le (Nat.le_refl _) (by omega)) ?_
          refine ev_go 999 rfl trivial ?_
          refine ev_if (fun h => ?_) (fun h => ?_)
          · have h : ¬ s = 0 := h
            refine ev_go 999 rfl trivial ?_
            refine ev_ret rfl trivial ⟨?_, rfl⟩
            rw [if_neg h, ← hc]
          · have h : ¬ ¬ s = 0 := h
            refine ev_go 999 rfl trivial ?_
            refine ev_call0 rfl (Nat.le_of_ble_eq_true rfl) (fun _ => ⟨_, _, _, rfl, rfl⟩) (x9_paid (d := d + 59)) ?_
            refine ev_go 999 rfl trivial ?_
            refine ev_ret rfl trivial ⟨?_, rfl⟩
            rw [if_pos (Classical.not_not.mp h), ← hp]
        | succ n ih =>
          intro q e1 e2
          have kk := ih (q + 1) (by omega) (by omega)
          rw [cntC_succ, ← nI_1 q] at kk
          refine ev_go 999 rfl trivial ?_
          refine ev_neg (nI_ge (a := q) (b := 2880) (by omega) (by omega)) ?_
          refine ev_go 999 rfl ⟨vp_in_nI (by omega) (by omega), trivial⟩ ?_
          refine ev_if (fun h => ?_) (fun h => ?_)
          · have h : ¬ a' 30 (nI q).toNatClampNeg = s := h
            rw [nI_clamp (by omega)] at h
            rw [if_neg h, ← nI_add] at kk
            refine ev_go 999 rfl trivial ?_
            exact kk
          · have h : ¬ ¬ a' 30 (nI q).toNatClampNeg = s := h
            rw [nI_clamp (by omega)] at h
            rw [if_pos (Classical.not_not.mp h), ← nI_1 (cntC (a' 30) s q)] at kk
            refine ev_go 999 rfl trivial ?_
            refine ev_go 999 rfl trivial ?_
            exact kk
      refine am_D_of (Nat.le_of_ble_eq_true rfl) ?_
      refine ev_go 999 rfl trivial ?_
      refine ev_call0 rfl (Nat.le_of_ble_eq_true rfl) (fun z => by cases z) (x9_in (d := d + 59) (v := s) (lo := 0) (hi := 7)) ?_
      rw [h1]
      refine ev_go 999 rfl trivial ?_
      first | refine ev_pos (by decide) ?_ | refine ev_neg (by decide) ?_
      refine ev_go 999 rfl trivial ?_
      refine ev_call0 rfl (Nat.le_of_ble_eq_true rfl) (fun _ => ⟨_, _, _, rfl, rfl⟩) (hD) ?_
      rw [show bI true = bI true from rfl]
      refine ev_go 999 rfl trivial ?_
      first | refine ev_pos (by decide) ?_ | refine ev_neg (by decide) ?_
      refine ev_go 27 rfl trivial ?_
      exact loop 2880 0 (by omega) (Nat.zero_le _)
def whyQ (i : Nat → Int32) (a : Nat → Nat → Int32) (w day k : Int32) : Int32 := if (inB k 0 4 && okL i w day) = true then nI (cntF (dA a (cl w) (cl day)) (cl k + 2) 2880) else -1
theorem x9_why {w day k : Int32} (hI : INV i a) : ∃ i' a', Scr i i' a a' ∧ am_D E (d + 61) tX9_why [.ref 0, .int w, .int day, .int k] (am_L (mo i j a b)) 0 0 (some (.int (whyQ i a w day k))) (am_L (mo i' j a' b)) := by
  unfold whyQ
  cases h1 : inB k 0 4 with
  | false =>
    refine ⟨i, a, Scr.rf, ?_⟩
    rw [Bool.false_and, if_neg (by decide)]
    refine am_D_of (Nat.le_of_ble_eq_true rfl) ?_
    refine ev_go 999 rfl trivial ?_
    refine ev_call0 rfl (Nat.le_of_ble_eq_true rfl) (fun z => by cases z) (x9_in (d := d + 59) (v := k) (lo := 0) (hi := 4)) ?_
    rw [h1]
    refine ev_go 999 rfl trivial ?_
    first | refine ev_pos (by decide) ?_ | refine ev_neg (by decide) ?_
    refine ev_go 999 rfl trivial ?_
    exact ev_ret rfl trivial ⟨rfl, rfl⟩
  | true =>
    cases h2 : okL i w day with
    | false =>
      refine ⟨i, a, Scr.rf, ?_⟩
      rw [Bool.and_false, if_neg (by decide)]
      refine am_D_of (Nat.le_of_ble_eq_true rfl) ?_
      refine ev_go 999 rfl trivial ?_
      refine ev_call0 rfl (Nat.le_of_ble_eq_true rfl) (fun z => by cases z) (x9_in (d := d + 59) (v := k) (lo := 0) (hi := 4)) ?_
      rw [h1]
      refine ev_go 999 rfl trivial ?_
      first | refine ev_pos (by decide) ?_ | refine ev_neg (by decide) ?_
      refine ev_go 999 rfl trivial ?_
      refine ev_call0 rfl (Nat.le_of_ble_eq_true rfl) (fun _ => ⟨_, _, _, rfl, rfl⟩) (x9_looks_no (d := d + 1) h2) ?_
      rw [show bI false = bI false from rfl]
      refine ev_go 999 rfl trivial ?_
      first | refine ev_pos (by decide) ?_ | refine ev_neg (by decide) ?_
      refine ev_go 999 rfl trivial ?_
      exact ev_ret rfl trivial ⟨rfl, rfl⟩
    | true =>
      obtain ⟨g1, g2⟩ := okL_t.mp h2
      obtain ⟨i', a', sc, hf, hh, hD⟩ := x9_looks_ok (E := E) (d := d + 1) (i := i) (j := j) (a := a) (b := b) hI g1 g2
      refine ⟨i', a', sc, ?_⟩
      rw [Bool.true_and, if_pos rfl]
      have m1 := le0_in (N := 4) (by omega) h1
      have mb := m1.2
      refine am_D_of (Nat.le_of_ble_eq_true rfl) ?_
      refine ev_go 999 rfl trivial ?_
      refine ev_call0 rfl (Nat.le_of_ble_eq_true rfl) (fun z => by cases z) (x9_in (d := d + 59) (v := k) (lo := 0) (hi := 4)) ?_
      rw [h1]
      refine ev_go 999 rfl trivial ?_
      first | refine ev_pos (by decide) ?_ | refine ev_neg (by decide) ?_
      refine ev_go 999 rfl trivial ?_
      refine ev_call0 rfl (Nat.le_of_ble_eq_true rfl) (fun _ => ⟨_, _, _, rfl, rfl⟩) (hD) ?_
      rw [show bI true = bI true from rfl]
      refine ev_go 999 rfl trivial ?_
      first | refine ev_pos (by decide) ?_ | refine ev_neg (by decide) ?_
      refine ev_go 999 rfl ⟨by rw [m1.1]; exact vp_in_nI (by omega) (by omega), trivial⟩ ?_
      refine ev_ret rfl trivial ⟨?_, rfl⟩
      show some (Value.int (a' 31 (cl k))) = _
      rw [hh (cl k) (by omega)]
def centQ (i : Nat → Int32) (a : Nat → Nat → Int32) (w day : Int32) : Int64 := if okL i w day = true then lN (centA i a (cl w) (cl day)) else -1
theorem x9_cents {w day : Int32} (hI : INV i a) : ∃ i' a', Scr i i' a a' ∧ am_D E (d + 61) tX9_cents [.ref 0, .int w, .int day] (am_L (mo i j a b)) 0 0 (some (.long (centQ i a w day))) (am_L (mo i' j a' b)) := by
  unfold centQ
  cases h2 : okL i w day with
  | false =>
    refine ⟨i, a, Scr.rf, ?_⟩
    rw [if_neg (by decide)]
    refine am_D_of (Nat.le_of_ble_eq_true rfl) ?_
    refine ev_go 999 rfl trivial ?_
    refine ev_call0 rfl (Nat.le_of_ble_eq_true rfl) (fun _ => ⟨_, _, _, rfl, rfl⟩) (x9_looks_no (d := d + 1) h2) ?_
    rw [show bI false = bI false from rfl]
    refine ev_go 999 rfl trivial ?_
    first | refine ev_pos (by decide) ?_ | refine ev_neg (by decide) ?_
    refine ev_go 999 rfl trivial ?_
    exact ev_ret rfl trivial ⟨rfl, rfl⟩
  | true =>
    obtain ⟨g1, g2⟩ := okL_t.mp h2
    obtain ⟨w1, w2, _⟩ := hI.wIn g1
    obtain ⟨d1, d2⟩ := dIn g2
    obtain ⟨i', a', sc, hf, hh, hD⟩ := x9_looks_ok (E := E) (d := d + 1) (i := i) (j := j) (a := a) (b := b) hI g1 g2
    refine ⟨i', a', sc, ?_⟩
    rw [if_pos rfl]
    have hpy := x9_payA (E := E) (d := d + 57) (i := i') (j := j) (a := a') (b := b) (w := cl w) (day := cl day) (sc.inv hI) w2 d2
    have hce : centsN (payN (a' 30) (rbA a' (kdA a' (gA a' (cl w)) (cl day)) 4) (exA a' (kdA a' (gA a' (cl w)) (cl day)) (cl (i' 15)) (pA a')) 2880 * rtA i' a' (gA a' (cl w)) (cl day)) = centA i a (cl w) (cl day) := by
      rw [sc.g, sc.rt, sc.kd, sc.rb, sc.ex, sc.p, sc.2 15 (by decide) (by decide), payN_cong hf]
      rfl
    rw [hce, ← w1, ← d1] at hpy
    refine am_D_of (Nat.le_of_ble_eq_true rfl) ?_
    refine ev_go 999 rfl trivial ?_
    refine ev_call0 rfl (Nat.le_of_ble_eq_true rfl) (fun _ => ⟨_, _, _, rfl, rfl⟩) (hD) ?_
    rw [show bI true = bI true from rfl]
    refine ev_go 999 rfl trivial ?_
    first | refine ev_pos (by decide) ?_ | refine ev_neg (by decide) ?_
    refine ev_go 999 rfl trivial ?_
    refine ev_call0 rfl (Nat.le_of_ble_eq_true rfl) (fun _ => ⟨_, _, _, rfl, rfl⟩) hpy ?_
    refine ev_go 999 rfl trivial ?_
    exact ev_ret rfl trivial ⟨rfl, rfl⟩
/-- does surcharge s count (0) or meet (1) at minute m -/
def ctsA (i : Nat → Int32) (a : Nat → Nat → Int32) (w day m s : Nat) (what : Int32) : Bool := if what = 0 then ctB (fun s t => decide (¬ a 12 (12 * s + t) = 0)) (meA a (kdA a (gA a w) day) m) (a 11) (cl (i 15)) s else meA a (kdA a (gA a w) day) m s
def ctsQ (i : Nat → Int32) (a : Nat → Nat → Int32) (w day m s what : Int32) : Int32 := if (inB m 0 2879 && inB s 0 (i 15 - 1) && inB what 0 1 && okL i w day) = true then (if nI 6 ≤ dA a (cl w) (cl day) (cl m) then bI (ctsA i a (cl w) (cl day) (cl m) (cl s) what) else 0) else -1
theorem x9_counts {w day m s what : Int32} (hI : INV i a) : ∃ i' a', Scr i i' a a' ∧ am_D E (d + 61) tX9_counts [.ref 0, .int w, .int day, .int m, .int s, .int what] (am_L (mo i j a b)) 0 0 (some (.int (ctsQ i a w day m s what))) (am_L (mo i' j a' b)) := by
  unfold ctsQ
  cases h1 : inB m 0 2879 with
  | false =>
    refine ⟨i, a, Scr.rf, ?_⟩
    rw [Bool.false_and, Bool.false_and, Bool.false_and, if_neg (by decide)]
    refine am_D_of (Nat.le_of_ble_eq_true rfl) ?_
    refine ev_go 999 rfl trivial ?_
    refine ev_call0 rfl (Nat.le_of_ble_eq_true rfl) (fun z => by cases z) (x9_in (d := d + 59) (v := m) (lo := 0) (hi := 2879)) ?_
    rw [h1]
    refine ev_go 999 rfl trivial ?_
    first | refine ev_pos (by decide) ?_ | refine ev_neg (by decide) ?_
    refine ev_go 999 rfl trivial ?_
    exact ev_ret rfl trivial ⟨rfl, rfl⟩
  | true =>
    cases h3 : inB s 0 (i 15 - 1) with
    | false =>
      refine ⟨i, a, Scr.rf, ?_⟩
      rw [Bool.true_and, Bool.false_and, Bool.false_and, if_neg (by decide)]
      refine am_D_of (Nat.le_of_ble_eq_true rfl) ?_
      refine ev_go 999 rfl trivial ?_
      refine ev_call0 rfl (Nat.le_of_ble_eq_true rfl) (fun z => by cases z) (x9_in (d := d + 59) (v := m) (lo := 0) (hi := 2879)) ?_
      rw [h1]
      refine ev_go 999 rfl trivial ?_
      first | refine ev_pos (by decide) ?_ | refine ev_neg (by decide) ?_
      refine ev_go 999 rfl trivial ?_
      refine ev_call0 rfl (Nat.le_of_ble_eq_true rfl) (fun z => by cases z) (x9_in (d := d + 59) (v := s) (lo := 0) (hi := i 15 - 1)) ?_
      rw [h3]
      refine ev_go 999 rfl trivial ?_
      first | refine ev_pos (by decide) ?_ | refine ev_neg (by decide) ?_
      refine ev_go 999 rfl trivial ?_
      exact ev_ret rfl trivial ⟨rfl, rfl⟩
    | true =>
      cases h4 : inB what 0 1 with
      | false =>
        refine ⟨i, a, Scr.rf, ?_⟩
        rw [Bool.true_and, Bool.true_and, Bool.false_and, if_neg (by decide)]
        refine am_D_of (Nat.le_of_ble_eq_true rfl) ?_
        refine ev_go 999 rfl trivial ?_
        refine ev_call0 rfl (Nat.le_of_ble_eq_true rfl) (fun z => by cases z) (x9_in (d := d + 59) (v := m) (lo := 0) (hi := 2879)) ?_
        rw [h1]
        refine ev_go 999 rfl trivial ?_
        first | refine ev_pos (by decide) ?_ | refine ev_neg (by decide) ?_
        refine ev_go 999 rfl trivial ?_
        refine ev_call0 rfl (Nat.le_of_ble_eq_true rfl) (fun z => by cases z) (x9_in (d := d + 59) (v := s) (lo := 0) (hi := i 15 - 1)) ?_
        rw [h3]
        refine ev_go 999 rfl trivial ?_
        first | refine ev_pos (by decide) ?_ | refine ev_neg (by decide) ?_
        refine ev_go 999 rfl trivial ?_
        refine ev_call0 rfl (Nat.le_of_ble_eq_true rfl) (fun z => by cases z) (x9_in (d := d + 59) (v := what) (lo := 0) (hi := 1)) ?_
        rw [h4]
        refine ev_go 999 rfl trivial ?_
        first | refine ev_pos (by decide) ?_ | refine ev_neg (by decide) ?_
        refine ev_go 999 rfl trivial ?_
        exact ev_ret rfl trivial ⟨rfl, rfl⟩
      | true =>
        cases h2 : okL i w day with
        | false =>
          refine ⟨i, a, Scr.rf, ?_⟩
          rw [Bool.and_false, if_neg (by decide)]
          refine am_D_of (Nat.le_of_ble_eq_true rfl) ?_
          refine ev_go 999 rfl trivial ?_
          refine ev_call0 rfl (Nat.le_of_ble_eq_true rfl) (fun z => by cases z) (x9_in (d := d + 59) (v := m) (lo := 0) (hi := 2879)) ?_
          rw [h1]
          refine ev_go 999 rfl trivial ?_
          first | refine ev_pos (by decide) ?_ | refine ev_neg (by decide) ?_
          refine ev_go 999 rfl trivial ?_
          refine ev_call0 rfl (Nat.le_of_ble_eq_true rfl) (fun z => by cases z) (x9_in (d := d + 59) (v := s) (lo := 0) (hi := i 15 - 1)) ?_
          rw [h3]
          refine ev_go 999 rfl trivial ?_
          first | refine ev_pos (by decide) ?_ | refine ev_neg (by decide) ?_
          refine ev_go 999 rfl trivial ?_
          refine ev_call0 rfl (Nat.le_of_ble_eq_true rfl) (fun z => by cases z) (x9_in (d := d + 59) (v := what) (lo := 0) (hi := 1)) ?_
          rw [h4]
          refine ev_go 999 rfl trivial ?_
          first | refine ev_pos (by decide) ?_ | refine ev_neg (by decide) ?_
          refine ev_go 999 rfl trivial ?_
          refine ev_call0 rfl (Nat.le_of_ble_eq_true rfl) (fun _ => ⟨_, _, _, rfl, rfl⟩) (x9_looks_no (d := d + 1) h2) ?_
          rw [show bI false = bI false from rfl]
          refine ev_go 999 rfl trivial ?_
          first | refine ev_pos (by decide) ?_ | refine ev_neg (by decide) ?_
          refine ev_go 999 rfl trivial ?_
          exact ev_ret rfl trivial ⟨rfl, rfl⟩
        | true =>
          obtain ⟨g1, g2⟩ := okL_t.mp h2
          obtain ⟨w1, w2, _⟩ := hI.wIn g1
          obtain ⟨d1, d2⟩ := dIn g2
          have m1 := le0_in (N := 2879) (by omega) h1
          have mb := m1.2
          have h15 := hI.s15
          have h15b := h15.2
          have h3' := h3
          rw [h15.1] at h3'
          obtain ⟨s1, s2⟩ := inW (by omega) h3'
          obtain ⟨i', a', sc, hf, hh, hD⟩ := x9_looks_ok (E := E) (d := d + 1) (i := i) (j := j) (a := a) (b := b) hI g1 g2
          refine ⟨i', a', sc, ?_⟩
          rw [Bool.true_and, Bool.true_and, Bool.true_and, if_pos rfl]
          have hI' := sc.inv hI
          have hg := hI'.gl w2
          have hf30 : a' 30 (cl m) = dA a (cl w) (cl day) (cl m) := hf (cl m) (by omega)
          refine am_D_of (Nat.le_of_ble_eq_true rfl) ?_
          refine ev_go 999 rfl trivial ?_
          refine ev_call0 rfl (Nat.le_of_ble_eq_true rfl) (fun z => by cases z) (x9_in (d := d + 59) (v := m) (lo := 0) (hi := 2879)) ?_
          rw [h1]
          refine ev_go 999 rfl trivial ?_
          first | refine ev_pos (by decide) ?_ | refine ev_neg (by decide) ?_
          refine ev_go 999 rfl trivial ?_
          refine ev_call0 rfl (Nat.le_of_ble_eq_true rfl) (fun z => by cases z) (x9_in (d := d + 59) (v := s) (lo := 0) (hi := i 15 - 1)) ?_
          rw [h3]
          refine ev_go 999 rfl trivial ?_
          first | refine ev_pos (by decide) ?_ | refine ev_neg (by decide) ?_
          refine ev_go 999 rfl trivial ?_
          refine ev_call0 rfl (Nat.le_of_ble_eq_true rfl) (fun z => by cases z) (x9_in (d := d + 59) (v := what) (lo := 0) (hi := 1)) ?_
          rw [h4]
          refine ev_go 999 rfl trivial ?_
          first | refine ev_pos (by decide) ?_ | refine ev_neg (by decide) ?_
          refine ev_go 999 rfl trivial ?_
          refine ev_call0 rfl (Nat.le_of_ble_eq_true rfl) (fun _ => ⟨_, _, _, rfl, rfl⟩) (hD) ?_
          rw [show bI true = bI true from rfl]
          refine ev_go 999 rfl trivial ?_
          first | refine ev_pos (by decide) ?_ | refine ev_neg (by decide) ?_
          refine ev_go 999 rfl ⟨by rw [m1.1]; exact vp_in_nI (by omega) (by omega), trivial⟩ ?_
          refine ev_if (fun h => ?_) (fun h => ?_)
          · have h : nI 6 ≤ a' 30 (cl m) := h
            rw [hf30] at h
            rw [if_pos h]
            have hkd := x9_kindOf (E := E) (d := d + 59) (i := i') (j := j) (a := a') (b := b) hg d2
            have e16 := hI'.h16 w2
            rw [hI'.hk hg, ← d1, ← e16, sc.g, sc.kd] at hkd
            have hme : meA a (kdA a (gA a (cl w)) (cl day)) (cl m) = fun t => meB (a' 8 t) (a' 9 t) (a' 10 t) (nI (kdA a (gA a (cl w)) (cl day))) (nI (cl m % 1440)) := by
              unfold meA
              rw [sc.1 8 (by omega), sc.1 9 (by omega), sc.1 10 (by omega)]
            refine ev_go 999 rfl ⟨by rw [w1]; exact vp_in_nI w2 (by omega), trivial⟩ ?_
            refine ev_call0 rfl (Nat.le_of_ble_eq_true rfl) (fun _ => ⟨_, _, _, rfl, rfl⟩) hkd ?_
            refine ev_go 999 rfl trivial ?_
            refine ev_if (fun h => ?_) (fun h => ?_)
            · have hw0 : ¬ what = 0 := h
              have hD3 := x9_meets (E := E) (d := d + 59) (i := i') (j := j) (a := a') (b := b) (s := cl s) (mi := cl m) (kd := nI (kdA a (gA a (cl w)) (cl day))) (by omega) (by omega)
              rw [show meB (a' 8 (cl s)) (a' 9 (cl s)) (a' 10 (cl s)) (nI (kdA a (gA a (cl w)) (cl day))) (nI (cl m % 1440)) = meA a (kdA a (gA a (cl w)) (cl day)) (cl m) (cl s) by rw [hme], ← s1, ← m1.1] at hD3
              refine ev_go 999 rfl trivial ?_
              refine ev_call0 rfl (Nat.le_of_ble_eq_true rfl) (fun _ => ⟨_, _, _, rfl, rfl⟩) hD3 ?_
              unfold ctsA
              rw [if_neg hw0]
              cases hv : meA a (kdA a (gA a (cl w)) (cl day)) (cl m) (cl s) with
              | false =>
                refine ev_go 999 rfl trivial ?_
                refine ev_pos (by decide) ?_
                refine ev_go 999 rfl trivial ?_
                exact ev_ret rfl trivial ⟨rfl, rfl⟩
              | true =>
                refine ev_go 999 rfl trivial ?_
                refine ev_neg (by decide) ?_
                refine ev_go 999 rfl trivial ?_
                exact ev_ret rfl trivial ⟨rfl, rfl⟩
            · have hw0 : ¬ ¬ what = 0 := h
              have hD3 := x9_countsAt (E := E) (d := d + 58) (i := i') (j := j) (a := a') (b := b) (s := cl s) (mi := cl m) (n := cl (i 15)) (kd := nI (kdA a (gA a (cl w)) (cl day))) (by omega) (by omega) (by omega) (by rw [sc.2 15 (by decide) (by decide)]; exact h15.1) (meA a (kdA a (gA a (cl w)) (cl day)) (cl m)) hme
              rw [sc.1 12 (by omega), sc.1 11 (by omega), ← s1, ← m1.1] at hD3
              refine ev_go 999 rfl trivial ?_
              refine ev_call0 rfl (Nat.le_of_ble_eq_true rfl) (fun _ => ⟨_, _, _, rfl, rfl⟩) hD3 ?_
              unfold ctsA
              rw [if_pos (Classical.not_not.mp hw0)]
              cases hv : ctB (fun s t => decide (¬ a 12 (12 * s + t) = 0)) (meA a (kdA a (gA a (cl w)) (cl day)) (cl m)) (a 11) (cl (i 15)) (cl s) with
              | false =>
                refine ev_go 999 rfl trivial ?_
                refine ev_pos (by decide) ?_
                refine ev_go 999 rfl trivial ?_
                exact ev_ret rfl trivial ⟨rfl, rfl⟩
              | true =>
                refine ev_go 999 rfl trivial ?_
                refine ev_neg (by decide) ?_
                refine ev_go 999 rfl trivial ?_
                refine ev_go 999 rfl trivial ?_
                exact ev_ret rfl trivial ⟨rfl, rfl⟩
          · have h : ¬ nI 6 ≤ a' 30 (cl m) := h
            rw [hf30] at h
            rw [if_neg h]
            refine ev_go 999 rfl trivial ?_
            exact ev_ret rfl trivial ⟨rfl, rfl⟩
end Q9
