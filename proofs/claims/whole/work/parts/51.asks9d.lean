theorem fb_ct_same {p : Nat → Bool} {i k : Nat} (h : i ≤ k) (hp : ∀ q, i ≤ q → q < k → p q = false) : fb_ct p k = fb_ct p i := by
  obtain ⟨m, rfl⟩ : ∃ m, k = i + m := ⟨k - i, by omega⟩
  rw [fb_ct_split, fb_ct_zero.mpr (fun q hq => hp (i + q) (by omega) (by omega))]
  rfl
theorem pB_next2 {t s : Nat → Nat} {n x : Nat} (h : x < pN t s n) : ∀ q, pF t s n x < q → q < pB t s n (x + 1) → ¬ (pR t s n q = 1 ∨ pR t s n q = 2) := by
  have hI := pI_all t s n
  unfold pB
  intro q h1 h2 h3
  have hqn : q < n := by
    split at h2
    · rename_i z; have := pF_lt z; omega
    · exact h2
  obtain ⟨y, hy, hy2⟩ := hI.R q hqn h3
  have hxy : x < y := by
    rcases Nat.lt_or_ge x y with w | w
    · exact w
    · rcases Nat.lt_or_ge y x with u | u
      · have := pI_mono hI.B x y u h; omega
      · have : y = x := by omega
        subst this; omega
  split at h2
  · rename_i z
    rcases Nat.lt_or_ge (x + 1) y with u | u
    · have := pI_mono hI.B y (x + 1) u hy; omega
    · have : y = x + 1 := by omega
      subst this; omega
  · rename_i z; omega
theorem pB_02 {t s : Nat → Nat} {n : Nat} : ∀ q, q < pB t s n 0 → ¬ (pR t s n q = 1 ∨ pR t s n q = 2) := fun q h1 h3 => by
  have hI := pI_all t s n
  have hqn : q < n := by
    unfold pB at h1
    split at h1
    · rename_i z; have := pF_lt z; omega
    · exact h1
  obtain ⟨y, hy, hy2⟩ := hI.R q hqn h3
  rw [pB_lt (by omega)] at h1
  rcases Nat.eq_zero_or_pos y with e | e
  · subst e; omega
  · have := pI_mono hI.B y 0 e hy; omega
/-- how many marks play role r on a day -/
def ctR (t r : Nat → Nat) (day role : Nat) (n : Nat) : Nat := fb_ct (fun k => decide (r k = role) && decide (t k / 1440 = day)) n
section Q9
variable {E : am_E} {d : Nat} {i : Nat → Int32} {j : Nat → Int64} {a : Nat → Nat → Int32} {b : Nat → Nat → Int64}
def shQ (i : Nat → Int32) (a : Nat → Nat → Int32) (w day what : Int32) : Int32 := if (inB w 0 (i 19 - 1) && inB day 0 1095 && inB what 0 1) = true then nI (ctR (tA a (cl w)) (rolA a (cl w)) (cl day) (cl what + 1) (nA a (cl w))) else -1
theorem x9_shifts {w day what : Int32} (hI : INV i a) : ∃ i' a', Scr i i' a a' ∧ am_D E (d + 61) tX9_shifts [.ref 0, .int w, .int day, .int what] (am_L (mo i j a b)) 0 0 (some (.int (shQ i a w day what))) (am_L (mo i' j a' b)) := by
  unfold shQ
  cases h1 : inB w 0 (i 19 - 1) with
  | false =>
    refine ⟨i, a, Scr.rf, ?_⟩
    rw [Bool.false_and, Bool.false_and, if_neg (by decide)]
    refine am_D_of (Nat.le_of_ble_eq_true rfl) ?_
    refine ev_go 999 rfl trivial ?_
    refine ev_call0 rfl (Nat.le_of_ble_eq_true rfl) (fun _ => ⟨_, _, _, rfl, rfl⟩) (x9_isWorker (d := d + 58) (v := w)) ?_
    rw [h1]
    refine ev_go 999 rfl trivial ?_
    first | refine ev_pos (by decide) ?_ | refine ev_neg (by decide) ?_
    refine ev_go 999 rfl trivial ?_
    exact ev_ret rfl trivial ⟨rfl, rfl⟩
  | true =>
    cases h2 : inB day 0 1095 with
    | false =>
      refine ⟨i, a, Scr.rf, ?_⟩
      rw [Bool.true_and, Bool.false_and, if_neg (by decide)]
      refine am_D_of (Nat.le_of_ble_eq_true rfl) ?_
      refine ev_go 999 rfl trivial ?_
      refine ev_call0 rfl (Nat.le_of_ble_eq_true rfl) (fun _ => ⟨_, _, _, rfl, rfl⟩) (x9_isWorker (d := d + 58) (v := w)) ?_
      rw [h1]
      refine ev_go 999 rfl trivial ?_
      first | refine ev_pos (by decide) ?_ | refine ev_neg (by decide) ?_
      refine ev_go 999 rfl trivial ?_
      refine ev_call0 rfl (Nat.le_of_ble_eq_true rfl) (fun z => by cases z) (x9_isDay (d := d + 58) (v := day)) ?_
      rw [h2]
      refine ev_go 999 rfl trivial ?_
      first | refine ev_pos (by decide) ?_ | refine ev_neg (by decide) ?_
      refine ev_go 999 rfl trivial ?_
      exact ev_ret rfl trivial ⟨rfl, rfl⟩
    | true =>
      cases h3 : inB what 0 1 with
      | false =>
        refine ⟨i, a, Scr.rf, ?_⟩
        rw [Bool.true_and, Bool.true_and, if_neg (by decide)]
        refine am_D_of (Nat.le_of_ble_eq_true rfl) ?_
        refine ev_go 999 rfl trivial ?_
        refine ev_call0 rfl (Nat.le_of_ble_eq_true rfl) (fun _ => ⟨_, _, _, rfl, rfl⟩) (x9_isWorker (d := d + 58) (v := w)) ?_
        rw [h1]
        refine ev_go 999 rfl trivial ?_
        first | refine ev_pos (by decide) ?_ | refine ev_neg (by decide) ?_
        refine ev_go 999 rfl trivial ?_
        refine ev_call0 rfl (Nat.le_of_ble_eq_true rfl) (fun z => by cases z) (x9_isDay (d := d + 58) (v := day)) ?_
        rw [h2]
        refine ev_go 999 rfl trivial ?_
        first | refine ev_pos (by decide) ?_ | refine ev_neg (by decide) ?_
        refine ev_go 999 rfl trivial ?_
        refine ev_call0 rfl (Nat.le_of_ble_eq_true rfl) (fun z => by cases z) (x9_in (d := d + 59) (v := what) (lo := 0) (hi := 1)) ?_
        rw [h3]
        refine ev_go 999 rfl trivial ?_
        first | refine ev_pos (by decide) ?_ | refine ev_neg (by decide) ?_
        refine ev_go 999 rfl trivial ?_
        exact ev_ret rfl trivial ⟨rfl, rfl⟩
      | true =>
        rw [Bool.true_and, Bool.true_and, if_pos rfl]
        obtain ⟨w1, w2, _⟩ := hI.wIn h1
        obtain ⟨d1, d2⟩ := dIn h2
        have q1 := le0_in (N := 1) (by omega) h3
        obtain ⟨i', a', sc, hpd, hD⟩ := x9_pairA (E := E) (d := d + 59) (i := i) (j := j) (a := a) (b := b) hI w2
        rw [← w1] at hD
        refine ⟨i', a', sc, ?_⟩
        have hm := hI.wm (cl w) w2
        obtain ⟨n, hn⟩ : ∃ n, n = nA a (cl w) := ⟨_, rfl⟩
        obtain ⟨t, ht⟩ : ∃ t, t = tA a (cl w) := ⟨_, rfl⟩
        obtain ⟨s, hs⟩ : ∃ s, s = sA a (cl w) := ⟨_, rfl⟩
        have hr : rolA a (cl w) = pR t s n := by unfold rolA; rw [ht, hs, hn]
        rw [← hn, ← ht, ← hs] at hm hpd
        rw [← hn, ← ht, hr]
        have hI2 := pI_all t s n
        have hN : pN t s n ≤ 400 := Nat.le_trans (pN_le t s n) hm.n4
        obtain ⟨C, hC⟩ : ∃ C : Nat → Nat, C = ctR t (pR t s n) (cl day) (cl what + 1) := ⟨_, rfl⟩
        rw [← hC]
        have loop : ∀ m x, pN t s n - x = m → x ≤ pN t s n → am_ev E (d + 60) tX9_shifts (37, [some (.ref 0), some (.int w), some (.int day), some (.int what), some (.int (nI (C (pB t s n x)))), some (.int (nI x))], [], am_L (mo i' j a' b), 0, 0) (fun v' M'' => v' = some (.int (nI (C n))) ∧ M'' = am_L (mo i' j a' b)) := by
          intro m
          induction m with
          | zero =>
            intro x e1 e2
            have e : x = pN t s n := by omega
            subst e
            rw [pB_N]
            refine ev_go 999 rfl trivial ?_
            refine ev_pos (by show i' 30 ≤ nI (pN t s n); rw [hpd.i30]; exact nI_le (Nat.le_refl _) (by omega)) ?_
            refine ev_go 999 rfl trivial ?_
            exact ev_ret rfl trivial ⟨rfl, rfl⟩
          | succ m ih =>
            intro x e1 e2
            have hx : x < pN t s n := by omega
            obtain ⟨c1, c2, _⟩ := pB_next hx
            have c3 := pB_next2 hx
            have hxB := pB_lt hx
            have hxn := pF_lt hx
            rw [hxB]
            obtain ⟨p25, p27, p29, pg⟩ := hpd.x x hx
            have hCC := hI2.C x hx
            have hDx := hI2.D x hx
            obtain ⟨c, hc⟩ : ∃ c, c = pF t s n x := ⟨_, rfl⟩
            rw [← hc] at hxB hxn c1 c3 p25 p27 hCC hDx ⊢
            have ht2 := hm.t2 c hxn
            have vx : vp_in (nI x) 400 := vp_in_nI (by omega) (by omega)
            have cx : (nI x).toNatClampNeg = x := nI_clamp (by omega)
            have nx : C (pB t s n (x + 1)) = C (c + 1) := by
              rw [hC]
              refine fb_ct_same (by omega) (fun q g1 g2 => ?_)
              have := c3 q (by omega) g2
              rw [decide_eq_false (fun z => this (by have := q1.2; omega)), Bool.false_and]
            have sx : C (c + 1) = C c + (if (decide (pR t s n c = cl what + 1) && decide (t c / 1440 = cl day)) = true then 1 else 0) := by rw [hC]; rfl
            have e25 : a' 25 (nI x).toNatClampNeg / nI 1440 = nI (t c / 1440) := by rw [cx, p25, pk_div (by omega) (by decide) (by decide)]
            have e29 : a' 29 (nI x).toNatClampNeg = bI (pG t s n x) := by rw [cx, p29]
            have kk := ih (x + 1) (by omega) (by omega)
            rw [nx, sx, ← nI_1 x] at kk
            refine ev_go 999 rfl trivial ?_
            refine ev_neg (by show ¬ i' 30 ≤ nI x; rw [hpd.i30]; exact nI_ge (by omega) (by omega)) ?_
            refine ev_go 999 rfl ⟨vx, by decide, trivial⟩ ?_
            by_cases hdy : t c / 1440 = cl day
            · rw [decide_eq_true hdy, Bool.and_true] at kk
              refine ev_neg (by show ¬ ¬ a' 25 (nI x).toNatClampNeg / nI 1440 = day; rw [e25, hdy, ← d1]; exact fun z => z rfl) ?_
              have hrole : pR t s n c = if pG t s n x = true then 2 else 1 := by
                cases hg : pG t s n x with
                | true => rw [if_pos rfl]; exact hCC hg
                | false => rw [if_neg (by decide)]; exact (hDx hg).1.rc
              rw [hrole] at kk
              refine ev_go 999 rfl ⟨vx, trivial⟩ ?_
              have hwh : what = nI 0 ∨ what = nI 1 := by
                have := q1.2
                rw [q1.1]
                rcases (show cl what = 0 ∨ cl what = 1 by omega) with z | z
                · rw [z]; exact Or.inl rfl
                · rw [z]; exact Or.inr rfl
              rcases hwh with z | z
              · refine ev_pos (by show ¬ what = nI 1; rw [z]; decide) ?_
                rw [show cl what = 0 by rw [z]; rfl] at kk
                refine ev_go 999 rfl trivial ?_
                cases hg : pG t s n x with
                | true =>
                  rw [hg] at e29 kk
                  refine ev_pos (by show ¬ a' 29 (nI x).toNatClampNeg = nI 0; rw [e29]; decide) ?_
                  rw [if_pos rfl, if_neg (by decide), ← nI_add] at kk
                  refine ev_go 999 rfl trivial ?_
                  exact kk
                | false =>
                  rw [hg] at e29 kk
                  refine ev_neg (by show ¬ ¬ a' 29 (nI x).toNatClampNeg = nI 0; rw [e29]; decide) ?_
                  rw [if_pos (by decide), ← nI_add] at kk
                  refine ev_go 999 rfl trivial ?_
                  refine ev_go 999 rfl trivial ?_
                  exact kk
              · refine ev_neg (by show ¬ ¬ what = nI 1; rw [z]; decide) ?_
                rw [show cl what = 1 by rw [z]; rfl] at kk
                refine ev_go 999 rfl trivial ?_
                refine ev_go 999 rfl trivial ?_
                cases hg : pG t s n x with
                | true =>
                  rw [hg] at e29 kk
                  refine ev_neg (by show ¬ ¬ a' 29 (nI x).toNatClampNeg = nI 1; rw [e29]; decide) ?_
                  rw [if_pos rfl, if_pos (by decide), ← nI_add] at kk
                  refine ev_go 999 rfl trivial ?_
                  refine ev_go 999 rfl trivial ?_
                  exact kk
                | false =>
                  rw [hg] at e29 kk
                  refine ev_pos (by show ¬ a' 29 (nI x).toNatClampNeg = nI 1; rw [e29]; decide) ?_
                  rw [if_neg (by decide), ← nI_add] at kk
                  refine ev_go 999 rfl trivial ?_
                  exact kk
            · rw [decide_eq_false hdy, Bool.and_false, if_neg (by decide), ← nI_add] at kk
              refine ev_pos (by show ¬ a' 25 (nI x).toNatClampNeg / nI 1440 = day; rw [e25, d1, nI_eq (by omega) (by omega)]; exact hdy) ?_
              refine ev_go 999 rfl trivial ?_
              exact kk
        refine am_D_of (Nat.le_of_ble_eq_true rfl) ?_
        refine ev_go 999 rfl trivial ?_
        refine ev_call0 rfl (Nat.le_of_ble_eq_true rfl) (fun _ => ⟨_, _, _, rfl, rfl⟩) (x9_isWorker (d := d + 58) (v := w)) ?_
        rw [h1]
        refine ev_go 999 rfl trivial ?_
        first | refine ev_pos (by decide) ?_ | refine ev_neg (by decide) ?_
        refine ev_go 999 rfl trivial ?_
        refine ev_call0 rfl (Nat.le_of_ble_eq_true rfl) (fun z => by cases z) (x9_isDay (d := d + 58) (v := day)) ?_
        rw [h2]
        refine ev_go 999 rfl trivial ?_
        first | refine ev_pos (by decide) ?_ | refine ev_neg (by decide) ?_
        refine ev_go 999 rfl trivial ?_
        refine ev_call0 rfl (Nat.le_of_ble_eq_true rfl) (fun z => by cases z) (x9_in (d := d + 59) (v := what) (lo := 0) (hi := 1)) ?_
        rw [h3]
        refine ev_go 999 rfl trivial ?_
        first | refine ev_pos (by decide) ?_ | refine ev_neg (by decide) ?_
        refine ev_go 999 rfl trivial ?_
        refine ev_call0 rfl (Nat.le_of_ble_eq_true rfl) (fun _ => ⟨_, _, _, rfl, rfl⟩) hD ?_
        have z0 : C (pB t s n 0) = 0 := by
          rw [hC]
          refine fb_ct_same (i := 0) (Nat.zero_le _) (fun q _ g2 => ?_)
          have := pB_02 q g2
          rw [decide_eq_false (fun z => this (by have := q1.2; omega)), Bool.false_and]
        have k0 := loop (pN t s n) 0 (by omega) (Nat.zero_le _)
        rw [z0] at k0
        refine ev_go 37 rfl trivial ?_
        exact k0
def mrkQ (i : Nat → Int32) (a : Nat → Nat → Int32) (w k what : Int32) : Int32 := if (inB w 0 (i 19 - 1) && inB k 0 (a 21 (cl w) - 1)) = true then (if what = 0 then a 22 (400 * cl w + cl k) else if what = 1 then a 23 (400 * cl w + cl k) else if what = 2 then nI (rolA a (cl w) (cl k)) else -1) else -1
theorem out2 {x : Int32} (h0 : ¬ x = 0) (h1 : ¬ x = 1) (h2 : ¬ x = 2) : inB x 0 (nI 2) = false := by
  cases h : inB x 0 (nI 2) with
  | false => rfl
  | true =>
    have := le0_in (N := 2) (by omega) h
    have h3 := this.2
    rcases (show cl x = 0 ∨ cl x = 1 ∨ cl x = 2 by omega) with z | z | z
    · exact absurd (by rw [this.1, z]; rfl) h0
    · exact absurd (by rw [this.1, z]; rfl) h1
    · exact absurd (by rw [this.1, z]; rfl) h2
theorem x9_marked {w k what : Int32} (hI : INV i a) : ∃ i' a', Scr i i' a a' ∧ am_D E (d + 61) tX9_marked [.ref 0, .int w, .int k, .int what] (am_L (mo i j a b)) 0 0 (some (.int (mrkQ i a w k what))) (am_L (mo i' j a' b)) := by
  unfold mrkQ
  cases h1 : inB w 0 (i 19 - 1) with
  | false =>
    refine ⟨i, a, Scr.rf, ?_⟩
    rw [Bool.false_and, if_neg (by decide)]
    refine am_D_of (Nat.le_of_ble_eq_true rfl) ?_
    refine ev_go 999 rfl trivial ?_
    refine ev_call0 rfl (Nat.le_of_ble_eq_true rfl) (fun _ => ⟨_, _, _, rfl, rfl⟩) (x9_isWorker (d := d + 58) (v := w)) ?_
    rw [h1]
    refine ev_go 999 rfl trivial ?_
    first | refine ev_pos (by decide) ?_ | refine ev_neg (by decide) ?_
    refine ev_go 999 rfl trivial ?_
    exact ev_ret rfl trivial ⟨rfl, rfl⟩
  | true =>
    obtain ⟨w1, w2, _⟩ := hI.wIn h1
    have hm := hI.wm (cl w) w2
    have n4 := hm.n4
    have vw : vp_in w 30 := by rw [w1]; exact vp_in_nI w2 (by omega)
    cases h2 : inB k 0 (a 21 (cl w) - 1) with
    | false =>
      refine ⟨i, a, Scr.rf, ?_⟩
      rw [Bool.true_and, if_neg (by decide)]
      refine am_D_of (Nat.le_of_ble_eq_true rfl) ?_
      refine ev_go 999 rfl trivial ?_
      refine ev_call0 rfl (Nat.le_of_ble_eq_true rfl) (fun _ => ⟨_, _, _, rfl, rfl⟩) (x9_isWorker (d := d + 58) (v := w)) ?_
      rw [h1]
      refine ev_go 999 rfl trivial ?_
      first | refine ev_pos (by decide) ?_ | refine ev_neg (by decide) ?_
      refine ev_go 999 rfl ⟨vw, trivial⟩ ?_
      refine ev_call0 rfl (Nat.le_of_ble_eq_true rfl) (fun z => by cases z) (x9_in (d := d + 59) (v := k) (lo := 0) (hi := a 21 (cl w) - 1)) ?_
      rw [h2]
      refine ev_go 999 rfl trivial ?_
      refine ev_neg (by decide) ?_
      refine ev_go 999 rfl trivial ?_
      exact ev_ret rfl trivial ⟨rfl, rfl⟩
    | true =>
      rw [Bool.true_and, if_pos rfl]
      have h2' := h2
      rw [hm.h21] at h2'
      obtain ⟨k1, k2⟩ := inW (by omega) h2'
      have ex : nI 400 * w + k = nI (400 * cl w + cl k) := by rw [w1, k1, pk_mul, nI_add, ← w1, ← k1]
      have vx : vp_in (nI 400 * w + k) 12000 := by rw [ex]; exact vp_in_nI (by omega) (by omega)
      have cx : (nI 400 * w + k).toNatClampNeg = 400 * cl w + cl k := by rw [ex]; exact nI_clamp (by omega)
      have main : ∀ {P : Option Value → am_M → Prop}, am_ev E (d + 60) tX9_marked (26, [some (.ref 0), some (.int w), some (.int k), some (.int what)], [], am_L (mo i j a b), 0, 0) P → am_ev E (d + 60) tX9_marked (0, [some (.ref 0), some (.int w), some (.int k), some (.int what)], [], am_L (mo i j a b), 0, 0) P := fun {P} kk => by
        refine ev_go 999 rfl trivial ?_
        refine ev_call0 rfl (Nat.le_of_ble_eq_true rfl) (fun _ => ⟨_, _, _, rfl, rfl⟩) (x9_isWorker (d := d + 58) (v := w)) ?_
        rw [h1]
        refine ev_go 999 rfl trivial ?_
        first | refine ev_pos (by decide) ?_ | refine ev_neg (by decide) ?_
        refine ev_go 999 rfl ⟨vw, trivial⟩ ?_
        refine ev_call0 rfl (Nat.le_of_ble_eq_true rfl) (fun z => by cases z) (x9_in (d := d + 59) (v := k) (lo := 0) (hi := a 21 (cl w) - 1)) ?_
        rw [h2]
        refine ev_go 999 rfl trivial ?_
        refine ev_pos (by decide) ?_
        exact kk
      by_cases q0 : what = 0
      · refine ⟨i, a, Scr.rf, ?_⟩
        rw [if_pos q0]
        subst q0
        refine am_D_of (Nat.le_of_ble_eq_true rfl) ?_
        refine main ?_
        refine ev_go 999 rfl trivial ?_
        refine ev_go 999 rfl ⟨vx, trivial⟩ ?_
        refine ev_ret rfl trivial ⟨?_, rfl⟩
        show some (Value.int (a 22 (nI 400 * w + k).toNatClampNeg)) = _
        rw [cx]
      rw [if_neg q0]
      by_cases q1 : what = 1
      · refine ⟨i, a, Scr.rf, ?_⟩
        rw [if_pos q1]
        subst q1
        refine am_D_of (Nat.le_of_ble_eq_true rfl) ?_
        refine main ?_
        refine ev_go 999 rfl trivial ?_
        refine ev_go 999 rfl ⟨vx, trivial⟩ ?_
        refine ev_ret rfl trivial ⟨?_, rfl⟩
        show some (Value.int (a 23 (nI 400 * w + k).toNatClampNeg)) = _
        rw [cx]
      rw [if_neg q1]
      by_cases q2 : what = 2
      · obtain ⟨i', a', sc, hpd, hD⟩ := x9_pairA (E := E) (d := d + 59) (i := i) (j := j) (a := a) (b := b) hI w2
        refine ⟨i', a', sc, ?_⟩
        rw [if_pos q2]
        subst q2
        rw [← w1] at hD
        refine am_D_of (Nat.le_of_ble_eq_true rfl) ?_
        refine main ?_
        refine ev_go 999 rfl trivial ?_
        refine ev_go 999 rfl trivial ?_
        refine ev_call0 rfl (Nat.le_of_ble_eq_true rfl) (fun _ => ⟨_, _, _, rfl, rfl⟩) hD ?_
        refine ev_go 999 rfl ⟨by rw [k1]; exact vp_in_nI (by omega) (by omega), trivial⟩ ?_
        refine ev_ret rfl trivial ⟨?_, rfl⟩
        show some (Value.int (a' 24 (cl k))) = _
        rw [hpd.r (cl k) k2]
        rfl
      · refine ⟨i, a, Scr.rf, ?_⟩
        rw [if_neg q2]
        refine am_D_of (Nat.le_of_ble_eq_true rfl) ?_
        refine main ?_
        refine ev_run 1 rfl trivial ?_
        refine ev_sw rfl (am_sw_out (pc := 27) 2 (by omega) (out2 q0 q1 q2)) ?_
        refine ev_go 999 rfl trivial ?_
        exact ev_ret rfl trivial ⟨rfl, rfl⟩
def dayQ (a : Nat → Nat → Int32) (g day what : Int32) : Int32 := if (inB g 0 5 && inB day 0 1095) = true then (if what = 0 then nI (mOf (cl day)) else if what = 1 then (if a 1 (cl day) = 0 then 0 else 1) else if what = 2 then nI (kdA a (cl g) (cl day)) else -1) else -1
theorem x9_day {g day what : Int32} (hI : INV i a) : am_D E (d + 61) tX9_day [.ref 0, .int g, .int day, .int what] (am_L (mo i j a b)) 0 0 (some (.int (dayQ a g day what))) (am_L (mo i j a b)) := by
  unfold dayQ
  refine am_D_of (Nat.le_of_ble_eq_true rfl) ?_
  cases h1 : inB g 0 5 with
  | false =>
    rw [Bool.false_and, if_neg (by decide)]
    refine ev_go 999 rfl trivial ?_
    refine ev_call0 rfl (Nat.le_of_ble_eq_true rfl) (fun z => by cases z) (x9_isGroup (d := d + 58) (v := g)) ?_
    rw [h1]
    refine ev_go 999 rfl trivial ?_
    first | refine ev_pos (by decide) ?_ | refine ev_neg (by decide) ?_
    refine ev_go 999 rfl trivial ?_
    exact ev_ret rfl trivial ⟨rfl, rfl⟩
  | true =>
    cases h2 : inB day 0 1095 with
    | false =>
      rw [Bool.true_and, if_neg (by decide)]
      refine ev_go 999 rfl trivial ?_
      refine ev_call0 rfl (Nat.le_of_ble_eq_true rfl) (fun z => by cases z) (x9_isGroup (d := d + 58) (v := g)) ?_
      rw [h1]
      refine ev_go 999 rfl trivial ?_
      first | refine ev_pos (by decide) ?_ | refine ev_neg (by decide) ?_
      refine ev_go 999 rfl trivial ?_
      refine ev_call0 rfl (Nat.le_of_ble_eq_true rfl) (fun z => by cases z) (x9_isDay (d := d + 58) (v := day)) ?_
      rw [h2]
      refine ev_go 999 rfl trivial ?_
      first | refine ev_pos (by decide) ?_ | refine ev_neg (by decide) ?_
      refine ev_go 999 rfl trivial ?_
      exact ev_ret rfl trivial ⟨rfl, rfl⟩
    | true =>
      rw [Bool.true_and, if_pos rfl]
      obtain ⟨d1, d2⟩ := dIn h2
      have g1 := le0_in (N := 5) (by omega) h1
      have gb := g1.2
      refine ev_go 999 rfl trivial ?_
      refine ev_call0 rfl (Nat.le_of_ble_eq_true rfl) (fun z => by cases z) (x9_isGroup (d := d + 58) (v := g)) ?_
      rw [h1]
      refine ev_go 999 rfl trivial ?_
      first | refine ev_pos (by decide) ?_ | refine ev_neg (by decide) ?_
      refine ev_go 999 rfl trivial ?_
      refine ev_call0 rfl (Nat.le_of_ble_eq_true rfl) (fun z => by cases z) (x9_isDay (d := d + 58) (v := day)) ?_
      rw [h2]
      refine ev_go 999 rfl trivial ?_
      first | refine ev_pos (by decide) ?_ | refine ev_neg (by decide) ?_
      by_cases q0 : what = 0
      · rw [if_pos q0]
        subst q0
        have hD := x9_monthOf (E := E) (d := d + 58) (M := am_L (mo i j a b)) d2
        rw [← d1] at hD
        refine ev_go 999 rfl trivial ?_
        refine ev_go 999 rfl trivial ?_
        refine ev_call0 rfl (Nat.le_of_ble_eq_true rfl) (fun z => by cases z) hD ?_
        exact ev_ret rfl trivial ⟨rfl, rfl⟩
      rw [if_neg q0]
      by_cases q1 : what = 1
      · rw [if_pos q1]
        subst q1
        refine ev_go 999 rfl trivial ?_
        refine ev_go 999 rfl ⟨by rw [d1]; exact vp_in_nI d2 (by omega), trivial⟩ ?_
        refine ev_if (fun h => ?_) (fun h => ?_)
        · have h : a 1 (cl day) = 0 := h
          rw [if_pos h]
          refine ev_go 999 rfl trivial ?_
          exact ev_ret rfl trivial ⟨rfl, rfl⟩
        · have h : ¬ a 1 (cl day) = 0 := h
          rw [if_neg h]
          refine ev_go 999 rfl trivial ?_
          refine ev_go 999 rfl trivial ?_
          exact ev_ret rfl trivial ⟨rfl, rfl⟩
      rw [if_neg q1]
      by_cases q2 : what = 2
      · rw [if_pos q2]
        subst q2
        have hD := x9_kindOf (E := E) (d := d + 59) (i := i) (j := j) (a := a) (b := b) (g := cl g) (by omega) d2
        rw [hI.hk (by omega), ← d1, ← g1.1] at hD
        refine ev_go 999 rfl trivial ?_
        refine ev_go 999 rfl trivial ?_
        refine ev_call0 rfl (Nat.le_of_ble_eq_true rfl) (fun _ => ⟨_, _, _, rfl, rfl⟩) hD ?_
        exact ev_ret rfl trivial ⟨rfl, rfl⟩
      · rw [if_neg q2]
        refine ev_run 1 rfl trivial ?_
        refine ev_sw rfl (am_sw_out (pc := 17) 2 (by omega) (out2 q0 q1 q2)) ?_
        refine ev_go 999 rfl trivial ?_
        exact ev_ret rfl trivial ⟨rfl, rfl⟩
end Q9
