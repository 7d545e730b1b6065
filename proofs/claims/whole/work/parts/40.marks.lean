/-! The class's small statics, and its Marks. -/
theorem ms_day : ∀ m, m < 37 → am_MS.getD m 0 = nI (mday m) := by decide
section C1
variable {E : am_E} {d : Nat} {M : am_M}
theorem x8_isWithin {v lo hi : Int32} : am_D E (d + 1) tX8_isWithin [.int v, .int lo, .int hi] M 0 0 (some (.int (bI (inB v lo hi)))) M := by
  refine am_D_of (Nat.le_of_ble_eq_true rfl) ?_
  refine ev_go 999 rfl trivial ?_
  refine ev_if (fun h => ?_) (fun h => ?_)
  · have e : inB v lo hi = false := by unfold inB; rw [decide_eq_false (Int32.not_le.mpr h)]; rfl
    rw [e]
    refine ev_go 999 rfl trivial ?_
    exact ev_ret rfl ⟨Or.inl rfl, trivial⟩ ⟨rfl, rfl⟩
  · have h1 := Int32.not_lt.mp h
    refine ev_go 999 rfl trivial ?_
    refine ev_if (fun h => ?_) (fun h => ?_)
    · have e : inB v lo hi = false := by unfold inB; rw [decide_eq_false (Int32.not_le.mpr h), Bool.and_false]
      rw [e]
      refine ev_go 999 rfl trivial ?_
      exact ev_ret rfl ⟨Or.inl rfl, trivial⟩ ⟨rfl, rfl⟩
    · have e : inB v lo hi = true := by unfold inB; rw [decide_eq_true h1, decide_eq_true (Int32.not_lt.mp h)]; rfl
      rw [e]
      refine ev_go 999 rfl trivial ?_
      refine ev_go 999 rfl trivial ?_
      exact ev_ret rfl ⟨Or.inr rfl, trivial⟩ ⟨rfl, rfl⟩
theorem x8_isDay {v : Int32} : am_D E (d + 2) tX8_isDay [.int v] M 0 0 (some (.int (bI (inB v 0 1095)))) M := by
  refine am_D_of (Nat.le_of_ble_eq_true rfl) ?_
  refine ev_go 999 rfl trivial ?_
  refine ev_call0 rfl (Nat.le_of_ble_eq_true rfl) (fun z => by cases z) (x8_isWithin) ?_
  refine ev_go 999 rfl trivial ?_
  refine ev_ret rfl ⟨bI_01 _, trivial⟩ ⟨?_, rfl⟩
  rfl
theorem x8_isMonth {v : Int32} : am_D E (d + 2) tX8_isMonth [.int v] M 0 0 (some (.int (bI (inB v 0 35)))) M := by
  refine am_D_of (Nat.le_of_ble_eq_true rfl) ?_
  refine ev_go 999 rfl trivial ?_
  refine ev_call0 rfl (Nat.le_of_ble_eq_true rfl) (fun z => by cases z) (x8_isWithin) ?_
  refine ev_go 999 rfl trivial ?_
  refine ev_ret rfl ⟨bI_01 _, trivial⟩ ⟨?_, rfl⟩
  rfl
theorem x8_isMinuteOfDay {v : Int32} : am_D E (d + 2) tX8_isMinuteOfDay [.int v] M 0 0 (some (.int (bI (inB v 0 1439)))) M := by
  refine am_D_of (Nat.le_of_ble_eq_true rfl) ?_
  refine ev_go 999 rfl trivial ?_
  refine ev_call0 rfl (Nat.le_of_ble_eq_true rfl) (fun z => by cases z) (x8_isWithin) ?_
  refine ev_go 999 rfl trivial ?_
  refine ev_ret rfl ⟨bI_01 _, trivial⟩ ⟨?_, rfl⟩
  rfl
theorem x8_isRoundStep {x : Int32} : am_D E (d + 1) tX8_isRoundStep [.int x] M 0 0 (some (.int (bI (rkB x)))) M := by
  refine am_D_of (Nat.le_of_ble_eq_true rfl) ?_
  have yes : rkB x = true → am_ev E d tX8_isRoundStep (28, [some (.int x)], [], M, 0, 0) (fun v' M'' => v' = some (.int (bI (rkB x))) ∧ M'' = M) := fun e => by
    rw [e]
    refine ev_go 999 rfl trivial ?_
    refine ev_go 999 rfl trivial ?_
    exact ev_ret rfl ⟨Or.inr rfl, trivial⟩ ⟨rfl, rfl⟩
  refine ev_go 999 rfl trivial ?_
  refine ev_if (fun h => ?_) (fun h => ?_)
  · exact yes (by unfold rkB; rw [decide_eq_true (show x = 1 from h)]; rfl)
  · have h1 : ¬ x = 1 := h
    refine ev_go 999 rfl trivial ?_
    refine ev_if (fun h => ?_) (fun h => ?_)
    · exact yes (by unfold rkB; rw [decide_eq_true (show x = 5 from h), Bool.or_true]; rfl)
    · have h2 : ¬ x = 5 := h
      refine ev_go 999 rfl trivial ?_
      refine ev_if (fun h => ?_) (fun h => ?_)
      · exact yes (by unfold rkB; rw [decide_eq_true (show x = 10 from h), Bool.or_true]; rfl)
      · have h3 : ¬ x = 10 := h
        refine ev_go 999 rfl trivial ?_
        refine ev_if (fun h => ?_) (fun h => ?_)
        · exact yes (by unfold rkB; rw [decide_eq_true (show x = 15 from h), Bool.or_true]; rfl)
        · have h4 : ¬ x = 15 := h
          refine ev_go 999 rfl trivial ?_
          refine ev_if (fun h => ?_) (fun h => ?_)
          · have h5 : ¬ x = 30 := h
            have e : rkB x = false := by unfold rkB; rw [decide_eq_false h1, decide_eq_false h2, decide_eq_false h3, decide_eq_false h4, decide_eq_false h5]; rfl
            rw [e]
            refine ev_go 999 rfl trivial ?_
            exact ev_ret rfl ⟨Or.inl rfl, trivial⟩ ⟨rfl, rfl⟩
          · have h5 : ¬ ¬ x = 30 := h
            exact yes (by unfold rkB; rw [decide_eq_true (Classical.not_not.mp h5), Bool.or_true])
theorem x8_timeOf {x y : Int32} : am_D E (d + 1) tX8_timeOf [.int x, .int y] M 0 0 (some (.int (nI 1440 * x + y))) M := by
  refine am_D_of (Nat.le_of_ble_eq_true rfl) ?_
  refine ev_go 999 rfl trivial ?_
  exact ev_ret rfl trivial ⟨rfl, rfl⟩
theorem x8_monthOf {day : Nat} (hE : E 3 = (37, fun j => am_MS.getD j 0)) (hM : M.2 (am_X + 3) = none) (hd : day < 1096) : am_D E (d + 1) tX8_monthOf [.int (nI day)] M 0 0 (some (.int (nI (mOf day)))) M := by
  obtain ⟨g1, g2, g3⟩ := mOf_sp hd
  generalize mOf day = mm at g1 g2 g3
  refine am_D_of (Nat.le_of_ble_eq_true rfl) ?_
  refine ev_go 2 rfl trivial ?_
  have rd : ∀ (q : Nat) (L : List (Option Value)) (P : Option Value → am_M → Prop), q < 35 → am_ev E d tX8_monthOf (16, L, [.int (nI (mday (q + 1))), .int (nI day)], M, 0, 0) P → am_ev E d tX8_monthOf (15, L, [.int (nI q + nI 1), .ref (am_X + 3), .int (nI day)], M, 0, 0) P := by
    intro q L P hq kk
    have ex : nI q + nI 1 = nI (q + 1) := nI_add q 1
    refine ev_s (k' := (16, L, [.int ((E 3).2 (nI q + nI 1).toNatClampNeg), .int (nI day)], M, 0, 0)) (ps := [vp_in (nI q + nI 1) (E 3).1]) ?_ ?_ ?_
    · show (match M.2 (am_X + 3) with | some (.inl (0, n, .inl f)) => some ([vp_in (nI q + nI 1) n], 15 + 1, L, [Value.int (f (nI q + nI 1).toNatClampNeg), Value.int (nI day)], M, 0, 0) | some _ => none | none => some ([vp_in (nI q + nI 1) (E 3).1], 16, L, [Value.int ((E 3).2 (nI q + nI 1).toNatClampNeg), Value.int (nI day)], M, 0, 0)) = _
      rw [hM]
    · intro p hp
      rw [List.mem_singleton.mp hp, hE, ex]
      exact vp_in_nI (by show q + 1 < 37; omega) (by omega)
    · rw [hE, ex, nI_clamp (by omega)]
      dsimp only
      rw [ms_day (q + 1) (by omega)]
      exact kk
  have loop : ∀ n q, mm - q = n → q ≤ mm → am_ev E d tX8_monthOf (2, [some (.int (nI day)), some (.int (nI q))], [], M, 0, 0) (fun v' M'' => v' = some (.int (nI mm)) ∧ M'' = M) := by
    intro n
    induction n with
    | zero =>
      intro q h1 h2
      have e : q = mm := by omega
      subst e
      refine ev_go 999 rfl trivial ?_
      by_cases h35 : 35 ≤ q
      · refine ev_pos (nI_le (a := 35) (by omega) (by omega)) ?_
        refine ev_go 999 rfl trivial ?_
        exact ev_ret rfl trivial ⟨rfl, rfl⟩
      · refine ev_neg (nI_ge (b := 35) (by omega) (by omega)) ?_
        refine ev_go 15 rfl trivial ?_
        refine rd q _ _ (by omega) ?_
        refine ev_go 999 rfl trivial ?_
        refine ev_pos (nI_lt (by omega) (by have := mday_le (q + 1); omega)) ?_
        refine ev_go 999 rfl trivial ?_
        exact ev_ret rfl trivial ⟨rfl, rfl⟩
    | succ n ih =>
      intro q h1 h2
      have hq : mday (q + 1) ≤ day := by
        rcases Nat.lt_or_ge (q + 1) mm with z | z
        · have := mday_lt z; omega
        · have : q + 1 = mm := by omega
          rw [this]; exact g2
      refine ev_go 999 rfl trivial ?_
      refine ev_neg (nI_ge (b := 35) (by omega) (by omega)) ?_
      refine ev_go 15 rfl trivial ?_
      refine rd q _ _ (by omega) ?_
      refine ev_go 999 rfl trivial ?_
      refine ev_neg (nI_nlt hq (by omega)) ?_
      refine ev_go 999 rfl trivial ?_
      have kk := ih (q + 1) (by omega) (by omega)
      rw [← nI_1 q] at kk
      exact kk
  exact loop mm 0 (by omega) (Nat.zero_le _)
end C1
/-- the cells of Marks -/
def mk (z : Int32) (T S R : Nat → Int32) : List am_C := [.inr (1, [.ref 1, .ref 2, .ref 3, .int z]), .inl (0, 400, .inl T), .inl (0, 400, .inl S), .inl (0, 400, .inl R)]
theorem mk_R {z : Int32} {T S R : Nat → Int32} (h : Nat → Int32) : am_w (am_L (mk z T S R)) 3 (.inl (0, 400, .inl h)) = am_L (mk z T S h) := by rw [am_w_L (Nat.le_of_ble_eq_true rfl)]; rfl
theorem mk_T {z : Int32} {T S R : Nat → Int32} (h : Nat → Int32) : am_w (am_L (mk z T S R)) 1 (.inl (0, 400, .inl h)) = am_L (mk z h S R) := by rw [am_w_L (Nat.le_of_ble_eq_true rfl)]; rfl
theorem mk_S {z : Int32} {T S R : Nat → Int32} (h : Nat → Int32) : am_w (am_L (mk z T S R)) 2 (.inl (0, 400, .inl h)) = am_L (mk z T h R) := by rw [am_w_L (Nat.le_of_ble_eq_true rfl)]; rfl
theorem mk_z {z : Int32} {T S R : Nat → Int32} (x : Int32) : am_w (am_L (mk z T S R)) 0 (.inr (1, [.ref 1, .ref 2, .ref 3, .int z].set 3 (.int x))) = am_L (mk x T S R) := by rw [am_w_L (Nat.le_of_ble_eq_true rfl)]; rfl
section C2
variable {E : am_E} {d : Nat} {T S R : Nat → Int32} {n : Nat}
theorem x1_placeOf {t : Int32} (hn : n ≤ 400) : am_D E (d + 1) tX1_placeOf [.ref 0, .int t] (am_L (mk (nI n) T S R)) 0 0 (some (.int (nI (fa_first (fun k => decide (t ≤ T k)) n)))) (am_L (mk (nI n) T S R)) := by
  refine am_D_of (Nat.le_of_ble_eq_true rfl) ?_
  refine ev_go 2 rfl trivial ?_
  have loop : ∀ m k, n - k = m → k ≤ n → (∀ q, q < k → decide (t ≤ T q) = false) → am_ev E d tX1_placeOf (2, [some (.ref 0), some (.int t), some (.int (nI k))], [], am_L (mk (nI n) T S R), 0, 0) (fun v' M'' => v' = some (.int (nI (fa_first (fun k => decide (t ≤ T k)) n))) ∧ M'' = am_L (mk (nI n) T S R)) := by
    intro m
    induction m with
    | zero =>
      intro k h1 h2 h3
      have e : k = n := by omega
      subst e
      refine ev_go 999 rfl trivial ?_
      refine ev_pos (nI_le (Nat.le_refl _) (by omega)) ?_
      refine ev_go 999 rfl trivial ?_
      refine ev_ret rfl trivial ⟨?_, rfl⟩
      rw [fa_first_is h3 h2 (Or.inl rfl)]
    | succ m ih =>
      intro k h1 h2 h3
      refine ev_go 999 rfl trivial ?_
      refine ev_neg (nI_ge (by omega) (by omega)) ?_
      refine ev_go 999 rfl ⟨vp_in_nI (by omega) (by omega), trivial⟩ ?_
      refine ev_if (fun h => ?_) (fun h => ?_)
      · have h4 : t ≤ T (nI k).toNatClampNeg := h
        rw [nI_clamp (by omega)] at h4
        refine ev_go 999 rfl trivial ?_
        refine ev_ret rfl trivial ⟨?_, rfl⟩
        rw [fa_first_is h3 h2 (Or.inr (decide_eq_true h4))]
      · have h4 : ¬ t ≤ T (nI k).toNatClampNeg := h
        rw [nI_clamp (by omega)] at h4
        refine ev_go 999 rfl trivial ?_
        have kk := ih (k + 1) (by omega) (by omega) (fun q hq => by
          rcases Nat.lt_or_ge q k with z | z
          · exact h3 q z
          · have : q = k := by omega
            subst this
            exact decide_eq_false h4)
        rw [← nI_1 k] at kk
        exact kk
  exact loop n 0 (by omega) (by omega) (fun q h => absurd h (Nat.not_lt_zero q))
theorem x1_standsAt {t : Int32} (hn : n ≤ 400) : am_D E (d + 2) tX1_standsAt [.ref 0, .int t] (am_L (mk (nI n) T S R)) 0 0 (some (.int (bI (decide (fa_first (fun k => decide (t ≤ T k)) n < n) && decide (T (fa_first (fun k => decide (t ≤ T k)) n) = t))))) (am_L (mk (nI n) T S R)) := by
  have hle := fa_first_le (fun k => decide (t ≤ T k)) n
  refine am_D_of (Nat.le_of_ble_eq_true rfl) ?_
  refine ev_go 999 rfl trivial ?_
  refine ev_call0 rfl (Nat.le_of_ble_eq_true rfl) (fun _ => ⟨_, _, _, rfl, rfl⟩) (x1_placeOf hn) ?_
  generalize fa_first (fun k => decide (t ≤ T k)) n = q at hle
  refine ev_go 999 rfl trivial ?_
  by_cases hq : n ≤ q
  · refine ev_pos (nI_le hq (by omega)) ?_
    rw [decide_eq_false (show ¬ q < n by omega), Bool.false_and]
    refine ev_go 999 rfl trivial ?_
    exact ev_ret rfl ⟨Or.inl rfl, trivial⟩ ⟨rfl, rfl⟩
  · refine ev_neg (nI_ge (by omega) (by omega)) ?_
    rw [decide_eq_true (show q < n by omega), Bool.true_and]
    refine ev_go 999 rfl ⟨vp_in_nI (by omega) (by omega), trivial⟩ ?_
    refine ev_if (fun h => ?_) (fun h => ?_)
    · have h1 : ¬ T (nI q).toNatClampNeg = t := h
      rw [nI_clamp (by omega)] at h1
      rw [decide_eq_false h1]
      refine ev_go 999 rfl trivial ?_
      exact ev_ret rfl ⟨Or.inl rfl, trivial⟩ ⟨rfl, rfl⟩
    · have h1 : ¬ ¬ T (nI q).toNatClampNeg = t := h
      rw [nI_clamp (by omega)] at h1
      rw [decide_eq_true (Classical.not_not.mp h1)]
      refine ev_go 999 rfl trivial ?_
      refine ev_go 999 rfl trivial ?_
      exact ev_ret rfl ⟨Or.inr rfl, trivial⟩ ⟨rfl, rfl⟩
theorem x1_dayOf {z : Int32} {k : Nat} (hk : k < 400) : am_D E (d + 1) tX1_dayOf [.ref 0, .int (nI k)] (am_L (mk z T S R)) 0 0 (some (.int (T k / nI 1440))) (am_L (mk z T S R)) := by
  refine am_D_of (Nat.le_of_ble_eq_true rfl) ?_
  refine ev_go 999 rfl ⟨vp_in_nI hk (by omega), by decide, trivial⟩ ?_
  refine ev_ret rfl trivial ⟨?_, rfl⟩
  show some (Value.int (T (nI k).toNatClampNeg / nI 1440)) = _
  rw [nI_clamp (by omega)]
/-- the state behind a mark -/
def nxS (e s : Nat) : Nat := if e = 0 then (if s = 0 then 1 else 0) else if s = 1 then 0 else if e = 1 then (if s = 2 then 2 else 1) else (if s = 3 then 1 else 2)
theorem x1_nextState {M : am_M} {e s : Nat} (he : e ≤ 2) (hs : s ≤ 3) : am_D E (d + 1) tX1_nextState [.int (nI e), .int (nI s)] M 0 0 (some (.int (nI (nxS e s)))) M := by
  refine am_D_of (Nat.le_of_ble_eq_true rfl) ?_
  rcases (show e = 0 ∨ e = 1 ∨ e = 2 by omega) with rfl | rfl | rfl <;> rcases (show s = 0 ∨ s = 1 ∨ s = 2 ∨ s = 3 by omega) with rfl | rfl | rfl | rfl
  all_goals
    repeat' first
    | exact ev_ret rfl trivial ⟨rfl, rfl⟩
    | refine ev_pos (by decide) ?_
    | refine ev_neg (by decide) ?_
    | refine ev_go 999 rfl trivial ?_
theorem pnx_1 (t s : Nat → Nat) (k : Nat) : (pS t s (k + 1)).1 = nxS (pe t k (pS t s k)) (s k) := by
  show (pnx t s k (pS t s k)).1 = _
  unfold pnx nxS
  repeat' split
  all_goals rfl
theorem pnx_2 (t s : Nat → Nat) (k : Nat) : (pS t s (k + 1)).2.1 = if pe t k (pS t s k) = 0 ∧ s k = 0 then k else (pS t s k).2.1 := by
  show (pnx t s k (pS t s k)).2.1 = _
  unfold pnx
  by_cases h0 : pe t k (pS t s k) = 0
  · by_cases h1 : s k = 0
    · rw [if_pos h0, if_pos h1, if_pos ⟨h0, h1⟩]
    · rw [if_pos h0, if_neg h1, if_neg (fun z => h1 z.2)]
  · have e : (if pe t k (pS t s k) = 0 ∧ s k = 0 then k else (pS t s k).2.1) = (pS t s k).2.1 := if_neg (fun z => h0 z.1)
    rw [e, if_neg h0]
    repeat' split
    all_goals rfl
theorem x1_pairUp {t s : Nat → Nat} (hn : n ≤ 400) (ht : ∀ k, k < n → T k = nI (t k)) (hs : ∀ k, k < n → S k = nI (s k)) (hs3 : ∀ k, k < n → s k ≤ 3) (ht2 : ∀ k, k < n → t k < 2000000) (hinc : ∀ q k, q < k → k < n → t q < t k) : ∃ R', (∀ q, q < n → R' q = nI (pR t s n q)) ∧ am_D E (d + 2) tX1_pairUp [.ref 0] (am_L (mk (nI n) T S R)) 0 0 none (am_L (mk (nI n) T S R')) := by
  have main : am_ev E (d + 1) tX1_pairUp (0, am_in [.ref 0] tX1_pairUp.2.2.2.1, [], am_L (mk (nI n) T S R), 0, 0) (fun v M => v = none ∧ ∃ R', (∀ q, q < n → R' q = nI (pR t s n q)) ∧ M = am_L (mk (nI n) T S R')) := by
    refine ev_go 6 rfl trivial ?_
    have loop : ∀ m k, n - k = m → k ≤ n → ∀ (R' : Nat → Int32) (o4 : Option Value), (∀ q, q < k → R' q = nI (pR t s k q)) → am_ev E (d + 1) tX1_pairUp (6, [some (.ref 0), some (.int (nI (pS t s k).1)), some (.int (nI (pS t s k).2.1)), some (.int (nI k)), o4], [], am_L (mk (nI n) T S R'), 0, 0) (fun v M => v = none ∧ ∃ R', (∀ q, q < n → R' q = nI (pR t s n q)) ∧ M = am_L (mk (nI n) T S R')) := by
      intro m
      induction m with
      | zero =>
        intro k g1 g2 R' o4 hR
        have e : k = n := by omega
        subst e
        refine ev_go 999 rfl trivial ?_
        refine ev_pos (nI_le (Nat.le_refl _) (by omega)) ?_
        exact ev_ret rfl trivial ⟨rfl, R', hR, rfl⟩
      | succ m ih =>
        intro k g1 g2 R' o4 hR
        have hkn : k < n := by omega
        have htk := ht2 k hkn
        have hsk := hs3 k hkn
        have hle := pS_le t s k
        have hvk : vp_in (nI k) 400 := vp_in_nI (by omega) (by omega)
        have hck : (nI k).toNatClampNeg = k := nI_clamp (by omega)
        have next : ∀ (x2 x4 x1 : Int32) (R2 : Nat → Int32), x4 = nI (pS t s (k + 1)).1 → x2 = nI (pS t s (k + 1)).2.1 → (∀ q, q < k + 1 → R2 q = nI (pR t s (k + 1) q)) → am_ev E (d + 1) tX1_pairUp (112, [some (.ref 0), some (.int x1), some (.int x2), some (.int (nI k)), some (.int x4)], [], am_L (mk (nI n) T S R2), 0, 0) (fun v M => v = none ∧ ∃ R', (∀ q, q < n → R' q = nI (pR t s n q)) ∧ M = am_L (mk (nI n) T S R')) := by
          intro x2 x4 x1 R2 h4 h2 h3
          subst h4; subst h2
          have kk := ih (k + 1) (by omega) (by omega) R2 (some (.int (nI (pS t s (k + 1)).1))) h3
          rw [← nI_1 k] at kk
          refine ev_go 999 rfl trivial ?_
          exact kk
        have from39 : ∀ e, e = pe t k (pS t s k) → am_ev E (d + 1) tX1_pairUp (39, [some (.ref 0), some (.int (nI e)), some (.int (nI (pS t s k).2.1)), some (.int (nI k)), o4], [], am_L (mk (nI n) T S R'), 0, 0) (fun v M => v = none ∧ ∃ R', (∀ q, q < n → R' q = nI (pR t s n q)) ∧ M = am_L (mk (nI n) T S R')) := by
          intro e he
          have he2 : e ≤ 2 := by rw [he]; exact pe_le hle
          have e1 : (pS t s (k + 1)).1 = nxS e (s k) := by rw [pnx_1, ← he]
          have hnx : nxS e (s k) ≤ 2 := by rw [← e1]; exact pS_le t s (k + 1)
          refine ev_go 999 rfl ⟨hvk, trivial⟩ ?_
          rw [hck, hs k hkn]
          refine ev_call0 rfl (Nat.le_of_ble_eq_true rfl) (fun z => by cases z) (x1_nextState (e := e) (s := s k) he2 hsk) ?_
          have up : ∀ r x : Nat, (∀ q, q < k + 1 → upd R' (nI k).toNatClampNeg (nI r) q = if q = k then nI r else nI (pR t s k q)) := fun r x q hq => by
            rw [hck]
            unfold upd
            by_cases z : q = k
            · rw [if_pos z, if_pos z]
            · rw [if_neg z, if_neg z]; exact hR q (by omega)
          have ro : ∀ r, pR t s (k + 1) = upN (pR t s k) k r → ∀ q, q < k + 1 → upd R' (nI k).toNatClampNeg (nI r) q = nI (pR t s (k + 1) q) := fun r hr q hq => by
            rw [up r 0 q hq, hr]
            by_cases z : q = k
            · rw [if_pos z, z, upN_s]
            · rw [if_neg z, upN_n z]
          refine ev_go 999 rfl trivial ?_
          by_cases hd : nxS e (s k) = e
          · refine ev_neg (fun z => z (by rw [hd])) ?_
            refine ev_go 999 rfl ⟨hvk, trivial⟩ ?_
            rw [mk_R]
            refine next _ _ _ _ (by rw [e1]) ?_ (ro 0 ?_)
            · rw [pnx_2, if_neg (fun z => ?_)]
              rw [← he] at z
              rw [z.1, z.2] at hd
              cases hd
            · show (if _ then _ else _) = _
              rw [← he]
              unfold nxS at hd
              rw [if_neg (fun z => by rw [z.1, z.2] at hd; cases hd), if_neg (fun z => by rw [if_neg z.1, if_pos z.2] at hd; exact z.1 hd.symm), if_neg]
              rintro (z | z)
              · rw [z.1, z.2] at hd; cases hd
              · rw [z.1, z.2] at hd; cases hd
          · refine ev_pos (by show ¬ nI (nxS e (s k)) = nI e; rw [nI_eq (by omega) (by omega)]; exact hd) ?_
            refine ev_go 999 rfl trivial ?_
            by_cases h0 : e = 0
            · refine ev_neg (fun z => z (by rw [h0]; rfl)) ?_
              have hs0 : s k = 0 := by
                rcases Nat.eq_zero_or_pos (s k) with z | z
                · exact z
                · unfold nxS at hd; rw [if_pos h0, if_neg (by omega)] at hd; omega
              have hb : pe t k (pS t s k) = 0 ∧ s k = 0 := ⟨by rw [← he]; exact h0, hs0⟩
              refine ev_go 999 rfl ⟨hvk, trivial⟩ ?_
              rw [mk_R]
              exact next _ _ _ _ (by rw [e1]) (by rw [pnx_2, if_pos hb]) (ro 2 (if_pos hb))
            · refine ev_pos (by show ¬ nI e = nI 0; rw [nI_eq (by omega) (by omega)]; exact h0) ?_
              have hpe : pe t k (pS t s k) ≠ 0 := by rw [← he]; exact h0
              have nb : ¬ (pe t k (pS t s k) = 0 ∧ s k = 0) := fun z => hpe z.1
              refine ev_go 999 rfl trivial ?_
              by_cases hz : nxS e (s k) = 0
              · refine ev_neg (fun z => z (by rw [hz]; rfl)) ?_
                have hs1 : s k = 1 := by
                  unfold nxS at hz
                  rw [if_neg h0] at hz
                  by_cases z : s k = 1
                  · exact z
                  · rw [if_neg z] at hz
                    repeat' split at hz
                    all_goals omega
                obtain ⟨hN1, hN2, hN3⟩ := pS_in t s k (by rw [(pe_st hpe).1]; exact hpe)
                have hcc : (nI (pS t s k).2.1).toNatClampNeg = (pS t s k).2.1 := nI_clamp (by omega)
                refine ev_go 999 rfl ⟨hvk, vp_in_nI (by omega) (by omega), trivial⟩ ?_
                rw [mk_R, mk_R]
                refine next _ _ _ _ (by rw [e1]) (by rw [pnx_2, if_neg nb]) (fun q hq => ?_)
                rw [show pR t s (k + 1) = upN (upN (pR t s k) (pS t s k).2.1 1) k 3 from (if_neg nb).trans (if_pos ⟨hpe, hs1⟩), hcc]
                show (if q = (pS t s k).2.1 then nI 1 else upd R' (nI k).toNatClampNeg (nI 3) q) = _
                by_cases y : q = k
                · rw [if_neg (by omega), up 3 0 q hq, if_pos y, y, upN_s]
                · rw [upN_n y]
                  by_cases z : q = (pS t s k).2.1
                  · rw [if_pos z, z, upN_s]
                  · rw [if_neg z, upN_n z, up 3 0 q hq, if_neg y]
              · refine ev_pos (by show ¬ nI (nxS e (s k)) = nI 0; rw [nI_eq (by omega) (by omega)]; exact hz) ?_
                have hmid : (pe t k (pS t s k) = 1 ∧ s k = 2) ∨ (pe t k (pS t s k) = 2 ∧ s k = 3) := by
                  rw [← he]
                  unfold nxS at hd hz
                  rw [if_neg h0] at hd hz
                  by_cases z : s k = 1
                  · rw [if_pos z] at hz; exact absurd rfl hz
                  · rw [if_neg z] at hd
                    by_cases y : e = 1
                    · rw [if_pos y] at hd
                      by_cases x : s k = 2
                      · exact Or.inl ⟨y, x⟩
                      · rw [if_neg x] at hd; omega
                    · rw [if_neg y] at hd
                      by_cases x : s k = 3
                      · exact Or.inr ⟨by omega, x⟩
                      · rw [if_neg x] at hd; omega
                have nf : ¬ (pe t k (pS t s k) ≠ 0 ∧ s k = 1) := fun z => by rcases hmid with y | y <;> omega
                refine ev_go 112 rfl ⟨hvk, trivial⟩ ?_
                rw [mk_R]
                exact next _ _ _ _ (by rw [e1]) (by rw [pnx_2, if_neg nb]) (ro 4 (((if_neg nb).trans (if_neg nf)).trans (if_pos hmid)))
        refine ev_go 999 rfl trivial ?_
        refine ev_neg (nI_ge (by omega) (by omega)) ?_
        refine ev_go 999 rfl trivial ?_
        by_cases hst0 : (pS t s k).1 = 0
        · refine ev_pos (by rw [hst0]; rfl) ?_
          have e : pe t k (pS t s k) = 0 := by unfold pe; rw [if_neg (fun z => z.1 hst0)]; exact hst0
          have kk := from39 0 e.symm
          rw [hst0]
          exact kk
        · obtain ⟨hN1, hN2, hN3⟩ := pS_in t s k hst0
          have hcc : (nI (pS t s k).2.1).toNatClampNeg = (pS t s k).2.1 := nI_clamp (by omega)
          have hlt := hinc _ k hN3 hkn
          refine ev_neg (by show ¬ nI (pS t s k).1 = nI 0; rw [nI_eq (by omega) (by omega)]; exact hst0) ?_
          refine ev_go 999 rfl ⟨hvk, vp_in_nI (by omega) (by omega), trivial⟩ ?_
          by_cases hto : t (pS t s k).2.1 + 960 < t k
          · have e : pe t k (pS t s k) = 0 := by unfold pe; rw [if_pos ⟨hst0, hto⟩]
            refine ev_neg (by show ¬ T (nI k).toNatClampNeg - T (nI (pS t s k).2.1).toNatClampNeg ≤ nI 960; rw [hck, hcc, ht k hkn, ht _ (by omega), pk_sub (by omega)]; exact nI_ge (by omega) (by omega)) ?_
            refine ev_go 39 rfl trivial ?_
            exact from39 0 e.symm
          · have e : pe t k (pS t s k) = (pS t s k).1 := by unfold pe; rw [if_neg (fun z => hto z.2)]
            refine ev_pos (by show T (nI k).toNatClampNeg - T (nI (pS t s k).2.1).toNatClampNeg ≤ nI 960; rw [hck, hcc, ht k hkn, ht _ (by omega), pk_sub (by omega)]; exact nI_le (by omega) (by omega)) ?_
            exact from39 _ e.symm
    exact loop n 0 (by omega) (Nat.zero_le _) R none (fun q h => absurd h (Nat.not_lt_zero q))
  obtain ⟨v, M', ⟨rfl, R', hR, rfl⟩, hD⟩ := am_D_ex (Nat.le_of_ble_eq_true rfl) main
  exact ⟨R', hR, hD⟩
end C2
