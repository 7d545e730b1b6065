/-! The reference's state: ints and longs by field, arrays by their place. -/
def mo (i : Nat → Int32) (j : Nat → Int64) (a : Nat → Nat → Int32) (b : Nat → Nat → Int64) : List am_C := [.inr (9, [.int (i 0), .ref 1, .int (i 2), .ref 2, .ref 3, .ref 4, .ref 5, .ref 6, .ref 7, .int (i 9), .ref 8, .ref 9, .ref 10, .ref 11, .ref 12, .int (i 15), .ref 13, .ref 14, .ref 15, .int (i 19), .ref 16, .ref 17, .ref 18, .ref 19, .ref 20, .ref 21, .int (i 26), .ref 22, .ref 23, .ref 24, .int (i 30), .ref 25, .ref 26, .ref 27, .ref 28, .ref 29, .ref 30, .ref 31, .int (i 38), .int (i 39), .ref 32, .ref 33, .ref 34, .ref 35, .ref 36, .long (j 45), .long (j 46)]),
  .inl (1, 1096, .inl (a 1)),
  .inl (0, 48, .inl (a 2)),
  .inl (0, 40, .inl (a 3)),
  .inl (0, 40, .inl (a 4)),
  .inl (0, 60, .inl (a 5)),
  .inl (0, 60, .inl (a 6)),
  .inl (0, 60, .inl (a 7)),
  .inl (0, 12, .inl (a 8)),
  .inl (0, 12, .inl (a 9)),
  .inl (0, 12, .inl (a 10)),
  .inl (0, 12, .inl (a 11)),
  .inl (1, 144, .inl (a 12)),
  .inl (0, 42, .inl (a 13)),
  .inl (0, 6, .inl (a 14)),
  .inl (0, 6, .inl (a 15)),
  .inl (0, 30, .inl (a 16)),
  .inl (0, 30, .inl (a 17)),
  .inl (0, 30, .inl (a 18)),
  .inl (0, 600, .inl (a 19)),
  .inl (0, 600, .inl (a 20)),
  .inl (0, 30, .inl (a 21)),
  .inl (0, 12000, .inl (a 22)),
  .inl (0, 12000, .inl (a 23)),
  .inl (0, 400, .inl (a 24)),
  .inl (0, 400, .inl (a 25)),
  .inl (0, 400, .inl (a 26)),
  .inl (0, 400, .inl (a 27)),
  .inl (0, 400, .inl (a 28)),
  .inl (1, 400, .inl (a 29)),
  .inl (0, 2880, .inl (a 30)),
  .inl (0, 5, .inl (a 31)),
  .inl (2, 1080, .inr (.inl (b 32))),
  .inl (2, 1080, .inr (.inl (b 33))),
  .inl (2, 1080, .inr (.inl (b 34))),
  .inl (2, 1080, .inr (.inl (b 35))),
  .inl (2, 1080, .inr (.inl (b 36)))]
def fa_first (p : Nat → Bool) : Nat → Nat
  | 0 => 0
  | n + 1 => if fa_first p n < n then fa_first p n else if p n then n else n + 1
theorem fa_first_le (p : Nat → Bool) : ∀ n, fa_first p n ≤ n
  | 0 => Nat.le_refl 0
  | n + 1 => by
    have ih := fa_first_le p n
    unfold fa_first
    split
    · omega
    · split
      · omega
      · omega
theorem fa_first_no (p : Nat → Bool) : ∀ n k, k < fa_first p n → p k = false
  | 0, k, h => absurd h (Nat.not_lt_zero k)
  | n + 1, k, h => by
    have ih := fa_first_no p n
    have hl := fa_first_le p n
    unfold fa_first at h
    split at h
    · exact ih k h
    · rename_i h1
      split at h
      · exact ih k (by omega)
      · rename_i h2
        by_cases e : k = n
        · subst e
          exact Bool.eq_false_iff.mpr h2
        · exact ih k (by omega)
theorem fa_first_yes (p : Nat → Bool) : ∀ n, fa_first p n < n → p (fa_first p n) = true
  | 0, h => absurd h (Nat.not_lt_zero _)
  | n + 1, h => by
    have ih := fa_first_yes p n
    have hl := fa_first_le p n
    unfold fa_first at h ⊢
    split at h
    · rename_i h1
      rw [if_pos h1]
      exact ih h1
    · rename_i h1
      rw [if_neg h1]
      split at h
      · rename_i h2
        rw [if_pos h2]
        exact h2
      · omega
set_option maxRecDepth 10000 in
theorem x9_markAt {E : am_E} {d : Nat} {i : Nat → Int32} {j : Nat → Int64} {a : Nat → Nat → Int32} {b : Nat → Nat → Int64} {w n : Nat} {t : Int32} (hw : w < 30) (hn : n ≤ 400) (hc : a 21 w = nI n) : am_D E (d + 1) tX9_markAt [.ref 0, .int (nI w), .int t] (am_L (mo i j a b)) 0 0 (some (.int (nI (fa_first (fun k => decide (¬ a 22 (400 * w + k) < t)) n)))) (am_L (mo i j a b)) := by
  refine am_D_of (Nat.le_of_ble_eq_true rfl) ?_
  refine ev_run 2 rfl trivial ?_
  have loop : ∀ m k, n - k = m → k ≤ n → (∀ q, q < k → a 22 (400 * w + q) < t) → am_ev E d tX9_markAt (2, [some (.ref 0), some (.int (nI w)), some (.int t), some (.int (nI k))], [], am_L (mo i j a b), 0, 0) (fun v' M'' => v' = some (.int (nI (fa_first (fun k => decide (¬ a 22 (400 * w + k) < t)) n))) ∧ M'' = am_L (mo i j a b)) := by
    intro m
    induction m with
    | zero =>
      intro k h1 h2 h3
      have e : k = n := by omega
      subst e
      refine ev_run 6 rfl ⟨vp_in_nI hw (by omega), trivial⟩ ?_
      refine ev_pos (by show a 21 (nI w).toNatClampNeg ≤ nI k; rw [nI_clamp (by omega), hc]; exact nI_le (Nat.le_refl _) (by omega)) ?_
      refine ev_run 1 rfl trivial ?_
      refine ev_ret rfl trivial ⟨?_, rfl⟩
      sorry
    | succ m ih =>
      intro k h1 h2 h3
      refine ev_run 6 rfl ⟨vp_in_nI hw (by omega), trivial⟩ ?_
      refine ev_neg (by show ¬ a 21 (nI w).toNatClampNeg ≤ nI k; rw [nI_clamp (by omega), hc]; exact nI_ge (by omega) (by omega)) ?_
      refine ev_run 8 rfl ⟨sorry, trivial⟩ ?_
      refine ev_if (fun h => ?_) (fun h => ?_)
      · refine ev_run 1 rfl trivial ?_
        refine ev_ret rfl trivial ⟨?_, rfl⟩
        sorry
      · refine ev_run 2 rfl trivial ?_
        exact ih (k + 1) (by omega) (by omega) sorry
  exact loop n 0 (by omega) (by omega) (fun q h => absurd h (Nat.not_lt_zero q))
