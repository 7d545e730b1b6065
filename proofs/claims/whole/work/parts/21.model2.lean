/-- how many minutes ahead of m have class c -/
def cntC (f : Nat → Int32) (c : Int32) (m : Nat) : Nat := fb_ct (fun q => decide (f q = c)) m
theorem cntC_succ (f : Nat → Int32) (c : Int32) (m : Nat) : cntC f c (m + 1) = cntC f c m + (if f m = c then 1 else 0) := by
  unfold cntC
  rw [fb_ct_succ]
  by_cases h : f m = c
  · rw [decide_eq_true h, if_pos h]; rfl
  · rw [decide_eq_false h, if_neg h]; rfl
theorem cntC_le (f : Nat → Int32) (c : Int32) (m : Nat) : cntC f c m ≤ m := fb_ct_le _ m
/-- of what is there, all behind the first r gets class c -/
def bhC (f : Nat → Int32) (r : Nat) (c : Int32) (m : Nat) : Int32 := if f m = nI 7 ∧ r ≤ cntC f (nI 7) m then c else f m
section M2
variable {E : am_E} {d : Nat} {i : Nat → Int32} {j : Nat → Int64} {a : Nat → Nat → Int32} {b : Nat → Nat → Int64}
theorem x9_kindOf {g day : Nat} (hg : g < 6) (hd : day < 1096) : am_D E (d + 1) tX9_kindOf [.ref 0, .int (nI g), .int (nI day)] (am_L (mo i j a b)) 0 0 (some (.int (a 2 (8 * g + (if a 1 day = 0 then day % 7 else 7))))) (am_L (mo i j a b)) := by
  have h7 : day % 7 < 7 := Nat.mod_lt _ (by decide)
  refine am_D_of (Nat.le_of_ble_eq_true rfl) ?_
  refine ev_go 999 rfl ⟨vp_in_nI hd (by omega), trivial⟩ ?_
  refine ev_if (fun h => ?_) (fun h => ?_)
  · simp (disch := omega) only [kb_m4, kb_m3, kb_m2, kb_6, kb_7, kb_8, kb_10, kb_12, kb_15, kb_20, kb_25, kb_28, kb_29, kb_30, kb_31, kb_35, kb_36, kb_40, kb_42, kb_48, kb_60, ks_144, ks_255, ks_400, ks_600, ks_805, ks_960, ks_1000, ks_1080, ks_1095, ks_1096, ks_1439, ks_1440, ks_2879, ks_2880, ks_10000, ks_12000, ks_20000, ki_m1, ki_0, ki_1, ki_2, ki_3, ki_4, ki_5, nI_add, nI_1, pk_mul, pk_sub, pk_div, pk_rem, nI_clamp, nI_leI, nI_ltI, nI_eq] at h
    have ex : nI 8 * nI g + (nI day - nI day / nI 7 * nI 7) = nI (8 * g + day % 7) := by simp (disch := omega) only [kb_m4, kb_m3, kb_m2, kb_6, kb_7, kb_8, kb_10, kb_12, kb_15, kb_20, kb_25, kb_28, kb_29, kb_30, kb_31, kb_35, kb_36, kb_40, kb_42, kb_48, kb_60, ks_144, ks_255, ks_400, ks_600, ks_805, ks_960, ks_1000, ks_1080, ks_1095, ks_1096, ks_1439, ks_1440, ks_2879, ks_2880, ks_10000, ks_12000, ks_20000, ki_m1, ki_0, ki_1, ki_2, ki_3, ki_4, ki_5, nI_add, nI_1, pk_mul, pk_sub, pk_div, pk_rem, nI_clamp, nI_leI, nI_ltI, nI_eq]; congr 1; omega
    refine ev_go 999 rfl ⟨by decide, by show vp_in (nI 8 * nI g + (nI day - nI day / nI 7 * nI 7)) 48; rw [ex]; exact vp_in_nI (by omega) (by omega), trivial⟩ ?_
    refine ev_ret rfl trivial ⟨?_, rfl⟩
    show some (Value.int (a 2 (nI 8 * nI g + (nI day - nI day / nI 7 * nI 7)).toNatClampNeg)) = _
    rw [ex, nI_clamp (by omega), if_pos h]
  · simp (disch := omega) only [kb_m4, kb_m3, kb_m2, kb_6, kb_7, kb_8, kb_10, kb_12, kb_15, kb_20, kb_25, kb_28, kb_29, kb_30, kb_31, kb_35, kb_36, kb_40, kb_42, kb_48, kb_60, ks_144, ks_255, ks_400, ks_600, ks_805, ks_960, ks_1000, ks_1080, ks_1095, ks_1096, ks_1439, ks_1440, ks_2879, ks_2880, ks_10000, ks_12000, ks_20000, ki_m1, ki_0, ki_1, ki_2, ki_3, ki_4, ki_5, nI_add, nI_1, pk_mul, pk_sub, pk_div, pk_rem, nI_clamp, nI_leI, nI_ltI, nI_eq] at h
    have ex : nI 8 * nI g + nI 7 = nI (8 * g + 7) := by simp (disch := omega) only [kb_m4, kb_m3, kb_m2, kb_6, kb_7, kb_8, kb_10, kb_12, kb_15, kb_20, kb_25, kb_28, kb_29, kb_30, kb_31, kb_35, kb_36, kb_40, kb_42, kb_48, kb_60, ks_144, ks_255, ks_400, ks_600, ks_805, ks_960, ks_1000, ks_1080, ks_1095, ks_1096, ks_1439, ks_1440, ks_2879, ks_2880, ks_10000, ks_12000, ks_20000, ki_m1, ki_0, ki_1, ki_2, ki_3, ki_4, ki_5, nI_add, nI_1, pk_mul, pk_sub, pk_div, pk_rem, nI_clamp, nI_leI, nI_ltI, nI_eq]
    refine ev_go 999 rfl trivial ?_
    refine ev_go 999 rfl ⟨by show vp_in (nI 8 * nI g + nI 7) 48; rw [ex]; exact vp_in_nI (by omega) (by omega), trivial⟩ ?_
    refine ev_ret rfl trivial ⟨?_, rfl⟩
    show some (Value.int (a 2 (nI 8 * nI g + nI 7).toNatClampNeg)) = _
    rw [ex, nI_clamp (by omega), if_neg h]
theorem x9_fill {lo hi : Nat} {c : Int32} (h1 : hi ≤ 2880) (hlo : lo ≤ 2880) : am_D E (d + 1) tX9_fill [.ref 0, .int (nI lo), .int (nI hi), .int c] (am_L (mo i j a b)) 0 0 none (am_L (mo i j (va_up a 30 (fun m => if lo ≤ m ∧ m < hi then c else a 30 m)) b)) := by
  refine am_D_of (Nat.le_of_ble_eq_true rfl) ?_
  refine ev_go 3 rfl trivial ?_
  have loop : ∀ n q, hi - q = n → lo ≤ q → q ≤ 2880 → ∀ a' : Nat → Nat → Int32, a' = va_up a 30 (fun m => if lo ≤ m ∧ m < q ∧ m < hi then c else a 30 m) → am_ev E d tX9_fill (3, [some (.ref 0), some (.int (nI lo)), some (.int (nI hi)), some (.int c), some (.int (nI q))], [], am_L (mo i j a' b), 0, 0) (fun v' M'' => v' = none ∧ M'' = am_L (mo i j (va_up a 30 (fun m => if lo ≤ m ∧ m < hi then c else a 30 m)) b)) := by
    intro n
    induction n with
    | zero =>
      intro q g1 g2 g3 a' ha
      refine ev_go 999 rfl trivial ?_
      refine ev_pos (nI_le (by omega) (by omega)) ?_
      refine ev_ret rfl trivial ⟨rfl, ?_⟩
      have e : (fun m => if lo ≤ m ∧ m < q ∧ m < hi then c else a 30 m) = (fun m => if lo ≤ m ∧ m < hi then c else a 30 m) := by
        funext m
        by_cases z : lo ≤ m ∧ m < hi
        · rw [if_pos z, if_pos ⟨z.1, by omega, z.2⟩]
        · rw [if_neg z, if_neg (fun y => z ⟨y.1, y.2.2⟩)]
      rw [ha, e]
    | succ n ih =>
      intro q g1 g2 g3 a' ha
      refine ev_go 999 rfl trivial ?_
      refine ev_neg (nI_ge (by omega) (by omega)) ?_
      refine ev_go 999 rfl ⟨vp_in_nI (by omega) (by omega), trivial⟩ ?_
      rw [mo_a30]
      have kk := ih (q + 1) (by omega) (by omega) (by omega) (va_up a' 30 (upd (a' 30) (nI q).toNatClampNeg c)) (by
        rw [ha, bx_uu, va_up_self, nI_clamp (by omega)]
        congr 1
        funext m
        unfold upd
        by_cases z : m = q
        · subst z
          rw [if_pos rfl, if_pos ⟨g2, by omega, by omega⟩]
        · rw [if_neg z]
          dsimp only
          by_cases y : lo ≤ m ∧ m < q ∧ m < hi
          · rw [if_pos y, if_pos ⟨y.1, by omega, y.2.2⟩]
          · rw [if_neg y, if_neg (fun x => y ⟨x.1, by omega, x.2.2⟩)])
      rw [← nI_1 q] at kk
      exact kk
  exact loop (hi - lo) lo rfl (Nat.le_refl _) hlo a (by
    funext k
    unfold va_up
    by_cases z : k = 30
    · subst z
      rw [if_pos rfl]
      funext m
      rw [if_neg (fun y => by omega)]
    · rw [if_neg z])
/-- a loop that counts -/
theorem x9_there : am_D E (d + 1) tX9_there [.ref 0] (am_L (mo i j a b)) 0 0 (some (.int (nI (cntC (a 30) (nI 7) 2880)))) (am_L (mo i j a b)) := by
  refine am_D_of (Nat.le_of_ble_eq_true rfl) ?_
  refine ev_go 4 rfl trivial ?_
  have loop : ∀ n q, 2880 - q = n → q ≤ 2880 → am_ev E d tX9_there (4, [some (.ref 0), some (.int (nI (cntC (a 30) (nI 7) q))), some (.int (nI q))], [], am_L (mo i j a b), 0, 0) (fun v' M'' => v' = some (.int (nI (cntC (a 30) (nI 7) 2880))) ∧ M'' = am_L (mo i j a b)) := by
    intro n
    induction n with
    | zero =>
      intro q g1 g2
      have e : q = 2880 := by omega
      subst e
      refine ev_go 999 rfl trivial ?_
      refine ev_pos (nI_le (Nat.le_refl _) (by omega)) ?_
      refine ev_go 999 rfl trivial ?_
      refine ev_ret rfl trivial ⟨?_, rfl⟩
      rfl
    | succ n ih =>
      intro q g1 g2
      have kk := ih (q + 1) (by omega) (by omega)
      rw [cntC_succ, ← nI_1 q] at kk
      refine ev_go 999 rfl trivial ?_
      refine ev_neg (nI_ge (a := q) (b := 2880) (by omega) (by omega)) ?_
      refine ev_go 999 rfl ⟨vp_in_nI (by omega) (by omega), trivial⟩ ?_
      refine ev_if (fun h => ?_) (fun h => ?_)
      · simp (disch := omega) only [kb_m4, kb_m3, kb_m2, kb_6, kb_7, kb_8, kb_10, kb_12, kb_15, kb_20, kb_25, kb_28, kb_29, kb_30, kb_31, kb_35, kb_36, kb_40, kb_42, kb_48, kb_60, ks_144, ks_255, ks_400, ks_600, ks_805, ks_960, ks_1000, ks_1080, ks_1095, ks_1096, ks_1439, ks_1440, ks_2879, ks_2880, ks_10000, ks_12000, ks_20000, ki_m1, ki_0, ki_1, ki_2, ki_3, ki_4, ki_5, nI_add, nI_1, pk_mul, pk_sub, pk_div, pk_rem, nI_clamp, nI_leI, nI_ltI, nI_eq] at h
        rw [if_neg h, ← nI_add] at kk
        refine ev_go 999 rfl trivial ?_
        exact kk
      · have h : ¬ ¬ a 30 (nI q).toNatClampNeg = nI 7 := h
        rw [nI_clamp (by omega)] at h
        rw [if_pos (Classical.not_not.mp h), ← nI_1 (cntC (a 30) (nI 7) q)] at kk
        refine ev_go 999 rfl trivial ?_
        refine ev_go 999 rfl trivial ?_
        exact kk
  exact loop 2880 0 (by omega) (Nat.zero_le _)
/-- how many minutes ahead of m are paid -/
def cntP (f : Nat → Int32) (m : Nat) : Nat := fb_ct (fun q => decide (nI 6 ≤ f q)) m
theorem cntP_succ (f : Nat → Int32) (m : Nat) : cntP f (m + 1) = cntP f m + (if nI 6 ≤ f m then 1 else 0) := by
  unfold cntP
  rw [fb_ct_succ]
  by_cases h : nI 6 ≤ f m
  · rw [decide_eq_true h, if_pos h]; rfl
  · rw [decide_eq_false h, if_neg h]; rfl
theorem x9_paid : am_D E (d + 1) tX9_paid [.ref 0] (am_L (mo i j a b)) 0 0 (some (.int (nI (cntP (a 30) 2880)))) (am_L (mo i j a b)) := by
  refine am_D_of (Nat.le_of_ble_eq_true rfl) ?_
  refine ev_go 4 rfl trivial ?_
  have loop : ∀ n q, 2880 - q = n → q ≤ 2880 → am_ev E d tX9_paid (4, [some (.ref 0), some (.int (nI (cntP (a 30) q))), some (.int (nI q))], [], am_L (mo i j a b), 0, 0) (fun v' M'' => v' = some (.int (nI (cntP (a 30) 2880))) ∧ M'' = am_L (mo i j a b)) := by
    intro n
    induction n with
    | zero =>
      intro q g1 g2
      have e : q = 2880 := by omega
      subst e
      refine ev_go 999 rfl trivial ?_
      refine ev_pos (nI_le (Nat.le_refl _) (by omega)) ?_
      refine ev_go 999 rfl trivial ?_
      refine ev_ret rfl trivial ⟨?_, rfl⟩
      rfl
    | succ n ih =>
      intro q g1 g2
      have kk := ih (q + 1) (by omega) (by omega)
      rw [cntP_succ, ← nI_1 q] at kk
      refine ev_go 999 rfl trivial ?_
      refine ev_neg (nI_ge (a := q) (b := 2880) (by omega) (by omega)) ?_
      refine ev_go 999 rfl ⟨vp_in_nI (by omega) (by omega), trivial⟩ ?_
      refine ev_if (fun h => ?_) (fun h => ?_)
      · have h : a 30 (nI q).toNatClampNeg < nI 6 := h
        rw [nI_clamp (by omega)] at h
        rw [if_neg (Int32.not_le.mpr h), ← nI_add] at kk
        refine ev_go 999 rfl trivial ?_
        exact kk
      · have h : ¬ a 30 (nI q).toNatClampNeg < nI 6 := h
        rw [nI_clamp (by omega)] at h
        rw [if_pos (Int32.not_lt.mp h), ← nI_1 (cntP (a 30) q)] at kk
        refine ev_go 999 rfl trivial ?_
        refine ev_go 999 rfl trivial ?_
        exact kk
  exact loop 2880 0 (by omega) (Nat.zero_le _)
theorem x9_behind {r : Nat} {c : Int32} (hr : r ≤ 2880) : am_D E (d + 1) tX9_behind [.ref 0, .int (nI r), .int c] (am_L (mo i j a b)) 0 0 none (am_L (mo i j (va_up a 30 (fa_fill (bhC (a 30) r c) (a 30) 2880)) b)) := by
  refine am_D_of (Nat.le_of_ble_eq_true rfl) ?_
  refine ev_go 5 rfl trivial ?_
  have loop : ∀ n q, 2880 - q = n → q ≤ 2880 → ∀ a' : Nat → Nat → Int32, a' = va_up a 30 (fa_fill (bhC (a 30) r c) (a 30) q) → am_ev E d tX9_behind (5, [some (.ref 0), some (.int (nI r)), some (.int c), some (.int (nI (cntC (a 30) (nI 7) q))), some (.int (nI q))], [], am_L (mo i j a' b), 0, 0) (fun v' M'' => v' = none ∧ M'' = am_L (mo i j (va_up a 30 (fa_fill (bhC (a 30) r c) (a 30) 2880)) b)) := by
    intro n
    induction n with
    | zero =>
      intro q g1 g2 a' ha
      have e : q = 2880 := by omega
      subst e
      refine ev_go 999 rfl trivial ?_
      refine ev_pos (nI_le (Nat.le_refl _) (by omega)) ?_
      refine ev_ret rfl trivial ⟨rfl, ?_⟩
      rw [ha]
    | succ n ih =>
      intro q g1 g2 a' ha
      have hq : a' 30 q = a 30 q := by rw [ha, va_up_self, fa_fill_out (Nat.le_refl _)]
      have hcl := cntC_le (a 30) (nI 7) q
      have same : bhC (a 30) r c q = a 30 q → a' = va_up a 30 (fa_fill (bhC (a 30) r c) (a 30) (q + 1)) := fun e => by
        rw [ha, ← fa_fill_succ, e, fa_upd_same (fa_fill_out (Nat.le_refl _))]
      refine ev_go 999 rfl trivial ?_
      refine ev_neg (nI_ge (a := q) (b := 2880) (by omega) (by omega)) ?_
      refine ev_go 999 rfl ⟨vp_in_nI (by omega) (by omega), trivial⟩ ?_
      refine ev_if (fun h => ?_) (fun h => ?_)
      · have h : a' 30 (nI q).toNatClampNeg = nI 7 := h
        rw [nI_clamp (by omega), hq] at h
        have hs : nI (cntC (a 30) (nI 7) (q + 1)) = nI (cntC (a 30) (nI 7) q) + 1 := by rw [cntC_succ, if_pos h, nI_1]
        have h7 := h
        refine ev_go 999 rfl trivial ?_
        refine ev_if (fun h => ?_) (fun h => ?_)
        · have h2 : nI (cntC (a 30) (nI 7) q) + 1 ≤ nI r := h
          rw [nI_1, nI_leI (by omega) (by omega)] at h2
          have kk := ih (q + 1) (by omega) (by omega) a' (same (by unfold bhC; rw [if_neg (fun z => by omega)]))
          rw [hs, ← nI_1 q] at kk
          refine ev_go 999 rfl trivial ?_
          exact kk
        · have h2 : ¬ nI (cntC (a 30) (nI 7) q) + 1 ≤ nI r := h
          rw [nI_1, nI_leI (by omega) (by omega)] at h2
          refine ev_go 999 rfl ⟨vp_in_nI (by omega) (by omega), trivial⟩ ?_
          rw [mo_a30]
          have kk := ih (q + 1) (by omega) (by omega) (va_up a' 30 (upd (a' 30) (nI q).toNatClampNeg c)) (by
            rw [ha, bx_uu, va_up_self, nI_clamp (by omega), ← fa_fill_succ]
            congr 2
            unfold bhC
            rw [if_pos ⟨h7, by omega⟩])
          rw [hs, ← nI_1 q] at kk
          exact kk
      · have h : ¬ a' 30 (nI q).toNatClampNeg = nI 7 := h
        rw [nI_clamp (by omega), hq] at h
        have hs : nI (cntC (a 30) (nI 7) (q + 1)) = nI (cntC (a 30) (nI 7) q) := by rw [cntC_succ, if_neg h, Nat.add_zero]
        have kk := ih (q + 1) (by omega) (by omega) a' (same (by unfold bhC; rw [if_neg (fun z => h z.1)]))
        rw [hs, ← nI_1 q] at kk
        refine ev_go 999 rfl trivial ?_
        refine ev_go 999 rfl trivial ?_
        exact kk
  exact loop 2880 0 (by omega) (Nat.zero_le _) a (by
    rw [fa_fill_0]
    funext k
    unfold va_up
    by_cases z : k = 30
    · subst z; rw [if_pos rfl]
    · rw [if_neg z])
end M2
