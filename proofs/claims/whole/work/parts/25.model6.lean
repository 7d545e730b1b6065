/-- the steps of ROUND -/
def rkB (x : Int32) : Bool := decide (x = 1) || decide (x = 5) || decide (x = 10) || decide (x = 15) || decide (x = 30)
def mostR (w : Nat) : Int32 := if w = 1 then 2880 else if w = 2 then 600 else if w = 4 then 20000 else 0
def okR (w : Nat) (x y : Int32) : Bool := (if w = 0 then rkB x else inB x 0 2880) && inB y 0 (mostR w)
section M6
variable {E : am_E} {d : Nat} {i : Nat → Int32} {j : Nat → Int64} {a : Nat → Nat → Int32} {b : Nat → Nat → Int64}
theorem x9_rule_none {k w x y : Int32} (h : (inB k 0 7 && inB w 0 4) = false) : am_D E (d + 2) tX9_rule [.ref 0, .int k, .int w, .int x, .int y] (am_L (mo i j a b)) 0 0 (some (.int (-1))) (am_L (mo i j a b)) := by
  refine am_D_of (Nat.le_of_ble_eq_true rfl) ?_
  refine ev_go 999 rfl trivial ?_
  refine ev_call0 rfl (Nat.le_of_ble_eq_true rfl) (fun z => by cases z) (x9_in) ?_
  cases hg : inB k 0 7 with
  | false =>
    rw [show inB k (Int32.ofInt 0) (Int8.ofInt 7).toInt32 = false from hg]
    refine ev_go 999 rfl trivial ?_
    refine ev_pos (by decide) ?_
    refine ev_go 999 rfl trivial ?_
    exact ev_ret rfl trivial ⟨rfl, rfl⟩
  | true =>
    rw [hg, Bool.true_and] at h
    rw [show inB k (Int32.ofInt 0) (Int8.ofInt 7).toInt32 = true from hg]
    refine ev_go 999 rfl trivial ?_
    refine ev_neg (by decide) ?_
    refine ev_go 999 rfl trivial ?_
    refine ev_call0 rfl (Nat.le_of_ble_eq_true rfl) (fun z => by cases z) (x9_in) ?_
    rw [show inB w (Int32.ofInt 0) (Int32.ofInt 4) = false from h]
    refine ev_go 999 rfl trivial ?_
    refine ev_neg (by decide) ?_
    refine ev_go 999 rfl trivial ?_
    exact ev_ret rfl trivial ⟨rfl, rfl⟩
/-- from the two tests on: what is found of a, and how much b may be -/
theorem x9_rule_mid {P : Option Value → am_M → Prop} {M : am_M} {k x y : Int32} {w : Nat} (hw : w < 5) (kk : am_ev E d tX9_rule (92, [some (.ref 0), some (.int k), some (.int (nI w)), some (.int x), some (.int y), some (.int (bI (rkB x))), some (.int (mostR w))], [], M, 0, 0) P) : am_ev E d tX9_rule (21, [some (.ref 0), some (.int k), some (.int (nI w)), some (.int x), some (.int y), none, none], [], M, 0, 0) P := by
  have mid : am_ev E d tX9_rule (56, [some (.ref 0), some (.int k), some (.int (nI w)), some (.int x), some (.int y), some (.int (bI (rkB x))), none], [], M, 0, 0) P := by
    rcases (show w = 0 ∨ w = 1 ∨ w = 2 ∨ w = 3 ∨ w = 4 by omega) with rfl | rfl | rfl | rfl | rfl
    · refine ev_go 999 rfl trivial ?_
      refine ev_pos (by decide) ?_
      refine ev_go 999 rfl trivial ?_
      refine ev_pos (by decide) ?_
      refine ev_go 999 rfl trivial ?_
      refine ev_pos (by decide) ?_
      refine ev_go 92 rfl trivial ?_
      exact kk
    · refine ev_go 999 rfl trivial ?_
      refine ev_neg (by decide) ?_
      refine ev_go 999 rfl trivial ?_
      refine ev_go 92 rfl trivial ?_
      exact kk
    · refine ev_go 999 rfl trivial ?_
      refine ev_pos (by decide) ?_
      refine ev_go 999 rfl trivial ?_
      refine ev_neg (by decide) ?_
      refine ev_go 999 rfl trivial ?_
      refine ev_go 92 rfl trivial ?_
      exact kk
    · refine ev_go 999 rfl trivial ?_
      refine ev_pos (by decide) ?_
      refine ev_go 999 rfl trivial ?_
      refine ev_pos (by decide) ?_
      refine ev_go 999 rfl trivial ?_
      refine ev_pos (by decide) ?_
      refine ev_go 92 rfl trivial ?_
      exact kk
    · refine ev_go 999 rfl trivial ?_
      refine ev_pos (by decide) ?_
      refine ev_go 999 rfl trivial ?_
      refine ev_pos (by decide) ?_
      refine ev_go 999 rfl trivial ?_
      refine ev_neg (by decide) ?_
      refine ev_go 999 rfl trivial ?_
      refine ev_go 92 rfl trivial ?_
      exact kk
  have yes : rkB x = true → am_ev E d tX9_rule (49, [some (.ref 0), some (.int k), some (.int (nI w)), some (.int x), some (.int y), none, none], [], M, 0, 0) P := fun e => by
    rw [e] at mid
    refine ev_go 999 rfl trivial ?_
    refine ev_go 56 rfl trivial ?_
    exact mid
  refine ev_go 999 rfl trivial ?_
  refine ev_if (fun h => ?_) (fun h => ?_)
  · exact yes (by unfold rkB; rw [decide_eq_true (show x = 1 from h)]; rfl)
  · have h1 : ¬ x = 1 := h
    refine ev_go 999 rfl trivial ?_
    refine ev_if (fun h => ?_) (fun h => ?_)
    · exact yes (by unfold rkB; rw [decide_eq_true (show x = 5 from h), Bool.or_true]; rfl)
    · have h2 : ¬ x = 5 := h
      refine ev_go 999 rfl trivial ?_
      refine ev_if (fun h => ?_) (fun h => ?_)
      · exact yes (by unfold rkB; rw [decide_eq_true (show x = 10 from h), Bool.or_true]; rfl)
      · have h3 : ¬ x = 10 := h
        refine ev_go 999 rfl trivial ?_
        refine ev_if (fun h => ?_) (fun h => ?_)
        · exact yes (by unfold rkB; rw [decide_eq_true (show x = 15 from h), Bool.or_true]; rfl)
        · have h4 : ¬ x = 15 := h
          refine ev_go 999 rfl trivial ?_
          refine ev_if (fun h => ?_) (fun h => ?_)
          · have h5 : ¬ x = 30 := h
            have e : rkB x = false := by unfold rkB; rw [decide_eq_false h1, decide_eq_false h2, decide_eq_false h3, decide_eq_false h4, decide_eq_false h5]; rfl
            rw [e] at mid
            refine ev_go 56 rfl trivial ?_
            exact mid
          · have h5 : ¬ ¬ x = 30 := h
            exact yes (by unfold rkB; rw [decide_eq_true (Classical.not_not.mp h5), Bool.or_true])
theorem x9_rule_bad {k x y : Int32} {w : Nat} (hw : w < 5) (h : (inB k 0 7 && inB (nI w) 0 4) = true) (h2 : okR w x y = false) : am_D E (d + 2) tX9_rule [.ref 0, .int k, .int (nI w), .int x, .int y] (am_L (mo i j a b)) 0 0 (some (.int (-2))) (am_L (mo i j a b)) := by
  rw [Bool.and_eq_true_iff] at h
  refine am_D_of (Nat.le_of_ble_eq_true rfl) ?_
  refine ev_go 999 rfl trivial ?_
  refine ev_call0 rfl (Nat.le_of_ble_eq_true rfl) (fun z => by cases z) (x9_in) ?_
  rw [show inB k (Int32.ofInt 0) (Int8.ofInt 7).toInt32 = true from h.1]
  refine ev_go 999 rfl trivial ?_
  refine ev_neg (by decide) ?_
  refine ev_go 999 rfl trivial ?_
  refine ev_call0 rfl (Nat.le_of_ble_eq_true rfl) (fun z => by cases z) (x9_in) ?_
  rw [show inB (nI w) (Int32.ofInt 0) (Int32.ofInt 4) = true from h.2]
  refine ev_go 999 rfl trivial ?_
  refine ev_pos (by decide) ?_
  refine x9_rule_mid hw ?_
  have last : ∀ (hb : inB y 0 (mostR w) = false), am_ev E (d + 1) tX9_rule (118, [some (.ref 0), some (.int k), some (.int (nI w)), some (.int x), some (.int y), some (.int (bI (rkB x))), some (.int (mostR w))], [], am_L (mo i j a b), 0, 0) (fun v' M'' => v' = some (.int (-2)) ∧ M'' = am_L (mo i j a b)) := fun hb => by
    refine ev_go 999 rfl trivial ?_
    refine ev_call0 rfl (Nat.le_of_ble_eq_true rfl) (fun z => by cases z) (x9_in) ?_
    rw [show inB y (Int32.ofInt 0) (mostR w) = false from hb]
    refine ev_go 999 rfl trivial ?_
    refine ev_neg (by decide) ?_
    refine ev_go 999 rfl trivial ?_
    exact ev_ret rfl trivial ⟨rfl, rfl⟩
  unfold okR at h2
  refine ev_go 999 rfl trivial ?_
  by_cases h0 : w = 0
  · subst h0
    rw [if_pos rfl] at h2
    refine ev_neg (by decide) ?_
    refine ev_go 999 rfl trivial ?_
    cases hr : rkB x with
    | false =>
      refine ev_neg (by decide) ?_
      refine ev_go 999 rfl trivial ?_
      refine ev_go 999 rfl trivial ?_
      exact ev_ret rfl trivial ⟨rfl, rfl⟩
    | true =>
      rw [hr, Bool.true_and] at h2
      rw [hr] at last
      refine ev_pos (by decide) ?_
      exact last h2
  · rw [if_neg h0] at h2
    refine ev_pos (by show ¬ nI w = nI 0; rw [nI_eq (by omega) (by omega)]; exact h0) ?_
    refine ev_go 999 rfl trivial ?_
    refine ev_call0 rfl (Nat.le_of_ble_eq_true rfl) (fun z => by cases z) (x9_in) ?_
    cases hx : inB x 0 2880 with
    | false =>
      rw [show inB x (Int32.ofInt 0) (Int16.ofInt 2880).toInt32 = false from hx]
      refine ev_go 999 rfl trivial ?_
      refine ev_neg (by decide) ?_
      refine ev_go 999 rfl trivial ?_
      exact ev_ret rfl trivial ⟨rfl, rfl⟩
    | true =>
      rw [hx, Bool.true_and] at h2
      rw [show inB x (Int32.ofInt 0) (Int16.ofInt 2880).toInt32 = true from hx]
      refine ev_go 999 rfl trivial ?_
      refine ev_pos (by decide) ?_
      exact last h2
theorem x9_rule_ok {x y : Int32} {k w : Nat} (hk : k < 8) (hw : w < 5) (h : (inB (nI k) 0 7 && inB (nI w) 0 4) = true) (h2 : okR w x y = true) : am_D E (d + 2) tX9_rule [.ref 0, .int (nI k), .int (nI w), .int x, .int y] (am_L (mo i j a b)) 0 0 (some (.int 0)) (am_L (mo i j (va_up (va_up a 3 (upd (a 3) (5 * k + w) x)) 4 (upd (a 4) (5 * k + w) y)) b)) := by
  rw [Bool.and_eq_true_iff] at h
  have ex : nI 5 * nI k + nI w = nI (5 * k + w) := by rw [pk_mul, nI_add]
  have hv : vp_in (nI 5 * nI k + nI w) 40 := by rw [ex]; exact vp_in_nI (by omega) (by omega)
  have hcl : (nI 5 * nI k + nI w).toNatClampNeg = 5 * k + w := by rw [ex]; exact nI_clamp (by omega)
  unfold okR at h2
  rw [Bool.and_eq_true_iff] at h2
  refine am_D_of (Nat.le_of_ble_eq_true rfl) ?_
  refine ev_go 999 rfl trivial ?_
  refine ev_call0 rfl (Nat.le_of_ble_eq_true rfl) (fun z => by cases z) (x9_in) ?_
  rw [show inB (nI k) (Int32.ofInt 0) (Int8.ofInt 7).toInt32 = true from h.1]
  refine ev_go 999 rfl trivial ?_
  refine ev_neg (by decide) ?_
  refine ev_go 999 rfl trivial ?_
  refine ev_call0 rfl (Nat.le_of_ble_eq_true rfl) (fun z => by cases z) (x9_in) ?_
  rw [show inB (nI w) (Int32.ofInt 0) (Int32.ofInt 4) = true from h.2]
  refine ev_go 999 rfl trivial ?_
  refine ev_pos (by decide) ?_
  refine x9_rule_mid hw ?_
  have last : am_ev E (d + 1) tX9_rule (118, [some (.ref 0), some (.int (nI k)), some (.int (nI w)), some (.int x), some (.int y), some (.int (bI (rkB x))), some (.int (mostR w))], [], am_L (mo i j a b), 0, 0) (fun v' M'' => v' = some (.int 0) ∧ M'' = am_L (mo i j (va_up (va_up a 3 (upd (a 3) (5 * k + w) x)) 4 (upd (a 4) (5 * k + w) y)) b)) := by
    refine ev_go 999 rfl trivial ?_
    refine ev_call0 rfl (Nat.le_of_ble_eq_true rfl) (fun z => by cases z) (x9_in) ?_
    rw [show inB y (Int32.ofInt 0) (mostR w) = true from h2.2]
    refine ev_go 999 rfl trivial ?_
    refine ev_pos (by decide) ?_
    refine ev_go 999 rfl ⟨hv, hv, trivial⟩ ?_
    refine ev_ret rfl trivial ⟨rfl, ?_⟩
    show am_w (am_w (am_L (mo i j a b)) 3 (.inl (0, 40, .inl (upd (a 3) (nI 5 * nI k + nI w).toNatClampNeg x)))) 4 (.inl (0, 40, .inl (upd (a 4) (nI 5 * nI k + nI w).toNatClampNeg y))) = _
    rw [hcl, mo_a3, mo_a4]
  refine ev_go 999 rfl trivial ?_
  by_cases h0 : w = 0
  · subst h0
    have h3 : rkB x = true := by have := h2.1; rwa [if_pos rfl] at this
    refine ev_neg (by decide) ?_
    rw [h3] at last ⊢
    refine ev_go 999 rfl trivial ?_
    refine ev_pos (by decide) ?_
    exact last
  · have h3 : inB x 0 2880 = true := by have := h2.1; rwa [if_neg h0] at this
    refine ev_pos (by show ¬ nI w = nI 0; rw [nI_eq (by omega) (by omega)]; exact h0) ?_
    refine ev_go 999 rfl trivial ?_
    refine ev_call0 rfl (Nat.le_of_ble_eq_true rfl) (fun z => by cases z) (x9_in) ?_
    rw [show inB x (Int32.ofInt 0) (Int16.ofInt 2880).toInt32 = true from h3]
    refine ev_go 999 rfl trivial ?_
    refine ev_pos (by decide) ?_
    exact last
end M6
