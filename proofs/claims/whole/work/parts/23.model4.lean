theorem inB_nI {v : Int32} {hi : Nat} (hh : hi < 2 ^ 31) (h : inB v 0 (nI hi) = true) : ∃ n, n ≤ hi ∧ v = nI n := by
  unfold inB at h
  rw [Bool.and_eq_true_iff] at h
  have h1 : ¬ v < 0 := Int32.not_lt.mpr (of_decide_eq_true h.1)
  have h2 : v ≤ nI hi := of_decide_eq_true h.2
  exact nI_of2 (nI_toInt hh) h1 h2
section M4
variable {E : am_E} {d : Nat} {i : Nat → Int32} {j : Nat → Int64} {a : Nat → Nat → Int32} {b : Nat → Nat → Int64}
theorem x9_feast_none {v : Int32} (h : inB v 0 1095 = false) : am_D E (d + 3) tX9_feast [.ref 0, .int v] (am_L (mo i j a b)) 0 0 (some (.int (-1))) (am_L (mo i j a b)) := by
  refine am_D_of (Nat.le_of_ble_eq_true rfl) ?_
  refine ev_go 999 rfl trivial ?_
  refine ev_call0 rfl (Nat.le_of_ble_eq_true rfl) (fun z => by cases z) (x9_isDay) ?_
  rw [h]
  refine ev_go 999 rfl trivial ?_
  refine ev_neg (by decide) ?_
  refine ev_go 999 rfl trivial ?_
  exact ev_ret rfl trivial ⟨rfl, rfl⟩
theorem x9_feast_was {n : Nat} (h : inB (nI n) 0 1095 = true) (hn : n < 1096) (hw : ¬ a 1 n = 0) : am_D E (d + 3) tX9_feast [.ref 0, .int (nI n)] (am_L (mo i j a b)) 0 0 (some (.int 0)) (am_L (mo i j a b)) := by
  refine am_D_of (Nat.le_of_ble_eq_true rfl) ?_
  refine ev_go 999 rfl trivial ?_
  refine ev_call0 rfl (Nat.le_of_ble_eq_true rfl) (fun z => by cases z) (x9_isDay) ?_
  rw [h]
  refine ev_go 999 rfl trivial ?_
  refine ev_pos (by decide) ?_
  refine ev_go 999 rfl ⟨vp_in_nI hn (by omega), trivial⟩ ?_
  refine ev_neg (by show ¬ a 1 (nI n).toNatClampNeg = 0; rw [nI_clamp (by omega)]; exact hw) ?_
  refine ev_go 999 rfl trivial ?_
  exact ev_ret rfl trivial ⟨rfl, rfl⟩
theorem x9_feast_new {n : Nat} (h : inB (nI n) 0 1095 = true) (hn : n < 1096) (hw : a 1 n = 0) : am_D E (d + 3) tX9_feast [.ref 0, .int (nI n)] (am_L (mo i j a b)) 0 0 (some (.int 1)) (am_L (mo (va_up i 2 (i 2 + 1)) j (va_up a 1 (upd (a 1) n 1)) b)) := by
  refine am_D_of (Nat.le_of_ble_eq_true rfl) ?_
  refine ev_go 999 rfl trivial ?_
  refine ev_call0 rfl (Nat.le_of_ble_eq_true rfl) (fun z => by cases z) (x9_isDay) ?_
  rw [h]
  refine ev_go 999 rfl trivial ?_
  refine ev_pos (by decide) ?_
  refine ev_go 999 rfl ⟨vp_in_nI hn (by omega), trivial⟩ ?_
  refine ev_pos (by show a 1 (nI n).toNatClampNeg = 0; rw [nI_clamp (by omega)]; exact hw) ?_
  refine ev_go 999 rfl ⟨vp_in_nI hn (by omega), trivial⟩ ?_
  refine ev_ret rfl trivial ⟨rfl, ?_⟩
  dsimp only
  rw [mo_a1, nI_clamp (by omega)]
  exact mo_i2 _
end M4
