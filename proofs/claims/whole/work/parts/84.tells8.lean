/-! What is told to the class. -/
/-- the class's world without a worker -/
def xo (i : Nat → Int32) (j : Nat → Int64) (a : Nat → Nat → Int32) (W : Nat → Option Nat) : List am_C := [
  .inr (8, [.ref 1, .int (i 0), .ref 2, .ref 3, .ref 4, .ref 8, .ref 14, .int (i 1), .int (i 2), .int (i 3), .ref 15, .ref 19]),
  .inl (1, 1096, .inl (a 1)),
  .inl (3, 6, .inr (.inr (.inr (.inr grf)))),
  .inl (4, 8, .inr (.inr (.inr (.inr ruf)))),
  .inr (2, [.ref 5, .ref 6, .ref 7, .int (i 4)]),
  .inl (0, 60, .inl (a 5)),
  .inl (0, 60, .inl (a 6)),
  .inl (0, 60, .inl (a 7)),
  .inr (5, [.ref 9, .ref 10, .ref 11, .ref 12, .ref 13, .int (i 8)]),
  .inl (0, 12, .inl (a 9)),
  .inl (0, 12, .inl (a 10)),
  .inl (0, 12, .inl (a 11)),
  .inl (0, 12, .inl (a 12)),
  .inl (0, 12, .inl (a 13)),
  .inl (5, 30, .inr (.inr (.inr (.inr W)))),
  .inr (4, [.ref 16, .ref 17, .ref 18, .int (i 15)]),
  .inl (0, 805, .inl (a 16)),
  .inl (0, 805, .inl (a 17)),
  .inl (0, 805, .inl (a 18)),
  .inr (6, [.long (j 0), .long (j 1)]),
  .inr (0, [.int (i 20), .ref 21, .ref 22, .int (i 21), .int (i 22)]),
  .inl (0, 8, .inl (a 21)),
  .inl (0, 7, .inl (a 22)),
  .inr (0, [.int (i 23), .ref 24, .ref 25, .int (i 24), .int (i 25)]),
  .inl (0, 8, .inl (a 24)),
  .inl (0, 7, .inl (a 25)),
  .inr (0, [.int (i 26), .ref 27, .ref 28, .int (i 27), .int (i 28)]),
  .inl (0, 8, .inl (a 27)),
  .inl (0, 7, .inl (a 28)),
  .inr (0, [.int (i 29), .ref 30, .ref 31, .int (i 30), .int (i 31)]),
  .inl (0, 8, .inl (a 30)),
  .inl (0, 7, .inl (a 31)),
  .inr (0, [.int (i 32), .ref 33, .ref 34, .int (i 33), .int (i 34)]),
  .inl (0, 8, .inl (a 33)),
  .inl (0, 7, .inl (a 34)),
  .inr (0, [.int (i 35), .ref 36, .ref 37, .int (i 36), .int (i 37)]),
  .inl (0, 8, .inl (a 36)),
  .inl (0, 7, .inl (a 37)),
  .inr (3, [.ref 39, .ref 40]),
  .inl (0, 5, .inl (a 39)),
  .inl (0, 5, .inl (a 40)),
  .inr (3, [.ref 42, .ref 43]),
  .inl (0, 5, .inl (a 42)),
  .inl (0, 5, .inl (a 43)),
  .inr (3, [.ref 45, .ref 46]),
  .inl (0, 5, .inl (a 45)),
  .inl (0, 5, .inl (a 46)),
  .inr (3, [.ref 48, .ref 49]),
  .inl (0, 5, .inl (a 48)),
  .inl (0, 5, .inl (a 49)),
  .inr (3, [.ref 51, .ref 52]),
  .inl (0, 5, .inl (a 51)),
  .inl (0, 5, .inl (a 52)),
  .inr (3, [.ref 54, .ref 55]),
  .inl (0, 5, .inl (a 54)),
  .inl (0, 5, .inl (a 55)),
  .inr (3, [.ref 57, .ref 58]),
  .inl (0, 5, .inl (a 57)),
  .inl (0, 5, .inl (a 58)),
  .inr (3, [.ref 60, .ref 61]),
  .inl (0, 5, .inl (a 60)),
  .inl (0, 5, .inl (a 61))]
section XO
variable {E : am_E} {d : Nat} {i ri : Nat → Int32} {j : Nat → Int64} {a rA : Nat → Nat → Int32} {W : Nat → Option Nat}
theorem lo_ra {τ : am_T} {as : List Value} {v : Option Value} {z : Int32} {T S R : Nat → Int32} (h : am_D E d τ as (am_L (ra (i 4) (a 5) (a 6) (a 7))) 0 0 v (am_L (ra z T S R))) : am_D E d τ (am_rS (am_ro [4, 5, 6, 7]) as) (am_L (xo i j a W)) 0 0 (v.map (am_rv (am_ro [4, 5, 6, 7]))) (am_L (xo (va_up i 4 z) j (va_up (va_up (va_up a 5 T) 6 S) 7 R) W)) := by
  refine lift_L h [4, 5, 6, 7] (by decide) rfl (Nat.le_of_ble_eq_true rfl) (Nat.le_of_ble_eq_true rfl) (by show ∀ p ∈ _, p < 62; decide) (fun k hk => ?_) rfl
  have hk : k < 4 := hk
  rcases (show k = 0 ∨ k = 1 ∨ k = 2 ∨ k = 3 by omega) with e | e | e | e <;> subst e <;> rfl
theorem lo_su {τ : am_T} {as : List Value} {v : Option Value} {z : Int32} {K F T P X : Nat → Int32} (h : am_D E d τ as (am_L (su (i 8) (a 9) (a 10) (a 11) (a 12) (a 13))) 0 0 v (am_L (su z K F T P X))) : am_D E d τ (am_rS (am_ro [8, 9, 10, 11, 12, 13]) as) (am_L (xo i j a W)) 0 0 (v.map (am_rv (am_ro [8, 9, 10, 11, 12, 13]))) (am_L (xo (va_up i 8 z) j (va_up (va_up (va_up (va_up (va_up a 9 K) 10 F) 11 T) 12 P) 13 X) W)) := by
  refine lift_L h [8, 9, 10, 11, 12, 13] (by decide) rfl (Nat.le_of_ble_eq_true rfl) (Nat.le_of_ble_eq_true rfl) (by show ∀ p ∈ _, p < 62; decide) (fun k hk => ?_) rfl
  have hk : k < 6 := hk
  rcases (show k = 0 ∨ k = 1 ∨ k = 2 ∨ k = 3 ∨ k = 4 ∨ k = 5 by omega) with e | e | e | e | e | e <;> subst e <;> rfl
theorem xo_kindOf {h day : Nat} (hh : h < 6) (hd : day < 1096) (hc : CX i a ri rA) (hI : INV ri rA) : am_D E (d + 1) tX8_kindOf [.ref 0, .ref (20 + 3 * h), .int (nI day)] (am_L (xo i j a W)) 0 0 (some (.int (nI (kdA rA h day)))) (am_L (xo i j a W)) := by
  have v1 : vp_in (nI day) 1096 := vp_in_nI hd (by omega)
  have c1 : (nI day).toNatClampNeg = day := nI_clamp (by omega)
  have h7 : day % 7 < 7 := Nat.mod_lt _ (by decide)
  have er : nI day - nI day / nI 7 * nI 7 = nI (day % 7) := pk_rem (by omega) (by omega) (by omega)
  have hk := hI.hk (day := day) hh
  have f1 := hc.fe day hd
  have hkk : ∀ k, k < 8 → a (21 + 3 * h) (nI k).toNatClampNeg = rA 2 (8 * h + k) := fun k hk => by rw [nI_clamp (by omega)]; exact hc.gk h k hh hk
  have fin : ∀ k, k < 8 → (k = if rA 1 day = 0 then day % 7 else 7) → some (Value.int (a (21 + 3 * h) (nI k).toNatClampNeg)) = some (.int (nI (kdA rA h day))) := fun k hk8 hkk2 => by
    rw [hkk k hk8, hkk2, hk]
  rcases (show h = 0 ∨ h = 1 ∨ h = 2 ∨ h = 3 ∨ h = 4 ∨ h = 5 by omega) with e | e | e | e | e | e <;> subst e <;> (
    refine am_D_of (Nat.le_of_ble_eq_true rfl) ?_
    refine ev_go 999 rfl ⟨v1, trivial⟩ ?_
    refine ev_if (fun h => ?_) (fun h => ?_)
    · have h : a 1 (nI day).toNatClampNeg = 0 := h
      rw [c1, f1] at h
      refine ev_go 999 rfl ⟨by decide, by show vp_in (nI day - nI day / nI 7 * nI 7) 8; rw [er]; exact vp_in_nI (by omega) (by omega), trivial⟩ ?_
      refine ev_ret rfl trivial ⟨?_, rfl⟩
      have := fin (day % 7) (by omega) (by rw [if_pos h])
      rw [← er] at this
      exact this
    · have h : ¬ a 1 (nI day).toNatClampNeg = 0 := h
      rw [c1, f1] at h
      refine ev_go 999 rfl trivial ?_
      refine ev_go 999 rfl ⟨vp_in_nI (n := 7) (by omega) (by omega), trivial⟩ ?_
      refine ev_ret rfl trivial ⟨?_, rfl⟩
      exact fin 7 (by omega) (by rw [if_neg h]))
end XO
