/-! The class's world: one worker, and all that is told. -/
def grf : Nat → Option Nat := fun k => if k < 6 then some (20 + 3 * k) else none
def ruf : Nat → Option Nat := fun k => if k < 8 then some (38 + 3 * k) else none
def saf : Nat → Option Nat := fun k => if k < 5 then some (70 + k) else none
/-- the class's world with one worker of group g at 62: ints by key, arrays by pointer -/
def xw (i : Nat → Int32) (j : Nat → Int64) (a : Nat → Nat → Int32) (b : Nat → Nat → Int64) (W : Nat → Option Nat) (g : Nat) : List am_C := [
  .inr (8, [.ref 1, .int (i 0), .ref 2, .ref 3, .ref 4, .ref 8, .ref 14, .int (i 1), .int (i 2), .int (i 3), .ref 15, .ref 19]),
  .inl (1, 1096, .inl (a 1)),
  .inl (3, 6, .inr (.inr (.inr (.inr grf)))),
  .inl (4, 8, .inr (.inr (.inr (.inr ruf)))),
  .inr (2, [.ref 5, .ref 6, .ref 7, .int (i 4)]),
  .inl (0, 60, .inl (a 5)),
  .inl (0, 60, .inl (a 6)),
  .inl (0, 60, .inl (a 7)),
  .inr (5, [.ref 9, .ref 10, .ref 11, .ref 12, .ref 13, .int (i 8)]),
  .inl (0, 12, .inl (a 9)),
  .inl (0, 12, .inl (a 10)),
  .inl (0, 12, .inl (a 11)),
  .inl (0, 12, .inl (a 12)),
  .inl (0, 12, .inl (a 13)),
  .inl (5, 30, .inr (.inr (.inr (.inr W)))),
  .inr (4, [.ref 16, .ref 17, .ref 18, .int (i 15)]),
  .inl (0, 805, .inl (a 16)),
  .inl (0, 805, .inl (a 17)),
  .inl (0, 805, .inl (a 18)),
  .inr (6, [.long (j 0), .long (j 1)]),
  .inr (0, [.int (i 20), .ref 21, .ref 22, .int (i 21), .int (i 22)]),
  .inl (0, 8, .inl (a 21)),
  .inl (0, 7, .inl (a 22)),
  .inr (0, [.int (i 23), .ref 24, .ref 25, .int (i 24), .int (i 25)]),
  .inl (0, 8, .inl (a 24)),
  .inl (0, 7, .inl (a 25)),
  .inr (0, [.int (i 26), .ref 27, .ref 28, .int (i 27), .int (i 28)]),
  .inl (0, 8, .inl (a 27)),
  .inl (0, 7, .inl (a 28)),
  .inr (0, [.int (i 29), .ref 30, .ref 31, .int (i 30), .int (i 31)]),
  .inl (0, 8, .inl (a 30)),
  .inl (0, 7, .inl (a 31)),
  .inr (0, [.int (i 32), .ref 33, .ref 34, .int (i 33), .int (i 34)]),
  .inl (0, 8, .inl (a 33)),
  .inl (0, 7, .inl (a 34)),
  .inr (0, [.int (i 35), .ref 36, .ref 37, .int (i 36), .int (i 37)]),
  .inl (0, 8, .inl (a 36)),
  .inl (0, 7, .inl (a 37)),
  .inr (3, [.ref 39, .ref 40]),
  .inl (0, 5, .inl (a 39)),
  .inl (0, 5, .inl (a 40)),
  .inr (3, [.ref 42, .ref 43]),
  .inl (0, 5, .inl (a 42)),
  .inl (0, 5, .inl (a 43)),
  .inr (3, [.ref 45, .ref 46]),
  .inl (0, 5, .inl (a 45)),
  .inl (0, 5, .inl (a 46)),
  .inr (3, [.ref 48, .ref 49]),
  .inl (0, 5, .inl (a 48)),
  .inl (0, 5, .inl (a 49)),
  .inr (3, [.ref 51, .ref 52]),
  .inl (0, 5, .inl (a 51)),
  .inl (0, 5, .inl (a 52)),
  .inr (3, [.ref 54, .ref 55]),
  .inl (0, 5, .inl (a 54)),
  .inl (0, 5, .inl (a 55)),
  .inr (3, [.ref 57, .ref 58]),
  .inl (0, 5, .inl (a 57)),
  .inl (0, 5, .inl (a 58)),
  .inr (3, [.ref 60, .ref 61]),
  .inl (0, 5, .inl (a 60)),
  .inl (0, 5, .inl (a 61)),
  .inr (7, [.ref (20 + 3 * g), .int (i 62), .ref 63, .ref 67, .ref 68, .int (i 67), .ref 69]),
  .inr (1, [.ref 64, .ref 65, .ref 66, .int (i 63)]),
  .inl (0, 400, .inl (a 64)),
  .inl (0, 400, .inl (a 65)),
  .inl (0, 400, .inl (a 66)),
  .inl (0, 20, .inl (a 67)),
  .inl (0, 20, .inl (a 68)),
  .inl (6, 5, .inr (.inr (.inr (.inr saf)))),
  .inl (2, 36, .inr (.inl (b 70))),
  .inl (2, 36, .inr (.inl (b 71))),
  .inl (2, 36, .inr (.inl (b 72))),
  .inl (2, 36, .inr (.inl (b 73))),
  .inl (2, 36, .inr (.inl (b 74)))]
def lset (l : List am_C) : List Nat → List am_C → List am_C
  | p :: ps, c :: cs => (lset l ps cs).set p c
  | _, _ => l
theorem lset_len (l : List am_C) : ∀ (Ps : List Nat) (cs : List am_C), (lset l Ps cs).length = l.length
  | [], _ => rfl
  | _ :: _, [] => rfl
  | p :: ps, c :: cs => by show ((lset l ps cs).set p c).length = _; rw [List.length_set]; exact lset_len l ps cs
theorem am_ov_L (l : List am_C) : ∀ (Ps : List Nat) (cs : List am_C), (∀ p ∈ Ps, p < l.length) → am_ov (am_L l) Ps cs = am_L (lset l Ps cs)
  | [], _, _ => rfl
  | _ :: _, [], _ => rfl
  | p :: ps, c :: cs, h => by
    show am_w (am_ov (am_L l) ps cs) p c = am_L ((lset l ps cs).set p c)
    rw [am_ov_L l ps cs (fun q hq => h q (List.mem_cons_of_mem _ hq)), am_w_L (by rw [lset_len]; exact h p List.mem_cons_self)]
/-- a run on a few cells, in a list that holds them -/
theorem lift_L {E : am_E} {d : Nat} {τ : am_T} {as : List Value} {cs cs' : List am_C} {v : Option Value} (h : am_D E d τ as (am_L cs) 0 0 v (am_L cs')) {l l' : List am_C} (Ps : List Nat) (hn : Ps.Nodup) (hl : Ps.length = cs.length) (hlen : l.length ≤ 1000) (hcl : cs.length ≤ 1000) (hlt : ∀ p ∈ Ps, p < l.length) (hG : ∀ j, j < cs.length → l[Ps.getD j 0]? = (cs[j]?).map (am_rc (am_ro Ps))) (hr : lset l Ps (cs'.map (am_rc (am_ro Ps))) = l') : am_D E d τ (am_rS (am_ro Ps) as) (am_L l) 0 0 (v.map (am_rv (am_ro Ps))) (am_L l') := by
  have h2 := am_lift h hn hl (G := am_L l) (fun j p x h1 hx => by
    have hj : j < cs.length := (List.getElem?_eq_some_iff.mp hx).1
    have h3 := hG j hj
    have h4 : Ps.getD j 0 = p := by rw [List.getD_eq_getElem?_getD, h1]; rfl
    rw [h4, hx] at h3
    exact h3) (fun k h1 _ => List.getElem?_eq_none (by unfold am_X at h1; omega)) (by unfold am_X; omega)
  rw [am_ov_L l Ps _ hlt, hr] at h2
  exact h2
section XW
variable {E : am_E} {d : Nat} {i : Nat → Int32} {j : Nat → Int64} {a : Nat → Nat → Int32} {b : Nat → Nat → Int64} {W : Nat → Option Nat} {g : Nat}
theorem xw_len : (xw i j a b W g).length = 75 := rfl
/-- four cells in their places -/
theorem lift_mk {τ : am_T} {as : List Value} {v : Option Value} {z : Int32} {T S R : Nat → Int32} (h : am_D E d τ as (am_L (mk (i 63) (a 64) (a 65) (a 66))) 0 0 v (am_L (mk z T S R))) : am_D E d τ (am_rS (am_ro [63, 64, 65, 66]) as) (am_L (xw i j a b W g)) 0 0 (v.map (am_rv (am_ro [63, 64, 65, 66]))) (am_L (xw (va_up i 63 z) j (va_up (va_up (va_up a 64 T) 65 S) 66 R) b W g)) := by
  refine lift_L h [63, 64, 65, 66] (by decide) rfl (Nat.le_of_ble_eq_true rfl) (Nat.le_of_ble_eq_true rfl) (by show ∀ p ∈ _, p < 75; decide) (fun k hk => ?_) rfl
  have hk : k < 4 := hk
  rcases (show k = 0 ∨ k = 1 ∨ k = 2 ∨ k = 3 by omega) with e | e | e | e <;> subst e <;> rfl
theorem lift_ra {τ : am_T} {as : List Value} {v : Option Value} {z : Int32} {T S R : Nat → Int32} (h : am_D E d τ as (am_L (ra (i 4) (a 5) (a 6) (a 7))) 0 0 v (am_L (ra z T S R))) : am_D E d τ (am_rS (am_ro [4, 5, 6, 7]) as) (am_L (xw i j a b W g)) 0 0 (v.map (am_rv (am_ro [4, 5, 6, 7]))) (am_L (xw (va_up i 4 z) j (va_up (va_up (va_up a 5 T) 6 S) 7 R) b W g)) := by
  refine lift_L h [4, 5, 6, 7] (by decide) rfl (Nat.le_of_ble_eq_true rfl) (Nat.le_of_ble_eq_true rfl) (by show ∀ p ∈ _, p < 75; decide) (fun k hk => ?_) rfl
  have hk : k < 4 := hk
  rcases (show k = 0 ∨ k = 1 ∨ k = 2 ∨ k = 3 by omega) with e | e | e | e <;> subst e <;> rfl
theorem lift_su {τ : am_T} {as : List Value} {v : Option Value} {z : Int32} {K F T P X : Nat → Int32} (h : am_D E d τ as (am_L (su (i 8) (a 9) (a 10) (a 11) (a 12) (a 13))) 0 0 v (am_L (su z K F T P X))) : am_D E d τ (am_rS (am_ro [8, 9, 10, 11, 12, 13]) as) (am_L (xw i j a b W g)) 0 0 (v.map (am_rv (am_ro [8, 9, 10, 11, 12, 13]))) (am_L (xw (va_up i 8 z) j (va_up (va_up (va_up (va_up (va_up a 9 K) 10 F) 11 T) 12 P) 13 X) b W g)) := by
  refine lift_L h [8, 9, 10, 11, 12, 13] (by decide) rfl (Nat.le_of_ble_eq_true rfl) (Nat.le_of_ble_eq_true rfl) (by show ∀ p ∈ _, p < 75; decide) (fun k hk => ?_) rfl
  have hk : k < 6 := hk
  rcases (show k = 0 ∨ k = 1 ∨ k = 2 ∨ k = 3 ∨ k = 4 ∨ k = 5 by omega) with e | e | e | e | e | e <;> subst e <;> rfl
theorem lift_sh {τ : am_T} {as : List Value} {v : Option Value} {z : Int32} {F T C : Nat → Int32} (h : am_D E d τ as (am_L (sf (i 15) (a 16) (a 17) (a 18) [])) 0 0 v (am_L (sf z F T C []))) : am_D E d τ (am_rS (am_ro [15, 16, 17, 18]) as) (am_L (xw i j a b W g)) 0 0 (v.map (am_rv (am_ro [15, 16, 17, 18]))) (am_L (xw (va_up i 15 z) j (va_up (va_up (va_up a 16 F) 17 T) 18 C) b W g)) := by
  refine lift_L h [15, 16, 17, 18] (by decide) rfl (Nat.le_of_ble_eq_true rfl) (Nat.le_of_ble_eq_true rfl) (by show ∀ p ∈ _, p < 75; decide) (fun k hk => ?_) rfl
  have hk : k < 4 := hk
  rcases (show k = 0 ∨ k = 1 ∨ k = 2 ∨ k = 3 by omega) with e | e | e | e <;> subst e <;> rfl
/-- the sheet, the marks, and the rules of kind kd -/
theorem lift_sf {kd : Nat} (hk8 : kd < 8) {τ : am_T} {as : List Value} {v : Option Value} {z : Int32} {F T C : Nat → Int32} (h : am_D E d τ as (am_L (sf (i 15) (a 16) (a 17) (a 18) (XM (i 63) (a 64) (a 65) (a 66) (a (39 + 3 * kd)) (a (40 + 3 * kd))))) 0 0 v (am_L (sf z F T C (XM (i 63) (a 64) (a 65) (a 66) (a (39 + 3 * kd)) (a (40 + 3 * kd)))))) : am_D E d τ (am_rS (am_ro [15, 16, 17, 18, 63, 64, 65, 66, 38 + 3 * kd, 39 + 3 * kd, 40 + 3 * kd]) as) (am_L (xw i j a b W g)) 0 0 (v.map (am_rv (am_ro [15, 16, 17, 18, 63, 64, 65, 66, 38 + 3 * kd, 39 + 3 * kd, 40 + 3 * kd]))) (am_L (xw (va_up i 15 z) j (va_up (va_up (va_up a 16 F) 17 T) 18 C) b W g)) := by
  rcases (show kd = 0 ∨ kd = 1 ∨ kd = 2 ∨ kd = 3 ∨ kd = 4 ∨ kd = 5 ∨ kd = 6 ∨ kd = 7 by omega) with e | e | e | e | e | e | e | e <;> subst e <;> (
    refine lift_L h _ (by decide) rfl (Nat.le_of_ble_eq_true rfl) (Nat.le_of_ble_eq_true rfl) (by show ∀ p ∈ _, p < 75; decide) (fun k hk => ?_) rfl
    have hk : k < 11 := hk
    rcases (show k = 0 ∨ k = 1 ∨ k = 2 ∨ k = 3 ∨ k = 4 ∨ k = 5 ∨ k = 6 ∨ k = 7 ∨ k = 8 ∨ k = 9 ∨ k = 10 by omega) with e | e | e | e | e | e | e | e | e | e | e <;> subst e <;> rfl)
end XW
