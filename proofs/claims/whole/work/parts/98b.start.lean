/-! The start: both objects new. -/
section ST
variable {E : am_E} {d : Nat} {P : Option Value → am_M → Prop}
def z0 : Nat → Int32 := fun _ => 0
def zj0 : Nat → Int64 := fun _ => 0
def zA0 : Nat → Nat → Int32 := va_up (fun _ _ => 0) 3 r30
def zb0 : Nat → Nat → Int64 := fun _ _ => 0
def G00 : am_M := am_K am_M0 (xo i0 (fun _ => 0) a0 (Wf 0) ++ (mo z0 zj0 zA0 zb0).map (am_rc r9))
theorem le0_0 {N : Nat} : le0 (0 : Int32) N := ⟨by decide, Nat.zero_le N⟩
theorem r30_01 (m : Nat) : r30 m = 0 ∨ r30 m = 1 := by
  unfold r30 upd
  repeat' split
  all_goals first
    | exact Or.inr rfl
    | exact Or.inl rfl
theorem r30_5 {k : Nat} (hk : k < 8) : r30 (5 * k) = 1 := by
  rcases (show k = 0 ∨ k = 1 ∨ k = 2 ∨ k = 3 ∨ k = 4 ∨ k = 5 ∨ k = 6 ∨ k = 7 by omega) with e | e | e | e | e | e | e | e <;> subst e <;> rfl
theorem r30_n {k q : Nat} (hk : k < 8) (hq : q < 5) (h0 : q ≠ 0) : r30 (5 * k + q) = 0 := by
  unfold r30 upd
  rw [if_neg (by omega), if_neg (by omega), if_neg (by omega), if_neg (by omega), if_neg (by omega), if_neg (by omega), if_neg (by omega), if_neg (by omega)]
theorem zA_3 : zA0 3 = r30 := rfl
theorem zA_o {p : Nat} (h : p ≠ 3) : zA0 p = fun _ => 0 := by unfold zA0; rw [va_n h]
theorem zA_n {w : Nat} : nA zA0 w = 0 := by unfold nA; rw [zA_o (by decide)]; rfl
theorem inv0 : INV z0 zA0 := by
  have e : ∀ {p : Nat} {k N : Nat}, p ≠ 3 → le0 (zA0 p k) N := fun h => by rw [zA_o h]; exact le0_0
  have z : ∀ {N k : Nat}, le0 (z0 k) N := le0_0
  have c0 : ∀ k, cl (z0 k) = 0 := fun k => rfl
  refine ⟨fun k _ => e (by decide), fun k q _ _ => ?_, fun k q _ _ => e (by decide), fun k hk => ?_, z, fun k hk => absurd hk (Nat.not_lt_zero k), z, fun k hk => absurd hk (Nat.not_lt_zero k), fun k _ => e (by decide), fun g _ => ?_, z, fun w _ => e (by decide), fun w _ => e (by decide), fun w _ => e (by decide), fun w hw => ?_, ?_, z⟩
  · rw [zA_3]
    rcases r30_01 (5 * k + q) with y | y <;> rw [y]
    · exact le0_0
    · exact ⟨by decide, by decide⟩
  · rw [zA_3, r30_5 hk]
    decide
  · rw [zA_o (by decide), zA_o (by decide)]
    show -100000 ≤ (0 : Int32).toInt ∧ (0 : Int32).toInt ≤ (0 : Int32).toInt ∧ (0 : Int32).toInt ≤ 100000
    decide
  · rw [zA_n]
    refine ⟨hw, Nat.zero_le _, ?_, fun k hk => absurd hk (Nat.not_lt_zero k), fun k hk => absurd hk (Nat.not_lt_zero k), fun k hk => absurd hk (Nat.not_lt_zero k), fun k hk => absurd hk (Nat.not_lt_zero k), fun q k _ hk => absurd hk (Nat.not_lt_zero k)⟩
    rw [zA_o (by decide)]
    rfl
  · have e0 : fb_sm (nA zA0) 30 = 0 := by rw [show nA zA0 = fun _ => 0 from funext fun w => zA_n]; rfl
    rw [e0]
    exact ⟨rfl, Nat.zero_le _⟩
theorem cx0 : CX i0 a0 z0 zA0 := by
  refine ⟨rfl, rfl, rfl, rfl, rfl, rfl, fun g hg => ?_, fun g k hg hk => ?_, fun g k hg hk => ?_, fun k _ => ?_, fun k q hk hq => ?_, fun k hk => absurd hk (Nat.not_lt_zero k), fun k hk => absurd hk (Nat.not_lt_zero k), fun s _ => ?_⟩
  · rw [zA_o (by decide), zA_o (by decide)]
    rcases (show g = 0 ∨ g = 1 ∨ g = 2 ∨ g = 3 ∨ g = 4 ∨ g = 5 by omega) with e | e | e | e | e | e <;> subst e <;> exact ⟨rfl, rfl, rfl⟩
  · rw [zA_o (by decide)]
    rcases (show g = 0 ∨ g = 1 ∨ g = 2 ∨ g = 3 ∨ g = 4 ∨ g = 5 by omega) with e | e | e | e | e | e <;> subst e <;> rfl
  · rw [zA_o (by decide)]
    rcases (show g = 0 ∨ g = 1 ∨ g = 2 ∨ g = 3 ∨ g = 4 ∨ g = 5 by omega) with e | e | e | e | e | e <;> subst e <;> rfl
  · rw [zA_o (by decide)]; rfl
  · rw [zA_3, zA_o (by decide)]
    have e39 : a0 (39 + 3 * k) = upd (fun _ => 0) 0 1 ∧ a0 (40 + 3 * k) = fun _ => 0 := by
      rcases (show k = 0 ∨ k = 1 ∨ k = 2 ∨ k = 3 ∨ k = 4 ∨ k = 5 ∨ k = 6 ∨ k = 7 by omega) with e | e | e | e | e | e | e | e <;> subst e <;> exact ⟨rfl, rfl⟩
    rw [e39.1, e39.2]
    refine ⟨?_, rfl⟩
    by_cases y : q = 0
    · subst y
      rw [Nat.add_zero, r30_5 hk]
      rfl
    · rw [r30_n hk hq y]
      unfold upd
      rw [if_neg y]
  · rw [zA_o (by decide)]
    refine ⟨rfl, by show (0 : Nat) < 4096; decide, fun t _ => ?_⟩
    show (0 : Nat).testBit t = decide (¬ (0 : Int32) = 0)
    rw [Nat.zero_testBit]
    rfl
theorem start_fm : FM G00 z0 zA0 zb0 z0 zj0 zA0 zb0 := by
  refine ⟨inv0, ⟨i0, fun _ => 0, a0, cx0, fun k x hk => ?_⟩, fun q hq => absurd hq (Nat.not_lt_zero q), fun k y hk => ?_, rfl, fun k hk => ?_, fun o _ _ => ?_⟩
  · have k62 : k < 62 := (List.getElem?_eq_some_iff.mp hk).1
    unfold G00
    rw [show 0 + k = am_M0.1 + k from rfl, K_at, List.getElem?_append_left k62]
    exact hk
  · unfold G00
    rw [show 62 + k = am_M0.1 + (62 + k) from (Nat.zero_add _).symm, K_at, List.getElem?_append_right (show 62 ≤ 62 + k by omega)]
    show ((mo z0 zj0 zA0 zb0).map (am_rc r9))[62 + k - 62]? = _
    rw [Nat.add_sub_cancel_left]
    exact hk
  · exact K_o (show 99 ≤ k from hk)
  · refine ⟨fun _ => 0, fun _ _ => 0, ⟨?_, ?_, ?_, ?_, ?_, ?_, ?_, fun m _ => ⟨rfl, rfl, rfl, rfl, rfl⟩⟩, rfl, rfl⟩
    · rw [zA_o (by decide)]
    · rw [zA_o (by decide)]
    · rw [zA_o (by decide)]
    · rw [zA_n]; exact fun k hk => absurd hk (Nat.not_lt_zero k)
    · rw [zA_n]; exact fun k hk => absurd hk (Nat.not_lt_zero k)
    · rw [zA_n]; exact fun k hk => absurd hk (Nat.not_lt_zero k)
    · rw [zA_o (by decide)]; exact fun k hk => absurd hk (Nat.not_lt_zero k)
theorem l_start (kk : am_ev E (d + 63) tL_law (18, [some (.ref am_X), some (.ref 0), some (.ref 62), some (.int (nI 0))], [], G00, 599898, 7258536) P) : am_ev E (d + 63) tL_law (0, am_in [.ref am_X] 4, [], am_M0, 600000, 7302250) P := by
  refine ev_M (K_nil (M := am_M0) (fun k _ => rfl)).symm ?_
  refine k_new rfl rfl (Nat.le_of_ble_eq_true rfl) (Nat.le_of_ble_eq_true rfl) (Nat.le_of_ble_eq_true rfl) ?_
  refine ev_go 4 rfl trivial ?_
  refine ev_callb rfl (Nat.le_of_ble_eq_true rfl) (fun z => by cases z) (k_class (d := d + 61)) (Nat.le_of_ble_eq_true rfl) (Nat.le_of_ble_eq_true rfl) ?_
  refine ev_go 8 rfl trivial ?_
  refine k_new rfl rfl (Nat.le_of_ble_eq_true rfl) (Nat.le_of_ble_eq_true rfl) (Nat.le_of_ble_eq_true rfl) ?_
  refine ev_go 12 rfl trivial ?_
  refine k_ctor rfl (Nat.le_of_ble_eq_true rfl) (by decide) (k_ref (d := d + 62) (M := am_K am_M0 (xo i0 (fun _ => 0) a0 (Wf 0))) (Nat.le_of_ble_eq_true rfl)) (Nat.le_of_ble_eq_true rfl) (Nat.le_of_ble_eq_true rfl) ?_
  refine ev_go 18 rfl trivial ?_
  exact kk
end ST
