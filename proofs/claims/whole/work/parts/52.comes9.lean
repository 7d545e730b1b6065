/-! Marks come to the reference. -/
/-- what is booked for the first open month, with a sign -/
def bookA (i : Nat → Int32) (a : Nat → Nat → Int32) (b : Nat → Nat → Int64) (w : Nat) (sg : Int64) : Nat → Nat → Int64 :=
  va_up (va_up b 35 (vp_updL (b 35) (36 * w + cl (i 39)) (b 35 (36 * w + cl (i 39)) + sg * lN (dSum (tA a w) (rolA a w) (paidA a w) 0 (mday (cl (i 39))) (nA a w)))))
    36 (vp_updL (b 36) (36 * w + cl (i 39)) (b 36 (36 * w + cl (i 39)) + sg * lN (dSum (tA a w) (rolA a w) (centA i a w) 0 (mday (cl (i 39))) (nA a w))))
theorem updL_same {f : Nat → Int64} {k : Nat} {x : Int64} (h : f k = x) : vp_updL f k x = f := by
  funext q
  unfold vp_updL
  by_cases z : q = k
  · rw [if_pos z, z, h]
  · rw [if_neg z]
theorem dSum_none {t r V : Nat → Nat} (n : Nat) : dSum t r V 0 0 n = 0 := by
  unfold dSum
  have : ∀ k, k < n → (if fsD t r k = true ∧ 0 ≤ t k / 1440 ∧ t k / 1440 < 0 then V (t k / 1440) else 0) = (fun _ => 0) k := fun k _ => if_neg (fun z => by omega)
  rw [fb_sm_cong this, fb_sm_const]
  omega
theorem bookA_0 {i : Nat → Int32} {a : Nat → Nat → Int32} {b : Nat → Nat → Int64} {w : Nat} {sg : Int64} (h : cl (i 39) = 0) : bookA i a b w sg = b := by
  unfold bookA
  rw [h, show mday 0 = 0 from rfl, dSum_none, dSum_none, show sg * lN 0 = 0 from Int64.mul_zero, Int64.add_zero, Int64.add_zero, updL_same rfl, updL_same rfl, va_id, va_id]
/-- does a mark stand at time x -/
def atA (a : Nat → Nat → Int32) (w : Nat) (x : Int32) : Nat := fa_first (fun k => decide (x ≤ a 22 (400 * w + k))) (nA a w)
def stA (a : Nat → Nat → Int32) (w : Nat) (x : Int32) : Bool := decide (atA a w x < nA a w) && decide (a 22 (400 * w + atA a w x) = x)
section C9
variable {E : am_E} {d : Nat} {i : Nat → Int32} {j : Nat → Int64} {a : Nat → Nat → Int32} {b : Nat → Nat → Int64}
theorem x9_book {w : Nat} {sg : Int64} (hI : INV i a) (hw : w < 30) (hc : cl (i 39) < 36) : ∃ i' j' a', Scr i i' a a' ∧ am_D E (d + 10) tX9_book [.ref 0, .int (nI w), .long sg] (am_L (mo i j a b)) 0 0 none (am_L (mo i' j' a' (bookA i a b w sg))) := by
  have h39 := hI.c39.1
  obtain ⟨c, hcd⟩ : ∃ c, c = cl (i 39) := ⟨_, rfl⟩
  rcases Nat.eq_zero_or_pos (cl (i 39)) with z | z
  · refine ⟨i, j, a, Scr.rf, ?_⟩
    rw [bookA_0 z]
    refine am_D_of (Nat.le_of_ble_eq_true rfl) ?_
    refine ev_go 999 rfl trivial ?_
    refine ev_neg (by show ¬ ¬ i 39 = 0; rw [h39, z]; decide) ?_
    exact ev_ret rfl trivial ⟨rfl, rfl⟩
  · obtain ⟨i1, a1, sc1, pd1, hD1⟩ := x9_pairA (E := E) (d := d + 8) (i := i) (j := j) (a := a) (b := b) hI hw
    have hmb := mday_b (m := cl (i 39)) (by omega)
    obtain ⟨i2, a2, sc2, pd2, hD2⟩ := x9_sumDays (E := E) (d := d + 5) (i := i1) (j := j) (a := a1) (b := b) (w := w) (lo := 0) (hi := mday (cl (i 39))) (sc1.inv hI) hw (by rw [sc1.n, sc1.t, sc1.s]; exact pd1) (by omega) (by omega)
    rw [sc1.n, sc1.t, sc1.r, sc1.paidF, sc1.centF] at hD2
    obtain ⟨SP, hSP⟩ : ∃ SP, SP = dSum (tA a w) (rolA a w) (paidA a w) 0 (mday (cl (i 39))) (nA a w) := ⟨_, rfl⟩
    obtain ⟨SC, hSC⟩ : ∃ SC, SC = dSum (tA a w) (rolA a w) (centA i a w) 0 (mday (cl (i 39))) (nA a w) := ⟨_, rfl⟩
    obtain ⟨j2, hj2⟩ : ∃ j2, j2 = va_up (va_up j 45 (lN SP)) 46 (lN SC) := ⟨_, rfl⟩
    unfold bookA
    rw [← hSP, ← hSC]
    rw [← hSP, ← hSC, ← hj2] at hD2
    rw [← hcd] at hD2 hc z h39 ⊢
    have e1 : i1 39 = nI c := by rw [sc1.2 39 (by decide) (by decide), h39]
    have e2 : i2 39 = nI c := by rw [sc2.2 39 (by decide) (by decide), e1]
    have sc := sc1.tr sc2
    refine ⟨i2, j2, a2, sc, ?_⟩
    have ex : nI 36 * nI w + i2 39 = nI (36 * w + c) := by rw [e2, pk_mul, nI_add]
    have vx : vp_in (nI 36 * nI w + i2 39) 1080 := by rw [ex]; exact vp_in_nI (by omega) (by omega)
    have cx : (nI 36 * nI w + i2 39).toNatClampNeg = 36 * w + c := by rw [ex]; exact nI_clamp (by omega)
    have j45 : j2 45 = lN SP := by rw [hj2, va_n (by decide), va_s]
    have j46 : j2 46 = lN SC := by rw [hj2, va_s]
    have hfd := x9_firstDay (E := E) (d := d + 7) (M := am_L (mo i1 j a1 b)) (m := c) (by omega)
    rw [← e1] at hfd
    refine am_D_of (Nat.le_of_ble_eq_true rfl) ?_
    refine ev_go 999 rfl trivial ?_
    refine ev_pos (by show ¬ i 39 = 0; rw [h39]; exact nI_ne0 (by omega) (by omega)) ?_
    refine ev_go 999 rfl trivial ?_
    refine ev_call0 rfl (Nat.le_of_ble_eq_true rfl) (fun _ => ⟨_, _, _, rfl, rfl⟩) hD1 ?_
    refine ev_go 999 rfl trivial ?_
    refine ev_call0 rfl (Nat.le_of_ble_eq_true rfl) (fun z => by cases z) hfd ?_
    refine ev_go 999 rfl trivial ?_
    refine ev_call0 rfl (Nat.le_of_ble_eq_true rfl) (fun _ => ⟨_, _, _, rfl, rfl⟩) hD2 ?_
    refine ev_go 49 rfl ⟨vx, vx, trivial⟩ ?_
    refine ev_M (mo_b35 _) ?_
    refine ev_go 72 rfl ⟨vx, vx, trivial⟩ ?_
    refine ev_M (mo_b36 _) ?_
    refine ev_ret rfl trivial ⟨rfl, ?_⟩
    show am_L (mo i2 j2 a2 (va_up (va_up b 35 (vp_updL (b 35) (nI 36 * nI w + i2 39).toNatClampNeg (b 35 (nI 36 * nI w + i2 39).toNatClampNeg + sg * j2 45))) 36 (vp_updL (va_up b 35 (vp_updL (b 35) (nI 36 * nI w + i2 39).toNatClampNeg (b 35 (nI 36 * nI w + i2 39).toNatClampNeg + sg * j2 45)) 36) (nI 36 * nI w + i2 39).toNatClampNeg (va_up b 35 (vp_updL (b 35) (nI 36 * nI w + i2 39).toNatClampNeg (b 35 (nI 36 * nI w + i2 39).toNatClampNeg + sg * j2 45)) 36 (nI 36 * nI w + i2 39).toNatClampNeg + sg * j2 46)))) = _
    rw [cx, j45, j46, va_n (show (36 : Nat) ≠ 35 by decide)]
theorem x9_isMark {w k : Nat} {x : Int32} (hI : INV i a) (hw : w < 30) (hk : k ≤ nA a w) : am_D E (d + 1) tX9_isMark [.ref 0, .int (nI w), .int (nI k), .int x] (am_L (mo i j a b)) 0 0 (some (.int (bI (decide (k < nA a w) && decide (a 22 (400 * w + k) = x))))) (am_L (mo i j a b)) := by
  have hm := hI.wm w hw
  have n4 := hm.n4
  have vw : vp_in (nI w) 30 := vp_in_nI hw (by omega)
  have cw : (nI w).toNatClampNeg = w := nI_clamp (by omega)
  have ex : nI 400 * nI w + nI k = nI (400 * w + k) := by rw [pk_mul, nI_add]
  refine am_D_of (Nat.le_of_ble_eq_true rfl) ?_
  refine ev_go 999 rfl ⟨vw, trivial⟩ ?_
  by_cases z : k < nA a w
  · rw [decide_eq_true z, Bool.true_and]
    refine ev_neg (by show ¬ a 21 (nI w).toNatClampNeg ≤ nI k; rw [cw, hm.h21]; exact nI_ge z (by omega)) ?_
    refine ev_go 999 rfl ⟨by show vp_in (nI 400 * nI w + nI k) 12000; rw [ex]; exact vp_in_nI (by omega) (by omega), trivial⟩ ?_
    refine ev_if (fun h => ?_) (fun h => ?_)
    · have h : ¬ a 22 (nI 400 * nI w + nI k).toNatClampNeg = x := h
      rw [ex, nI_clamp (by omega)] at h
      rw [decide_eq_false h]
      refine ev_go 999 rfl trivial ?_
      exact ev_ret rfl ⟨Or.inl rfl, trivial⟩ ⟨rfl, rfl⟩
    · have h : ¬ ¬ a 22 (nI 400 * nI w + nI k).toNatClampNeg = x := h
      rw [ex, nI_clamp (by omega)] at h
      rw [decide_eq_true (Classical.not_not.mp h)]
      refine ev_go 999 rfl trivial ?_
      refine ev_go 999 rfl trivial ?_
      exact ev_ret rfl ⟨Or.inr rfl, trivial⟩ ⟨rfl, rfl⟩
  · rw [decide_eq_false z, Bool.false_and]
    refine ev_pos (by show a 21 (nI w).toNatClampNeg ≤ nI k; rw [cw, hm.h21]; exact nI_le (by omega) (by omega)) ?_
    refine ev_go 999 rfl trivial ?_
    exact ev_ret rfl ⟨Or.inl rfl, trivial⟩ ⟨rfl, rfl⟩
theorem atA_le {w : Nat} {x : Int32} : atA a w x ≤ nA a w := fa_first_le _ _
theorem x9_markAtA {w : Nat} {x : Int32} (hI : INV i a) (hw : w < 30) : am_D E (d + 1) tX9_markAt [.ref 0, .int (nI w), .int x] (am_L (mo i j a b)) 0 0 (some (.int (nI (atA a w x)))) (am_L (mo i j a b)) := x9_markAt hw (hI.wm w hw).n4 (hI.wm w hw).h21
theorem x9_isMarkA {w : Nat} {x : Int32} (hI : INV i a) (hw : w < 30) : am_D E (d + 1) tX9_isMark [.ref 0, .int (nI w), .int (nI (atA a w x)), .int x] (am_L (mo i j a b)) 0 0 (some (.int (bI (stA a w x)))) (am_L (mo i j a b)) := x9_isMark hI hw atA_le
end C9
