/-! The class's months. -/
def bkS (f : Nat → Int64) (o : Nat) : Nat → Int64
  | 0 => 0
  | k + 1 => bkS f o k + f (o + k)
def fxB (ri : Nat → Int32) (rb : Nat → Nat → Int64) (w : Nat) : Int64 := if cl (ri 39) = 0 then 0 else rb 34 (36 * w + (cl (ri 39) - 1))
theorem dSum_nil {t r V : Nat → Nat} {lo : Nat} (n : Nat) : dSum t r V lo lo n = 0 := by
  unfold dSum
  have : ∀ k, k < n → (if fsD t r k = true ∧ lo ≤ t k / 1440 ∧ t k / 1440 < lo then V (t k / 1440) else 0) = (fun _ => 0) k := fun k _ => if_neg (fun z => by omega)
  rw [fb_sm_cong this, fb_sm_const]
  omega
theorem dueS_add (a : Nat → Nat → Int32) (w lo x y : Nat) : dueS a w lo (x + y) = dueS a w lo x + dueS a w (lo + x) y := by
  unfold dueS
  rw [fb_sm_split]
  congr 1
  exact fb_sm_cong (fun q _ => by rw [Nat.add_assoc])
theorem FX_c {ri : Nat → Int32} {rA : Nat → Nat → Int32} {rb : Nat → Nat → Int64} {w : Nat} : ∀ k, FX ri rA rb w k = fxB ri rb w + bkS (rb 35) (36 * w + cl (ri 39)) k - lN (dueS rA w (mday (cl (ri 39))) (mday (cl (ri 39) + k) - mday (cl (ri 39)))) + lN (dSum (tA rA w) (rolA rA w) (paidA rA w) (mday (cl (ri 39))) (mday (cl (ri 39) + k)) (nA rA w))
  | 0 => by
    rw [Nat.add_zero, Nat.sub_self, dSum_nil]
    show fxB ri rb w = fxB ri rb w + 0 - lN 0 + lN 0
    rw [show lN 0 = 0 from rfl, Int64.add_zero, Int64.sub_zero, Int64.add_zero]
  | k + 1 => by
    have ih := FX_c (ri := ri) (rA := rA) (rb := rb) (w := w) k
    obtain ⟨c, hc⟩ : ∃ c, c = cl (ri 39) := ⟨_, rfl⟩
    unfold FX
    rw [ih, ← hc]
    have hm : mday (c + (k + 1)) = mday (c + k) + mlen (c + k) := rfl
    have hm1 : mday (c + k + 1) = mday (c + k) + mlen (c + k) := rfl
    have hle : mday c ≤ mday (c + k) := by
      rcases Nat.eq_zero_or_pos k with z | z
      · rw [z]; exact Nat.le_refl _
      · have := mday_lt (show c < c + k by omega); omega
    have hd : dueS rA w (mday c) (mday (c + (k + 1)) - mday c) = dueS rA w (mday c) (mday (c + k) - mday c) + dueS rA w (mday (c + k)) (mlen (c + k)) := by
      rw [hm, show mday (c + k) + mlen (c + k) - mday c = (mday (c + k) - mday c) + mlen (c + k) by omega, dueS_add, show mday c + (mday (c + k) - mday c) = mday (c + k) by omega]
    have hs : dSum (tA rA w) (rolA rA w) (paidA rA w) (mday c) (mday (c + (k + 1))) (nA rA w) = dSum (tA rA w) (rolA rA w) (paidA rA w) (mday c) (mday (c + k)) (nA rA w) + dSum (tA rA w) (rolA rA w) (paidA rA w) (mday (c + k)) (mday (c + k + 1)) (nA rA w) := by
      rw [dSum_add hle (by omega)]
      rfl
    rw [hd, hs, ← lN_add, ← lN_add, show bkS (rb 35) (36 * w + c) (k + 1) = bkS (rb 35) (36 * w + c) k + rb 35 (36 * w + (c + k)) by rw [← Nat.add_assoc]; rfl]
    simp only [Int64.sub_eq_add_neg, Int64.neg_add]
    ac_rfl
theorem clmp_eq {lo hi : Int32} (h : lo ≤ hi) (f : Int64) : (if (if f < hi.toInt64 then f else hi.toInt64) < lo.toInt64 then lo.toInt64 else (if f < hi.toInt64 then f else hi.toInt64)) = clmp lo hi f := by
  have hw : lo.toInt64 ≤ hi.toInt64 := (fa_wide_le lo hi).mpr h
  unfold clmp
  rw [fa_le64] at hw
  by_cases h1 : f < hi.toInt64
  · rw [if_pos h1]
    by_cases h2 : f < lo.toInt64
    · rw [if_pos h2, if_pos h2]
    · rw [if_neg h2, if_neg h2, if_neg (fun y => by rw [fa_lt64] at y h1; omega)]
  · rw [if_neg h1, if_neg (fun y => by rw [fa_lt64] at y; omega)]
    have h3 : ¬ f < lo.toInt64 := fun y => by rw [fa_lt64] at y h1; omega
    rw [if_neg h3]
    by_cases h4 : hi.toInt64 < f
    · rw [if_pos h4]
    · rw [if_neg h4]
      refine Int64.toInt_inj.mp ?_
      rw [fa_lt64] at h1 h4
      omega
section X8
variable {E : am_E} {d : Nat} {i ri : Nat → Int32} {j : Nat → Int64} {a rA : Nat → Nat → Int32} {b rb : Nat → Nat → Int64} {W : Nat → Option Nat} {g w : Nat}
theorem ms_v {q : Nat} (hE : E 3 = (37, fun j => am_MS.getD j 0)) (hq : q < 37) : vp_in (nI q) (E 3).1 ∧ (E 3).2 (nI q).toNatClampNeg = nI (mday q) := by
  rw [hE]
  refine ⟨vp_in_nI hq (by omega), ?_⟩
  rw [nI_clamp (by omega)]
  exact ms_day q hq
theorem x8_openFlex {m : Nat} (hE : E 3 = (37, fun j => am_MS.getD j 0)) (hw : w < 30) (hm : m < 36) (hcm : cl (ri 39) ≤ m) (hc : CX i a ri rA) (hcw : CW i a b rA rb w) (hI : INV ri rA) : ∃ i' j' a', Sx i i' a a' ∧ am_D E (d + 7) tX8_openFlex [.ref 0, .ref 62, .int (nI m)] (am_L (xw i j a b W (gA rA w))) 0 0 (some (.long (FX ri rA rb w (m + 1 - cl (ri 39))))) (am_L (xw i' j' a' b W (gA rA w))) := by
  obtain ⟨c, hcd⟩ : ∃ c, c = cl (ri 39) := ⟨_, rfl⟩
  have e3 : i 3 = nI c := by rw [hc.i3, hcd]; exact hI.c39.1
  have hmm : mday (m + 1) ≤ 1096 := by
    rcases Nat.lt_or_ge (m + 1) 36 with z | z
    · have := mday_lt z; rw [mday_36] at this; omega
    · rw [show m + 1 = 36 by omega, mday_36]; exact Nat.le_refl _
  have hmc : mday c ≤ mday (m + 1) := by have := mday_lt (show c < m + 1 by omega); omega
  obtain ⟨i1, a1, sx, hT⟩ := x8_tallyDays (E := E) (d := d) (i := i) (j := j) (a := a) (W := W) (lo := mday c) (hi := mday (m + 1)) hw (by omega) (by omega) hc hcw hI
  obtain ⟨SP, hSP⟩ : ∃ SP, SP = dSum (tA rA w) (rolA rA w) (paidA rA w) (mday c) (mday (m + 1)) (nA rA w) := ⟨_, rfl⟩
  obtain ⟨j1, hj1⟩ : ∃ j1, j1 = va_up (va_up j 0 (lN SP)) 1 (lN (dSum (tA rA w) (rolA rA w) (centA ri rA w) (mday c) (mday (m + 1)) (nA rA w))) := ⟨_, rfl⟩
  rw [← hSP, ← hj1] at hT
  have j0 : j1 0 = lN SP := by rw [hj1, va_n (by decide), va_s]
  refine ⟨i1, j1, a1, sx, ?_⟩
  rw [FX_c, ← hcd, show c + (m + 1 - c) = m + 1 by omega, ← hSP]
  obtain ⟨B0, hB0⟩ : ∃ B0, B0 = fxB ri rb w := ⟨_, rfl⟩
  obtain ⟨BK, hBK⟩ : ∃ BK : Nat → Int64, BK = bkS (rb 35) (36 * w + c) := ⟨_, rfl⟩
  obtain ⟨N, hN⟩ : ∃ N, N = mday (m + 1) - mday c := ⟨_, rfl⟩
  rw [← hB0, ← hBK, ← hN]
  obtain ⟨P, hP⟩ : ∃ P : Option Value → am_M → Prop, P = fun v' M'' => v' = some (.long (B0 + BK (m + 1 - c) - lN (dueS rA w (mday c) N) + lN SP)) ∧ M'' = am_L (xw i1 j1 a1 b W (gA rA w)) := ⟨_, rfl⟩
  have loop2 : ∀ n q, N - q = n → q ≤ N → am_ev E (d + 6) tX8_openFlex (78, [some (.ref 0), some (.ref 62), some (.int (nI m)), some (.long (B0 + BK (m + 1 - c) - lN (dueS rA w (mday c) q))), none, some (.int (nI (mday c))), some (.int (nI (mday (m + 1)))), some (.int (nI (mday c + q)))], [], am_L (xw i j a b W (gA rA w)), 0, 0) P := by
    intro n
    induction n with
    | zero =>
      intro q e1 e2
      have e : q = N := by omega
      rw [e]
      refine ev_go 999 rfl trivial ?_
      refine ev_pos (nI_le (by omega) (by omega)) ?_
      refine ev_go 999 rfl trivial ?_
      refine ev_call0 rfl (Nat.le_of_ble_eq_true rfl) (fun _ => ⟨_, _, _, rfl, rfl⟩) hT ?_
      refine ev_go 999 rfl trivial ?_
      refine ev_ret rfl trivial ?_
      rw [hP]
      refine ⟨?_, rfl⟩
      show some (Value.long (B0 + BK (m + 1 - c) - lN (dueS rA w (mday c) N) + j1 0)) = _
      rw [j0]
    | succ n ih =>
      intro q e1 e2
      have kk := ih (q + 1) (by omega) (by omega)
      have hdl := dueA_le hI (day := mday c + q) hw
      have hdd := x8_dueOf (E := E) (d := d + 4) (j := j) (W := W) (day := mday c + q) hw (by omega) hc hcw hI
      have e64 : B0 + BK (m + 1 - c) - lN (dueS rA w (mday c) (q + 1)) = B0 + BK (m + 1 - c) - lN (dueS rA w (mday c) q) - (nI (dueA rA w (mday c + q))).toInt64 := by
        rw [nI_l (by omega), show dueS rA w (mday c) (q + 1) = dueS rA w (mday c) q + dueA rA w (mday c + q) from rfl, ← lN_add, Int64.sub_sub]
      rw [e64, ← Nat.add_assoc, ← nI_1 (mday c + q)] at kk
      refine ev_go 999 rfl trivial ?_
      refine ev_neg (nI_ge (by omega) (by omega)) ?_
      refine ev_go 999 rfl trivial ?_
      refine ev_call0 rfl (Nat.le_of_ble_eq_true rfl) (fun _ => ⟨_, _, _, rfl, rfl⟩) hdd ?_
      refine ev_go 999 rfl trivial ?_
      exact kk
  have loop1 : ∀ n q, m + 1 - q = n → c ≤ q → q ≤ m + 1 → am_ev E (d + 6) tX8_openFlex (31, [some (.ref 0), some (.ref 62), some (.int (nI m)), some (.long (B0 + BK (q - c))), none, some (.int (nI q)), none, none], [], am_L (xw i j a b W (gA rA w)), 0, 0) P := by
    intro n
    induction n with
    | zero =>
      intro q e1 e2 e3'
      have e : q = m + 1 := by omega
      rw [e]
      obtain ⟨v1, v2⟩ := ms_v hE (q := c) (by omega)
      obtain ⟨v3, v4⟩ := ms_v hE (q := m + 1) (by omega)
      have k0 := loop2 N 0 (by omega) (Nat.zero_le _)
      rw [show dueS rA w (mday c) 0 = 0 from rfl, show lN 0 = 0 from rfl, Int64.sub_zero, Nat.add_zero (mday c), ← v2, ← v4, ← nI_1 m, ← e3] at k0
      rw [← e3] at v1
      rw [← nI_1 m] at v3
      refine ev_go 999 rfl trivial ?_
      refine ev_pos (nI_lt (by omega) (by omega)) ?_
      refine ev_go 78 rfl ⟨v1, v3, trivial⟩ ?_
      exact k0
    | succ n ih =>
      intro q e1 e2 e3'
      have kk := ih (q + 1) (by omega) (by omega) (by omega)
      have hb := (hcw.b q (by omega)).2.2.2.1
      have vq : vp_in (nI q) 36 := vp_in_nI (by omega) (by omega)
      have eb : b 73 (nI q).toNatClampNeg = rb 35 (36 * w + c + (q - c)) := by rw [nI_clamp (by omega), hb, show 36 * w + c + (q - c) = 36 * w + q by omega]
      have hbk : B0 + BK (q + 1 - c) = B0 + BK (q - c) + b 73 (nI q).toNatClampNeg := by
        rw [eb, show q + 1 - c = (q - c) + 1 by omega, hBK]
        show B0 + (bkS (rb 35) (36 * w + c) (q - c) + rb 35 (36 * w + c + (q - c))) = _
        rw [Int64.add_assoc]
      rw [hbk, ← nI_1 q] at kk
      refine ev_go 999 rfl trivial ?_
      refine ev_neg (nI_nlt (by omega) (by omega)) ?_
      refine ev_go 999 rfl trivial ?_
      refine ev_aa (v := .ref 73) rfl rfl (by omega) (by omega) (vp_in_nI (n := 3) (by omega) (by omega)) rfl ?_
      refine ev_go 999 rfl ⟨vq, trivial⟩ ?_
      exact kk
  have k0 := loop1 (m + 1 - c) c rfl (Nat.le_refl _) (by omega)
  rw [Nat.sub_self, hBK, show bkS (rb 35) (36 * w + c) 0 = 0 from rfl, Int64.add_zero, ← e3] at k0
  rw [hBK] at hP
  rw [← hBK] at hP
  refine am_D_of (Nat.le_of_ble_eq_true rfl) ?_
  rw [← hP]
  refine ev_go 999 rfl trivial ?_
  rcases Nat.eq_zero_or_pos c with z | z
  · refine ev_pos (by show i 3 ≤ 0; rw [e3, z]; decide) ?_
    have hB : B0 = 0 := by rw [hB0]; unfold fxB; rw [← hcd, if_pos z]
    rw [hB] at k0
    refine ev_go 31 rfl trivial ?_
    exact k0
  · refine ev_neg (by show ¬ i 3 ≤ 0; rw [e3]; exact nI_nle z (by omega)) ?_
    have ec : i 3 - Int32.ofInt 1 = nI (c - 1) := by
      obtain ⟨q, hq⟩ : ∃ q, c = q + 1 := ⟨c - 1, by omega⟩
      rw [e3, hq, Nat.add_sub_cancel]
      exact nI_pred q
    have hB : B0 = b 72 (i 3 - Int32.ofInt 1).toNatClampNeg := by
      rw [hB0, ec, nI_clamp (by omega), (hcw.b (c - 1) (by omega)).2.2.1]
      unfold fxB
      rw [← hcd, if_neg (by omega)]
    rw [hB] at k0
    refine ev_go 999 rfl trivial ?_
    refine ev_aa (v := .ref 72) rfl rfl (by omega) (by omega) (vp_in_nI (n := 2) (by omega) (by omega)) rfl ?_
    refine ev_go 999 rfl ⟨by show vp_in (i 3 - Int32.ofInt 1) 36; rw [ec]; exact vp_in_nI (by omega) (by omega), trivial⟩ ?_
    refine ev_go 31 rfl trivial ?_
    exact k0
end X8
