section X8
variable {E : am_E} {d : Nat} {i ri : Nat → Int32} {j : Nat → Int64} {a rA : Nat → Nat → Int32} {b rb : Nat → Nat → Int64} {W : Nat → Option Nat} {g w : Nat}
theorem mday_up {m : Nat} (hm : m < 36) : mday (m + 1) ≤ 1096 ∧ mday m ≤ mday (m + 1) := by
  refine ⟨?_, by have := mday_lt (show m < m + 1 by omega); omega⟩
  rcases Nat.lt_or_ge (m + 1) 36 with z | z
  · have := mday_lt z; rw [mday_36] at this; omega
  · rw [show m + 1 = 36 by omega, mday_36]; exact Nat.le_refl _
theorem gpA_ct {lo hi : Nat} : gpA rA w lo hi = decide (0 < ctD (tA rA w) (rolA rA w) lo hi 2 (nA rA w)) := by
  unfold gpA ctD
  refine decide_eq_decide.mpr ?_
  rw [fb_ct_pos]
  refine ⟨fun ⟨k, h1, h2, h3, h4⟩ => ⟨k, h1, ?_⟩, fun ⟨k, h1, h2⟩ => ?_⟩
  · rw [decide_eq_true h2, decide_eq_true h3, decide_eq_true h4]; rfl
  · rw [Bool.and_eq_true_iff, Bool.and_eq_true_iff] at h2
    exact ⟨k, h1, of_decide_eq_true h2.1, of_decide_eq_true h2.2.1, of_decide_eq_true h2.2.2⟩
theorem x8_amountOf {role lo hi : Nat} (hw : w < 30) (hlo : lo < 2000) (hhi : hi < 2000) (hro : role < 1000) (hcw : CW i a b rA rb w) (hI : INV ri rA) : am_D E (d + 2) tX1_amountOf [.ref 63, .int (nI role), .int (nI lo), .int (nI hi)] (am_L (xw i j a b W g)) 0 0 (some (.int (nI (ctD (tA rA w) (rolA rA w) lo hi role (nA rA w))))) (am_L (xw i j a b W g)) := by
  have h := x1_amountOf (E := E) (d := d) (hcw.ma hI hw) hlo hhi hro
  rw [← hcw.n' hI hw] at h
  exact lift_mk0 h
theorem x8_hasGap {m : Nat} (hE : E 3 = (37, fun j => am_MS.getD j 0)) (hw : w < 30) (hm : m < 36) (hcw : CW i a b rA rb w) (hI : INV ri rA) : am_D E (d + 3) tX8_hasGap [.ref 62, .int (nI m)] (am_L (xw i j a b W g)) 0 0 (some (.int (bI (gpA rA w (mday m) (mday (m + 1)))))) (am_L (xw i j a b W g)) := by
  obtain ⟨v1, v2⟩ := ms_v hE (q := m) (by omega)
  obtain ⟨v3, v4⟩ := ms_v hE (q := m + 1) (by omega)
  obtain ⟨m1, m2⟩ := mday_up hm
  have ham := x8_amountOf (E := E) (d := d) (j := j) (W := W) (g := g) (role := 2) (lo := mday m) (hi := mday (m + 1)) hw (by omega) (by omega) (by omega) hcw hI
  rw [gpA_ct]
  have hle : ctD (tA rA w) (rolA rA w) (mday m) (mday (m + 1)) 2 (nA rA w) ≤ 400 := Nat.le_trans (fb_ct_le _ _) (hI.wm w hw).n4
  obtain ⟨Cn, hC⟩ : ∃ Cn, Cn = ctD (tA rA w) (rolA rA w) (mday m) (mday (m + 1)) 2 (nA rA w) := ⟨_, rfl⟩
  rw [← hC] at ham hle ⊢
  rw [← nI_1 m] at v3 v4
  rw [← v2, ← v4] at ham
  refine am_D_of (Nat.le_of_ble_eq_true rfl) ?_
  refine ev_go 999 rfl ⟨v1, v3, trivial⟩ ?_
  refine ev_call0 rfl (Nat.le_of_ble_eq_true rfl) (fun _ => ⟨_, _, _, rfl, rfl⟩) ham ?_
  refine ev_go 999 rfl trivial ?_
  rcases Nat.eq_zero_or_pos Cn with z | z
  · refine ev_pos (by show nI Cn ≤ 0; rw [z]; decide) ?_
    rw [decide_eq_false (show ¬ 0 < Cn by omega)]
    refine ev_go 999 rfl trivial ?_
    exact ev_ret rfl ⟨Or.inl rfl, trivial⟩ ⟨rfl, rfl⟩
  · refine ev_neg (nI_nle z (by omega)) ?_
    rw [decide_eq_true z]
    refine ev_go 999 rfl trivial ?_
    refine ev_go 999 rfl trivial ?_
    exact ev_ret rfl ⟨Or.inr rfl, trivial⟩ ⟨rfl, rfl⟩
theorem x8_sayingOf {m what : Nat} (hE : E 3 = (37, fun j => am_MS.getD j 0)) (hw : w < 30) (hm : m < 36) (hwh : what < 5) (hc : CX i a ri rA) (hcw : CW i a b rA rb w) (hI : INV ri rA) : ∃ i' j' a', Sx i i' a a' ∧ am_D E (d + 8) tX8_sayingOf [.ref 0, .ref 62, .int (nI m), .int (nI what)] (am_L (xw i j a b W (gA rA w))) 0 0 (some (.long (saysA ri rA rb w m what))) (am_L (xw i' j' a' b W (gA rA w))) := by
  have h39 := hI.c39
  have h39b := h39.2
  obtain ⟨c, hcd⟩ : ∃ c, c = cl (ri 39) := ⟨_, rfl⟩
  have e3 : i 3 = nI c := by rw [hc.i3, hcd]; exact h39.1
  have hbm := hcw.b m hm
  have vm : vp_in (nI m) 36 := vp_in_nI hm (by omega)
  have cm : (nI m).toNatClampNeg = m := nI_clamp (by omega)
  obtain ⟨m1, m2⟩ := mday_up hm
  have said : (m < c ∨ 3 ≤ what) → am_ev E (d + 7) tX8_sayingOf (13, [some (.ref 0), some (.ref 62), some (.int (nI m)), some (.int (nI what))], [], am_L (xw i j a b W (gA rA w)), 0, 0) (fun v' M'' => v' = some (.long (saysA ri rA rb w m what)) ∧ M'' = am_L (xw i j a b W (gA rA w))) := fun hor => by
    rcases (show what = 0 ∨ what = 1 ∨ what = 2 ∨ what = 3 ∨ what = 4 by omega) with e | e | e | e | e
    · rw [e]
      refine ev_go 999 rfl trivial ?_
      refine ev_aa (v := .ref 70) rfl rfl (by omega) (by omega) (vp_in_nI (n := 0) (by omega) (by omega)) rfl ?_
      refine ev_go 999 rfl ⟨vm, trivial⟩ ?_
      refine ev_ret rfl trivial ⟨?_, rfl⟩
      show some (Value.long (b 70 (nI m).toNatClampNeg)) = _
      unfold saysA
      rw [if_neg (by decide), if_neg (by decide), if_pos (by omega), if_pos rfl, cm, hbm.1]
    · rw [e]
      refine ev_go 999 rfl trivial ?_
      refine ev_aa (v := .ref 71) rfl rfl (by omega) (by omega) (vp_in_nI (n := 1) (by omega) (by omega)) rfl ?_
      refine ev_go 999 rfl ⟨vm, trivial⟩ ?_
      refine ev_ret rfl trivial ⟨?_, rfl⟩
      show some (Value.long (b 71 (nI m).toNatClampNeg)) = _
      unfold saysA
      rw [if_neg (by decide), if_neg (by decide), if_pos (by omega), if_neg (by decide), if_pos rfl, cm, hbm.2.1]
    · rw [e]
      refine ev_go 999 rfl trivial ?_
      refine ev_aa (v := .ref 72) rfl rfl (by omega) (by omega) (vp_in_nI (n := 2) (by omega) (by omega)) rfl ?_
      refine ev_go 999 rfl ⟨vm, trivial⟩ ?_
      refine ev_ret rfl trivial ⟨?_, rfl⟩
      show some (Value.long (b 72 (nI m).toNatClampNeg)) = _
      unfold saysA
      rw [if_neg (by decide), if_neg (by decide), if_pos (by omega), if_neg (by decide), if_neg (by decide), cm, hbm.2.2.1]
    · rw [e]
      refine ev_go 999 rfl trivial ?_
      refine ev_aa (v := .ref 73) rfl rfl (by omega) (by omega) (vp_in_nI (n := 3) (by omega) (by omega)) rfl ?_
      refine ev_go 999 rfl ⟨vm, trivial⟩ ?_
      refine ev_ret rfl trivial ⟨?_, rfl⟩
      show some (Value.long (b 73 (nI m).toNatClampNeg)) = _
      unfold saysA
      rw [if_pos rfl, cm, hbm.2.2.2.1]
    · rw [e]
      refine ev_go 999 rfl trivial ?_
      refine ev_aa (v := .ref 74) rfl rfl (by omega) (by omega) (vp_in_nI (n := 4) (by omega) (by omega)) rfl ?_
      refine ev_go 999 rfl ⟨vm, trivial⟩ ?_
      refine ev_ret rfl trivial ⟨?_, rfl⟩
      show some (Value.long (b 74 (nI m).toNatClampNeg)) = _
      unfold saysA
      rw [if_neg (by decide), if_pos rfl, cm, hbm.2.2.2.2]
  by_cases hmc : m < c
  · refine ⟨i, j, a, Sx.rf, ?_⟩
    refine am_D_of (Nat.le_of_ble_eq_true rfl) ?_
    refine ev_go 999 rfl trivial ?_
    refine ev_pos (by show nI m < i 3; rw [e3]; exact nI_lt hmc (by omega)) ?_
    exact said (Or.inl hmc)
  · by_cases hw3 : 3 ≤ what
    · refine ⟨i, j, a, Sx.rf, ?_⟩
      refine am_D_of (Nat.le_of_ble_eq_true rfl) ?_
      refine ev_go 999 rfl trivial ?_
      refine ev_neg (by show ¬ nI m < i 3; rw [e3]; exact nI_nlt (by omega) (by omega)) ?_
      refine ev_go 999 rfl trivial ?_
      refine ev_neg (nI_nlt (b := 3) hw3 (by omega)) ?_
      exact said (Or.inr hw3)
    · by_cases hw2 : what = 2
      · obtain ⟨i1, j1, a1, sx, hO⟩ := x8_openFlex (E := E) (d := d) (i := i) (j := j) (a := a) (W := W) (m := m) hE hw hm (by omega) hc hcw hI
        refine ⟨i1, j1, a1, sx, ?_⟩
        have es : saysA ri rA rb w m what = FX ri rA rb w (m + 1 - cl (ri 39)) := by rw [hw2]; exact says_2 (by omega)
        rw [es]
        refine am_D_of (Nat.le_of_ble_eq_true rfl) ?_
        refine ev_go 999 rfl trivial ?_
        refine ev_neg (by show ¬ nI m < i 3; rw [e3]; exact nI_nlt (by omega) (by omega)) ?_
        refine ev_go 999 rfl trivial ?_
        refine ev_pos (nI_lt (b := 3) (by omega) (by omega)) ?_
        refine ev_go 999 rfl trivial ?_
        refine ev_neg (by show ¬ ¬ nI what = nI 2; rw [hw2]; exact fun y => y rfl) ?_
        refine ev_go 999 rfl trivial ?_
        refine ev_call0 rfl (Nat.le_of_ble_eq_true rfl) (fun _ => ⟨_, _, _, rfl, rfl⟩) hO ?_
        exact ev_ret rfl trivial ⟨rfl, rfl⟩
      · obtain ⟨v1, v2⟩ := ms_v hE (q := m) (by omega)
        obtain ⟨v3, v4⟩ := ms_v hE (q := m + 1) (by omega)
        obtain ⟨i1, a1, sx, hT⟩ := x8_tallyDays (E := E) (d := d + 1) (i := i) (j := j) (a := a) (W := W) (lo := mday m) (hi := mday (m + 1)) hw (by omega) (by omega) hc hcw hI
        obtain ⟨SP, hSP⟩ : ∃ SP, SP = dSum (tA rA w) (rolA rA w) (paidA rA w) (mday m) (mday (m + 1)) (nA rA w) := ⟨_, rfl⟩
        obtain ⟨SC, hSC⟩ : ∃ SC, SC = dSum (tA rA w) (rolA rA w) (centA ri rA w) (mday m) (mday (m + 1)) (nA rA w) := ⟨_, rfl⟩
        obtain ⟨j1, hj1⟩ : ∃ j1, j1 = va_up (va_up j 0 (lN SP)) 1 (lN SC) := ⟨_, rfl⟩
        rw [← hSP, ← hSC, ← hj1] at hT
        have j0 : j1 0 = lN SP := by rw [hj1, va_n (by decide), va_s]
        have j1' : j1 1 = lN SC := by rw [hj1, va_s]
        rw [← nI_1 m] at v3 v4
        rw [← v2, ← v4] at hT
        refine ⟨i1, j1, a1, sx, ?_⟩
        refine am_D_of (Nat.le_of_ble_eq_true rfl) ?_
        refine ev_go 999 rfl trivial ?_
        refine ev_neg (by show ¬ nI m < i 3; rw [e3]; exact nI_nlt (by omega) (by omega)) ?_
        refine ev_go 999 rfl trivial ?_
        refine ev_pos (nI_lt (b := 3) (by omega) (by omega)) ?_
        refine ev_go 999 rfl trivial ?_
        refine ev_pos (by show ¬ nI what = nI 2; rw [nI_eq (by omega) (by omega)]; exact hw2) ?_
        refine ev_go 999 rfl ⟨v1, v3, trivial⟩ ?_
        refine ev_call0 rfl (Nat.le_of_ble_eq_true rfl) (fun _ => ⟨_, _, _, rfl, rfl⟩) hT ?_
        refine ev_go 999 rfl trivial ?_
        rcases (show what = 0 ∨ what = 1 by omega) with e | e
        · refine ev_neg (by show ¬ ¬ nI what = 0; rw [e]; exact fun y => y rfl) ?_
          refine ev_go 999 rfl trivial ?_
          refine ev_aa (v := .ref 73) rfl rfl (by omega) (by omega) (vp_in_nI (n := 3) (by omega) (by omega)) rfl ?_
          refine ev_go 999 rfl ⟨vm, trivial⟩ ?_
          refine ev_ret rfl trivial ⟨?_, rfl⟩
          show some (Value.long (j1 0 + b 73 (nI m).toNatClampNeg)) = _
          unfold saysA
          rw [e, if_neg (by decide), if_neg (by decide), if_neg (by omega), if_neg (by decide), if_pos rfl, cm, hbm.2.2.2.1, j0, hSP]
        · refine ev_pos (by show ¬ nI what = 0; rw [e]; decide) ?_
          refine ev_go 999 rfl trivial ?_
          refine ev_aa (v := .ref 74) rfl rfl (by omega) (by omega) (vp_in_nI (n := 4) (by omega) (by omega)) rfl ?_
          refine ev_go 999 rfl ⟨vm, trivial⟩ ?_
          refine ev_ret rfl trivial ⟨?_, rfl⟩
          show some (Value.long (j1 1 + b 74 (nI m).toNatClampNeg)) = _
          rw [e, says_1 (by omega), cm, hbm.2.2.2.2, j1', hSC]
/-- long arrays of the worker -/
theorem xw_b70 (h : Nat → Int64) : am_w (am_L (xw i j a b W g)) 70 (.inl (2, 36, .inr (.inl h))) = am_L (xw i j a (va_up b 70 h) W g) := by rw [am_w_L (Nat.le_of_ble_eq_true rfl)]; rfl
theorem xw_b71 (h : Nat → Int64) : am_w (am_L (xw i j a b W g)) 71 (.inl (2, 36, .inr (.inl h))) = am_L (xw i j a (va_up b 71 h) W g) := by rw [am_w_L (Nat.le_of_ble_eq_true rfl)]; rfl
theorem xw_b72 (h : Nat → Int64) : am_w (am_L (xw i j a b W g)) 72 (.inl (2, 36, .inr (.inl h))) = am_L (xw i j a (va_up b 72 h) W g) := by rw [am_w_L (Nat.le_of_ble_eq_true rfl)]; rfl
theorem xw_b73 (h : Nat → Int64) : am_w (am_L (xw i j a b W g)) 73 (.inl (2, 36, .inr (.inl h))) = am_L (xw i j a (va_up b 73 h) W g) := by rw [am_w_L (Nat.le_of_ble_eq_true rfl)]; rfl
theorem xw_b74 (h : Nat → Int64) : am_w (am_L (xw i j a b W g)) 74 (.inl (2, 36, .inr (.inl h))) = am_L (xw i j a (va_up b 74 h) W g) := by rw [am_w_L (Nat.le_of_ble_eq_true rfl)]; rfl
theorem x8_book {sg : Int32} (hE : E 3 = (37, fun j => am_MS.getD j 0)) (hw : w < 30) (hcm : cl (ri 39) < 36) (hc : CX i a ri rA) (hcw : CW i a b rA rb w) (hI : INV ri rA) : ∃ i' j' a' b', Sx i i' a a' ∧ CW i' a' b' rA (bookA ri rA rb w sg.toInt64) w ∧ am_D E (d + 7) tX8_bookClosedDays [.ref 0, .ref 62, .int sg] (am_L (xw i j a b W (gA rA w))) 0 0 none (am_L (xw i' j' a' b' W (gA rA w))) := by
  obtain ⟨c, hcd⟩ : ∃ c, c = cl (ri 39) := ⟨_, rfl⟩
  have e3 : i 3 = nI c := by rw [hc.i3, hcd]; exact hI.c39.1
  rw [← hcd] at hcm
  obtain ⟨v1, v2⟩ := ms_v hE (q := c) (by omega)
  have hmc := mday_b (m := c) (by omega)
  obtain ⟨i1, a1, sx, hT⟩ := x8_tallyDays (E := E) (d := d) (i := i) (j := j) (a := a) (W := W) (lo := 0) (hi := mday c) hw (by omega) (by omega) hc hcw hI
  obtain ⟨SP, hSP⟩ : ∃ SP, SP = dSum (tA rA w) (rolA rA w) (paidA rA w) 0 (mday c) (nA rA w) := ⟨_, rfl⟩
  obtain ⟨SC, hSC⟩ : ∃ SC, SC = dSum (tA rA w) (rolA rA w) (centA ri rA w) 0 (mday c) (nA rA w) := ⟨_, rfl⟩
  obtain ⟨j1, hj1⟩ : ∃ j1, j1 = va_up (va_up j 0 (lN SP)) 1 (lN SC) := ⟨_, rfl⟩
  rw [← hSP, ← hSC, ← hj1] at hT
  have j0 : j1 0 = lN SP := by rw [hj1, va_n (by decide), va_s]
  have j1' : j1 1 = lN SC := by rw [hj1, va_s]
  rw [← e3] at v1 v2
  rw [← v2] at hT
  have e31 : i1 3 = nI c := by rw [sx.1 3 (by decide), e3]
  have vc : vp_in (i1 3) 36 := by rw [e31]; exact vp_in_nI hcm (by omega)
  have cc : (i1 3).toNatClampNeg = c := by rw [e31]; exact nI_clamp (by omega)
  have hcw1 := sx.cw hcw
  refine ⟨i1, j1, a1, va_up (va_up b 73 (vp_updL (b 73) c (b 73 c + sg.toInt64 * lN SP))) 74 (vp_updL (b 74) c (b 74 c + sg.toInt64 * lN SC)), sx, ?_, ?_⟩
  · obtain ⟨c1, c2, c3, c4, c5, c6, c7, c8⟩ := hcw1
    refine ⟨c1, c2, c3, c4, c5, c6, c7, fun m hm => ?_⟩
    obtain ⟨d1, d2, d3, d4, d5⟩ := c8 m hm
    unfold bookA
    rw [← hcd, ← hSP, ← hSC]
    rw [va_n (show (70 : Nat) ≠ 74 by decide), va_n (show (70 : Nat) ≠ 73 by decide), va_n (show (71 : Nat) ≠ 74 by decide), va_n (show (71 : Nat) ≠ 73 by decide), va_n (show (72 : Nat) ≠ 74 by decide), va_n (show (72 : Nat) ≠ 73 by decide), va_n (show (73 : Nat) ≠ 74 by decide), va_s, va_s, va_n (show (32 : Nat) ≠ 36 by decide), va_n (show (32 : Nat) ≠ 35 by decide), va_n (show (33 : Nat) ≠ 36 by decide), va_n (show (33 : Nat) ≠ 35 by decide), va_n (show (34 : Nat) ≠ 36 by decide), va_n (show (34 : Nat) ≠ 35 by decide), va_n (show (35 : Nat) ≠ 36 by decide), va_s, va_s]
    obtain ⟨f1, f2, f3, f4, f5⟩ := c8 c hcm
    refine ⟨d1, d2, d3, ?_, ?_⟩
    · unfold vp_updL
      by_cases z : m = c
      · rw [if_pos z, if_pos (by omega), f4]
      · rw [if_neg z, if_neg (by omega), d4]
    · unfold vp_updL
      by_cases z : m = c
      · rw [if_pos z, if_pos (by omega), f5]
      · rw [if_neg z, if_neg (by omega), d5]
  · refine am_D_of (Nat.le_of_ble_eq_true rfl) ?_
    refine ev_go 999 rfl trivial ?_
    refine ev_pos (by show i 3 < nI 36; rw [e3]; exact nI_lt hcm (by omega)) ?_
    refine ev_go 999 rfl ⟨v1, trivial⟩ ?_
    refine ev_call0 rfl (Nat.le_of_ble_eq_true rfl) (fun _ => ⟨_, _, _, rfl, rfl⟩) hT ?_
    refine ev_go 999 rfl trivial ?_
    refine ev_aa (v := .ref 73) rfl rfl (by omega) (by omega) (vp_in_nI (n := 3) (by omega) (by omega)) rfl ?_
    refine ev_go 48 rfl ⟨vc, vc, trivial⟩ ?_
    refine ev_M (xw_b73 _) ?_
    refine ev_go 999 rfl trivial ?_
    refine ev_aa (v := .ref 74) rfl rfl (by omega) (by omega) (vp_in_nI (n := 4) (by omega) (by omega)) rfl ?_
    refine ev_go 72 rfl ⟨vc, vc, trivial⟩ ?_
    refine ev_M (xw_b74 _) ?_
    refine ev_ret rfl trivial ⟨rfl, ?_⟩
    show am_L (xw i1 j1 a1 (va_up (va_up b 73 (vp_updL (b 73) (i1 3).toNatClampNeg (b 73 (i1 3).toNatClampNeg + sg.toInt64 * j1 0))) 74 (vp_updL (va_up b 73 (vp_updL (b 73) (i1 3).toNatClampNeg (b 73 (i1 3).toNatClampNeg + sg.toInt64 * j1 0)) 74) (i1 3).toNatClampNeg (va_up b 73 (vp_updL (b 73) (i1 3).toNatClampNeg (b 73 (i1 3).toNatClampNeg + sg.toInt64 * j1 0)) 74 (i1 3).toNatClampNeg + sg.toInt64 * j1 1))) W (gA rA w)) = _
    rw [cc, j0, j1', va_n (show (74 : Nat) ≠ 73 by decide)]
end X8
