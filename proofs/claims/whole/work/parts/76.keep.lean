section X8
variable {E : am_E} {d : Nat} {i ri : Nat → Int32} {j : Nat → Int64} {a rA : Nat → Nat → Int32} {b rb : Nat → Nat → Int64} {W : Nat → Option Nat} {g w : Nat}
theorem x8_keepSayings (hE : E 3 = (37, fun j => am_MS.getD j 0)) (hw : w < 30) (hcm : cl (ri 39) < 36) (hc : CX i a ri rA) (hcw : CW i a b rA rb w) (hI : INV ri rA) : ∃ i' j' a', Sx i i' a a' ∧ am_D E (d + 9) tX8_keepSayings [.ref 0, .ref 62, .int (nI (cl (ri 39)))] (am_L (xw i j a b W (gA rA w))) 0 0 none (am_L (xw i' j' a' (va_up (va_up (va_up b 70 (vp_updL (b 70) (cl (ri 39)) (saysA ri rA rb w (cl (ri 39)) 0))) 71 (vp_updL (b 71) (cl (ri 39)) (saysA ri rA rb w (cl (ri 39)) 1))) 72 (vp_updL (b 72) (cl (ri 39)) (clmp (rA 14 (gA rA w)) (rA 15 (gA rA w)) (saysA ri rA rb w (cl (ri 39)) 2)))) W (gA rA w))) := by
  obtain ⟨c, hcd⟩ : ∃ c, c = cl (ri 39) := ⟨_, rfl⟩
  have hg := hI.gl hw
  have hbm := hcw.b c (by omega)
  have s2e := says_2 (i := ri) (a := rA) (b := rb) (w := w) (c := c) (by omega)
  have s1e := says_1 (i := ri) (a := rA) (b := rb) (w := w) (c := c) (by omega)
  have s0e : saysA ri rA rb w c 0 = lN (dSum (tA rA w) (rolA rA w) (paidA rA w) (mday c) (mday (c + 1)) (nA rA w)) + rb 35 (36 * w + c) := by
    unfold saysA
    rw [if_neg (by decide), if_neg (by decide), if_neg (by omega), if_neg (by decide), if_pos rfl]
  rw [← hcd] at hcm s2e ⊢
  obtain ⟨i3, j3, a3, sx3, D3⟩ := x8_openFlex (E := E) (d := d + 1) (i := i) (j := j) (a := a) (W := W) (m := c) hE hw hcm (by omega) hc hcw hI
  have hc3 := sx3.cx hc
  have hw3 := sx3.cw hcw
  rw [← hcd, ← s2e] at D3
  obtain ⟨v1, v2⟩ := ms_v hE (q := c) (by omega)
  obtain ⟨v3, v4⟩ := ms_v hE (q := c + 1) (by omega)
  obtain ⟨m1, m2⟩ := mday_up hcm
  obtain ⟨i4, a4, sx4, hT⟩ := x8_tallyDays (E := E) (d := d + 2) (i := i3) (j := j3) (a := a3) (W := W) (lo := mday c) (hi := mday (c + 1)) hw (by omega) (by omega) hc3 hw3 hI
  have hc4 := sx4.cx hc3
  obtain ⟨SP, hSP⟩ : ∃ SP, SP = dSum (tA rA w) (rolA rA w) (paidA rA w) (mday c) (mday (c + 1)) (nA rA w) := ⟨_, rfl⟩
  obtain ⟨SC, hSC⟩ : ∃ SC, SC = dSum (tA rA w) (rolA rA w) (centA ri rA w) (mday c) (mday (c + 1)) (nA rA w) := ⟨_, rfl⟩
  obtain ⟨j4, hj4⟩ : ∃ j4, j4 = va_up (va_up j3 0 (lN SP)) 1 (lN SC) := ⟨_, rfl⟩
  rw [← hSP, ← hSC, ← hj4] at hT
  have j0 : j4 0 = lN SP := by rw [hj4, va_n (by decide), va_s]
  have j1 : j4 1 = lN SC := by rw [hj4, va_s]
  rw [← nI_1 c] at v3 v4
  rw [← v2, ← v4] at hT
  have vc : vp_in (nI c) 36 := vp_in_nI hcm (by omega)
  have cc : (nI c).toNatClampNeg = c := nI_clamp (by omega)
  have S0e : saysA ri rA rb w c 0 = j4 0 + b 73 (nI c).toNatClampNeg := by rw [s0e, cc, hbm.2.2.2.1, j0, hSP]
  have S1e : saysA ri rA rb w c 1 = j4 1 + b 74 (nI c).toNatClampNeg := by rw [s1e, cc, hbm.2.2.2.2, j1, hSC]
  obtain ⟨S2, hS2⟩ : ∃ S2, S2 = saysA ri rA rb w c 2 := ⟨_, rfl⟩
  rw [← hS2] at D3 ⊢
  rw [S0e, S1e]
  refine ⟨i4, j4, a4, sx3.tr sx4, ?_⟩
  obtain ⟨gn1, gn2, gn3⟩ := hc4.gn _ hg
  have hlim := hI.lim _ hg
  have hle : rA 14 (gA rA w) ≤ rA 15 (gA rA w) := by rw [fa_le]; exact hlim.2.1
  have hcl := clmp_eq hle S2
  obtain ⟨b1, hb1⟩ : ∃ b1, b1 = va_up b 70 (vp_updL (b 70) c (j4 0 + b 73 (nI c).toNatClampNeg)) := ⟨_, rfl⟩
  have e71 : b1 71 = b 71 := by rw [hb1, va_n (show (71 : Nat) ≠ 70 by decide)]
  have e74 : b1 74 = b 74 := by rw [hb1, va_n (show (74 : Nat) ≠ 70 by decide)]
  have e72 : b1 72 = b 72 := by rw [hb1, va_n (show (72 : Nat) ≠ 70 by decide)]
  obtain ⟨b2, hb2⟩ : ∃ b2, b2 = va_up b1 71 (vp_updL (b 71) c (j4 1 + b 74 (nI c).toNatClampNeg)) := ⟨_, rfl⟩
  have f72 : b2 72 = b 72 := by rw [hb2, va_n (show (72 : Nat) ≠ 71 by decide), e72]
  rw [← hb1, ← hb2]
  have w1 : am_L (xw i4 j4 a4 (va_up b 70 (vp_updL (b 70) (nI c).toNatClampNeg (j4 0 + b 73 (nI c).toNatClampNeg))) W (gA rA w)) = am_L (xw i4 j4 a4 b1 W (gA rA w)) := by rw [hb1, cc]
  have w2 : am_L (xw i4 j4 a4 (va_up b1 71 (vp_updL (b1 71) (nI c).toNatClampNeg (j4 1 + b1 74 (nI c).toNatClampNeg))) W (gA rA w)) = am_L (xw i4 j4 a4 b2 W (gA rA w)) := by rw [hb2, cc, e71, e74]
  refine am_D_of (Nat.le_of_ble_eq_true rfl) ?_
  refine ev_go 999 rfl trivial ?_
  refine ev_call0 rfl (Nat.le_of_ble_eq_true rfl) (fun _ => ⟨_, _, _, rfl, rfl⟩) D3 ?_
  refine ev_go 7 rfl trivial ?_
  show am_ev _ _ _ (7, [some (.ref 0), some (.ref 62), some (.int (nI c)), some (.long S2), none], _, _, _, _) _
  refine ev_go 999 rfl ⟨v1, v3, trivial⟩ ?_
  refine ev_call0 rfl (Nat.le_of_ble_eq_true rfl) (fun _ => ⟨_, _, _, rfl, rfl⟩) hT ?_
  refine ev_go 999 rfl trivial ?_
  refine ev_aa (v := .ref 70) rfl rfl (by omega) (by omega) (vp_in_nI (n := 0) (by omega) (by omega)) rfl ?_
  refine ev_go 999 rfl trivial ?_
  refine ev_aa (v := .ref 73) rfl rfl (by omega) (by omega) (vp_in_nI (n := 3) (by omega) (by omega)) rfl ?_
  refine ev_go 48 rfl ⟨vc, vc, trivial⟩ ?_
  refine ev_M ((xw_b70 _).trans w1) ?_
  refine ev_go 999 rfl trivial ?_
  refine ev_aa (v := .ref 71) rfl rfl (by omega) (by omega) (vp_in_nI (n := 1) (by omega) (by omega)) rfl ?_
  refine ev_go 999 rfl trivial ?_
  refine ev_aa (v := .ref 74) rfl rfl (by omega) (by omega) (vp_in_nI (n := 4) (by omega) (by omega)) rfl ?_
  refine ev_go 72 rfl ⟨vc, vc, trivial⟩ ?_
  refine ev_M ((xw_b71 _).trans w2) ?_
  refine ev_go 999 rfl trivial ?_
  refine ev_aa (v := .ref 72) rfl rfl (by omega) (by omega) (vp_in_nI (n := 2) (by omega) (by omega)) rfl ?_
  refine ev_go 83 rfl trivial ?_
  refine ev_gf (ci := 0) (k := 3) rfl rfl (xw_gr hg).1 rfl ?_
  refine ev_go 91 rfl trivial ?_
  refine ev_gf (ci := 0) (k := 4) rfl rfl (xw_gr hg).1 rfl ?_
  rw [gn2, gn3]
  refine ev_go 103 rfl ⟨Nat.le_of_ble_eq_true rfl, Nat.le_of_ble_eq_true rfl, vc, trivial⟩ ?_
  refine ev_M (xw_b72 _) ?_
  refine ev_ret rfl trivial ⟨rfl, ?_⟩
  show am_L (xw i4 j4 a4 (va_up b2 72 (vp_updL (b2 72) (nI c).toNatClampNeg (if (if S2 < (rA 15 (gA rA w)).toInt64 then S2 else (rA 15 (gA rA w)).toInt64) < (rA 14 (gA rA w)).toInt64 then (rA 14 (gA rA w)).toInt64 else (if S2 < (rA 15 (gA rA w)).toInt64 then S2 else (rA 15 (gA rA w)).toInt64)))) W (gA rA w)) = _
  rw [hcl, cc, f72]
end X8
