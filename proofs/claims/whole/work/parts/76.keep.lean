section X8
variable {E : am_E} {d : Nat} {i ri : Nat → Int32} {j : Nat → Int64} {a rA : Nat → Nat → Int32} {b rb : Nat → Nat → Int64} {W : Nat → Option Nat} {g w : Nat}
theorem x8_keepSayings (hE : E 3 = (37, fun j => am_MS.getD j 0)) (hw : w < 30) (hcm : cl (ri 39) < 36) (hc : CX i a ri rA) (hcw : CW i a b rA rb w) (hI : INV ri rA) : ∃ i' j' a', Sx i i' a a' ∧ am_D E (d + 9) tX8_keepSayings [.ref 0, .ref 62, .int (nI (cl (ri 39)))] (am_L (xw i j a b W (gA rA w))) 0 0 none (am_L (xw i' j' a' (va_up (va_up (va_up b 70 (vp_updL (b 70) (cl (ri 39)) (saysA ri rA rb w (cl (ri 39)) 0))) 71 (vp_updL (b 71) (cl (ri 39)) (saysA ri rA rb w (cl (ri 39)) 1))) 72 (vp_updL (b 72) (cl (ri 39)) (clmp (rA 14 (gA rA w)) (rA 15 (gA rA w)) (saysA ri rA rb w (cl (ri 39)) 2)))) W (gA rA w))) := by
  obtain ⟨c, hcd⟩ : ∃ c, c = cl (ri 39) := ⟨_, rfl⟩
  have hg := hI.gl hw
  have s2e := says_2 (i := ri) (a := rA) (b := rb) (w := w) (c := c) (by omega)
  rw [← hcd] at hcm s2e ⊢
  obtain ⟨i1, j1, a1, sx1, D1⟩ := x8_sayingOf (E := E) (d := d) (i := i) (j := j) (a := a) (W := W) (m := c) (what := 0) hE hw hcm (by omega) hc hcw hI
  have hc1 := sx1.cx hc
  have hw1 := sx1.cw hcw
  obtain ⟨i2, j2, a2, sx2, D2⟩ := x8_sayingOf (E := E) (d := d) (i := i1) (j := j1) (a := a1) (W := W) (m := c) (what := 1) hE hw hcm (by omega) hc1 hw1 hI
  have hc2 := sx2.cx hc1
  have hw2 := sx2.cw hw1
  obtain ⟨i3, j3, a3, sx3, D3⟩ := x8_openFlex (E := E) (d := d + 1) (i := i2) (j := j2) (a := a2) (W := W) (m := c) hE hw hcm (by omega) hc2 hw2 hI
  have hc3 := sx3.cx hc2
  rw [← hcd, ← s2e] at D3
  obtain ⟨S0, hS0⟩ : ∃ S0, S0 = saysA ri rA rb w c 0 := ⟨_, rfl⟩
  obtain ⟨S1, hS1⟩ : ∃ S1, S1 = saysA ri rA rb w c 1 := ⟨_, rfl⟩
  obtain ⟨S2, hS2⟩ : ∃ S2, S2 = saysA ri rA rb w c 2 := ⟨_, rfl⟩
  rw [← hS0] at D1 ⊢
  rw [← hS1] at D2 ⊢
  rw [← hS2] at D3 ⊢
  refine ⟨i3, j3, a3, (sx1.tr sx2).tr sx3, ?_⟩
  have vc : vp_in (nI c) 36 := vp_in_nI hcm (by omega)
  have cc : (nI c).toNatClampNeg = c := nI_clamp (by omega)
  obtain ⟨gn1, gn2, gn3⟩ := hc3.gn _ hg
  have hlim := hI.lim _ hg
  have hle : rA 14 (gA rA w) ≤ rA 15 (gA rA w) := by rw [fa_le]; exact hlim.2.1
  have hcl := clmp_eq hle S2
  refine am_D_of (Nat.le_of_ble_eq_true rfl) ?_
  refine ev_go 999 rfl trivial ?_
  refine ev_call0 rfl (Nat.le_of_ble_eq_true rfl) (fun _ => ⟨_, _, _, rfl, rfl⟩) D1 ?_
  refine ev_go 8 rfl trivial ?_
  show am_ev _ _ _ (8, [some (.ref 0), some (.ref 62), some (.int (nI c)), some (.long S0), none, none, none, none, none], _, _, _, _) _
  refine ev_go 999 rfl trivial ?_
  refine ev_call0 rfl (Nat.le_of_ble_eq_true rfl) (fun _ => ⟨_, _, _, rfl, rfl⟩) D2 ?_
  refine ev_go 17 rfl trivial ?_
  show am_ev _ _ _ (17, [some (.ref 0), some (.ref 62), some (.int (nI c)), some (.long S0), none, some (.long S1), none, none, none], _, _, _, _) _
  refine ev_go 999 rfl trivial ?_
  refine ev_call0 rfl (Nat.le_of_ble_eq_true rfl) (fun _ => ⟨_, _, _, rfl, rfl⟩) D3 ?_
  refine ev_go 25 rfl trivial ?_
  show am_ev _ _ _ (25, [some (.ref 0), some (.ref 62), some (.int (nI c)), some (.long S0), none, some (.long S1), none, some (.long S2), none], _, _, _, _) _
  refine ev_go 999 rfl trivial ?_
  refine ev_aa (v := .ref 70) rfl rfl (by omega) (by omega) (vp_in_nI (n := 0) (by omega) (by omega)) rfl ?_
  refine ev_go 34 rfl ⟨vc, trivial⟩ ?_
  refine ev_M (xw_b70 _) ?_
  refine ev_go 999 rfl trivial ?_
  refine ev_aa (v := .ref 71) rfl rfl (by omega) (by omega) (vp_in_nI (n := 1) (by omega) (by omega)) rfl ?_
  refine ev_go 44 rfl ⟨vc, trivial⟩ ?_
  refine ev_M (xw_b71 _) ?_
  refine ev_go 999 rfl trivial ?_
  refine ev_aa (v := .ref 72) rfl rfl (by omega) (by omega) (vp_in_nI (n := 2) (by omega) (by omega)) rfl ?_
  refine ev_go 55 rfl trivial ?_
  refine ev_gf (ci := 0) (k := 3) rfl rfl (xw_gr hg).1 rfl ?_
  refine ev_go 63 rfl trivial ?_
  refine ev_gf (ci := 0) (k := 4) rfl rfl (xw_gr hg).1 rfl ?_
  rw [gn2, gn3]
  refine ev_go 76 rfl ⟨Nat.le_of_ble_eq_true rfl, Nat.le_of_ble_eq_true rfl, vc, trivial⟩ ?_
  refine ev_M (xw_b72 _) ?_
  refine ev_ret rfl trivial ⟨rfl, ?_⟩
  show am_L (xw i3 j3 a3 (va_up (va_up (va_up b 70 (vp_updL (b 70) (nI c).toNatClampNeg S0)) 71 (vp_updL (va_up b 70 (vp_updL (b 70) (nI c).toNatClampNeg S0) 71) (nI c).toNatClampNeg S1)) 72 (vp_updL (va_up (va_up b 70 (vp_updL (b 70) (nI c).toNatClampNeg S0)) 71 (vp_updL (va_up b 70 (vp_updL (b 70) (nI c).toNatClampNeg S0) 71) (nI c).toNatClampNeg S1) 72) (nI c).toNatClampNeg (if (if S2 < (rA 15 (gA rA w)).toInt64 then S2 else (rA 15 (gA rA w)).toInt64) < (rA 14 (gA rA w)).toInt64 then (rA 14 (gA rA w)).toInt64 else (if S2 < (rA 15 (gA rA w)).toInt64 then S2 else (rA 15 (gA rA w)).toInt64)))) W (gA rA w)) = _
  rw [hcl, cc, va_n (show (71 : Nat) ≠ 70 by decide), va_n (show (72 : Nat) ≠ 71 by decide), va_n (show (72 : Nat) ≠ 70 by decide)]
end X8
