/-! The reference's months. -/
def dueS (a : Nat → Nat → Int32) (w lo k : Nat) : Nat := fb_sm (fun q => dueA a w (lo + q)) k
/-- the flex account behind k open months -/
def FX (i : Nat → Int32) (a : Nat → Nat → Int32) (b : Nat → Nat → Int64) (w : Nat) : Nat → Int64
  | 0 => if cl (i 39) = 0 then 0 else b 34 (36 * w + (cl (i 39) - 1))
  | k + 1 => FX i a b w k + b 35 (36 * w + (cl (i 39) + k)) + lN (dSum (tA a w) (rolA a w) (paidA a w) (mday (cl (i 39) + k)) (mday (cl (i 39) + k + 1)) (nA a w)) - lN (dueS a w (mday (cl (i 39) + k)) (mlen (cl (i 39) + k)))
def saysA (i : Nat → Int32) (a : Nat → Nat → Int32) (b : Nat → Nat → Int64) (w m what : Nat) : Int64 :=
  if what = 3 then b 35 (36 * w + m) else if what = 4 then b 36 (36 * w + m)
  else if m < cl (i 39) then (if what = 0 then b 32 (36 * w + m) else if what = 1 then b 33 (36 * w + m) else b 34 (36 * w + m))
  else if what = 2 then FX i a b w (m + 1 - cl (i 39))
  else if what = 0 then lN (dSum (tA a w) (rolA a w) (paidA a w) (mday m) (mday (m + 1)) (nA a w)) + b 35 (36 * w + m)
  else lN (dSum (tA a w) (rolA a w) (centA i a w) (mday m) (mday (m + 1)) (nA a w)) + b 36 (36 * w + m)
theorem mday_b {m : Nat} (h : m ≤ 36) : mday m ≤ 1116 := by have := mday_le m; omega
section SC
variable {i i' : Nat → Int32} {a a' : Nat → Nat → Int32}
theorem Scr.paidF (h : Scr i i' a a') (w : Nat) : paidA a' w = paidA a w := funext (h.paid w)
theorem Scr.centF (h : Scr i i' a a') (w : Nat) : centA i' a' w = centA i a w := funext (h.cent w)
theorem Scr.dueS (h : Scr i i' a a') (w lo k : Nat) : dueS a' w lo k = dueS a w lo k := fb_sm_cong (fun q _ => h.due w _)
end SC
section Y9
variable {E : am_E} {d : Nat} {i : Nat → Int32} {j : Nat → Int64} {a : Nat → Nat → Int32} {b : Nat → Nat → Int64}
theorem x9_dueA {w day : Nat} (hI : INV i a) (hw : w < 30) (hd : day < 1096) : am_D E (d + 2) tX9_dueOf [.ref 0, .int (nI w), .int (nI day)] (am_L (mo i j a b)) 0 0 (some (.int (nI (dueA a w day)))) (am_L (mo i j a b)) := by
  have h := x9_dueOf (E := E) (d := d) (i := i) (j := j) (a := a) (b := b) hw hd (hI.gl hw) (hI.wa w hw).2 (hI.h16 hw) (hI.wa w hw).1
  have h7 : 7 * gA a w + day % 7 < 42 := by have := hI.gl hw; have := Nat.mod_lt day (show 0 < 7 by decide); omega
  have e : nI (dueA a w day) = if (decide (¬ a 1 day = 0) || decide (nI day < a 17 w) || awB (fun k => a 19 (20 * w + k)) (fun k => a 20 (20 * w + k)) (nI day) (cl (a 18 w))) = true then 0 else a 13 (7 * gA a w + day % 7) := by
    unfold dueA
    split
    · rfl
    · exact (hI.tg _ h7).1.symm
  rw [e]
  exact h
theorem dueA_le (hI : INV i a) {w day : Nat} (hw : w < 30) : dueA a w day ≤ 1440 := by
  have h7 : 7 * gA a w + day % 7 < 42 := by have := hI.gl hw; have := Nat.mod_lt day (show 0 < 7 by decide); omega
  have := (hI.tg _ h7).2
  unfold dueA
  split
  · omega
  · exact this
theorem x9_pairA {w : Nat} (hI : INV i a) (hw : w < 30) : ∃ i' a', Scr i i' a a' ∧ PD i' a' (nA a w) (tA a w) (sA a w) ∧ am_D E (d + 1) tX9_pair [.ref 0, .int (nI w)] (am_L (mo i j a b)) 0 0 none (am_L (mo i' j a' b)) := by
  obtain ⟨h1, h2, h3, h4, h5, h6, h7, h8⟩ := hI.wm w hw
  obtain ⟨a', hP, hD⟩ := x9_pair (E := E) (d := d) (i := i) (j := j) (b := b) h1 h2 h3 h4 h5 h6 (fun k hk => by have := h7 k hk; omega) h8
  exact ⟨_, a', ⟨fun p hp => hP.1 p (Or.inl hp), fun k g1 _ => va_n g1⟩, ⟨va_s, hP.2.1, hP.2.2⟩, hD⟩
theorem x9_flexOf {w : Nat} (hI : INV i a) (hw : w < 30) : ∀ k, cl (i 39) + k ≤ 36 → ∀ d i1 j a1, Scr i i1 a a1 → PD i1 a1 (nA a w) (tA a w) (sA a w) → ∃ i' j' a', Scr i i' a a' ∧ PD i' a' (nA a w) (tA a w) (sA a w) ∧ am_D E (d + 5 + k) tX9_flexOf [.ref 0, .int (nI w), .int (nI (cl (i 39) + k) - 1)] (am_L (mo i1 j a1 b)) 0 0 (some (.long (FX i a b w k))) (am_L (mo i' j' a' b)) := by
  have hc := hI.c39.2
  obtain ⟨c, hcc⟩ : ∃ c, c = cl (i 39) := ⟨_, rfl⟩
  rw [← hcc] at hc ⊢
  intro k
  induction k with
  | zero =>
    intro hk d i1 j a1 hsc hpd
    have e39 : i1 39 = nI c := by rw [hsc.2 39 (by decide) (by decide), hcc]; exact hI.c39.1
    refine ⟨i1, j, a1, hsc, hpd, ?_⟩
    rw [Nat.add_zero, Nat.add_zero]
    unfold FX
    rw [← hcc]
    refine am_D_of (Nat.le_of_ble_eq_true rfl) ?_
    rcases Nat.eq_zero_or_pos c with z | z
    · rw [z, if_pos rfl]
      refine ev_go 999 rfl trivial ?_
      refine ev_neg (by decide) ?_
      refine ev_go 999 rfl trivial ?_
      exact ev_ret rfl trivial ⟨rfl, rfl⟩
    · obtain ⟨q, rfl⟩ : ∃ q, c = q + 1 := ⟨c - 1, by omega⟩
      rw [nI_pred, if_neg (by omega), Nat.add_sub_cancel]
      refine ev_go 999 rfl trivial ?_
      refine ev_pos (nI_pos' (by omega)) ?_
      refine ev_go 999 rfl trivial ?_
      refine ev_neg (by show ¬ i1 39 ≤ nI q; rw [e39]; exact nI_ge (by omega) (by omega)) ?_
      have ex : nI 36 * nI w + nI q = nI (36 * w + q) := by rw [pk_mul, nI_add]
      refine ev_go 999 rfl ⟨by show vp_in (nI 36 * nI w + nI q) 1080; rw [ex]; exact vp_in_nI (by omega) (by omega), trivial⟩ ?_
      refine ev_ret rfl trivial ⟨?_, rfl⟩
      show some (Value.long (b 34 (nI 36 * nI w + nI q).toNatClampNeg)) = _
      rw [ex, nI_clamp (by omega)]
  | succ k ih =>
    intro hk d i1 j a1 hsc hpd
    have e39 : i1 39 = nI c := by rw [hsc.2 39 (by decide) (by decide), hcc]; exact hI.c39.1
    obtain ⟨m, hm⟩ : ∃ m, m = c + k := ⟨_, rfl⟩
    have em : c + (k + 1) = m + 1 := by omega
    rw [em, nI_pred]
    obtain ⟨i2, j2, a2, sc2, pd2, hD2⟩ := ih (by omega) d i1 j a1 hsc hpd
    rw [← hm] at hD2
    have hml := mlen_in m
    have hmb := mday_b (m := m + 1) (by omega)
    have hms : mday (m + 1) = mday m + mlen m := rfl
    have hI2 := sc2.inv hI
    obtain ⟨i3, a3, sc3, pd3, hD3⟩ := x9_sumDays (E := E) (d := d + 1 + k) (i := i2) (j := j2) (a := a2) (b := b) (w := w) (lo := mday m) (hi := mday m + mlen m) hI2 hw (by rw [sc2.n, sc2.t, sc2.s]; exact pd2) (by omega) (by omega)
    rw [sc2.n, sc2.t, sc2.s] at pd3
    rw [sc2.n, sc2.t, sc2.r, sc2.paidF, sc2.centF] at hD3
    obtain ⟨SP, hSP⟩ : ∃ SP, SP = dSum (tA a w) (rolA a w) (paidA a w) (mday m) (mday m + mlen m) (nA a w) := ⟨_, rfl⟩
    obtain ⟨j3, hj3⟩ : ∃ j3, j3 = va_up (va_up j2 45 (lN SP)) 46 (lN (dSum (tA a w) (rolA a w) (centA i a w) (mday m) (mday m + mlen m) (nA a w))) := ⟨_, rfl⟩
    rw [← hSP, ← hj3] at hD3
    have sc4 := sc2.tr sc3
    have hI3 := sc4.inv hI
    have hFX : FX i a b w (k + 1) = FX i a b w k + b 35 (36 * w + m) + lN SP - lN (dueS a w (mday m) (mlen m)) := by
      show FX i a b w k + b 35 (36 * w + (cl (i 39) + k)) + lN (dSum (tA a w) (rolA a w) (paidA a w) (mday (cl (i 39) + k)) (mday (cl (i 39) + k + 1)) (nA a w)) - lN (dueS a w (mday (cl (i 39) + k)) (mlen (cl (i 39) + k))) = _
      rw [← hcc, ← hm, hSP]
      rfl
    refine ⟨i3, j3, a3, sc4, pd3, ?_⟩
    rw [hFX, show d + 5 + (k + 1) = (d + 5 + k) + 1 by omega]
    have ex : nI 36 * nI w + nI m = nI (36 * w + m) := by rw [pk_mul, nI_add]
    refine am_D_of (Nat.le_of_ble_eq_true rfl) ?_
    refine ev_go 999 rfl trivial ?_
    refine ev_pos (nI_pos' (by omega)) ?_
    refine ev_go 999 rfl trivial ?_
    refine ev_pos (by show i1 39 ≤ nI m; rw [e39]; exact nI_le (by omega) (by omega)) ?_
    refine ev_go 999 rfl trivial ?_
    rw [show d + 5 + k = (d + 3 + k) + 2 by omega]
    refine ev_call0 rfl (Nat.le_of_ble_eq_true rfl) (fun z => by cases z) (x9_firstDay (m := m) (by omega)) ?_
    refine ev_go 999 rfl trivial ?_
    rw [show (d + 3 + k) + 2 = d + 5 + k by omega]
    refine ev_call0 rfl (Nat.le_of_ble_eq_true rfl) (fun _ => ⟨_, _, _, rfl, rfl⟩) hD2 ?_
    refine ev_go 53 rfl ⟨by show vp_in (nI 36 * nI w + nI m) 1080; rw [ex]; exact vp_in_nI (by omega) (by omega), trivial⟩ ?_
    show am_ev _ _ _ (53, [_, _, _, _, some (.long (FX i a b w k + b 35 (nI 36 * nI w + nI m).toNatClampNeg)), _, _], _, _, _, _) _
    rw [ex, nI_clamp (by omega)]
    refine ev_go 999 rfl trivial ?_
    rw [show d + 5 + k = (d + 4 + k) + 1 by omega]
    refine ev_call0 rfl (Nat.le_of_ble_eq_true rfl) (fun z => by cases z) (x9_length (m := m) (by omega)) ?_
    have es : nI (mday m) + nI (mlen m) = nI (mday m + mlen m) := nI_add _ _
    rw [← es, show d + 1 + k + 4 = (d + 4 + k) + 1 by omega] at hD3
    refine ev_go 999 rfl trivial ?_
    refine ev_call0 rfl (Nat.le_of_ble_eq_true rfl) (fun _ => ⟨_, _, _, rfl, rfl⟩) hD3 ?_
    refine ev_go 77 rfl trivial ?_
    have j45 : j3 45 = lN SP := by rw [hj3, va_n (by decide), va_s]
    show am_ev _ _ _ (77, [_, _, _, _, some (.long (FX i a b w k + b 35 (36 * w + m) + j3 45)), _, _], _, _, _, _) _
    rw [j45]
    obtain ⟨X, hX⟩ : ∃ X, X = FX i a b w k + b 35 (36 * w + m) + lN SP := ⟨_, rfl⟩
    rw [← hX]
    have loop : ∀ n q, mlen m - q = n → q ≤ mlen m → am_ev E ((d + 4 + k) + 1) tX9_flexOf (77, [some (.ref 0), some (.int (nI w)), some (.int (nI m)), some (.int (nI (mday m))), some (.long (X - lN (dueS a w (mday m) q))), none, some (.int (nI (mday m + q)))], [], am_L (mo i3 j3 a3 b), 0, 0) (fun v' M'' => v' = some (.long (X - lN (dueS a w (mday m) (mlen m)))) ∧ M'' = am_L (mo i3 j3 a3 b)) := by
      intro n
      induction n with
      | zero =>
        intro q g1 g2
        have e : q = mlen m := by omega
        subst e
        refine ev_go 999 rfl trivial ?_
        refine ev_call0 rfl (Nat.le_of_ble_eq_true rfl) (fun z => by cases z) (x9_length (m := m) (by omega)) ?_
        refine ev_go 999 rfl trivial ?_
        refine ev_pos (by show nI (mday m) + nI (mlen m) ≤ nI (mday m + mlen m); rw [es]; exact nI_le (Nat.le_refl _) (by omega)) ?_
        refine ev_go 999 rfl trivial ?_
        exact ev_ret rfl trivial ⟨rfl, rfl⟩
      | succ n ih3 =>
        intro q g1 g2
        have kk := ih3 (q + 1) (by omega) (by omega)
        have hdu : dueS a w (mday m) (q + 1) = dueS a w (mday m) q + dueA a w (mday m + q) := rfl
        have h36 : mday (m + 1) ≤ 1096 := by
          rcases Nat.lt_or_ge (m + 1) 36 with z | z
          · have := mday_lt z; rw [mday_36] at this; omega
          · rw [show m + 1 = 36 by omega, mday_36]; exact Nat.le_refl _
        have hdl := dueA_le hI (day := mday m + q) hw
        have hdd := x9_dueA (E := E) (d := d + 3 + k) (i := i3) (j := j3) (a := a3) (b := b) (day := mday m + q) hI3 hw (by omega)
        rw [sc4.due, show d + 3 + k + 2 = (d + 4 + k) + 1 by omega] at hdd
        have e64 : X - lN (dueS a w (mday m) (q + 1)) = X - lN (dueS a w (mday m) q) - (nI (dueA a w (mday m + q))).toInt64 := by
          rw [nI_l (by omega), hdu, ← lN_add, Int64.sub_sub]
        rw [e64, ← Nat.add_assoc, ← nI_1 (mday m + q)] at kk
        refine ev_go 999 rfl trivial ?_
        refine ev_call0 rfl (Nat.le_of_ble_eq_true rfl) (fun z => by cases z) (x9_length (m := m) (by omega)) ?_
        refine ev_go 999 rfl trivial ?_
        refine ev_neg (by show ¬ nI (mday m) + nI (mlen m) ≤ nI (mday m + q); rw [es]; exact nI_ge (by omega) (by omega)) ?_
        refine ev_go 999 rfl trivial ?_
        refine ev_call0 rfl (Nat.le_of_ble_eq_true rfl) (fun _ => ⟨_, _, _, rfl, rfl⟩) hdd ?_
        refine ev_go 999 rfl trivial ?_
        exact kk
    have k0 := loop (mlen m) 0 (by omega) (Nat.zero_le _)
    rw [show dueS a w (mday m) 0 = 0 from rfl, show lN 0 = 0 from rfl, Int64.sub_zero] at k0
    exact k0
end Y9
