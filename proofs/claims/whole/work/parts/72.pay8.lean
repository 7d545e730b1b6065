/-! The class's day: its sheet, its pay. -/
def SR (i : Nat → Int32) (a : Nat → Nat → Int32) (G : Nat → Int32) : Prop := ∃ z f t c, i 15 = nI z ∧ RA z (a 16) (a 17) (a 18) f t c ∧ Rp f t c z G
/-- shares by spans -/
theorem Rp.pay {f t c : Nat → Nat} {z ov : Nat} {g : Nat → Int32} {ex : Nat → Nat} (h : Rp f t c z g) : ∀ k, k ≤ z → fb_sm (shN g ov ex) (eE t k) = fb_sm (fun k => if 6 ≤ c k then (10000 + (if c k = 6 then ov else 0)) * (t k - f k) + fb_sm (fun j => ex (f k + j)) (t k - f k) else 0) k
  | 0, _ => rfl
  | k + 1, hk => by
    have ih := h.pay k (by omega) (ov := ov) (ex := ex)
    have a1 := h.eF (k := k) (by omega)
    have a2 := h.lt k (by omega)
    have hb := h.cb k (by omega)
    rw [eE_s, fb_sm_succ, ← ih, show t k = eE t k + ((f k - eE t k) + (t k - f k)) by omega, fb_sm_split, fb_sm_split]
    have z1 : fb_sm (fun q => shN g ov ex (eE t k + q)) (f k - eE t k) = 0 := by
      have : ∀ q, q < f k - eE t k → (fun q => shN g ov ex (eE t k + q)) q = (fun _ => 0) q := fun q hq => by
        show shN g ov ex (eE t k + q) = 0
        unfold shN
        rw [h.gap (k := k) (by omega) (by omega) (by omega), if_neg (by decide)]
      rw [fb_sm_cong this, fb_sm_const]
      omega
    rw [z1, Nat.zero_add, show eE t k + (f k - eE t k + (t k - f k)) - f k = t k - f k by omega]
    congr 1
    have hm : ∀ q, q < t k - f k → g (eE t k + (f k - eE t k + q)) = nI (c k) := fun q hq => h.ins k (by omega) _ (by omega) (by omega)
    by_cases h6 : 6 ≤ c k
    · rw [if_pos h6, Nat.mul_comm, ← fb_sm_const, ← fb_sm_add]
      refine fb_sm_cong (fun q hq => ?_)
      show shN g ov ex (eE t k + (f k - eE t k + q)) = _
      unfold shN
      rw [hm q hq, if_pos (nI_le h6 (by omega)), show eE t k + (f k - eE t k + q) = f k + q by omega]
      by_cases e6 : c k = 6
      · rw [if_pos e6, if_pos (by rw [e6])]
      · rw [if_neg e6, if_neg (by rw [nI_eq (by omega) (by omega)]; exact e6)]
    · rw [if_neg h6]
      have : ∀ q, q < t k - f k → (fun q => shN g ov ex (eE t k + (f k - eE t k + q))) q = (fun _ => 0) q := fun q hq => by
        show shN g ov ex (eE t k + (f k - eE t k + q)) = 0
        unfold shN
        rw [hm q hq, if_neg (nI_ge (by omega) (by omega))]
      rw [fb_sm_cong this, fb_sm_const]
      omega
theorem rp_payN {f t c : Nat → Nat} {z ov : Nat} {g : Nat → Int32} {ex : Nat → Nat} (h : Rp f t c z g) : payN g ov ex 2880 = fb_sm (fun k => if 6 ≤ c k then (10000 + (if c k = 6 then ov else 0)) * (t k - f k) + fb_sm (fun j => ex (f k + j)) (t k - f k) else 0) z := by
  rw [← h.pay z (Nat.le_refl _)]
  unfold payN
  have h8 := h.e8 (Nat.le_refl z)
  rw [show 2880 = eE t z + (2880 - eE t z) by omega, fb_sm_split]
  have : ∀ q, q < 2880 - eE t z → (fun q => shN g ov ex (eE t z + q)) q = (fun _ => 0) q := fun q hq => by
    show shN g ov ex (eE t z + q) = 0
    unfold shN
    rw [h.beh (by omega) (by omega), if_neg (by decide)]
  rw [fb_sm_cong this, fb_sm_const]
  omega
section X8
variable {E : am_E} {d : Nat} {i ri : Nat → Int32} {j : Nat → Int64} {a rA : Nat → Nat → Int32} {b rb : Nat → Nat → Int64} {W : Nat → Option Nat} {g w : Nat}
theorem lift_mk0 {τ : am_T} {as : List Value} {v : Option Value} (h : am_D E d τ as (am_L (mk (i 63) (a 64) (a 65) (a 66))) 0 0 v (am_L (mk (i 63) (a 64) (a 65) (a 66)))) : am_D E d τ (am_rS (am_ro [63, 64, 65, 66]) as) (am_L (xw i j a b W g)) 0 0 (v.map (am_rv (am_ro [63, 64, 65, 66]))) (am_L (xw i j a b W g)) := by
  have := lift_mk (j := j) (b := b) (W := W) (g := g) h
  rw [va_id, va_id, va_id, va_id] at this
  exact this
theorem lift_ra0 {τ : am_T} {as : List Value} {v : Option Value} (h : am_D E d τ as (am_L (ra (i 4) (a 5) (a 6) (a 7))) 0 0 v (am_L (ra (i 4) (a 5) (a 6) (a 7)))) : am_D E d τ (am_rS (am_ro [4, 5, 6, 7]) as) (am_L (xw i j a b W g)) 0 0 (v.map (am_rv (am_ro [4, 5, 6, 7]))) (am_L (xw i j a b W g)) := by
  have := lift_ra (j := j) (b := b) (W := W) (g := g) h
  rw [va_id, va_id, va_id, va_id] at this
  exact this
theorem lift_su0 {τ : am_T} {as : List Value} {v : Option Value} (h : am_D E d τ as (am_L (su (i 8) (a 9) (a 10) (a 11) (a 12) (a 13))) 0 0 v (am_L (su (i 8) (a 9) (a 10) (a 11) (a 12) (a 13)))) : am_D E d τ (am_rS (am_ro [8, 9, 10, 11, 12, 13]) as) (am_L (xw i j a b W g)) 0 0 (v.map (am_rv (am_ro [8, 9, 10, 11, 12, 13]))) (am_L (xw i j a b W g)) := by
  have := lift_su (j := j) (b := b) (W := W) (g := g) h
  rw [va_id, va_id, va_id, va_id, va_id, va_id] at this
  exact this
theorem lift_sh0 {τ : am_T} {as : List Value} {v : Option Value} (h : am_D E d τ as (am_L (sf (i 15) (a 16) (a 17) (a 18) [])) 0 0 v (am_L (sf (i 15) (a 16) (a 17) (a 18) []))) : am_D E d τ (am_rS (am_ro [15, 16, 17, 18]) as) (am_L (xw i j a b W g)) 0 0 (v.map (am_rv (am_ro [15, 16, 17, 18]))) (am_L (xw i j a b W g)) := by
  have := lift_sh (j := j) (b := b) (W := W) (g := g) h
  rw [va_id, va_id, va_id, va_id] at this
  exact this
theorem x8_placeOf {day : Nat} (hw : w < 30) (hd : day < 2000) (hcw : CW i a b rA rb w) (hI : INV ri rA) : ∃ p, p ≤ nA rA w ∧ (∀ q, q < p → tA rA w q < 1440 * day) ∧ (∀ q, p ≤ q → q < nA rA w → 1440 * day ≤ tA rA w q) ∧ am_D E (d + 1) tX1_placeOf [.ref 63, .int (nI (1440 * day))] (am_L (xw i j a b W g)) 0 0 (some (.int (nI p))) (am_L (xw i j a b W g)) := by
  have hM := hcw.ma hI hw
  have n4 := hM.n4
  have hpl := x1_placeOf (E := E) (d := d) (T := a 64) (S := a 65) (R := a 66) (t := nI (1440 * day)) (n := nA rA w) n4
  rw [← hcw.n' hI hw] at hpl
  refine ⟨fa_first (fun k => decide (nI (1440 * day) ≤ a 64 k)) (nA rA w), fa_first_le _ _, fun q hq => ?_, fun q h1 h2 => ?_, lift_mk0 hpl⟩
  · have hqn : q < nA rA w := Nat.lt_of_lt_of_le hq (fa_first_le _ _)
    have h := of_decide_eq_false (fa_first_no _ _ q hq)
    have ht2 := hM.t2 q hqn
    rw [hM.ht q hqn, nI_leI (by omega) (by omega)] at h
    omega
  · have hp : fa_first (fun k => decide (nI (1440 * day) ≤ a 64 k)) (nA rA w) < nA rA w := by omega
    have h := of_decide_eq_true (fa_first_yes (fun k => decide (nI (1440 * day) ≤ a 64 k)) (nA rA w) hp)
    have ht2 := hM.t2 _ hp
    rw [hM.ht _ hp, nI_leI (by omega) (by omega)] at h
    have := inc_le hM.inc h1 h2
    omega
theorem x8_fillA {k day : Nat} (hw : w < 30) (hd : day < 1096) (hk : k ≤ nA rA w) (hk1 : ∀ q, q < k → ¬ (rolA rA w q = 1 ∧ tA rA w q / 1440 = day)) (hk2 : ∀ q, k ≤ q → q < nA rA w → 1440 * day ≤ tA rA w q) (hc : CX i a ri rA) (hcw : CW i a b rA rb w) (hI : INV ri rA) : ∃ i' a', Sx i i' a a' ∧ SR i' a' (dA rA w day) ∧ am_D E (d + 4) tX4_fill [.ref 15, .ref 63, .int (nI k), .int (nI day), .ref (38 + 3 * kdA rA (gA rA w) day)] (am_L (xw i j a b W g)) 0 0 none (am_L (xw i' j a' b W g)) := by
  have hg := hI.gl hw
  have hk8 := hI.kdl (day := day) hg
  obtain ⟨kd, hkd⟩ : ∃ kd, kd = kdA rA (gA rA w) day := ⟨_, rfl⟩
  have hM := hcw.ma hI hw
  obtain ⟨z, F, T, C, f, t, c, r1, r2, r3⟩ := x4_fill (E := E) (d := d) (Z := i 15) (F := a 16) (T := a 17) (C := a 18) (rA := a (39 + 3 * kd)) (rB := a (40 + 3 * kd)) (A := ruA rA kd) (B := rbA rA kd) (day := day) hM hk hd hk1 hk2 (fun q hq => by rw [(hc.ra kd q (by omega) hq).1]; exact (hI.ra kd q (by omega) hq).1) (fun q hq => by rw [(hc.ra kd q (by omega) hq).2]; exact (hI.rb kd q (by omega) hq).1) (hI.r0 kd (by omega)) (fun q hq => (hI.ra kd q (by omega) hq).2) (fun q hq => (hI.rb kd q (by omega) hq).2)
  rw [← hcw.n' hI hw] at r3
  have h4 := lift_sf (j := j) (b := b) (W := W) (g := g) (kd := kd) (by omega) r3
  rw [← hkd]
  refine ⟨_, _, Sx.sh, ⟨z, f, t, c, va_s, ?_, by unfold dA; rw [← hkd]; exact r2⟩, h4⟩
  rw [va_n (show (16 : Nat) ≠ 18 by decide), va_n (show (16 : Nat) ≠ 17 by decide), va_s, va_n (show (17 : Nat) ≠ 18 by decide), va_s, va_s]
  exact r1
theorem x8_fillSheet {day : Nat} (hw : w < 30) (hd : day < 1096) (hc : CX i a ri rA) (hcw : CW i a b rA rb w) (hI : INV ri rA) : ∃ i' a', Sx i i' a a' ∧ SR i' a' (dA rA w day) ∧ am_D E (d + 5) tX8_fillSheet [.ref 0, .ref 62, .int (nI day)] (am_L (xw i j a b W (gA rA w))) 0 0 none (am_L (xw i' j a' b W (gA rA w))) := by
  have hg := hI.gl hw
  have hk8 := hI.kdl (day := day) hg
  obtain ⟨p, p1, p2, p3, p4⟩ := x8_placeOf (E := E) (d := d + 3) (j := j) (W := W) (g := gA rA w) (day := day) hw (by omega) hcw hI
  obtain ⟨i', a', sx, sr, hF⟩ := x8_fillA (E := E) (d := d) (j := j) (W := W) (g := gA rA w) (day := day) hw hd p1 (fun q hq y => by have := p2 q hq; omega) p3 hc hcw hI
  refine ⟨i', a', sx, sr, ?_⟩
  have hto := x8_timeOf (E := E) (d := d + 3) (M := am_L (xw i j a b W (gA rA w))) (x := nI day) (y := nI 0)
  rw [pk_mul, nI_add, Nat.add_zero] at hto
  have hkd := x8_kindOf (E := E) (d := d + 3) (j := j) (b := b) (W := W) (g := gA rA w) (day := day) hg hd hc hI
  refine am_D_of (Nat.le_of_ble_eq_true rfl) ?_
  refine ev_go 999 rfl trivial ?_
  refine ev_call0 rfl (Nat.le_of_ble_eq_true rfl) (fun z => by cases z) hto ?_
  refine ev_go 999 rfl trivial ?_
  refine ev_call0 rfl (Nat.le_of_ble_eq_true rfl) (fun _ => ⟨_, _, _, rfl, rfl⟩) p4 ?_
  refine ev_go 999 rfl trivial ?_
  refine ev_call0 rfl (Nat.le_of_ble_eq_true rfl) (fun _ => ⟨_, _, _, rfl, rfl⟩) hkd ?_
  refine ev_aa (v := .ref (38 + 3 * kdA rA (gA rA w) day)) rfl rfl (by omega) (by omega) (vp_in_nI hk8 (by omega)) (by rw [nI_clamp (by omega)]; unfold ruf; rw [if_pos hk8]; rfl) ?_
  refine ev_call0 rfl (Nat.le_of_ble_eq_true rfl) (fun _ => ⟨_, _, _, rfl, rfl⟩) hF ?_
  exact ev_ret rfl trivial ⟨rfl, rfl⟩
theorem x8_toCents {x : Nat} {M : am_M} (hx : x < 2 ^ 60) : am_D E (d + 1) tX8_toCents [.long (lN x)] M 0 0 (some (.long (lN (centsN x)))) M := by
  have ne : ¬ lN 600000 = 0 := by decide
  have ne2 : ¬ lN 2 = 0 := by decide
  have hxm : x % 600000 < 600000 := Nat.mod_lt _ (by omega)
  have e1 : lN x / lN 600000 = lN (x / 600000) := pk_lDiv (by omega) (by omega) (by omega)
  have e2 : (lN x - lN x / lN 600000 * lN 600000) * lN 2 = lN (x % 600000 * 2) := by rw [pk_lRem (by omega) (by omega) (by omega), lN_mul]
  have up : (300000 < x % 600000 ∨ (x % 600000 = 300000 ∧ x / 600000 % 2 = 1)) → am_ev E d tX8_toCents (45, [some (.long (lN x)), none, some (.long (lN (x / 600000))), none, some (.long (lN (x % 600000 * 2))), none, none], [], M, 0, 0) (fun v' M'' => v' = some (.long (lN (centsN x))) ∧ M'' = M) := fun z => by
    refine ev_go 999 rfl trivial ?_
    refine ev_go 999 rfl trivial ?_
    refine ev_neg (by decide) ?_
    refine ev_go 999 rfl trivial ?_
    refine ev_ret rfl trivial ⟨?_, rfl⟩
    unfold centsN
    rw [if_pos z, ← lN_1]
    rfl
  have dn : ¬ (300000 < x % 600000 ∨ (x % 600000 = 300000 ∧ x / 600000 % 2 = 1)) → am_ev E d tX8_toCents (49, [some (.long (lN x)), none, some (.long (lN (x / 600000))), none, some (.long (lN (x % 600000 * 2))), none, none], [], M, 0, 0) (fun v' M'' => v' = some (.long (lN (centsN x))) ∧ M'' = M) := fun z => by
    refine ev_go 999 rfl trivial ?_
    refine ev_pos (by decide) ?_
    refine ev_go 999 rfl trivial ?_
    refine ev_ret rfl trivial ⟨?_, rfl⟩
    unfold centsN
    rw [if_neg z]
  refine am_D_of (Nat.le_of_ble_eq_true rfl) ?_
  refine ev_go 17 rfl ⟨ne, ne, trivial⟩ ?_
  show am_ev _ _ _ (17, [_, _, some (.long (lN x / lN 600000)), _, some (.long ((lN x - lN x / lN 600000 * lN 600000) * lN 2)), _, _], _, _, _, _) _
  rw [e2, e1]
  refine ev_go 999 rfl trivial ?_
  refine ev_if (fun h => ?_) (fun h => ?_)
  · have h : 0 < lg_cmp (lN (x % 600000 * 2)) (lN 600000) := h
    rw [lg_cmp_gt, pk_lLT (by omega) (by omega)] at h
    exact up (Or.inl (by omega))
  · have h1 : ¬ 0 < lg_cmp (lN (x % 600000 * 2)) (lN 600000) := h
    rw [lg_cmp_gt, pk_lLT (by omega) (by omega)] at h1
    refine ev_go 999 rfl trivial ?_
    refine ev_if (fun h => ?_) (fun h => ?_)
    · have h : ¬ lg_cmp (lN (x % 600000 * 2)) (lN 600000) = 0 := h
      rw [lg_cmp_eq, pk_lEQ (by omega) (by omega)] at h
      exact dn (fun z => by omega)
    · have h2 : ¬ ¬ lg_cmp (lN (x % 600000 * 2)) (lN 600000) = 0 := h
      rw [lg_cmp_eq, pk_lEQ (by omega) (by omega)] at h2
      refine ev_go 999 rfl ⟨ne2, trivial⟩ ?_
      refine ev_if (fun h => ?_) (fun h => ?_)
      · have h : lg_cmp (lN (x / 600000) - lN (x / 600000) / lN 2 * lN 2) (lN 0) = 0 := h
        rw [lg_cmp_eq, pk_lRem (by omega) (by omega) (by omega), pk_lEQ (by omega) (by omega)] at h
        exact dn (fun z => by omega)
      · have h : ¬ lg_cmp (lN (x / 600000) - lN (x / 600000) / lN 2 * lN 2) (lN 0) = 0 := h
        rw [lg_cmp_eq, pk_lRem (by omega) (by omega) (by omega), pk_lEQ (by omega) (by omega)] at h
        exact up (Or.inr (by omega))
theorem xw_ru {kd : Nat} (h : kd < 8) : (am_L (xw i j a b W g)).2 (38 + 3 * kd) = some (.inr (3, [.ref (39 + 3 * kd), .ref (40 + 3 * kd)])) ∧ (am_L (xw i j a b W g)).2 (39 + 3 * kd) = some (.inl (0, 5, .inl (a (39 + 3 * kd)))) ∧ (am_L (xw i j a b W g)).2 (40 + 3 * kd) = some (.inl (0, 5, .inl (a (40 + 3 * kd)))) := by
  rcases (show kd = 0 ∨ kd = 1 ∨ kd = 2 ∨ kd = 3 ∨ kd = 4 ∨ kd = 5 ∨ kd = 6 ∨ kd = 7 by omega) with e | e | e | e | e | e | e | e <;> subst e <;> exact ⟨rfl, rfl, rfl⟩
theorem xw_gr {h : Nat} (hh : h < 6) : (am_L (xw i j a b W g)).2 (20 + 3 * h) = some (.inr (0, [.int (i (20 + 3 * h)), .ref (21 + 3 * h), .ref (22 + 3 * h), .int (i (21 + 3 * h)), .int (i (22 + 3 * h))])) ∧ (am_L (xw i j a b W g)).2 (21 + 3 * h) = some (.inl (0, 8, .inl (a (21 + 3 * h)))) ∧ (am_L (xw i j a b W g)).2 (22 + 3 * h) = some (.inl (0, 7, .inl (a (22 + 3 * h)))) := by
  rcases (show h = 0 ∨ h = 1 ∨ h = 2 ∨ h = 3 ∨ h = 4 ∨ h = 5 by omega) with e | e | e | e | e | e <;> subst e <;> exact ⟨rfl, rfl, rfl⟩
theorem x8_payOfSheet {h day : Nat} {G : Nat → Int32} (hh : h < 6) (hd : day < 1096) (hc : CX i a ri rA) (hI : INV ri rA) (hG : SR i a G) : am_D E (d + 4) tX8_payOfSheet [.ref 0, .ref (20 + 3 * h), .int (nI day)] (am_L (xw i j a b W g)) 0 0 (some (.long (lN (centsN (payN G (rbA rA (kdA rA h day) 4) (exA rA (kdA rA h day) (cl (ri 15)) (pA rA)) 2880 * rtA ri rA h day))))) (am_L (xw i j a b W g)) := by
  obtain ⟨z, f, t, c, hz, hR, hr⟩ := hG
  have hz8 := hR.1
  have hk8 := hI.kdl (day := day) hh
  obtain ⟨kd, hkd⟩ : ∃ kd, kd = kdA rA h day := ⟨_, rfl⟩
  have hkc := x8_kindOf (E := E) (d := d + 2) (j := j) (b := b) (W := W) (g := g) (day := day) hh hd hc hI
  rw [← hkd] at hk8 hkc ⊢
  obtain ⟨ov, hov⟩ : ∃ ov, ov = rbA rA kd 4 := ⟨_, rfl⟩
  have hb4 := hI.rb kd 4 hk8 (by omega)
  have hovb : ov ≤ 20000 := by rw [hov]; exact hb4.2
  have e4 : a (40 + 3 * kd) (nI 4).toNatClampNeg = nI ov := by rw [nI_clamp (by omega), (hc.ra kd 4 hk8 (by omega)).2, hov]; exact hb4.1
  obtain ⟨ex, hex⟩ : ∃ ex, ex = exA rA kd (cl (ri 15)) (pA rA) := ⟨_, rfl⟩
  have hexb : ∀ m, ex m ≤ 240000 := fun m => by rw [hex]; exact exA_le hI.su
  have hSV := hc.sv hI
  have h12 := hI.s15.2
  rw [← hov, ← hex, rp_payN hr]
  obtain ⟨Q, hQ⟩ : ∃ Q : Nat → Nat, Q = fun k => if 6 ≤ c k then (10000 + (if c k = 6 then ov else 0)) * (t k - f k) + fb_sm (fun j => ex (f k + j)) (t k - f k) else 0 := ⟨_, rfl⟩
  rw [← hQ]
  have hrt := hI.rt h day
  obtain ⟨rt, hrtd⟩ : ∃ rt, rt = rtA ri rA h day := ⟨_, rfl⟩
  rw [← hrtd] at hrt ⊢
  have hQb : ∀ k, k < z → Q k ≤ 270000 * 2880 := fun k hk => by
    have hl := hr.lt k hk
    rw [hQ]
    dsimp only
    split
    · have b1 : fb_sm (fun j => ex (f k + j)) (t k - f k) ≤ (t k - f k) * 240000 := fb_sm_bound (fun q _ => hexb _)
      have b2 : (10000 + (if c k = 6 then ov else 0)) * (t k - f k) ≤ 30000 * (t k - f k) := Nat.mul_le_mul_right _ (by split <;> omega)
      omega
    · omega
  have hSb : fb_sm Q z ≤ 805 * (270000 * 2880) := Nat.le_trans (fb_sm_bound hQb) (Nat.mul_le_mul_right _ hz8)
  have hSr : fb_sm Q z * rt ≤ 805 * (270000 * 2880) * 100000 := Nat.mul_le_mul hSb hrt.2
  have loop : ∀ n k, z - k = n → k ≤ z → ∀ o7 o8, am_ev E (d + 3) tX8_payOfSheet (13, [some (.ref 0), some (.ref (20 + 3 * h)), some (.int (nI day)), some (.int (nI kd)), some (.long (lN (fb_sm Q k))), none, some (.int (nI k)), o7, o8], [], am_L (xw i j a b W g), 0, 0) (fun v' M'' => v' = some (.long (lN (centsN (fb_sm Q z * rt)))) ∧ M'' = am_L (xw i j a b W g)) := by
    intro n
    induction n with
    | zero =>
      intro k e1 e2 o7 o8
      have e : k = z := by omega
      rw [e]
      refine ev_go 999 rfl trivial ?_
      refine ev_pos (by show i 15 ≤ nI z; rw [hz]; exact nI_le (Nat.le_refl _) (by omega)) ?_
      have hat := x2_at (E := E) (d := d + 2) (G := a 5) (D := a 6) (A := a 7) (n := cl (ri 9)) (g := nI h) (day := nI day) hI.r9.2 (fun k hk => by rw [(hc.rt k hk).2.1, ((hI.rd k hk).1).1]; exact nI_pos' (by have := ((hI.rd k hk).1).2; omega))
      have hrb : ∀ n, n ≤ cl (ri 9) → rbest (a 5) (a 6) (nI h) (nI day) n = rbest (rA 5) (rA 6) (nI h) (nI day) n := by
        intro n
        induction n with
        | zero => intro _; rfl
        | succ n ihn =>
          intro hn
          unfold rbest
          rw [ihn (by omega), (hc.rt n (by omega)).1, (hc.rt n (by omega)).2.1]
          cases hb : rbest (rA 5) (rA 6) (nI h) (nI day) n with
          | none => rfl
          | some q =>
            have := rbest_lt hb
            dsimp only
            rw [(hc.rt q (by omega)).2.1]
      have hrc : rcents (a 7) (rbest (a 5) (a 6) (nI h) (nI day) (cl (ri 9))) = nI rt := by
        rw [hrb _ (Nat.le_refl _), ← hrt.1]
        cases hb : rbest (rA 5) (rA 6) (nI h) (nI day) (cl (ri 9)) with
        | none => rfl
        | some q => exact (hc.rt q (rbest_lt hb)).2.2
      have e9 : i 4 = nI (cl (ri 9)) := by rw [hc.i4]; exact hI.r9.1
      rw [hrc, ← e9] at hat
      have hat2 := lift_ra0 (j := j) (b := b) (W := W) (g := g) hat
      have htc := x8_toCents (E := E) (d := d + 2) (x := fb_sm Q z * rt) (M := am_L (xw i j a b W g)) (by omega)
      have e64 : lN (fb_sm Q z * rt) = lN (fb_sm Q z) * (nI rt).toInt64 := by rw [nI_l (by have := hrt.2; omega), lN_mul]
      rw [e64] at htc
      refine ev_go 153 rfl trivial ?_
      refine ev_gf (ci := 0) (k := 0) rfl rfl (xw_gr hh).1 rfl ?_
      rw [(hc.gn h hh).1]
      refine ev_go 999 rfl trivial ?_
      refine ev_call0 rfl (Nat.le_of_ble_eq_true rfl) (fun _ => ⟨_, _, _, rfl, rfl⟩) hat2 ?_
      refine ev_go 999 rfl trivial ?_
      refine ev_call0 rfl (Nat.le_of_ble_eq_true rfl) (fun z => by cases z) htc ?_
      exact ev_ret rfl trivial ⟨rfl, rfl⟩
    | succ n ih =>
      intro k e1 e2 o7 o8
      have hk : k < z := by omega
      obtain ⟨hF, hT, hC⟩ := hR.2 k hk
      have hb := hr.cb k hk
      have hl := hr.lt k hk
      have vk : vp_in (nI k) 805 := vp_in_nI (by omega) (by omega)
      have ck : (nI k).toNatClampNeg = k := nI_clamp (by omega)
      have kk := ih (k + 1) (by omega) (by omega)
      rw [fb_sm_succ, ← nI_1 k] at kk
      refine ev_go 999 rfl trivial ?_
      refine ev_neg (by show ¬ i 15 ≤ nI k; rw [hz]; exact nI_ge hk (by omega)) ?_
      refine ev_go 999 rfl ⟨vk, trivial⟩ ?_
      by_cases h6 : 6 ≤ c k
      · refine ev_neg (by show ¬ a 18 (nI k).toNatClampNeg < nI 6; rw [ck, hC]; exact nI_nlt h6 (by omega)) ?_
        obtain ⟨o, ho⟩ : ∃ o, o = if c k = 6 then ov else 0 := ⟨_, rfl⟩
        have hob : o ≤ 20000 := by rw [ho]; split <;> omega
        obtain ⟨X, hX⟩ : ∃ X, X = fb_sm (fun j => ex (f k + j)) (t k - f k) := ⟨_, rfl⟩
        have eQ : Q k = (10000 + o) * (t k - f k) + X := by rw [hQ]; dsimp only; rw [if_pos h6, ho, hX]
        have htf : a 17 (nI k).toNatClampNeg - a 16 (nI k).toNatClampNeg = nI (t k - f k) := by rw [ck, hT, hF, pk_sub (by omega)]
        have hxo := x5_extraOver (E := E) (d := d) (X := a 13) (xs := fun s => cl (a 13 s)) (kd := kd) (lo := f k) (hi := t k) hSV (fun s hs => (hc.ex s (by omega)).1) hk8 (by omega) (by omega)
        have hxx : (fun j => exV (a 9) (a 10) (a 11) (a 12) (fun s => cl (a 13 s)) (pA rA) kd (cl (ri 15)) (f k + j)) = fun j => ex (f k + j) := by funext q; rw [hc.exv hI, hex]
        have e15 : i 8 = nI (cl (ri 15)) := by rw [hc.i8]; exact hI.s15.1
        have eF : a 16 (nI k).toNatClampNeg = nI (f k) := by rw [ck, hF]
        have eT : a 17 (nI k).toNatClampNeg = nI (t k) := by rw [ck, hT]
        rw [hxx, ← hX, ← e15, ← eF, ← eT] at hxo
        have hxo2 := lift_su0 (j := j) (b := b) (W := W) (g := g) hxo
        rw [eQ] at kk
        have e64 : lN (fb_sm Q k + ((10000 + o) * (t k - f k) + X)) = lN (fb_sm Q k) + (nI 10000 + nI o).toInt64 * (a 17 (nI k).toNatClampNeg - a 16 (nI k).toNatClampNeg).toInt64 + lN X := by
          rw [htf, nI_add, nI_l (by omega), nI_l (by omega), lN_mul, lN_add, lN_add, Nat.add_assoc]
        rw [e64] at kk
        have tail : am_ev E (d + 3) tX8_payOfSheet (73, [some (.ref 0), some (.ref (20 + 3 * h)), some (.int (nI day)), some (.int (nI kd)), some (.long (lN (fb_sm Q k))), none, some (.int (nI k)), o7, o8], [.int (nI o), .int (nI 10000)], am_L (xw i j a b W g), 0, 0) (fun v' M'' => v' = some (.long (lN (centsN (fb_sm Q z * rt)))) ∧ M'' = am_L (xw i j a b W g)) := by
          refine ev_go 999 rfl ⟨vk, vk, vk, vk, trivial⟩ ?_
          refine ev_call0 rfl (Nat.le_of_ble_eq_true rfl) (fun _ => ⟨_, _, _, rfl, rfl⟩) hxo2 ?_
          refine ev_go 999 rfl trivial ?_
          exact kk _ _
        refine ev_go 999 rfl ⟨vk, trivial⟩ ?_
        by_cases h66 : c k = 6
        · refine ev_neg (by show ¬ ¬ a 18 (nI k).toNatClampNeg = nI 6; rw [ck, hC, h66]; exact fun y => y rfl) ?_
          rw [ho, if_pos h66, ← e4] at tail
          refine ev_go 999 rfl trivial ?_
          refine ev_aa (v := .ref (38 + 3 * kd)) rfl rfl (by omega) (by omega) (vp_in_nI hk8 (by omega)) (by rw [nI_clamp (by omega)]; unfold ruf; rw [if_pos hk8]; rfl) ?_
          refine ev_gf (ci := 3) (k := 1) rfl rfl (xw_ru hk8).1 rfl ?_
          refine ev_go 68 rfl trivial ?_
          refine ev_ia rfl (xw_ru hk8).2.2 (vp_in_nI (n := 4) (by omega) (by omega)) ?_
          refine ev_go 999 rfl trivial ?_
          exact tail
        · refine ev_pos (by show ¬ a 18 (nI k).toNatClampNeg = nI 6; rw [ck, hC, nI_eq (by omega) (by omega)]; exact h66) ?_
          rw [ho, if_neg h66] at tail
          refine ev_go 73 rfl trivial ?_
          exact tail
      · refine ev_pos (by show a 18 (nI k).toNatClampNeg < nI 6; rw [ck, hC]; exact nI_lt (by omega) (by omega)) ?_
        rw [show Q k = 0 by rw [hQ]; dsimp only; rw [if_neg h6], Nat.add_zero] at kk
        refine ev_go 999 rfl trivial ?_
        exact kk _ _
  refine am_D_of (Nat.le_of_ble_eq_true rfl) ?_
  refine ev_go 999 rfl trivial ?_
  refine ev_call0 rfl (Nat.le_of_ble_eq_true rfl) (fun _ => ⟨_, _, _, rfl, rfl⟩) hkc ?_
  refine ev_go 13 rfl trivial ?_
  exact loop z 0 (by omega) (Nat.zero_le _) none none
end X8
