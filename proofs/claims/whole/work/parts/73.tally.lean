/-! The class adds up days. -/
section X8
variable {E : am_E} {d : Nat} {i ri : Nat → Int32} {j : Nat → Int64} {a rA : Nat → Nat → Int32} {b rb : Nat → Nat → Int64} {W : Nat → Option Nat} {g w : Nat}
theorem xw_j0 (x : Int64) : am_w (am_L (xw i j a b W g)) 19 (.inr (6, [.long (j 0), .long (j 1)].set 0 (.long x))) = am_L (xw i (va_up j 0 x) a b W g) := by rw [am_w_L (Nat.le_of_ble_eq_true rfl)]; rfl
theorem xw_j1 (x : Int64) : am_w (am_L (xw i j a b W g)) 19 (.inr (6, [.long (j 0), .long (j 1)].set 1 (.long x))) = am_L (xw i (va_up j 1 x) a b W g) := by rw [am_w_L (Nat.le_of_ble_eq_true rfl)]; rfl
theorem dn_le {dn D : Nat} (h1 : dn < 2 ^ 30) (h2 : D < 2 ^ 30) : nI D ≤ nI dn - Int32.ofInt 1 ↔ ¬ dn ≤ D := by
  rw [fa_le, nI_toInt (by omega)]
  have h := pk_sub_toInt (a := dn) (b := 1) h1 (by omega)
  have h : (nI dn - Int32.ofInt 1).toInt = (dn : Int) - 1 := h
  rw [h]
  omega
theorem fsD_f1 {t r : Nat → Nat} {k : Nat} (h : r k ≠ 1) : fsD t r k = false := by unfold fsD; rw [decide_eq_false h, Bool.false_and]
theorem x8_amount67 {G : Nat → Int32} {lo hi : Nat} (hG : SR i a G) (h1 : 1 ≤ lo) (h2 : lo < 1000) (h3 : hi < 1000) : am_D E (d + 1) tX4_amountOf [.ref 15, .int (nI lo), .int (nI hi)] (am_L (xw i j a b W g)) 0 0 (some (.int (nI (fb_ct (fun m => decide (nI lo ≤ G m) && decide (G m ≤ nI hi)) 2880)))) (am_L (xw i j a b W g)) := by
  obtain ⟨z, f, t, c, hz, hR, hr⟩ := hG
  have h := x4_amountOf (E := E) (d := d) (X := []) (lo := lo) (hi := hi) hR hr h2 h3
  rw [hr.amt h1 h2 h3, ← hz] at h
  exact lift_sh0 h
theorem SR.g7 {G : Nat → Int32} (h : SR i a G) {m : Nat} (hm : m < 2880) : ∃ q, G m = nI q ∧ q ≤ 7 := by
  obtain ⟨z, f, t, c, _, _, hr⟩ := h
  exact hr.g7 hm
theorem SR.up {G : Nat → Int32} (h : SR i a G) {v : Nat} (h2 : v ≤ 7) : fb_ct (fun m => decide (nI v ≤ G m) && decide (G m ≤ nI 7)) 2880 = cntF G v 2880 := by
  refine fb_ct_cong (fun m hm => ?_)
  obtain ⟨q, hq, hq7⟩ := h.g7 hm
  rw [hq, ← Bool.decide_and]
  refine decide_eq_decide.mpr ?_
  rw [nI_leI (by omega) (by omega), nI_leI (by omega) (by omega)]
  omega
theorem SR.one {G : Nat → Int32} (h : SR i a G) {v : Nat} (h2 : v ≤ 7) : fb_ct (fun m => decide (nI v ≤ G m) && decide (G m ≤ nI v)) 2880 = cntC G (nI v) 2880 := by
  refine fb_ct_cong (fun m hm => ?_)
  obtain ⟨q, hq, hq7⟩ := h.g7 hm
  rw [hq, ← Bool.decide_and]
  refine decide_eq_decide.mpr ?_
  rw [nI_leI (by omega) (by omega), nI_leI (by omega) (by omega), nI_eq (by omega) (by omega)]
  omega
/-- the day ahead of dn was the latest that was added, or none was -/
def dnQ (t r : Nat → Nat) (lo dn k : Nat) : Prop := dn = lo ∨ ∃ q, q < k ∧ r q = 1 ∧ t q / 1440 + 1 = dn
theorem dnQ.up {t r : Nat → Nat} {lo dn k : Nat} (h : dnQ t r lo dn k) : dnQ t r lo dn (k + 1) := by
  rcases h with u | ⟨q, q1, q2, q3⟩
  · exact Or.inl u
  · exact Or.inr ⟨q, by omega, q2, q3⟩
theorem x8_tallyDays {lo hi : Nat} (hw : w < 30) (hlo : lo < 2000) (hhi : hi < 2000) (hc : CX i a ri rA) (hcw : CW i a b rA rb w) (hI : INV ri rA) : ∃ i' a', Sx i i' a a' ∧ am_D E (d + 6) tX8_tallyDays [.ref 0, .ref 62, .int (nI lo), .int (nI hi)] (am_L (xw i j a b W (gA rA w))) 0 0 none (am_L (xw i' (va_up (va_up j 0 (lN (dSum (tA rA w) (rolA rA w) (paidA rA w) lo hi (nA rA w)))) 1 (lN (dSum (tA rA w) (rolA rA w) (centA ri rA w) lo hi (nA rA w)))) a' b W (gA rA w))) := by
  have hg := hI.gl hw
  have hM := hcw.ma hI hw
  have n4 := hM.n4
  obtain ⟨n, hn⟩ : ∃ n, n = nA rA w := ⟨_, rfl⟩
  obtain ⟨t, ht⟩ : ∃ t, t = tA rA w := ⟨_, rfl⟩
  obtain ⟨r, hr⟩ : ∃ r, r = rolA rA w := ⟨_, rfl⟩
  rw [← hn] at n4
  have hti : ∀ q k, q ≤ k → k < n → t q ≤ t k := fun q k h1 h2 => by rw [ht]; exact inc_le hM.inc h1 (by rw [← hn]; exact h2)
  have ht2 : ∀ k, k < n → t k < 1578240 := fun k hk => by rw [ht]; exact hM.t2 k (by rw [← hn]; exact hk)
  obtain ⟨SP, hSP⟩ : ∃ f : Nat → Nat, f = dSum t r (paidA rA w) lo hi := ⟨_, rfl⟩
  obtain ⟨SC, hSC⟩ : ∃ f : Nat → Nat, f = dSum t r (centA ri rA w) lo hi := ⟨_, rfl⟩
  obtain ⟨p, p1, p2, p3, p4⟩ := x8_placeOf (E := E) (d := d + 4) (i := i) (j := va_up (va_up j 0 0) 1 0) (W := W) (g := gA rA w) (day := lo) hw hlo hcw hI
  rw [← hn, ← ht] at p3
  rw [← ht] at p2
  rw [← hn] at p1
  rw [← hn, ← ht, ← hr, ← hSP, ← hSC]
  obtain ⟨P, hP⟩ : ∃ P : Option Value → am_M → Prop, P = fun v M => v = none ∧ ∃ i' a', Sx i i' a a' ∧ M = am_L (xw i' (va_up (va_up j 0 (lN (SP n))) 1 (lN (SC n))) a' b W (gA rA w)) := ⟨_, rfl⟩
  have loop : ∀ m k, n - k = m → p ≤ k → k ≤ n → ∀ i1 a1 dn o7, Sx i i1 a a1 → lo ≤ dn → dn < 5000 → (∀ q, q < k → r q = 1 → lo ≤ t q / 1440 → t q / 1440 < dn) → dnQ t r lo dn k → am_ev E (d + 5) tX8_tallyDays (39, [some (.ref 0), some (.ref 62), some (.int (nI lo)), some (.int (nI hi)), some (.ref 63), some (.int (nI dn - Int32.ofInt 1)), some (.int (nI k)), o7], [], am_L (xw i1 (va_up (va_up j 0 (lN (SP k))) 1 (lN (SC k))) a1 b W (gA rA w)), 0, 0) P := by
    intro m
    induction m with
    | zero =>
      intro k e1 e2 e3 i1 a1 dn o7 sx l1 l2 l3 l4
      have e : k = n := by omega
      rw [e]
      have hcw1 := sx.cw hcw
      refine ev_go 999 rfl trivial ?_
      refine ev_pos (by show i1 63 ≤ nI n; rw [hcw1.n' hI hw, ← hn]; exact nI_le (Nat.le_refl _) (by omega)) ?_
      refine ev_ret rfl trivial ?_
      rw [hP]
      exact ⟨rfl, i1, a1, sx, rfl⟩
    | succ m ih =>
      intro k e1 e2 e3 i1 a1 dn o7 sx l1 l2 l3 l4
      have hk : k < n := by omega
      have hc1 := sx.cx hc
      have hcw1 := sx.cw hcw
      have hM1 := hcw1.ma hI hw
      have vk : vp_in (nI k) 400 := vp_in_nI (by omega) (by omega)
      have ck : (nI k).toNatClampNeg = k := nI_clamp (by omega)
      have htk := ht2 k hk
      have hday := p3 k e2 hk
      obtain ⟨D, hD⟩ : ∃ D, D = t k / 1440 := ⟨_, rfl⟩
      have hD2 : D < 1096 := by omega
      obtain ⟨J, hJ⟩ : ∃ J, J = va_up (va_up j 0 (lN (SP k))) 1 (lN (SC k)) := ⟨_, rfl⟩
      have hdo := x1_dayOf (E := E) (d := d + 4) (T := a1 64) (S := a1 65) (R := a1 66) (z := i1 63) (k := k) (by omega)
      have eTk : a1 64 k = nI (t k) := by rw [hM1.ht k (by rw [← hn]; exact hk), ht]
      rw [eTk, pk_div (by omega) (by omega) (by omega), ← hD] at hdo
      have hdo2 := lift_mk0 (j := J) (b := b) (W := W) (g := gA rA w) hdo
      have hlD : lo ≤ D := by omega
      have sP : SP (k + 1) = SP k + (if fsD t r k = true ∧ lo ≤ D ∧ D < hi then paidA rA w D else 0) := by rw [hSP, hD]; rfl
      have sC : SC (k + 1) = SC k + (if fsD t r k = true ∧ lo ≤ D ∧ D < hi then centA ri rA w D else 0) := by rw [hSC, hD]; rfl
      have eR : a1 66 (nI k).toNatClampNeg = nI (r k) := by rw [ck, hM1.hr k (by rw [← hn]; exact hk), hr]
      have r4 : r k ≤ 4 := by rw [hr]; exact pR_le _ _ _ _
      rw [← hJ]
      refine ev_go 999 rfl trivial ?_
      refine ev_neg (by show ¬ i1 63 ≤ nI k; rw [hcw1.n' hI hw, ← hn]; exact nI_ge hk (by omega)) ?_
      refine ev_go 999 rfl trivial ?_
      refine ev_call0 rfl (Nat.le_of_ble_eq_true rfl) (fun _ => ⟨_, _, _, rfl, rfl⟩) hdo2 ?_
      refine ev_go 999 rfl trivial ?_
      by_cases hDh : D < hi
      · refine ev_neg (nI_ge hDh (by omega)) ?_
        refine ev_go 999 rfl trivial ?_
        refine ev_call0 rfl (Nat.le_of_ble_eq_true rfl) (fun _ => ⟨_, _, _, rfl, rfl⟩) hdo2 ?_
        have skip : fsD t r k = false → (r k = 1 → D < dn) → am_ev E (d + 5) tX8_tallyDays (166, [some (.ref 0), some (.ref 62), some (.int (nI lo)), some (.int (nI hi)), some (.ref 63), some (.int (nI dn - Int32.ofInt 1)), some (.int (nI k)), some (.int (nI D))], [], am_L (xw i1 J a1 b W (gA rA w)), 0, 0) P := fun hf hr1 => by
          have kk := ih (k + 1) (by omega) (by omega) (by omega) i1 a1 dn (some (.int (nI D))) sx l1 l2 (fun q hq q1 q2 => by
            rcases Nat.lt_or_ge q k with u | u
            · exact l3 q u q1 q2
            · have eq : q = k := by omega
              rw [eq] at q1 ⊢
              rw [← hD]; exact hr1 q1) l4.up
          rw [sP, sC, hf, if_neg (fun y => by cases y.1), if_neg (fun y => by cases y.1), Nat.add_zero (SP k), Nat.add_zero (SC k), ← hJ, ← nI_1 k] at kk
          refine ev_go 999 rfl trivial ?_
          exact kk
        refine ev_go 999 rfl ⟨vk, trivial⟩ ?_
        by_cases hr1 : r k = 1
        · refine ev_neg (by show ¬ ¬ a1 66 (nI k).toNatClampNeg = nI 1; rw [eR, hr1]; exact fun y => y rfl) ?_
          refine ev_go 999 rfl trivial ?_
          by_cases hdn : dn ≤ D
          · refine ev_neg (by show ¬ nI D ≤ nI dn - Int32.ofInt 1; rw [dn_le (by omega) (by omega)]; exact fun y => y hdn) ?_
            have hf : fsD t r k = true := by
              unfold fsD
              rw [decide_eq_true hr1, Bool.true_and]
              refine decide_eq_true (fun q hq y => ?_)
              have := l3 q hq y.1 (by omega)
              omega
            obtain ⟨i2, a2, sx2, sr, hF⟩ := x8_fillA (E := E) (d := d + 1) (i := i1) (j := J) (a := a1) (W := W) (g := gA rA w) (k := k) (day := D) hw hD2 (by omega) (fun q hq y => by
              have hfs := of_decide_eq_true ((Bool.and_eq_true_iff.mp hf).2)
              rw [hr, ht] at hfs
              rw [hD, ht] at y
              exact hfs q hq y) (fun q h1 h2 => by
              rw [← hn] at h2
              have := hti k q h1 h2
              rw [← ht]
              omega) hc1 hcw1 hI
            have hc2 := sx2.cx hc1
            have hk8 := hI.kdl (day := D) hg
            have hkd := x8_kindOf (E := E) (d := d + 4) (i := i1) (j := J) (a := a1) (b := b) (W := W) (g := gA rA w) (day := D) hg hD2 hc1 hI
            have ham := x8_amount67 (E := E) (d := d + 4) (j := J) (b := b) (W := W) (g := gA rA w) (lo := 6) (hi := 7) sr (by omega) (by omega) (by omega)
            rw [sr.up (by omega), cntF_6] at ham
            have hpaid : cntP (dA rA w D) 2880 = paidA rA w D := rfl
            rw [hpaid] at ham
            have hpb := paidA_le rA w D
            obtain ⟨J2, hJ2⟩ : ∃ J2, J2 = va_up J 0 (J 0 + (nI (paidA rA w D)).toInt64) := ⟨_, rfl⟩
            have hpy := x8_payOfSheet (E := E) (d := d + 1) (i := i2) (j := J2) (a := a2) (b := b) (W := W) (g := gA rA w) (h := gA rA w) (day := D) hg hD2 hc2 hI sr
            have hce : centsN (payN (dA rA w D) (rbA rA (kdA rA (gA rA w) D) 4) (exA rA (kdA rA (gA rA w) D) (cl (ri 15)) (pA rA)) 2880 * rtA ri rA (gA rA w) D) = centA ri rA w D := rfl
            rw [hce] at hpy
            have kk := ih (k + 1) (by omega) (by omega) (by omega) i2 a2 (D + 1) (some (.int (nI D))) (sx.tr sx2) (by omega) (by omega) (fun q hq q1 q2 => by
              have := hti q k (by omega) hk
              omega) (Or.inr ⟨k, by omega, hr1, by rw [← hD]⟩)
            have eJ : va_up J2 1 (J2 1 + lN (centA ri rA w D)) = va_up (va_up j 0 (lN (SP (k + 1)))) 1 (lN (SC (k + 1))) := by
              rw [sP, sC, if_pos ⟨hf, hlD, hDh⟩, if_pos ⟨hf, hlD, hDh⟩, hJ2, hJ]
              funext q
              by_cases q1 : q = 1
              · rw [q1, va_s, va_s, va_n (by decide), va_s, lN_add]
              · rw [va_n q1, va_n q1]
                by_cases q0 : q = 0
                · rw [q0, va_s, va_s, va_n (by decide), va_s, nI_l (by omega), lN_add]
                · rw [va_n q0, va_n q0, va_n q1, va_n q0]
            rw [← eJ, show nI (D + 1) - Int32.ofInt 1 = nI D from nI_pred D, ← nI_1 k] at kk
            refine ev_go 999 rfl trivial ?_
            refine ev_call0 rfl (Nat.le_of_ble_eq_true rfl) (fun _ => ⟨_, _, _, rfl, rfl⟩) hkd ?_
            refine ev_aa (v := .ref (38 + 3 * kdA rA (gA rA w) D)) rfl rfl (by omega) (by omega) (vp_in_nI hk8 (by omega)) (by rw [nI_clamp (by omega)]; unfold ruf; rw [if_pos hk8]; rfl) ?_
            refine ev_call0 rfl (Nat.le_of_ble_eq_true rfl) (fun _ => ⟨_, _, _, rfl, rfl⟩) hF ?_
            refine ev_go 999 rfl trivial ?_
            refine ev_call0 rfl (Nat.le_of_ble_eq_true rfl) (fun _ => ⟨_, _, _, rfl, rfl⟩) ham ?_
            refine ev_go 140 rfl trivial ?_
            refine ev_M (xw_j0 _) ?_
            rw [← hJ2]
            refine ev_go 999 rfl trivial ?_
            refine ev_call0 rfl (Nat.le_of_ble_eq_true rfl) (fun _ => ⟨_, _, _, rfl, rfl⟩) hpy ?_
            refine ev_go 162 rfl trivial ?_
            refine ev_M (xw_j1 _) ?_
            refine ev_go 999 rfl trivial ?_
            exact kk
          · refine ev_pos (by show nI D ≤ nI dn - Int32.ofInt 1; rw [dn_le (by omega) (by omega)]; exact hdn) ?_
            refine skip ?_ (fun _ => by omega)
            unfold fsD
            rw [decide_eq_true hr1, Bool.true_and]
            refine decide_eq_false (fun y => ?_)
            rcases l4 with u | ⟨q, q1, q2, q3⟩
            · omega
            · have := hti q k (by omega) hk
              exact y q q1 ⟨q2, by omega⟩
        · refine ev_pos (by show ¬ a1 66 (nI k).toNatClampNeg = nI 1; rw [eR, nI_eq (by omega) (by omega)]; exact hr1) ?_
          exact skip (fsD_f1 hr1) (fun y => absurd y hr1)
      · refine ev_pos (nI_le (by omega) (by omega)) ?_
        refine ev_ret rfl trivial ?_
        rw [hP]
        refine ⟨rfl, i1, a1, sx, ?_⟩
        have same : ∀ V : Nat → Nat, dSum t r V lo hi n = dSum t r V lo hi k := fun V => by
          unfold dSum
          obtain ⟨u, hu⟩ : ∃ u, n = k + u := ⟨n - k, by omega⟩
          rw [hu, fb_sm_split]
          have : ∀ q, q < u → (fun q => if fsD t r (k + q) = true ∧ lo ≤ t (k + q) / 1440 ∧ t (k + q) / 1440 < hi then V (t (k + q) / 1440) else 0) q = (fun _ => 0) q := fun q hq => by
            have := hti k (k + q) (by omega) (by omega)
            exact if_neg (fun y => by omega)
          rw [fb_sm_cong this, fb_sm_const]
          omega
        rw [hJ, hSP, hSC, same, same]
  have main : am_ev E (d + 5) tX8_tallyDays (0, am_in [.ref 0, .ref 62, .int (nI lo), .int (nI hi)] tX8_tallyDays.2.2.2.1, [], am_L (xw i j a b W (gA rA w)), 0, 0) P := by
    refine ev_go 8 rfl trivial ?_
    refine ev_M (xw_j0 0) ?_
    refine ev_go 16 rfl trivial ?_
    refine ev_M (xw_j1 0) ?_
    have z0 : ∀ V : Nat → Nat, dSum t r V lo hi p = 0 := fun V => by
      unfold dSum
      have : ∀ q, q < p → (fun q => if fsD t r q = true ∧ lo ≤ t q / 1440 ∧ t q / 1440 < hi then V (t q / 1440) else 0) q = (fun _ => 0) q := fun q hq => by
        have := p2 q hq
        exact if_neg (fun y => by omega)
      rw [fb_sm_cong this, fb_sm_const]
      omega
    have hto := x8_timeOf (E := E) (d := d + 4) (M := am_L (xw i (va_up (va_up j 0 0) 1 0) a b W (gA rA w))) (x := nI lo) (y := nI 0)
    rw [pk_mul, nI_add, Nat.add_zero] at hto
    have k0 := loop (n - p) p rfl (Nat.le_refl _) p1 i a lo none Sx.rf (Nat.le_refl _) (by omega) (fun q hq _ q2 => by have := p2 q hq; omega) (Or.inl rfl)
    rw [hSP, hSC, z0, z0] at k0
    rw [hSP, hSC] at hP
    refine ev_go 999 rfl trivial ?_
    refine ev_call0 rfl (Nat.le_of_ble_eq_true rfl) (fun z => by cases z) hto ?_
    refine ev_go 999 rfl trivial ?_
    refine ev_call0 rfl (Nat.le_of_ble_eq_true rfl) (fun _ => ⟨_, _, _, rfl, rfl⟩) p4 ?_
    refine ev_go 39 rfl trivial ?_
    exact k0
  obtain ⟨v, M', hv, hD2⟩ := am_D_ex (Nat.le_of_ble_eq_true rfl) main
  rw [hP] at hv
  obtain ⟨rfl, i', a', h1, rfl⟩ := hv
  exact ⟨i', a', h1, hD2⟩
end X8
