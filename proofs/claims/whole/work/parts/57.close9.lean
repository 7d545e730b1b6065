/-! The reference closes a month. -/
def gpA (a : Nat → Nat → Int32) (w lo hi : Nat) : Bool := decide (∃ k, k < nA a w ∧ rolA a w k = 2 ∧ lo ≤ tA a w k / 1440 ∧ tA a w k / 1440 < hi)
def clOK (i : Nat → Int32) (a : Nat → Nat → Int32) : Bool := decide (cl (i 39) < 36) && decide (∀ w, w < cl (i 19) → gpA a w (mday (cl (i 39))) (mday (cl (i 39) + 1)) = false)
def clmp (lo hi : Int32) (f : Int64) : Int64 := if f < lo.toInt64 then lo.toInt64 else if hi.toInt64 < f then hi.toInt64 else f
def clS (i : Nat → Int32) (a : Nat → Nat → Int32) (b : Nat → Nat → Int64) : Nat → Nat → Nat → Int64
  | 0 => b
  | w + 1 => va_up (va_up (va_up (clS i a b w) 32 (vp_updL (clS i a b w 32) (36 * w + cl (i 39)) (saysA i a b w (cl (i 39)) 0))) 33 (vp_updL (clS i a b w 33) (36 * w + cl (i 39)) (saysA i a b w (cl (i 39)) 1))) 34 (vp_updL (clS i a b w 34) (36 * w + cl (i 39)) (clmp (a 14 (gA a w)) (a 15 (gA a w)) (saysA i a b w (cl (i 39)) 2)))
def clQ (i : Nat → Int32) (a : Nat → Nat → Int32) : Int32 := if clOK i a = true then nI (cl (i 39)) else -3
def clI (i : Nat → Int32) (a : Nat → Nat → Int32) : Nat → Int32 := if clOK i a = true then va_up i 39 (nI (cl (i 39) + 1)) else i
def clB (i : Nat → Int32) (a : Nat → Nat → Int32) (b : Nat → Nat → Int64) : Nat → Nat → Int64 := if clOK i a = true then clS i a b (cl (i 19)) else b
theorem clS_35 {i : Nat → Int32} {a : Nat → Nat → Int32} {b : Nat → Nat → Int64} : ∀ w, clS i a b w 35 = b 35 ∧ clS i a b w 36 = b 36
  | 0 => ⟨rfl, rfl⟩
  | w + 1 => by
    obtain ⟨h1, h2⟩ := clS_35 (i := i) (a := a) (b := b) w
    unfold clS
    exact ⟨by rw [va_n (by decide), va_n (by decide), va_n (by decide)]; exact h1, by rw [va_n (by decide), va_n (by decide), va_n (by decide)]; exact h2⟩
theorem clS_34 {i : Nat → Int32} {a : Nat → Nat → Int32} {b : Nat → Nat → Int64} {q : Nat} (hq : ∀ w, q ≠ 36 * w + cl (i 39)) : ∀ w, clS i a b w 34 q = b 34 q
  | 0 => rfl
  | w + 1 => by
    unfold clS
    rw [va_s]
    unfold vp_updL
    rw [if_neg (hq w)]
    exact clS_34 hq w
theorem clS_says {i : Nat → Int32} {a : Nat → Nat → Int32} {b : Nat → Nat → Int64} {w v what : Nat} (hc : cl (i 39) < 36) (hw : what < 3) : saysA i a (clS i a b v) w (cl (i 39)) what = saysA i a b w (cl (i 39)) what := by
  unfold saysA
  rw [(clS_35 v).1, (clS_35 v).2]
  by_cases h3 : what = 3
  · omega
  · rw [if_neg h3, if_neg h3]
    by_cases h4 : what = 4
    · omega
    · rw [if_neg h4, if_neg h4, if_neg (Nat.lt_irrefl _), if_neg (Nat.lt_irrefl _)]
      by_cases h2 : what = 2
      · rw [if_pos h2, if_pos h2, show cl (i 39) + 1 - cl (i 39) = 1 by omega]
        unfold FX
        rw [(clS_35 v).1]
        unfold FX
        by_cases h0 : cl (i 39) = 0
        · rw [if_pos h0, if_pos h0]
        · rw [if_neg h0, if_neg h0, clS_34 (fun u => by omega) v]
      · rw [if_neg h2, if_neg h2]
theorem says_1 {i : Nat → Int32} {a : Nat → Nat → Int32} {b : Nat → Nat → Int64} {w c : Nat} (h : ¬ c < cl (i 39)) : saysA i a b w c 1 = lN (dSum (tA a w) (rolA a w) (centA i a w) (mday c) (mday (c + 1)) (nA a w)) + b 36 (36 * w + c) := by
  unfold saysA
  rw [if_neg (by decide), if_neg (by decide), if_neg h, if_neg (by decide), if_neg (by decide)]
theorem says_2 {i : Nat → Int32} {a : Nat → Nat → Int32} {b : Nat → Nat → Int64} {w c : Nat} (h : ¬ c < cl (i 39)) : saysA i a b w c 2 = FX i a b w (c + 1 - cl (i 39)) := by
  unfold saysA
  rw [if_neg (by decide), if_neg (by decide), if_neg h, if_pos rfl]
section K9
variable {E : am_E} {d : Nat} {i : Nat → Int32} {j : Nat → Int64} {a : Nat → Nat → Int32} {b : Nat → Nat → Int64}
theorem cl_inv (hI : INV i a) : INV (clI i a) a := by
  unfold clI
  cases h : clOK i a with
  | false => exact hI
  | true =>
    rw [if_pos rfl]
    unfold clOK at h
    rw [Bool.and_eq_true_iff] at h
    have h36 := of_decide_eq_true h.1
    obtain ⟨b1, b2, b3, b4, b5, b6, b7, b8, b9, b10, b11, b12, b13, b14, b15, b16, b17⟩ := hI
    have oi : ∀ k, k ≠ 39 → va_up i 39 (nI (cl (i 39) + 1)) k = i k := fun k h => va_n h
    refine ⟨b1, b2, b3, b4, by rw [oi 9 (by decide)]; exact b5, by rw [oi 9 (by decide)]; exact b6, by rw [oi 15 (by decide)]; exact b7, by rw [oi 15 (by decide)]; exact b8, b9, b10, by rw [oi 19 (by decide)]; exact b11, b12, b13, b14, b15, by rw [oi 26 (by decide)]; exact b16, ?_⟩
    rw [va_s]
    exact le0_nI (by omega) (by omega)
theorem x9_close (hI : INV i a) : ∃ i' j' a', Scr (clI i a) i' a a' ∧ am_D E (d + 63) tX9_close [.ref 0] (am_L (mo i j a b)) 0 0 (some (.int (clQ i a))) (am_L (mo i' j' a' (clB i a b))) := by
  have h39 := hI.c39
  have h39b := h39.2
  have h19 := hI.w19
  have h19b := h19.2
  obtain ⟨c, hcd⟩ : ∃ c, c = cl (i 39) := ⟨_, rfl⟩
  obtain ⟨nw, hnw⟩ : ∃ nw, nw = cl (i 19) := ⟨_, rfl⟩
  rw [← hnw] at h19b
  have e39 : i 39 = nI c := by rw [hcd]; exact h39.1
  have e19 : i 19 = nI nw := by rw [hnw]; exact h19.1
  rw [← hcd] at h39b
  by_cases hc : c < 36
  · obtain ⟨P, hP⟩ : ∃ P : Option Value → am_M → Prop, P = fun v M => v = some (.int (clQ i a)) ∧ ∃ i' j' a', Scr (clI i a) i' a a' ∧ M = am_L (mo i' j' a' (clB i a b)) := ⟨_, rfl⟩
    have hml := mlen_in c
    have hmb := mday_b (m := c + 1) (by omega)
    have hms : mday (c + 1) = mday c + mlen c := rfl
    have loop2 : ∀ m w, nw - w = m → w ≤ nw → clOK i a = true → ∀ i1 j1 a1 o4 o5 o6 o7, Scr i i1 a a1 → am_ev E (d + 62) tX9_close (105, [some (.ref 0), some (.int (nI (mday c))), some (.int (nI (mday (c + 1)))), some (.int (nI w)), o4, o5, o6, o7], [], am_L (mo i1 j1 a1 (clS i a b w)), 0, 0) P := by
      intro m
      induction m with
      | zero =>
        intro w g1 g2 hOK i1 j1 a1 o4 o5 o6 o7 sc
        have e : w = nw := by omega
        subst e
        refine ev_go 999 rfl trivial ?_
        refine ev_pos (by show i1 19 ≤ nI w; rw [sc.2 19 (by decide) (by decide), e19]; exact nI_le (Nat.le_refl _) (by omega)) ?_
        refine ev_go 253 rfl trivial ?_
        refine ev_M (mo_i39 _) ?_
        refine ev_go 999 rfl trivial ?_
        refine ev_ret rfl trivial ?_
        rw [hP]
        have e1 : i1 39 = nI c := by rw [sc.2 39 (by decide) (by decide), e39]
        refine ⟨?_, va_up i1 39 (i1 39 + 1), j1, a1, ?_, ?_⟩
        · show some (Value.int (va_up i1 39 (i1 39 + 1) 39 - 1)) = _
          unfold clQ
          rw [va_s, e1, nI_1, nI_pred, hOK, if_pos rfl, ← hcd]
        · unfold clI
          rw [hOK, if_pos rfl, e1, nI_1, ← hcd]
          refine ⟨sc.1, fun k h1 h2 => ?_⟩
          by_cases z : k = 39
          · subst z; rw [va_s, va_s]
          · rw [va_n z, va_n z]; exact sc.2 k h1 h2
        · unfold clB
          rw [hOK, if_pos rfl, ← hnw]
          rfl
      | succ m ih =>
        intro w g1 g2 hOK i1 j1 a1 o4 o5 o6 o7 sc
        have e1 : i1 39 = nI c := by rw [sc.2 39 (by decide) (by decide), e39]
        have hcc : c = cl (i1 39) := by rw [e1, cl_nI (by omega)]
        have ex : nI 36 * nI w + i1 39 = nI (36 * w + c) := by rw [e1, pk_mul, nI_add]
        have vx : vp_in (nI (36 * w + c)) 1080 := vp_in_nI (by omega) (by omega)
        have cx : (nI (36 * w + c)).toNatClampNeg = 36 * w + c := nI_clamp (by omega)
        obtain ⟨B0, hB0⟩ : ∃ B0, B0 = clS i a b w := ⟨_, rfl⟩
        obtain ⟨i2, j2, a2, sc2, hD2⟩ := x9_says (E := E) (d := d + 2) (i := i1) (j := j1) (a := a1) (b := B0) (w := w) (m := c) (what := 0) (sc.inv hI) (by omega) hc (by omega)
        rw [scr_says sc, hB0, hcd, clS_says (by omega) (by omega), ← hcd, ← hB0, ← e1] at hD2
        have sc2' := sc.tr sc2
        obtain ⟨B1, hB1⟩ : ∃ B1, B1 = va_up B0 32 (vp_updL (B0 32) (36 * w + c) (saysA i a b w c 0)) := ⟨_, rfl⟩
        obtain ⟨i3, j3, a3, sc3, hD3⟩ := x9_says (E := E) (d := d + 2) (i := i2) (j := j2) (a := a2) (b := B1) (w := w) (m := c) (what := 1) (sc2'.inv hI) (by omega) hc (by omega)
        have s1 : saysA i a B1 w c 1 = saysA i a b w c 1 := by
          have h := clS_says (i := i) (a := a) (b := b) (w := w) (v := w) (what := 1) (by omega) (by omega)
          rw [← hcd, ← hB0] at h
          rw [← h]
          rw [says_1 (by omega), says_1 (by omega), hB1, va_n (by decide)]
        have e2 : i2 39 = nI c := by rw [sc2'.2 39 (by decide) (by decide), e39]
        rw [scr_says sc2', s1, ← e2] at hD3
        have sc3' := sc2'.tr sc3
        obtain ⟨B2, hB2⟩ : ∃ B2, B2 = va_up B1 33 (vp_updL (B1 33) (36 * w + c) (saysA i a b w c 1)) := ⟨_, rfl⟩
        obtain ⟨i4, j4, a4, sc4, hD4⟩ := x9_says (E := E) (d := d + 2) (i := i3) (j := j3) (a := a3) (b := B2) (w := w) (m := c) (what := 2) (sc3'.inv hI) (by omega) hc (by omega)
        have e234 : B2 34 = B0 34 ∧ B2 35 = B0 35 := by
          rw [hB2, hB1]
          exact ⟨by rw [va_n (by decide), va_n (by decide)], by rw [va_n (by decide), va_n (by decide)]⟩
        have s2 : saysA i a B2 w c 2 = saysA i a b w c 2 := by
          have h := clS_says (i := i) (a := a) (b := b) (w := w) (v := w) (what := 2) (by omega) (by omega)
          rw [← hcd, ← hB0] at h
          rw [← h]
          rw [says_2 (by omega), says_2 (by omega), ← hcd, show c + 1 - c = 1 by omega]
          unfold FX
          unfold FX
          rw [e234.1, e234.2]
        have e3 : i3 39 = nI c := by rw [sc3'.2 39 (by decide) (by decide), e39]
        rw [scr_says sc3', s2, ← e3] at hD4
        have sc4' := sc3'.tr sc4
        obtain ⟨F, hF⟩ : ∃ F, F = saysA i a b w c 2 := ⟨_, rfl⟩
        rw [← hF] at hD4
        have vw : vp_in (nI w) 30 := vp_in_nI (by omega) (by omega)
        have gl := hI.gl (w := w) (by omega)
        have e16 : a4 16 (nI w).toNatClampNeg = nI (gA a w) := by rw [nI_clamp (by omega), sc4'.1 16 (by omega)]; exact hI.h16 (by omega)
        have vg : vp_in (nI (gA a w)) 6 := vp_in_nI gl (by omega)
        have e14 : a4 14 (nI (gA a w)).toNatClampNeg = a 14 (gA a w) := by rw [nI_clamp (by omega), sc4'.1 14 (by omega)]
        have e15 : a4 15 (nI (gA a w)).toNatClampNeg = a 15 (gA a w) := by rw [nI_clamp (by omega), sc4'.1 15 (by omega)]
        have hB3 : clS i a b (w + 1) = va_up B2 34 (vp_updL (B2 34) (36 * w + c) (clmp (a 14 (gA a w)) (a 15 (gA a w)) F)) := by
          show va_up (va_up (va_up (clS i a b w) 32 _) 33 _) 34 _ = _
          rw [← hB0, ← hcd, ← hB1, e234.1, hB2, hF]
          rw [show B1 33 = B0 33 by rw [hB1, va_n (by decide)]]
        have put : ∀ x, clmp (a 14 (gA a w)) (a 15 (gA a w)) F = x → am_ev E (d + 62) tX9_close (236, [some (.ref 0), some (.int (nI (mday c))), some (.int (nI (mday (c + 1)))), some (.int (nI w)), some (.int (nI (36 * w + c))), some (.long F), none, some (.int (nI (gA a w)))], [.long x, .int (nI (36 * w + c)), .ref 34], am_L (mo i4 j4 a4 B2), 0, 0) P := fun x hx => by
          have kk := ih (w + 1) (by omega) (by omega) hOK i4 j4 a4 (some (.int (nI (36 * w + c)))) (some (.long F)) none (some (.int (nI (gA a w)))) sc4'
          rw [hB3, hx, ← nI_1 w] at kk
          refine ev_go 237 rfl ⟨vx, trivial⟩ ?_
          refine ev_M (mo_b34 _) ?_
          refine ev_M (show _ = am_L (mo i4 j4 a4 (va_up B2 34 (vp_updL (B2 34) (36 * w + c) x))) by rw [cx]) ?_
          refine ev_go 999 rfl trivial ?_
          exact kk
        rw [← hB0]
        refine ev_go 999 rfl trivial ?_
        refine ev_neg (by show ¬ i1 19 ≤ nI w; rw [sc.2 19 (by decide) (by decide), e19]; exact nI_ge (by omega) (by omega)) ?_
        refine ev_go 124 rfl trivial ?_
        show am_ev _ _ _ (124, [_, _, _, _, some (.int (nI 36 * nI w + i1 39)), _, _, _], _, _, _, _) _
        rw [ex]
        refine ev_go 999 rfl trivial ?_
        refine ev_call0 rfl (Nat.le_of_ble_eq_true rfl) (fun _ => ⟨_, _, _, rfl, rfl⟩) hD2 ?_
        refine ev_go 141 rfl ⟨vx, trivial⟩ ?_
        refine ev_M (mo_b32 _) ?_
        refine ev_M (show _ = am_L (mo i2 j2 a2 B1) by rw [cx, hB1]) ?_
        refine ev_go 999 rfl trivial ?_
        refine ev_call0 rfl (Nat.le_of_ble_eq_true rfl) (fun _ => ⟨_, _, _, rfl, rfl⟩) hD3 ?_
        refine ev_go 158 rfl ⟨vx, trivial⟩ ?_
        refine ev_M (mo_b33 _) ?_
        refine ev_M (show _ = am_L (mo i3 j3 a3 B2) by rw [cx, hB2]) ?_
        refine ev_go 999 rfl trivial ?_
        refine ev_call0 rfl (Nat.le_of_ble_eq_true rfl) (fun _ => ⟨_, _, _, rfl, rfl⟩) hD4 ?_
        refine ev_go 178 rfl ⟨vw, trivial⟩ ?_
        show am_ev _ _ _ (178, [_, _, _, _, _, _, _, some (.int (a4 16 (nI w).toNatClampNeg))], _, _, _, _) _
        rw [e16]
        refine ev_go 999 rfl ⟨vg, trivial⟩ ?_
        by_cases l1 : F < (a 14 (gA a w)).toInt64
        · refine ev_neg (by show ¬ 0 ≤ lg_cmp F (a4 14 (nI (gA a w)).toNatClampNeg).toInt64; rw [e14, lg_cmp_ge]; exact Int64.not_le.mpr l1) ?_
          refine ev_go 999 rfl ⟨vg, trivial⟩ ?_
          have k0 := put (a4 14 (nI (gA a w)).toNatClampNeg).toInt64 (by unfold clmp; rw [if_pos l1, e14])
          exact k0
        · refine ev_pos (by show 0 ≤ lg_cmp F (a4 14 (nI (gA a w)).toNatClampNeg).toInt64; rw [e14, lg_cmp_ge]; exact Int64.not_lt.mp l1) ?_
          refine ev_go 999 rfl ⟨vg, trivial⟩ ?_
          by_cases l2 : (a 15 (gA a w)).toInt64 < F
          · refine ev_neg (by show ¬ lg_cmp F (a4 15 (nI (gA a w)).toNatClampNeg).toInt64 ≤ 0; rw [e15, lg_cmp_le]; exact Int64.not_le.mpr l2) ?_
            refine ev_go 999 rfl ⟨vg, trivial⟩ ?_
            have k0 := put (a4 15 (nI (gA a w)).toNatClampNeg).toInt64 (by unfold clmp; rw [if_neg l1, if_pos l2, e15])
            exact k0
          · refine ev_pos (by show lg_cmp F (a4 15 (nI (gA a w)).toNatClampNeg).toInt64 ≤ 0; rw [e15, lg_cmp_le]; exact Int64.not_lt.mp l2) ?_
            have k0 := put F (by unfold clmp; rw [if_neg l1, if_neg l2])
            refine ev_go 236 rfl trivial ?_
            exact k0
    have loop1 : ∀ m w, nw - w = m → w ≤ nw → (∀ u, u < w → gpA a u (mday c) (mday (c + 1)) = false) → ∀ i1 j1 a1 o4, Scr i i1 a a1 → am_ev E (d + 62) tX9_close (32, [some (.ref 0), some (.int (nI (mday c))), some (.int (nI (mday (c + 1)))), some (.int (nI w)), o4, none, none, none], [], am_L (mo i1 j1 a1 b), 0, 0) P := by
      intro m
      induction m with
      | zero =>
        intro w g1 g2 hgp i1 j1 a1 o4 sc
        have e : w = nw := by omega
        subst e
        have hOK : clOK i a = true := by
          unfold clOK
          rw [← hcd, ← hnw, decide_eq_true hc, decide_eq_true hgp]
          rfl
        refine ev_go 999 rfl trivial ?_
        refine ev_pos (by show i1 19 ≤ nI w; rw [sc.2 19 (by decide) (by decide), e19]; exact nI_le (Nat.le_refl _) (by omega)) ?_
        refine ev_go 105 rfl trivial ?_
        exact loop2 w 0 (by omega) (Nat.zero_le _) hOK i1 j1 a1 _ _ _ _ sc
      | succ m ih =>
        intro w g1 g2 hgp i1 j1 a1 o4 sc
        obtain ⟨i2, a2, sc2, hpd, hD⟩ := x9_pairA (E := E) (d := d + 61) (i := i1) (j := j1) (a := a1) (b := b) (w := w) (sc.inv hI) (by omega)
        rw [sc.n, sc.t, sc.s] at hpd
        have sc2' := sc.tr sc2
        have hm := hI.wm w (by omega)
        obtain ⟨n, hn⟩ : ∃ n, n = nA a w := ⟨_, rfl⟩
        obtain ⟨t, ht⟩ : ∃ t, t = tA a w := ⟨_, rfl⟩
        obtain ⟨s, hs⟩ : ∃ s, s = sA a w := ⟨_, rfl⟩
        have hr : rolA a w = pR t s n := by unfold rolA; rw [ht, hs, hn]
        rw [← hn, ← ht, ← hs] at hm hpd
        have hI2 := pI_all t s n
        have hN : pN t s n ≤ 400 := Nat.le_trans (pN_le t s n) hm.n4
        have inner : ∀ m2 x, pN t s n - x = m2 → x ≤ pN t s n → (∀ y, y < x → ¬ (pG t s n y = true ∧ mday c ≤ t (pF t s n y) / 1440 ∧ t (pF t s n y) / 1440 < mday (c + 1))) → am_ev E (d + 62) tX9_close (48, [some (.ref 0), some (.int (nI (mday c))), some (.int (nI (mday (c + 1)))), some (.int (nI w)), some (.int (nI x)), none, none, none], [], am_L (mo i2 j1 a2 b), 0, 0) P := by
          intro m2
          induction m2 with
          | zero =>
            intro x q1 q2 hx
            have e : x = pN t s n := by omega
            subst e
            have hgw : gpA a w (mday c) (mday (c + 1)) = false := by
              unfold gpA
              rw [← hn, ← ht, hr]
              refine decide_eq_false (fun ⟨k, k1, k2, k3, k4⟩ => ?_)
              obtain ⟨y, hy, hy2⟩ := hI2.R k k1 (Or.inr k2)
              refine hx y hy ⟨?_, by rw [hy2]; exact k3, by rw [hy2]; exact k4⟩
              cases hgy : pG t s n y with
              | true => rfl
              | false =>
                have := (hI2.D y hy hgy).1.rc
                rw [hy2, k2] at this
                cases this
            have kk := ih (w + 1) (by omega) (by omega) (fun u hu => by
              rcases Nat.lt_or_ge u w with z | z
              · exact hgp u z
              · rw [show u = w by omega]; exact hgw) i2 j1 a2 (some (.int (nI (pN t s n)))) sc2'
            rw [← nI_1 w] at kk
            refine ev_go 999 rfl trivial ?_
            refine ev_pos (by show i2 30 ≤ nI (pN t s n); rw [hpd.i30]; exact nI_le (Nat.le_refl _) (by omega)) ?_
            refine ev_go 999 rfl trivial ?_
            exact kk
          | succ m2 ih2 =>
            intro x q1 q2 hx
            have hxN : x < pN t s n := by omega
            obtain ⟨p25, p27, p29, _⟩ := hpd.x x hxN
            have ht2 := hm.t2 (pF t s n x) (pF_lt hxN)
            have vx : vp_in (nI x) 400 := vp_in_nI (by omega) (by omega)
            have cx : (nI x).toNatClampNeg = x := nI_clamp (by omega)
            have next : ¬ (pG t s n x = true ∧ mday c ≤ t (pF t s n x) / 1440 ∧ t (pF t s n x) / 1440 < mday (c + 1)) → am_ev E (d + 62) tX9_close (91, [some (.ref 0), some (.int (nI (mday c))), some (.int (nI (mday (c + 1)))), some (.int (nI w)), some (.int (nI x)), none, none, none], [], am_L (mo i2 j1 a2 b), 0, 0) P := fun ne => by
              have kk := ih2 (x + 1) (by omega) (by omega) (fun y hy => by
                rcases Nat.lt_or_ge y x with z | z
                · exact hx y z
                · rw [show y = x by omega]; exact ne)
              rw [← nI_1 x] at kk
              refine ev_go 999 rfl trivial ?_
              exact kk
            refine ev_go 999 rfl trivial ?_
            refine ev_neg (by show ¬ i2 30 ≤ nI x; rw [hpd.i30]; exact nI_ge (by omega) (by omega)) ?_
            refine ev_go 999 rfl ⟨vx, trivial⟩ ?_
            cases hg : pG t s n x with
            | false =>
              refine ev_pos (by show a2 29 (nI x).toNatClampNeg = 0; rw [cx, p29, hg]; decide) ?_
              exact next (fun z => by rw [hg] at z; cases z.1)
            | true =>
              refine ev_neg (by show ¬ a2 29 (nI x).toNatClampNeg = 0; rw [cx, p29, hg]; decide) ?_
              have e25 : a2 25 (nI x).toNatClampNeg / nI 1440 = nI (t (pF t s n x) / 1440) := by rw [cx, p25, pk_div (by omega) (by decide) (by decide)]
              refine ev_go 999 rfl ⟨vx, by decide, trivial⟩ ?_
              have hin : am_D E (d + 62) tX9_in [.int (a2 25 (nI x).toNatClampNeg / nI 1440), .int (nI (mday c)), .int (nI (mday (c + 1)) - 1)] (am_L (mo i2 j1 a2 b)) 0 0 (some (.int (bI (decide (mday c ≤ t (pF t s n x) / 1440 ∧ t (pF t s n x) / 1440 < mday (c + 1)))))) (am_L (mo i2 j1 a2 b)) := by
                have h := x9_in (E := E) (d := d + 61) (M := am_L (mo i2 j1 a2 b)) (v := a2 25 (nI x).toNatClampNeg / nI 1440) (lo := nI (mday c)) (hi := nI (mday (c + 1)) - 1)
                have e : inB (a2 25 (nI x).toNatClampNeg / nI 1440) (nI (mday c)) (nI (mday (c + 1)) - 1) = decide (mday c ≤ t (pF t s n x) / 1440 ∧ t (pF t s n x) / 1440 < mday (c + 1)) := by
                  unfold inB
                  rw [e25, show nI (mday (c + 1)) - 1 = nI (mday (c + 1) - 1) by
                    obtain ⟨q, hq⟩ : ∃ q, mday (c + 1) = q + 1 := ⟨mday (c + 1) - 1, by omega⟩
                    rw [hq, nI_pred, Nat.add_sub_cancel], ← Bool.decide_and]
                  refine decide_eq_decide.mpr ?_
                  rw [nI_leI (by omega) (by omega), nI_leI (by omega) (by omega)]
                  omega
                rw [e] at h
                exact h
              refine ev_call0 rfl (Nat.le_of_ble_eq_true rfl) (fun z => by cases z) hin ?_
              by_cases hin2 : mday c ≤ t (pF t s n x) / 1440 ∧ t (pF t s n x) / 1440 < mday (c + 1)
              · rw [decide_eq_true hin2]
                refine ev_go 999 rfl trivial ?_
                refine ev_neg (by decide) ?_
                refine ev_go 999 rfl trivial ?_
                refine ev_ret rfl trivial ?_
                have hNO : clOK i a = false := by
                  unfold clOK
                  rw [← hcd, ← hnw]
                  have : ¬ ∀ u, u < nw → gpA a u (mday c) (mday (c + 1)) = false := fun z => by
                    have h := z w (by omega)
                    unfold gpA at h
                    rw [← hn, ← ht, hr] at h
                    exact of_decide_eq_false h ⟨pF t s n x, pF_lt hxN, hI2.C x hxN hg, hin2.1, hin2.2⟩
                  rw [decide_eq_false this, Bool.and_false]
                rw [hP]
                unfold clQ clI clB
                rw [hNO]
                exact ⟨rfl, i2, j1, a2, sc2', rfl⟩
              · rw [decide_eq_false hin2]
                refine ev_go 999 rfl trivial ?_
                refine ev_pos (by decide) ?_
                exact next (fun z => hin2 z.2)
        refine ev_go 999 rfl trivial ?_
        refine ev_neg (by show ¬ i1 19 ≤ nI w; rw [sc.2 19 (by decide) (by decide), e19]; exact nI_ge (by omega) (by omega)) ?_
        refine ev_go 999 rfl trivial ?_
        refine ev_call0 rfl (Nat.le_of_ble_eq_true rfl) (fun _ => ⟨_, _, _, rfl, rfl⟩) hD ?_
        refine ev_go 48 rfl trivial ?_
        exact inner (pN t s n) 0 (by omega) (Nat.zero_le _) (fun y hy => absurd hy (Nat.not_lt_zero y))
    have main : am_ev E (d + 62) tX9_close (0, am_in [.ref 0] tX9_close.2.2.2.1, [], am_L (mo i j a b), 0, 0) P := by
      have hfd := x9_firstDay (E := E) (d := d + 60) (M := am_L (mo i j a b)) (m := c) (by omega)
      have hle := x9_length (E := E) (d := d + 61) (M := am_L (mo i j a b)) (m := c) (by omega)
      rw [← e39] at hfd hle
      refine ev_go 999 rfl trivial ?_
      refine ev_pos (by show ¬ i 39 = nI 36; rw [e39, nI_eq (by omega) (by omega)]; omega) ?_
      refine ev_go 999 rfl trivial ?_
      refine ev_call0 rfl (Nat.le_of_ble_eq_true rfl) (fun z => by cases z) hfd ?_
      refine ev_go 999 rfl trivial ?_
      refine ev_call0 rfl (Nat.le_of_ble_eq_true rfl) (fun z => by cases z) hle ?_
      have k0 := loop1 nw 0 (by omega) (Nat.zero_le _) (fun u hu => absurd hu (Nat.not_lt_zero u)) i j a none Scr.rf
      rw [hms, ← nI_add] at k0

      refine ev_go 32 rfl trivial ?_
      exact k0
    obtain ⟨v, M', hv, hD2⟩ := am_D_ex (Nat.le_of_ble_eq_true rfl) main
    rw [hP] at hv
    obtain ⟨rfl, i', j', a', h1, rfl⟩ := hv
    exact ⟨i', j', a', h1, hD2⟩
  · have hNO : clOK i a = false := by unfold clOK; rw [← hcd, decide_eq_false hc, Bool.false_and]
    unfold clQ clI clB
    rw [hNO]
    refine ⟨i, j, a, Scr.rf, ?_⟩
    rw [if_neg (by decide)]
    refine am_D_of (Nat.le_of_ble_eq_true rfl) ?_
    refine ev_go 999 rfl trivial ?_
    refine ev_neg (by show ¬ ¬ i 39 = nI 36; rw [e39, nI_eq (by omega) (by omega)]; omega) ?_
    refine ev_go 999 rfl trivial ?_
    exact ev_ret rfl trivial ⟨rfl, rfl⟩
end K9
