/-! The reference adds up days. -/
theorem dSum_same {t r V : Nat → Nat} {lo hi i : Nat} : ∀ k, i ≤ k → (∀ q, i ≤ q → q < k → r q ≠ 1) → dSum t r V lo hi k = dSum t r V lo hi i
  | 0, h, _ => by rw [show i = 0 by omega]
  | k + 1, h, hq => by
    rcases Nat.lt_or_ge i (k + 1) with z | z
    · have h1 : fsD t r k = false := by unfold fsD; rw [decide_eq_false (hq k (by omega) (by omega)), Bool.false_and]
      have h2 := dSum_same (t := t) (r := r) (V := V) (lo := lo) (hi := hi) k (by omega) (fun q h1 h2 => hq q h1 (by omega))
      rw [← h2]
      unfold dSum
      rw [fb_sm_succ, h1, if_neg (fun y => by cases y.1)]
      rfl
    · rw [show i = k + 1 by omega]
theorem dSum_le {t r V : Nat → Nat} {lo hi c n : Nat} (h : ∀ q, V q ≤ c) (hn : n ≤ 400) : dSum t r V lo hi n ≤ 400 * c := Nat.le_trans (fb_sm_bound (c := c) (fun k _ => by
  split
  · exact h _
  · omega)) (Nat.mul_le_mul_right c hn)
theorem payN_cong {f g : Nat → Int32} {ov : Nat} {ex : Nat → Nat} {N : Nat} (h : ∀ m, m < N → f m = g m) : payN f ov ex N = payN g ov ex N := fb_sm_cong (fun k hk => by unfold shN; rw [h k hk])
/-- none of the shifts ahead of y has ended on day D -/
def nfs (t s : Nat → Nat) (n D y : Nat) : Bool := decide (∀ z, z < y → ¬ (pG t s n z = false ∧ t (pF t s n z) / 1440 = D))
theorem nfs_succ {t s : Nat → Nat} {n D y : Nat} : nfs t s n D (y + 1) = (nfs t s n D y && !(decide (pG t s n y = false) && decide (t (pF t s n y) / 1440 = D))) := by
  unfold nfs
  by_cases h : pG t s n y = false ∧ t (pF t s n y) / 1440 = D
  · rw [decide_eq_true h.1, decide_eq_true h.2, decide_eq_false (fun z => z y (by omega) h)]
    simp
  · have e : (decide (pG t s n y = false) && decide (t (pF t s n y) / 1440 = D)) = false := by rw [← Bool.decide_and]; exact decide_eq_false h
    rw [e, Bool.not_false, Bool.and_true]
    refine decide_eq_decide.mpr ⟨fun g z hz => g z (by omega), fun g z hz => ?_⟩
    rcases Nat.lt_or_ge z y with q | q
    · exact g z q
    · rw [show z = y by omega]; exact h
theorem nfs_fs {t s : Nat → Nat} {n x : Nat} (hx : x < pN t s n) (hg : pG t s n x = false) : fsD t (pR t s n) (pF t s n x) = nfs t s n (t (pF t s n x) / 1440) x := by
  have hI := pI_all t s n
  have h1 : pR t s n (pF t s n x) = 1 := (hI.D x hx hg).1.rc
  unfold fsD nfs
  rw [decide_eq_true h1, Bool.true_and]
  refine decide_eq_decide.mpr ⟨fun g z hz y => ?_, fun g q hq y => ?_⟩
  · exact g (pF t s n z) (pI_mono hI.B x z hz hx) ⟨(hI.D z (by omega) y.1).1.rc, y.2⟩
  · obtain ⟨z, hz, hz2, hz3⟩ := pI_one (by have := pF_lt hx; omega) y.1
    refine g z ?_ ⟨hz3, by rw [hz2]; exact y.2⟩
    rcases Nat.lt_or_ge z x with u | u
    · exact u
    · rcases Nat.lt_or_ge x z with v | v
      · have := pI_mono hI.B z x v hz; omega
      · have : z = x := by omega
        subst this; omega
theorem Scr.pd {i i' : Nat → Int32} {a a' : Nat → Nat → Int32} {w n : Nat} {t s : Nat → Nat} (h : PD i a n t s) (e : ∀ p, p < 30 → a' p = a p) (ei : i' 30 = i 30) : PD i' a' n t s := h.cong e ei
section S9
variable {E : am_E} {d : Nat} {i : Nat → Int32} {j : Nat → Int64} {a : Nat → Nat → Int32} {b : Nat → Nat → Int64}
theorem x9_lookA {w day : Nat} (hI : INV i a) (hw : w < 30) (hp : PD i a (nA a w) (tA a w) (sA a w)) (hd : day < 1096) : ∃ f h c, (∀ m, m < 2880 → f m = dA a w day m) ∧ (∀ q, q < 5 → h q = nI (cntF (dA a w day) (q + 2) 2880)) ∧ am_D E (d + 3) tX9_look [.ref 0, .int (nI w), .int (nI day)] (am_L (mo i j a b)) 0 0 none (am_L (mo (va_up i 38 c) j (lk a f h) b)) := by
  obtain ⟨f, h, h1, h2, h3⟩ := x9_look (E := E) (d := d) (i := i) (j := j) (a := a) (b := b) (hI.wm w hw) hp hd (hI.gl hw) (hI.h16 hw) (hI.hk (hI.gl hw)) (hI.rul (hI.kdl (hI.gl hw)))
  exact ⟨f, h, _, h1, h2, h3⟩
theorem x9_payA {w day : Nat} (hI : INV i a) (hw : w < 30) (hd : day < 1096) : am_D E (d + 3) tX9_pay [.ref 0, .int (nI w), .int (nI day)] (am_L (mo i j a b)) 0 0 (some (.long (lN (centsN (payN (a 30) (rbA a (kdA a (gA a w) day) 4) (exA a (kdA a (gA a w) day) (cl (i 15)) (pA a)) 2880 * rtA i a (gA a w) day))))) (am_L (mo i j a b)) := by
  have hg := hI.gl hw
  have hk := hI.kdl (day := day) hg
  have hb := hI.rb (kdA a (gA a w) day) 4 hk (by omega)
  exact x9_pay hw hd hg (hI.h16 hw) (hI.hk hg) hk hb.1 hb.2 hI.su hI.r9.2 hI.r9.1 (hI.rt _ _).1 (hI.rt _ _).2
theorem x9_sumDays {w lo hi : Nat} (hI : INV i a) (hw : w < 30) (hp : PD i a (nA a w) (tA a w) (sA a w)) (hlo : lo < 100000) (hhi : hi < 100000) : ∃ i' a', Scr i i' a a' ∧ PD i' a' (nA a w) (tA a w) (sA a w) ∧ am_D E (d + 4) tX9_sumDays [.ref 0, .int (nI w), .int (nI lo), .int (nI hi)] (am_L (mo i j a b)) 0 0 none (am_L (mo i' (va_up (va_up j 45 (lN (dSum (tA a w) (rolA a w) (paidA a w) lo hi (nA a w)))) 46 (lN (dSum (tA a w) (rolA a w) (centA i a w) lo hi (nA a w)))) a' b)) := by
  have hm := hI.wm w hw
  obtain ⟨n, hn⟩ : ∃ n, n = nA a w := ⟨_, rfl⟩
  obtain ⟨t, ht⟩ : ∃ t, t = tA a w := ⟨_, rfl⟩
  obtain ⟨s, hs⟩ : ∃ s, s = sA a w := ⟨_, rfl⟩
  have hr : rolA a w = pR t s n := by unfold rolA; rw [ht, hs, hn]
  rw [← hn, ← ht, ← hs] at hm
  rw [← hn, ← ht, ← hs] at hp ⊢
  rw [hr]
  have hI2 := pI_all t s n
  have hN : pN t s n ≤ 400 := Nat.le_trans (pN_le t s n) hm.n4
  obtain ⟨SP, hSP⟩ : ∃ f : Nat → Nat, f = dSum t (pR t s n) (paidA a w) lo hi := ⟨_, rfl⟩
  obtain ⟨SC, hSC⟩ : ∃ f : Nat → Nat, f = dSum t (pR t s n) (centA i a w) lo hi := ⟨_, rfl⟩
  rw [← hSP, ← hSC]
  obtain ⟨P, hP⟩ : ∃ P : Option Value → am_M → Prop, P = fun v M => v = none ∧ ∃ i' a', Scr i i' a a' ∧ PD i' a' n t s ∧ M = am_L (mo i' (va_up (va_up j 45 (lN (SP n))) 46 (lN (SC n))) a' b) := ⟨_, rfl⟩
  have loop : ∀ m x, pN t s n - x = m → x ≤ pN t s n → ∀ i' a' o5 o6 o7, Scr i i' a a' → PD i' a' n t s → am_ev E (d + 3) tX9_sumDays (13, [some (.ref 0), some (.int (nI w)), some (.int (nI lo)), some (.int (nI hi)), some (.int (nI x)), o5, o6, o7], [], am_L (mo i' (va_up (va_up j 45 (lN (SP (pB t s n x)))) 46 (lN (SC (pB t s n x)))) a' b), 0, 0) P := by
    intro m
    induction m with
    | zero =>
      intro x e1 e2 i' a' o5 o6 o7 hsc hpd
      have e : x = pN t s n := by omega
      subst e
      rw [pB_N]
      refine ev_go 999 rfl trivial ?_
      refine ev_pos (by show i' 30 ≤ nI (pN t s n); rw [hpd.i30]; exact nI_le (Nat.le_refl _) (by omega)) ?_
      refine ev_ret rfl trivial ?_
      rw [hP]
      exact ⟨rfl, i', a', hsc, hpd, rfl⟩
    | succ m ih =>
      intro x e1 e2 i' a' o5 o6 o7 hsc hpd
      have hx : x < pN t s n := by omega
      obtain ⟨c1, c2, c3⟩ := pB_next hx
      have hxB := pB_lt hx
      have hxn := pF_lt hx
      rw [hxB]
      obtain ⟨p25, p27, p29, pg⟩ := hpd.x x hx
      have hfs := nfs_fs hx
      have hC := hI2.C x hx
      have hDx := hI2.D x hx
      obtain ⟨c, hc⟩ : ∃ c, c = pF t s n x := ⟨_, rfl⟩
      rw [← hc] at hxB hxn c1 c3 p25 p27 hfs hC hDx ⊢
      have ht2 := hm.t2 c hxn
      have vx : vp_in (nI x) 400 := vp_in_nI (by omega) (by omega)
      have cx : (nI x).toNatClampNeg = x := nI_clamp (by omega)
      obtain ⟨D, hD⟩ : ∃ D, D = t c / 1440 := ⟨_, rfl⟩
      have hD2 : D < 1096 := by omega
      have nxP : SP (pB t s n (x + 1)) = SP (c + 1) := by rw [hSP]; exact dSum_same _ (by omega) (fun q h1 h2 => c3 q (by omega) h2)
      have nxC : SC (pB t s n (x + 1)) = SC (c + 1) := by rw [hSC]; exact dSum_same _ (by omega) (fun q h1 h2 => c3 q (by omega) h2)
      have sP : SP (c + 1) = SP c + (if fsD t (pR t s n) c = true ∧ lo ≤ D ∧ D < hi then paidA a w D else 0) := by rw [hSP, hD]; rfl
      have sC : SC (c + 1) = SC c + (if fsD t (pR t s n) c = true ∧ lo ≤ D ∧ D < hi then centA i a w D else 0) := by rw [hSC, hD]; rfl
      have e25 : a' 25 (nI x).toNatClampNeg / nI 1440 = nI D := by rw [cx, p25, pk_div (by omega) (by decide) (by decide), hD]
      have skip : ∀ o6 o7, ¬ (fsD t (pR t s n) c = true ∧ lo ≤ D ∧ D < hi) → am_ev E (d + 3) tX9_sumDays (162, [some (.ref 0), some (.int (nI w)), some (.int (nI lo)), some (.int (nI hi)), some (.int (nI x)), some (.int (nI D)), o6, o7], [], am_L (mo i' (va_up (va_up j 45 (lN (SP c))) 46 (lN (SC c))) a' b), 0, 0) P := fun o6 o7 ne => by
        have kk := ih (x + 1) (by omega) (by omega) i' a' (some (.int (nI D))) o6 o7 hsc hpd
        rw [nxP, nxC, sP, sC, if_neg ne, if_neg ne, Nat.add_zero, Nat.add_zero, ← nI_1 x] at kk
        refine ev_go 999 rfl trivial ?_
        exact kk
      refine ev_go 999 rfl trivial ?_
      refine ev_neg (by show ¬ i' 30 ≤ nI x; rw [hpd.i30]; exact nI_ge (by omega) (by omega)) ?_
      refine ev_go 35 rfl ⟨vx, by decide, trivial⟩ ?_
      show am_ev _ _ _ (35, [_, _, _, _, _, some (.int (a' 25 (nI x).toNatClampNeg / nI 1440)), _, _], _, _, _, _) _
      rw [e25]
      refine ev_go 999 rfl ⟨vx, trivial⟩ ?_
      have g29 : a' 29 (nI x).toNatClampNeg = bI (pG t s n x) := by rw [cx, p29]
      cases hgp : pG t s n x with
      | true =>
        rw [hgp] at g29
        refine ev_pos (by show ¬ a' 29 (nI x).toNatClampNeg = 0; rw [g29]; decide) ?_
        exact skip _ _ (fun z => by
          have h1 := hC hgp
          have h2 := z.1
          unfold fsD at h2
          rw [h1] at h2
          simp at h2)
      | false =>
        rw [hgp] at g29
        have hfs := hfs hgp
        refine ev_neg (by show ¬ ¬ a' 29 (nI x).toNatClampNeg = 0; rw [g29]; decide) ?_
        refine ev_go 999 rfl trivial ?_
        by_cases hl : D < lo
        · refine ev_pos (nI_lt hl (by omega)) ?_
          exact skip _ _ (fun z => by omega)
        · refine ev_neg (nI_nlt (by omega) (by omega)) ?_
          refine ev_go 999 rfl trivial ?_
          by_cases hh : D < hi
          · refine ev_pos (nI_lt hh (by omega)) ?_
            have inner : ∀ m2 y, x - y = m2 → y ≤ x → am_ev E (d + 3) tX9_sumDays (66, [some (.ref 0), some (.int (nI w)), some (.int (nI lo)), some (.int (nI hi)), some (.int (nI x)), some (.int (nI D)), some (.int (bI (nfs t s n D y))), some (.int (nI y))], [], am_L (mo i' (va_up (va_up j 45 (lN (SP c))) 46 (lN (SC c))) a' b), 0, 0) P := by
              intro m2
              induction m2 with
              | zero =>
                intro y q1 q2
                have e : y = x := by omega
                subst e
                refine ev_go 999 rfl trivial ?_
                refine ev_pos (nI_le (Nat.le_refl _) (by omega)) ?_
                rw [hD, ← hfs]
                rw [← hD]
                by_cases hfd : fsD t (pR t s n) c = true
                · rw [hfd]
                  refine ev_go 999 rfl trivial ?_
                  refine ev_pos (by decide) ?_
                  obtain ⟨f, h, c38, hf, hh2, hL⟩ := x9_lookA (E := E) (d := d) (i := i') (j := va_up (va_up j 45 (lN (SP c))) 46 (lN (SC c))) (a := a') (b := b) (hsc.inv hI) hw (by rw [hsc.n, hsc.t, hsc.s, ← hn, ← ht, ← hs]; exact hpd) hD2
                  rw [hsc.d] at hf
                  refine ev_go 999 rfl trivial ?_
                  refine ev_call0 rfl (Nat.le_of_ble_eq_true rfl) (fun _ => ⟨_, _, _, rfl, rfl⟩) hL ?_
                  have sc2 : Scr i (va_up i' 38 c38) a (lk a' f h) := hsc.tr Scr.lk
                  have hpaid : cntP (lk a' f h 30) 2880 = paidA a w D := by rw [lk_30]; exact cntP_cong hf
                  have hpd2 : PD (va_up i' 38 c38) (lk a' f h) n t s := hpd.cong (fun p hp => lk_o (by omega) (by omega)) (va_n (by decide))
                  refine ev_go 999 rfl trivial ?_
                  refine ev_call0 rfl (Nat.le_of_ble_eq_true rfl) (fun _ => ⟨_, _, _, rfl, rfl⟩) x9_paid ?_
                  refine ev_go 146 rfl trivial ?_
                  refine ev_M (mo_j45 _) ?_
                  rw [hpaid]
                  have e45 : (va_up (va_up j 45 (lN (SP c))) 46 (lN (SC c))) 45 = lN (SP c) := by rw [va_n (by decide), va_s]
                  obtain ⟨J, hJ⟩ : ∃ J, J = va_up (va_up (va_up j 45 (lN (SP c))) 46 (lN (SC c))) 45 ((va_up (va_up j 45 (lN (SP c))) 46 (lN (SC c))) 45 + (nI (paidA a w D)).toInt64) := ⟨_, rfl⟩
                  rw [← hJ]
                  refine ev_go 999 rfl trivial ?_
                  have hpy := x9_payA (E := E) (d := d) (i := va_up i' 38 c38) (j := J) (a := lk a' f h) (b := b) (sc2.inv hI) hw hD2
                  refine ev_call0 rfl (Nat.le_of_ble_eq_true rfl) (fun _ => ⟨_, _, _, rfl, rfl⟩) hpy ?_
                  refine ev_go 162 rfl trivial ?_
                  refine ev_M (mo_j46 _) ?_
                  have hce : centsN (payN (lk a' f h 30) (rbA (lk a' f h) (kdA (lk a' f h) (gA (lk a' f h) w) D) 4) (exA (lk a' f h) (kdA (lk a' f h) (gA (lk a' f h) w) D) (cl (va_up i' 38 c38 15)) (pA (lk a' f h))) 2880 * rtA (va_up i' 38 c38) (lk a' f h) (gA (lk a' f h) w) D) = centA i a w D := by
                    rw [sc2.g, sc2.rt, sc2.kd, sc2.rb, sc2.ex, sc2.p, sc2.2 15 (by decide) (by decide), lk_30, payN_cong hf]
                    rfl
                  rw [hce]
                  have eJ : va_up J 46 (J 46 + lN (centA i a w D)) = va_up (va_up j 45 (lN (SP (c + 1)))) 46 (lN (SC (c + 1))) := by
                    rw [sP, sC, if_pos ⟨hfd, by omega, hh⟩, if_pos ⟨hfd, by omega, hh⟩, hJ, e45, nI_l (by have := paidA_le a w D; omega), lN_add]
                    funext k
                    by_cases k46 : k = 46
                    · subst k46
                      rw [va_s, va_s, va_n (by decide), va_s, lN_add]
                    · rw [va_n k46, va_n k46]
                      by_cases k45 : k = 45
                      · subst k45; rw [va_s, va_s]
                      · rw [va_n k45, va_n k45, va_n k46, va_n k45]
                  rw [eJ]
                  have kk := ih (y + 1) (by omega) (by omega) (va_up i' 38 c38) (lk a' f h) (some (.int (nI D))) (some (.int (bI true))) (some (.int (nI y))) sc2 hpd2
                  rw [nxP, nxC, ← nI_1 y] at kk
                  refine ev_go 999 rfl trivial ?_
                  exact kk
                · rw [Bool.not_eq_true] at hfd
                  rw [hfd]
                  refine ev_go 999 rfl trivial ?_
                  refine ev_neg (by decide) ?_
                  refine ev_go 999 rfl trivial ?_
                  exact skip _ _ (fun z => by rw [hfd] at z; cases z.1)
              | succ m2 ih2 =>
                intro y q1 q2
                have kk := ih2 (y + 1) (by omega) (by omega)
                rw [nfs_succ, ← nI_1 y] at kk
                obtain ⟨r25, _, r29, _⟩ := hpd.x y (by omega)
                have vy : vp_in (nI y) 400 := vp_in_nI (by omega) (by omega)
                have cy : (nI y).toNatClampNeg = y := nI_clamp (by omega)
                have t2y := hm.t2 (pF t s n y) (pF_lt (by omega))
                refine ev_go 999 rfl trivial ?_
                refine ev_neg (nI_ge (by omega) (by omega)) ?_
                refine ev_go 999 rfl trivial ?_
                cases hny : nfs t s n D y with
                | false =>
                  rw [hny, Bool.false_and] at kk
                  refine ev_pos (by decide) ?_
                  refine ev_go 999 rfl trivial ?_
                  exact kk
                | true =>
                  rw [hny, Bool.true_and] at kk
                  refine ev_neg (by decide) ?_
                  refine ev_go 999 rfl ⟨vy, trivial⟩ ?_
                  cases hgy : pG t s n y with
                  | true =>
                    rw [hgy] at kk
                    refine ev_pos (by show ¬ a' 29 (nI y).toNatClampNeg = 0; rw [cy, r29, hgy]; decide) ?_
                    refine ev_go 999 rfl trivial ?_
                    refine ev_go 999 rfl trivial ?_
                    exact kk
                  | false =>
                    rw [hgy] at kk
                    refine ev_neg (by show ¬ ¬ a' 29 (nI y).toNatClampNeg = 0; rw [cy, r29, hgy]; decide) ?_
                    refine ev_go 999 rfl ⟨vy, by decide, trivial⟩ ?_
                    have ey : a' 25 (nI y).toNatClampNeg / nI 1440 = nI (t (pF t s n y) / 1440) := by rw [cy, r25, pk_div (by omega) (by decide) (by decide)]
                    by_cases hyD : t (pF t s n y) / 1440 = D
                    · rw [decide_eq_true hyD] at kk
                      refine ev_pos (by show a' 25 (nI y).toNatClampNeg / nI 1440 = nI D; rw [ey, hyD]) ?_
                      refine ev_go 999 rfl trivial ?_
                      exact kk
                    · rw [decide_eq_false hyD] at kk
                      refine ev_neg (by show ¬ a' 25 (nI y).toNatClampNeg / nI 1440 = nI D; rw [ey, nI_eq (by omega) (by omega)]; exact hyD) ?_
                      refine ev_go 999 rfl trivial ?_
                      refine ev_go 999 rfl trivial ?_
                      exact kk
            have k0 := inner x 0 (by omega) (Nat.zero_le _)
            rw [show nfs t s n D 0 = true from decide_eq_true (fun z hz => absurd hz (Nat.not_lt_zero z))] at k0
            refine ev_go 66 rfl trivial ?_
            exact k0
          · refine ev_neg (nI_nlt (by omega) (by omega)) ?_
            refine ev_go 999 rfl trivial ?_
            exact skip _ _ (fun z => by omega)
  have main : am_ev E (d + 3) tX9_sumDays (0, am_in [.ref 0, .int (nI w), .int (nI lo), .int (nI hi)] tX9_sumDays.2.2.2.1, [], am_L (mo i j a b), 0, 0) P := by
    refine ev_go 5 rfl trivial ?_
    refine ev_M (mo_j45 _) ?_
    refine ev_go 10 rfl trivial ?_
    refine ev_M (mo_j46 _) ?_
    have z0 : ∀ V, dSum t (pR t s n) V lo hi (pB t s n 0) = 0 := fun V => by rw [dSum_same (i := 0) _ (Nat.zero_le _) (fun q _ h2 => pB_0 q h2)]; rfl
    have k0 := loop (pN t s n) 0 (by omega) (Nat.zero_le _) i a none none none Scr.rf hp
    rw [hSP, hSC, z0, z0] at k0
    rw [hSP, hSC] at hP
    refine ev_go 13 rfl trivial ?_
    exact k0
  obtain ⟨v, M', hv, hD2⟩ := am_D_ex (Nat.le_of_ble_eq_true rfl) main
  rw [hP] at hv
  obtain ⟨rfl, i', a', h1, h2, rfl⟩ := hv
  exact ⟨i', a', h1, h2, hD2⟩
end S9
