/-! The reference's pay of a day. -/
/-- what the surcharges add at minute m -/
def exN (X : Nat → Nat → Bool) (me : Nat → Bool) (P : Nat → Int32) (p : Nat → Nat) (ns : Nat) : Nat := fb_sm (fun s => if ctB X me P ns s = true then p s else 0) ns
/-- shares of minute m -/
def shN (f : Nat → Int32) (ov : Nat) (ex : Nat → Nat) (m : Nat) : Nat := if nI 6 ≤ f m then 10000 + (if f m = nI 6 then ov else 0) + ex m else 0
def payN (f : Nat → Int32) (ov : Nat) (ex : Nat → Nat) (N : Nat) : Nat := fb_sm (shN f ov ex) N
def centsN (x : Nat) : Nat := if 300000 < x % 600000 ∨ (x % 600000 = 300000 ∧ x / 600000 % 2 = 1) then x / 600000 + 1 else x / 600000
theorem fb_sm_b {f : Nat → Nat} {c n : Nat} (h : ∀ k, k < n → f k ≤ c) {q : Nat} (hq : q ≤ n) : fb_sm f q ≤ n * c := Nat.le_trans (fb_sm_bound (fun k hk => h k (by omega))) (Nat.mul_le_mul_right c hq)
/-- the surcharges' data -/
abbrev SU (i : Nat → Int32) (a : Nat → Nat → Int32) (ns : Nat) (p : Nat → Nat) : Prop := (ns ≤ 12) ∧ (i 15 = nI ns) ∧ (∀ s, s < ns → a 11 s = nI (p s)) ∧ (∀ s, s < ns → p s ≤ 20000)
theorem SU.n12 {i : Nat → Int32} {a : Nat → Nat → Int32} {ns : Nat} {p : Nat → Nat} (h : SU i a ns p) : ns ≤ 12 := h.1
theorem SU.i15 {i : Nat → Int32} {a : Nat → Nat → Int32} {ns : Nat} {p : Nat → Nat} (h : SU i a ns p) : i 15 = nI ns := h.2.1
theorem SU.hp {i : Nat → Int32} {a : Nat → Nat → Int32} {ns : Nat} {p : Nat → Nat} (h : SU i a ns p) : ∀ s, s < ns → a 11 s = nI (p s) := h.2.2.1
theorem SU.bp {i : Nat → Int32} {a : Nat → Nat → Int32} {ns : Nat} {p : Nat → Nat} (h : SU i a ns p) : ∀ s, s < ns → p s ≤ 20000 := h.2.2.2
def meA (a : Nat → Nat → Int32) (kd m : Nat) : Nat → Bool := fun t => meB (a 8 t) (a 9 t) (a 10 t) (nI kd) (nI (m % 1440))
def exA (a : Nat → Nat → Int32) (kd ns : Nat) (p : Nat → Nat) (m : Nat) : Nat := exN (fun s t => decide (¬ a 12 (12 * s + t) = 0)) (meA a kd m) (a 11) p ns
theorem exA_le {i : Nat → Int32} {a : Nat → Nat → Int32} {kd ns m : Nat} {p : Nat → Nat} (h : SU i a ns p) : exA a kd ns p m ≤ 240000 := by
  have h12 := h.n12
  refine Nat.le_trans (fb_sm_bound (c := 20000) (fun k hk => ?_)) (by omega)
  split
  · exact h.bp k hk
  · omega
section P9
variable {E : am_E} {d : Nat} {i : Nat → Int32} {j : Nat → Int64} {a : Nat → Nat → Int32} {b : Nat → Nat → Int64}
theorem x9_pay {w day g kd ov ns nr rt : Nat} {p : Nat → Nat} (hw : w < 30) (hd : day < 1096) (hg : g < 6) (h16 : a 16 w = nI g) (hk : a 2 (8 * g + (if a 1 day = 0 then day % 7 else 7)) = nI kd) (hk8 : kd < 8) (hov : a 4 (5 * kd + 4) = nI ov) (bov : ov ≤ 20000) (hS : SU i a ns p) (hnr : nr ≤ 60) (h9 : i 9 = nI nr) (hrt : rcents (a 7) (rbest (a 5) (a 6) (nI g) (nI day) nr) = nI rt) (brt : rt ≤ 100000) :
    am_D E (d + 3) tX9_pay [.ref 0, .int (nI w), .int (nI day)] (am_L (mo i j a b)) 0 0 (some (.long (lN (centsN (payN (a 30) ov (exA a kd ns p) 2880 * rt))))) (am_L (mo i j a b)) := by
  have hns := hS.n12
  obtain ⟨S, hSd⟩ : ∃ S, S = payN (a 30) ov (exA a kd ns p) 2880 := ⟨_, rfl⟩
  have hsh : ∀ m, shN (a 30) ov (exA a kd ns p) m ≤ 270000 := fun m => by
    have := exA_le (kd := kd) (m := m) hS
    unfold shN
    split
    · split <;> omega
    · omega
  have hSb : S ≤ 2880 * 270000 := by rw [hSd]; exact fb_sm_b (fun k _ => hsh k) (Nat.le_refl _)
  have hSr : S * rt ≤ 2880 * 270000 * 100000 := Nat.mul_le_mul hSb brt
  rw [← hSd]
  refine am_D_of (Nat.le_of_ble_eq_true rfl) ?_
  have fin : ∀ o6 o7 o8 o9, am_ev E (d + 2) tX9_pay (133, [some (.ref 0), some (.int (nI w)), some (.int (nI day)), some (.int (nI kd)), some (.long (lN S)), none, o6, o7, o8, o9], [], am_L (mo i j a b), 0, 0) (fun v' M'' => v' = some (.long (lN (centsN (S * rt)))) ∧ M'' = am_L (mo i j a b)) := by
    intro o6 o7 o8 o9
    have eg : a 16 (nI w).toNatClampNeg = nI g := by rw [nI_clamp (by omega), h16]
    have hr := x9_rateOf (E := E) (d := d + 1) (i := i) (j := j) (a := a) (b := b) (g := nI g) (day := nI day) hnr h9
    rw [hrt, ← eg] at hr
    refine ev_go 999 rfl ⟨vp_in_nI hw (by omega), trivial⟩ ?_
    refine ev_call0 rfl (Nat.le_of_ble_eq_true rfl) (fun _ => ⟨_, _, _, rfl, rfl⟩) hr ?_
    refine ev_go 150 rfl trivial ?_
    show am_ev _ _ _ (150, [_, _, _, _, _, _, _, _, _, _], _, _, _, _) _
    rw [nI_l (by omega), lN_mul]
    obtain ⟨x, hx⟩ : ∃ x, x = S * rt := ⟨_, rfl⟩
    rw [← hx] at hSr ⊢
    have ne : ¬ lN 600000 = 0 := by decide
    have hxd : x / 600000 < 2 ^ 62 := by omega
    have hxm : x % 600000 < 600000 := Nat.mod_lt _ (by omega)
    refine ev_go 166 rfl ⟨ne, ne, trivial⟩ ?_
    show am_ev _ _ _ (166, [_, _, _, _, _, _, some (.long (lN x / lN 600000)), _, some (.long (lN x - lN x / lN 600000 * lN 600000)), _], _, _, _, _) _
    rw [pk_lRem (by omega) (by omega) (by omega), pk_lDiv (by omega) (by omega) (by omega)]
    have up : 300000 < x % 600000 ∨ (x % 600000 = 300000 ∧ x / 600000 % 2 = 1) → am_ev E (d + 2) tX9_pay (195, [some (.ref 0), some (.int (nI w)), some (.int (nI day)), some (.int (nI kd)), some (.long (lN x)), none, some (.long (lN (x / 600000))), none, some (.long (lN (x % 600000))), none], [], am_L (mo i j a b), 0, 0) (fun v' M'' => v' = some (.long (lN (centsN x))) ∧ M'' = am_L (mo i j a b)) := fun z => by
      refine ev_go 999 rfl trivial ?_
      refine ev_ret rfl trivial ⟨?_, rfl⟩
      unfold centsN
      rw [if_pos z, ← lN_1]
      rfl
    have dn : ¬ (300000 < x % 600000 ∨ (x % 600000 = 300000 ∧ x / 600000 % 2 = 1)) → am_ev E (d + 2) tX9_pay (202, [some (.ref 0), some (.int (nI w)), some (.int (nI day)), some (.int (nI kd)), some (.long (lN x)), none, some (.long (lN (x / 600000))), none, some (.long (lN (x % 600000))), none], [], am_L (mo i j a b), 0, 0) (fun v' M'' => v' = some (.long (lN (centsN x))) ∧ M'' = am_L (mo i j a b)) := fun z => by
      refine ev_go 999 rfl trivial ?_
      refine ev_ret rfl trivial ⟨?_, rfl⟩
      unfold centsN
      rw [if_neg z]
    refine ev_go 999 rfl trivial ?_
    refine ev_if (fun h => ?_) (fun h => ?_)
    · have h : 0 < lg_cmp (lN (x % 600000)) (lN 300000) := h
      rw [lg_cmp_gt, pk_lLT (by omega) (by omega)] at h
      exact up (Or.inl h)
    · have h1 : ¬ 0 < lg_cmp (lN (x % 600000)) (lN 300000) := h
      rw [lg_cmp_gt, pk_lLT (by omega) (by omega)] at h1
      refine ev_go 999 rfl trivial ?_
      refine ev_if (fun h => ?_) (fun h => ?_)
      · have h : ¬ lg_cmp (lN (x % 600000)) (lN 300000) = 0 := h
        rw [lg_cmp_eq, pk_lEQ (by omega) (by omega)] at h
        exact dn (fun z => by omega)
      · have h2 : ¬ ¬ lg_cmp (lN (x % 600000)) (lN 300000) = 0 := h
        rw [lg_cmp_eq, pk_lEQ (by omega) (by omega)] at h2
        refine ev_go 999 rfl ⟨by decide, trivial⟩ ?_
        refine ev_if (fun h => ?_) (fun h => ?_)
        · have h : ¬ lg_cmp (lN (x / 600000) - lN (x / 600000) / lN 2 * lN 2) (lN 1) = 0 := h
          rw [lg_cmp_eq, pk_lRem (by omega) (by omega) (by omega), pk_lEQ (by omega) (by omega)] at h
          exact dn (fun z => by omega)
        · have h : ¬ ¬ lg_cmp (lN (x / 600000) - lN (x / 600000) / lN 2 * lN 2) (lN 1) = 0 := h
          rw [lg_cmp_eq, pk_lRem (by omega) (by omega) (by omega), pk_lEQ (by omega) (by omega)] at h
          exact up (Or.inr (by omega))
  have loop : ∀ n m, 2880 - m = n → m ≤ 2880 → ∀ o7 o8 o9, am_ev E (d + 2) tX9_pay (18, [some (.ref 0), some (.int (nI w)), some (.int (nI day)), some (.int (nI kd)), some (.long (lN (payN (a 30) ov (exA a kd ns p) m))), none, some (.int (nI m)), o7, o8, o9], [], am_L (mo i j a b), 0, 0) (fun v' M'' => v' = some (.long (lN (centsN (S * rt)))) ∧ M'' = am_L (mo i j a b)) := by
    intro n
    induction n with
    | zero =>
      intro m g1 g2 o7 o8 o9
      have e : m = 2880 := by omega
      subst e
      refine ev_go 999 rfl trivial ?_
      refine ev_pos (nI_le (Nat.le_refl _) (by omega)) ?_
      rw [← hSd]
      exact fin _ _ _ _
    | succ n ih =>
      intro m g1 g2 o7 o8 o9
      have kk := ih (m + 1) (by omega) (by omega)
      have hps : payN (a 30) ov (exA a kd ns p) (m + 1) = payN (a 30) ov (exA a kd ns p) m + shN (a 30) ov (exA a kd ns p) m := rfl
      have vm : vp_in (nI m) 2880 := vp_in_nI (by omega) (by omega)
      have cm : (nI m).toNatClampNeg = m := nI_clamp (by omega)
      rw [hps, ← nI_1 m] at kk
      refine ev_go 999 rfl trivial ?_
      refine ev_neg (nI_ge (a := m) (b := 2880) (by omega) (by omega)) ?_
      refine ev_go 999 rfl ⟨vm, trivial⟩ ?_
      refine ev_if (fun h => ?_) (fun h => ?_)
      · have h6 : nI 6 ≤ a 30 (nI m).toNatClampNeg := h
        rw [cm] at h6
        obtain ⟨z, hz⟩ : ∃ z, z = 10000 + (if a 30 m = nI 6 then ov else 0) := ⟨_, rfl⟩
        have hzb : z ≤ 30000 := by rw [hz]; split <;> omega
        have hsm : shN (a 30) ov (exA a kd ns p) m = z + exA a kd ns p m := by unfold shN; rw [if_pos h6, hz]
        rw [hsm] at kk
        have inner : ∀ n2 s, ns - s = n2 → s ≤ ns → am_ev E (d + 2) tX9_pay (76, [some (.ref 0), some (.int (nI w)), some (.int (nI day)), some (.int (nI kd)), some (.long (lN (payN (a 30) ov (exA a kd ns p) m))), none, some (.int (nI m)), some (.int (nI (z + fb_sm (fun s => if ctB (fun s t => decide (¬ a 12 (12 * s + t) = 0)) (meA a kd m) (a 11) ns s = true then p s else 0) s))), some (.int (nI s)), o9], [], am_L (mo i j a b), 0, 0) (fun v' M'' => v' = some (.long (lN (centsN (S * rt)))) ∧ M'' = am_L (mo i j a b)) := by
          intro n2
          induction n2 with
          | zero =>
            intro s e1 e2
            have e : s = ns := by omega
            subst e
            refine ev_go 999 rfl trivial ?_
            refine ev_pos (by show i 15 ≤ nI s; rw [hS.i15]; exact nI_le (Nat.le_refl _) (by omega)) ?_
            have hex : fb_sm (fun q => if ctB (fun s t => decide (¬ a 12 (12 * s + t) = 0)) (meA a kd m) (a 11) s q = true then p q else 0) s = exA a kd s p m := rfl
            rw [hex]
            have hb := exA_le (kd := kd) (m := m) hS
            have e3 : (nI (z + exA a kd s p m)).toInt64 = lN (z + exA a kd s p m) := nI_l (by omega)
            rw [← lN_add, ← e3] at kk
            refine ev_go 999 rfl trivial ?_
            exact kk _ _ _
          | succ n2 ih2 =>
            intro s e1 e2
            have kk2 := ih2 (s + 1) (by omega) (by omega)
            rw [fb_sm_succ, ← nI_1 s, ← Nat.add_assoc] at kk2
            have hca := x9_countsAt (E := E) (d := d) (i := i) (j := j) (a := a) (b := b) (s := s) (mi := m) (n := ns) (kd := nI kd) (by omega) hns (by omega) hS.i15 (meA a kd m) rfl
            refine ev_go 999 rfl trivial ?_
            refine ev_neg (by show ¬ i 15 ≤ nI s; rw [hS.i15]; exact nI_ge (by omega) (by omega)) ?_
            refine ev_go 999 rfl trivial ?_
            refine ev_call0 rfl (Nat.le_of_ble_eq_true rfl) (fun _ => ⟨_, _, _, rfl, rfl⟩) hca ?_
            have vs : vp_in (nI s) 12 := vp_in_nI (by omega) (by omega)
            have cs : a 11 (nI s).toNatClampNeg = nI (p s) := by rw [nI_clamp (by omega)]; exact hS.hp s (by omega)
            by_cases hct : ctB (fun s t => decide (¬ a 12 (12 * s + t) = 0)) (meA a kd m) (a 11) ns s = true
            · rw [if_pos hct, ← nI_add, ← cs] at kk2
              rw [hct]
              refine ev_go 999 rfl trivial ?_
              refine ev_neg (by decide) ?_
              refine ev_go 999 rfl ⟨vs, trivial⟩ ?_
              refine ev_go 999 rfl trivial ?_
              exact kk2
            · rw [if_neg hct, ← nI_add] at kk2
              rw [Bool.not_eq_true] at hct
              rw [hct]
              refine ev_go 999 rfl trivial ?_
              refine ev_pos (by decide) ?_
              refine ev_go 999 rfl trivial ?_
              exact kk2
        have k0 := inner ns 0 (by omega) (Nat.zero_le _)
        rw [show z + fb_sm (fun s => if ctB (fun s t => decide (¬ a 12 (12 * s + t) = 0)) (meA a kd m) (a 11) ns s = true then p s else 0) 0 = z from rfl] at k0
        refine ev_go 999 rfl ⟨vm, trivial⟩ ?_
        refine ev_if (fun h => ?_) (fun h => ?_)
        · have h7 : ¬ a 30 (nI m).toNatClampNeg = nI 6 := h
          rw [cm] at h7
          rw [if_neg h7] at hz
          rw [hz, ← nI_add] at k0
          refine ev_go 76 rfl trivial ?_
          exact k0
        · have h7 : ¬ ¬ a 30 (nI m).toNatClampNeg = nI 6 := h
          rw [cm] at h7
          rw [if_pos (Classical.not_not.mp h7)] at hz
          have e5 : Int32.ofInt 5 * nI kd + Int32.ofInt 4 = nI (5 * kd + 4) := by rw [show Int32.ofInt 5 = nI 5 from rfl, show Int32.ofInt 4 = nI 4 from rfl, pk_mul, nI_add]
          have e4 : a 4 (Int32.ofInt 5 * nI kd + Int32.ofInt 4).toNatClampNeg = nI ov := by rw [e5, nI_clamp (by omega), hov]
          rw [hz, ← nI_add, ← e4] at k0
          refine ev_go 999 rfl ⟨by rw [e5]; exact vp_in_nI (by omega) (by omega), trivial⟩ ?_
          refine ev_go 76 rfl trivial ?_
          exact k0
      · have h6 : ¬ nI 6 ≤ a 30 (nI m).toNatClampNeg := h
        rw [cm] at h6
        rw [show shN (a 30) ov (exA a kd ns p) m = 0 by unfold shN; exact if_neg h6, Nat.add_zero] at kk
        refine ev_go 999 rfl trivial ?_
        refine ev_go 999 rfl trivial ?_
        exact kk _ _ _
  have eg : a 16 (nI w).toNatClampNeg = nI g := by rw [nI_clamp (by omega), h16]
  have hkd := x9_kindOf (E := E) (d := d + 1) (i := i) (j := j) (a := a) (b := b) hg hd
  rw [hk, ← eg] at hkd
  refine ev_go 999 rfl ⟨vp_in_nI hw (by omega), trivial⟩ ?_
  refine ev_call0 rfl (Nat.le_of_ble_eq_true rfl) (fun _ => ⟨_, _, _, rfl, rfl⟩) hkd ?_
  refine ev_go 18 rfl trivial ?_
  exact loop 2880 0 (by omega) (Nat.zero_le _) none none none
end P9
