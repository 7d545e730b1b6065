/-! The class's surcharges. -/
def su (z : Int32) (K F T P X : Nat → Int32) : List am_C := [.inr (5, [.ref 1, .ref 2, .ref 3, .ref 4, .ref 5, .int z]), .inl (0, 12, .inl K), .inl (0, 12, .inl F), .inl (0, 12, .inl T), .inl (0, 12, .inl P), .inl (0, 12, .inl X)]
theorem shl1 : ∀ s, s < 12 → (1 : Int32) <<< (nI s &&& 31) = nI (2 ^ s) := by decide
theorem smod32 : ∀ s, s < 12 → ((nI s &&& 31 : Int32).toBitVec.smod 32).toNat = s := by decide
theorem bitS {m s : Nat} (hm : m < 2 ^ 31) (hs : s < 12) : ((nI m >>> (nI s &&& 31)) &&& 1) = bI (m.testBit s) := by
  rw [pk_shrN hm (nI s &&& 31) s (smod32 s hs)]
  have h := fa_mask (m / 2 ^ s) 1
  have e : nI (m / 2 ^ s) &&& 1 = nI (m / 2 ^ s % 2) := h
  rw [e, Nat.testBit_eq_decide_div_mod_eq]
  rcases Nat.mod_two_eq_zero_or_one (m / 2 ^ s) with w | w
  · rw [w]; rfl
  · rw [w]; rfl
/-- a number with a bit for each -/
def mk2 (b : Nat → Bool) : Nat → Nat
  | 0 => 0
  | n + 1 => if b n = true then mk2 b n ||| 2 ^ n else mk2 b n
theorem mk2_bit (b : Nat → Bool) : ∀ n s, (mk2 b n).testBit s = (decide (s < n) && b s)
  | 0, s => by show (0 : Nat).testBit s = _; rw [Nat.zero_testBit, decide_eq_false (Nat.not_lt_zero s)]; rfl
  | n + 1, s => by
    have ih := mk2_bit b n s
    unfold mk2
    by_cases h : s = n
    · subst h
      rw [decide_eq_true (show s < s + 1 by omega), Bool.true_and]
      rw [decide_eq_false (Nat.lt_irrefl s), Bool.false_and] at ih
      split
      · rename_i hb; rw [fb_bit_set, ih, decide_eq_true rfl, hb]; rfl
      · rename_i hb; rw [ih]; cases hq : b s with
        | true => exact absurd hq hb
        | false => rfl
    · have e : decide (s < n + 1) = decide (s < n) := decide_eq_decide.mpr ⟨fun _ => by omega, fun _ => by omega⟩
      rw [e]
      split
      · rw [fb_bit_set, ih, decide_eq_false h, Bool.or_false]
      · exact ih
theorem mk2_lt (b : Nat → Bool) (n : Nat) : mk2 b n < 2 ^ n := by
  induction n with
  | zero => exact Nat.one_pos
  | succ n ih =>
    unfold mk2
    have h2 : 2 ^ (n + 1) = 2 ^ n + 2 ^ n := by rw [Nat.pow_succ]; omega
    split
    · exact Nat.or_lt_two_pow (by omega) (by rw [h2]; have := Nat.two_pow_pos n; omega)
    · omega
theorem mk2_12 (b : Nat → Bool) {n : Nat} (h : n ≤ 12) : mk2 b n < 4096 := Nat.lt_of_lt_of_le (mk2_lt b n) (Nat.pow_le_pow_right (by omega) h)
theorem mk2_s {b : Nat → Bool} {n : Nat} (hn : n < 12) : nI (mk2 b (n + 1)) = if b n = true then nI (mk2 b n) ||| ((1 : Int32) <<< (nI n &&& 31)) else nI (mk2 b n) := by
  rw [shl1 n hn]
  show nI (if b n = true then mk2 b n ||| 2 ^ n else mk2 b n) = _
  split
  · rw [fa_or]
  · rfl
abbrev SV (ns : Nat) (K F T P : Nat → Int32) (p : Nat → Nat) : Prop := (ns ≤ 12) ∧ (∀ s, s < ns → le0 (K s) 255) ∧ (∀ s, s < ns → le0 (F s) 1439) ∧ (∀ s, s < ns → le0 (T s) 1439) ∧ (∀ s, s < ns → P s = nI (p s)) ∧ (∀ s, s < ns → p s ≤ 20000)
theorem SV.n12 {ns : Nat} {K F T P : Nat → Int32} {p : Nat → Nat} (h : SV ns K F T P p) : ns ≤ 12 := h.1
theorem SV.k {ns : Nat} {K F T P : Nat → Int32} {p : Nat → Nat} (h : SV ns K F T P p) : ∀ s, s < ns → le0 (K s) 255 := h.2.1
theorem SV.f {ns : Nat} {K F T P : Nat → Int32} {p : Nat → Nat} (h : SV ns K F T P p) : ∀ s, s < ns → le0 (F s) 1439 := h.2.2.1
theorem SV.t {ns : Nat} {K F T P : Nat → Int32} {p : Nat → Nat} (h : SV ns K F T P p) : ∀ s, s < ns → le0 (T s) 1439 := h.2.2.2.1
theorem SV.p {ns : Nat} {K F T P : Nat → Int32} {p : Nat → Nat} (h : SV ns K F T P p) : ∀ s, s < ns → P s = nI (p s) := h.2.2.2.2.1
theorem SV.pb {ns : Nat} {K F T P : Nat → Int32} {p : Nat → Nat} (h : SV ns K F T P p) : ∀ s, s < ns → p s ≤ 20000 := h.2.2.2.2.2
def meV (K F T : Nat → Int32) (kd m : Nat) : Nat → Bool := fun s => meB (K s) (F s) (T s) (nI kd) (nI m)
section X5
variable {E : am_E} {d ns : Nat} {K F T P X : Nat → Int32} {p : Nat → Nat}
theorem x5_has {s : Int32} {z : Nat} (hz : z ≤ 12) : am_D E (d + 1) tX5_has [.ref 0, .int s] (am_L (su (nI z) K F T P X)) 0 0 (some (.int (bI (inB s 0 (nI z - 1))))) (am_L (su (nI z) K F T P X)) := by
  have hin : inB s 0 (nI z - 1) = (decide (0 ≤ s) && decide (s < nI z)) := by
    unfold inB
    congr 1
    refine decide_eq_decide.mpr ?_
    cases z with
    | zero =>
      rw [fa_le, fa_lt]
      have e1 : (nI 0 - 1 : Int32).toInt = -1 := by decide
      have e2 : (nI 0 : Int32).toInt = 0 := by decide
      omega
    | succ z =>
      rw [nI_pred, fa_le, fa_lt, nI_toInt (by omega), nI_toInt (by omega)]
      omega
  rw [hin]
  refine am_D_of (Nat.le_of_ble_eq_true rfl) ?_
  refine ev_go 999 rfl trivial ?_
  refine ev_if (fun h => ?_) (fun h => ?_)
  · have h1 : ¬ 0 ≤ s := Int32.not_le.mpr h
    rw [decide_eq_false h1]
    refine ev_go 999 rfl trivial ?_
    exact ev_ret rfl ⟨Or.inl rfl, trivial⟩ ⟨rfl, rfl⟩
  · rw [decide_eq_true (Int32.not_lt.mp h)]
    refine ev_go 999 rfl trivial ?_
    refine ev_if (fun h => ?_) (fun h => ?_)
    · have h1 : ¬ s < nI z := Int32.not_lt.mpr h
      rw [decide_eq_false h1]
      refine ev_go 999 rfl trivial ?_
      exact ev_ret rfl ⟨Or.inl rfl, trivial⟩ ⟨rfl, rfl⟩
    · rw [decide_eq_true (Int32.not_le.mp h)]
      refine ev_go 999 rfl trivial ?_
      refine ev_go 999 rfl trivial ?_
      exact ev_ret rfl ⟨Or.inr rfl, trivial⟩ ⟨rfl, rfl⟩
theorem x5_spans {s : Nat} {m Z : Int32} (hs : s < 12) : am_D E (d + 1) tX5_spans [.ref 0, .int (nI s), .int m] (am_L (su Z K F T P X)) 0 0 (some (.int (bI (spB (F s) (T s) m)))) (am_L (su Z K F T P X)) := by
  have v : vp_in (nI s) 12 := vp_in_nI hs (by omega)
  have c : (nI s).toNatClampNeg = s := nI_clamp (by omega)
  unfold spB
  refine am_D_of (Nat.le_of_ble_eq_true rfl) ?_
  refine ev_go 999 rfl ⟨v, v, trivial⟩ ?_
  refine ev_if (fun h => ?_) (fun h => ?_)
  · have h1 : ¬ F s < T s := by have h : T (nI s).toNatClampNeg ≤ F (nI s).toNatClampNeg := h; rw [c] at h; exact Int32.not_lt.mpr h
    rw [if_neg h1]
    refine ev_go 999 rfl ⟨v, v, trivial⟩ ?_
    refine ev_if (fun h => ?_) (fun h => ?_)
    · have h : F (nI s).toNatClampNeg = T (nI s).toNatClampNeg := h
      rw [c] at h
      rw [decide_eq_true h]
      refine ev_go 999 rfl trivial ?_
      refine ev_go 999 rfl trivial ?_
      exact ev_ret rfl ⟨Or.inr rfl, trivial⟩ ⟨rfl, rfl⟩
    · have h : ¬ F (nI s).toNatClampNeg = T (nI s).toNatClampNeg := h
      rw [c] at h
      rw [decide_eq_false h, Bool.false_or]
      refine ev_go 999 rfl ⟨v, trivial⟩ ?_
      refine ev_if (fun h => ?_) (fun h => ?_)
      · have h : F (nI s).toNatClampNeg ≤ m := h
        rw [c] at h
        rw [decide_eq_true h, Bool.true_or]
        refine ev_go 999 rfl trivial ?_
        refine ev_go 999 rfl trivial ?_
        exact ev_ret rfl ⟨Or.inr rfl, trivial⟩ ⟨rfl, rfl⟩
      · have h : ¬ F (nI s).toNatClampNeg ≤ m := h
        rw [c] at h
        rw [decide_eq_false h, Bool.false_or]
        refine ev_go 999 rfl ⟨v, trivial⟩ ?_
        refine ev_if (fun h => ?_) (fun h => ?_)
        · have h : T (nI s).toNatClampNeg ≤ m := h
          rw [c] at h
          rw [decide_eq_false (Int32.not_lt.mpr h)]
          refine ev_go 999 rfl trivial ?_
          exact ev_ret rfl ⟨Or.inl rfl, trivial⟩ ⟨rfl, rfl⟩
        · have h : ¬ T (nI s).toNatClampNeg ≤ m := h
          rw [c] at h
          rw [decide_eq_true (Int32.not_le.mp h)]
          refine ev_go 999 rfl trivial ?_
          refine ev_go 999 rfl trivial ?_
          exact ev_ret rfl ⟨Or.inr rfl, trivial⟩ ⟨rfl, rfl⟩
  · have h1 : F s < T s := by have h : ¬ T (nI s).toNatClampNeg ≤ F (nI s).toNatClampNeg := h; rw [c] at h; exact Int32.not_le.mp h
    rw [if_pos h1]
    refine ev_go 999 rfl ⟨v, trivial⟩ ?_
    refine ev_if (fun h => ?_) (fun h => ?_)
    · have h : m < F (nI s).toNatClampNeg := h
      rw [c] at h
      rw [decide_eq_false (Int32.not_le.mpr h), Bool.false_and]
      refine ev_go 999 rfl trivial ?_
      exact ev_ret rfl ⟨Or.inl rfl, trivial⟩ ⟨rfl, rfl⟩
    · have h : ¬ m < F (nI s).toNatClampNeg := h
      rw [c] at h
      rw [decide_eq_true (Int32.not_lt.mp h), Bool.true_and]
      refine ev_go 999 rfl ⟨v, trivial⟩ ?_
      refine ev_if (fun h => ?_) (fun h => ?_)
      · have h : T (nI s).toNatClampNeg ≤ m := h
        rw [c] at h
        rw [decide_eq_false (Int32.not_lt.mpr h)]
        refine ev_go 999 rfl trivial ?_
        exact ev_ret rfl ⟨Or.inl rfl, trivial⟩ ⟨rfl, rfl⟩
      · have h : ¬ T (nI s).toNatClampNeg ≤ m := h
        rw [c] at h
        rw [decide_eq_true (Int32.not_le.mp h)]
        refine ev_go 999 rfl trivial ?_
        refine ev_go 999 rfl trivial ?_
        exact ev_ret rfl ⟨Or.inr rfl, trivial⟩ ⟨rfl, rfl⟩
theorem bI_1 {c : Bool} : bI c = 1 ↔ c = true := by cases c <;> decide
theorem x5_meeting {kd m : Nat} (hS : SV ns K F T P p) (hk : kd < 8) : am_D E (d + 2) tX5_meeting [.ref 0, .int (nI kd), .int (nI m)] (am_L (su (nI ns) K F T P X)) 0 0 (some (.int (nI (mk2 (meV K F T kd m) ns)))) (am_L (su (nI ns) K F T P X)) := by
  have h12 := hS.n12
  refine am_D_of (Nat.le_of_ble_eq_true rfl) ?_
  refine ev_go 5 rfl trivial ?_
  have loop : ∀ n q, ns - q = n → q ≤ ns → am_ev E (d + 1) tX5_meeting (5, [some (.ref 0), some (.int (nI kd)), some (.int (nI m)), some (.int (nI (mk2 (meV K F T kd m) q))), some (.int (nI q))], [], am_L (su (nI ns) K F T P X), 0, 0) (fun v' M'' => v' = some (.int (nI (mk2 (meV K F T kd m) ns))) ∧ M'' = am_L (su (nI ns) K F T P X)) := by
    intro n
    induction n with
    | zero =>
      intro q e1 e2
      have e : q = ns := by omega
      subst e
      refine ev_go 999 rfl trivial ?_
      refine ev_pos (nI_le (Nat.le_refl _) (by omega)) ?_
      refine ev_go 999 rfl trivial ?_
      exact ev_ret rfl trivial ⟨rfl, rfl⟩
    | succ n ih =>
      intro q e1 e2
      have kk := ih (q + 1) (by omega) (by omega)
      rw [mk2_s (by omega), ← nI_1 q] at kk
      have v : vp_in (nI q) 12 := vp_in_nI (by omega) (by omega)
      have c : (nI q).toNatClampNeg = q := nI_clamp (by omega)
      have hK := hS.k q (by omega)
      have hb : ((K q >>> (nI kd &&& 31)) &&& 1) = bI ((cl (K q)).testBit kd) := by
        rw [hK.1, bitS (by have := hK.2; omega) (by omega), ← hK.1]
      have hme : meV K F T kd m q = ((cl (K q)).testBit kd && spB (F q) (T q) (nI m)) := by
        unfold meV meB
        rw [hb]
        cases (cl (K q)).testBit kd <;> rfl
      rw [hme] at kk
      refine ev_go 999 rfl trivial ?_
      refine ev_neg (nI_ge (by omega) (by omega)) ?_
      refine ev_go 999 rfl ⟨v, trivial⟩ ?_
      cases hbt : (cl (K q)).testBit kd with
      | false =>
        rw [hbt] at hb kk
        refine ev_pos (by show ¬ ((K (nI q).toNatClampNeg >>> (nI kd &&& 31)) &&& 1) = 1; rw [c, hb]; decide) ?_
        refine ev_go 999 rfl trivial ?_
        exact kk
      | true =>
        rw [hbt] at hb kk
        refine ev_neg (by show ¬ ¬ ((K (nI q).toNatClampNeg >>> (nI kd &&& 31)) &&& 1) = 1; rw [c, hb]; decide) ?_
        refine ev_go 999 rfl trivial ?_
        refine ev_call0 rfl (Nat.le_of_ble_eq_true rfl) (fun _ => ⟨_, _, _, rfl, rfl⟩) (x5_spans (s := q) (m := nI m) (by omega)) ?_
        rw [Bool.true_and] at kk
        cases hsp : spB (F q) (T q) (nI m) with
        | false =>
          rw [hsp] at kk
          refine ev_go 999 rfl trivial ?_
          refine ev_pos (by decide) ?_
          refine ev_go 999 rfl trivial ?_
          exact kk
        | true =>
          rw [hsp] at kk
          refine ev_go 999 rfl trivial ?_
          refine ev_neg (by decide) ?_
          refine ev_go 999 rfl trivial ?_
          exact kk
  exact loop ns 0 (by omega) (Nat.zero_le _)
theorem x5_isBeaten {s ri : Nat} (hS : SV ns K F T P p) (hs : s < 12) (hr : ri < 4096) : am_D E (d + 1) tX5_isBeaten [.ref 0, .int (nI s), .int (nI ri)] (am_L (su (nI ns) K F T P X)) 0 0 (some (.int (bI (decide (∃ t, t < ns ∧ ri.testBit t = true ∧ btB P s t = true))))) (am_L (su (nI ns) K F T P X)) := by
  have h12 := hS.n12
  have vs : vp_in (nI s) 12 := vp_in_nI hs (by omega)
  have cs : (nI s).toNatClampNeg = s := nI_clamp (by omega)
  refine am_D_of (Nat.le_of_ble_eq_true rfl) ?_
  refine ev_go 2 rfl trivial ?_
  have loop : ∀ n q, ns - q = n → q ≤ ns → (∀ t, t < q → ¬ (ri.testBit t = true ∧ btB P s t = true)) → am_ev E d tX5_isBeaten (2, [some (.ref 0), some (.int (nI s)), some (.int (nI ri)), some (.int (nI q))], [], am_L (su (nI ns) K F T P X), 0, 0) (fun v' M'' => v' = some (.int (bI (decide (∃ t, t < ns ∧ ri.testBit t = true ∧ btB P s t = true)))) ∧ M'' = am_L (su (nI ns) K F T P X)) := by
    intro n
    induction n with
    | zero =>
      intro q e1 e2 hq
      have e : q = ns := by omega
      subst e
      refine ev_go 999 rfl trivial ?_
      refine ev_pos (nI_le (Nat.le_refl _) (by omega)) ?_
      rw [decide_eq_false (fun ⟨t, t1, t2⟩ => hq t t1 t2)]
      refine ev_go 999 rfl trivial ?_
      exact ev_ret rfl ⟨Or.inl rfl, trivial⟩ ⟨rfl, rfl⟩
    | succ n ih =>
      intro q e1 e2 hq
      have v : vp_in (nI q) 12 := vp_in_nI (by omega) (by omega)
      have c : (nI q).toNatClampNeg = q := nI_clamp (by omega)
      have hb := bitS (m := ri) (s := q) (by omega) (by omega)
      have next : ¬ (ri.testBit q = true ∧ btB P s q = true) → am_ev E d tX5_isBeaten (56, [some (.ref 0), some (.int (nI s)), some (.int (nI ri)), some (.int (nI q))], [], am_L (su (nI ns) K F T P X), 0, 0) (fun v' M'' => v' = some (.int (bI (decide (∃ t, t < ns ∧ ri.testBit t = true ∧ btB P s t = true)))) ∧ M'' = am_L (su (nI ns) K F T P X)) := fun ne => by
        have kk := ih (q + 1) (by omega) (by omega) (fun t ht => by
          rcases Nat.lt_or_ge t q with w | w
          · exact hq t w
          · rw [show t = q by omega]; exact ne)
        rw [← nI_1 q] at kk
        refine ev_go 999 rfl trivial ?_
        exact kk
      have yes : (ri.testBit q = true ∧ btB P s q = true) → am_ev E d tX5_isBeaten (54, [some (.ref 0), some (.int (nI s)), some (.int (nI ri)), some (.int (nI q))], [], am_L (su (nI ns) K F T P X), 0, 0) (fun v' M'' => v' = some (.int (bI (decide (∃ t, t < ns ∧ ri.testBit t = true ∧ btB P s t = true)))) ∧ M'' = am_L (su (nI ns) K F T P X)) := fun ye => by
        rw [decide_eq_true ⟨q, by omega, ye⟩]
        refine ev_go 999 rfl trivial ?_
        exact ev_ret rfl ⟨Or.inr rfl, trivial⟩ ⟨rfl, rfl⟩
      refine ev_go 999 rfl trivial ?_
      refine ev_neg (nI_ge (by omega) (by omega)) ?_
      refine ev_go 999 rfl trivial ?_
      cases hbt : ri.testBit q with
      | false =>
        rw [hbt] at hb
        refine ev_pos (by show ¬ ((nI ri >>> (nI q &&& 31)) &&& 1) = 1; rw [hb]; decide) ?_
        exact next (fun y => by rw [hbt] at y; cases y.1)
      | true =>
        rw [hbt] at hb
        refine ev_neg (by show ¬ ¬ ((nI ri >>> (nI q &&& 31)) &&& 1) = 1; rw [hb]; decide) ?_
        refine ev_go 999 rfl ⟨v, vs, trivial⟩ ?_
        refine ev_if (fun h => ?_) (fun h => ?_)
        · have h : P (nI s).toNatClampNeg < P (nI q).toNatClampNeg := h
          rw [c, cs] at h
          exact yes ⟨hbt, by unfold btB; rw [decide_eq_true h]; rfl⟩
        · have h1 : ¬ P (nI s).toNatClampNeg < P (nI q).toNatClampNeg := h
          rw [c, cs] at h1
          refine ev_go 999 rfl ⟨v, vs, trivial⟩ ?_
          refine ev_if (fun h => ?_) (fun h => ?_)
          · have h : ¬ P (nI q).toNatClampNeg = P (nI s).toNatClampNeg := h
            rw [c, cs] at h
            exact next (fun y => by
              have := y.2
              unfold btB at this
              rw [decide_eq_false h1, decide_eq_false h] at this
              cases this)
          · have h2 : ¬ ¬ P (nI q).toNatClampNeg = P (nI s).toNatClampNeg := h
            rw [c, cs] at h2
            have h2 := Classical.not_not.mp h2
            refine ev_go 999 rfl trivial ?_
            by_cases h3 : q < s
            · refine ev_neg (nI_ge h3 (by omega)) ?_
              exact yes ⟨hbt, by unfold btB; rw [decide_eq_true h2, decide_eq_true h3, Bool.and_self, Bool.or_true]⟩
            · refine ev_pos (nI_le (by omega) (by omega)) ?_
              exact next (fun y => by
                have := y.2
                unfold btB at this
                rw [decide_eq_false h1, decide_eq_false h3, Bool.and_false] at this
                cases this)
  exact loop ns 0 (by omega) (Nat.zero_le _) (fun t ht => absurd ht (Nat.not_lt_zero t))
theorem and_lt {x y : Nat} (h : x < 4096) : x &&& y < 4096 := Nat.lt_of_le_of_lt Nat.and_le_left h
theorem x5_countingOf {me : Nat → Bool} {xs : Nat → Nat} (hS : SV ns K F T P p) (hX : ∀ s, s < ns → X s = nI (xs s)) : am_D E (d + 2) tX5_countingOf [.ref 0, .int (nI (mk2 me ns))] (am_L (su (nI ns) K F T P X)) 0 0 (some (.int (nI (mk2 (ctB (fun s t => (xs s).testBit t) me P ns) ns)))) (am_L (su (nI ns) K F T P X)) := by
  have h12 := hS.n12
  have hm := mk2_12 me h12
  refine am_D_of (Nat.le_of_ble_eq_true rfl) ?_
  refine ev_go 4 rfl trivial ?_
  have loop : ∀ n q, ns - q = n → q ≤ ns → am_ev E (d + 1) tX5_countingOf (4, [some (.ref 0), some (.int (nI (mk2 me ns))), some (.int (nI (mk2 (ctB (fun s t => (xs s).testBit t) me P ns) q))), some (.int (nI q))], [], am_L (su (nI ns) K F T P X), 0, 0) (fun v' M'' => v' = some (.int (nI (mk2 (ctB (fun s t => (xs s).testBit t) me P ns) ns))) ∧ M'' = am_L (su (nI ns) K F T P X)) := by
    intro n
    induction n with
    | zero =>
      intro q e1 e2
      have e : q = ns := by omega
      rw [e]
      refine ev_go 999 rfl trivial ?_
      refine ev_pos (nI_le (Nat.le_refl _) (by omega)) ?_
      refine ev_go 999 rfl trivial ?_
      exact ev_ret rfl trivial ⟨rfl, rfl⟩
    | succ n ih =>
      intro q e1 e2
      have kk := ih (q + 1) (by omega) (by omega)
      rw [mk2_s (by omega), ← nI_1 q] at kk
      have v : vp_in (nI q) 12 := vp_in_nI (by omega) (by omega)
      have c : (nI q).toNatClampNeg = q := nI_clamp (by omega)
      have hb := bitS (m := mk2 me ns) (s := q) (by omega) (by omega)
      rw [mk2_bit, decide_eq_true (show q < ns by omega), Bool.true_and] at hb
      have hx : X (nI q).toNatClampNeg = nI (xs q) := by rw [c]; exact hX q (by omega)
      have hib := x5_isBeaten (E := E) (d := d) (X := X) (s := q) (ri := mk2 me ns &&& xs q) hS (by omega) (and_lt hm)
      have hct : ctB (fun s t => (xs s).testBit t) me P ns q = (me q && !decide (∃ t, t < ns ∧ (mk2 me ns &&& xs q).testBit t = true ∧ btB P q t = true)) := by
        unfold ctB
        congr 2
        refine decide_eq_decide.mpr ⟨fun ⟨t, t1, t2, t3, t4⟩ => ⟨t, t1, ?_, t4⟩, fun ⟨t, t1, t2, t3⟩ => ⟨t, t1, ?_, ?_, t3⟩⟩
        · rw [Nat.testBit_and, mk2_bit, decide_eq_true t1, t3]; exact t2
        · rw [Nat.testBit_and, Bool.and_eq_true_iff] at t2; exact t2.2
        · rw [Nat.testBit_and, mk2_bit, decide_eq_true t1, Bool.true_and, Bool.and_eq_true_iff] at t2; exact t2.1
      rw [hct] at kk
      rw [← fa_and, ← hx] at hib
      refine ev_go 999 rfl trivial ?_
      refine ev_neg (nI_ge (by omega) (by omega)) ?_
      refine ev_go 999 rfl trivial ?_
      cases hme : me q with
      | false =>
        rw [hme] at hb kk
        refine ev_pos (by show ¬ ((nI (mk2 me ns) >>> (nI q &&& 31)) &&& 1) = 1; rw [hb]; decide) ?_
        refine ev_go 999 rfl trivial ?_
        exact kk
      | true =>
        rw [hme] at hb kk
        rw [Bool.true_and] at kk
        refine ev_neg (by show ¬ ¬ ((nI (mk2 me ns) >>> (nI q &&& 31)) &&& 1) = 1; rw [hb]; decide) ?_
        refine ev_go 999 rfl ⟨v, trivial⟩ ?_
        refine ev_call0 rfl (Nat.le_of_ble_eq_true rfl) (fun _ => ⟨_, _, _, rfl, rfl⟩) hib ?_
        cases hbe : decide (∃ t, t < ns ∧ (mk2 me ns &&& xs q).testBit t = true ∧ btB P q t = true) with
        | true =>
          rw [hbe] at kk
          refine ev_go 999 rfl trivial ?_
          refine ev_pos (by decide) ?_
          refine ev_go 999 rfl trivial ?_
          exact kk
        | false =>
          rw [hbe] at kk
          refine ev_go 999 rfl trivial ?_
          refine ev_neg (by decide) ?_
          refine ev_go 999 rfl trivial ?_
          exact kk
  exact loop ns 0 (by omega) (Nat.zero_le _)
theorem x5_extraOf {b : Nat → Bool} (hS : SV ns K F T P p) : am_D E (d + 1) tX5_extraOf [.ref 0, .int (nI (mk2 b ns))] (am_L (su (nI ns) K F T P X)) 0 0 (some (.int (nI (fb_sm (fun s => if b s = true then p s else 0) ns)))) (am_L (su (nI ns) K F T P X)) := by
  have h12 := hS.n12
  have hm := mk2_12 b h12
  refine am_D_of (Nat.le_of_ble_eq_true rfl) ?_
  refine ev_go 4 rfl trivial ?_
  have loop : ∀ n q, ns - q = n → q ≤ ns → am_ev E d tX5_extraOf (4, [some (.ref 0), some (.int (nI (mk2 b ns))), some (.int (nI (fb_sm (fun s => if b s = true then p s else 0) q))), some (.int (nI q))], [], am_L (su (nI ns) K F T P X), 0, 0) (fun v' M'' => v' = some (.int (nI (fb_sm (fun s => if b s = true then p s else 0) ns))) ∧ M'' = am_L (su (nI ns) K F T P X)) := by
    intro n
    induction n with
    | zero =>
      intro q e1 e2
      have e : q = ns := by omega
      rw [e]
      refine ev_go 999 rfl trivial ?_
      refine ev_pos (nI_le (Nat.le_refl _) (by omega)) ?_
      refine ev_go 999 rfl trivial ?_
      exact ev_ret rfl trivial ⟨rfl, rfl⟩
    | succ n ih =>
      intro q e1 e2
      have kk := ih (q + 1) (by omega) (by omega)
      rw [fb_sm_succ, ← nI_1 q] at kk
      have v : vp_in (nI q) 12 := vp_in_nI (by omega) (by omega)
      have c : (nI q).toNatClampNeg = q := nI_clamp (by omega)
      have hb := bitS (m := mk2 b ns) (s := q) (by omega) (by omega)
      rw [mk2_bit, decide_eq_true (show q < ns by omega), Bool.true_and] at hb
      have hp : P (nI q).toNatClampNeg = nI (p q) := by rw [c]; exact hS.p q (by omega)
      refine ev_go 999 rfl trivial ?_
      refine ev_neg (nI_ge (by omega) (by omega)) ?_
      refine ev_go 999 rfl trivial ?_
      cases hme : b q with
      | false =>
        rw [hme] at hb
        rw [hme, if_neg (by decide), Nat.add_zero] at kk
        refine ev_pos (by show ¬ ((nI (mk2 b ns) >>> (nI q &&& 31)) &&& 1) = 1; rw [hb]; decide) ?_
        refine ev_go 999 rfl trivial ?_
        exact kk
      | true =>
        rw [hme] at hb
        rw [hme, if_pos rfl, ← nI_add, ← hp] at kk
        refine ev_neg (by show ¬ ¬ ((nI (mk2 b ns) >>> (nI q &&& 31)) &&& 1) = 1; rw [hb]; decide) ?_
        refine ev_go 999 rfl ⟨v, trivial⟩ ?_
        exact kk
  exact loop ns 0 (by omega) (Nat.zero_le _)
end X5
