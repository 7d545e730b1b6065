/-- which rate holds: the latest day, of these the one told latest -/
def rbest (RG RD : Nat → Int32) (g day : Int32) : Nat → Option Nat
  | 0 => none
  | k + 1 => if RG k = g ∧ RD k ≤ day then (match rbest RG RD g day k with
      | none => some k
      | some q => if RD q ≤ RD k then some k else some q) else rbest RG RD g day k
theorem rbest_lt {RG RD : Nat → Int32} {g day : Int32} : ∀ {n q : Nat}, rbest RG RD g day n = some q → q < n
  | 0, q, h => by cases h
  | n + 1, q, h => by
    unfold rbest at h
    split at h
    · split at h
      · cases h; omega
      · rename_i q' hq
        split at h
        · cases h; omega
        · cases h; have := rbest_lt hq; omega
    · have := rbest_lt h; omega
def oI (o : Option Nat) : Int32 := match o with
  | none => -1
  | some q => nI q
def rcents (RC : Nat → Int32) (o : Option Nat) : Int32 := match o with
  | none => 0
  | some q => RC q
theorem nI_nm1 {n : Nat} (h : n < 2 ^ 31) : ¬ nI n = -1 := fun z => by
  have h1 := nI_toInt h
  rw [z] at h1
  have : (-1 : Int32).toInt = -1 := by decide
  omega
theorem ev_sw {E : am_E} {d : Nat} {τ : am_T} {P : Option Value → am_M → Prop} {pc bc bs len t : Nat} {L : List (Option Value)} {r : List Value} {M : am_M} {dd lo hi : Int} {offs : Array Int} {x : Int32} (ha : am_at τ pc = some (.tableswitch dd lo hi offs, len)) (hs : am_sw pc dd lo hi offs x = some t) (kk : am_ev E d τ (t, L, r, M, bc, bs) P) : am_ev E d τ (pc, L, .int x :: r, M, bc, bs) P := by
  refine ev_s (ps := []) ?_ (fun q hq => by cases hq) kk
  unfold am_s
  simp only [ha]
  have e : Nat.beq len (am_len (.tableswitch dd lo hi offs) len) = true := Nat.beq_refl len
  rw [e]
  simp only [cond, am_ex, hs]
section M8
variable {E : am_E} {d : Nat} {i : Nat → Int32} {j : Nat → Int64} {a : Nat → Nat → Int32} {b : Nat → Nat → Int64}
theorem x9_count_none {w : Int32} (h : inB w 0 4 = false) : am_D E (d + 1) tX9_count [.ref 0, .int w] (am_L (mo i j a b)) 0 0 (some (.int (-1))) (am_L (mo i j a b)) := by
  have hsw : am_sw 1 60 0 4 #[35, 40, 45, 50, 55] w = some 61 := by
    unfold am_sw
    unfold inB at h
    have e : (decide (w.toInt < 0) || decide (4 < w.toInt)) = true := by
      rw [Bool.and_eq_false_iff] at h
      rcases h with z | z
      · have := of_decide_eq_false z
        rw [fa_le] at this
        have e0 : (0 : Int32).toInt = 0 := by decide
        rw [e0] at this
        rw [decide_eq_true (show w.toInt < 0 by omega)]; rfl
      · have := of_decide_eq_false z
        rw [fa_le] at this
        have e0 : (4 : Int32).toInt = 4 := by decide
        rw [e0] at this
        rw [decide_eq_true (show 4 < w.toInt by omega), Bool.or_true]
    rw [e]
    rfl
  refine am_D_of (Nat.le_of_ble_eq_true rfl) ?_
  refine ev_run 1 rfl trivial ?_
  refine ev_sw rfl hsw ?_
  refine ev_go 999 rfl trivial ?_
  exact ev_ret rfl trivial ⟨rfl, rfl⟩
theorem x9_count_ok {w : Nat} (h : w < 5) : am_D E (d + 1) tX9_count [.ref 0, .int (nI w)] (am_L (mo i j a b)) 0 0 (some (.int (i ([19, 2, 9, 15, 26].getD w 0)))) (am_L (mo i j a b)) := by
  refine am_D_of (Nat.le_of_ble_eq_true rfl) ?_
  rcases (show w = 0 ∨ w = 1 ∨ w = 2 ∨ w = 3 ∨ w = 4 by omega) with rfl | rfl | rfl | rfl | rfl
  · refine ev_go 999 rfl trivial ?_
    refine ev_go 999 rfl trivial ?_
    exact ev_ret rfl trivial ⟨rfl, rfl⟩
  · refine ev_go 999 rfl trivial ?_
    refine ev_go 999 rfl trivial ?_
    exact ev_ret rfl trivial ⟨rfl, rfl⟩
  · refine ev_go 999 rfl trivial ?_
    refine ev_go 999 rfl trivial ?_
    exact ev_ret rfl trivial ⟨rfl, rfl⟩
  · refine ev_go 999 rfl trivial ?_
    refine ev_go 999 rfl trivial ?_
    exact ev_ret rfl trivial ⟨rfl, rfl⟩
  · refine ev_go 999 rfl trivial ?_
    refine ev_go 999 rfl trivial ?_
    exact ev_ret rfl trivial ⟨rfl, rfl⟩
theorem x9_rateOf {g day : Int32} {n : Nat} (hn : n ≤ 60) (hi : i 9 = nI n) : am_D E (d + 1) tX9_rateOf [.ref 0, .int g, .int day] (am_L (mo i j a b)) 0 0 (some (.int (rcents (a 7) (rbest (a 5) (a 6) g day n)))) (am_L (mo i j a b)) := by
  refine am_D_of (Nat.le_of_ble_eq_true rfl) ?_
  refine ev_go 5 rfl trivial ?_
  have loop : ∀ m k, n - k = m → k ≤ n → am_ev E d tX9_rateOf (5, [some (.ref 0), some (.int g), some (.int day), some (.int (oI (rbest (a 5) (a 6) g day k))), some (.int (nI k))], [], am_L (mo i j a b), 0, 0) (fun v' M'' => v' = some (.int (rcents (a 7) (rbest (a 5) (a 6) g day n))) ∧ M'' = am_L (mo i j a b)) := by
    intro m
    induction m with
    | zero =>
      intro k h1 h2
      have e : k = n := by omega
      subst e
      refine ev_go 999 rfl trivial ?_
      refine ev_pos (by show i 9 ≤ nI k; rw [hi]; exact nI_le (Nat.le_refl _) (by omega)) ?_
      cases hb : rbest (a 5) (a 6) g day k with
      | none =>
        refine ev_go 999 rfl trivial ?_
        refine ev_neg (fun z => z rfl) ?_
        refine ev_go 999 rfl trivial ?_
        refine ev_go 999 rfl trivial ?_
        exact ev_ret rfl trivial ⟨rfl, rfl⟩
      | some q =>
        have := rbest_lt hb
        refine ev_go 999 rfl trivial ?_
        refine ev_pos (nI_nm1 (by omega)) ?_
        refine ev_go 999 rfl ⟨vp_in_nI (by omega) (by omega), trivial⟩ ?_
        refine ev_ret rfl trivial ⟨?_, rfl⟩
        show some (Value.int (a 7 (nI q).toNatClampNeg)) = some (Value.int (a 7 q))
        rw [nI_clamp (by omega)]
    | succ m ih =>
      intro k h1 h2
      have hk : vp_in (nI k) 60 := vp_in_nI (by omega) (by omega)
      have hc : (nI k).toNatClampNeg = k := nI_clamp (by omega)
      have next : ∀ o, rbest (a 5) (a 6) g day (k + 1) = o → am_ev E d tX9_rateOf (63, [some (.ref 0), some (.int g), some (.int day), some (.int (oI o)), some (.int (nI k))], [], am_L (mo i j a b), 0, 0) (fun v' M'' => v' = some (.int (rcents (a 7) (rbest (a 5) (a 6) g day n))) ∧ M'' = am_L (mo i j a b)) := fun o ho => by
        have kk := ih (k + 1) (by omega) (by omega)
        rw [ho, ← nI_1 k] at kk
        refine ev_go 999 rfl trivial ?_
        exact kk
      have hstep : ∀ (hy : a 5 k = g ∧ a 6 k ≤ day), rbest (a 5) (a 6) g day (k + 1) = (match rbest (a 5) (a 6) g day k with | none => some k | some q => if a 6 q ≤ a 6 k then some k else some q) := fun hy => by
        show (if a 5 k = g ∧ a 6 k ≤ day then _ else _) = _
        rw [if_pos hy]
      have hskip : ¬ (a 5 k = g ∧ a 6 k ≤ day) → rbest (a 5) (a 6) g day (k + 1) = rbest (a 5) (a 6) g day k := fun hy => by
        show (if a 5 k = g ∧ a 6 k ≤ day then _ else _) = _
        rw [if_neg hy]
      refine ev_go 999 rfl trivial ?_
      refine ev_neg (by show ¬ i 9 ≤ nI k; rw [hi]; exact nI_ge (by omega) (by omega)) ?_
      refine ev_go 999 rfl ⟨hk, trivial⟩ ?_
      refine ev_if (fun h => ?_) (fun h => ?_)
      · have h3 : ¬ a 5 (nI k).toNatClampNeg = g := h
        rw [hc] at h3
        exact next _ (hskip (fun z => h3 z.1))
      · have h3 : ¬ ¬ a 5 (nI k).toNatClampNeg = g := h
        rw [hc] at h3
        have h3 := Classical.not_not.mp h3
        refine ev_go 999 rfl ⟨hk, trivial⟩ ?_
        refine ev_if (fun h => ?_) (fun h => ?_)
        · have h4 : a 6 (nI k).toNatClampNeg ≤ day := h
          rw [hc] at h4
          have hs := hstep ⟨h3, h4⟩
          cases hb : rbest (a 5) (a 6) g day k with
          | none =>
            rw [hb] at hs
            refine ev_go 999 rfl trivial ?_
            refine ev_pos rfl ?_
            refine ev_go 63 rfl trivial ?_
            exact next (some k) hs
          | some q =>
            rw [hb] at hs
            have hq := rbest_lt hb
            have hcq : (nI q).toNatClampNeg = q := nI_clamp (by omega)
            refine ev_go 999 rfl trivial ?_
            refine ev_neg (nI_nm1 (by omega)) ?_
            refine ev_go 999 rfl ⟨hk, vp_in_nI (by omega) (by omega), trivial⟩ ?_
            refine ev_if (fun h => ?_) (fun h => ?_)
            · have h5 : a 6 (nI k).toNatClampNeg < a 6 (nI q).toNatClampNeg := h
              rw [hc, hcq] at h5
              exact next (some q) (hs.trans (if_neg (Int32.not_le.mpr h5)))
            · have h5 : ¬ a 6 (nI k).toNatClampNeg < a 6 (nI q).toNatClampNeg := h
              rw [hc, hcq] at h5
              refine ev_go 63 rfl trivial ?_
              exact next (some k) (hs.trans (if_pos (Int32.not_lt.mp h5)))
        · have h4 : ¬ a 6 (nI k).toNatClampNeg ≤ day := h
          rw [hc] at h4
          refine ev_go 999 rfl trivial ?_
          exact next _ (hskip (fun z => h4 z.2))
  exact loop n 0 (by omega) (Nat.zero_le _)
/-- is day one of the n absences -/
def awB (AF AT : Nat → Int32) (day : Int32) : Nat → Bool
  | 0 => false
  | n + 1 => awB AF AT day n || inB day (AF n) (AT n)
theorem x9_dueOf {w day g n : Nat} (hw : w < 30) (hd : day < 1096) (hg : g < 6) (hn : n ≤ 20) (h16 : a 16 w = nI g) (h18 : a 18 w = nI n) : am_D E (d + 2) tX9_dueOf [.ref 0, .int (nI w), .int (nI day)] (am_L (mo i j a b)) 0 0 (some (.int (if (decide (¬ a 1 day = 0) || decide (nI day < a 17 w) || awB (fun k => a 19 (20 * w + k)) (fun k => a 20 (20 * w + k)) (nI day) n) = true then 0 else a 13 (7 * g + day % 7)))) (am_L (mo i j a b)) := by
  have h7 : day % 7 < 7 := Nat.mod_lt _ (by decide)
  have hv : vp_in (nI w) 30 := vp_in_nI hw (by omega)
  have hc : (nI w).toNatClampNeg = w := nI_clamp (by omega)
  have hcd : (nI day).toNatClampNeg = day := nI_clamp (by omega)
  have mid : ∀ (o : Bool) (P : Option Value → am_M → Prop), am_ev E (d + 1) tX9_dueOf (24, [some (.ref 0), some (.int (nI w)), some (.int (nI day)), none, none], [.int (bI o)], am_L (mo i j a b), 0, 0) P → ((¬ a 1 day = 0 ∨ nI day < a 17 w) ↔ o = true) → am_ev E (d + 1) tX9_dueOf (0, [some (.ref 0), some (.int (nI w)), some (.int (nI day)), none, none], [], am_L (mo i j a b), 0, 0) P := by
    intro o P kk ho
    refine ev_go 999 rfl ⟨vp_in_nI hd (by omega), trivial⟩ ?_
    refine ev_if (fun h => ?_) (fun h => ?_)
    · have h1 : ¬ a 1 (nI day).toNatClampNeg = 0 := h
      rw [hcd] at h1
      rw [ho.mp (Or.inl h1)] at kk
      refine ev_go 999 rfl trivial ?_
      exact kk
    · have h1 : ¬ ¬ a 1 (nI day).toNatClampNeg = 0 := h
      rw [hcd] at h1
      refine ev_go 999 rfl ⟨hv, trivial⟩ ?_
      refine ev_if (fun h => ?_) (fun h => ?_)
      · have h2 : a 17 (nI w).toNatClampNeg ≤ nI day := h
        rw [hc] at h2
        have e : o = false := by
          cases o with
          | false => rfl
          | true =>
            rcases ho.mpr rfl with z | z
            · exact absurd z h1
            · exact absurd z (Int32.not_lt.mpr h2)
        rw [e] at kk
        refine ev_go 24 rfl trivial ?_
        exact kk
      · have h2 : ¬ a 17 (nI w).toNatClampNeg ≤ nI day := h
        rw [hc] at h2
        rw [ho.mp (Or.inr (Int32.not_le.mp h2))] at kk
        refine ev_go 999 rfl trivial ?_
        exact kk
  refine am_D_of (Nat.le_of_ble_eq_true rfl) ?_
  obtain ⟨o, ho⟩ : ∃ o : Bool, o = (decide (¬ a 1 day = 0) || decide (nI day < a 17 w)) := ⟨_, rfl⟩
  rw [← ho]
  refine mid o _ ?_ (by rw [ho, Bool.or_eq_true_iff, decide_eq_true_iff, decide_eq_true_iff])
  have e20 : nI 20 * nI w + a 18 (nI w).toNatClampNeg = nI (20 * w + n) := by rw [hc, h18, pk_mul, nI_add]
  refine ev_go 31 rfl trivial ?_
  have loop : ∀ m k, n - k = m → k ≤ n → am_ev E (d + 1) tX9_dueOf (31, [some (.ref 0), some (.int (nI w)), some (.int (nI day)), some (.int (bI (o || awB (fun k => a 19 (20 * w + k)) (fun k => a 20 (20 * w + k)) (nI day) k))), some (.int (nI (20 * w + k)))], [], am_L (mo i j a b), 0, 0) (fun v' M'' => v' = some (.int (if (o || awB (fun k => a 19 (20 * w + k)) (fun k => a 20 (20 * w + k)) (nI day) n) = true then 0 else a 13 (7 * g + day % 7))) ∧ M'' = am_L (mo i j a b)) := by
    intro m
    induction m with
    | zero =>
      intro k h1 h2
      have e : k = n := by omega
      subst e
      refine ev_go 999 rfl ⟨hv, trivial⟩ ?_
      refine ev_pos (by show nI 20 * nI w + a 18 (nI w).toNatClampNeg ≤ nI (20 * w + k); rw [e20]; exact nI_le (Nat.le_refl _) (by omega)) ?_
      cases hb : (o || awB (fun k => a 19 (20 * w + k)) (fun k => a 20 (20 * w + k)) (nI day) k) with
      | false =>
        have ex : nI 7 * a 16 (nI w).toNatClampNeg + (nI day - nI day / nI 7 * nI 7) = nI (7 * g + day % 7) := by rw [hc, h16, pk_rem (by omega) (by omega) (by omega), pk_mul, nI_add]
        refine ev_go 999 rfl trivial ?_
        refine ev_pos (by decide) ?_
        refine ev_go 999 rfl ⟨hv, by decide, by show vp_in (nI 7 * a 16 (nI w).toNatClampNeg + (nI day - nI day / nI 7 * nI 7)) 42; rw [ex]; exact vp_in_nI (by omega) (by omega), trivial⟩ ?_
        refine ev_ret rfl trivial ⟨?_, rfl⟩
        show some (Value.int (a 13 (nI 7 * a 16 (nI w).toNatClampNeg + (nI day - nI day / nI 7 * nI 7)).toNatClampNeg)) = some (Value.int (a 13 (7 * g + day % 7)))
        rw [ex, nI_clamp (by omega)]
      | true =>
        refine ev_go 999 rfl trivial ?_
        refine ev_neg (by decide) ?_
        refine ev_go 999 rfl trivial ?_
        refine ev_go 999 rfl trivial ?_
        exact ev_ret rfl trivial ⟨rfl, rfl⟩
    | succ m ih =>
      intro k h1 h2
      have hv2 : vp_in (nI (20 * w + k)) 600 := vp_in_nI (by omega) (by omega)
      have hc2 : (nI (20 * w + k)).toNatClampNeg = 20 * w + k := nI_clamp (by omega)
      have next : ∀ o2, (o || awB (fun k => a 19 (20 * w + k)) (fun k => a 20 (20 * w + k)) (nI day) (k + 1)) = o2 → am_ev E (d + 1) tX9_dueOf (77, [some (.ref 0), some (.int (nI w)), some (.int (nI day)), some (.int (bI (o || awB (fun k => a 19 (20 * w + k)) (fun k => a 20 (20 * w + k)) (nI day) k))), some (.int (nI (20 * w + k)))], [.int (bI o2)], am_L (mo i j a b), 0, 0) (fun v' M'' => v' = some (.int (if (o || awB (fun k => a 19 (20 * w + k)) (fun k => a 20 (20 * w + k)) (nI day) n) = true then 0 else a 13 (7 * g + day % 7))) ∧ M'' = am_L (mo i j a b)) := fun o2 ho2 => by
        have kk := ih (k + 1) (by omega) (by omega)
        rw [ho2, ← Nat.add_assoc, ← nI_1 (20 * w + k)] at kk
        refine ev_go 999 rfl trivial ?_
        exact kk
      have hstep : (o || awB (fun k => a 19 (20 * w + k)) (fun k => a 20 (20 * w + k)) (nI day) (k + 1)) = ((o || awB (fun k => a 19 (20 * w + k)) (fun k => a 20 (20 * w + k)) (nI day) k) || inB (nI day) (a 19 (20 * w + k)) (a 20 (20 * w + k))) := by rw [Bool.or_assoc]; rfl
      refine ev_go 999 rfl ⟨hv, trivial⟩ ?_
      refine ev_neg (by show ¬ nI 20 * nI w + a 18 (nI w).toNatClampNeg ≤ nI (20 * w + k); rw [e20]; exact nI_ge (by omega) (by omega)) ?_
      refine ev_go 999 rfl trivial ?_
      refine ev_if (fun h => ?_) (fun h => ?_)
      · have hb := bI_n.mp h
        rw [hb, Bool.true_or] at hstep
        have nx := next true hstep
        refine ev_go 999 rfl trivial ?_
        exact nx
      · have hb := bI_0.mp (Classical.not_not.mp h)
        rw [hb, Bool.false_or] at hstep
        refine ev_go 999 rfl ⟨hv2, hv2, trivial⟩ ?_
        refine ev_call0 rfl (Nat.le_of_ble_eq_true rfl) (fun z => by cases z) (x9_in) ?_
        rw [hc2, ← hstep]
        refine ev_go 999 rfl trivial ?_
        refine ev_if (fun h => ?_) (fun h => ?_)
        · have nx := next false (bI_0.mp h)
          refine ev_go 77 rfl trivial ?_
          exact nx
        · have nx := next true (bI_n.mp h)
          refine ev_go 999 rfl trivial ?_
          exact nx
  have k0 := loop n 0 (by omega) (Nat.zero_le _)
  have e0 : nI (20 * w + 0) = nI 20 * nI w := by rw [Nat.add_zero, pk_mul]
  rw [show (o || awB (fun k => a 19 (20 * w + k)) (fun k => a 20 (20 * w + k)) (nI day) 0) = o from Bool.or_false o, e0] at k0
  exact k0
end M8
