/-- does from .. to hold a minute of the day -/
def spB (F T m : Int32) : Bool := if F < T then decide (F ≤ m) && decide (m < T) else decide (F = T) || decide (F ≤ m) || decide (m < T)
/-- does a surcharge meet a minute -/
def meB (K F T kd m : Int32) : Bool := decide (¬ ((K >>> (kd &&& 31)) &&& 1) = 0) && spB F T m
section M3
variable {E : am_E} {d : Nat} {i : Nat → Int32} {j : Nat → Int64} {a : Nat → Nat → Int32} {b : Nat → Nat → Int64}
theorem x9_meets {s mi : Nat} {kd : Int32} (hs0 : s < 12) (hm : mi < 2880) : am_D E (d + 1) tX9_meets [.ref 0, .int (nI s), .int kd, .int (nI mi)] (am_L (mo i j a b)) 0 0 (some (.int (bI (meB (a 8 s) (a 9 s) (a 10 s) kd (nI (mi % 1440)))))) (am_L (mo i j a b)) := by
  have hs : vp_in (nI s) 12 := vp_in_nI hs0 (by omega)
  have hc : (nI s).toNatClampNeg = s := nI_clamp (by omega)
  have hm2 : nI mi - nI mi / nI 1440 * nI 1440 = nI (mi % 1440) := pk_rem (by omega) (by omega) (by omega)
  generalize nI (mi % 1440) = mm at hm2
  refine am_D_of (Nat.le_of_ble_eq_true rfl) ?_
  refine ev_go 999 rfl ⟨hs, trivial⟩ ?_
  refine ev_if (fun h => ?_) (fun h => ?_)
  · have h0 : ¬ ((a 8 (nI s).toNatClampNeg >>> (kd &&& 31)) &&& 1) = 0 := h
    rw [hc] at h0
    have e0 : ∀ q, meB (a 8 s) (a 9 s) (a 10 s) kd q = spB (a 9 s) (a 10 s) q := fun q => by unfold meB; rw [decide_eq_true h0]; rfl
    rw [e0]
    refine ev_go 999 rfl ⟨by decide, hs, hs, trivial⟩ ?_
    refine ev_if (fun h => ?_) (fun h => ?_)
    · have h1 : a 10 (nI s).toNatClampNeg ≤ a 9 (nI s).toNatClampNeg := h
      rw [hc] at h1
      unfold spB
      rw [if_neg (Int32.not_lt.mpr h1)]
      refine ev_go 999 rfl ⟨hs, hs, trivial⟩ ?_
      refine ev_if (fun h => ?_) (fun h => ?_)
      · have h2 : a 9 (nI s).toNatClampNeg = a 10 (nI s).toNatClampNeg := h
        rw [hc] at h2
        refine ev_go 999 rfl trivial ?_
        refine ev_go 999 rfl trivial ?_
        refine ev_ret rfl ⟨Or.inr rfl, trivial⟩ ⟨?_, rfl⟩
        rw [decide_eq_true h2]; rfl
      · have h2 : ¬ a 9 (nI s).toNatClampNeg = a 10 (nI s).toNatClampNeg := h
        rw [hc] at h2
        rw [decide_eq_false h2, Bool.false_or]
        refine ev_go 999 rfl ⟨hs, trivial⟩ ?_
        refine ev_if (fun h => ?_) (fun h => ?_)
        · have h3 : a 9 (nI s).toNatClampNeg ≤ nI mi - nI mi / nI 1440 * nI 1440 := h
          rw [hc, hm2] at h3
          refine ev_go 999 rfl trivial ?_
          refine ev_go 999 rfl trivial ?_
          refine ev_ret rfl ⟨Or.inr rfl, trivial⟩ ⟨?_, rfl⟩
          rw [decide_eq_true h3]; rfl
        · have h3 : ¬ a 9 (nI s).toNatClampNeg ≤ nI mi - nI mi / nI 1440 * nI 1440 := h
          rw [hc, hm2] at h3
          rw [decide_eq_false h3, Bool.false_or]
          refine ev_go 999 rfl ⟨hs, trivial⟩ ?_
          refine ev_if (fun h => ?_) (fun h => ?_)
          · have h4 : a 10 (nI s).toNatClampNeg ≤ nI mi - nI mi / nI 1440 * nI 1440 := h
            rw [hc, hm2] at h4
            refine ev_go 999 rfl trivial ?_
            refine ev_ret rfl ⟨Or.inl rfl, trivial⟩ ⟨?_, rfl⟩
            rw [decide_eq_false (Int32.not_lt.mpr h4)]; rfl
          · have h4 : ¬ a 10 (nI s).toNatClampNeg ≤ nI mi - nI mi / nI 1440 * nI 1440 := h
            rw [hc, hm2] at h4
            refine ev_go 999 rfl trivial ?_
            refine ev_go 999 rfl trivial ?_
            refine ev_ret rfl ⟨Or.inr rfl, trivial⟩ ⟨?_, rfl⟩
            rw [decide_eq_true (Int32.not_le.mp h4)]; rfl
    · have h1 : ¬ a 10 (nI s).toNatClampNeg ≤ a 9 (nI s).toNatClampNeg := h
      rw [hc] at h1
      unfold spB
      rw [if_pos (Int32.not_le.mp h1)]
      refine ev_go 999 rfl ⟨hs, trivial⟩ ?_
      refine ev_if (fun h => ?_) (fun h => ?_)
      · have h2 : nI mi - nI mi / nI 1440 * nI 1440 < a 9 (nI s).toNatClampNeg := h
        rw [hc, hm2] at h2
        rw [decide_eq_false (Int32.not_le.mpr h2)]
        refine ev_go 999 rfl trivial ?_
        refine ev_ret rfl ⟨Or.inl rfl, trivial⟩ ⟨?_, rfl⟩
        rfl
      · have h2 : ¬ nI mi - nI mi / nI 1440 * nI 1440 < a 9 (nI s).toNatClampNeg := h
        rw [hc, hm2] at h2
        rw [decide_eq_true (Int32.not_lt.mp h2), Bool.true_and]
        refine ev_go 999 rfl ⟨hs, trivial⟩ ?_
        refine ev_if (fun h => ?_) (fun h => ?_)
        · have h4 : a 10 (nI s).toNatClampNeg ≤ nI mi - nI mi / nI 1440 * nI 1440 := h
          rw [hc, hm2] at h4
          refine ev_go 999 rfl trivial ?_
          refine ev_ret rfl ⟨Or.inl rfl, trivial⟩ ⟨?_, rfl⟩
          rw [decide_eq_false (Int32.not_lt.mpr h4)]; rfl
        · have h4 : ¬ a 10 (nI s).toNatClampNeg ≤ nI mi - nI mi / nI 1440 * nI 1440 := h
          rw [hc, hm2] at h4
          refine ev_go 999 rfl trivial ?_
          refine ev_go 999 rfl trivial ?_
          refine ev_ret rfl ⟨Or.inr rfl, trivial⟩ ⟨?_, rfl⟩
          rw [decide_eq_true (Int32.not_le.mp h4)]; rfl
  · have h0 : ¬ ¬ ((a 8 (nI s).toNatClampNeg >>> (kd &&& 31)) &&& 1) = 0 := h
    rw [hc] at h0
    refine ev_go 999 rfl trivial ?_
    refine ev_ret rfl ⟨Or.inl rfl, trivial⟩ ⟨?_, rfl⟩
    unfold meB
    rw [decide_eq_false h0]; rfl
/-- is surcharge s beaten by t, where both meet -/
def btB (P : Nat → Int32) (s t : Nat) : Bool := decide (P s < P t) || (decide (P t = P s) && decide (t < s))
/-- does s count: it meets, and none that it excludes, and that meets, beats it -/
def ctB (X : Nat → Nat → Bool) (me : Nat → Bool) (P : Nat → Int32) (n s : Nat) : Bool := me s && !decide (∃ t, t < n ∧ X s t = true ∧ me t = true ∧ btB P s t = true)
theorem x9_countsAt {s mi n : Nat} {kd : Int32} (hs0 : s < 12) (hn : n ≤ 12) (hm : mi < 2880) (hi : i 15 = nI n) (me : Nat → Bool) (hme : me = fun t => meB (a 8 t) (a 9 t) (a 10 t) kd (nI (mi % 1440))) : am_D E (d + 2) tX9_countsAt [.ref 0, .int (nI s), .int kd, .int (nI mi)] (am_L (mo i j a b)) 0 0 (some (.int (bI (ctB (fun s t => decide (¬ a 12 (12 * s + t) = 0)) me (a 11) n s)))) (am_L (mo i j a b)) := by
  have hs : vp_in (nI s) 12 := vp_in_nI hs0 (by omega)
  have hc : (nI s).toNatClampNeg = s := nI_clamp (by omega)
  have hms : ∀ t, meB (a 8 t) (a 9 t) (a 10 t) kd (nI (mi % 1440)) = me t := fun t => by rw [hme]
  refine am_D_of (Nat.le_of_ble_eq_true rfl) ?_
  refine ev_go 999 rfl trivial ?_
  refine ev_call0 rfl (Nat.le_of_ble_eq_true rfl) (fun _ => ⟨_, _, _, rfl, rfl⟩) (x9_meets (s := s) (mi := mi) hs0 hm) ?_
  rw [hms]
  refine ev_go 999 rfl trivial ?_
  refine ev_if (fun h => ?_) (fun h => ?_)
  · have h0 : me s = true := bI_n.mp h
    unfold ctB
    rw [h0, Bool.true_and]
    refine ev_go 15 rfl trivial ?_
    have loop : ∀ k q, n - q = k → q ≤ n → (∀ t, t < q → ¬ (decide (¬ a 12 (12 * s + t) = 0) = true ∧ me t = true ∧ btB (a 11) s t = true)) → am_ev E (d + 1) tX9_countsAt (15, [some (.ref 0), some (.int (nI s)), some (.int kd), some (.int (nI mi)), some (.int (nI q))], [], am_L (mo i j a b), 0, 0) (fun v' M'' => v' = some (.int (bI (!decide (∃ t, t < n ∧ decide (¬ a 12 (12 * s + t) = 0) = true ∧ me t = true ∧ btB (a 11) s t = true)))) ∧ M'' = am_L (mo i j a b)) := by
      intro k
      induction k with
      | zero =>
        intro q g1 g2 g3
        have e : q = n := by omega
        subst e
        refine ev_go 999 rfl trivial ?_
        refine ev_pos (by show i 15 ≤ nI q; rw [hi]; exact nI_le (Nat.le_refl _) (by omega)) ?_
        refine ev_go 999 rfl trivial ?_
        refine ev_ret rfl ⟨Or.inr rfl, trivial⟩ ⟨?_, rfl⟩
        rw [decide_eq_false (fun ⟨t, z1, z2⟩ => g3 t z1 z2)]; rfl
      | succ k ih =>
        intro q g1 g2 g3
        have hq : vp_in (nI q) 12 := vp_in_nI (by omega) (by omega)
        have hcq : (nI q).toNatClampNeg = q := nI_clamp (by omega)
        have ex : nI 12 * nI s + nI q = nI (12 * s + q) := by rw [pk_mul, nI_add]
        have next : ¬ (decide (¬ a 12 (12 * s + q) = 0) = true ∧ me q = true ∧ btB (a 11) s q = true) → am_ev E (d + 1) tX9_countsAt (93, [some (.ref 0), some (.int (nI s)), some (.int kd), some (.int (nI mi)), some (.int (nI q))], [], am_L (mo i j a b), 0, 0) (fun v' M'' => v' = some (.int (bI (!decide (∃ t, t < n ∧ decide (¬ a 12 (12 * s + t) = 0) = true ∧ me t = true ∧ btB (a 11) s t = true)))) ∧ M'' = am_L (mo i j a b)) := by
          intro hno
          have kk := ih (q + 1) (by omega) (by omega) (fun t ht => by
            rcases Nat.lt_or_ge t q with z | z
            · exact g3 t z
            · have : t = q := by omega
              subst this
              exact hno)
          rw [← nI_1 q] at kk
          refine ev_go 999 rfl trivial ?_
          exact kk
        refine ev_go 999 rfl trivial ?_
        refine ev_neg (by show ¬ i 15 ≤ nI q; rw [hi]; exact nI_ge (by omega) (by omega)) ?_
        refine ev_go 999 rfl ⟨by show vp_in (nI 12 * nI s + nI q) 144; rw [ex]; exact vp_in_nI (by omega) (by omega), trivial⟩ ?_
        refine ev_if (fun h => ?_) (fun h => ?_)
        · have h1 : a 12 (nI 12 * nI s + nI q).toNatClampNeg = 0 := h
          rw [ex, nI_clamp (by omega)] at h1
          exact next (fun z => by have := of_decide_eq_true z.1; exact this h1)
        · have h1 : ¬ a 12 (nI 12 * nI s + nI q).toNatClampNeg = 0 := h
          rw [ex, nI_clamp (by omega)] at h1
          refine ev_go 999 rfl trivial ?_
          refine ev_call0 rfl (Nat.le_of_ble_eq_true rfl) (fun _ => ⟨_, _, _, rfl, rfl⟩) (x9_meets (s := q) (mi := mi) (by omega) hm) ?_
          rw [hms]
          refine ev_go 999 rfl trivial ?_
          refine ev_if (fun h => ?_) (fun h => ?_)
          · have h2 : me q = true := bI_n.mp h
            refine ev_go 999 rfl ⟨hq, hs, trivial⟩ ?_
            refine ev_if (fun h => ?_) (fun h => ?_)
            · have h3 : a 11 (nI s).toNatClampNeg < a 11 (nI q).toNatClampNeg := h
              rw [hc, hcq] at h3
              refine ev_go 999 rfl trivial ?_
              refine ev_ret rfl ⟨Or.inl rfl, trivial⟩ ⟨?_, rfl⟩
              rw [decide_eq_true ⟨q, by omega, decide_eq_true h1, h2, by unfold btB; rw [decide_eq_true h3]; rfl⟩]; rfl
            · have h3 : ¬ a 11 (nI s).toNatClampNeg < a 11 (nI q).toNatClampNeg := h
              rw [hc, hcq] at h3
              refine ev_go 999 rfl ⟨hq, hs, trivial⟩ ?_
              refine ev_if (fun h => ?_) (fun h => ?_)
              · have h4 : ¬ a 11 (nI q).toNatClampNeg = a 11 (nI s).toNatClampNeg := h
                rw [hc, hcq] at h4
                exact next (fun z => by have := z.2.2; unfold btB at this; rw [decide_eq_false h3, decide_eq_false h4] at this; cases this)
              · have h4 : ¬ ¬ a 11 (nI q).toNatClampNeg = a 11 (nI s).toNatClampNeg := h
                rw [hc, hcq] at h4
                refine ev_go 999 rfl trivial ?_
                refine ev_if (fun h => ?_) (fun h => ?_)
                · have h5 : nI s ≤ nI q := h
                  rw [nI_leI (by omega) (by omega)] at h5
                  exact next (fun z => by have := z.2.2; unfold btB at this; rw [decide_eq_false h3, decide_eq_false (show ¬ q < s by omega), Bool.and_false] at this; cases this)
                · have h5 : ¬ nI s ≤ nI q := h
                  rw [nI_leI (by omega) (by omega)] at h5
                  refine ev_go 999 rfl trivial ?_
                  refine ev_ret rfl ⟨Or.inl rfl, trivial⟩ ⟨?_, rfl⟩
                  rw [decide_eq_true ⟨q, by omega, decide_eq_true h1, h2, by unfold btB; rw [decide_eq_true (Classical.not_not.mp h4), decide_eq_true (show q < s by omega), Bool.and_true, Bool.or_true]⟩]; rfl
          · have h2 : me q = false := bI_0.mp (Classical.not_not.mp h)
            refine ev_go 999 rfl trivial ?_
            exact next (fun z => by rw [h2] at z; cases z.2.1)
    exact loop n 0 (by omega) (Nat.zero_le _) (fun t h => absurd h (Nat.not_lt_zero t))
  · have h0 : me s = false := bI_0.mp (Classical.not_not.mp h)
    refine ev_go 999 rfl trivial ?_
    refine ev_ret rfl ⟨Or.inl rfl, trivial⟩ ⟨?_, rfl⟩
    unfold ctB
    rw [h0]; rfl
end M3
