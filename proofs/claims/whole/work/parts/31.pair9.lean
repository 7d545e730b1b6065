theorem am_D_ex {E : am_E} {d : Nat} {τ : am_T} {as : List Value} {M : am_M} {mc ms : Nat} {P : Option Value → am_M → Prop} (hl : (am_il as).length ≤ τ.2.2.2.1) (h : am_ev E d τ (0, am_in as τ.2.2.2.1, [], M, mc, ms) P) : ∃ v M', P v M' ∧ am_D E (d + 1) τ as M mc ms v M' := by
  obtain ⟨n, h⟩ := h
  obtain ⟨v, M', h1, h2⟩ := am_Ev_fix n _ h
  exact ⟨v, M', h1, hl, n, h2⟩
/-- what pair() leaves in the arrays role, begin, end, firstMark, lastMark, gap -/
def PI (t s : Nat → Nat) (a : Nat → Nat → Int32) (k : Nat) (a' : Nat → Nat → Int32) : Prop :=
  (∀ p, p < 24 ∨ 29 < p → a' p = a p) ∧ (∀ q, q < k → a' 24 q = nI (pR t s k q)) ∧
  (∀ x, x < pN t s k → a' 25 x = nI (t (pF t s k x)) ∧ a' 27 x = nI (pF t s k x) ∧ a' 29 x = bI (pG t s k x) ∧ (pG t s k x = false → a' 26 x = nI (pE t s k x) ∧ a' 28 x = nI (pLm t s k x)))
theorem va_n {α : Type} {f : Nat → α} {k j : Nat} {v : α} (h : j ≠ k) : va_up f k v j = f j := if_neg h
theorem va_s {α : Type} {f : Nat → α} {k : Nat} {v : α} : va_up f k v k = v := if_pos rfl
theorem PI.beg {t s : Nat → Nat} {a a' a2 : Nat → Nat → Int32} {k : Nat} (h : PI t s a k a') (hb : pe t k (pS t s k) = 0 ∧ s k = 0)
    (ho : ∀ p, p < 24 ∨ 29 < p → a2 p = a' p) (hr : ∀ q, a2 24 q = if q = k then nI 2 else a' 24 q) (h25 : ∀ q, a2 25 q = if q = pN t s k then nI (t k) else a' 25 q) (h27 : ∀ q, a2 27 q = if q = pN t s k then nI k else a' 27 q) (h29 : ∀ q, a2 29 q = if q = pN t s k then 1 else a' 29 q) (h26 : a2 26 = a' 26) (h28 : a2 28 = a' 28) : PI t s a (k + 1) a2 := by
  have e1 : pN t s (k + 1) = pN t s k + 1 := if_pos hb
  have e2 : pF t s (k + 1) = upN (pF t s k) (pN t s k) k := if_pos hb
  have e3 : pG t s (k + 1) = upN (pG t s k) (pN t s k) true := if_pos hb
  have e4 : pE t s (k + 1) = pE t s k := if_neg (fun z => z.1 hb.1)
  have e5 : pLm t s (k + 1) = pLm t s k := if_neg (fun z => z.1 hb.1)
  have e6 : pR t s (k + 1) = upN (pR t s k) k 2 := if_pos hb
  refine ⟨fun p hp => (ho p hp).trans (h.1 p hp), fun q hq => ?_, fun x hx => ?_⟩
  · rw [hr, e6]
    by_cases z : q = k
    · rw [if_pos z, z, upN_s]
    · rw [if_neg z, upN_n z]; exact h.2.1 q (by omega)
  · rw [e1] at hx
    rw [e2, e3, e4, e5, h25, h27, h29, h26, h28]
    by_cases z : x = pN t s k
    · rw [if_pos z, if_pos z, if_pos z, z, upN_s, upN_s]
      exact ⟨rfl, rfl, rfl, fun y => by cases y⟩
    · rw [if_neg z, if_neg z, if_neg z, upN_n z, upN_n z]
      exact h.2.2 x (by omega)
theorem PI.fin {t s : Nat → Nat} {a a' a2 : Nat → Nat → Int32} {k : Nat} (h : PI t s a k a') (hb : pe t k (pS t s k) ≠ 0 ∧ s k = 1)
    (ho : ∀ p, p < 24 ∨ 29 < p → a2 p = a' p) (hr : ∀ q, a2 24 q = if q = k then nI 3 else if q = (pS t s k).2.1 then nI 1 else a' 24 q) (h25 : a2 25 = a' 25) (h27 : a2 27 = a' 27) (h29 : ∀ q, a2 29 q = if q = pN t s k - 1 then 0 else a' 29 q) (h26 : ∀ q, a2 26 q = if q = pN t s k - 1 then nI (if pe t k (pS t s k) = 2 then (pS t s k).2.2 else t k) else a' 26 q) (h28 : ∀ q, a2 28 q = if q = pN t s k - 1 then nI k else a' 28 q) : PI t s a (k + 1) a2 := by
  have nb : ¬ (pe t k (pS t s k) = 0 ∧ s k = 0) := fun z => hb.1 z.1
  have e1 : pN t s (k + 1) = pN t s k := if_neg nb
  have e2 : pF t s (k + 1) = pF t s k := if_neg nb
  have e3 : pG t s (k + 1) = upN (pG t s k) (pN t s k - 1) false := (if_neg nb).trans (if_pos hb)
  have e4 : pE t s (k + 1) = upN (pE t s k) (pN t s k - 1) (if pe t k (pS t s k) = 2 then (pS t s k).2.2 else t k) := if_pos hb
  have e5 : pLm t s (k + 1) = upN (pLm t s k) (pN t s k - 1) k := if_pos hb
  have e6 : pR t s (k + 1) = upN (upN (pR t s k) (pS t s k).2.1 1) k 3 := (if_neg nb).trans (if_pos hb)
  refine ⟨fun p hp => (ho p hp).trans (h.1 p hp), fun q hq => ?_, fun x hx => ?_⟩
  · rw [hr, e6]
    by_cases z : q = k
    · rw [if_pos z, z, upN_s]
    · rw [if_neg z, upN_n z]
      by_cases y : q = (pS t s k).2.1
      · rw [if_pos y, y, upN_s]
      · rw [if_neg y, upN_n y]; exact h.2.1 q (by omega)
  · rw [e1] at hx
    obtain ⟨g1, g2, g3, g4⟩ := h.2.2 x hx
    rw [e2, e3, e4, e5, h25, h27, h29, h26, h28]
    by_cases z : x = pN t s k - 1
    · rw [if_pos z, if_pos z, if_pos z, ← z, upN_s, upN_s, upN_s]
      exact ⟨g1, g2, rfl, fun _ => ⟨rfl, rfl⟩⟩
    · rw [if_neg z, if_neg z, if_neg z, upN_n z, upN_n z, upN_n z]
      exact ⟨g1, g2, g3, g4⟩
theorem PI.mid {t s : Nat → Nat} {a a' a2 : Nat → Nat → Int32} {k : Nat} (h : PI t s a k a') (nb : ¬ (pe t k (pS t s k) = 0 ∧ s k = 0)) (nf : ¬ (pe t k (pS t s k) ≠ 0 ∧ s k = 1)) (r : Nat) (hrr : r = if (pe t k (pS t s k) = 1 ∧ s k = 2) ∨ (pe t k (pS t s k) = 2 ∧ s k = 3) then 4 else 0)
    (ho : ∀ p, p ≠ 24 → a2 p = a' p) (hr : ∀ q, a2 24 q = if q = k then nI r else a' 24 q) : PI t s a (k + 1) a2 := by
  have e1 : pN t s (k + 1) = pN t s k := if_neg nb
  have e2 : pF t s (k + 1) = pF t s k := if_neg nb
  have e3 : pG t s (k + 1) = pG t s k := (if_neg nb).trans (if_neg nf)
  have e4 : pE t s (k + 1) = pE t s k := if_neg nf
  have e5 : pLm t s (k + 1) = pLm t s k := if_neg nf
  have e6 : pR t s (k + 1) = upN (pR t s k) k r := by
    refine ((if_neg nb).trans (if_neg nf)).trans ?_
    rw [hrr]
    split <;> rfl
  refine ⟨fun p hp => (ho p (by omega)).trans (h.1 p hp), fun q hq => ?_, fun x hx => ?_⟩
  · rw [hr, e6]
    by_cases z : q = k
    · rw [if_pos z, z, upN_s]
    · rw [if_neg z, upN_n z]; exact h.2.1 q (by omega)
  · rw [e1] at hx
    rw [e2, e3, e4, e5, ho 25 (by omega), ho 26 (by omega), ho 27 (by omega), ho 28 (by omega), ho 29 (by omega)]
    exact h.2.2 x hx
section M9
variable {E : am_E} {d : Nat} {i : Nat → Int32} {j : Nat → Int64} {a : Nat → Nat → Int32} {b : Nat → Nat → Int64}
theorem x9_pair {w n : Nat} {t s : Nat → Nat} (hw : w < 30) (hn : n ≤ 400) (h21 : a 21 w = nI n) (ht : ∀ k, k < n → a 22 (400 * w + k) = nI (t k)) (hs : ∀ k, k < n → a 23 (400 * w + k) = nI (s k)) (hs3 : ∀ k, k < n → s k ≤ 3) (ht2 : ∀ k, k < n → t k < 2000000) (hinc : ∀ q k, q < k → k < n → t q < t k) : ∃ a', PI t s a n a' ∧ am_D E (d + 1) tX9_pair [.ref 0, .int (nI w)] (am_L (mo i j a b)) 0 0 none (am_L (mo (va_up i 30 (nI (pN t s n))) j a' b)) := by
  have hv : vp_in (nI w) 30 := vp_in_nI hw (by omega)
  have hc : (nI w).toNatClampNeg = w := nI_clamp (by omega)
  have main : am_ev E d tX9_pair (0, am_in [.ref 0, .int (nI w)] tX9_pair.2.2.2.1, [], am_L (mo i j a b), 0, 0) (fun v M => v = none ∧ ∃ a', PI t s a n a' ∧ M = am_L (mo (va_up i 30 (nI (pN t s n))) j a' b)) := by
    refine ev_go 12 rfl trivial ?_
    have e0 : am_w (am_L (mo i j a b)) 0 (.inr (9, [.int (i 0), .ref 1, .int (i 2), .ref 2, .ref 3, .ref 4, .ref 5, .ref 6, .ref 7, .int (i 9), .ref 8, .ref 9, .ref 10, .ref 11, .ref 12, .int (i 15), .ref 13, .ref 14, .ref 15, .int (i 19), .ref 16, .ref 17, .ref 18, .ref 19, .ref 20, .ref 21, .int (i 26), .ref 22, .ref 23, .ref 24, .int (i 30), .ref 25, .ref 26, .ref 27, .ref 28, .ref 29, .ref 30, .ref 31, .int (i 38), .int (i 39), .ref 32, .ref 33, .ref 34, .ref 35, .ref 36, .long (j 45), .long (j 46)].set 30 (.int (Int32.ofInt 0)))) = am_L (mo (va_up i 30 (nI 0)) j a b) := mo_i30 _
    have loop : ∀ m k, n - k = m → k ≤ n → ∀ (a' : Nat → Nat → Int32) (o5 o6 : Option Value), PI t s a k a' → am_ev E d tX9_pair (12, [some (.ref 0), some (.int (nI w)), some (.int (nI (pS t s k).1)), some (.int (nI (pS t s k).2.2)), some (.int (nI k)), o5, o6], [], am_L (mo (va_up i 30 (nI (pN t s k))) j a' b), 0, 0) (fun v M => v = none ∧ ∃ a', PI t s a n a' ∧ M = am_L (mo (va_up i 30 (nI (pN t s n))) j a' b)) := by
      intro m
      induction m with
      | zero =>
        intro k g1 g2 a' o5 o6 hP
        have e : k = n := by omega
        subst e
        have h21' : a' 21 w = nI k := by rw [hP.1 21 (Or.inl (by omega))]; exact h21
        refine ev_go 999 rfl ⟨hv, trivial⟩ ?_
        refine ev_pos (by show a' 21 (nI w).toNatClampNeg ≤ nI k; rw [hc, h21']; exact nI_le (Nat.le_refl _) (by omega)) ?_
        exact ev_ret rfl trivial ⟨rfl, a', hP, rfl⟩
      | succ m ih =>
        intro k g1 g2 a' o5 o6 hP
        have hkn : k < n := by omega
        have h21' : a' 21 w = nI n := by rw [hP.1 21 (Or.inl (by omega))]; exact h21
        have ht' : a' 22 (400 * w + k) = nI (t k) := by rw [hP.1 22 (Or.inl (by omega))]; exact ht k hkn
        have hs' : a' 23 (400 * w + k) = nI (s k) := by rw [hP.1 23 (Or.inl (by omega))]; exact hs k hkn
        have htk := ht2 k hkn
        have hsk := hs3 k hkn
        have ex : nI 400 * nI w + nI k = nI (400 * w + k) := by rw [pk_mul, nI_add]
        have hv2 : vp_in (nI 400 * nI w + nI k) 12000 := by rw [ex]; exact vp_in_nI (by omega) (by omega)
        have hc2 : (nI 400 * nI w + nI k).toNatClampNeg = 400 * w + k := by rw [ex]; exact nI_clamp (by omega)
        have hvk : vp_in (nI k) 400 := vp_in_nI (by omega) (by omega)
        have hck : (nI k).toNatClampNeg = k := nI_clamp (by omega)
        have hNk := pN_le t s k
        have hle := pS_le t s k
        obtain ⟨a1, ha1⟩ : ∃ a1, a1 = va_up a' 24 (upd (a' 24) k 0) := ⟨_, rfl⟩
        have a1o : ∀ p, p ≠ 24 → a1 p = a' p := fun p hp => by rw [ha1]; exact va_n hp
        have a1r : ∀ q, a1 24 q = if q = k then 0 else a' 24 q := fun q => by rw [ha1, va_s]; rfl
        refine ev_go 999 rfl ⟨hv, trivial⟩ ?_
        refine ev_neg (by show ¬ a' 21 (nI w).toNatClampNeg ≤ nI k; rw [hc, h21']; exact nI_ge (by omega) (by omega)) ?_
        refine ev_go 61 rfl ⟨hv2, hv2, hvk, trivial⟩ ?_
        rw [mo_a24]
        have e5 : a' 22 ((Int16.ofInt 400).toInt32 * nI w + nI k).toNatClampNeg = nI (t k) := by show a' 22 (nI 400 * nI w + nI k).toNatClampNeg = _; rw [hc2, ht']
        have e6 : a' 23 ((Int16.ofInt 400).toInt32 * nI w + nI k).toNatClampNeg = nI (s k) := by show a' 23 (nI 400 * nI w + nI k).toNatClampNeg = _; rw [hc2, hs']
        rw [hck, e5, e6, ← (show a1 = va_up a' 24 (upd (a' 24) k (Int32.ofInt 0)) from ha1)]
        -- behind the body
        have next : ∀ (x2 x3 : Int32) (N' : Int32) (a2 : Nat → Nat → Int32), x2 = nI (pS t s (k + 1)).1 → x3 = nI (pS t s (k + 1)).2.2 → N' = nI (pN t s (k + 1)) → PI t s a (k + 1) a2 → am_ev E d tX9_pair (285, [some (.ref 0), some (.int (nI w)), some (.int x2), some (.int x3), some (.int (nI k)), some (.int (nI (t k))), some (.int (nI (s k)))], [], am_L (mo (va_up i 30 N') j a2 b), 0, 0) (fun v M => v = none ∧ ∃ a', PI t s a n a' ∧ M = am_L (mo (va_up i 30 (nI (pN t s n))) j a' b)) := by
          intro x2 x3 N' a2 h1 h2 h3 h4
          subst h1; subst h2; subst h3
          have kk := ih (k + 1) (by omega) (by omega) a2 (some (.int (nI (t k)))) (some (.int (nI (s k)))) h4
          rw [← nI_1 k] at kk
          refine ev_go 999 rfl trivial ?_
          exact kk
        have hS1 : pS t s (k + 1) = pnx t s k (pS t s k) := rfl
        have hi30 : (va_up i 30 (nI (pN t s k))) 30 = nI (pN t s k) := va_s
        have from87 : ∀ e, e = pe t k (pS t s k) → am_ev E d tX9_pair (87, [some (.ref 0), some (.int (nI w)), some (.int (nI e)), some (.int (nI (pS t s k).2.2)), some (.int (nI k)), some (.int (nI (t k))), some (.int (nI (s k)))], [], am_L (mo (va_up i 30 (nI (pN t s k))) j a1 b), 0, 0) (fun v M => v = none ∧ ∃ a', PI t s a n a' ∧ M = am_L (mo (va_up i 30 (nI (pN t s n))) j a' b)) := by
          intro e he
          have he2 : e ≤ 2 := by rw [he]; exact pe_le hle
          refine ev_go 999 rfl trivial ?_
          by_cases h0 : e = 0
          · have hpe : pe t k (pS t s k) = 0 := by rw [← he]; exact h0
            refine ev_neg (fun z => z (by rw [h0]; rfl)) ?_
            refine ev_go 999 rfl trivial ?_
            by_cases hs0 : s k = 0
            · refine ev_pos (by rw [hs0]; rfl) ?_
              have hvN : vp_in ((va_up i 30 (nI (pN t s k))) 30) 400 := by rw [hi30]; exact vp_in_nI (by omega) (by omega)
              refine ev_go 999 rfl ⟨hvN, hvN, hvN, hvk, trivial⟩ ?_
              rw [mo_a25, mo_a27, mo_a29, mo_i30, bx_uu, mo_a24]
              have hS : pS t s (k + 1) = (1, k, (pS t s k).2.2) := by rw [hS1]; unfold pnx; rw [if_pos hpe, if_pos hs0]
              refine next _ _ _ _ (by rw [hS]; rfl) (by rw [hS]) (by show (va_up i 30 (nI (pN t s k))) 30 + nI 1 = _; rw [hi30, nI_add]; rw [show pN t s (k + 1) = pN t s k + 1 from if_pos ⟨hpe, hs0⟩]) (hP.beg ⟨hpe, hs0⟩ ?_ ?_ ?_ ?_ ?_ ?_ ?_)
              · intro p hp
                rw [va_n (by omega), va_n (by omega), va_n (by omega), va_n (by omega), a1o p (by omega)]
              · intro q
                rw [va_s, hck]
                show (if q = k then _ else a1 24 q) = _
                by_cases z : q = k
                · rw [if_pos z, if_pos z]; rfl
                · rw [if_neg z, if_neg z, a1r, if_neg z]
              · intro q
                rw [va_n (by decide), va_n (by decide), va_n (by decide), va_s, hi30, nI_clamp (by omega), a1o 25 (by decide)]
                rfl
              · intro q
                rw [va_n (by decide), va_n (by decide), va_s, hi30, nI_clamp (by omega), a1o 27 (by decide)]
                rfl
              · intro q
                rw [va_n (by decide), va_s, hi30, nI_clamp (by omega), a1o 29 (by decide)]
                rfl
              · rw [va_n (by decide), va_n (by decide), va_n (by decide), va_n (by decide), a1o 26 (by decide)]
              · rw [va_n (by decide), va_n (by decide), va_n (by decide), va_n (by decide), a1o 28 (by decide)]
            · refine ev_neg (by show ¬ nI (s k) = nI 0; rw [nI_eq (by omega) (by omega)]; exact hs0) ?_
              have hS : pS t s (k + 1) = (0, (pS t s k).2.1, (pS t s k).2.2) := by rw [hS1]; unfold pnx; rw [if_pos hpe, if_neg hs0]
              have nb : ¬ (pe t k (pS t s k) = 0 ∧ s k = 0) := fun z => hs0 z.2
              refine ev_go 999 rfl trivial ?_
              refine next _ _ _ _ (by rw [hS, h0]) (by rw [hS]) (by rw [show pN t s (k + 1) = pN t s k from if_neg nb]) (hP.mid nb (fun z => z.1 hpe) 0 (by rw [if_neg (fun z => by omega)]) a1o a1r)
          · have hpe : pe t k (pS t s k) ≠ 0 := by rw [← he]; exact h0
            obtain ⟨hst, -⟩ := pe_st hpe
            obtain ⟨hN1, hN2, hN3⟩ := pS_in t s k (by rw [hst]; exact hpe)
            have nb : ¬ (pe t k (pS t s k) = 0 ∧ s k = 0) := fun z => hpe z.1
            have hN' : pN t s (k + 1) = pN t s k := if_neg nb
            refine ev_pos (by show ¬ nI e = nI 0; rw [nI_eq (by omega) (by omega)]; exact h0) ?_
            refine ev_go 999 rfl trivial ?_
            by_cases hs1 : s k = 1
            · refine ev_neg (fun z => z (by rw [hs1]; rfl)) ?_
              have hS : pS t s (k + 1) = (0, (pS t s k).2.1, (pS t s k).2.2) := by rw [hS1]; unfold pnx; rw [if_neg hpe, if_pos hs1]
              have hxN : (va_up i 30 (nI (pN t s k))) 30 - nI 1 = nI (pN t s k - 1) := by rw [hi30, pk_sub (by omega)]
              have hvN : vp_in ((va_up i 30 (nI (pN t s k))) 30 - nI 1) 400 := by rw [hxN]; exact vp_in_nI (by omega) (by omega)
              have hcN : ((va_up i 30 (nI (pN t s k))) 30 - nI 1).toNatClampNeg = pN t s k - 1 := by rw [hxN]; exact nI_clamp (by omega)
              have hfm : a1 27 (pN t s k - 1) = nI (pS t s k).2.1 := by rw [a1o 27 (by decide), (hP.2.2 _ (by omega)).2.1, hN2]
              have tail : ∀ x : Int32, x = nI (if pe t k (pS t s k) = 2 then (pS t s k).2.2 else t k) → am_ev E d tX9_pair (181, [some (.ref 0), some (.int (nI w)), some (.int (nI e)), some (.int (nI (pS t s k).2.2)), some (.int (nI k)), some (.int (nI (t k))), some (.int (nI (s k)))], [.int x, .int ((va_up i 30 (nI (pN t s k))) 30 - nI 1), .ref 26], am_L (mo (va_up i 30 (nI (pN t s k))) j a1 b), 0, 0) (fun v M => v = none ∧ ∃ a', PI t s a n a' ∧ M = am_L (mo (va_up i 30 (nI (pN t s n))) j a' b)) := by
                intro x hx
                have hvF : vp_in (a1 27 ((va_up i 30 (nI (pN t s k))) 30 - nI 1).toNatClampNeg) 400 := by rw [hcN, hfm]; exact vp_in_nI (by omega) (by omega)
                refine ev_go 999 rfl ⟨hvN, hvN, hvN, hvN, hvF, hvk, trivial⟩ ?_
                rw [mo_a26, mo_a28, mo_a29, mo_a24, mo_a24, bx_uu]
                refine next _ _ _ _ (by rw [hS]; rfl) (by rw [hS]) (by rw [hN']) (hP.fin ⟨hpe, hs1⟩ ?_ ?_ ?_ ?_ ?_ ?_ ?_)
                · intro p hp
                  rw [va_n (by omega), va_n (by omega), va_n (by omega), va_n (by omega), a1o p (by omega)]
                · intro q
                  have hcc : (nI (pS t s k).2.1).toNatClampNeg = (pS t s k).2.1 := nI_clamp (by omega)
                  show (va_up (va_up (va_up (va_up a1 26 _) 28 _) 29 _) 24 (upd (upd (a1 24) (a1 27 ((va_up i 30 (nI (pN t s k))) 30 - nI 1).toNatClampNeg).toNatClampNeg (nI 1)) (nI k).toNatClampNeg (nI 3))) 24 q = _
                  rw [va_s, hcN, hfm, hcc, hck]
                  show (if q = k then _ else (if q = (pS t s k).2.1 then _ else a1 24 q)) = _
                  by_cases z : q = k
                  · rw [if_pos z, if_pos z]
                  · rw [if_neg z, if_neg z]
                    by_cases y : q = (pS t s k).2.1
                    · rw [if_pos y, if_pos y]
                    · rw [if_neg y, if_neg y, a1r, if_neg z]
                · rw [va_n (by decide), va_n (by decide), va_n (by decide), va_n (by decide), a1o 25 (by decide)]
                · rw [va_n (by decide), va_n (by decide), va_n (by decide), va_n (by decide), a1o 27 (by decide)]
                · intro q
                  show (va_up (va_up (va_up (va_up a1 26 _) 28 _) 29 (upd (a1 29) ((va_up i 30 (nI (pN t s k))) 30 - nI 1).toNatClampNeg 0)) 24 _) 29 q = _
                  rw [va_n (by decide), va_s, hcN, a1o 29 (by decide)]
                  rfl
                · intro q
                  show (va_up (va_up (va_up (va_up a1 26 (upd (a1 26) ((va_up i 30 (nI (pN t s k))) 30 - nI 1).toNatClampNeg x)) 28 _) 29 _) 24 _) 26 q = _
                  rw [va_n (by decide), va_n (by decide), va_n (by decide), va_s, hcN, a1o 26 (by decide), hx]
                  rfl
                · intro q
                  show (va_up (va_up (va_up (va_up a1 26 _) 28 (upd (a1 28) ((va_up i 30 (nI (pN t s k))) 30 - nI 1).toNatClampNeg (nI k))) 29 _) 24 _) 28 q = _
                  rw [va_n (by decide), va_n (by decide), va_s, hcN, a1o 28 (by decide)]
                  rfl
              refine ev_go 999 rfl trivial ?_
              by_cases h2 : e = 2
              · refine ev_neg (fun z => z (by rw [h2]; rfl)) ?_
                refine ev_go 999 rfl trivial ?_
                exact tail _ (by rw [if_pos (by rw [← he]; exact h2)])
              · refine ev_pos (by show ¬ nI e = nI 2; rw [nI_eq (by omega) (by omega)]; exact h2) ?_
                refine ev_go 181 rfl trivial ?_
                exact tail _ (by rw [if_neg (by rw [← he]; exact h2)])
            · have nf : ¬ (pe t k (pS t s k) ≠ 0 ∧ s k = 1) := fun z => hs1 z.2
              refine ev_pos (by show ¬ nI (s k) = nI 1; rw [nI_eq (by omega) (by omega)]; exact hs1) ?_
              have r4 : ∀ q, (va_up a1 24 (upd (a1 24) (nI k).toNatClampNeg (nI 4))) 24 q = if q = k then nI 4 else a' 24 q := fun q => by
                rw [va_s, hck]
                show (if q = k then _ else a1 24 q) = _
                by_cases z : q = k
                · rw [if_pos z, if_pos z]
                · rw [if_neg z, if_neg z, a1r, if_neg z]
              have o4 : ∀ p, p ≠ 24 → (va_up a1 24 (upd (a1 24) (nI k).toNatClampNeg (nI 4))) p = a' p := fun p hp => by rw [va_n hp, a1o p hp]
              refine ev_go 999 rfl trivial ?_
              by_cases h1 : e = 1
              · have hpe1 : pe t k (pS t s k) = 1 := by rw [← he]; exact h1
                refine ev_neg (fun z => z (by rw [h1]; rfl)) ?_
                refine ev_go 999 rfl trivial ?_
                by_cases hs2 : s k = 2
                · refine ev_neg (fun z => z (by rw [hs2]; rfl)) ?_
                  have hS : pS t s (k + 1) = (2, (pS t s k).2.1, t k) := by rw [hS1]; unfold pnx; rw [if_neg hpe, if_neg hs1, if_pos hpe1, if_pos hs2]
                  refine ev_go 999 rfl ⟨hvk, trivial⟩ ?_
                  rw [mo_a24]
                  exact next _ _ _ _ (by rw [hS]; rfl) (by rw [hS]) (by rw [hN']) (hP.mid nb nf 4 (by rw [if_pos (Or.inl ⟨hpe1, hs2⟩)]) o4 r4)
                · refine ev_pos (by show ¬ nI (s k) = nI 2; rw [nI_eq (by omega) (by omega)]; exact hs2) ?_
                  have hS : pS t s (k + 1) = (1, (pS t s k).2.1, (pS t s k).2.2) := by rw [hS1]; unfold pnx; rw [if_neg hpe, if_neg hs1, if_pos hpe1, if_neg hs2]
                  refine ev_go 999 rfl trivial ?_
                  refine ev_pos (by rw [h1]; decide) ?_
                  exact next _ _ _ _ (by rw [hS, h1]) (by rw [hS]) (by rw [hN']) (hP.mid nb nf 0 (by rw [if_neg (fun z => by omega)]) a1o a1r)
              · have h2 : e = 2 := by omega
                have hpe2 : pe t k (pS t s k) = 2 := by rw [← he]; exact h2
                refine ev_pos (by show ¬ nI e = nI 1; rw [nI_eq (by omega) (by omega)]; exact h1) ?_
                refine ev_go 999 rfl trivial ?_
                refine ev_neg (fun z => z (by rw [h2]; rfl)) ?_
                refine ev_go 999 rfl trivial ?_
                by_cases hs3' : s k = 3
                · refine ev_neg (fun z => z (by rw [hs3']; rfl)) ?_
                  have hS : pS t s (k + 1) = (1, (pS t s k).2.1, (pS t s k).2.2) := by rw [hS1]; unfold pnx; rw [if_neg hpe, if_neg hs1, if_neg (by omega), if_pos hs3']
                  refine ev_go 285 rfl ⟨hvk, trivial⟩ ?_
                  rw [mo_a24]
                  exact next _ _ _ _ (by rw [hS]; rfl) (by rw [hS]) (by rw [hN']) (hP.mid nb nf 4 (by rw [if_pos (Or.inr ⟨hpe2, hs3'⟩)]) o4 r4)
                · refine ev_pos (by show ¬ nI (s k) = nI 3; rw [nI_eq (by omega) (by omega)]; exact hs3') ?_
                  have hS : pS t s (k + 1) = (2, (pS t s k).2.1, (pS t s k).2.2) := by rw [hS1]; unfold pnx; rw [if_neg hpe, if_neg hs1, if_neg (by omega), if_neg hs3']
                  exact next _ _ _ _ (by rw [hS, h2]) (by rw [hS]) (by rw [hN']) (hP.mid nb nf 0 (by rw [if_neg (fun z => by omega)]) a1o a1r)
        refine ev_go 999 rfl trivial ?_
        by_cases hst0 : (pS t s k).1 = 0
        · refine ev_pos (by rw [hst0]; decide) ?_
          have e : pe t k (pS t s k) = 0 := by unfold pe; rw [if_neg (fun z => z.1 hst0)]; exact hst0
          have kk := from87 0 e.symm
          rw [hst0]
          exact kk
        · obtain ⟨hN1, hN2, hN3⟩ := pS_in t s k hst0
          have hxN : (va_up i 30 (nI (pN t s k))) 30 - nI 1 = nI (pN t s k - 1) := by rw [hi30, pk_sub (by omega)]
          have hvN : vp_in ((va_up i 30 (nI (pN t s k))) 30 - nI 1) 400 := by rw [hxN]; exact vp_in_nI (by omega) (by omega)
          have hbg : a1 25 ((va_up i 30 (nI (pN t s k))) 30 - nI 1).toNatClampNeg = nI (t (pS t s k).2.1) := by rw [hxN, nI_clamp (by omega), a1o 25 (by decide), (hP.2.2 _ (by omega)).1, hN2]
          have hlt := hinc _ k hN3 hkn
          refine ev_neg (nI_nle (by omega) (by omega)) ?_
          refine ev_go 999 rfl ⟨hvN, trivial⟩ ?_
          by_cases hto : t (pS t s k).2.1 + 960 < t k
          · have e : pe t k (pS t s k) = 0 := by unfold pe; rw [if_pos ⟨hst0, hto⟩]
            refine ev_neg (by show ¬ nI (t k) - a1 25 ((va_up i 30 (nI (pN t s k))) 30 - nI 1).toNatClampNeg ≤ nI 960; rw [hbg, pk_sub (by omega)]; exact nI_ge (by omega) (by omega)) ?_
            refine ev_go 87 rfl trivial ?_
            exact from87 0 e.symm
          · have e : pe t k (pS t s k) = (pS t s k).1 := by unfold pe; rw [if_neg (fun z => hto z.2)]
            refine ev_pos (by show nI (t k) - a1 25 ((va_up i 30 (nI (pN t s k))) 30 - nI 1).toNatClampNeg ≤ nI 960; rw [hbg, pk_sub (by omega)]; exact nI_le (by omega) (by omega)) ?_
            exact from87 _ e.symm
    have k0 := loop n 0 (by omega) (Nat.zero_le _) a none none ⟨fun _ _ => rfl, fun q h => absurd h (Nat.not_lt_zero q), fun x h => absurd h (Nat.not_lt_zero x)⟩
    show am_ev E d tX9_pair (12, [some (.ref 0), some (.int (nI w)), some (.int (nI 0)), some (.int (nI 0)), some (.int (nI 0)), none, none], [], am_w (am_L (mo i j a b)) 0 (.inr (9, [.int (i 0), .ref 1, .int (i 2), .ref 2, .ref 3, .ref 4, .ref 5, .ref 6, .ref 7, .int (i 9), .ref 8, .ref 9, .ref 10, .ref 11, .ref 12, .int (i 15), .ref 13, .ref 14, .ref 15, .int (i 19), .ref 16, .ref 17, .ref 18, .ref 19, .ref 20, .ref 21, .int (i 26), .ref 22, .ref 23, .ref 24, .int (i 30), .ref 25, .ref 26, .ref 27, .ref 28, .ref 29, .ref 30, .ref 31, .int (i 38), .int (i 39), .ref 32, .ref 33, .ref 34, .ref 35, .ref 36, .long (j 45), .long (j 46)].set 30 (.int (Int32.ofInt 0)))), 0, 0) _
    rw [e0]
    exact k0
  obtain ⟨v, M', ⟨rfl, a', hP, rfl⟩, hD⟩ := am_D_ex (Nat.le_of_ble_eq_true rfl) main
  exact ⟨a', hP, hD⟩
end M9
