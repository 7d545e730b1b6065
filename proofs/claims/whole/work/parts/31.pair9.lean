theorem am_D_ex {E : am_E} {d : Nat} {τ : am_T} {as : List Value} {M : am_M} {mc ms : Nat} {P : Option Value → am_M → Prop} (hl : (am_il as).length ≤ τ.2.2.2.1) (h : am_ev E d τ (0, am_in as τ.2.2.2.1, [], M, mc, ms) P) : ∃ v M', P v M' ∧ am_D E (d + 1) τ as M mc ms v M' := by
  obtain ⟨n, h⟩ := h
  obtain ⟨v, M', h1, h2⟩ := am_Ev_fix n _ h
  exact ⟨v, M', h1, hl, n, h2⟩
/-- what pair() leaves in the arrays role, begin, end, firstMark, lastMark, gap -/
def PI (t s : Nat → Nat) (a : Nat → Nat → Int32) (k : Nat) (a' : Nat → Nat → Int32) : Prop :=
  (∀ p, p < 24 ∨ 29 < p → a' p = a p) ∧ (∀ q, q < k → a' 24 q = nI (pR t s k q)) ∧
  (∀ x, x < pN t s k → a' 25 x = nI (t (pF t s k x)) ∧ a' 27 x = nI (pF t s k x) ∧ a' 29 x = bI (pG t s k x) ∧ (pG t s k x = false → a' 26 x = nI (pE t s k x) ∧ a' 28 x = nI (pLm t s k x)))
theorem va_n {α : Type} {f : Nat → α} {k j : Nat} {v : α} (h : j ≠ k) : va_up f k v j = f j := if_neg h
theorem va_s {α : Type} {f : Nat → α} {k : Nat} {v : α} : va_up f k v k = v := if_pos rfl
section M9
variable {E : am_E} {d : Nat} {i : Nat → Int32} {j : Nat → Int64} {a : Nat → Nat → Int32} {b : Nat → Nat → Int64}
theorem x9_pair {w n : Nat} {t s : Nat → Nat} (hw : w < 30) (hn : n ≤ 400) (h21 : a 21 w = nI n) (ht : ∀ k, k < n → a 22 (400 * w + k) = nI (t k)) (hs : ∀ k, k < n → a 23 (400 * w + k) = nI (s k)) (hs3 : ∀ k, k < n → s k ≤ 3) (ht2 : ∀ k, k < n → t k < 2000000) (hinc : ∀ q k, q < k → k < n → t q < t k) : ∃ a', PI t s a n a' ∧ am_D E (d + 1) tX9_pair [.ref 0, .int (nI w)] (am_L (mo i j a b)) 0 0 none (am_L (mo (va_up i 30 (nI (pN t s n))) j a' b)) := by
  have hv : vp_in (nI w) 30 := vp_in_nI hw (by omega)
  have hc : (nI w).toNatClampNeg = w := nI_clamp (by omega)
  have main : am_ev E d tX9_pair (0, am_in [.ref 0, .int (nI w)] tX9_pair.2.2.2.1, [], am_L (mo i j a b), 0, 0) (fun v M => v = none ∧ ∃ a', PI t s a n a' ∧ M = am_L (mo (va_up i 30 (nI (pN t s n))) j a' b)) := by
    refine ev_go 12 rfl trivial ?_
    have e0 : am_w (am_L (mo i j a b)) 0 (.inr (9, [.int (i 0), .ref 1, .int (i 2), .ref 2, .ref 3, .ref 4, .ref 5, .ref 6, .ref 7, .int (i 9), .ref 8, .ref 9, .ref 10, .ref 11, .ref 12, .int (i 15), .ref 13, .ref 14, .ref 15, .int (i 19), .ref 16, .ref 17, .ref 18, .ref 19, .ref 20, .ref 21, .int (i 26), .ref 22, .ref 23, .ref 24, .int (i 30), .ref 25, .ref 26, .ref 27, .ref 28, .ref 29, .ref 30, .ref 31, .int (i 38), .int (i 39), .ref 32, .ref 33, .ref 34, .ref 35, .ref 36, .long (j 45), .long (j 46)].set 30 (.int (Int32.ofInt 0)))) = am_L (mo (va_up i 30 (nI 0)) j a b) := mo_i30 _
    have loop : ∀ m k, n - k = m → k ≤ n → ∀ (a' : Nat → Nat → Int32) (o5 o6 : Option Value), PI t s a k a' → am_ev E d tX9_pair (12, [some (.ref 0), some (.int (nI w)), some (.int (nI (pS t s k).1)), some (.int (nI (pS t s k).2.2)), some (.int (nI k)), o5, o6], [], am_L (mo (va_up i 30 (nI (pN t s k))) j a' b), 0, 0) (fun v M => v = none ∧ ∃ a', PI t s a n a' ∧ M = am_L (mo (va_up i 30 (nI (pN t s n))) j a' b)) := by
      intro m
      induction m with
      | zero =>
        intro k g1 g2 a' o5 o6 hP
        have e : k = n := by omega
        subst e
        have h21' : a' 21 w = nI k := by rw [hP.1 21 (Or.inl (by omega))]; exact h21
        refine ev_go 999 rfl ⟨hv, trivial⟩ ?_
        refine ev_pos (by show a' 21 (nI w).toNatClampNeg ≤ nI k; rw [hc, h21']; exact nI_le (Nat.le_refl _) (by omega)) ?_
        exact ev_ret rfl trivial ⟨rfl, a', hP, rfl⟩
      | succ m ih =>
        intro k g1 g2 a' o5 o6 hP
        have hkn : k < n := by omega
        have h21' : a' 21 w = nI n := by rw [hP.1 21 (Or.inl (by omega))]; exact h21
        have ht' : a' 22 (400 * w + k) = nI (t k) := by rw [hP.1 22 (Or.inl (by omega))]; exact ht k hkn
        have hs' : a' 23 (400 * w + k) = nI (s k) := by rw [hP.1 23 (Or.inl (by omega))]; exact hs k hkn
        have htk := ht2 k hkn
        have hsk := hs3 k hkn
        have ex : nI 400 * nI w + nI k = nI (400 * w + k) := by rw [pk_mul, nI_add]
        have hv2 : vp_in (nI 400 * nI w + nI k) 12000 := by rw [ex]; exact vp_in_nI (by omega) (by omega)
        have hc2 : (nI 400 * nI w + nI k).toNatClampNeg = 400 * w + k := by rw [ex]; exact nI_clamp (by omega)
        have hvk : vp_in (nI k) 400 := vp_in_nI (by omega) (by omega)
        have hck : (nI k).toNatClampNeg = k := nI_clamp (by omega)
        have hNk := pN_le t s k
        have hle := pS_le t s k
        obtain ⟨a1, ha1⟩ : ∃ a1, a1 = va_up a' 24 (upd (a' 24) k 0) := ⟨_, rfl⟩
        have a1o : ∀ p, p ≠ 24 → a1 p = a' p := fun p hp => by rw [ha1]; exact va_n hp
        have a1r : ∀ q, a1 24 q = if q = k then 0 else a' 24 q := fun q => by rw [ha1, va_s]; rfl
        refine ev_go 999 rfl ⟨hv, trivial⟩ ?_
        refine ev_neg (by show ¬ a' 21 (nI w).toNatClampNeg ≤ nI k; rw [hc, h21']; exact nI_ge (by omega) (by omega)) ?_
        refine ev_go 61 rfl ⟨hv2, hv2, hvk, trivial⟩ ?_
        rw [mo_a24]
        have e5 : a' 22 ((Int16.ofInt 400).toInt32 * nI w + nI k).toNatClampNeg = nI (t k) := by show a' 22 (nI 400 * nI w + nI k).toNatClampNeg = _; rw [hc2, ht']
        have e6 : a' 23 ((Int16.ofInt 400).toInt32 * nI w + nI k).toNatClampNeg = nI (s k) := by show a' 23 (nI 400 * nI w + nI k).toNatClampNeg = _; rw [hc2, hs']
        rw [hck, e5, e6, ← (show a1 = va_up a' 24 (upd (a' 24) k (Int32.ofInt 0)) from ha1)]
        -- behind the body
        have next : ∀ (x2 x3 : Int32) (N' : Int32) (a2 : Nat → Nat → Int32), x2 = nI (pS t s (k + 1)).1 → x3 = nI (pS t s (k + 1)).2.2 → N' = nI (pN t s (k + 1)) → PI t s a (k + 1) a2 → am_ev E d tX9_pair (285, [some (.ref 0), some (.int (nI w)), some (.int x2), some (.int x3), some (.int (nI k)), some (.int (nI (t k))), some (.int (nI (s k)))], [], am_L (mo (va_up i 30 N') j a2 b), 0, 0) (fun v M => v = none ∧ ∃ a', PI t s a n a' ∧ M = am_L (mo (va_up i 30 (nI (pN t s n))) j a' b)) := by
          intro x2 x3 N' a2 h1 h2 h3 h4
          subst h1; subst h2; subst h3
          have kk := ih (k + 1) (by omega) (by omega) a2 (some (.int (nI (t k)))) (some (.int (nI (s k)))) h4
          rw [← nI_1 k] at kk
          refine ev_go 999 rfl trivial ?_
          exact kk
        sorry
    have k0 := loop n 0 (by omega) (Nat.zero_le _) a none none ⟨fun _ _ => rfl, fun q h => absurd h (Nat.not_lt_zero q), fun x h => absurd h (Nat.not_lt_zero x)⟩
    show am_ev E d tX9_pair (12, [some (.ref 0), some (.int (nI w)), some (.int (nI 0)), some (.int (nI 0)), some (.int (nI 0)), none, none], [], am_w (am_L (mo i j a b)) 0 (.inr (9, [.int (i 0), .ref 1, .int (i 2), .ref 2, .ref 3, .ref 4, .ref 5, .ref 6, .ref 7, .int (i 9), .ref 8, .ref 9, .ref 10, .ref 11, .ref 12, .int (i 15), .ref 13, .ref 14, .ref 15, .int (i 19), .ref 16, .ref 17, .ref 18, .ref 19, .ref 20, .ref 21, .int (i 26), .ref 22, .ref 23, .ref 24, .int (i 30), .ref 25, .ref 26, .ref 27, .ref 28, .ref 29, .ref 30, .ref 31, .int (i 38), .int (i 39), .ref 32, .ref 33, .ref 34, .ref 35, .ref 36, .long (j 45), .long (j 46)].set 30 (.int (Int32.ofInt 0)))), 0, 0) _
    rw [e0]
    exact k0
  obtain ⟨v, M', ⟨rfl, a', hP, rfl⟩, hD⟩ := am_D_ex (Nat.le_of_ble_eq_true rfl) main
  exact ⟨a', hP, hD⟩
end M9
