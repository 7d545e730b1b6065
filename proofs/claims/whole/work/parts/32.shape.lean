/-! The shape of the shifts that pairing finds. -/
/-- over the marks of a shift from c on: is one in, and the latest mark that counted -/
def sO (r : Nat → Nat) (c : Nat) : Nat → Bool
  | 0 => false
  | n + 1 => if r (c + n) = 0 then sO r c n else !sO r c n
def sK (r : Nat → Nat) (c : Nat) : Nat → Nat
  | 0 => c
  | n + 1 => if r (c + n) = 0 then sK r c n else c + n
theorem sO_cong {r r' : Nat → Nat} {c : Nat} : ∀ {n : Nat}, (∀ q, c ≤ q → q < c + n → (r q = 0 ↔ r' q = 0)) → sO r c n = sO r' c n
  | 0, _ => rfl
  | n + 1, h => by
    have ih := sO_cong (n := n) (fun q h1 h2 => h q h1 (by omega))
    have hh := h (c + n) (by omega) (by omega)
    unfold sO
    rw [ih]
    by_cases z : r (c + n) = 0
    · rw [if_pos z, if_pos (hh.mp z)]
    · rw [if_neg z, if_neg (fun y => z (hh.mpr y))]
theorem sK_cong {r r' : Nat → Nat} {c : Nat} : ∀ {n : Nat}, (∀ q, c ≤ q → q < c + n → (r q = 0 ↔ r' q = 0)) → sK r c n = sK r' c n
  | 0, _ => rfl
  | n + 1, h => by
    have ih := sK_cong (n := n) (fun q h1 h2 => h q h1 (by omega))
    have hh := h (c + n) (by omega) (by omega)
    unfold sK
    rw [ih]
    by_cases z : r (c + n) = 0
    · rw [if_pos z, if_pos (hh.mp z)]
    · rw [if_neg z, if_neg (fun y => z (hh.mpr y))]
theorem sK_in (r : Nat → Nat) (c : Nat) : ∀ n, c ≤ sK r c n ∧ (0 < n → sK r c n < c + n)
  | 0 => ⟨Nat.le_refl _, fun h => by omega⟩
  | n + 1 => by
    have ih := sK_in r c n
    unfold sK
    split
    · refine ⟨ih.1, fun _ => ?_⟩
      rcases Nat.eq_zero_or_pos n with z | z
      · subst z; show c < c + (0 + 1); omega
      · have := ih.2 z; omega
    · exact ⟨by omega, fun _ => by omega⟩
/-- a shift that ends: from mark c to mark l -/
abbrev shD (t s r : Nat → Nat) (c l : Nat) : Prop := (r c = 1) ∧ (c < l) ∧ (r l = 3) ∧ (∀ q, c < q → q < l → r q = 0 ∨ r q = 4) ∧ (t l ≤ t c + 960) ∧ (∀ n, 0 < n → n ≤ l - c → (sO r c n = false ↔ s (sK r c n) = 2))
theorem shD.rc {t s r : Nat → Nat} {c l : Nat} (h : shD t s r c l) : r c = 1 := h.1
theorem shD.cl {t s r : Nat → Nat} {c l : Nat} (h : shD t s r c l) : c < l := h.2.1
theorem shD.rl {t s r : Nat → Nat} {c l : Nat} (h : shD t s r c l) : r l = 3 := h.2.2.1
theorem shD.mid {t s r : Nat → Nat} {c l : Nat} (h : shD t s r c l) : ∀ q, c < q → q < l → r q = 0 ∨ r q = 4 := h.2.2.2.1
theorem shD.tl {t s r : Nat → Nat} {c l : Nat} (h : shD t s r c l) : t l ≤ t c + 960 := h.2.2.2.2.1
theorem shD.ps {t s r : Nat → Nat} {c l : Nat} (h : shD t s r c l) : ∀ n, 0 < n → n ≤ l - c → (sO r c n = false ↔ s (sK r c n) = 2) := h.2.2.2.2.2
theorem shD.cong {t s r r' : Nat → Nat} {c l : Nat} (h : shD t s r c l) (e : ∀ q, c ≤ q → q ≤ l → r' q = r q) : shD t s r' c l := by
  have hcl := h.cl
  refine ⟨by rw [e c (by omega) (by omega)]; exact h.rc, h.cl, by rw [e l (by omega) (by omega)]; exact h.rl, fun q h1 h2 => by rw [e q (by omega) (by omega)]; exact h.mid q h1 h2, h.tl, fun n h1 h2 => ?_⟩
  rw [sO_cong (r := r') (r' := r) (fun q g1 g2 => by rw [e q g1 (by omega)]), sK_cong (r := r') (r' := r) (fun q g1 g2 => by rw [e q g1 (by omega)])]
  exact h.ps n h1 h2
/-- the END's time -/
def eT (t r : Nat → Nat) (c l : Nat) : Nat := if sO r c (l - c) = true then t l else t (sK r c (l - c))
abbrev shO (t s r : Nat → Nat) (c k : Nat) (st pz : Nat) : Prop := (r c = 2) ∧ (c < k) ∧ (∀ q, c < q → q < k → r q = 0 ∨ r q = 4) ∧ (∀ n, 0 < n → n ≤ k - c → (sO r c n = false ↔ s (sK r c n) = 2)) ∧ (sO r c (k - c) = decide (st = 1)) ∧ (st = 2 → pz = t (sK r c (k - c)))
theorem shO.rc {t s r : Nat → Nat} {c k : Nat} {st pz : Nat} (h : shO t s r c k st pz) : r c = 2 := h.1
theorem shO.ck {t s r : Nat → Nat} {c k : Nat} {st pz : Nat} (h : shO t s r c k st pz) : c < k := h.2.1
theorem shO.mid {t s r : Nat → Nat} {c k : Nat} {st pz : Nat} (h : shO t s r c k st pz) : ∀ q, c < q → q < k → r q = 0 ∨ r q = 4 := h.2.2.1
theorem shO.ps {t s r : Nat → Nat} {c k : Nat} {st pz : Nat} (h : shO t s r c k st pz) : ∀ n, 0 < n → n ≤ k - c → (sO r c n = false ↔ s (sK r c n) = 2) := h.2.2.2.1
theorem shO.on {t s r : Nat → Nat} {c k : Nat} {st pz : Nat} (h : shO t s r c k st pz) : sO r c (k - c) = decide (st = 1) := h.2.2.2.2.1
theorem shO.pz {t s r : Nat → Nat} {c k : Nat} {st pz : Nat} (h : shO t s r c k st pz) : st = 2 → pz = t (sK r c (k - c)) := h.2.2.2.2.2
abbrev pI (t s : Nat → Nat) (k : Nat) : Prop := (∀ x, x < pN t s k → pF t s k x < k) ∧ (∀ x, x + 1 < pN t s k → pF t s k x < pF t s k (x + 1)) ∧ (∀ x, x < pN t s k → pG t s k x = true → pR t s k (pF t s k x) = 2) ∧ (∀ x, x < pN t s k → pG t s k x = false → shD t s (pR t s k) (pF t s k x) (pLm t s k x) ∧ pLm t s k x < k ∧ pE t s k x = eT t (pR t s k) (pF t s k x) (pLm t s k x) ∧ (x + 1 < pN t s k → pLm t s k x < pF t s k (x + 1))) ∧ (∀ q, q < k → (pR t s k q = 1 ∨ pR t s k q = 2) → ∃ x, x < pN t s k ∧ pF t s k x = q) ∧ ((pS t s k).1 ≠ 0 → pG t s k (pN t s k - 1) = true ∧ shO t s (pR t s k) (pS t s k).2.1 k (pS t s k).1 (pS t s k).2.2)
theorem pI.A {t s : Nat → Nat} {k : Nat} (h : pI t s k) : ∀ x, x < pN t s k → pF t s k x < k := h.1
theorem pI.B {t s : Nat → Nat} {k : Nat} (h : pI t s k) : ∀ x, x + 1 < pN t s k → pF t s k x < pF t s k (x + 1) := h.2.1
theorem pI.C {t s : Nat → Nat} {k : Nat} (h : pI t s k) : ∀ x, x < pN t s k → pG t s k x = true → pR t s k (pF t s k x) = 2 := h.2.2.1
theorem pI.D {t s : Nat → Nat} {k : Nat} (h : pI t s k) : ∀ x, x < pN t s k → pG t s k x = false → shD t s (pR t s k) (pF t s k x) (pLm t s k x) ∧ pLm t s k x < k ∧ pE t s k x = eT t (pR t s k) (pF t s k x) (pLm t s k x) ∧ (x + 1 < pN t s k → pLm t s k x < pF t s k (x + 1)) := h.2.2.2.1
theorem pI.R {t s : Nat → Nat} {k : Nat} (h : pI t s k) : ∀ q, q < k → (pR t s k q = 1 ∨ pR t s k q = 2) → ∃ x, x < pN t s k ∧ pF t s k x = q := h.2.2.2.2.1
theorem pI.S {t s : Nat → Nat} {k : Nat} (h : pI t s k) : (pS t s k).1 ≠ 0 → pG t s k (pN t s k - 1) = true ∧ shO t s (pR t s k) (pS t s k).2.1 k (pS t s k).1 (pS t s k).2.2 := h.2.2.2.2.2
theorem pI_mono {t s : Nat → Nat} {k : Nat} (h : ∀ x, x + 1 < pN t s k → pF t s k x < pF t s k (x + 1)) : ∀ y x, x < y → y < pN t s k → pF t s k x < pF t s k y
  | 0, x, h1, _ => by omega
  | y + 1, x, h1, h2 => by
    have := h y h2
    rcases Nat.lt_or_ge x y with z | z
    · have := pI_mono h y x z (by omega); omega
    · have : x = y := by omega
      subst this; exact h x h2
/-- the last mark of an ended shift lies ahead of each later shift -/
theorem pI_last {t s : Nat → Nat} {k : Nat} (h : pI t s k) {x y : Nat} (hx : x < y) (hy : y < pN t s k) (hg : pG t s k x = false) : pLm t s k x < pF t s k y := by
  have h1 := (h.D x (by omega) hg).2.2.2 (by omega)
  rcases Nat.lt_or_ge (x + 1) y with z | z
  · have := pI_mono h.B y (x + 1) z hy; omega
  · have : x + 1 = y := by omega
    rw [← this]; exact h1
/-- one mark more, that begins nothing and ends nothing -/
theorem pI_more {t s : Nat → Nat} {k : Nat} (h : pI t s k) (nb : ¬ (pe t k (pS t s k) = 0 ∧ s k = 0)) (nf : ¬ (pe t k (pS t s k) ≠ 0 ∧ s k = 1)) (r : Nat) (hr : pR t s (k + 1) = upN (pR t s k) k r) (hr2 : r = 0 ∨ r = 4)
    (hS : (pS t s (k + 1)).1 ≠ 0 → pG t s k (pN t s k - 1) = true ∧ shO t s (pR t s (k + 1)) (pS t s (k + 1)).2.1 (k + 1) (pS t s (k + 1)).1 (pS t s (k + 1)).2.2) : pI t s (k + 1) := by
  have e1 : pN t s (k + 1) = pN t s k := if_neg nb
  have e2 : pF t s (k + 1) = pF t s k := if_neg nb
  have e3 : pG t s (k + 1) = pG t s k := (if_neg nb).trans (if_neg nf)
  have e4 : pE t s (k + 1) = pE t s k := if_neg nf
  have e5 : pLm t s (k + 1) = pLm t s k := if_neg nf
  have er : ∀ q, q < k → pR t s (k + 1) q = pR t s k q := fun q hq => by rw [hr, upN_n (by omega)]
  refine ⟨?_, ?_, ?_, ?_, ?_, ?_⟩
  · rw [e1, e2]; exact fun x hx => Nat.lt_succ_of_lt (h.A x hx)
  · rw [e1, e2]; exact h.B
  · rw [e1, e2, e3]
    intro x hx hg
    rw [er _ (h.A x hx)]; exact h.C x hx hg
  · rw [e1, e2, e3, e4, e5]
    intro x hx hg
    obtain ⟨g1, g2, g3, g4⟩ := h.D x hx hg
    have hcl := g1.cl
    refine ⟨g1.cong (fun q _ h2 => er q (by omega)), by omega, ?_, g4⟩
    rw [g3]
    unfold eT
    rw [sO_cong (r := pR t s (k + 1)) (r' := pR t s k) (fun q z1 z2 => by rw [er q (by omega)]), sK_cong (r := pR t s (k + 1)) (r' := pR t s k) (fun q z1 z2 => by rw [er q (by omega)])]
  · rw [e1, e2]
    intro q hq hh
    by_cases z : q = k
    · rw [hr, z, upN_s] at hh; omega
    · rw [er q (by omega)] at hh
      exact h.R q (by omega) hh
  · rw [e1, e3]; exact hS
theorem shO.more {t s r r' : Nat → Nat} {c k st pz st' pz' : Nat} (h : shO t s r c k st pz) (e : ∀ q, q < k → r' q = r q) (hk : r' k = 0 ∨ r' k = 4)
    (h0 : r' k = 0 → st' = st ∧ pz' = pz) (h4 : r' k = 4 → (st = 1 ∧ s k = 2 ∧ st' = 2 ∧ pz' = t k) ∨ (st = 2 ∧ s k = 3 ∧ st' = 1)) : shO t s r' c (k + 1) st' pz' := by
  have hck := h.ck
  have cO : ∀ n, n ≤ k - c → sO r' c n = sO r c n := fun n hn => sO_cong (fun q z1 z2 => by rw [e q (by omega)])
  have cK : ∀ n, n ≤ k - c → sK r' c n = sK r c n := fun n hn => sK_cong (fun q z1 z2 => by rw [e q (by omega)])
  have ek : k + 1 - c = (k - c) + 1 := by omega
  have ec : c + (k - c) = k := by omega
  have sO1 : sO r' c (k + 1 - c) = if r' k = 0 then sO r c (k - c) else !sO r c (k - c) := by
    rw [ek]
    show (if r' (c + (k - c)) = 0 then _ else _) = _
    rw [ec, cO _ (Nat.le_refl _)]
  have sK1 : sK r' c (k + 1 - c) = if r' k = 0 then sK r c (k - c) else k := by
    rw [ek]
    show (if r' (c + (k - c)) = 0 then _ else _) = _
    rw [ec, cK _ (Nat.le_refl _)]
  refine ⟨by rw [e c hck]; exact h.rc, by omega, fun q h1 h2 => ?_, fun n h1 h2 => ?_, ?_, ?_⟩
  · by_cases z : q = k
    · rw [z]; exact hk
    · rw [e q (by omega)]; exact h.mid q h1 (by omega)
  · rcases Nat.lt_or_ge (k - c) n with z | z
    · have en : n = k + 1 - c := by omega
      rw [en, sO1, sK1]
      rcases hk with y | y
      · rw [if_pos y, if_pos y]; exact h.ps (k - c) (by omega) (Nat.le_refl _)
      · rw [if_neg (by omega), if_neg (by omega), h.on]
        rcases h4 y with ⟨z1, z2, _⟩ | ⟨z1, z2, _⟩
        · rw [z1, z2]; decide
        · rw [z1, z2]; decide
    · rw [cO n z, cK n z]; exact h.ps n h1 z
  · rw [sO1]
    rcases hk with y | y
    · rw [if_pos y, h.on, (h0 y).1]
    · rw [if_neg (by omega), h.on]
      rcases h4 y with ⟨z1, z2, z3, _⟩ | ⟨z1, z2, z3⟩
      · rw [z1, z3]; decide
      · rw [z1, z3]; decide
  · intro hs
    rw [sK1]
    rcases hk with y | y
    · rw [if_pos y, (h0 y).2]
      exact h.pz (by rw [← (h0 y).1]; exact hs)
    · rw [if_neg (by omega)]
      rcases h4 y with ⟨z1, z2, z3, z4⟩ | ⟨z1, z2, z3⟩
      · exact z4
      · omega
theorem pI_all (t s : Nat → Nat) : ∀ k, pI t s k
  | 0 => ⟨fun x h => absurd h (Nat.not_lt_zero x), fun x h => absurd h (Nat.not_lt_zero _), fun x h => absurd h (Nat.not_lt_zero x), fun x h => absurd h (Nat.not_lt_zero x), fun x h => absurd h (Nat.not_lt_zero x), fun h => absurd rfl h⟩
  | k + 1 => by
    have h := pI_all t s k
    have hS1 : pS t s (k + 1) = pnx t s k (pS t s k) := rfl
    by_cases hb : pe t k (pS t s k) = 0 ∧ s k = 0
    · have e1 : pN t s (k + 1) = pN t s k + 1 := if_pos hb
      have e2 : pF t s (k + 1) = upN (pF t s k) (pN t s k) k := if_pos hb
      have e3 : pG t s (k + 1) = upN (pG t s k) (pN t s k) true := if_pos hb
      have e4 : pE t s (k + 1) = pE t s k := if_neg (fun z => z.1 hb.1)
      have e5 : pLm t s (k + 1) = pLm t s k := if_neg (fun z => z.1 hb.1)
      have e6 : pR t s (k + 1) = upN (pR t s k) k 2 := if_pos hb
      have e7 : pS t s (k + 1) = (1, k, (pS t s k).2.2) := by rw [hS1]; unfold pnx; rw [if_pos hb.1, if_pos hb.2]
      have er : ∀ q, q < k → pR t s (k + 1) q = pR t s k q := fun q hq => by rw [e6, upN_n (by omega)]
      have eF : ∀ x, x < pN t s k → pF t s (k + 1) x = pF t s k x := fun x hx => by rw [e2, upN_n (by omega)]
      have eG : ∀ x, x < pN t s k → pG t s (k + 1) x = pG t s k x := fun x hx => by rw [e3, upN_n (by omega)]
      have eFk : pF t s (k + 1) (pN t s k) = k := by rw [e2, upN_s]
      have eGk : pG t s (k + 1) (pN t s k) = true := by rw [e3, upN_s]
      refine ⟨?_, ?_, ?_, ?_, ?_, ?_⟩
      · intro x hx
        rw [e1] at hx
        by_cases z : x = pN t s k
        · rw [z, eFk]; omega
        · rw [eF x (by omega)]; have := h.A x (by omega); omega
      · intro x hx
        rw [e1] at hx
        rw [eF x (by omega)]
        by_cases z : x + 1 = pN t s k
        · rw [z, eFk]; exact h.A x (by omega)
        · rw [eF (x + 1) (by omega)]; exact h.B x (by omega)
      · intro x hx hg
        rw [e1] at hx
        by_cases z : x = pN t s k
        · rw [z, eFk, e6, upN_s]
        · rw [eF x (by omega), er _ (h.A x (by omega))]
          exact h.C x (by omega) (by rw [← eG x (by omega)]; exact hg)
      · intro x hx hg
        rw [e1] at hx
        by_cases z : x = pN t s k
        · rw [z, eGk] at hg; cases hg
        · rw [eG x (by omega)] at hg
          obtain ⟨g1, g2, g3, g4⟩ := h.D x (by omega) hg
          have hcl := g1.cl
          rw [eF x (by omega), e4, e5]
          refine ⟨g1.cong (fun q _ h2 => er q (by omega)), by omega, ?_, fun hx1 => ?_⟩
          · rw [g3]
            unfold eT
            rw [sO_cong (r := pR t s (k + 1)) (r' := pR t s k) (fun q z1 z2 => by rw [er q (by omega)]), sK_cong (r := pR t s (k + 1)) (r' := pR t s k) (fun q z1 z2 => by rw [er q (by omega)])]
          · by_cases y : x + 1 = pN t s k
            · rw [y, eFk]; exact g2
            · rw [eF (x + 1) (by omega)]; exact g4 (by omega)
      · intro q hq hh
        rw [e1]
        by_cases z : q = k
        · exact ⟨pN t s k, by omega, by rw [eFk, z]⟩
        · rw [er q (by omega)] at hh
          obtain ⟨x, hx, hx2⟩ := h.R q (by omega) hh
          exact ⟨x, by omega, by rw [eF x hx]; exact hx2⟩
      · intro _
        rw [e1, e7]
        refine ⟨by rw [Nat.add_sub_cancel]; exact eGk, ?_⟩
        have r2 : pR t s (k + 1) k = 2 := by rw [e6, upN_s]
        have o1 : sO (pR t s (k + 1)) k 1 = true := by
          show (if pR t s (k + 1) k = 0 then false else !false) = true
          rw [r2]; rfl
        have k1 : sK (pR t s (k + 1)) k 1 = k := by
          show (if pR t s (k + 1) k = 0 then k else k) = k
          rw [r2]; rfl
        refine ⟨r2, Nat.lt_succ_self k, fun q h1 h2 => by dsimp only at h1; omega, fun n h1 h2 => ?_, ?_, fun z => by cases z⟩
        · have en : n = 1 := by dsimp only at h2; omega
          rw [en]
          dsimp only
          rw [o1, k1, hb.2]; decide
        · dsimp only
          rw [show k + 1 - k = 1 by omega, o1]; rfl
    · by_cases hf : pe t k (pS t s k) ≠ 0 ∧ s k = 1
      · obtain ⟨hst, hto⟩ := pe_st hf.1
        have hst0 : (pS t s k).1 ≠ 0 := by rw [hst]; exact hf.1
        obtain ⟨hN1, hN2, hN3⟩ := pS_in t s k hst0
        obtain ⟨sG1, sO1⟩ := h.S hst0
        have e1 : pN t s (k + 1) = pN t s k := if_neg hb
        have e2 : pF t s (k + 1) = pF t s k := if_neg hb
        have e3 : pG t s (k + 1) = upN (pG t s k) (pN t s k - 1) false := (if_neg hb).trans (if_pos hf)
        have e4 : pE t s (k + 1) = upN (pE t s k) (pN t s k - 1) (if pe t k (pS t s k) = 2 then (pS t s k).2.2 else t k) := if_pos hf
        have e5 : pLm t s (k + 1) = upN (pLm t s k) (pN t s k - 1) k := if_pos hf
        have e6 : pR t s (k + 1) = upN (upN (pR t s k) (pS t s k).2.1 1) k 3 := (if_neg hb).trans (if_pos hf)
        have e7 : (pS t s (k + 1)).1 = 0 := by rw [hS1]; unfold pnx; rw [if_neg hf.1, if_pos hf.2]
        obtain ⟨c, hc⟩ : ∃ c, c = (pS t s k).2.1 := ⟨_, rfl⟩
        rw [← hc] at e6 hN2 hN3 sO1
        obtain ⟨X, hX⟩ : ∃ X, X = pN t s k - 1 := ⟨_, rfl⟩
        rw [← hX] at e3 e4 e5 hN2 sG1
        have er : ∀ q, q < k → q ≠ c → pR t s (k + 1) q = pR t s k q := fun q hq hqc => by rw [e6, upN_n (by omega), upN_n hqc]
        have erc : pR t s (k + 1) c = 1 := by rw [e6, upN_n (by omega), upN_s]
        have erk : pR t s (k + 1) k = 3 := by rw [e6, upN_s]
        have ez : ∀ q, q < k → (pR t s (k + 1) q = 0 ↔ pR t s k q = 0) := fun q hq => by
          by_cases z : q = c
          · rw [z, erc, sO1.rc]; omega
          · rw [er q hq z]
        have hFlt : ∀ x, x < pN t s k → x ≠ X → pF t s k x < c := fun x hx hxX => by rw [← hN2]; exact pI_mono h.B X x (by omega) (by omega)
        refine ⟨?_, ?_, ?_, ?_, ?_, fun z => absurd e7 z⟩
        · rw [e1, e2]; exact fun x hx => Nat.lt_succ_of_lt (h.A x hx)
        · rw [e1, e2]; exact h.B
        · rw [e1, e2]
          intro x hx hg
          by_cases z : x = X
          · rw [e3, z, upN_s] at hg; cases hg
          · rw [e3, upN_n z] at hg
            have := hFlt x hx z
            rw [er _ (h.A x hx) (by omega)]
            exact h.C x hx hg
        · rw [e1, e2]
          intro x hx hg
          by_cases z : x = X
          · rw [z, hN2, e4, e5, upN_s, upN_s]
            have hck := sO1.ck
            have cO : ∀ n, n ≤ k - c → sO (pR t s (k + 1)) c n = sO (pR t s k) c n := fun n hn => sO_cong (fun q z1 z2 => ez q (by omega))
            have cK : ∀ n, n ≤ k - c → sK (pR t s (k + 1)) c n = sK (pR t s k) c n := fun n hn => sK_cong (fun q z1 z2 => ez q (by omega))
            refine ⟨⟨erc, hN3, erk, fun q h1 h2 => ?_, ?_, fun n h1 h2 => ?_⟩, by omega, ?_, fun y => by omega⟩
            · rw [er q (by omega) (by omega)]; exact sO1.mid q h1 h2
            · rw [hc]; omega
            · rw [cO n h2, cK n h2]; exact sO1.ps n h1 h2
            · unfold eT
              rw [cO _ (Nat.le_refl _), cK _ (Nat.le_refl _), sO1.on, ← hst]
              have hle := pS_le t s k
              by_cases y : (pS t s k).1 = 2
              · rw [if_pos y, y, if_neg (by decide)]; exact sO1.pz y
              · have y1 : (pS t s k).1 = 1 := by omega
                rw [if_neg y, y1, if_pos (by decide)]
          · rw [e3, upN_n z] at hg
            obtain ⟨g1, g2, g3, g4⟩ := h.D x hx hg
            have hcl := g1.cl
            have hlast : pLm t s k x < c := by rw [← hN2]; exact pI_last h (by omega) (by omega) hg
            rw [e4, e5, upN_n z, upN_n z]
            refine ⟨g1.cong (fun q _ h2 => er q (by omega) (by omega)), by omega, ?_, g4⟩
            rw [g3]
            unfold eT
            rw [sO_cong (r := pR t s (k + 1)) (r' := pR t s k) (fun q z1 z2 => ez q (by omega)), sK_cong (r := pR t s (k + 1)) (r' := pR t s k) (fun q z1 z2 => ez q (by omega))]
        · rw [e1, e2]
          intro q hq hh
          by_cases z : q = k
          · rw [z, erk] at hh; omega
          · by_cases y : q = c
            · exact ⟨X, by omega, by rw [hN2, y]⟩
            · rw [er q (by omega) y] at hh
              exact h.R q (by omega) hh
      · by_cases hm : (pe t k (pS t s k) = 1 ∧ s k = 2) ∨ (pe t k (pS t s k) = 2 ∧ s k = 3)
        · have e6 : pR t s (k + 1) = upN (pR t s k) k 4 := ((if_neg hb).trans (if_neg hf)).trans (if_pos hm)
          have hpe : pe t k (pS t s k) ≠ 0 := by rcases hm with z | z <;> omega
          obtain ⟨hst, hto⟩ := pe_st hpe
          have hst0 : (pS t s k).1 ≠ 0 := by rw [hst]; exact hpe
          obtain ⟨sG1, sO1⟩ := h.S hst0
          refine pI_more h hb hf 4 e6 (Or.inr rfl) (fun _ => ⟨sG1, ?_⟩)
          have ec : (pS t s (k + 1)).2.1 = (pS t s k).2.1 := by
            rw [hS1]; unfold pnx; rw [if_neg hpe]
            repeat' split
            all_goals rfl
          rw [ec]
          refine sO1.more (fun q hq => by rw [e6, upN_n (by omega)]) (Or.inr (by rw [e6, upN_s])) (fun z => by rw [e6, upN_s] at z; omega) (fun _ => ?_)
          rcases hm with ⟨z1, z2⟩ | ⟨z1, z2⟩
          · refine Or.inl ⟨by rw [hst]; exact z1, z2, ?_, ?_⟩
            · rw [hS1]; unfold pnx; rw [if_neg hpe, if_neg (by omega), if_pos z1, if_pos z2]
            · rw [hS1]; unfold pnx; rw [if_neg hpe, if_neg (by omega), if_pos z1, if_pos z2]
          · refine Or.inr ⟨by rw [hst]; exact z1, z2, ?_⟩
            rw [hS1]; unfold pnx; rw [if_neg hpe, if_neg (by omega), if_neg (by omega), if_pos z2]
        · have e6 : pR t s (k + 1) = upN (pR t s k) k 0 := ((if_neg hb).trans (if_neg hf)).trans (if_neg hm)
          refine pI_more h hb hf 0 e6 (Or.inl rfl) (fun h1 => ?_)
          have hpe : pe t k (pS t s k) ≠ 0 := fun z => by
            rw [hS1] at h1
            unfold pnx at h1
            rw [if_pos z, if_neg (fun y => hb ⟨z, y⟩)] at h1
            exact h1 rfl
          obtain ⟨hst, hto⟩ := pe_st hpe
          have hst0 : (pS t s k).1 ≠ 0 := by rw [hst]; exact hpe
          obtain ⟨sG1, sO1⟩ := h.S hst0
          refine ⟨sG1, ?_⟩
          have e8 : pS t s (k + 1) = ((pS t s k).1, (pS t s k).2.1, (pS t s k).2.2) := by
            have hle := pS_le t s k
            rw [hS1, hst]; unfold pnx
            rw [if_neg hpe, if_neg (fun z => hf ⟨hpe, z⟩)]
            by_cases z : pe t k (pS t s k) = 1
            · rw [if_pos z, if_neg (fun y => hm (Or.inl ⟨z, y⟩)), z]
            · rw [if_neg z, if_neg (fun y => hm (Or.inr ⟨by omega, y⟩))]
              rw [show pe t k (pS t s k) = 2 by omega]
          rw [e8]
          exact sO1.more (fun q hq => by rw [e6, upN_n (by omega)]) (Or.inl (by rw [e6, upN_s])) (fun _ => ⟨rfl, rfl⟩) (fun z => by rw [e6, upN_s] at z; omega)
/-- a role of 1 is the COME of a shift that ends -/
theorem pI_one {t s : Nat → Nat} {n i : Nat} (hi : i < n) (hr : pR t s n i = 1) : ∃ x, x < pN t s n ∧ pF t s n x = i ∧ pG t s n x = false := by
  have h := pI_all t s n
  obtain ⟨x, hx, hx2⟩ := h.R i hi (Or.inl hr)
  refine ⟨x, hx, hx2, ?_⟩
  cases hg : pG t s n x with
  | false => rfl
  | true =>
    have := h.C x hx hg
    rw [hx2, hr] at this
    cases this
/-- where the shift that begins with c ends -/
def lE (r : Nat → Nat) (n c : Nat) : Nat := fa_first (fun k => decide (c < k) && decide (r k = 3)) n
theorem lE_is {t s r : Nat → Nat} {n c l : Nat} (h : shD t s r c l) (hl : l < n) : lE r n c = l := by
  refine fa_first_is (fun q hq => ?_) (by omega) (Or.inr ?_)
  · rcases Nat.lt_or_ge c q with z | z
    · have := h.mid q z hq
      rw [decide_eq_false (show ¬ r q = 3 by omega), Bool.and_false]
    · rw [decide_eq_false (show ¬ c < q by omega), Bool.false_and]
  · rw [decide_eq_true h.cl, decide_eq_true h.rl]; rfl
/-- the shape of an ended shift, by the role of its COME -/
theorem pI_sh {t s : Nat → Nat} {n i : Nat} (hi : i < n) (hr : pR t s n i = 1) : shD t s (pR t s n) i (lE (pR t s n) n i) ∧ lE (pR t s n) n i < n := by
  obtain ⟨x, hx, hx2, hg⟩ := pI_one hi hr
  obtain ⟨g1, g2, _⟩ := (pI_all t s n).D x hx hg
  rw [hx2] at g1
  rw [lE_is g1 g2]
  exact ⟨g1, g2⟩
