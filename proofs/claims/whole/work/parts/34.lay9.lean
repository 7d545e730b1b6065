/-! The reference lays a shift. -/
theorem va_id {α : Type} {f : Nat → α} {k : Nat} : va_up f k (f k) = f := by
  funext q
  by_cases z : q = k
  · rw [z, va_s]
  · rw [va_n z]
/-- the marks of worker w -/
abbrev MK (a : Nat → Nat → Int32) (w n : Nat) (t s : Nat → Nat) : Prop := (w < 30) ∧ (n ≤ 400) ∧ (a 21 w = nI n) ∧ (∀ k, k < n → a 22 (400 * w + k) = nI (t k)) ∧ (∀ k, k < n → a 23 (400 * w + k) = nI (s k)) ∧ (∀ k, k < n → s k ≤ 3) ∧ (∀ k, k < n → t k < 1578240) ∧ (∀ q k, q < k → k < n → t q < t k)
theorem MK.w30 {a : Nat → Nat → Int32} {w n : Nat} {t s : Nat → Nat} (h : MK a w n t s) : w < 30 := h.1
theorem MK.n4 {a : Nat → Nat → Int32} {w n : Nat} {t s : Nat → Nat} (h : MK a w n t s) : n ≤ 400 := h.2.1
theorem MK.h21 {a : Nat → Nat → Int32} {w n : Nat} {t s : Nat → Nat} (h : MK a w n t s) : a 21 w = nI n := h.2.2.1
theorem MK.ht {a : Nat → Nat → Int32} {w n : Nat} {t s : Nat → Nat} (h : MK a w n t s) : ∀ k, k < n → a 22 (400 * w + k) = nI (t k) := h.2.2.2.1
theorem MK.hs {a : Nat → Nat → Int32} {w n : Nat} {t s : Nat → Nat} (h : MK a w n t s) : ∀ k, k < n → a 23 (400 * w + k) = nI (s k) := h.2.2.2.2.1
theorem MK.s3 {a : Nat → Nat → Int32} {w n : Nat} {t s : Nat → Nat} (h : MK a w n t s) : ∀ k, k < n → s k ≤ 3 := h.2.2.2.2.2.1
theorem MK.t2 {a : Nat → Nat → Int32} {w n : Nat} {t s : Nat → Nat} (h : MK a w n t s) : ∀ k, k < n → t k < 1578240 := h.2.2.2.2.2.2.1
theorem MK.inc {a : Nat → Nat → Int32} {w n : Nat} {t s : Nat → Nat} (h : MK a w n t s) : ∀ q k, q < k → k < n → t q < t k := h.2.2.2.2.2.2.2
theorem MK.cong {a a' : Nat → Nat → Int32} {w n : Nat} {t s : Nat → Nat} (h : MK a w n t s) (e : ∀ p, p < 24 → a' p = a p) : MK a' w n t s := by
  refine ⟨h.w30, h.n4, ?_, ?_, ?_, h.s3, h.t2, h.inc⟩
  · rw [e 21 (by omega)]; exact h.h21
  · rw [e 22 (by omega)]; exact h.ht
  · rw [e 23 (by omega)]; exact h.hs
section L9
variable {E : am_E} {d : Nat} {i : Nat → Int32} {j : Nat → Int64} {a : Nat → Nat → Int32} {b : Nat → Nat → Int64}
theorem x9_lay {w n x day A c l : Nat} {t s r : Nat → Nat} {g : Nat → Int32} (hm : MK a w n t s) (hx : x < 400) (hr : ∀ q, q < n → a 24 q = nI (r q)) (h25 : a 25 x = nI (t c)) (h26 : a 26 x = nI (eT t r c l)) (h27 : a 27 x = nI c) (h28 : a 28 x = nI l) (hl : l < n) (hD : shD t s r c l) (hd : t c / 1440 = day) (hA1 : 1 ≤ A) (hA : A ≤ 30) (hg : ∀ m, m < 2880 → a 30 m = g m) (hz : ∀ m, t c - 1440 * day ≤ m → g m = 0) (h38 : i 38 = nI (cntC g (nI 1) 2880)) :
    ∃ f, (∀ m, m < 2880 → f m = rnd (sG r (fun k => t k - 1440 * day) c g (l - c + 1)) (t c - 1440 * day) ((t c - 1440 * day + A - 1) / A * A) ((eT t r c l - 1440 * day) / A * A) m) ∧ am_D E (d + 2) tX9_lay [.ref 0, .int (nI w), .int (nI x), .int (nI day), .int (nI A)] (am_L (mo i j a b)) 0 0 none (am_L (mo (va_up i 38 (nI (cntC (sG r (fun k => t k - 1440 * day) c g (l - c + 1)) (nI 1) 2880))) j (va_up a 30 f) b)) := by
  obtain ⟨hw, hn, h21, ht, hs, hs3, ht2, hinc⟩ := hm
  have hcl := hD.cl
  have htc := ht2 c (by omega)
  have htl := hD.tl
  obtain ⟨base, hbase⟩ : ∃ base, base = 1440 * day := ⟨_, rfl⟩
  have hb1 : base ≤ t c := by omega
  have hb2 : t c < base + 1440 := by omega
  have htk : ∀ k, c ≤ k → k ≤ l → t c ≤ t k ∧ t k ≤ t c + 960 := fun k h1 h2 => by
    have z1 := inc_le hinc h1 (show k < n by omega)
    have z2 := inc_le hinc h2 (show l < n by omega)
    omega
  obtain ⟨τ, hτ⟩ : ∃ τ, τ = fun k => t k - base := ⟨_, rfl⟩
  have hτm : ∀ p q, c ≤ p → p ≤ q → q ≤ l → τ p ≤ τ q := fun p q h1 h2 h3 => by
    have := inc_le hinc h2 (show q < n by omega)
    rw [hτ]
    show t p - base ≤ t q - base
    omega
  have hτb : ∀ k, c ≤ k → k ≤ l → τ k < 2400 := fun k h1 h2 => by
    have := htk k h1 h2
    rw [hτ]
    show t k - base < 2400
    omega
  have heT : base ≤ eT t r c l ∧ eT t r c l < base + 2400 := by
    have hk := sK_in r c (l - c)
    have hk2 := hk.2 (by omega)
    unfold eT
    split
    · have := htk l (by omega) (by omega); omega
    · have := htk (sK r c (l - c)) (by omega) (by omega); omega
  have hτc : t c - base = τ c := by rw [hτ]
  rw [← hbase, hτc]
  rw [← hbase, hτc] at hz
  obtain ⟨lo, hlo⟩ : ∃ lo, lo = (τ c + A - 1) / A * A := ⟨_, rfl⟩
  obtain ⟨hi, hhi⟩ : ∃ hi, hi = (eT t r c l - base) / A * A := ⟨_, rfl⟩
  have hloB : lo ≤ 1500 := by
    have := hτb c (by omega) (by omega)
    have h1 : lo ≤ τ c + A - 1 := by rw [hlo]; exact Nat.div_mul_le_self _ _
    have h2 : τ c < 1440 := by rw [← hτc]; omega
    omega
  have hhiB : hi < 2400 := by
    have h1 : hi ≤ eT t r c l - base := by rw [hhi]; exact Nat.div_mul_le_self _ _
    omega
  rw [← hlo, ← hhi, ← hτ]
  obtain ⟨G, hG⟩ : ∃ G : Nat → Nat → Int32, G = sG r τ c g := ⟨_, rfl⟩
  rw [← hG]
  have hvx : vp_in (nI x) 400 := vp_in_nI hx (by omega)
  have hcx : (nI x).toNatClampNeg = x := nI_clamp (by omega)
  have hA0 : ¬ nI A = 0 := nI_ne0 (by omega) (by omega)
  obtain ⟨P, hP⟩ : ∃ P : Option Value → am_M → Prop, P = fun v M => v = none ∧ ∃ f, (∀ m, m < 2880 → f m = rnd (G (l - c + 1)) (τ c) lo hi m) ∧ M = am_L (mo (va_up i 38 (nI (cntC (G (l - c + 1)) (nI 1) 2880))) j (va_up a 30 f) b) := ⟨_, rfl⟩
  have main : am_ev E (d + 1) tX9_lay (0, am_in [.ref 0, .int (nI w), .int (nI x), .int (nI day), .int (nI A)] tX9_lay.2.2.2.1, [], am_L (mo i j a b), 0, 0) P := by
    have e5 : (Int16.ofInt 1440).toInt32 * nI day = nI base := by rw [hbase]; exact pk_mul 1440 day
    have e8 : a 25 x - nI base = nI (τ c) := by rw [h25, pk_sub hb1, hτc]
    have e9 : (nI (τ c) + nI A - Int32.ofInt 1) / nI A * nI A = nI lo := by
      have h1 := hτb c (by omega) (by omega)
      rw [hlo, nI_add, show (Int32.ofInt 1) = nI 1 from rfl, pk_sub (by omega), pk_div (by omega) (by omega) (by omega), pk_mul]
    have e10 : (a 26 x - nI base) / nI A * nI A = nI hi := by
      rw [hhi, h26, pk_sub heT.1, pk_div (by omega) (by omega) (by omega), pk_mul]
    refine ev_go 10 rfl trivial ?_
    show am_ev _ _ _ (10, [_, _, _, _, _, _, _, _, _, _, _, _, _, _], _, _, _, _) _
    refine ev_go 24 rfl ⟨hvx, trivial⟩ ?_
    show am_ev _ _ _ (24, [_, _, _, _, _, _, _, _, _, _, _, _, _, _], _, _, _, _) _
    rw [e5, hcx, e8]
    refine ev_go 39 rfl ⟨hA0, trivial⟩ ?_
    show am_ev _ _ _ (39, [_, _, _, _, _, _, _, _, _, _, _, _, _, _], _, _, _, _) _
    rw [e9]
    refine ev_go 56 rfl ⟨hvx, hA0, trivial⟩ ?_
    show am_ev _ _ _ (56, [_, _, _, _, _, _, _, _, _, _, _, _, _, _], _, _, _, _) _
    rw [hcx, e10]
    refine ev_go 64 rfl ⟨hvx, trivial⟩ ?_
    show am_ev _ _ _ (64, [_, _, _, _, _, _, _, _, _, _, _, _, _, _], _, _, _, _) _
    rw [hcx, h27]
    have loop : ∀ m k, l + 1 - k = m → c < k → k ≤ l + 1 → ∀ (f : Nat → Int32) (o12 o13 : Option Value), (∀ m, m < 2880 → f m = rnd (G (k - c)) (τ c) lo hi m) → am_ev E (d + 1) tX9_lay (64, [some (.ref 0), some (.int (nI w)), some (.int (nI x)), some (.int (nI day)), some (.int (nI A)), some (.int (nI base)), some (.int (nI (τ (sK r c (k - c))))), some (.int (bI (sO r c (k - c)))), some (.int (nI (τ c))), some (.int (nI lo)), some (.int (nI hi)), some (.int (nI k)), o12, o13], [], am_L (mo (va_up i 38 (nI (cntC (G (k - c)) (nI 1) 2880))) j (va_up a 30 f) b), 0, 0) P := by
      intro m
      induction m with
      | zero =>
        intro k g1 g2 g3 f o12 o13 hf
        have e : k = l + 1 := by omega
        subst e
        refine ev_go 999 rfl ⟨hvx, trivial⟩ ?_
        refine ev_pos (by show a 28 (nI x).toNatClampNeg < nI (l + 1); rw [hcx, h28]; exact nI_lt (by omega) (by omega)) ?_
        refine ev_ret rfl trivial ?_
        rw [hP]
        refine ⟨rfl, f, ?_, ?_⟩
        · rw [show l - c + 1 = l + 1 - c by omega]; exact hf
        · rw [show l - c + 1 = l + 1 - c by omega]
      | succ m ih =>
        intro k g1 g2 g3 f o12 o13 hf
        have hvk : vp_in (nI k) 400 := vp_in_nI (by omega) (by omega)
        have hck : (nI k).toNatClampNeg = k := nI_clamp (by omega)
        have ekc : c + (k - c) = k := by omega
        have ek1 : k + 1 - c = (k - c) + 1 := by omega
        have hrk : a 24 (nI k).toNatClampNeg = nI (r k) := by rw [hck]; exact hr k (by omega)
        have hrb : r k = 0 ∨ r k = 4 ∨ (r k = 3 ∧ k = l) := by
          rcases Nat.lt_or_ge k l with z | z
          · have := hD.mid k g2 z; omega
          · have e : k = l := by omega
            exact Or.inr (Or.inr ⟨by rw [e]; exact hD.rl, e⟩)
        have hsK := sK_in r c (k - c)
        have hsK2 := hsK.2 (by omega)
        have htk' := htk k (by omega) (by omega)
        have hτk := hτb k (by omega) (by omega)
        have hτs := hτb (sK r c (k - c)) (by omega) (by omega)
        have hτsk := hτm (sK r c (k - c)) k (by omega) (by omega) (by omega)
        have hτcs := hτm c (sK r c (k - c)) (by omega) (by omega) (by omega)
        have sO1 : sO r c (k + 1 - c) = if r k = 0 then sO r c (k - c) else !sO r c (k - c) := by
          rw [ek1]
          show (if r (c + (k - c)) = 0 then _ else _) = _
          rw [ekc]
        have sK1 : sK r c (k + 1 - c) = if r k = 0 then sK r c (k - c) else k := by
          rw [ek1]
          show (if r (c + (k - c)) = 0 then _ else _) = _
          rw [ekc]
        have G1 : G (k + 1 - c) = if r k = 0 then G (k - c) else if sO r c (k - c) = true then seg (G (k - c)) (τ (sK r c (k - c))) (τ k) (nI 7) else if 0 < k - c ∧ r k ≠ 3 then seg (G (k - c)) (τ (sK r c (k - c))) (τ k) (nI 1) else G (k - c) := by
          rw [hG, ek1]
          show (if r (c + (k - c)) = 0 then _ else if _ then seg _ _ (τ (c + (k - c))) _ else if _ ∧ r (c + (k - c)) ≠ 3 then seg _ _ (τ (c + (k - c))) _ else _) = _
          rw [ekc]
        have G0 : ∀ m, τ (sK r c (k - c)) ≤ m → G (k - c) m = 0 := fun m hm => by
          apply Classical.byContradiction
          intro hne
          rw [hG] at hne
          rcases sG_nz hτm (k - c) (by omega) hne with y | y
          · exact y (hz m (by omega))
          · omega
        refine ev_go 999 rfl ⟨hvx, trivial⟩ ?_
        refine ev_neg (by show ¬ a 28 (nI x).toNatClampNeg < nI k; rw [hcx, h28]; exact nI_nlt (by omega) (by omega)) ?_
        refine ev_go 999 rfl ⟨hvk, trivial⟩ ?_
        by_cases hr0 : r k = 0
        · refine ev_neg (fun z => z (by show a 24 (nI k).toNatClampNeg = 0; rw [hrk, hr0]; rfl)) ?_
          refine ev_go 999 rfl trivial ?_
          refine ev_go 64 rfl trivial ?_
          have kk := ih (k + 1) (by omega) (by omega) (by omega) f o12 o13 (by rw [G1, if_pos hr0]; exact hf)
          rw [sO1, sK1, G1, if_pos hr0, if_pos hr0, if_pos hr0, ← nI_1 k] at kk
          exact kk
        · refine ev_pos (by show ¬ a 24 (nI k).toNatClampNeg = nI 0; rw [hrk, nI_eq (by omega) (by omega)]; exact hr0) ?_
          have ex : nI 400 * nI w + nI k = nI (400 * w + k) := by rw [pk_mul, nI_add]
          have e12 : a 22 (nI 400 * nI w + nI k).toNatClampNeg - nI base = nI (τ k) := by rw [ex, nI_clamp (by omega), ht k (by omega), pk_sub (by omega), hτ]
          refine ev_go 999 rfl ⟨by show vp_in (nI 400 * nI w + nI k) 12000; rw [ex]; exact vp_in_nI (by omega) (by omega), trivial⟩ ?_
          have e12' : va_up a 30 f 22 ((Int16.ofInt 400).toInt32 * nI w + nI k).toNatClampNeg - nI base = nI (τ k) := e12
          rw [e12']
          have cont : ∀ (f2 : Nat → Int32) (I : Nat) (o : Option Value), (∀ m, m < 2880 → f2 m = rnd (G (k + 1 - c)) (τ c) lo hi m) → I = cntC (G (k + 1 - c)) (nI 1) 2880 → am_ev E (d + 1) tX9_lay (203, [some (.ref 0), some (.int (nI w)), some (.int (nI x)), some (.int (nI day)), some (.int (nI A)), some (.int (nI base)), some (.int (nI (τ (sK r c (k - c))))), some (.int (bI (sO r c (k - c)))), some (.int (nI (τ c))), some (.int (nI lo)), some (.int (nI hi)), some (.int (nI k)), some (.int (nI (τ k))), o], [], am_L (mo (va_up i 38 (nI I)) j (va_up a 30 f2) b), 0, 0) P := by
            intro f2 I o h1 h2
            subst h2
            have kk := ih (k + 1) (by omega) (by omega) (by omega) f2 (some (.int (nI (τ k)))) o h1
            rw [sO1, sK1, if_neg hr0, if_neg hr0, ← nI_1 k] at kk
            cases hon : sO r c (k - c) with
            | true =>
              rw [hon] at kk
              refine ev_go 999 rfl trivial ?_
              refine ev_pos (by decide) ?_
              refine ev_go 64 rfl trivial ?_
              exact kk
            | false =>
              rw [hon] at kk
              refine ev_go 999 rfl trivial ?_
              refine ev_neg (by decide) ?_
              refine ev_go 999 rfl trivial ?_
              refine ev_go 64 rfl trivial ?_
              exact kk
          cases hon : sO r c (k - c) with
          | true =>
            rw [hon] at cont G1
            refine ev_neg (by decide) ?_
            have G2 : G (k + 1 - c) = seg (G (k - c)) (τ (sK r c (k - c))) (τ k) (nI 7) := by rw [G1, if_neg hr0, if_pos rfl]
            refine ev_go 115 rfl trivial ?_
            have inner : ∀ p q, τ k - q = p → τ (sK r c (k - c)) ≤ q → q ≤ τ k → ∀ f2 : Nat → Int32, (∀ m, m < 2880 → f2 m = if τ (sK r c (k - c)) ≤ m ∧ m < q then (if m < lo ∨ hi ≤ m then nI 2 else nI 7) else f m) → am_ev E (d + 1) tX9_lay (115, [some (.ref 0), some (.int (nI w)), some (.int (nI x)), some (.int (nI day)), some (.int (nI A)), some (.int (nI base)), some (.int (nI (τ (sK r c (k - c))))), some (.int (bI true)), some (.int (nI (τ c))), some (.int (nI lo)), some (.int (nI hi)), some (.int (nI k)), some (.int (nI (τ k))), some (.int (nI q))], [], am_L (mo (va_up i 38 (nI (cntC (G (k - c)) (nI 1) 2880))) j (va_up a 30 f2) b), 0, 0) P := by
              intro p
              induction p with
              | zero =>
                intro q z1 z2 z3 f2 hf2
                have e : q = τ k := by omega
                subst e
                refine ev_go 999 rfl trivial ?_
                refine ev_pos (nI_le (Nat.le_refl _) (by omega)) ?_
                refine ev_go 203 rfl trivial ?_
                refine cont f2 _ _ (fun m hm => ?_) ?_
                · rw [hf2 m hm, G2]
                  unfold rnd
                  by_cases y : τ (sK r c (k - c)) ≤ m ∧ m < τ k
                  · rw [if_pos y, seg_in y]
                    by_cases y2 : m < lo ∨ hi ≤ m
                    · rw [if_pos y2, if_pos ⟨rfl, by omega, y2⟩]
                    · rw [if_neg y2, if_neg (fun v => y2 v.2.2)]
                  · rw [if_neg y, seg_out y, hf m hm]; rfl
                · rw [G2]
                  refine cntC_cong2 (fun m hm => ?_)
                  by_cases y : τ (sK r c (k - c)) ≤ m ∧ m < τ k
                  · rw [seg_in y, G0 m y.1]; decide
                  · rw [seg_out y]
              | succ p ihp =>
                intro q z1 z2 z3 f2 hf2
                have hvq : vp_in (nI q) 2880 := vp_in_nI (by omega) (by omega)
                have hcq : (nI q).toNatClampNeg = q := nI_clamp (by omega)
                have st : ∀ v, v = (if q < lo ∨ hi ≤ q then nI 2 else nI 7) → ∀ m, m < 2880 → upd f2 (nI q).toNatClampNeg v m = if τ (sK r c (k - c)) ≤ m ∧ m < q + 1 then (if m < lo ∨ hi ≤ m then nI 2 else nI 7) else f m := fun v hv m hm => by
                  rw [hcq]
                  by_cases y : m = q
                  · subst y
                    rw [pk_us, if_pos ⟨z2, by omega⟩, hv]
                  · rw [pk_un y, hf2 m hm]
                    by_cases y2 : τ (sK r c (k - c)) ≤ m ∧ m < q
                    · have y3 : τ (sK r c (k - c)) ≤ m ∧ m < q + 1 := ⟨y2.1, by omega⟩
                      rw [if_pos y2, if_pos y3]
                    · have y3 : ¬ (τ (sK r c (k - c)) ≤ m ∧ m < q + 1) := fun v => y2 ⟨v.1, by omega⟩
                      rw [if_neg y2, if_neg y3]
                have s142 : (q < lo ∨ hi ≤ q) → am_ev E (d + 1) tX9_lay (142, [some (.ref 0), some (.int (nI w)), some (.int (nI x)), some (.int (nI day)), some (.int (nI A)), some (.int (nI base)), some (.int (nI (τ (sK r c (k - c))))), some (.int (bI true)), some (.int (nI (τ c))), some (.int (nI lo)), some (.int (nI hi)), some (.int (nI k)), some (.int (nI (τ k))), some (.int (nI q))], [.int (nI q), .ref 30], am_L (mo (va_up i 38 (nI (cntC (G (k - c)) (nI 1) 2880))) j (va_up a 30 f2) b), 0, 0) P := fun y => by
                  have kk := ihp (q + 1) (by omega) (by omega) (by omega) _ (st (nI 2) (by rw [if_pos y]))
                  rw [← nI_1 q] at kk
                  refine ev_go 999 rfl trivial ?_
                  refine ev_go 999 rfl ⟨hvq, trivial⟩ ?_
                  rw [mo_a30, bx_uu]
                  exact kk
                refine ev_go 999 rfl trivial ?_
                refine ev_neg (nI_ge (by omega) (by omega)) ?_
                refine ev_go 999 rfl trivial ?_
                by_cases y1 : q < lo
                · refine ev_pos (nI_lt y1 (by omega)) ?_
                  exact s142 (Or.inl y1)
                · refine ev_neg (nI_nlt (by omega) (by omega)) ?_
                  refine ev_go 999 rfl trivial ?_
                  by_cases y2 : q < hi
                  · refine ev_pos (nI_lt y2 (by omega)) ?_
                    have kk := ihp (q + 1) (by omega) (by omega) (by omega) _ (st (nI 7) (by rw [if_neg (by omega)]))
                    rw [← nI_1 q] at kk
                    refine ev_go 999 rfl ⟨hvq, trivial⟩ ?_
                    rw [mo_a30, bx_uu]
                    exact kk
                  · refine ev_neg (nI_nlt (by omega) (by omega)) ?_
                    exact s142 (Or.inr (by omega))
            exact inner _ _ rfl (Nat.le_refl _) hτsk f (fun m hm => by rw [if_neg (by omega)])
          | false =>
            rw [hon] at cont G1
            refine ev_pos (by decide) ?_
            refine ev_go 999 rfl ⟨hvx, trivial⟩ ?_
            refine ev_neg (by show ¬ nI k ≤ a 27 (nI x).toNatClampNeg; rw [hcx, h27]; exact nI_ge (by omega) (by omega)) ?_
            refine ev_go 999 rfl ⟨hvk, trivial⟩ ?_
            by_cases h3 : r k = 3
            · refine ev_pos (by show a 24 (nI k).toNatClampNeg = nI 3; rw [hrk, h3]) ?_
              have G2 : G (k + 1 - c) = G (k - c) := by rw [G1, if_neg hr0, if_neg (by decide), if_neg (fun z => z.2 h3)]
              exact cont f _ o13 (by rw [G2]; exact hf) (by rw [G2])
            · refine ev_neg (by show ¬ a 24 (nI k).toNatClampNeg = nI 3; rw [hrk, nI_eq (by omega) (by omega)]; exact h3) ?_
              have G2 : G (k + 1 - c) = seg (G (k - c)) (τ (sK r c (k - c))) (τ k) (nI 1) := by rw [G1, if_neg hr0, if_neg (by decide), if_pos ⟨by omega, h3⟩]
              refine ev_go 999 rfl trivial ?_
              refine ev_call0 rfl (Nat.le_of_ble_eq_true rfl) (fun _ => ⟨_, _, _, rfl, rfl⟩) (x9_fill (lo := τ (sK r c (k - c))) (hi := τ k) (c := nI 1) (by omega) (by omega)) ?_
              refine ev_go 203 rfl trivial ?_
              rw [mo_i38, bx_uu, bx_uu]
              have e38 : va_up i 38 (nI (cntC (G (k - c)) (nI 1) 2880)) 38 + (nI (τ k) - nI (τ (sK r c (k - c)))) = nI (cntC (G (k - c)) (nI 1) 2880 + (τ k - τ (sK r c (k - c)))) := by rw [va_s, pk_sub hτsk, nI_add]
              rw [e38]
              refine cont _ _ o13 (fun m hm => ?_) ?_
              · rw [G2]
                unfold rnd
                by_cases y : τ (sK r c (k - c)) ≤ m ∧ m < τ k
                · rw [if_pos y, seg_in y, if_neg (fun v => by have := v.1; revert this; decide)]
                · rw [if_neg y, seg_out y]
                  show f m = _
                  rw [hf m hm]; rfl
              · rw [G2, cntC_seg (fun m h1 _ => by rw [G0 m h1]; decide)]
                omega
    have hr1 : a 24 (nI c).toNatClampNeg = nI 1 := by rw [nI_clamp (by omega), hr c (by omega), hD.rc]
    have hvc : vp_in (nI c) 400 := vp_in_nI (by omega) (by omega)
    refine ev_go 999 rfl ⟨hvx, trivial⟩ ?_
    refine ev_neg (by show ¬ a 28 (nI x).toNatClampNeg < nI c; rw [hcx, h28]; exact nI_nlt (by omega) (by omega)) ?_
    refine ev_go 999 rfl ⟨hvc, trivial⟩ ?_
    refine ev_pos (by show ¬ a 24 (nI c).toNatClampNeg = nI 0; rw [hr1]; decide) ?_
    have ex : nI 400 * nI w + nI c = nI (400 * w + c) := by rw [pk_mul, nI_add]
    have e12 : a 22 ((Int16.ofInt 400).toInt32 * nI w + nI c).toNatClampNeg - nI base = nI (τ c) := by
      show a 22 (nI 400 * nI w + nI c).toNatClampNeg - nI base = nI (τ c)
      rw [ex, nI_clamp (by omega), ht c (by omega), pk_sub (by omega), hτ]
    refine ev_go 999 rfl ⟨by show vp_in (nI 400 * nI w + nI c) 12000; rw [ex]; exact vp_in_nI (by omega) (by omega), trivial⟩ ?_
    refine ev_pos (by decide) ?_
    rw [e12]
    refine ev_go 999 rfl ⟨hvx, trivial⟩ ?_
    refine ev_pos (by show nI c ≤ a 27 (nI x).toNatClampNeg; rw [hcx, h27]; exact nI_le (Nat.le_refl _) (by omega)) ?_
    refine ev_go 999 rfl trivial ?_
    refine ev_neg (by decide) ?_
    refine ev_go 999 rfl trivial ?_
    refine ev_go 64 rfl trivial ?_
    have hG1 : G 1 = g := by
      rw [hG]
      show (if r c = 0 then g else if false = true then _ else if 0 < 0 ∧ _ then _ else g) = g
      rw [hD.rc]; rfl
    have hO1 : sO r c 1 = true := by
      show (if r c = 0 then false else !false) = true
      rw [hD.rc]; rfl
    have hK1 : sK r c 1 = c := by
      show (if r c = 0 then c else c) = c
      rw [hD.rc]; rfl
    have kk := loop _ (c + 1) rfl (by omega) (by omega) (a 30) (some (.int (nI (τ c)))) none (fun m hm => by
      rw [show c + 1 - c = 1 by omega, hG1, hg m hm]
      unfold rnd
      rw [if_neg (fun v => ?_)]
      have := hz m v.2.1
      rw [v.1] at this
      revert this; decide)
    rw [show c + 1 - c = 1 by omega, hG1, hO1, hK1, va_id, ← h38, va_id, ← nI_1 c] at kk
    exact kk
  rw [hP] at main
  obtain ⟨v, M', ⟨rfl, f, hf, rfl⟩, hD2⟩ := am_D_ex (Nat.le_of_ble_eq_true rfl) main
  exact ⟨f, hf, hD2⟩
end L9
