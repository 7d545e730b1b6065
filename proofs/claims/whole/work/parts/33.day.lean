/-! The classes of a day's minutes. -/
def seg (g : Nat → Int32) (lo hi : Nat) (c : Int32) : Nat → Int32 := fun m => if lo ≤ m ∧ m < hi then c else g m
def rnd (g : Nat → Int32) (since lo hi : Nat) : Nat → Int32 := fun m => if g m = nI 7 ∧ since ≤ m ∧ (m < lo ∨ hi ≤ m) then nI 2 else g m
/-- what the marks of a shift lay, without rounding -/
def sG (r τ : Nat → Nat) (c : Nat) (g : Nat → Int32) : Nat → Nat → Int32
  | 0 => g
  | n + 1 => if r (c + n) = 0 then sG r τ c g n else if sO r c n = true then seg (sG r τ c g n) (τ (sK r c n)) (τ (c + n)) (nI 7) else if 0 < n ∧ r (c + n) ≠ 3 then seg (sG r τ c g n) (τ (sK r c n)) (τ (c + n)) (nI 1) else sG r τ c g n
theorem seg_in {g : Nat → Int32} {lo hi m : Nat} {c : Int32} (h : lo ≤ m ∧ m < hi) : seg g lo hi c m = c := if_pos h
theorem seg_out {g : Nat → Int32} {lo hi m : Nat} {c : Int32} (h : ¬ (lo ≤ m ∧ m < hi)) : seg g lo hi c m = g m := if_neg h
theorem cntC_cong {f g : Nat → Int32} {c : Int32} {n : Nat} (h : ∀ m, m < n → f m = g m) : cntC f c n = cntC g c n := fb_ct_cong (fun k hk => by rw [h k hk])
theorem cntC_cong2 {f g : Nat → Int32} {c : Int32} {n : Nat} (h : ∀ m, m < n → (f m = c ↔ g m = c)) : cntC f c n = cntC g c n := fb_ct_cong (fun k hk => decide_eq_decide.mpr (h k hk))
theorem cntP_cong {f g : Nat → Int32} {n : Nat} (h : ∀ m, m < n → f m = g m) : cntP f n = cntP g n := fb_ct_cong (fun k hk => by rw [h k hk])
theorem cntC_seg {g : Nat → Int32} {lo hi : Nat} {c : Int32} (h : ∀ m, lo ≤ m → m < hi → g m ≠ c) : ∀ N, cntC (seg g lo hi c) c N = cntC g c N + (min N hi - lo)
  | 0 => by show 0 = 0 + _; omega
  | N + 1 => by
    have ih := cntC_seg h N
    rw [cntC_succ, cntC_succ, ih]
    by_cases z : lo ≤ N ∧ N < hi
    · rw [seg_in z, if_pos rfl, if_neg (h N z.1 z.2)]
      omega
    · rw [seg_out z]
      omega
/-- what is laid lies ahead of the latest mark -/
theorem sG_nz {r τ : Nat → Nat} {c : Nat} {g : Nat → Int32} {L : Nat} (hτ : ∀ p q, c ≤ p → p ≤ q → q ≤ L → τ p ≤ τ q) {m : Nat} : ∀ n, n ≤ L + 1 - c → sG r τ c g n m ≠ 0 → g m ≠ 0 ∨ m < τ (sK r c n)
  | 0, _, h => Or.inl h
  | n + 1, hn, h => by
    have ih := sG_nz (g := g) (r := r) hτ (m := m) n (by omega)
    have hk := sK_in r c n
    have hmono : ∀ (_ : ¬ r (c + n) = 0), (sG r τ c g n m ≠ 0 → g m ≠ 0 ∨ m < τ (c + n)) := fun _ hz => by
      rcases ih hz with y | y
      · exact Or.inl y
      · refine Or.inr (Nat.lt_of_lt_of_le y (hτ _ _ hk.1 ?_ (by omega)))
        rcases Nat.eq_zero_or_pos n with e | e
        · subst e; exact Nat.le_refl _
        · have := hk.2 e; omega
    unfold sG at h
    unfold sK
    by_cases z : r (c + n) = 0
    · rw [if_pos z] at h ⊢
      exact ih h
    · rw [if_neg z] at h ⊢
      have sg : ∀ x, seg (sG r τ c g n) (τ (sK r c n)) (τ (c + n)) x m ≠ 0 → g m ≠ 0 ∨ m < τ (c + n) := fun x hx => by
        by_cases y : τ (sK r c n) ≤ m ∧ m < τ (c + n)
        · exact Or.inr y.2
        · rw [seg_out y] at hx; exact hmono z hx
      split at h
      · exact sg _ h
      · split at h
        · exact sg _ h
        · exact hmono z h
/-- ahead of the COME nothing is changed -/
theorem sG_low {r τ : Nat → Nat} {c : Nat} {g : Nat → Int32} {L : Nat} (hτ : ∀ p q, c ≤ p → p ≤ q → q ≤ L → τ p ≤ τ q) {m : Nat} (hm : m < τ c) : ∀ n, n ≤ L + 1 - c → sG r τ c g n m = g m
  | 0, _ => rfl
  | n + 1, hn => by
    have ih := sG_low (g := g) (r := r) hτ hm n (by omega)
    have hk := sK_in r c n
    have hle : τ c ≤ τ (sK r c n) := hτ _ _ (Nat.le_refl _) hk.1 (by
      rcases Nat.eq_zero_or_pos n with e | e
      · subst e; show c ≤ L; omega
      · have := hk.2 e; omega)
    unfold sG
    split
    · exact ih
    · split
      · rw [seg_out (by omega)]; exact ih
      · split
        · rw [seg_out (by omega)]; exact ih
        · exact ih
/-- a shift laid and rounded -/
def lS (t r : Nat → Nat) (n base A : Nat) (g : Nat → Int32) (i : Nat) : Nat → Int32 := rnd (sG r (fun k => t k - base) i g (lE r n i - i + 1)) (t i - base) ((t i - base + A - 1) / A * A) ((eT t r i (lE r n i) - base) / A * A)
/-- the shifts of a day, of the marks ahead of i -/
def dR (t r : Nat → Nat) (n day A : Nat) : Nat → Nat → Int32
  | 0 => fun _ => 0
  | i + 1 => if r i = 1 ∧ t i / 1440 = day then lS t r n (1440 * day) A (dR t r n day A i) i else dR t r n day A i
theorem rnd_nz {g : Nat → Int32} {a b c m : Nat} (h : rnd g a b c m ≠ 0) : g m ≠ 0 := by
  unfold rnd at h
  split at h
  · rename_i z; rw [z.1]; decide
  · exact h
section DR
variable {t s : Nat → Nat} {n : Nat}
theorem inc_le (hinc : ∀ q k, q < k → k < n → t q < t k) {p q : Nat} (h : p ≤ q) (hq : q < n) : t p ≤ t q := by
  rcases Nat.lt_or_ge p q with z | z
  · exact Nat.le_of_lt (hinc p q z hq)
  · have : p = q := by omega
    rw [this]; exact Nat.le_refl _
theorem dR_nz (hinc : ∀ q k, q < k → k < n → t q < t k) {day A m : Nat} : ∀ i, i ≤ n → dR t (pR t s n) n day A i m ≠ 0 → ∃ c, c < i ∧ pR t s n c = 1 ∧ t c / 1440 = day ∧ m < t (lE (pR t s n) n c) - 1440 * day
  | 0, _, h => absurd rfl h
  | i + 1, hi, h => by
    have ih := dR_nz hinc (day := day) (A := A) (m := m) i (by omega)
    unfold dR at h
    by_cases z : pR t s n i = 1 ∧ t i / 1440 = day
    · rw [if_pos z] at h
      obtain ⟨g1, g2⟩ := pI_sh (by omega) z.1
      have hcl := g1.cl
      have h2 := rnd_nz h
      rcases sG_nz (L := lE (pR t s n) n i) (fun p q _ h1 h2 => by have := inc_le hinc h1 (show q < n by omega); show t p - 1440 * day ≤ t q - 1440 * day; omega) _ (by omega) h2 with y | y
      · obtain ⟨c, hc, hc2⟩ := ih y
        exact ⟨c, by omega, hc2⟩
      · refine ⟨i, by omega, z.1, z.2, ?_⟩
        have e : sK (pR t s n) i (lE (pR t s n) n i - i + 1) = lE (pR t s n) n i := by
          unfold sK
          rw [show i + (lE (pR t s n) n i - i) = lE (pR t s n) n i by omega, if_neg (by rw [g1.rl]; decide)]
        rw [e] at y
        exact y
    · rw [if_neg z] at h
      obtain ⟨c, hc, hc2⟩ := ih h
      exact ⟨c, by omega, hc2⟩
/-- where a shift begins, nothing is laid yet from there on -/
theorem dR_free (hinc : ∀ q k, q < k → k < n → t q < t k) {day A i m : Nat} (hi : i < n) (hr : pR t s n i = 1) (hm : t i - 1440 * day ≤ m) : dR t (pR t s n) n day A i m = 0 := by
  apply Classical.byContradiction
  intro h
  obtain ⟨c, hc, hc1, hc2, hc3⟩ := dR_nz hinc i (by omega) h
  obtain ⟨g1, g2⟩ := pI_sh (by omega) hc1
  have hcl := g1.cl
  have hl : lE (pR t s n) n c < i := by
    rcases Nat.lt_or_ge (lE (pR t s n) n c) i with z | z
    · exact z
    · rcases Nat.lt_or_ge i (lE (pR t s n) n c) with y | y
      · have := g1.mid i hc y; omega
      · have e : lE (pR t s n) n c = i := by omega
        have := g1.rl
        rw [e] at this
        omega
  have := hinc _ i hl hi
  omega
theorem dR_same {r : Nat → Nat} {day A i : Nat} : ∀ k, i ≤ k → (∀ q, i ≤ q → q < k → ¬ (r q = 1 ∧ t q / 1440 = day)) → dR t r n day A k = dR t r n day A i
  | 0, h, _ => by rw [show i = 0 by omega]
  | k + 1, h, hq => by
    rcases Nat.lt_or_ge k i with z | z
    · rw [show i = k + 1 by omega]
    · have ih := dR_same (A := A) k z (fun q h1 h2 => hq q h1 (by omega))
      rw [← ih]
      exact if_neg (hq k z (by omega))
end DR
/-- steps behind the rounding -/
def frm (g : Nat → Int32) (A B : Nat) : Nat → Int32 := fun m => if 0 < B ∧ g m = nI 7 ∧ (m < A ∨ B ≤ m) then nI 3 else g m
def owe (g : Nat → Int32) (A B : Nat) : Nat := if cntC g (nI 1) 2880 < B ∧ A < cntC g (nI 7) 2880 then B - cntC g (nI 1) 2880 else 0
def bhO (g : Nat → Int32) (A : Nat) (c : Int32) : Nat → Int32 := if 0 < A then bhC g A c else g
/-- the class of a day's minutes: rules A, B of the day's kind -/
def g1 (t r : Nat → Nat) (n day : Nat) (A B : Nat → Nat) : Nat → Int32 := frm (dR t r n day (A 0) n) (A 1) (B 1)
def g2 (t r : Nat → Nat) (n day : Nat) (A B : Nat → Nat) : Nat → Int32 := bhC (g1 t r n day A B) (cntC (g1 t r n day A B) (nI 7) 2880 - owe (g1 t r n day A B) (A 2) (B 2)) (nI 4)
def g3 (t r : Nat → Nat) (n day : Nat) (A B : Nat → Nat) : Nat → Int32 := bhO (g2 t r n day A B) (A 3) (nI 5)
def dG (t r : Nat → Nat) (n day : Nat) (A B : Nat → Nat) : Nat → Int32 := bhO (g3 t r n day A B) (A 4) (nI 6)
/-- how many minutes have a class from k on -/
def cntF (f : Nat → Int32) (k m : Nat) : Nat := fb_ct (fun q => decide (nI k ≤ f q)) m
/-- values up to k, or 7 -/
def upTo (k : Nat) (f : Nat → Int32) : Prop := ∀ m, ∃ c, f m = nI c ∧ (c ≤ k ∨ c = 7)
theorem bhC_cong {f g : Nat → Int32} {r : Nat} {c : Int32} {n : Nat} (h : ∀ m, m < n → f m = g m) : ∀ m, m < n → bhC f r c m = bhC g r c m := fun m hm => by
  unfold bhC
  rw [h m hm, cntC_cong (f := f) (g := g) (fun q hq => h q (by omega))]
theorem upTo_bhC {k : Nat} {f : Nat → Int32} {r : Nat} (h : upTo k f) : upTo (k + 1) (bhC f r (nI (k + 1))) := fun m => by
  unfold bhC
  split
  · exact ⟨k + 1, rfl, Or.inl (Nat.le_refl _)⟩
  · obtain ⟨c, h1, h2⟩ := h m
    exact ⟨c, h1, by omega⟩
theorem upTo_bhO {k : Nat} {f : Nat → Int32} {r : Nat} (h : upTo k f) : upTo (k + 1) (bhO f r (nI (k + 1))) := by
  unfold bhO
  split
  · exact upTo_bhC h
  · intro m
    obtain ⟨c, h1, h2⟩ := h m
    exact ⟨c, h1, by omega⟩
theorem upTo_frm {f : Nat → Int32} {A B : Nat} (h : upTo 2 f) : upTo 3 (frm f A B) := fun m => by
  unfold frm
  split
  · exact ⟨3, rfl, Or.inl (Nat.le_refl _)⟩
  · obtain ⟨c, h1, h2⟩ := h m
    exact ⟨c, h1, by omega⟩
theorem upTo_sG {r τ : Nat → Nat} {c : Nat} {g : Nat → Int32} (h : upTo 2 g) : ∀ n, upTo 2 (sG r τ c g n)
  | 0 => h
  | n + 1 => fun m => by
    have ih := upTo_sG (r := r) (τ := τ) (c := c) h n
    unfold sG
    split
    · exact ih m
    · split
      · by_cases z : τ (sK r c n) ≤ m ∧ m < τ (c + n)
        · rw [seg_in z]; exact ⟨7, rfl, Or.inr rfl⟩
        · rw [seg_out z]; exact ih m
      · split
        · by_cases z : τ (sK r c n) ≤ m ∧ m < τ (c + n)
          · rw [seg_in z]; exact ⟨1, rfl, Or.inl (by decide)⟩
          · rw [seg_out z]; exact ih m
        · exact ih m
theorem upTo_dR {t r : Nat → Nat} {n day A : Nat} : ∀ i, upTo 2 (dR t r n day A i)
  | 0 => fun _ => ⟨0, rfl, Or.inl (Nat.zero_le _)⟩
  | i + 1 => by
    have ih := upTo_dR (t := t) (r := r) (n := n) (day := day) (A := A) i
    unfold dR
    split
    · intro m
      unfold lS rnd
      split
      · exact ⟨2, rfl, Or.inl (Nat.le_refl _)⟩
      · exact upTo_sG ih _ m
    · exact ih
theorem cntF_7 {k : Nat} {f : Nat → Int32} (h : upTo k f) (hk : k < 7) (n : Nat) : cntF f (k + 1) n = cntC f (nI 7) n := fb_ct_cong (fun q _ => by
  obtain ⟨c, h1, h2⟩ := h q
  rw [h1]
  refine decide_eq_decide.mpr ?_
  rw [nI_leI (by omega) (by omega), nI_eq (by omega) (by omega)]
  omega)
theorem cntF_bhC {k j : Nat} {f : Nat → Int32} {r n : Nat} (hk : k ≤ j) (hj : j < 7) : cntF (bhC f r (nI j)) k n = cntF f k n := fb_ct_cong (fun q _ => by
  unfold bhC
  split
  · rename_i z
    rw [z.1]
    refine decide_eq_decide.mpr ?_
    rw [nI_leI (by omega) (by omega), nI_leI (by omega) (by omega)]
    omega
  · rfl)
theorem cntF_bhO {k j : Nat} {f : Nat → Int32} {r n : Nat} (hk : k ≤ j) (hj : j < 7) : cntF (bhO f r (nI j)) k n = cntF f k n := by
  unfold bhO
  split
  · exact cntF_bhC hk hj
  · rfl
theorem cntF_frm {k : Nat} {f : Nat → Int32} {A B n : Nat} (hk : k ≤ 3) : cntF (frm f A B) k n = cntF f k n := fb_ct_cong (fun q _ => by
  unfold frm
  split
  · rename_i z
    rw [z.2.1]
    refine decide_eq_decide.mpr ?_
    rw [nI_leI (by omega) (by omega), nI_leI (by omega) (by omega)]
    omega
  · rfl)
theorem upTo_g1 {t r : Nat → Nat} {n day : Nat} {A B : Nat → Nat} : upTo 3 (g1 t r n day A B) := upTo_frm (upTo_dR n)
theorem upTo_g2 {t r : Nat → Nat} {n day : Nat} {A B : Nat → Nat} : upTo 4 (g2 t r n day A B) := upTo_bhC upTo_g1
theorem upTo_g3 {t r : Nat → Nat} {n day : Nat} {A B : Nat → Nat} : upTo 5 (g3 t r n day A B) := upTo_bhO upTo_g2
theorem upTo_dG {t r : Nat → Nat} {n day : Nat} {A B : Nat → Nat} : upTo 6 (dG t r n day A B) := upTo_bhO upTo_g3
/-- what was left behind each step -/
theorem left_0 {t r : Nat → Nat} {n day : Nat} {A B : Nat → Nat} {N : Nat} : cntF (dG t r n day A B) 2 N = cntF (dR t r n day (A 0) n) 2 N := by
  unfold dG g3 g2 g1
  rw [cntF_bhO (by decide) (by decide), cntF_bhO (by decide) (by decide), cntF_bhC (by decide) (by decide), cntF_frm (by decide)]
theorem left_1 {t r : Nat → Nat} {n day : Nat} {A B : Nat → Nat} {N : Nat} : cntF (dG t r n day A B) 3 N = cntC (dR t r n day (A 0) n) (nI 7) N := by
  rw [← cntF_7 (upTo_dR n) (by decide)]
  unfold dG g3 g2 g1
  rw [cntF_bhO (by decide) (by decide), cntF_bhO (by decide) (by decide), cntF_bhC (by decide) (by decide), cntF_frm (by decide)]
theorem left_2 {t r : Nat → Nat} {n day : Nat} {A B : Nat → Nat} {N : Nat} : cntF (dG t r n day A B) 4 N = cntC (g1 t r n day A B) (nI 7) N := by
  rw [← cntF_7 upTo_g1 (by decide)]
  unfold dG g3 g2
  rw [cntF_bhO (by decide) (by decide), cntF_bhO (by decide) (by decide), cntF_bhC (by decide) (by decide)]
theorem left_3 {t r : Nat → Nat} {n day : Nat} {A B : Nat → Nat} {N : Nat} : cntF (dG t r n day A B) 5 N = cntC (g2 t r n day A B) (nI 7) N := by
  rw [← cntF_7 upTo_g2 (by decide)]
  unfold dG g3
  rw [cntF_bhO (by decide) (by decide), cntF_bhO (by decide) (by decide)]
theorem left_4 {t r : Nat → Nat} {n day : Nat} {A B : Nat → Nat} {N : Nat} : cntF (dG t r n day A B) 6 N = cntC (g3 t r n day A B) (nI 7) N := by
  rw [← cntF_7 upTo_g3 (by decide)]
  unfold dG
  rw [cntF_bhO (by decide) (by decide)]
/-- with no shift on the day nothing is there -/
theorem dG_none {t r : Nat → Nat} {n day : Nat} {A : Nat → Nat} (h : ∀ q, q < n → ¬ (r q = 1 ∧ t q / 1440 = day)) : dR t r n day (A 0) n = fun _ => 0 := dR_same (i := 0) n (Nat.zero_le _) (fun q _ h2 => h q h2)
theorem cntC_0 {f : Nat → Int32} {c : Nat} (h0 : 0 < c) (hc : c < 8) (h : f = fun _ => 0) (N : Nat) : cntC f (nI c) N = 0 := fb_ct_zero.mpr (fun k _ => decide_eq_false (by rw [h]; show ¬ (0 : Int32) = nI c; exact fun z => nI_ne0 h0 (by omega) z.symm))
theorem g1_none {t r : Nat → Nat} {n day : Nat} {A B : Nat → Nat} (h : ∀ q, q < n → ¬ (r q = 1 ∧ t q / 1440 = day)) : g1 t r n day A B = fun _ => 0 := by
  unfold g1
  rw [dG_none h]
  funext m
  exact if_neg (fun z => by exact absurd z.2.1 (show ¬ (0 : Int32) = nI 7 by decide))
theorem bh_none {f : Nat → Int32} {r : Nat} {c : Int32} (h : f = fun _ => 0) : bhC f r c = fun _ => 0 := by
  funext m
  unfold bhC
  rw [h]
  exact if_neg (fun z => absurd z.1 (show ¬ (0 : Int32) = nI 7 by decide))
theorem g2_none {t r : Nat → Nat} {n day : Nat} {A B : Nat → Nat} (h : ∀ q, q < n → ¬ (r q = 1 ∧ t q / 1440 = day)) : g2 t r n day A B = fun _ => 0 := bh_none (g1_none h)
theorem g3_none {t r : Nat → Nat} {n day : Nat} {A B : Nat → Nat} (h : ∀ q, q < n → ¬ (r q = 1 ∧ t q / 1440 = day)) : g3 t r n day A B = fun _ => 0 := by
  unfold g3 bhO
  split
  · exact bh_none (g2_none h)
  · exact g2_none h
