/-! Spans of classes: what a sheet stands for. -/
abbrev Rp (f t c : Nat → Nat) (z : Nat) (g : Nat → Int32) : Prop := (∀ k, k < z → f k < t k ∧ t k ≤ 2880) ∧ (∀ k, k + 1 < z → t k ≤ f (k + 1)) ∧ (∀ k, k < z → ∀ m, f k ≤ m → m < t k → g m = nI (c k)) ∧ (∀ m, m < 2880 → (∀ k, k < z → ¬ (f k ≤ m ∧ m < t k)) → g m = 0) ∧ (∀ k, k < z → 1 ≤ c k ∧ c k ≤ 7)
theorem Rp.lt {f t c : Nat → Nat} {z : Nat} {g : Nat → Int32} (h : Rp f t c z g) : ∀ k, k < z → f k < t k ∧ t k ≤ 2880 := h.1
theorem Rp.so {f t c : Nat → Nat} {z : Nat} {g : Nat → Int32} (h : Rp f t c z g) : ∀ k, k + 1 < z → t k ≤ f (k + 1) := h.2.1
theorem Rp.ins {f t c : Nat → Nat} {z : Nat} {g : Nat → Int32} (h : Rp f t c z g) : ∀ k, k < z → ∀ m, f k ≤ m → m < t k → g m = nI (c k) := h.2.2.1
theorem Rp.ou {f t c : Nat → Nat} {z : Nat} {g : Nat → Int32} (h : Rp f t c z g) : ∀ m, m < 2880 → (∀ k, k < z → ¬ (f k ≤ m ∧ m < t k)) → g m = 0 := h.2.2.2.1
theorem Rp.cb {f t c : Nat → Nat} {z : Nat} {g : Nat → Int32} (h : Rp f t c z g) : ∀ k, k < z → 1 ≤ c k ∧ c k ≤ 7 := h.2.2.2.2
def eE (t : Nat → Nat) (k : Nat) : Nat := if k = 0 then 0 else t (k - 1)
section RP
variable {f t c : Nat → Nat} {z : Nat} {g : Nat → Int32}
theorem eE_s (t : Nat → Nat) (k : Nat) : eE t (k + 1) = t k := if_neg (Nat.succ_ne_zero k)
theorem Rp.le (h : Rp f t c z g) : ∀ q p, p < q → q < z → t p ≤ f q
  | 0, p, h1, _ => absurd h1 (Nat.not_lt_zero p)
  | q + 1, p, h1, h2 => by
    have a1 := h.so q h2
    rcases Nat.lt_or_ge p q with w | w
    · have a2 := h.le q p w (by omega)
      have a3 := (h.lt q (by omega)).1
      omega
    · rw [show p = q by omega]; exact a1
theorem Rp.eF (h : Rp f t c z g) {k : Nat} (hk : k < z) : eE t k ≤ f k := by
  unfold eE
  split
  · omega
  · exact h.le k (k - 1) (by omega) hk
theorem Rp.eT (h : Rp f t c z g) {k q : Nat} (hk : k ≤ z) (hq : q < k) : t q ≤ eE t k := by
  unfold eE
  rw [if_neg (by omega)]
  rcases Nat.lt_or_ge q (k - 1) with w | w
  · have a1 := h.le (k - 1) q w (by omega)
    have a2 := (h.lt (k - 1) (by omega)).1
    omega
  · rw [show q = k - 1 by omega]; exact Nat.le_refl _
theorem Rp.e8 (h : Rp f t c z g) {k : Nat} (hk : k ≤ z) : eE t k ≤ 2880 := by
  unfold eE
  split
  · omega
  · exact (h.lt (k - 1) (by omega)).2
/-- nothing is between two spans -/
theorem Rp.gap (h : Rp f t c z g) {k m : Nat} (hk : k < z) (h1 : eE t k ≤ m) (h2 : m < f k) : g m = 0 := by
  refine h.ou m (by have := h.lt k hk; omega) (fun q hq y => ?_)
  rcases Nat.lt_or_ge q k with w | w
  · have := h.eT (Nat.le_of_lt hk) w; omega
  · rcases Nat.lt_or_ge k q with u | u
    · have a1 := h.le q k u hq; have a2 := (h.lt k hk).1; omega
    · rw [show q = k by omega] at y; omega
theorem Rp.beh (h : Rp f t c z g) {m : Nat} (h1 : eE t z ≤ m) (h2 : m < 2880) : g m = 0 := h.ou m h2 (fun q hq y => by have := h.eT (Nat.le_refl z) hq; omega)
theorem Rp.cong {g' : Nat → Int32} (h : Rp f t c z g) (e : ∀ m, m < 2880 → g' m = g m) : Rp f t c z g' :=
  ⟨h.lt, h.so, fun k hk m h1 h2 => by rw [e m (by have := (h.lt k hk).2; omega)]; exact h.ins k hk m h1 h2, fun m hm hq => by rw [e m hm]; exact h.ou m hm hq, h.cb⟩
end RP
theorem ct_run {p : Nat → Bool} {B : Bool} {lo : Nat} : ∀ n, (∀ m, lo ≤ m → m < lo + n → p m = B) → fb_ct p (lo + n) = fb_ct p lo + (if B = true then n else 0)
  | 0, _ => by split <;> rfl
  | n + 1, h => by
    have ih := ct_run n (fun m h1 h2 => h m h1 (by omega))
    rw [← Nat.add_assoc, fb_ct_succ, ih, h (lo + n) (by omega) (by omega)]
    cases B
    · rfl
    · rw [if_pos rfl, if_pos rfl, if_pos rfl]; omega
theorem ct_run2 {p : Nat → Bool} {B : Bool} {lo hi : Nat} (h : lo ≤ hi) (hp : ∀ m, lo ≤ m → m < hi → p m = B) : fb_ct p hi = fb_ct p lo + (if B = true then hi - lo else 0) := by
  obtain ⟨n, rfl⟩ : ∃ n, hi = lo + n := ⟨hi - lo, by omega⟩
  rw [ct_run n hp, Nat.add_sub_cancel_left]
section RP
variable {f t c : Nat → Nat} {z : Nat} {g : Nat → Int32}
theorem Rp.sum (h : Rp f t c z g) {P : Int32 → Bool} (h0 : P 0 = false) : ∀ k, k ≤ z → fb_ct (fun m => P (g m)) (eE t k) = fb_sm (fun q => if P (nI (c q)) = true then t q - f q else 0) k
  | 0, _ => rfl
  | k + 1, hk => by
    have ih := h.sum h0 k (by omega)
    have a1 := h.eF (k := k) (by omega)
    have a2 := h.lt k (by omega)
    rw [eE_s, fb_sm_succ, ← ih, ct_run2 (p := fun m => P (g m)) (B := P (nI (c k))) (lo := f k) (Nat.le_of_lt a2.1) (fun m h1 h2 => by show P (g m) = _; rw [h.ins k (by omega) m h1 h2]), ct_run2 (p := fun m => P (g m)) (B := false) a1 (fun m h1 h2 => by show P (g m) = _; rw [h.gap (by omega) h1 h2, h0])]
    rfl
/-- how many minutes have a class as P says -/
theorem Rp.count (h : Rp f t c z g) {P : Int32 → Bool} (h0 : P 0 = false) : fb_ct (fun m => P (g m)) 2880 = fb_sm (fun q => if P (nI (c q)) = true then t q - f q else 0) z := by
  rw [← h.sum h0 z (Nat.le_refl _), ct_run2 (p := fun m => P (g m)) (B := false) (h.e8 (Nat.le_refl z)) (fun m h1 h2 => by show P (g m) = _; rw [h.beh h1 h2, h0])]
  rfl
def cutF (f : Nat → Nat) (p m : Nat) : Nat → Nat := fun k => if k ≤ p then f k else if k = p + 1 then m else f (k - 1)
def cutT (t : Nat → Nat) (p m : Nat) : Nat → Nat := fun k => if k < p then t k else if k = p then m else t (k - 1)
def cutC (c : Nat → Nat) (p : Nat) : Nat → Nat := fun k => if k ≤ p then c k else c (k - 1)
theorem Rp.cut (h : Rp f t c z g) {p m : Nat} (hp : p < z) (h1 : f p < m) (h2 : m < t p) : Rp (cutF f p m) (cutT t p m) (cutC c p) (z + 1) g := by
  have F1 : ∀ k, k ≤ p → cutF f p m k = f k := fun k hk => if_pos hk
  have F2 : cutF f p m (p + 1) = m := by unfold cutF; rw [if_neg (by omega), if_pos rfl]
  have F3 : ∀ k, p + 1 < k → cutF f p m k = f (k - 1) := fun k hk => by unfold cutF; rw [if_neg (by omega), if_neg (by omega)]
  have T1 : ∀ k, k < p → cutT t p m k = t k := fun k hk => if_pos hk
  have T2 : cutT t p m p = m := by unfold cutT; rw [if_neg (by omega), if_pos rfl]
  have T3 : ∀ k, p < k → cutT t p m k = t (k - 1) := fun k hk => by unfold cutT; rw [if_neg (by omega), if_neg (by omega)]
  have C1 : ∀ k, k ≤ p → cutC c p k = c k := fun k hk => if_pos hk
  have C3 : ∀ k, p < k → cutC c p k = c (k - 1) := fun k hk => if_neg (by omega)
  have hp2 := h.lt p hp
  refine ⟨fun k hk => ?_, fun k hk => ?_, fun k hk q q1 q2 => ?_, fun q hq hout => ?_, fun k hk => ?_⟩
  · rcases Nat.lt_or_ge k p with w | w
    · rw [F1 k (by omega), T1 k w]; exact h.lt k (by omega)
    · rcases Nat.lt_or_ge p k with u | u
      · rw [T3 k u]
        rcases Nat.lt_or_ge (p + 1) k with v | v
        · rw [F3 k v]; exact h.lt (k - 1) (by omega)
        · rw [show k = p + 1 by omega, F2]; exact ⟨h2, hp2.2⟩
      · rw [show k = p by omega, F1 p (Nat.le_refl _), T2]; exact ⟨h1, by omega⟩
  · rcases Nat.lt_or_ge k p with w | w
    · rw [F1 (k + 1) (by omega), T1 k w]; exact h.so k (by omega)
    · rcases Nat.lt_or_ge p k with u | u
      · rw [T3 k u, F3 (k + 1) (by omega), show k + 1 - 1 = (k - 1) + 1 by omega]; exact h.so (k - 1) (by omega)
      · rw [show k = p by omega, T2, F2]; exact Nat.le_refl _
  · rcases Nat.lt_or_ge k p with w | w
    · rw [F1 k (by omega)] at q1; rw [T1 k w] at q2; rw [C1 k (by omega)]; exact h.ins k (by omega) q q1 q2
    · rcases Nat.lt_or_ge p k with u | u
      · rw [T3 k u] at q2
        rw [C3 k u]
        rcases Nat.lt_or_ge (p + 1) k with v | v
        · rw [F3 k v] at q1; exact h.ins (k - 1) (by omega) q q1 q2
        · rw [show k = p + 1 by omega, F2] at q1
          rw [show k - 1 = p by omega] at q2 ⊢
          exact h.ins p hp q (by omega) q2
      · rw [show k = p by omega, F1 p (Nat.le_refl _)] at q1
        rw [show k = p by omega, T2] at q2
        rw [show k = p by omega, C1 p (Nat.le_refl _)]
        exact h.ins p hp q q1 (by omega)
  · refine h.ou q hq (fun k hk y => ?_)
    rcases Nat.lt_or_ge k p with w | w
    · exact hout k (by omega) (by rw [F1 k (by omega), T1 k w]; exact y)
    · rcases Nat.lt_or_ge p k with u | u
      · exact hout (k + 1) (by omega) (by rw [F3 (k + 1) (by omega), T3 (k + 1) (by omega), Nat.add_sub_cancel]; exact y)
      · have e : k = p := by omega
        rw [e] at y
        rcases Nat.lt_or_ge q m with v | v
        · exact hout p (by omega) (by rw [F1 p (Nat.le_refl _), T2]; exact ⟨y.1, v⟩)
        · exact hout (p + 1) (by omega) (by rw [F2, T3 (p + 1) (by omega), Nat.add_sub_cancel]; exact ⟨v, y.2⟩)
  · rcases Nat.lt_or_ge p k with u | u
    · rw [C3 k u]; exact h.cb (k - 1) (by omega)
    · rw [C1 k u]
      exact h.cb k (by omega)
/-- no span goes over m -/
def NS (f t : Nat → Nat) (z m : Nat) : Prop := ∀ k, k < z → ¬ (f k < m ∧ m < t k)
theorem NS.cut {p m q : Nat} (h : NS f t z q) (hp : p < z) (h1 : f p < m) (h2 : m < t p) : NS (cutF f p m) (cutT t p m) (z + 1) q := by
  intro k hk y
  unfold cutF cutT at y
  rcases Nat.lt_or_ge k p with w | w
  · rw [if_pos (by omega), if_pos w] at y; exact h k (by omega) y
  · rcases Nat.lt_or_ge p k with u | u
    · rw [if_neg (by omega), if_neg (show ¬ k < p by omega), if_neg (show ¬ k = p by omega)] at y
      by_cases v : k = p + 1
      · rw [if_pos v, show k - 1 = p by omega] at y
        exact h p hp (by omega)
      · rw [if_neg v] at y; exact h (k - 1) (by omega) y
    · rw [if_pos u, if_neg (by omega), if_pos (by omega), show k = p by omega] at y
      exact h p hp (by omega)
theorem NS.at {p m : Nat} (hr : Rp f t c z g) (hp : p < z) (h1 : f p < m) (h2 : m < t p) : NS (cutF f p m) (cutT t p m) (z + 1) m := by
  intro k hk y
  unfold cutF cutT at y
  rcases Nat.lt_or_ge k p with w | w
  · rw [if_pos (by omega), if_pos w] at y
    have := hr.le p k w hp
    omega
  · rcases Nat.lt_or_ge p k with u | u
    · rw [if_neg (by omega), if_neg (show ¬ k < p by omega), if_neg (show ¬ k = p by omega)] at y
      by_cases v : k = p + 1
      · rw [if_pos v] at y; omega
      · rw [if_neg v] at y
        have := hr.le (k - 1) p (by omega) (by omega)
        omega
    · rw [if_pos u, if_neg (by omega), if_pos (by omega)] at y
      omega
/-- where a cut at m falls -/
def cp (t : Nat → Nat) (z m : Nat) : Nat := fa_first (fun k => decide (m < t k)) z
theorem cp_ns (hr : Rp f t c z g) {m : Nat} (h : ¬ (cp t z m < z ∧ f (cp t z m) < m)) : NS f t z m := by
  intro k hk y
  have h1 : cp t z m < z := by
    rcases Nat.lt_or_ge (cp t z m) z with w | w
    · exact w
    · have := of_decide_eq_false (fa_first_no (fun k => decide (m < t k)) z k (by unfold cp at w; omega))
      omega
  have h2 : m < t (cp t z m) := of_decide_eq_true (fa_first_yes (fun k => decide (m < t k)) z h1)
  have h3 : cp t z m = k := by
    rcases Nat.lt_or_ge (cp t z m) k with w | w
    · have := hr.le k _ w hk; omega
    · rcases Nat.lt_or_ge k (cp t z m) with u | u
      · have := of_decide_eq_false (fa_first_no (fun k => decide (m < t k)) z k u); omega
      · omega
  rw [h3] at h
  exact h ⟨hk, y.1⟩
theorem cp_lt {m : Nat} (h : cp t z m < z) : m < t (cp t z m) := of_decide_eq_true (fa_first_yes (fun k => decide (m < t k)) z h)
theorem cp_is (hr : Rp f t c z g) {k m : Nat} (hk : k < z) (h1 : f k ≤ m) (h2 : m < t k) : cp t z m = k := by
  refine fa_first_is (fun q hq => decide_eq_false ?_) (Nat.le_of_lt hk) (Or.inr (decide_eq_true h2))
  have := hr.le k q hq hk
  omega
/-- a span's class is changed -/
theorem Rp.set {k x : Nat} {g' : Nat → Int32} (h : Rp f t c z g) (hk : k < z) (hx : 1 ≤ x ∧ x ≤ 7) (e1 : ∀ m, f k ≤ m → m < t k → g' m = nI x) (e2 : ∀ m, m < 2880 → ¬ (f k ≤ m ∧ m < t k) → g' m = g m) : Rp f t (upN c k x) z g' := by
  refine ⟨h.lt, h.so, fun q hq m h1 h2 => ?_, fun m hm hout => ?_, fun q hq => ?_⟩
  · by_cases w : q = k
    · rw [w] at h1 h2 ⊢; rw [upN_s]; exact e1 m h1 h2
    · rw [upN_n w, e2 m (by have := (h.lt q hq).2; omega) (fun y => ?_)]
      · exact h.ins q hq m h1 h2
      · rcases Nat.lt_or_ge q k with u | u
        · have := h.le k q u hk; omega
        · have := h.le q k (by omega) hq; omega
  · rw [e2 m hm (hout k hk)]; exact h.ou m hm hout
  · by_cases w : q = k
    · rw [w, upN_s]; exact hx
    · rw [upN_n w]; exact h.cb q hq
end RP
