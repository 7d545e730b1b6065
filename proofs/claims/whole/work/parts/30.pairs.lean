/-! Pairing of marks: times t, sorts s; state (0 out, 1 in, 2 paused), the place of the latest COME, the time of the latest PAUSE. -/
abbrev pQ : Type := Nat × Nat × Nat
/-- the state in which mark k is met -/
def pe (t : Nat → Nat) (k : Nat) (q : pQ) : Nat := if q.1 ≠ 0 ∧ t q.2.1 + 960 < t k then 0 else q.1
def pnx (t s : Nat → Nat) (k : Nat) (q : pQ) : pQ :=
  if pe t k q = 0 then (if s k = 0 then (1, k, q.2.2) else (0, q.2.1, q.2.2))
  else if s k = 1 then (0, q.2.1, q.2.2)
  else if pe t k q = 1 then (if s k = 2 then (2, q.2.1, t k) else (1, q.2.1, q.2.2))
  else (if s k = 3 then (1, q.2.1, q.2.2) else (2, q.2.1, q.2.2))
def pS (t s : Nat → Nat) : Nat → pQ
  | 0 => (0, 0, 0)
  | k + 1 => pnx t s k (pS t s k)
def upN {α : Type} (f : Nat → α) (k : Nat) (x : α) : Nat → α := fun j => if j = k then x else f j
theorem upN_s {α : Type} (f : Nat → α) (k : Nat) (x : α) : upN f k x k = x := if_pos rfl
theorem upN_n {α : Type} {f : Nat → α} {k j : Nat} {x : α} (h : j ≠ k) : upN f k x j = f j := if_neg h
/-- how many shifts have begun ahead of mark k, where, their roles and ends -/
def pN (t s : Nat → Nat) : Nat → Nat
  | 0 => 0
  | k + 1 => if pe t k (pS t s k) = 0 ∧ s k = 0 then pN t s k + 1 else pN t s k
def pF (t s : Nat → Nat) : Nat → Nat → Nat
  | 0 => fun _ => 0
  | k + 1 => if pe t k (pS t s k) = 0 ∧ s k = 0 then upN (pF t s k) (pN t s k) k else pF t s k
def pG (t s : Nat → Nat) : Nat → Nat → Bool
  | 0 => fun _ => true
  | k + 1 => if pe t k (pS t s k) = 0 ∧ s k = 0 then upN (pG t s k) (pN t s k) true else if pe t k (pS t s k) ≠ 0 ∧ s k = 1 then upN (pG t s k) (pN t s k - 1) false else pG t s k
/-- the END's time, and the place of the GO -/
def pE (t s : Nat → Nat) : Nat → Nat → Nat
  | 0 => fun _ => 0
  | k + 1 => if pe t k (pS t s k) ≠ 0 ∧ s k = 1 then upN (pE t s k) (pN t s k - 1) (if pe t k (pS t s k) = 2 then (pS t s k).2.2 else t k) else pE t s k
def pLm (t s : Nat → Nat) : Nat → Nat → Nat
  | 0 => fun _ => 0
  | k + 1 => if pe t k (pS t s k) ≠ 0 ∧ s k = 1 then upN (pLm t s k) (pN t s k - 1) k else pLm t s k
def pR (t s : Nat → Nat) : Nat → Nat → Nat
  | 0 => fun _ => 0
  | k + 1 => if pe t k (pS t s k) = 0 ∧ s k = 0 then upN (pR t s k) k 2
    else if pe t k (pS t s k) ≠ 0 ∧ s k = 1 then upN (upN (pR t s k) (pS t s k).2.1 1) k 3
    else if (pe t k (pS t s k) = 1 ∧ s k = 2) ∨ (pe t k (pS t s k) = 2 ∧ s k = 3) then upN (pR t s k) k 4
    else upN (pR t s k) k 0
theorem pe_le {t : Nat → Nat} {k : Nat} {q : pQ} (h : q.1 ≤ 2) : pe t k q ≤ 2 := by unfold pe; split <;> omega
theorem pS_le (t s : Nat → Nat) : ∀ k, (pS t s k).1 ≤ 2
  | 0 => Nat.le_of_ble_eq_true rfl
  | k + 1 => by
    show (pnx t s k (pS t s k)).1 ≤ 2
    unfold pnx
    repeat' split
    all_goals exact Nat.le_of_ble_eq_true rfl
theorem pe_st {t : Nat → Nat} {k : Nat} {q : pQ} (h : pe t k q ≠ 0) : q.1 = pe t k q ∧ ¬ t q.2.1 + 960 < t k := by
  unfold pe at h ⊢
  split
  · rename_i z; rw [if_pos z] at h; exact absurd rfl h
  · rename_i z
    rw [if_neg z] at h
    exact ⟨rfl, fun y => z ⟨h, y⟩⟩
/-- while one is in, the latest shift's COME is the latest one -/
theorem pS_in (t s : Nat → Nat) : ∀ k, (pS t s k).1 ≠ 0 → 0 < pN t s k ∧ pF t s k (pN t s k - 1) = (pS t s k).2.1 ∧ (pS t s k).2.1 < k
  | 0, h => absurd rfl h
  | k + 1, h => by
    have ih := pS_in t s k
    have hS : pS t s (k + 1) = pnx t s k (pS t s k) := rfl
    by_cases hb : pe t k (pS t s k) = 0 ∧ s k = 0
    · have e1 : pN t s (k + 1) = pN t s k + 1 := if_pos hb
      have e2 : pF t s (k + 1) = upN (pF t s k) (pN t s k) k := if_pos hb
      have e3 : pS t s (k + 1) = (1, k, (pS t s k).2.2) := by rw [hS]; unfold pnx; rw [if_pos hb.1, if_pos hb.2]
      rw [e1, e2, e3]
      refine ⟨by omega, ?_, by show k < k + 1; omega⟩
      show upN (pF t s k) (pN t s k) k (pN t s k + 1 - 1) = k
      rw [Nat.add_sub_cancel, upN_s]
    · have e1 : pN t s (k + 1) = pN t s k := if_neg hb
      have e2 : pF t s (k + 1) = pF t s k := if_neg hb
      rw [e1, e2]
      have h0 : pe t k (pS t s k) ≠ 0 ∧ (pS t s (k + 1)).2.1 = (pS t s k).2.1 := by
        rw [hS] at h ⊢
        unfold pnx at h ⊢
        by_cases z : pe t k (pS t s k) = 0
        · rw [if_pos z, if_neg (fun y => hb ⟨z, y⟩)] at h
          exact absurd rfl h
        · refine ⟨z, ?_⟩
          rw [if_neg z]
          repeat' split
          all_goals rfl
      obtain ⟨g1, g2, g3⟩ := ih (by rw [(pe_st h0.1).1]; exact h0.1)
      rw [h0.2]
      exact ⟨g1, g2, by omega⟩
theorem pN_le (t s : Nat → Nat) : ∀ k, pN t s k ≤ k
  | 0 => Nat.le_refl _
  | k + 1 => by
    have := pN_le t s k
    unfold pN
    split <;> omega
