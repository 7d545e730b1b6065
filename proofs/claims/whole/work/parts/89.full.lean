/-! The full memory: the class at 0..61, the reference at 62..98, worker q at 99 + 13 q. -/
theorem ren_L {E : am_E} {d : Nat} {τ : am_T} {as : List Value} {l l' : List am_C} {v : Option Value} {ρ : Nat → Nat} {G : am_M} (h : am_D E d τ as (am_L l) 0 0 v (am_L l')) (hG : ∀ k x, l[k]? = some x → G.2 (ρ k) = some (am_rc ρ x)) (inj : ∀ i j, i < l.length → j < l.length → ρ i = ρ j → i = j) (hX : ∀ k, am_X ≤ k → k < am_X + 4 → G.2 k = none ∧ ρ k = k) (hl : l.length ≤ am_X) :
    ∃ G', am_D E d τ (am_rS ρ as) G 0 0 (v.map (am_rv ρ)) G' ∧ (∀ k x, l'[k]? = some x → G'.2 (ρ k) = some (am_rc ρ x)) ∧ G'.1 = G.1 ∧ ∀ q, (∀ k, k < l.length → ρ k ≠ q) → G'.2 q = G.2 q := by
  have lt : ∀ k x, (am_L l).2 k = some x → k < l.length := fun k x hk => (List.getElem?_eq_some_iff.mp hk).1
  have hR : am_RM ρ (am_L l) G := ⟨fun k x hk => hG k x hk, fun i j x y hi hj e => inj i j (lt i x hi) (lt j y hj) e, fun k h1 h2 => ⟨List.getElem?_eq_none (by omega), (hX k h1 h2).1, (hX k h1 h2).2⟩⟩
  obtain ⟨G', g1, g2, g3, g4⟩ := am_ren E d ρ τ as (am_L l) v (am_L l') G h hR
  exact ⟨G', g1, fun k x hk => g2.1 k x hk, g3.1, fun q hq => g3.2 q (fun k x hk e => hq k (lt k x hk) e.symm)⟩
def r9 (k : Nat) : Nat := if k < am_X then 62 + k else k
def r0 (k : Nat) : Nat := if k < 500000 then k else if k < am_X then k - 500000 else k
def rq (q k : Nat) : Nat := if k < 62 then k else if k < 500000 then 99 + 13 * q + (k - 62) else if k < am_X then k - 500000 else k
/-- the row of workers, as it is, and as a run on fewer cells has it -/
def Wf (nw k : Nat) : Option Nat := if k < nw then some (99 + 13 * k) else none
def Wl (nw k : Nat) : Option Nat := if k < nw then some (500000 + (99 + 13 * k)) else none
def Wq (nw q k : Nat) : Option Nat := if k = q then some 62 else Wl nw k
def sfn (p k : Nat) : Option Nat := if k < 5 then some (p + 8 + k) else none
/-- a worker's cells at p -/
def wc (p : Nat) (i : Nat → Int32) (a : Nat → Nat → Int32) (b : Nat → Nat → Int64) (g : Nat) : List am_C := [.inr (7, [.ref (20 + 3 * g), .int (i 62), .ref (p + 1), .ref (p + 5), .ref (p + 6), .int (i 67), .ref (p + 7)]),
  .inr (1, [.ref (p + 2), .ref (p + 3), .ref (p + 4), .int (i 63)]), .inl (0, 400, .inl (a 64)), .inl (0, 400, .inl (a 65)), .inl (0, 400, .inl (a 66)), .inl (0, 20, .inl (a 67)), .inl (0, 20, .inl (a 68)), .inl (6, 5, .inr (.inr (.inr (.inr (sfn p))))),
  .inl (2, 36, .inr (.inl (b 70))), .inl (2, 36, .inr (.inl (b 71))), .inl (2, 36, .inr (.inl (b 72))), .inl (2, 36, .inr (.inl (b 73))), .inl (2, 36, .inr (.inl (b 74)))]
theorem Wl_r0 {nw : Nat} (h : nw ≤ 30) : (fun k => (Wl nw k).map r0) = Wf nw := by
  funext k
  unfold Wl Wf
  by_cases z : k < nw
  · rw [if_pos z, if_pos z]
    show some (r0 (500000 + (99 + 13 * k))) = _
    unfold r0 am_X
    rw [if_neg (by omega), if_pos (by omega), Nat.add_sub_cancel_left]
  · rw [if_neg z, if_neg z]; rfl
theorem Wq_rq {nw q : Nat} (h : nw ≤ 30) (hq : q < nw) : (fun k => (Wq nw q k).map (rq q)) = Wf nw := by
  funext k
  unfold Wq
  by_cases z : k = q
  · rw [if_pos z, z]
    unfold Wf
    rw [if_pos hq]
    rfl
  · rw [if_neg z]
    unfold Wl Wf
    by_cases y : k < nw
    · rw [if_pos y, if_pos y]
      show some (rq q (500000 + (99 + 13 * k))) = _
      unfold rq am_X
      rw [if_neg (by omega), if_neg (by omega), if_pos (by omega), Nat.add_sub_cancel_left]
    · rw [if_neg y, if_neg y]; rfl
theorem saf_rq (q : Nat) : (fun k => (saf k).map (rq q)) = sfn (99 + 13 * q) := by
  funext k
  unfold saf sfn
  by_cases y : k < 5
  · rw [if_pos y, if_pos y]
    show some (rq q (70 + k)) = _
    unfold rq
    rw [if_neg (by omega), if_pos (by omega), show 99 + 13 * q + (70 + k - 62) = 99 + 13 * q + 8 + k by omega]
  · rw [if_neg y, if_neg y]; rfl
theorem grf_r0 : (fun k => (grf k).map r0) = grf := by
  funext k
  unfold grf
  by_cases y : k < 6
  · rw [if_pos y]
    show some (r0 (20 + 3 * k)) = _
    unfold r0
    rw [if_pos (by omega)]
  · rw [if_neg y]; rfl
theorem ruf_r0 : (fun k => (ruf k).map r0) = ruf := by
  funext k
  unfold ruf
  by_cases y : k < 8
  · rw [if_pos y]
    show some (r0 (38 + 3 * k)) = _
    unfold r0
    rw [if_pos (by omega)]
  · rw [if_neg y]; rfl
theorem grf_rq (q : Nat) : (fun k => (grf k).map (rq q)) = grf := by
  funext k
  unfold grf
  by_cases y : k < 6
  · rw [if_pos y]
    show some (rq q (20 + 3 * k)) = _
    unfold rq
    rw [if_pos (by omega)]
  · rw [if_neg y]; rfl
theorem ruf_rq (q : Nat) : (fun k => (ruf k).map (rq q)) = ruf := by
  funext k
  unfold ruf
  by_cases y : k < 8
  · rw [if_pos y]
    show some (rq q (38 + 3 * k)) = _
    unfold rq
    rw [if_pos (by omega)]
  · rw [if_neg y]; rfl
section FU
variable {i : Nat → Int32} {j : Nat → Int64} {a : Nat → Nat → Int32} {b : Nat → Nat → Int64} {W : Nat → Option Nat} {g q : Nat}
theorem xo_r0 : (xo i j a W).map (am_rc r0) = xo i j a (fun k => (W k).map r0) := by
  show (_ :: _ :: .inl (3, 6, .inr (.inr (.inr (.inr (fun k => (grf k).map r0))))) :: .inl (4, 8, .inr (.inr (.inr (.inr (fun k => (ruf k).map r0))))) :: _ : List am_C) = _
  rw [grf_r0, ruf_r0]
  rfl
theorem xo_rq : (xo i j a W).map (am_rc (rq q)) = xo i j a (fun k => (W k).map (rq q)) := by
  show (_ :: _ :: .inl (3, 6, .inr (.inr (.inr (.inr (fun k => (grf k).map (rq q)))))) :: .inl (4, 8, .inr (.inr (.inr (.inr (fun k => (ruf k).map (rq q)))))) :: _ : List am_C) = _
  rw [grf_rq, ruf_rq]
  rfl
/-- the one worker's cells of xw -/
theorem xw_wc (hg : g < 6) : (xw i j a b W g).map (am_rc (rq q)) = (xo i j a W).map (am_rc (rq q)) ++ wc (99 + 13 * q) i a b g := by
  have e : wc (99 + 13 * q) i a b g = [.inr (7, [.ref (20 + 3 * g), .int (i 62), .ref (99 + 13 * q + 1), .ref (99 + 13 * q + 5), .ref (99 + 13 * q + 6), .int (i 67), .ref (99 + 13 * q + 7)]),
    .inr (1, [.ref (99 + 13 * q + 2), .ref (99 + 13 * q + 3), .ref (99 + 13 * q + 4), .int (i 63)]), .inl (0, 400, .inl (a 64)), .inl (0, 400, .inl (a 65)), .inl (0, 400, .inl (a 66)), .inl (0, 20, .inl (a 67)), .inl (0, 20, .inl (a 68)), .inl (6, 5, .inr (.inr (.inr (.inr (fun k => (saf k).map (rq q)))))),
    .inl (2, 36, .inr (.inl (b 70))), .inl (2, 36, .inr (.inl (b 71))), .inl (2, 36, .inr (.inl (b 72))), .inl (2, 36, .inr (.inl (b 73))), .inl (2, 36, .inr (.inl (b 74)))] := by rw [saf_rq]; rfl
  rw [e]
  rcases (show g = 0 ∨ g = 1 ∨ g = 2 ∨ g = 3 ∨ g = 4 ∨ g = 5 by omega) with z | z | z | z | z | z <;> subst z <;> rfl
theorem xw_rq (hg : g < 6) : (xw i j a b W g).map (am_rc (rq q)) = xo i j a (fun k => (W k).map (rq q)) ++ wc (99 + 13 * q) i a b g := by
  rw [xw_wc hg, xo_rq]
end FU
