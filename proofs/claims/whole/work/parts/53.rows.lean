/-! Marks come and go: what becomes of the state. -/
def rwA (a : Nat → Nat → Int32) (X Y Z : Nat → Int32) : Nat → Nat → Int32 := va_up (va_up (va_up a 21 X) 22 Y) 23 Z
section RW
variable {i : Nat → Int32} {a : Nat → Nat → Int32} {X Y Z : Nat → Int32}
theorem rw_23 : rwA a X Y Z 23 = Z := va_s
theorem rw_22 : rwA a X Y Z 22 = Y := by unfold rwA; rw [va_n (by decide), va_s]
theorem rw_21 : rwA a X Y Z 21 = X := by unfold rwA; rw [va_n (by decide), va_n (by decide), va_s]
theorem rw_o {p : Nat} (h1 : p ≠ 21) (h2 : p ≠ 22) (h3 : p ≠ 23) : rwA a X Y Z p = a p := by unfold rwA; rw [va_n h3, va_n h2, va_n h1]
theorem rw_s21 (X' : Nat → Int32) : va_up (rwA a X Y Z) 21 X' = rwA a X' Y Z := by
  funext p
  by_cases z : p = 21
  · subst z; rw [va_s, rw_21]
  · rw [va_n z]
    by_cases y : p = 22
    · subst y; rw [rw_22, rw_22]
    · by_cases u : p = 23
      · subst u; rw [rw_23, rw_23]
      · rw [rw_o z y u, rw_o z y u]
theorem rw_s22 (X' : Nat → Int32) : va_up (rwA a X Y Z) 22 X' = rwA a X X' Z := by
  funext p
  by_cases z : p = 22
  · subst z; rw [va_s, rw_22]
  · rw [va_n z]
    by_cases y : p = 21
    · subst y; rw [rw_21, rw_21]
    · by_cases u : p = 23
      · subst u; rw [rw_23, rw_23]
      · rw [rw_o y z u, rw_o y z u]
theorem rw_s23 (X' : Nat → Int32) : va_up (rwA a X Y Z) 23 X' = rwA a X Y X' := bx_uu _ _ _ _
theorem rw_id : rwA a (a 21) (a 22) (a 23) = a := by
  funext p
  by_cases z : p = 21
  · subst z; rw [rw_21]
  · by_cases y : p = 22
    · subst y; rw [rw_22]
    · by_cases u : p = 23
      · subst u; rw [rw_23]
      · rw [rw_o z y u]
theorem INV.rw (hI : INV i a) {w n' T : Nat} {v : Int32} (hw : w < 30) (hn : n' ≤ 400) (hX : X = upd (a 21) w (nI n')) (hY : ∀ q, q < 400 * w ∨ 400 * w + 400 ≤ q → Y q = a 22 q) (hZ : ∀ q, q < 400 * w ∨ 400 * w + 400 ≤ q → Z q = a 23 q)
    (tY : ∀ k, k < n' → Y (400 * w + k) = nI (cl (Y (400 * w + k))) ∧ cl (Y (400 * w + k)) < 1578240) (tZ : ∀ k, k < n' → Z (400 * w + k) = nI (cl (Z (400 * w + k))) ∧ cl (Z (400 * w + k)) ≤ 3)
    (inc : ∀ q k, q < k → k < n' → cl (Y (400 * w + q)) < cl (Y (400 * w + k))) (hv : v = nI T) (hT : T + nA a w = fb_sm (nA a) 30 + n') (hT2 : T ≤ 1000) : INV (va_up i 26 v) (rwA a X Y Z) := by
  obtain ⟨b1, b2, b3, b4, b5, b6, b7, b8, b9, b10, b11, b12, b13, b14, b15, b16, b17⟩ := hI
  have o : ∀ p, p ≠ 21 → p ≠ 22 → p ≠ 23 → rwA a X Y Z p = a p := fun p h1 h2 h3 => rw_o h1 h2 h3
  have oi : ∀ k, k ≠ 26 → va_up i 26 v k = i k := fun k h => va_n h
  have eN : nA (rwA a X Y Z) = fun k => if k = w then n' else nA a k := by
    funext q
    unfold nA
    rw [rw_21, hX]
    unfold upd
    by_cases z : q = w
    · rw [if_pos z, if_pos z, cl_nI (by omega)]
    · rw [if_neg z, if_neg z]
  refine ⟨?_, ?_, ?_, ?_, ?_, ?_, ?_, ?_, ?_, ?_, ?_, ?_, ?_, ?_, ?_, ?_, ?_⟩
  · rw [o 2 (by decide) (by decide) (by decide)]; exact b1
  · rw [o 3 (by decide) (by decide) (by decide)]; exact b2
  · rw [o 4 (by decide) (by decide) (by decide)]; exact b3
  · rw [o 3 (by decide) (by decide) (by decide)]; exact b4
  · rw [oi 9 (by decide)]; exact b5
  · rw [oi 9 (by decide), o 6 (by decide) (by decide) (by decide), o 7 (by decide) (by decide) (by decide)]; exact b6
  · rw [oi 15 (by decide)]; exact b7
  · rw [oi 15 (by decide), o 8 (by decide) (by decide) (by decide), o 9 (by decide) (by decide) (by decide), o 10 (by decide) (by decide) (by decide), o 11 (by decide) (by decide) (by decide)]; exact b8
  · rw [o 13 (by decide) (by decide) (by decide)]; exact b9
  · rw [o 14 (by decide) (by decide) (by decide), o 15 (by decide) (by decide) (by decide)]; exact b10
  · rw [oi 19 (by decide)]; exact b11
  · rw [o 16 (by decide) (by decide) (by decide)]; exact b12
  · rw [o 17 (by decide) (by decide) (by decide)]; exact b13
  · rw [o 18 (by decide) (by decide) (by decide)]; exact b14
  · intro w' hw'
    rw [eN]
    dsimp only
    by_cases z : w' = w
    · subst z
      rw [if_pos rfl]
      refine ⟨hw', hn, ?_, ?_, ?_, ?_, ?_, ?_⟩
      · rw [rw_21, hX]; exact if_pos rfl
      · intro k hk; unfold tA; rw [rw_22]; exact (tY k hk).1
      · intro k hk; unfold sA; rw [rw_23]; exact (tZ k hk).1
      · intro k hk; unfold sA; rw [rw_23]; exact (tZ k hk).2
      · intro k hk; unfold tA; rw [rw_22]; exact (tY k hk).2
      · intro q k h1 h2; unfold tA; rw [rw_22]; exact inc q k h1 h2
    · rw [if_neg z]
      obtain ⟨m1, m2, m3, m4, m5, m6, m7, m8⟩ := b15 w' hw'
      have out : ∀ k, k < 400 → 400 * w' + k < 400 * w ∨ 400 * w + 400 ≤ 400 * w' + k := fun k hk => by omega
      have eT : ∀ k, k < 400 → tA (rwA a X Y Z) w' k = tA a w' k := fun k hk => by unfold tA; rw [rw_22, hY _ (out k hk)]
      have eS : ∀ k, k < 400 → sA (rwA a X Y Z) w' k = sA a w' k := fun k hk => by unfold sA; rw [rw_23, hZ _ (out k hk)]
      refine ⟨hw', m2, ?_, ?_, ?_, ?_, ?_, ?_⟩
      · rw [rw_21, hX]; unfold upd; rw [if_neg z]; exact m3
      · intro k hk; rw [eT k (by omega), rw_22, hY _ (out k (by omega))]; exact m4 k hk
      · intro k hk; rw [eS k (by omega), rw_23, hZ _ (out k (by omega))]; exact m5 k hk
      · intro k hk; rw [eS k (by omega)]; exact m6 k hk
      · intro k hk; rw [eT k (by omega)]; exact m7 k hk
      · intro q k h1 h2; rw [eT k (by omega), eT q (by omega)]; exact m8 q k h1 h2
  · have e : fb_sm (nA (rwA a X Y Z)) 30 = T := by
      rw [eN]
      have := fb_sm_upd (nA a) n' hw
      omega
    rw [e, va_s]
    exact ⟨hv, hT2⟩
  · rw [oi 39 (by decide)]; exact b17
end RW
/-- a number put in at p, what stood up to q goes one on -/
def insF {α : Type} (f : Nat → α) (p q : Nat) (x : α) : Nat → α := fun k => if k < p then f k else if k = p then x else if k ≤ q then f (k - 1) else f k
/-- what stands at p is taken out, what stood up to q goes one back -/
def remF {α : Type} (f : Nat → α) (p q : Nat) : Nat → α := fun k => if k < p then f k else if k < q then f (k + 1) else f k
def inA (a : Nat → Nat → Int32) (w : Nat) (x s : Int32) : Nat → Nat → Int32 := rwA a (upd (a 21) w (nI (nA a w + 1))) (insF (a 22) (400 * w + atA a w x) (400 * w + nA a w) x) (insF (a 23) (400 * w + atA a w x) (400 * w + nA a w) s)
def unA (a : Nat → Nat → Int32) (w : Nat) (x : Int32) : Nat → Nat → Int32 := rwA a (upd (a 21) w (nI (nA a w - 1))) (remF (a 22) (400 * w + atA a w x) (400 * w + (nA a w - 1))) (remF (a 23) (400 * w + atA a w x) (400 * w + (nA a w - 1)))
section RX
variable {i : Nat → Int32} {a : Nat → Nat → Int32}
theorem atA_sp (hI : INV i a) {w x : Nat} (hw : w < 30) (hx : x < 1578240) : (∀ k, k < atA a w (nI x) → tA a w k < x) ∧ (atA a w (nI x) < nA a w → x ≤ tA a w (atA a w (nI x))) := by
  have hm := hI.wm w hw
  refine ⟨fun k hk => ?_, fun h => ?_⟩
  · have h1 := of_decide_eq_false (fa_first_no _ _ k hk)
    have hkn : k < nA a w := Nat.lt_of_lt_of_le hk (fa_first_le _ _)
    rw [hm.ht k hkn, nI_leI (by omega) (by have := hm.t2 k hkn; omega)] at h1
    omega
  · have h1 := of_decide_eq_true (fa_first_yes _ _ h)
    have h2 : nI x ≤ a 22 (400 * w + atA a w (nI x)) := h1
    rw [hm.ht _ h, nI_leI (by omega) (by have := hm.t2 _ h; omega)] at h2
    exact h2
theorem stA_no (hI : INV i a) {w x : Nat} (hw : w < 30) (hx : x < 1578240) (h : stA a w (nI x) = false) : atA a w (nI x) < nA a w → x < tA a w (atA a w (nI x)) := fun z => by
  have h1 := (atA_sp hI hw hx).2 z
  unfold stA at h
  rw [decide_eq_true z, Bool.true_and] at h
  have h2 := of_decide_eq_false h
  rw [(hI.wm w hw).ht _ z, nI_eq (by have := (hI.wm w hw).t2 _ z; omega) (by omega)] at h2
  omega
theorem insF_in {α : Type} {f : Nat → α} {w p n k : Nat} {x : α} (hk : k ≤ n) (hp : p ≤ n) : insF f (400 * w + p) (400 * w + n) x (400 * w + k) = if k < p then f (400 * w + k) else if k = p then x else f (400 * w + (k - 1)) := by
  unfold insF
  by_cases h1 : k < p
  · rw [if_pos h1, if_pos (by omega)]
  · rw [if_neg h1, if_neg (by omega)]
    by_cases h2 : k = p
    · rw [if_pos h2, if_pos (by omega)]
    · rw [if_neg h2, if_neg (by omega), if_pos (by omega), show 400 * w + k - 1 = 400 * w + (k - 1) by omega]
theorem remF_in {α : Type} {f : Nat → α} {w p n k : Nat} (hk : k < n) : remF f (400 * w + p) (400 * w + n) (400 * w + k) = if k < p then f (400 * w + k) else f (400 * w + (k + 1)) := by
  unfold remF
  by_cases h1 : k < p
  · rw [if_pos h1, if_pos (by omega)]
  · rw [if_neg h1, if_neg (by omega), if_pos (by omega)]
    rfl
theorem INV.ins (hI : INV i a) {w x s : Nat} (hw : w < 30) (hx : x < 1578240) (hs : s ≤ 3) (hst : stA a w (nI x) = false) (hn : nA a w < 400) (hT : fb_sm (nA a) 30 < 1000) : INV (va_up i 26 (i 26 + 1)) (inA a w (nI x) (nI s)) := by
  have hm := hI.wm w hw
  obtain ⟨h1, h2⟩ := atA_sp hI hw hx
  have h3 := stA_no hI hw hx hst
  have h4 : atA a w (nI x) ≤ nA a w := atA_le
  unfold inA
  obtain ⟨p, hp⟩ : ∃ p, p = atA a w (nI x) := ⟨_, rfl⟩
  obtain ⟨n, hnd⟩ : ∃ n, n = nA a w := ⟨_, rfl⟩
  rw [← hp] at h1 h2 h3 h4
  rw [← hnd] at h2 h3 h4 hn hm
  rw [← hp, ← hnd]
  have tv : ∀ k, k < n + 1 → cl (insF (a 22) (400 * w + p) (400 * w + n) (nI x) (400 * w + k)) = if k < p then tA a w k else if k = p then x else tA a w (k - 1) := fun k hk => by
    rw [insF_in (by omega) h4]
    split
    · rfl
    · split
      · exact cl_nI (by omega)
      · rfl
  refine hI.rw (n' := n + 1) (T := fb_sm (nA a) 30 + 1) hw (by omega) rfl (fun q hq => ?_) (fun q hq => ?_) (fun k hk => ?_) (fun k hk => ?_) (fun q k hqk hk => ?_) (by rw [hI.m26.1, nI_1]) (by omega) (by omega)
  · unfold insF; rcases hq with z | z
    · rw [if_pos (by omega)]
    · rw [if_neg (by omega), if_neg (by omega), if_neg (by omega)]
  · unfold insF; rcases hq with z | z
    · rw [if_pos (by omega)]
    · rw [if_neg (by omega), if_neg (by omega), if_neg (by omega)]
  · rw [insF_in (by omega) h4]
    split
    · exact ⟨hm.ht k (by omega), hm.t2 k (by omega)⟩
    · split
      · rw [cl_nI (by omega)]; exact ⟨rfl, hx⟩
      · exact ⟨hm.ht (k - 1) (by omega), hm.t2 (k - 1) (by omega)⟩
  · rw [insF_in (by omega) h4]
    split
    · exact ⟨hm.hs k (by omega), hm.s3 k (by omega)⟩
    · split
      · rw [cl_nI (by omega)]; exact ⟨rfl, hs⟩
      · exact ⟨hm.hs (k - 1) (by omega), hm.s3 (k - 1) (by omega)⟩
  · rw [tv q (by omega), tv k hk]
    have mono : ∀ u v, u < v → v < n → tA a w u < tA a w v := fun u v g1 g2 => hm.inc u v g1 g2
    by_cases a1 : q < p
    · rw [if_pos a1]
      have b1 := h1 q a1
      by_cases a2 : k < p
      · rw [if_pos a2]; exact mono q k hqk (by omega)
      · rw [if_neg a2]
        by_cases a3 : k = p
        · rw [if_pos a3]; exact b1
        · rw [if_neg a3]; exact mono q (k - 1) (by omega) (by omega)
    · rw [if_neg a1, if_neg (show ¬ k < p by omega), if_neg (show ¬ k = p by omega)]
      by_cases a3 : q = p
      · rw [if_pos a3]
        have b3 := h3 (by omega)
        rcases Nat.lt_or_ge p (k - 1) with z | z
        · have := mono p (k - 1) z (by omega); omega
        · rw [show k - 1 = p by omega]; exact b3
      · rw [if_neg a3]; exact mono (q - 1) (k - 1) (by omega) (by omega)
theorem INV.del (hI : INV i a) {w x : Nat} (hw : w < 30) (hst : stA a w (nI x) = true) : INV (va_up i 26 (i 26 - 1)) (unA a w (nI x)) := by
  have hm := hI.wm w hw
  have h4 : atA a w (nI x) < nA a w := by
    unfold stA at hst
    rw [Bool.and_eq_true_iff] at hst
    exact of_decide_eq_true hst.1
  have hsm : nA a w ≤ fb_sm (nA a) 30 := by have := fb_sm_part (nA a) hw; omega
  have hn4 := hm.n4
  unfold unA
  obtain ⟨p, hp⟩ : ∃ p, p = atA a w (nI x) := ⟨_, rfl⟩
  obtain ⟨n, hnd⟩ : ∃ n, n = nA a w := ⟨_, rfl⟩
  rw [← hp] at h4
  rw [← hnd] at h4 hsm hn4 hm
  rw [← hp, ← hnd]
  have tv : ∀ k, k < n - 1 → cl (remF (a 22) (400 * w + p) (400 * w + (n - 1)) (400 * w + k)) = if k < p then tA a w k else tA a w (k + 1) := fun k hk => by
    rw [remF_in hk]
    split <;> rfl
  have hT1 := hI.m26.2
  refine hI.rw (n' := n - 1) (T := fb_sm (nA a) 30 - 1) hw (by omega) rfl (fun q hq => ?_) (fun q hq => ?_) (fun k hk => ?_) (fun k hk => ?_) (fun q k hqk hk => ?_) (by
      rw [hI.m26.1]
      obtain ⟨m, hmm⟩ : ∃ m, fb_sm (nA a) 30 = m + 1 := ⟨fb_sm (nA a) 30 - 1, by omega⟩
      rw [hmm, nI_pred, Nat.add_sub_cancel]) (by omega) (by omega)
  · unfold remF; rcases hq with z | z
    · rw [if_pos (by omega)]
    · rw [if_neg (by omega), if_neg (by omega)]
  · unfold remF; rcases hq with z | z
    · rw [if_pos (by omega)]
    · rw [if_neg (by omega), if_neg (by omega)]
  · rw [remF_in hk]
    split
    · exact ⟨hm.ht k (by omega), hm.t2 k (by omega)⟩
    · exact ⟨hm.ht (k + 1) (by omega), hm.t2 (k + 1) (by omega)⟩
  · rw [remF_in hk]
    split
    · exact ⟨hm.hs k (by omega), hm.s3 k (by omega)⟩
    · exact ⟨hm.hs (k + 1) (by omega), hm.s3 (k + 1) (by omega)⟩
  · rw [tv q (by omega), tv k hk]
    have mono : ∀ u v, u < v → v < n → tA a w u < tA a w v := fun u v g1 g2 => hm.inc u v g1 g2
    by_cases a1 : q < p
    · rw [if_pos a1]
      by_cases a2 : k < p
      · rw [if_pos a2]; exact mono q k hqk (by omega)
      · rw [if_neg a2]; exact mono q (k + 1) (by omega) (by omega)
    · rw [if_neg a1, if_neg (show ¬ k < p by omega)]
      exact mono (q + 1) (k + 1) (by omega) (by omega)
end RX
