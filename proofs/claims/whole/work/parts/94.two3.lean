/-! A mark, an absence: the other workers' rows are kept; class and reference one after the other. -/
theorem pS_lt (t s : Nat → Nat) : ∀ k, (pS t s k).2.1 ≤ k - 1
  | 0 => Nat.le_refl 0
  | k + 1 => by
    have ih := pS_lt t s k
    show (pnx t s k (pS t s k)).2.1 ≤ k + 1 - 1
    unfold pnx
    repeat' split
    all_goals first
      | (show k ≤ _; omega)
      | (show (pS t s k).2.1 ≤ _; omega)
theorem pSR_cong {t s t' s' : Nat → Nat} {n : Nat} (ht : ∀ k, k < n → t' k = t k) (hs : ∀ k, k < n → s' k = s k) : ∀ k, k ≤ n → pS t' s' k = pS t s k ∧ pR t' s' k = pR t s k
  | 0, _ => ⟨rfl, rfl⟩
  | k + 1, hk => by
    obtain ⟨e1, e2⟩ := pSR_cong ht hs k (by omega)
    have ep : pe t' k (pS t' s' k) = pe t k (pS t s k) := by
      have := pS_lt t s k
      rw [e1]
      unfold pe
      rw [ht k (by omega), ht (pS t s k).2.1 (by omega)]
    constructor
    · show pnx t' s' k (pS t' s' k) = pnx t s k (pS t s k)
      unfold pnx
      rw [ep, hs k (by omega), ht k (by omega), e1]
    · simp only [pR]
      rw [ep, hs k (by omega), e1, e2]
section RO
variable {ri : Nat → Int32} {rA rA' : Nat → Nat → Int32} {rb rb' : Nat → Nat → Int64} {q : Nat}
theorem KR.row (hI : INV ri rA) (h1 : ∀ p o, 16 ≤ p → p < 19 → o ≠ q → rA' p o = rA p o) (h21 : ∀ o, o ≠ q → rA' 21 o = rA 21 o) (h2 : ∀ p o k, 19 ≤ p → p < 21 → o ≠ q → k < 20 → rA' p (20 * o + k) = rA p (20 * o + k)) (h3 : ∀ p o k, 22 ≤ p → p < 24 → o ≠ q → k < 400 → rA' p (400 * o + k) = rA p (400 * o + k)) (hb : ∀ p o m, o ≠ q → m < 36 → rb' p (36 * o + m) = rb p (36 * o + m)) : KR q rA rA' rb rb' := by
  intro o ho ho30
  refine ⟨by unfold gA; rw [h1 16 o (by decide) (by decide) ho], fun i a b hc => ?_⟩
  obtain ⟨c1, c2, c3, c4, c5, c6, c7, c8⟩ := hc
  have n4 := (hI.wm o ho30).n4
  have a20 : cl (rA 18 o) ≤ 20 := (hI.wa o ho30).2
  have n : nA rA' o = nA rA o := by unfold nA; rw [h21 o ho]
  have t : ∀ k, k < nA rA o → tA rA' o k = tA rA o k := fun k hk => by unfold tA; rw [h3 22 o k (by decide) (by decide) ho (by omega)]
  have s : ∀ k, k < nA rA o → sA rA' o k = sA rA o k := fun k hk => by unfold sA; rw [h3 23 o k (by decide) (by decide) ho (by omega)]
  have r : rolA rA' o = rolA rA o := by unfold rolA; rw [n]; exact (pSR_cong t s _ (Nat.le_refl _)).2
  refine ⟨?_, ?_, ?_, ?_, ?_, ?_, ?_, fun m hm => ?_⟩
  · rw [h1 17 o (by decide) (by decide) ho]; exact c1
  · rw [h21 o ho]; exact c2
  · rw [h1 18 o (by decide) (by decide) ho]; exact c3
  · rw [n]; intro k hk; rw [h3 22 o k (by decide) (by decide) ho (by omega)]; exact c4 k hk
  · rw [n]; intro k hk; rw [h3 23 o k (by decide) (by decide) ho (by omega)]; exact c5 k hk
  · rw [n, r]; exact c6
  · rw [h1 18 o (by decide) (by decide) ho]; intro k hk; rw [h2 19 o k (by decide) (by decide) ho (by omega), h2 20 o k (by decide) (by decide) ho (by omega)]; exact c7 k hk
  · rw [hb 32 o m ho hm, hb 33 o m ho hm, hb 34 o m ho hm, hb 35 o m ho hm, hb 36 o m ho hm]; exact c8 m hm
theorem insF_o {α : Type} {f : Nat → α} {p q k : Nat} {x : α} (hp : p ≤ q) (h : k < p ∨ q < k) : insF f p q x k = f k := by
  unfold insF
  by_cases z : k < p
  · rw [if_pos z]
  · rw [if_neg z, if_neg (by omega), if_neg (by omega)]
theorem remF_o {α : Type} {f : Nat → α} {p q k : Nat} (h : k < p ∨ q ≤ k) : remF f p q k = f k := by
  unfold remF
  by_cases z : k < p
  · rw [if_pos z]
  · rw [if_neg z, if_neg (by omega)]
theorem updL_n {f : Nat → Int64} {k j : Nat} {x : Int64} (h : j ≠ k) : vp_updL f k x j = f j := by
  unfold vp_updL
  rw [if_neg h]
theorem bookA_o {w o m p : Nat} {sg : Int64} (hc : cl (ri 39) < 36) (ho : o ≠ w) (hm : m < 36) : bookA ri rA rb w sg p (36 * o + m) = rb p (36 * o + m) := by
  unfold bookA
  by_cases z : p = 36
  · subst z
    rw [va_s, updL_n (by omega)]
  · rw [va_n z]
    by_cases y : p = 35
    · subst y
      rw [va_s, updL_n (by omega)]
    · rw [va_n y]
theorem KR.rf : KR q rA rA rb rb := fun _ _ _ => ⟨rfl, fun _ _ _ h => h⟩
theorem cm_kr {w day mi s : Int32} {beh : Bool} (hI : INV ri rA) (hw : cl w < 30) : KR (cl w) rA (cmA ri rA w day mi s beh) rb (cmB ri rA rb w day mi s beh) := by
  unfold cmA cmB
  by_cases z : cmOK ri rA w day mi s beh = true
  · rw [if_pos z, if_pos z]
    have z4 : cm4 rA w = true := by unfold cmOK at z; simp only [Bool.and_eq_true] at z; exact z.2
    have z3 : cm3 ri day beh = true := by unfold cmOK at z; simp only [Bool.and_eq_true] at z; exact z.1.2
    have n4 : nA rA (cl w) < 400 := by unfold cm4 at z4; simp only [Bool.and_eq_true, decide_eq_true_eq] at z4; exact z4.1
    have c36 : cl (ri 39) < 36 := by unfold cm3 at z3; simp only [Bool.and_eq_true, decide_eq_true_eq] at z3; exact z3.2
    have at' : atA rA (cl w) (cmT day mi) ≤ nA rA (cl w) := atA_le
    refine KR.row hI (fun p o h1 h2 ho => ?_) (fun o ho => ?_) (fun p o k h1 h2 ho hk => ?_) (fun p o k h1 h2 ho hk => ?_) (fun p o m ho hm => ?_)
    · unfold inA; rw [rw_o (by omega) (by omega) (by omega)]
    · unfold inA; rw [rw_21]; unfold upd; rw [if_neg ho]
    · unfold inA; rw [rw_o (by omega) (by omega) (by omega)]
    · unfold inA
      rcases (show p = 22 ∨ p = 23 by omega) with e | e <;> subst e
      · rw [rw_22, insF_o (by omega) (by omega)]
      · rw [rw_23, insF_o (by omega) (by omega)]
    · rw [bookA_o (by rw [va_n (by decide)]; exact c36) ho hm, bookA_o c36 ho hm]
  · rw [if_neg z, if_neg z]; exact KR.rf
theorem um_kr {w day mi : Int32} (hI : INV ri rA) (hw : cl w < 30) (hd : mOf (cl day) < 36) : KR (cl w) rA (umA ri rA w day mi) rb (umB ri rA rb w day mi) := by
  unfold umA umB
  by_cases z : umOK ri rA w day mi = true
  · rw [if_pos z, if_pos z]
    have z3 : um3 ri day = true := by unfold umOK at z; simp only [Bool.and_eq_true] at z; exact z.2
    have n4 := (hI.wm (cl w) hw).n4
    have c36 : cl (ri 39) < 36 := by unfold um3 at z3; simp only [decide_eq_true_eq] at z3; omega
    have z2 : um2 rA w day mi = true := by unfold umOK at z; simp only [Bool.and_eq_true] at z; exact z.1.2
    have at' : atA rA (cl w) (cmT day mi) < nA rA (cl w) := by unfold um2 stA at z2; simp only [Bool.and_eq_true, decide_eq_true_eq] at z2; exact z2.2.1
    refine KR.row hI (fun p o h1 h2 ho => ?_) (fun o ho => ?_) (fun p o k h1 h2 ho hk => ?_) (fun p o k h1 h2 ho hk => ?_) (fun p o m ho hm => ?_)
    · unfold unA; rw [rw_o (by omega) (by omega) (by omega)]
    · unfold unA; rw [rw_21]; unfold upd; rw [if_neg ho]
    · unfold unA; rw [rw_o (by omega) (by omega) (by omega)]
    · unfold unA
      rcases (show p = 22 ∨ p = 23 by omega) with e | e <;> subst e
      · rw [rw_22, remF_o (by omega)]
      · rw [rw_23, remF_o (by omega)]
    · rw [bookA_o (by rw [va_n (by decide)]; exact c36) ho hm, bookA_o c36 ho hm]
  · rw [if_neg z, if_neg z]; exact KR.rf
theorem ab_kr {w f t : Int32} (hI : INV ri rA) (hw : cl w < 30) : KR (cl w) rA (abA ri rA w f t) rb rb := by
  unfold abA
  by_cases z : abOK ri rA w f t = true
  · rw [if_pos z]
    have a20 : cl (rA 18 (cl w)) < 20 := by unfold abOK at z; simp only [Bool.and_eq_true, decide_eq_true_eq] at z; exact z.2
    refine KR.row hI (fun p o h1 h2 ho => ?_) (fun o ho => ?_) (fun p o k h1 h2 ho hk => ?_) (fun p o k h1 h2 ho hk => ?_) (fun p o m ho hm => rfl)
    · by_cases e : p = 18
      · subst e; rw [va_s]; unfold upd; rw [if_neg ho]
      · rw [va_n e, va_n (by omega), va_n (by omega)]
    · rw [va_n (by decide), va_n (by decide), va_n (by decide)]
    · rw [va_n (by omega)]
      rcases (show p = 19 ∨ p = 20 by omega) with e | e <;> subst e
      · rw [va_n (by decide), va_s]; unfold upd; rw [if_neg (by omega)]
      · rw [va_s]; unfold upd; rw [if_neg (by omega)]
    · rw [va_n (by omega), va_n (by omega), va_n (by omega)]
  · rw [if_neg z]; exact KR.rf
theorem cm_g {w day mi s : Int32} {beh : Bool} {o : Nat} : gA (cmA ri rA w day mi s beh) o = gA rA o := by
  unfold cmA
  split
  · unfold gA inA; rw [rw_o (by decide) (by decide) (by decide)]
  · rfl
theorem um_g {w day mi : Int32} {o : Nat} : gA (umA ri rA w day mi) o = gA rA o := by
  unfold umA
  split
  · unfold gA unA; rw [rw_o (by decide) (by decide) (by decide)]
  · rfl
theorem ab_g {w f t : Int32} {o : Nat} : gA (abA ri rA w f t) o = gA rA o := by
  unfold abA
  split
  · unfold gA; rw [va_n (by decide), va_n (by decide), va_n (by decide)]
  · rfl
theorem cm_19 {w day mi s : Int32} {beh : Bool} : cmI ri rA w day mi s beh 19 = ri 19 := by
  unfold cmI
  split
  · exact va_n (by decide)
  · rfl
theorem um_19 {w day mi : Int32} : umI ri rA w day mi 19 = ri 19 := by
  unfold umI
  split
  · exact va_n (by decide)
  · rfl
end RO
section TW
variable {E : am_E} {d : Nat}
theorem t_mark {w day mi s : Int32} (hE : E 3 = (37, fun j => am_MS.getD j 0)) : TWO E (d + 63) tX8_mark tX9_mark [.int w, .int day, .int mi, .int s] := by
  rintro G ⟨ri, rj, rA, rb, h⟩
  obtain ⟨si, sj, sA, sc, hR⟩ := x9_mark (E := E) (d := d + 1) (i := ri) (j := rj) (a := rA) (b := rb) (w := w) (day := day) (mi := mi) (s := s) h.inv
  cases hw : inB w 0 (ri 19 - 1) with
  | false =>
    have ok : cmOK ri rA w day mi s false = false := by unfold cmOK okL; rw [hw]; rfl
    have okl : okL ri w day = false := by unfold okL; rw [hw]; rfl
    have eI : cmI ri rA w day mi s false = ri := by unfold cmI; rw [ok]; rfl
    have eA : cmA ri rA w day mi s false = rA := by unfold cmA; rw [ok]; rfl
    have eB : cmB ri rA rb w day mi s false = rb := by unfold cmB; rw [ok]; rfl
    have eQ : cmQ ri rA w day mi s false = -1 := by unfold cmQ; rw [okl]; rfl
    rw [eQ, eB] at hR
    rw [eI, eA] at sc
    obtain ⟨i, j, a, hc, L⟩ := h.cls (E := E)
    obtain ⟨G1, g1, h1⟩ := L (xo_mark_no (E := E) (d := d + 53) (j := j) (W := Wl (cl (ri 19))) (x := day) (y := mi) (z := s) h.inv hc hw) rfl rfl hc h.inv rfl (KR.of fun p _ _ => rfl)
    obtain ⟨G2, g2, h2⟩ := h1.ref hR rfl rfl
    exact ⟨G1, G2, _, g1, g2, h1.hx, _, _, _, _, h2.scr sc⟩
  | true =>
    obtain ⟨i, j, a, b, hc, hcw, hWq, L⟩ := h.wrk (E := E) (q := cl w) (h.inv.wIn hw).2.2
    obtain ⟨i', j', a', b', hc', hw', hD⟩ := x8_mark (E := E) (d := d + 52) (j := j) (day := day) (mi := mi) (s := s) ⟨hE, h.inv, hc, hcw, hw, hWq⟩
    obtain ⟨G1, g1, h1⟩ := L hD rfl rfl hc' hw' (cm_inv h.inv) cm_19 cm_g (cm_kr h.inv (h.inv.wIn hw).2.1)
    obtain ⟨G2, g2, h2⟩ := h1.ref hR rfl rfl
    exact ⟨G1, G2, _, g1, g2, h1.hx, _, _, _, _, h2.scr sc⟩
theorem t_late {w day mi s : Int32} (hE : E 3 = (37, fun j => am_MS.getD j 0)) : TWO E (d + 63) tX8_late tX9_late [.int w, .int day, .int mi, .int s] := by
  rintro G ⟨ri, rj, rA, rb, h⟩
  obtain ⟨si, sj, sA, sc, hR⟩ := x9_late (E := E) (d := d + 1) (i := ri) (j := rj) (a := rA) (b := rb) (w := w) (day := day) (mi := mi) (s := s) h.inv
  cases hw : inB w 0 (ri 19 - 1) with
  | false =>
    have ok : cmOK ri rA w day mi s true = false := by unfold cmOK okL; rw [hw]; rfl
    have okl : okL ri w day = false := by unfold okL; rw [hw]; rfl
    have eI : cmI ri rA w day mi s true = ri := by unfold cmI; rw [ok]; rfl
    have eA : cmA ri rA w day mi s true = rA := by unfold cmA; rw [ok]; rfl
    have eB : cmB ri rA rb w day mi s true = rb := by unfold cmB; rw [ok]; rfl
    have eQ : cmQ ri rA w day mi s true = -1 := by unfold cmQ; rw [okl]; rfl
    rw [eQ, eB] at hR
    rw [eI, eA] at sc
    obtain ⟨i, j, a, hc, L⟩ := h.cls (E := E)
    obtain ⟨G1, g1, h1⟩ := L (xo_late_no (E := E) (d := d + 53) (j := j) (W := Wl (cl (ri 19))) (x := day) (y := mi) (z := s) h.inv hc hw) rfl rfl hc h.inv rfl (KR.of fun p _ _ => rfl)
    obtain ⟨G2, g2, h2⟩ := h1.ref hR rfl rfl
    exact ⟨G1, G2, _, g1, g2, h1.hx, _, _, _, _, h2.scr sc⟩
  | true =>
    obtain ⟨i, j, a, b, hc, hcw, hWq, L⟩ := h.wrk (E := E) (q := cl w) (h.inv.wIn hw).2.2
    obtain ⟨i', j', a', b', hc', hw', hD⟩ := x8_late (E := E) (d := d + 52) (j := j) (day := day) (mi := mi) (s := s) ⟨hE, h.inv, hc, hcw, hw, hWq⟩
    obtain ⟨G1, g1, h1⟩ := L hD rfl rfl hc' hw' (cm_inv h.inv) cm_19 cm_g (cm_kr h.inv (h.inv.wIn hw).2.1)
    obtain ⟨G2, g2, h2⟩ := h1.ref hR rfl rfl
    exact ⟨G1, G2, _, g1, g2, h1.hx, _, _, _, _, h2.scr sc⟩
theorem t_unmark {w day mi : Int32} (hE : E 3 = (37, fun j => am_MS.getD j 0)) : TWO E (d + 63) tX8_unmark tX9_unmark [.int w, .int day, .int mi] := by
  rintro G ⟨ri, rj, rA, rb, h⟩
  obtain ⟨si, sj, sA, sc, hR⟩ := x9_unmark (E := E) (d := d + 2) (i := ri) (j := rj) (a := rA) (b := rb) (w := w) (day := day) (mi := mi) h.inv
  cases hw : inB w 0 (ri 19 - 1) with
  | false =>
    have ok : umOK ri rA w day mi = false := by unfold umOK okL; rw [hw]; rfl
    have okl : okL ri w day = false := by unfold okL; rw [hw]; rfl
    have eI : umI ri rA w day mi = ri := by unfold umI; rw [ok]; rfl
    have eA : umA ri rA w day mi = rA := by unfold umA; rw [ok]; rfl
    have eB : umB ri rA rb w day mi = rb := by unfold umB; rw [ok]; rfl
    have eQ : umQ ri rA w day mi = -1 := by unfold umQ; rw [okl]; rfl
    rw [eQ, eB] at hR
    rw [eI, eA] at sc
    obtain ⟨i, j, a, hc, L⟩ := h.cls (E := E)
    obtain ⟨G1, g1, h1⟩ := L (xo_unmark_no (E := E) (d := d + 54) (j := j) (W := Wl (cl (ri 19))) (x := day) (y := mi) h.inv hc hw) rfl rfl hc h.inv rfl (KR.of fun p _ _ => rfl)
    obtain ⟨G2, g2, h2⟩ := h1.ref hR rfl rfl
    exact ⟨G1, G2, _, g1, g2, h1.hx, _, _, _, _, h2.scr sc⟩
  | true =>
    have KR0 : KR (cl w) rA (umA ri rA w day mi) rb (umB ri rA rb w day mi) := by
      by_cases hd : mOf (cl day) < 36
      · exact um_kr h.inv (h.inv.wIn hw).2.1 hd
      · have ok : umOK ri rA w day mi = false := by
          cases y : umOK ri rA w day mi with
          | false => rfl
          | true =>
            exfalso
            apply hd
            have y1 : okL ri w day = true := by unfold umOK at y; simp only [Bool.and_eq_true] at y; exact y.1.1
            exact (mOf_sp (dIn (okL_t.mp y1).2).2).1
        unfold umA umB
        rw [ok]
        exact KR.rf
    obtain ⟨i, j, a, b, hc, hcw, hWq, L⟩ := h.wrk (E := E) (q := cl w) (h.inv.wIn hw).2.2
    obtain ⟨i', j', a', b', hc', hw', hD⟩ := x8_unmark (E := E) (d := d + 53) (j := j) (day := day) (mi := mi) ⟨hE, h.inv, hc, hcw, hw, hWq⟩
    obtain ⟨G1, g1, h1⟩ := L hD rfl rfl hc' hw' (um_inv h.inv) um_19 um_g KR0
    obtain ⟨G2, g2, h2⟩ := h1.ref hR rfl rfl
    exact ⟨G1, G2, _, g1, g2, h1.hx, _, _, _, _, h2.scr sc⟩
theorem t_absent {w f t : Int32} (hE : E 3 = (37, fun j => am_MS.getD j 0)) : TWO E (d + 63) tX8_absent tX9_absent [.int w, .int f, .int t] := by
  rintro G ⟨ri, rj, rA, rb, h⟩
  have hR := x9_absent (E := E) (d := d + 3) (i := ri) (j := rj) (a := rA) (b := rb) (w := w) (f := f) (t := t) h.inv
  cases hw : inB w 0 (ri 19 - 1) with
  | false =>
    have ok : abC ri w f t = false := by unfold abC; rw [hw]; rfl
    have eA : abA ri rA w f t = rA := by unfold abA abOK; rw [ok]; rfl
    have eQ : abQ ri rA w f t = -1 := by unfold abQ; rw [ok]; rfl
    rw [eQ, eA] at hR
    obtain ⟨i, j, a, hc, L⟩ := h.cls (E := E)
    obtain ⟨G1, g1, h1⟩ := L (xo_absent_no (E := E) (d := d + 54) (j := j) (W := Wl (cl (ri 19))) (x := f) (y := t) h.inv hc hw) rfl rfl hc h.inv rfl (KR.of fun p _ _ => rfl)
    obtain ⟨G2, g2, h2⟩ := h1.ref hR rfl rfl
    exact ⟨G1, G2, _, g1, g2, h1.hx, _, _, _, _, h2⟩
  | true =>
    obtain ⟨i, j, a, b, hc, hcw, hWq, L⟩ := h.wrk (E := E) (q := cl w) (h.inv.wIn hw).2.2
    obtain ⟨i', a', hc', hw', hD⟩ := x8_absent (E := E) (d := d + 53) (j := j) (f := f) (t := t) ⟨hE, h.inv, hc, hcw, hw, hWq⟩
    obtain ⟨G1, g1, h1⟩ := L hD rfl rfl hc' hw' (ab_inv h.inv) rfl ab_g (ab_kr h.inv (h.inv.wIn hw).2.1)
    obtain ⟨G2, g2, h2⟩ := h1.ref hR rfl rfl
    exact ⟨G1, G2, _, g1, g2, h1.hx, _, _, _, _, h2⟩
end TW
