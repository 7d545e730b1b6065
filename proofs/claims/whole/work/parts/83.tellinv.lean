/-! What is told keeps the state in bounds. -/
theorem le0_rk {x : Int32} (h : rkB x = true) : le0 x 30 ∧ 1 ≤ cl x := by
  unfold rkB at h
  simp only [Bool.or_eq_true, decide_eq_true_eq] at h
  rcases h with (((e | e) | e) | e) | e <;> (subst e; exact ⟨⟨by decide, by decide⟩, by decide⟩)
theorem le0_up {x : Int32} {m n : Nat} (h : le0 x m) (hn : m ≤ n) : le0 x n := ⟨h.1, by have := h.2; omega⟩
section TI
variable {i : Nat → Int32} {a : Nat → Nat → Int32}
theorem fe_inv {day : Int32} (hI : INV i a) : INV (feI i a day) (feA a day) := by
  unfold feI feA
  cases feOK a day with
  | false => exact hI
  | true => exact hI
theorem ki_inv {g w k : Int32} (hI : INV i a) : INV i (kiA a g w k) := by
  unfold kiA
  cases h : kiC g k && inB w 0 7 with
  | false => exact hI
  | true =>
    rw [if_pos rfl]
    have h1 := (Bool.and_eq_true_iff.mp h).1
    have hk := le0_in (N := 7) (by omega) (Bool.and_eq_true_iff.mp h1).2
    obtain ⟨b1, b2, b3, b4, b5, b6, b7, b8, b9, b10, b11, b12, b13, b14, b15, b16, b17⟩ := hI
    exact ⟨upd_P (P := fun x => le0 x 7) b1 hk, b2, b3, b4, b5, b6, b7, b8, b9, b10, b11, b12, b13, b14, b15, b16, b17⟩
theorem ru_inv {k w x y : Int32} (hI : INV i a) : INV i (ruT a k w x y) := by
  unfold ruT
  cases h : ruC k w && okR (cl w) x y with
  | false => exact hI
  | true =>
    rw [if_pos rfl]
    have h1 := (Bool.and_eq_true_iff.mp h).1
    have h2 := (Bool.and_eq_true_iff.mp h).2
    have hk := le0_in (N := 7) (by omega) (Bool.and_eq_true_iff.mp h1).1
    have hw := le0_in (N := 4) (by omega) (Bool.and_eq_true_iff.mp h1).2
    have hkb := hk.2
    have hwb := hw.2
    unfold okR at h2
    rw [Bool.and_eq_true_iff] at h2
    have hx : le0 x 2880 := by
      have h3 := h2.1
      split at h3
      · exact le0_up (le0_rk h3).1 (by omega)
      · exact le0_in (N := 2880) (by omega) h3
    have hx0 : cl w = 0 → 1 ≤ cl x ∧ cl x ≤ 30 := fun z => by
      have h3 := h2.1
      rw [if_pos z] at h3
      exact ⟨(le0_rk h3).2, (le0_rk h3).1.2⟩
    have hy : le0 y 20000 := by
      have h3 := h2.2
      unfold mostR at h3
      repeat' split at h3
      · exact le0_up (le0_in (N := 2880) (by omega) h3) (by omega)
      · exact le0_up (le0_in (N := 600) (by omega) h3) (by omega)
      · exact le0_in (N := 20000) (by omega) h3
      · exact le0_up (le0_in (N := 0) (by omega) h3) (by omega)
    obtain ⟨b1, b2, b3, b4, b5, b6, b7, b8, b9, b10, b11, b12, b13, b14, b15, b16, b17⟩ := hI
    refine ⟨b1, fun k' q' g1 g2 => ?_, fun k' q' g1 g2 => ?_, fun k' g1 => ?_, b5, b6, b7, b8, b9, b10, b11, b12, b13, b14, b15, b16, b17⟩
    · show le0 (upd (a 3) (5 * cl k + cl w) x (5 * k' + q')) 2880
      unfold upd
      split
      · exact hx
      · exact b2 k' q' g1 g2
    · show le0 (upd (a 4) (5 * cl k + cl w) y (5 * k' + q')) 20000
      unfold upd
      split
      · exact hy
      · exact b3 k' q' g1 g2
    · show 1 ≤ cl (upd (a 3) (5 * cl k + cl w) x (5 * k')) ∧ cl (upd (a 3) (5 * cl k + cl w) x (5 * k')) ≤ 30
      unfold upd
      split
      · exact hx0 (by omega)
      · exact b4 k' g1
theorem rt_inv {g f c : Int32} (hI : INV i a) : INV (rtI i g f c) (rtT i a g f c) := by
  unfold rtI rtT
  cases h : rtOK i g f c with
  | false => exact hI
  | true =>
    rw [if_pos rfl, if_pos rfl]
    unfold rtOK at h
    obtain ⟨h1, h2, h3⟩ := and3.mp h
    have hf := le0_in (N := 1095) (by omega) (Bool.and_eq_true_iff.mp h1).2
    have hc := le0_in (N := 100000) (by omega) h2
    have hn := of_decide_eq_true h3
    obtain ⟨b1, b2, b3, b4, b5, b6, b7, b8, b9, b10, b11, b12, b13, b14, b15, b16, b17⟩ := hI
    refine ⟨b1, b2, b3, b4, ?_, fun k hk => ?_, b7, b8, b9, b10, b11, b12, b13, b14, b15, b16, b17⟩
    · show le0 (nI (cl (i 9) + 1)) 60
      exact le0_nI (by omega) (by omega)
    · have hk : k < cl (nI (cl (i 9) + 1)) := hk
      rw [cl_nI (by omega)] at hk
      show le0 (upd (a 6) (cl (i 9)) f k) 1095 ∧ le0 (upd (a 7) (cl (i 9)) c k) 100000
      unfold upd
      by_cases z : k = cl (i 9)
      · rw [if_pos z, if_pos z]; exact ⟨hf, hc⟩
      · rw [if_neg z, if_neg z]; exact b6 k (by omega)
theorem su_inv {k f t p : Int32} (hI : INV i a) : INV (suI i k f t p) (suT i a k f t p) := by
  unfold suI suT
  cases h : suOK i k f t p with
  | false => exact hI
  | true =>
    rw [if_pos rfl, if_pos rfl]
    unfold suOK suC at h
    simp only [Bool.and_eq_true_iff] at h
    obtain ⟨⟨⟨⟨h1, h2⟩, h3⟩, h4⟩, h5⟩ := h
    have hk := le0_in (N := 255) (by omega) h1
    have hf := le0_in (N := 1439) (by omega) h2
    have ht := le0_in (N := 1439) (by omega) h3
    have hp := le0_in (N := 20000) (by omega) h4
    have hn := of_decide_eq_true h5
    obtain ⟨b1, b2, b3, b4, b5, b6, b7, b8, b9, b10, b11, b12, b13, b14, b15, b16, b17⟩ := hI
    refine ⟨b1, b2, b3, b4, b5, b6, ?_, fun s hs => ?_, b9, b10, b11, b12, b13, b14, b15, b16, b17⟩
    · show le0 (nI (cl (i 15) + 1)) 12
      exact le0_nI (by omega) (by omega)
    · have hs : s < cl (nI (cl (i 15) + 1)) := hs
      rw [cl_nI (by omega)] at hs
      show le0 (upd (a 8) (cl (i 15)) k s) 255 ∧ le0 (upd (a 9) (cl (i 15)) f s) 1439 ∧ le0 (upd (a 10) (cl (i 15)) t s) 1439 ∧ le0 (upd (a 11) (cl (i 15)) p s) 20000
      unfold upd
      by_cases z : s = cl (i 15)
      · rw [if_pos z, if_pos z, if_pos z, if_pos z]; exact ⟨hk, hf, ht, hp⟩
      · rw [if_neg z, if_neg z, if_neg z, if_neg z]; exact b8 s (by omega)
theorem ex_inv {s t : Int32} (hI : INV i a) : INV i (exT i a s t) := by
  unfold exT
  cases exC i s t && !decide (s = t) with
  | false => exact hI
  | true => exact hI
theorem tg_inv {g w k : Int32} (hI : INV i a) : INV i (tgT a g w k) := by
  unfold tgT
  cases h : inB g 0 5 && tgC w k with
  | false => exact hI
  | true =>
    rw [if_pos rfl]
    have h1 := (Bool.and_eq_true_iff.mp h).2
    have hk := le0_in (N := 1440) (by omega) (Bool.and_eq_true_iff.mp h1).2
    obtain ⟨b1, b2, b3, b4, b5, b6, b7, b8, b9, b10, b11, b12, b13, b14, b15, b16, b17⟩ := hI
    exact ⟨b1, b2, b3, b4, b5, b6, b7, b8, upd_P (P := fun x => le0 x 1440) b9 hk, b10, b11, b12, b13, b14, b15, b16, b17⟩
theorem li_inv {g x y : Int32} (hI : INV i a) : INV i (liT a g x y) := by
  unfold liT
  cases h : inB g 0 5 && liC x y with
  | false => exact hI
  | true =>
    rw [if_pos rfl]
    have h1 := (Bool.and_eq_true_iff.mp h).2
    unfold liC at h1
    obtain ⟨h2, h3, h4⟩ := and3.mp h1
    unfold inB at h2 h3
    rw [Bool.and_eq_true_iff] at h2 h3
    have x1 := of_decide_eq_true h2.1
    have y2 := of_decide_eq_true h3.2
    have xy := of_decide_eq_true h4
    rw [fa_le] at x1 y2 xy
    have e1 : (-100000 : Int32).toInt = -100000 := by decide
    have e2 : (100000 : Int32).toInt = 100000 := by decide
    obtain ⟨b1, b2, b3, b4, b5, b6, b7, b8, b9, b10, b11, b12, b13, b14, b15, b16, b17⟩ := hI
    refine ⟨b1, b2, b3, b4, b5, b6, b7, b8, b9, fun q hq => ?_, b11, b12, b13, b14, b15, b16, b17⟩
    show -100000 ≤ (upd (a 14) (cl g) x q).toInt ∧ (upd (a 14) (cl g) x q).toInt ≤ (upd (a 15) (cl g) y q).toInt ∧ (upd (a 15) (cl g) y q).toInt ≤ 100000
    unfold upd
    by_cases z : q = cl g
    · rw [if_pos z, if_pos z]; omega
    · rw [if_neg z, if_neg z]; exact b10 q hq
theorem wk_inv {g f : Int32} (hI : INV i a) : INV (wkI i g f) (wkT i a g f) := by
  unfold wkI wkT
  cases h : wkOK i g f with
  | false => exact hI
  | true =>
    rw [if_pos rfl, if_pos rfl]
    unfold wkOK at h
    rw [Bool.and_eq_true_iff] at h
    have hg := le0_in (N := 5) (by omega) (Bool.and_eq_true_iff.mp h.1).1
    have hf := le0_in (N := 1095) (by omega) (Bool.and_eq_true_iff.mp h.1).2
    have hn := of_decide_eq_true h.2
    obtain ⟨b1, b2, b3, b4, b5, b6, b7, b8, b9, b10, b11, b12, b13, b14, b15, b16, b17⟩ := hI
    refine ⟨b1, b2, b3, b4, b5, b6, b7, b8, b9, b10, ?_, upd_P (P := fun x => le0 x 5) b12 hg, upd_P (P := fun x => le0 x 1095) b13 hf, b14, b15, b16, b17⟩
    show le0 (nI (cl (i 19) + 1)) 30
    exact le0_nI (by omega) (by omega)
theorem ab_inv {w f t : Int32} (hI : INV i a) : INV i (abA i a w f t) := by
  unfold abA
  cases h : abOK i a w f t with
  | false => exact hI
  | true =>
    rw [if_pos rfl]
    unfold abOK at h
    obtain ⟨_, _, h3⟩ := and3.mp h
    have hn := of_decide_eq_true h3
    obtain ⟨b1, b2, b3, b4, b5, b6, b7, b8, b9, b10, b11, b12, b13, b14, b15, b16, b17⟩ := hI
    exact ⟨b1, b2, b3, b4, b5, b6, b7, b8, b9, b10, b11, b12, b13, upd_P (P := fun x => le0 x 20) b14 (le0_nI (by omega) (by omega)), b15, b16, b17⟩
end TI
