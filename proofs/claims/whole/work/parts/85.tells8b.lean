section CL
variable {i i' ri ri' : Nat → Int32} {a a' rA rA' : Nat → Nat → Int32}
/-- groups and rules stay -/
theorem CX.low (hc : CX i a ri rA) (hi : ∀ k, 20 ≤ k → i' k = i k) (ha : ∀ p, 20 ≤ p → a' p = a p) (r2 : rA' 2 = rA 2) (r13 : rA' 13 = rA 13) (r14 : rA' 14 = rA 14) (r15 : rA' 15 = rA 15) (r3 : rA' 3 = rA 3) (r4 : rA' 4 = rA 4) : (∀ g, g < 6 → i' (20 + 3 * g) = nI g ∧ i' (21 + 3 * g) = rA' 14 g ∧ i' (22 + 3 * g) = rA' 15 g) ∧ (∀ g k, g < 6 → k < 8 → a' (21 + 3 * g) k = rA' 2 (8 * g + k)) ∧ (∀ g k, g < 6 → k < 7 → a' (22 + 3 * g) k = rA' 13 (7 * g + k)) ∧ (∀ k q, k < 8 → q < 5 → a' (39 + 3 * k) q = rA' 3 (5 * k + q) ∧ a' (40 + 3 * k) q = rA' 4 (5 * k + q)) := by
  rw [r2, r13, r14, r15, r3, r4]
  refine ⟨fun g hg => ?_, fun g k hg hk => ?_, fun g k hg hk => ?_, fun k q hk hq => ?_⟩
  · rw [hi _ (by omega), hi _ (by omega), hi _ (by omega)]; exact hc.gn g hg
  · rw [ha _ (by omega)]; exact hc.gk g k hg hk
  · rw [ha _ (by omega)]; exact hc.gt g k hg hk
  · rw [ha _ (by omega), ha _ (by omega)]; exact hc.ra k q hk hq
end CL
section XO
variable {E : am_E} {d : Nat} {i ri : Nat → Int32} {j : Nat → Int64} {a rA : Nat → Nat → Int32} {W : Nat → Option Nat}
theorem xo_findGroup_no {g : Int32} (h : inB g 0 5 = false) : am_D E (d + 2) tX8_findGroup [.ref 0, .int g] (am_L (xo i j a W)) 0 0 (some .null) (am_L (xo i j a W)) := by
  refine am_D_of (Nat.le_of_ble_eq_true rfl) ?_
  refine ev_go 999 rfl trivial ?_
  refine ev_call0 rfl (Nat.le_of_ble_eq_true rfl) (fun z => by cases z) (x8_isWithin (d := d) (v := g) (lo := 0) (hi := 5)) ?_
  rw [h]
  refine ev_go 999 rfl trivial ?_
  first | refine ev_pos (by decide) ?_ | refine ev_neg (by decide) ?_
  refine ev_go 999 rfl trivial ?_
  exact ev_ret rfl trivial ⟨rfl, rfl⟩
theorem xo_findGroup {g : Int32} (h : inB g 0 5 = true) : am_D E (d + 2) tX8_findGroup [.ref 0, .int g] (am_L (xo i j a W)) 0 0 (some (.ref (20 + 3 * cl g))) (am_L (xo i j a W)) := by
  have hg := le0_in (N := 5) (by omega) h
  have hb := hg.2
  refine am_D_of (Nat.le_of_ble_eq_true rfl) ?_
  refine ev_go 999 rfl trivial ?_
  refine ev_call0 rfl (Nat.le_of_ble_eq_true rfl) (fun z => by cases z) (x8_isWithin (d := d) (v := g) (lo := 0) (hi := 5)) ?_
  rw [h]
  refine ev_go 999 rfl trivial ?_
  first | refine ev_pos (by decide) ?_ | refine ev_neg (by decide) ?_
  refine ev_go 999 rfl trivial ?_
  refine ev_aa (v := .ref (20 + 3 * cl g)) rfl rfl (by omega) (by omega) (by rw [hg.1]; exact vp_in_nI (by omega) (by omega)) (by show va_rf (grf (cl g)) = _; unfold grf; rw [if_pos (by omega)]; rfl) ?_
  refine ev_go 999 rfl trivial ?_
  exact ev_ret rfl trivial ⟨rfl, rfl⟩
theorem xo_findRules_no {g : Int32} (h : inB g 0 7 = false) : am_D E (d + 2) tX8_findRules [.ref 0, .int g] (am_L (xo i j a W)) 0 0 (some .null) (am_L (xo i j a W)) := by
  refine am_D_of (Nat.le_of_ble_eq_true rfl) ?_
  refine ev_go 999 rfl trivial ?_
  refine ev_call0 rfl (Nat.le_of_ble_eq_true rfl) (fun z => by cases z) (x8_isWithin (d := d) (v := g) (lo := 0) (hi := 7)) ?_
  rw [h]
  refine ev_go 999 rfl trivial ?_
  first | refine ev_pos (by decide) ?_ | refine ev_neg (by decide) ?_
  refine ev_go 999 rfl trivial ?_
  exact ev_ret rfl trivial ⟨rfl, rfl⟩
theorem xo_findRules {g : Int32} (h : inB g 0 7 = true) : am_D E (d + 2) tX8_findRules [.ref 0, .int g] (am_L (xo i j a W)) 0 0 (some (.ref (38 + 3 * cl g))) (am_L (xo i j a W)) := by
  have hg := le0_in (N := 7) (by omega) h
  have hb := hg.2
  refine am_D_of (Nat.le_of_ble_eq_true rfl) ?_
  refine ev_go 999 rfl trivial ?_
  refine ev_call0 rfl (Nat.le_of_ble_eq_true rfl) (fun z => by cases z) (x8_isWithin (d := d) (v := g) (lo := 0) (hi := 7)) ?_
  rw [h]
  refine ev_go 999 rfl trivial ?_
  first | refine ev_pos (by decide) ?_ | refine ev_neg (by decide) ?_
  refine ev_go 999 rfl trivial ?_
  refine ev_aa (v := .ref (38 + 3 * cl g)) rfl rfl (by omega) (by omega) (by rw [hg.1]; exact vp_in_nI (by omega) (by omega)) (by show va_rf (ruf (cl g)) = _; unfold ruf; rw [if_pos (by omega)]; rfl) ?_
  refine ev_go 999 rfl trivial ?_
  exact ev_ret rfl trivial ⟨rfl, rfl⟩
theorem xo_feast {day : Int32} (hc : CX i a ri rA) : ∃ i' a', CX i' a' (feI ri rA day) (feA rA day) ∧ am_D E (d + 9) tX8_feast [.ref 0, .int day] (am_L (xo i j a W)) 0 0 (some (.int (feQ rA day))) (am_L (xo i' j a' W)) := by
  unfold feI feA feQ feOK
  cases h : inB day 0 1095 with
  | false =>
    refine ⟨i, a, hc, ?_⟩
    rw [if_neg (by decide)]
    refine am_D_of (Nat.le_of_ble_eq_true rfl) ?_
    refine ev_go 999 rfl trivial ?_
    refine ev_call0 rfl (Nat.le_of_ble_eq_true rfl) (fun z => by cases z) (x8_isDay (d := d + 6) (v := day)) ?_
    rw [h]
    refine ev_go 999 rfl trivial ?_
    first | refine ev_pos (by decide) ?_ | refine ev_neg (by decide) ?_
    refine ev_go 999 rfl trivial ?_
    exact ev_ret rfl trivial ⟨rfl, rfl⟩
  | true =>
    obtain ⟨d1, d2⟩ := dIn h
    have v : vp_in day 1096 := by rw [d1]; exact vp_in_nI d2 (by omega)
    have f1 := hc.fe _ d2
    rw [if_pos rfl, Bool.true_and]
    by_cases z : rA 1 (cl day) = 0
    · rw [if_pos z, decide_eq_true z, if_pos rfl, if_pos rfl]
      refine ⟨va_up i 0 (i 0 + 1), va_up a 1 (upd (a 1) (cl day) 1), ?_, ?_⟩
      · have hl := hc.low (i' := va_up i 0 (i 0 + 1)) (a' := va_up a 1 (upd (a 1) (cl day) 1)) (rA' := va_up rA 1 (upd (rA 1) (cl day) 1)) (fun k hk => va_n (by omega)) (fun p hp => va_n (by omega)) rfl rfl rfl rfl rfl rfl
        obtain ⟨c1, c2, c3, c4, c5, c6, c7, c8, c9, c10, c11, c12, c13, c14⟩ := hc
        refine ⟨?_, c2, c3, c4, c5, c6, hl.1, hl.2.1, hl.2.2.1, fun k hk => ?_, hl.2.2.2, c12, c13, c14⟩
        · rw [va_s, va_s, c1]
        · rw [va_s, va_s]
          unfold upd
          split
          · rfl
          · exact c10 k hk
      · refine am_D_of (Nat.le_of_ble_eq_true rfl) ?_
        refine ev_go 999 rfl trivial ?_
        refine ev_call0 rfl (Nat.le_of_ble_eq_true rfl) (fun z => by cases z) (x8_isDay (d := d + 6) (v := day)) ?_
        rw [h]
        refine ev_go 999 rfl trivial ?_
        first | refine ev_pos (by decide) ?_ | refine ev_neg (by decide) ?_
        refine ev_go 999 rfl ⟨v, trivial⟩ ?_
        refine ev_pos (by show a 1 (cl day) = 0; rw [f1]; exact z) ?_
        refine ev_go 27 rfl ⟨v, trivial⟩ ?_
        refine ev_M (show _ = am_L (xo i j (va_up a 1 (upd (a 1) (cl day) 1)) W) by rw [am_w_L (Nat.le_of_ble_eq_true rfl)]; rfl) ?_
        refine ev_go 37 rfl trivial ?_
        refine ev_M (show _ = am_L (xo (va_up i 0 (i 0 + 1)) j (va_up a 1 (upd (a 1) (cl day) 1)) W) by rw [am_w_L (Nat.le_of_ble_eq_true rfl)]; rfl) ?_
        refine ev_go 999 rfl trivial ?_
        exact ev_ret rfl trivial ⟨rfl, rfl⟩
    · rw [if_neg z, decide_eq_false z, if_neg (by decide), if_neg (by decide)]
      refine ⟨i, a, hc, ?_⟩
      refine am_D_of (Nat.le_of_ble_eq_true rfl) ?_
      refine ev_go 999 rfl trivial ?_
      refine ev_call0 rfl (Nat.le_of_ble_eq_true rfl) (fun z => by cases z) (x8_isDay (d := d + 6) (v := day)) ?_
      rw [h]
      refine ev_go 999 rfl trivial ?_
      first | refine ev_pos (by decide) ?_ | refine ev_neg (by decide) ?_
      refine ev_go 999 rfl ⟨v, trivial⟩ ?_
      refine ev_neg (by show ¬ a 1 (cl day) = 0; rw [f1]; exact z) ?_
      refine ev_go 999 rfl trivial ?_
      exact ev_ret rfl trivial ⟨rfl, rfl⟩
theorem xo_kind {g w k : Int32} (hc : CX i a ri rA) : ∃ a', CX i a' ri (kiA rA g w k) ∧ am_D E (d + 9) tX8_kind [.ref 0, .int g, .int w, .int k] (am_L (xo i j a W)) 0 0 (some (.int (kiQ rA g w k))) (am_L (xo i j a' W)) := by
  unfold kiQ kiA kiC
  cases h : inB g 0 5 with
  | false =>
    refine ⟨a, hc, ?_⟩
    refine am_D_of (Nat.le_of_ble_eq_true rfl) ?_
    refine ev_go 999 rfl trivial ?_
    refine ev_call0 rfl (Nat.le_of_ble_eq_true rfl) (fun _ => ⟨_, _, _, rfl, rfl⟩) (xo_findGroup_no (d := d + 6) h) ?_
    refine ev_go 999 rfl trivial ?_
    refine ev_go 999 rfl trivial ?_
    exact ev_ret rfl trivial ⟨rfl, rfl⟩
  | true =>
  have hfg := xo_findGroup (E := E) (d := d + 6) (i := i) (j := j) (a := a) (W := W) h
  rw [Bool.true_and]
  cases h2 : inB k 0 7 with
  | false =>
    refine ⟨a, hc, ?_⟩
    refine am_D_of (Nat.le_of_ble_eq_true rfl) ?_
    refine ev_go 999 rfl trivial ?_
    refine ev_call0 rfl (Nat.le_of_ble_eq_true rfl) (fun _ => ⟨_, _, _, rfl, rfl⟩) hfg ?_
    refine ev_go 999 rfl trivial ?_
    refine ev_go 999 rfl trivial ?_
    refine ev_call0 rfl (Nat.le_of_ble_eq_true rfl) (fun z => by cases z) (x8_isWithin (d := d + 7) (v := k) (lo := 0) (hi := 7)) ?_
    rw [h2]
    refine ev_go 999 rfl trivial ?_
    first | refine ev_pos (by decide) ?_ | refine ev_neg (by decide) ?_
    refine ev_go 999 rfl trivial ?_
    exact ev_ret rfl trivial ⟨rfl, rfl⟩
  | true =>
  rw [if_pos rfl, Bool.true_and]
  cases h3 : inB w 0 7 with
  | false =>
    refine ⟨a, hc, ?_⟩
    refine am_D_of (Nat.le_of_ble_eq_true rfl) ?_
    refine ev_go 999 rfl trivial ?_
    refine ev_call0 rfl (Nat.le_of_ble_eq_true rfl) (fun _ => ⟨_, _, _, rfl, rfl⟩) hfg ?_
    refine ev_go 999 rfl trivial ?_
    refine ev_go 999 rfl trivial ?_
    refine ev_call0 rfl (Nat.le_of_ble_eq_true rfl) (fun z => by cases z) (x8_isWithin (d := d + 7) (v := k) (lo := 0) (hi := 7)) ?_
    rw [h2]
    refine ev_go 999 rfl trivial ?_
    first | refine ev_pos (by decide) ?_ | refine ev_neg (by decide) ?_
    refine ev_go 999 rfl trivial ?_
    refine ev_call0 rfl (Nat.le_of_ble_eq_true rfl) (fun z => by cases z) (x8_isWithin (d := d + 7) (v := w) (lo := 0) (hi := 7)) ?_
    rw [h3]
    refine ev_go 999 rfl trivial ?_
    first | refine ev_pos (by decide) ?_ | refine ev_neg (by decide) ?_
    refine ev_go 999 rfl trivial ?_
    exact ev_ret rfl trivial ⟨rfl, rfl⟩
  | true =>
  rw [if_pos rfl, if_pos rfl]
  have hg := le0_in (N := 5) (by omega) h
  have hw := le0_in (N := 7) (by omega) h3
  have gb := hg.2
  have wb := hw.2
  have v : vp_in w 8 := by rw [hw.1]; exact vp_in_nI (by omega) (by omega)
  refine ⟨va_up a (21 + 3 * cl g) (upd (a (21 + 3 * cl g)) (cl w) k), ?_, ?_⟩
  · obtain ⟨c1, c2, c3, c4, c5, c6, c7, c8, c9, c10, c11, c12, c13, c14⟩ := hc
    have o : ∀ p, p ≠ 21 + 3 * cl g → va_up a (21 + 3 * cl g) (upd (a (21 + 3 * cl g)) (cl w) k) p = a p := fun p hp => va_n hp
    refine ⟨c1, c2, c3, c4, c5, c6, c7, fun g' k' hg' hk' => ?_, fun g' k' hg' hk' => ?_, ?_, fun q r hq hr => ?_, ?_, ?_, ?_⟩
    · show _ = upd (rA 2) (8 * cl g + cl w) k (8 * g' + k')
      by_cases z : g' = cl g
      · rw [z, va_s]
        unfold upd
        by_cases y : k' = cl w
        · rw [if_pos y, if_pos (by omega)]
        · rw [if_neg y, if_neg (by omega)]; exact c8 _ _ (by omega) hk'
      · rw [o _ (by omega)]
        unfold upd
        rw [if_neg (by omega)]
        exact c8 g' k' hg' hk'
    · rw [o _ (by omega)]; exact c9 g' k' hg' hk'
    · rw [o 1 (by omega)]; exact c10
    · rw [o _ (by omega), o _ (by omega)]; exact c11 q r hq hr
    · rw [o 5 (by omega), o 6 (by omega), o 7 (by omega)]; exact c12
    · rw [o 9 (by omega), o 10 (by omega), o 11 (by omega), o 12 (by omega)]; exact c13
    · rw [o 13 (by omega)]; exact c14
  · have eq : a (21 + 3 * cl g) (cl w) = rA 2 (8 * cl g + cl w) := hc.gk _ _ (by omega) (by omega)
    rw [← eq]
    refine am_D_of (Nat.le_of_ble_eq_true rfl) ?_
    refine ev_go 999 rfl trivial ?_
    refine ev_call0 rfl (Nat.le_of_ble_eq_true rfl) (fun _ => ⟨_, _, _, rfl, rfl⟩) hfg ?_
    refine ev_go 999 rfl trivial ?_
    refine ev_go 999 rfl trivial ?_
    refine ev_call0 rfl (Nat.le_of_ble_eq_true rfl) (fun z => by cases z) (x8_isWithin (d := d + 7) (v := k) (lo := 0) (hi := 7)) ?_
    rw [h2]
    refine ev_go 999 rfl trivial ?_
    first | refine ev_pos (by decide) ?_ | refine ev_neg (by decide) ?_
    refine ev_go 999 rfl trivial ?_
    refine ev_call0 rfl (Nat.le_of_ble_eq_true rfl) (fun z => by cases z) (x8_isWithin (d := d + 7) (v := w) (lo := 0) (hi := 7)) ?_
    rw [h3]
    refine ev_go 999 rfl trivial ?_
    first | refine ev_pos (by decide) ?_ | refine ev_neg (by decide) ?_
    obtain ⟨gg, hgg⟩ : ∃ gg, gg = cl g := ⟨_, rfl⟩
    rw [← hgg] at gb ⊢
    rcases (show gg = 0 ∨ gg = 1 ∨ gg = 2 ∨ gg = 3 ∨ gg = 4 ∨ gg = 5 by omega) with e | e | e | e | e | e <;> rw [e] <;> (
      refine ev_go 999 rfl ⟨v, v, trivial⟩ ?_
      exact ev_ret rfl trivial ⟨rfl, (am_w_L (Nat.le_of_ble_eq_true rfl) _).trans rfl⟩)
theorem xo_target {g w k : Int32} (hc : CX i a ri rA) : ∃ a', CX i a' ri (tgT rA g w k) ∧ am_D E (d + 9) tX8_target [.ref 0, .int g, .int w, .int k] (am_L (xo i j a W)) 0 0 (some (.int (tgQ rA g w k))) (am_L (xo i j a' W)) := by
  unfold tgQ tgT tgC
  cases h : inB g 0 5 with
  | false =>
    refine ⟨a, hc, ?_⟩
    refine am_D_of (Nat.le_of_ble_eq_true rfl) ?_
    refine ev_go 999 rfl trivial ?_
    refine ev_call0 rfl (Nat.le_of_ble_eq_true rfl) (fun _ => ⟨_, _, _, rfl, rfl⟩) (xo_findGroup_no (d := d + 6) h) ?_
    refine ev_go 999 rfl trivial ?_
    refine ev_go 999 rfl trivial ?_
    exact ev_ret rfl trivial ⟨rfl, rfl⟩
  | true =>
  have hfg := xo_findGroup (E := E) (d := d + 6) (i := i) (j := j) (a := a) (W := W) h
  rw [if_pos rfl, Bool.true_and]
  cases h2 : inB w 0 6 with
  | false =>
    refine ⟨a, hc, ?_⟩
    refine am_D_of (Nat.le_of_ble_eq_true rfl) ?_
    refine ev_go 999 rfl trivial ?_
    refine ev_call0 rfl (Nat.le_of_ble_eq_true rfl) (fun _ => ⟨_, _, _, rfl, rfl⟩) hfg ?_
    refine ev_go 999 rfl trivial ?_
    refine ev_go 999 rfl trivial ?_
    refine ev_call0 rfl (Nat.le_of_ble_eq_true rfl) (fun z => by cases z) (x8_isWithin (d := d + 7) (v := w) (lo := 0) (hi := 6)) ?_
    rw [h2]
    refine ev_go 999 rfl trivial ?_
    first | refine ev_pos (by decide) ?_ | refine ev_neg (by decide) ?_
    refine ev_go 999 rfl trivial ?_
    exact ev_ret rfl trivial ⟨rfl, rfl⟩
  | true =>
  rw [Bool.true_and]
  cases h3 : inB k 0 1440 with
  | false =>
    refine ⟨a, hc, ?_⟩
    refine am_D_of (Nat.le_of_ble_eq_true rfl) ?_
    refine ev_go 999 rfl trivial ?_
    refine ev_call0 rfl (Nat.le_of_ble_eq_true rfl) (fun _ => ⟨_, _, _, rfl, rfl⟩) hfg ?_
    refine ev_go 999 rfl trivial ?_
    refine ev_go 999 rfl trivial ?_
    refine ev_call0 rfl (Nat.le_of_ble_eq_true rfl) (fun z => by cases z) (x8_isWithin (d := d + 7) (v := w) (lo := 0) (hi := 6)) ?_
    rw [h2]
    refine ev_go 999 rfl trivial ?_
    first | refine ev_pos (by decide) ?_ | refine ev_neg (by decide) ?_
    refine ev_go 999 rfl trivial ?_
    refine ev_call0 rfl (Nat.le_of_ble_eq_true rfl) (fun z => by cases z) (x8_isWithin (d := d + 7) (v := k) (lo := 0) (hi := 1440)) ?_
    rw [h3]
    refine ev_go 999 rfl trivial ?_
    first | refine ev_pos (by decide) ?_ | refine ev_neg (by decide) ?_
    refine ev_go 999 rfl trivial ?_
    exact ev_ret rfl trivial ⟨rfl, rfl⟩
  | true =>
  rw [if_pos rfl, if_pos rfl]
  have hg := le0_in (N := 5) (by omega) h
  have hw := le0_in (N := 6) (by omega) h2
  have gb := hg.2
  have wb := hw.2
  have v : vp_in w 7 := by rw [hw.1]; exact vp_in_nI (by omega) (by omega)
  refine ⟨va_up a (22 + 3 * cl g) (upd (a (22 + 3 * cl g)) (cl w) k), ?_, ?_⟩
  · obtain ⟨c1, c2, c3, c4, c5, c6, c7, c8, c9, c10, c11, c12, c13, c14⟩ := hc
    have o : ∀ p, p ≠ 22 + 3 * cl g → va_up a (22 + 3 * cl g) (upd (a (22 + 3 * cl g)) (cl w) k) p = a p := fun p hp => va_n hp
    refine ⟨c1, c2, c3, c4, c5, c6, c7, fun g' k' hg' hk' => ?_, fun g' k' hg' hk' => ?_, ?_, fun q r hq hr => ?_, ?_, ?_, ?_⟩
    · rw [o _ (by omega)]; exact c8 g' k' hg' hk'
    · show _ = upd (rA 13) (7 * cl g + cl w) k (7 * g' + k')
      by_cases z : g' = cl g
      · rw [z, va_s]
        unfold upd
        by_cases y : k' = cl w
        · rw [if_pos y, if_pos (by omega)]
        · rw [if_neg y, if_neg (by omega)]; exact c9 _ _ (by omega) hk'
      · rw [o _ (by omega)]
        unfold upd
        rw [if_neg (by omega)]
        exact c9 g' k' hg' hk'
    · rw [o 1 (by omega)]; exact c10
    · rw [o _ (by omega), o _ (by omega)]; exact c11 q r hq hr
    · rw [o 5 (by omega), o 6 (by omega), o 7 (by omega)]; exact c12
    · rw [o 9 (by omega), o 10 (by omega), o 11 (by omega), o 12 (by omega)]; exact c13
    · rw [o 13 (by omega)]; exact c14
  · have eq : a (22 + 3 * cl g) (cl w) = rA 13 (7 * cl g + cl w) := hc.gt _ _ (by omega) (by omega)
    rw [← eq]
    refine am_D_of (Nat.le_of_ble_eq_true rfl) ?_
    refine ev_go 999 rfl trivial ?_
    refine ev_call0 rfl (Nat.le_of_ble_eq_true rfl) (fun _ => ⟨_, _, _, rfl, rfl⟩) hfg ?_
    refine ev_go 999 rfl trivial ?_
    refine ev_go 999 rfl trivial ?_
    refine ev_call0 rfl (Nat.le_of_ble_eq_true rfl) (fun z => by cases z) (x8_isWithin (d := d + 7) (v := w) (lo := 0) (hi := 6)) ?_
    rw [h2]
    refine ev_go 999 rfl trivial ?_
    first | refine ev_pos (by decide) ?_ | refine ev_neg (by decide) ?_
    refine ev_go 999 rfl trivial ?_
    refine ev_call0 rfl (Nat.le_of_ble_eq_true rfl) (fun z => by cases z) (x8_isWithin (d := d + 7) (v := k) (lo := 0) (hi := 1440)) ?_
    rw [h3]
    refine ev_go 999 rfl trivial ?_
    first | refine ev_pos (by decide) ?_ | refine ev_neg (by decide) ?_
    obtain ⟨gg, hgg⟩ : ∃ gg, gg = cl g := ⟨_, rfl⟩
    rw [← hgg] at gb ⊢
    rcases (show gg = 0 ∨ gg = 1 ∨ gg = 2 ∨ gg = 3 ∨ gg = 4 ∨ gg = 5 by omega) with e | e | e | e | e | e <;> rw [e] <;> (
      refine ev_go 999 rfl ⟨v, v, trivial⟩ ?_
      exact ev_ret rfl trivial ⟨rfl, (am_w_L (Nat.le_of_ble_eq_true rfl) _).trans rfl⟩)
end XO
