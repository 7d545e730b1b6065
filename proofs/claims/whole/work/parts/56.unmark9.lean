def shl (f : Nat → Int32) (w p k : Nat) : Nat → Int32 := fun q => if 400 * w + p ≤ q ∧ q < 400 * w + k then f (q + 1) else f q
theorem shl_p {f : Nat → Int32} {w p : Nat} : shl f w p p = f := by
  funext q
  unfold shl
  rw [if_neg (fun z => by omega)]
theorem shl_step {f : Nat → Int32} {w p k : Nat} (hk : p ≤ k) : upd (shl f w p k) (400 * w + k) (shl f w p k (400 * w + k + 1)) = shl f w p (k + 1) := by
  funext q
  unfold upd shl
  by_cases z : q = 400 * w + k
  · rw [if_pos z, if_neg (fun y => by omega), if_pos ⟨by omega, by omega⟩, z]
  · rw [if_neg z]
    by_cases y : 400 * w + p ≤ q ∧ q < 400 * w + k
    · rw [if_pos y, if_pos ⟨y.1, by omega⟩]
    · rw [if_neg y, if_neg (fun x => y ⟨x.1, by omega⟩)]
theorem shl_rem {f : Nat → Int32} {w p n : Nat} : shl f w p n = remF f (400 * w + p) (400 * w + n) := by
  funext q
  unfold shl remF
  by_cases y : q < 400 * w + p
  · rw [if_pos y, if_neg (fun u => by omega)]
  · rw [if_neg y]
    by_cases u : q < 400 * w + n
    · rw [if_pos u, if_pos ⟨by omega, u⟩]
    · rw [if_neg u, if_neg (fun v => u v.2)]
def um2 (a : Nat → Nat → Int32) (w day mi : Int32) : Bool := inB mi 0 1439 && stA a (cl w) (cmT day mi)
def um3 (i : Nat → Int32) (day : Int32) : Bool := decide (¬ mOf (cl day) < cl (i 39))
def umOK (i : Nat → Int32) (a : Nat → Nat → Int32) (w day mi : Int32) : Bool := okL i w day && um2 a w day mi && um3 i day
def umQ (i : Nat → Int32) (a : Nat → Nat → Int32) (w day mi : Int32) : Int32 := if okL i w day = true then (if um2 a w day mi = true then (if um3 i day = true then nI (nA a (cl w) - 1) else -3) else -2) else -1
def umI (i : Nat → Int32) (a : Nat → Nat → Int32) (w day mi : Int32) : Nat → Int32 := if umOK i a w day mi = true then va_up i 26 (i 26 - 1) else i
def umA (i : Nat → Int32) (a : Nat → Nat → Int32) (w day mi : Int32) : Nat → Nat → Int32 := if umOK i a w day mi = true then unA a (cl w) (cmT day mi) else a
def umB (i : Nat → Int32) (a : Nat → Nat → Int32) (b : Nat → Nat → Int64) (w day mi : Int32) : Nat → Nat → Int64 := if umOK i a w day mi = true then bookA (va_up i 26 (i 26 - 1)) (unA a (cl w) (cmT day mi)) (bookA i a b (cl w) (-1)) (cl w) 1 else b
section C9
variable {E : am_E} {d : Nat} {i : Nat → Int32} {j : Nat → Int64} {a : Nat → Nat → Int32} {b : Nat → Nat → Int64}
theorem um_inv {w day mi : Int32} (hI : INV i a) : INV (umI i a w day mi) (umA i a w day mi) := by
  unfold umI umA
  cases h : umOK i a w day mi with
  | false => exact hI
  | true =>
    rw [if_pos rfl, if_pos rfl]
    unfold umOK um2 at h
    simp only [Bool.and_eq_true_iff] at h
    obtain ⟨⟨h1, h2, h3⟩, h4⟩ := h
    obtain ⟨g1, g2⟩ := okL_t.mp h1
    obtain ⟨w1, w2, _⟩ := hI.wIn g1
    obtain ⟨d1, d2⟩ := dIn g2
    have m1 := le0_in (N := 1439) (by omega) h2
    have eT := cmT_nI d1 m1.1
    rw [eT] at h3 ⊢
    exact hI.del w2 h3
theorem stA_lt {w : Nat} {x : Int32} (h : stA a w x = true) : atA a w x < nA a w := by
  unfold stA at h
  rw [Bool.and_eq_true_iff] at h
  exact of_decide_eq_true h.1
theorem x9_unmark_ok {w x : Nat} {v2 v3 : Int32} {o6 : Option Value} (hI : INV i a) (hw : w < 30) (hst : stA a w (nI x) = true) (hc : cl (i 39) < 36) : ∃ i' j' a', Scr (va_up i 26 (i 26 - 1)) i' (unA a w (nI x)) a' ∧ am_ev E (d + 60) tX9_unmark (75, [some (.ref 0), some (.int (nI w)), some (.int v2), some (.int v3), some (.int (nI x)), some (.int (nI (atA a w (nI x)))), o6], [], am_L (mo i j a b), 0, 0) (fun v' M'' => v' = some (.int (nI (nA a w - 1))) ∧ M'' = am_L (mo i' j' a' (bookA (va_up i 26 (i 26 - 1)) (unA a w (nI x)) (bookA i a b w (-1)) w 1))) := by
  obtain ⟨i1, j1, a1, sc1, hD1⟩ := x9_book (E := E) (d := d + 50) (i := i) (j := j) (a := a) (b := b) (sg := -1) hI hw hc
  obtain ⟨b1, hb1⟩ : ∃ b1, b1 = bookA i a b w (-1) := ⟨_, rfl⟩
  rw [← hb1] at hD1 ⊢
  have h4 := stA_lt hst
  obtain ⟨n, hnd⟩ : ∃ n, n = nA a w := ⟨_, rfl⟩
  obtain ⟨p, hp⟩ : ∃ p, p = atA a w (nI x) := ⟨_, rfl⟩
  have hn4 := (hI.wm w hw).n4
  have h21 : a1 21 w = nI n := by rw [sc1.1 21 (by omega), hnd]; exact (hI.wm w hw).h21
  have sc2 : Scr (va_up i 26 (i 26 - 1)) (va_up i1 26 (i1 26 - 1)) (unA a w (nI x)) (rwA a1 (upd (a1 21) w (nI (n - 1))) (remF (a1 22) (400 * w + p) (400 * w + (n - 1))) (remF (a1 23) (400 * w + p) (400 * w + (n - 1)))) := by
    unfold unA
    rw [← hnd, ← hp, sc1.1 21 (by omega), sc1.1 22 (by omega), sc1.1 23 (by omega), sc1.2 26 (by decide) (by decide)]
    exact sc1.rw
  have hI2 := sc2.inv (hI.del hw hst)
  obtain ⟨a2, ha2⟩ : ∃ a2, a2 = rwA a1 (upd (a1 21) w (nI (n - 1))) (remF (a1 22) (400 * w + p) (400 * w + (n - 1))) (remF (a1 23) (400 * w + p) (400 * w + (n - 1))) := ⟨_, rfl⟩
  rw [← ha2] at sc2 hI2
  have hc2 : cl (va_up i1 26 (i1 26 - 1) 39) < 36 := by rw [va_n (by decide), sc1.2 39 (by decide) (by decide)]; exact hc
  obtain ⟨i3, j3, a3, sc3, hD3⟩ := x9_book (E := E) (d := d + 50) (i := va_up i1 26 (i1 26 - 1)) (j := j1) (a := a2) (b := b1) (sg := 1) hI2 hw hc2
  have eb : bookA (va_up i1 26 (i1 26 - 1)) a2 b1 w 1 = bookA (va_up i 26 (i 26 - 1)) (unA a w (nI x)) b1 w 1 := by
    unfold bookA
    rw [sc2.2 39 (by decide) (by decide), sc2.t, sc2.r, sc2.n, sc2.paidF, sc2.centF]
  rw [eb] at hD3
  refine ⟨i3, j3, a3, sc2.tr sc3, ?_⟩
  rw [← hnd] at hn4 h4
  rw [← hp] at h4
  rw [← hnd, ← hp]
  have vw : vp_in (nI w) 30 := vp_in_nI hw (by omega)
  have cw : (nI w).toNatClampNeg = w := nI_clamp (by omega)
  have ex : ∀ k, nI 400 * nI w + nI k = nI (400 * w + k) := fun k => by rw [pk_mul, nI_add]
  have vx : ∀ k, k < 400 → vp_in (nI 400 * nI w + nI k) 12000 := fun k hk => by rw [ex]; exact vp_in_nI (by omega) (by omega)
  have cx : ∀ k, k < 400 → (nI 400 * nI w + nI k).toNatClampNeg = 400 * w + k := fun k hk => by rw [ex]; exact nI_clamp (by omega)
  have ex1 : ∀ k, nI 400 * nI w + nI k + 1 = nI (400 * w + k + 1) := fun k => by rw [ex, nI_1]
  obtain ⟨P, hP⟩ : ∃ P : Option Value → am_M → Prop, P = fun v' M'' => v' = some (.int (nI (n - 1))) ∧ M'' = am_L (mo i3 j3 a3 (bookA (va_up i 26 (i 26 - 1)) (unA a w (nI x)) b1 w 1)) := ⟨_, rfl⟩
  rw [← hP]
  obtain ⟨N1, hN1⟩ : ∃ N1, N1 = upd (a1 21) w (nI (n - 1)) := ⟨_, rfl⟩
  have eN1 : N1 w = nI (n - 1) := by rw [hN1]; unfold upd; rw [if_pos rfl]
  have loop : ∀ m k, n - 1 - k = m → p ≤ k → k ≤ n - 1 → am_ev E (d + 60) tX9_unmark (107, [some (.ref 0), some (.int (nI w)), some (.int v2), some (.int v3), some (.int (nI x)), some (.int (nI p)), some (.int (nI k))], [], am_L (mo (va_up i1 26 (i1 26 - 1)) j1 (rwA a1 N1 (shl (a1 22) w p k) (shl (a1 23) w p k)) b1), 0, 0) P := by
    intro m
    induction m with
    | zero =>
      intro k e1 e2 e3
      have e : k = n - 1 := by omega
      rw [e, shl_rem, shl_rem, hN1, ← ha2]
      refine ev_go 999 rfl ⟨vw, trivial⟩ ?_
      refine ev_pos (by show a2 21 (nI w).toNatClampNeg ≤ nI (n - 1); rw [cw, ha2, rw_21, ← hN1, eN1]; exact nI_le (Nat.le_refl _) (by omega)) ?_
      refine ev_go 999 rfl trivial ?_
      refine ev_call0 rfl (Nat.le_of_ble_eq_true rfl) (fun _ => ⟨_, _, _, rfl, rfl⟩) hD3 ?_
      refine ev_go 999 rfl ⟨vw, trivial⟩ ?_
      refine ev_ret rfl trivial ?_
      rw [hP]
      refine ⟨?_, rfl⟩
      show some (Value.int (a3 21 (nI w).toNatClampNeg)) = _
      rw [cw, sc3.1 21 (by omega), ha2, rw_21, ← hN1, eN1]
    | succ m ih =>
      intro k e1 e2 e3
      have kk := ih (k + 1) (by omega) (by omega) (by omega)
      have v1 : vp_in (nI 400 * nI w + nI k + 1) 12000 := by rw [ex1]; exact vp_in_nI (by omega) (by omega)
      have c1 : (nI 400 * nI w + nI k + 1).toNatClampNeg = 400 * w + k + 1 := by rw [ex1]; exact nI_clamp (by omega)
      refine ev_go 999 rfl ⟨vw, trivial⟩ ?_
      refine ev_neg (by show ¬ rwA a1 N1 (shl (a1 22) w p k) (shl (a1 23) w p k) 21 (nI w).toNatClampNeg ≤ nI k; rw [cw, rw_21, eN1]; exact nI_ge (by omega) (by omega)) ?_
      refine ev_go 146 rfl ⟨v1, vx k (by omega), trivial⟩ ?_
      refine ev_M (mo_a22 _) ?_
      refine ev_M (show _ = am_L (mo (va_up i1 26 (i1 26 - 1)) j1 (rwA a1 N1 (shl (a1 22) w p (k + 1)) (shl (a1 23) w p k)) b1) by rw [rw_s22, rw_22]; show am_L (mo (va_up i1 26 (i1 26 - 1)) j1 (rwA a1 N1 (upd (shl (a1 22) w p k) (nI 400 * nI w + nI k).toNatClampNeg (shl (a1 22) w p k (nI 400 * nI w + nI k + 1).toNatClampNeg)) (shl (a1 23) w p k)) b1) = _; rw [c1, cx k (by omega), shl_step (by omega)]) ?_
      refine ev_go 174 rfl ⟨v1, vx k (by omega), trivial⟩ ?_
      refine ev_M (mo_a23 _) ?_
      refine ev_M (show _ = am_L (mo (va_up i1 26 (i1 26 - 1)) j1 (rwA a1 N1 (shl (a1 22) w p (k + 1)) (shl (a1 23) w p (k + 1))) b1) by rw [rw_s23, rw_23]; show am_L (mo (va_up i1 26 (i1 26 - 1)) j1 (rwA a1 N1 (shl (a1 22) w p (k + 1)) (upd (shl (a1 23) w p k) (nI 400 * nI w + nI k).toNatClampNeg (shl (a1 23) w p k (nI 400 * nI w + nI k + 1).toNatClampNeg))) b1) = _; rw [c1, cx k (by omega), shl_step (by omega)]) ?_
      rw [← nI_1 k] at kk
      refine ev_go 999 rfl trivial ?_
      exact kk
  have k0 := loop (n - 1 - p) p rfl (Nat.le_refl _) (by omega)
  rw [shl_p, shl_p] at k0
  have hn1 : nI n - 1 = nI (n - 1) := by
    obtain ⟨q, rfl⟩ : ∃ q, n = q + 1 := ⟨n - 1, by omega⟩
    rw [nI_pred, Nat.add_sub_cancel]
  refine ev_go 999 rfl trivial ?_
  refine ev_call0 rfl (Nat.le_of_ble_eq_true rfl) (fun _ => ⟨_, _, _, rfl, rfl⟩) hD1 ?_
  refine ev_go 93 rfl ⟨vw, vw, trivial⟩ ?_
  refine ev_M (mo_a21 _) ?_
  refine ev_M (show _ = am_L (mo i1 j1 (rwA a1 N1 (a1 22) (a1 23)) b1) by
    show am_L (mo i1 j1 (va_up a1 21 (upd (a1 21) (nI w).toNatClampNeg (a1 21 (nI w).toNatClampNeg - 1))) b1) = _
    rw [cw, h21, hn1, ← hN1]
    have h := rw_s21 (a := a1) (X := a1 21) (Y := a1 22) (Z := a1 23) N1
    rw [rw_id] at h
    rw [h]) ?_
  refine ev_go 103 rfl trivial ?_
  refine ev_M (mo_i26 _) ?_
  refine ev_go 107 rfl trivial ?_
  exact k0
theorem x9_unmark {w day mi : Int32} (hI : INV i a) : ∃ i' j' a', Scr (umI i a w day mi) i' (umA i a w day mi) a' ∧ am_D E (d + 61) tX9_unmark [.ref 0, .int w, .int day, .int mi] (am_L (mo i j a b)) 0 0 (some (.int (umQ i a w day mi))) (am_L (mo i' j' a' (umB i a b w day mi))) := by
  have no : ∀ q : Int32, umOK i a w day mi = false → umQ i a w day mi = q → am_ev E (d + 60) tX9_unmark (0, [some (.ref 0), some (.int w), some (.int day), some (.int mi), none, none, none], [], am_L (mo i j a b), 0, 0) (fun v' M'' => v' = some (.int q) ∧ M'' = am_L (mo i j a b)) → ∃ i' j' a', Scr (umI i a w day mi) i' (umA i a w day mi) a' ∧ am_D E (d + 61) tX9_unmark [.ref 0, .int w, .int day, .int mi] (am_L (mo i j a b)) 0 0 (some (.int (umQ i a w day mi))) (am_L (mo i' j' a' (umB i a b w day mi))) := by
    intro q h1 h2 h3
    unfold umI umA umB
    rw [h1, h2]
    refine ⟨i, j, a, Scr.rf, ?_⟩
    rw [if_neg (by decide)]
    refine am_D_of (Nat.le_of_ble_eq_true rfl) ?_
    exact h3
  cases h1 : inB w 0 (i 19 - 1) with
  | false =>
    refine no (-1) (by unfold umOK okL; rw [h1]; rfl) (by unfold umQ okL; rw [h1]; rfl) ?_
    refine ev_go 999 rfl trivial ?_
    refine ev_call0 rfl (Nat.le_of_ble_eq_true rfl) (fun _ => ⟨_, _, _, rfl, rfl⟩) (x9_isWorker (d := d + 58) (v := w)) ?_
    rw [h1]
    refine ev_go 999 rfl trivial ?_
    first | refine ev_pos (by decide) ?_ | refine ev_neg (by decide) ?_
    refine ev_go 999 rfl trivial ?_
    exact ev_ret rfl trivial ⟨rfl, rfl⟩
  | true =>
  cases h2 : inB day 0 1095 with
  | false =>
    refine no (-1) (by unfold umOK okL; rw [h1, h2]; rfl) (by unfold umQ okL; rw [h1, h2]; rfl) ?_
    refine ev_go 999 rfl trivial ?_
    refine ev_call0 rfl (Nat.le_of_ble_eq_true rfl) (fun _ => ⟨_, _, _, rfl, rfl⟩) (x9_isWorker (d := d + 58) (v := w)) ?_
    rw [h1]
    refine ev_go 999 rfl trivial ?_
    first | refine ev_pos (by decide) ?_ | refine ev_neg (by decide) ?_
    refine ev_go 999 rfl trivial ?_
    refine ev_call0 rfl (Nat.le_of_ble_eq_true rfl) (fun z => by cases z) (x9_isDay (d := d + 58) (v := day)) ?_
    rw [h2]
    refine ev_go 999 rfl trivial ?_
    first | refine ev_pos (by decide) ?_ | refine ev_neg (by decide) ?_
    refine ev_go 999 rfl trivial ?_
    exact ev_ret rfl trivial ⟨rfl, rfl⟩
  | true =>
  have hok : okL i w day = true := okL_t.mpr ⟨h1, h2⟩
  obtain ⟨w1, w2, _⟩ := hI.wIn h1
  obtain ⟨d1, d2⟩ := dIn h2
  have hma := x9_markAtA (E := E) (d := d + 59) (i := i) (j := j) (a := a) (b := b) (x := cmT day mi) hI w2
  have him := x9_isMarkA (E := E) (d := d + 59) (i := i) (j := j) (a := a) (b := b) (x := cmT day mi) hI w2
  rw [← w1] at hma him
  have A : ∀ {P : Option Value → am_M → Prop}, am_ev E (d + 60) tX9_unmark (35, [some (.ref 0), some (.int w), some (.int day), some (.int mi), some (.int (cmT day mi)), some (.int (nI (atA a (cl w) (cmT day mi)))), none], [], am_L (mo i j a b), 0, 0) P → am_ev E (d + 60) tX9_unmark (0, [some (.ref 0), some (.int w), some (.int day), some (.int mi), none, none, none], [], am_L (mo i j a b), 0, 0) P := fun {P} kk => by
    refine ev_go 999 rfl trivial ?_
    refine ev_call0 rfl (Nat.le_of_ble_eq_true rfl) (fun _ => ⟨_, _, _, rfl, rfl⟩) (x9_isWorker (d := d + 58) (v := w)) ?_
    rw [h1]
    refine ev_go 999 rfl trivial ?_
    first | refine ev_pos (by decide) ?_ | refine ev_neg (by decide) ?_
    refine ev_go 999 rfl trivial ?_
    refine ev_call0 rfl (Nat.le_of_ble_eq_true rfl) (fun z => by cases z) (x9_isDay (d := d + 58) (v := day)) ?_
    rw [h2]
    refine ev_go 999 rfl trivial ?_
    first | refine ev_pos (by decide) ?_ | refine ev_neg (by decide) ?_
    refine ev_go 999 rfl trivial ?_
    refine ev_call0 rfl (Nat.le_of_ble_eq_true rfl) (fun _ => ⟨_, _, _, rfl, rfl⟩) hma ?_
    refine ev_go 35 rfl trivial ?_
    exact kk
  cases h3 : inB mi 0 1439 with
  | false =>
    refine no (-2) (by unfold umOK um2; rw [h3, Bool.false_and, Bool.and_false]; rfl) (by unfold umQ um2; rw [hok, h3]; rfl) (A ?_)
    refine ev_go 999 rfl trivial ?_
    refine ev_call0 rfl (Nat.le_of_ble_eq_true rfl) (fun z => by cases z) (x9_in (d := d + 59) (v := mi) (lo := 0) (hi := 1439)) ?_
    rw [h3]
    refine ev_go 999 rfl trivial ?_
    first | refine ev_pos (by decide) ?_ | refine ev_neg (by decide) ?_
    refine ev_go 999 rfl trivial ?_
    exact ev_ret rfl trivial ⟨rfl, rfl⟩
  | true =>
  have m1 := le0_in (N := 1439) (by omega) h3
  have mb := m1.2
  have eT := cmT_nI d1 m1.1
  cases h6 : stA a (cl w) (cmT day mi) with
  | false =>
    rw [h6] at him
    refine no (-2) (by unfold umOK um2; rw [h6, Bool.and_false, Bool.and_false]; rfl) (by unfold umQ um2; rw [hok, h6, Bool.and_false]; rfl) (A ?_)
    refine ev_go 999 rfl trivial ?_
    refine ev_call0 rfl (Nat.le_of_ble_eq_true rfl) (fun z => by cases z) (x9_in (d := d + 59) (v := mi) (lo := 0) (hi := 1439)) ?_
    rw [h3]
    refine ev_go 999 rfl trivial ?_
    first | refine ev_pos (by decide) ?_ | refine ev_neg (by decide) ?_
    refine ev_go 999 rfl trivial ?_
    refine ev_call0 rfl (Nat.le_of_ble_eq_true rfl) (fun _ => ⟨_, _, _, rfl, rfl⟩) (him) ?_
    rw [show bI false = bI false from rfl]
    refine ev_go 999 rfl trivial ?_
    first | refine ev_pos (by decide) ?_ | refine ev_neg (by decide) ?_
    refine ev_go 999 rfl trivial ?_
    exact ev_ret rfl trivial ⟨rfl, rfl⟩
  | true =>
  rw [h6] at him
  have hu2 : um2 a w day mi = true := by unfold um2; rw [h3, h6]; rfl
  have h39 := hI.c39
  have h39b := h39.2
  have hmo := x9_monthOf (E := E) (d := d + 58) (M := am_L (mo i j a b)) d2
  rw [← d1] at hmo
  obtain ⟨mo1, _, _⟩ := mOf_sp d2
  by_cases h7 : mOf (cl day) < cl (i 39)
  · have hu3 : um3 i day = false := decide_eq_false (fun z => z h7)
    refine no (-3) (by unfold umOK; rw [hu3, Bool.and_false]) (by unfold umQ; rw [if_pos hok, if_pos hu2, hu3]; rfl) (A ?_)
    refine ev_go 999 rfl trivial ?_
    refine ev_call0 rfl (Nat.le_of_ble_eq_true rfl) (fun z => by cases z) (x9_in (d := d + 59) (v := mi) (lo := 0) (hi := 1439)) ?_
    rw [h3]
    refine ev_go 999 rfl trivial ?_
    first | refine ev_pos (by decide) ?_ | refine ev_neg (by decide) ?_
    refine ev_go 999 rfl trivial ?_
    refine ev_call0 rfl (Nat.le_of_ble_eq_true rfl) (fun _ => ⟨_, _, _, rfl, rfl⟩) (him) ?_
    rw [show bI true = bI true from rfl]
    refine ev_go 999 rfl trivial ?_
    first | refine ev_pos (by decide) ?_ | refine ev_neg (by decide) ?_
    refine ev_go 999 rfl trivial ?_
    refine ev_call0 rfl (Nat.le_of_ble_eq_true rfl) (fun z => by cases z) hmo ?_
    refine ev_go 999 rfl trivial ?_
    refine ev_neg (by show ¬ i 39 ≤ nI (mOf (cl day)); rw [h39.1]; exact nI_ge h7 (by omega)) ?_
    refine ev_go 999 rfl trivial ?_
    exact ev_ret rfl trivial ⟨rfl, rfl⟩
  · have hu3 : um3 i day = true := decide_eq_true h7
    have hOK : umOK i a w day mi = true := by unfold umOK; rw [hok, hu2, hu3]; rfl
    have eQ : umQ i a w day mi = nI (nA a (cl w) - 1) := by unfold umQ; rw [if_pos hok, if_pos hu2, if_pos hu3]
    unfold umI umA umB
    rw [hOK, eQ, if_pos rfl, if_pos rfl, if_pos rfl]
    rw [eT] at h6 ⊢
    obtain ⟨i', j', a', sc, hD⟩ := x9_unmark_ok (E := E) (d := d) (i := i) (j := j) (a := a) (b := b) (x := 1440 * cl day + cl mi) (v2 := day) (v3 := mi) (o6 := none) hI w2 h6 (by omega)
    refine ⟨i', j', a', sc, ?_⟩
    rw [← w1, ← eT] at hD
    rw [← eT]
    refine am_D_of (Nat.le_of_ble_eq_true rfl) ?_
    refine A ?_
    refine ev_go 999 rfl trivial ?_
    refine ev_call0 rfl (Nat.le_of_ble_eq_true rfl) (fun z => by cases z) (x9_in (d := d + 59) (v := mi) (lo := 0) (hi := 1439)) ?_
    rw [h3]
    refine ev_go 999 rfl trivial ?_
    first | refine ev_pos (by decide) ?_ | refine ev_neg (by decide) ?_
    refine ev_go 999 rfl trivial ?_
    refine ev_call0 rfl (Nat.le_of_ble_eq_true rfl) (fun _ => ⟨_, _, _, rfl, rfl⟩) (him) ?_
    rw [show bI true = bI true from rfl]
    refine ev_go 999 rfl trivial ?_
    first | refine ev_pos (by decide) ?_ | refine ev_neg (by decide) ?_
    refine ev_go 999 rfl trivial ?_
    refine ev_call0 rfl (Nat.le_of_ble_eq_true rfl) (fun z => by cases z) hmo ?_
    refine ev_go 999 rfl trivial ?_
    refine ev_pos (by show i 39 ≤ nI (mOf (cl day)); rw [h39.1]; exact nI_le (by omega) (by omega)) ?_
    exact hD
end C9
