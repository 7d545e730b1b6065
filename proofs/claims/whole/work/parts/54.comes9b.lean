def shf (f : Nat → Int32) (w n k : Nat) : Nat → Int32 := fun q => if 400 * w + k < q ∧ q ≤ 400 * w + n then f (q - 1) else f q
theorem shf_n {f : Nat → Int32} {w n : Nat} : shf f w n n = f := by
  funext q
  unfold shf
  rw [if_neg (fun z => by omega)]
theorem shf_step {f : Nat → Int32} {w n k : Nat} (hk : k < n) : upd (shf f w n (k + 1)) (400 * w + (k + 1)) (shf f w n (k + 1) (400 * w + k)) = shf f w n k := by
  funext q
  unfold upd shf
  by_cases z : q = 400 * w + (k + 1)
  · rw [if_pos z, if_neg (fun y => by omega), if_pos ⟨by omega, by omega⟩, show q - 1 = 400 * w + k by omega]
  · rw [if_neg z]
    by_cases y : 400 * w + (k + 1) < q ∧ q ≤ 400 * w + n
    · rw [if_pos y, if_pos ⟨by omega, y.2⟩]
    · rw [if_neg y, if_neg (fun x => y ⟨by omega, x.2⟩)]
theorem shf_ins {f : Nat → Int32} {w n k : Nat} {x : Int32} (hk : k ≤ n) : upd (shf f w n k) (400 * w + k) x = insF f (400 * w + k) (400 * w + n) x := by
  funext q
  unfold upd shf insF
  by_cases z : q = 400 * w + k
  · rw [if_pos z, if_neg (by omega), if_pos z]
  · rw [if_neg z]
    by_cases y : q < 400 * w + k
    · rw [if_pos y, if_neg (fun u => by omega)]
    · rw [if_neg y, if_neg z]
      by_cases u : q ≤ 400 * w + n
      · rw [if_pos u, if_pos ⟨by omega, u⟩]
      · rw [if_neg u, if_neg (fun v => u v.2)]
def cmT (day mi : Int32) : Int32 := nI 1440 * day + mi
def cm2 (a : Nat → Nat → Int32) (w day mi s : Int32) : Bool := inB mi 0 1439 && inB s 0 3 && !decide (day < a 17 (cl w)) && !stA a (cl w) (cmT day mi)
def cm3 (i : Nat → Int32) (day : Int32) (beh : Bool) : Bool := decide (decide (mOf (cl day) < cl (i 39)) = beh) && decide (cl (i 39) < 36)
def cm4 (a : Nat → Nat → Int32) (w : Int32) : Bool := decide (nA a (cl w) < 400) && decide (fb_sm (nA a) 30 < 1000)
def cmOK (i : Nat → Int32) (a : Nat → Nat → Int32) (w day mi s : Int32) (beh : Bool) : Bool := okL i w day && cm2 a w day mi s && cm3 i day beh && cm4 a w
def cmQ (i : Nat → Int32) (a : Nat → Nat → Int32) (w day mi s : Int32) (beh : Bool) : Int32 := if okL i w day = true then (if cm2 a w day mi s = true then (if cm3 i day beh = true then (if cm4 a w = true then nI (nA a (cl w) + 1) else -4) else -3) else -2) else -1
def cmI (i : Nat → Int32) (a : Nat → Nat → Int32) (w day mi s : Int32) (beh : Bool) : Nat → Int32 := if cmOK i a w day mi s beh = true then va_up i 26 (i 26 + 1) else i
def cmA (i : Nat → Int32) (a : Nat → Nat → Int32) (w day mi s : Int32) (beh : Bool) : Nat → Nat → Int32 := if cmOK i a w day mi s beh = true then inA a (cl w) (cmT day mi) s else a
def cmB (i : Nat → Int32) (a : Nat → Nat → Int32) (b : Nat → Nat → Int64) (w day mi s : Int32) (beh : Bool) : Nat → Nat → Int64 := if cmOK i a w day mi s beh = true then bookA (va_up i 26 (i 26 + 1)) (inA a (cl w) (cmT day mi) s) (bookA i a b (cl w) (-1)) (cl w) 1 else b
theorem cmT_nI {day mi : Int32} (h1 : day = nI (cl day)) (h2 : mi = nI (cl mi)) : cmT day mi = nI (1440 * cl day + cl mi) := by
  unfold cmT
  rw [h1, h2, pk_mul, nI_add, ← h1, ← h2]
theorem Scr.rw {i i' : Nat → Int32} {a a' : Nat → Nat → Int32} (h : Scr i i' a a') {X Y Z : Nat → Int32} {v : Int32} : Scr (va_up i 26 v) (va_up i' 26 v) (rwA a X Y Z) (rwA a' X Y Z) := by
  refine ⟨fun p hp => ?_, fun k h1 h2 => ?_⟩
  · by_cases z : p = 21
    · subst z; rw [rw_21, rw_21]
    · by_cases y : p = 22
      · subst y; rw [rw_22, rw_22]
      · by_cases u : p = 23
        · subst u; rw [rw_23, rw_23]
        · rw [rw_o z y u, rw_o z y u]; exact h.1 p hp
  · by_cases z : k = 26
    · subst z; rw [va_s, va_s]
    · rw [va_n z, va_n z]; exact h.2 k h1 h2
section C9
variable {E : am_E} {d : Nat} {i : Nat → Int32} {j : Nat → Int64} {a : Nat → Nat → Int32} {b : Nat → Nat → Int64}
theorem cm_inv {w day mi s : Int32} {beh : Bool} (hI : INV i a) : INV (cmI i a w day mi s beh) (cmA i a w day mi s beh) := by
  unfold cmI cmA
  cases h : cmOK i a w day mi s beh with
  | false => exact hI
  | true =>
    rw [if_pos rfl, if_pos rfl]
    unfold cmOK cm2 cm4 at h
    simp only [Bool.and_eq_true_iff] at h
    obtain ⟨⟨⟨h1, ⟨⟨h2, h3⟩, h4⟩, h5⟩, h6⟩, h7, h8⟩ := h
    obtain ⟨g1, g2⟩ := okL_t.mp h1
    obtain ⟨w1, w2, _⟩ := hI.wIn g1
    obtain ⟨d1, d2⟩ := dIn g2
    have m1 := le0_in (N := 1439) (by omega) h2
    have s1 := le0_in (N := 3) (by omega) h3
    have mb := m1.2
    have eT := cmT_nI d1 m1.1
    rw [eT] at h5 ⊢
    rw [s1.1]
    exact hI.ins w2 (by omega) s1.2 (by simpa using h5) (of_decide_eq_true h7) (of_decide_eq_true h8)
theorem x9_comes_ok {w x s : Nat} {v2 v3 v5 : Int32} {o7 o8 : Option Value} (hI : INV i a) (hw : w < 30) (hx : x < 1578240) (hs : s ≤ 3) (hst : stA a w (nI x) = false) (hn : nA a w < 400) (hT : fb_sm (nA a) 30 < 1000) (hc : cl (i 39) < 36) : ∃ i' j' a', Scr (va_up i 26 (i 26 + 1)) i' (inA a w (nI x) (nI s)) a' ∧ am_ev E (d + 60) tX9_comes (135, [some (.ref 0), some (.int (nI w)), some (.int v2), some (.int v3), some (.int (nI s)), some (.int v5), some (.int (nI x)), o7, o8], [], am_L (mo i j a b), 0, 0) (fun v' M'' => v' = some (.int (nI (nA a w + 1))) ∧ M'' = am_L (mo i' j' a' (bookA (va_up i 26 (i 26 + 1)) (inA a w (nI x) (nI s)) (bookA i a b w (-1)) w 1))) := by
  obtain ⟨i1, j1, a1, sc1, hD1⟩ := x9_book (E := E) (d := d + 50) (i := i) (j := j) (a := a) (b := b) (sg := -1) hI hw hc
  have hI1 := sc1.inv hI
  obtain ⟨b1, hb1⟩ : ∃ b1, b1 = bookA i a b w (-1) := ⟨_, rfl⟩
  rw [← hb1] at hD1 ⊢
  have h4 : atA a w (nI x) ≤ nA a w := atA_le
  have eat : atA a1 w (nI x) = atA a w (nI x) := by unfold atA; rw [sc1.1 22 (by omega), sc1.n]
  obtain ⟨n, hnd⟩ : ∃ n, n = nA a w := ⟨_, rfl⟩
  obtain ⟨p, hp⟩ : ∃ p, p = atA a w (nI x) := ⟨_, rfl⟩
  have h21 : a1 21 w = nI n := by rw [sc1.1 21 (by omega), hnd]; exact (hI.wm w hw).h21
  have sc2 : Scr (va_up i 26 (i 26 + 1)) (va_up i1 26 (i1 26 + 1)) (inA a w (nI x) (nI s)) (rwA a1 (upd (a1 21) w (nI (n + 1))) (insF (a1 22) (400 * w + p) (400 * w + n) (nI x)) (insF (a1 23) (400 * w + p) (400 * w + n) (nI s))) := by
    unfold inA
    rw [← hnd, ← hp, sc1.1 21 (by omega), sc1.1 22 (by omega), sc1.1 23 (by omega), sc1.2 26 (by decide) (by decide)]
    exact sc1.rw
  have hI2 := sc2.inv (hI.ins hw hx hs hst hn hT)
  obtain ⟨a2, ha2⟩ : ∃ a2, a2 = rwA a1 (upd (a1 21) w (nI (n + 1))) (insF (a1 22) (400 * w + p) (400 * w + n) (nI x)) (insF (a1 23) (400 * w + p) (400 * w + n) (nI s)) := ⟨_, rfl⟩
  rw [← ha2] at sc2 hI2
  have hc2 : cl (va_up i1 26 (i1 26 + 1) 39) < 36 := by rw [va_n (by decide), sc1.2 39 (by decide) (by decide)]; exact hc
  obtain ⟨i3, j3, a3, sc3, hD3⟩ := x9_book (E := E) (d := d + 50) (i := va_up i1 26 (i1 26 + 1)) (j := j1) (a := a2) (b := b1) (sg := 1) hI2 hw hc2
  have eb : bookA (va_up i1 26 (i1 26 + 1)) a2 b1 w 1 = bookA (va_up i 26 (i 26 + 1)) (inA a w (nI x) (nI s)) b1 w 1 := by
    unfold bookA
    rw [sc2.2 39 (by decide) (by decide), sc2.t, sc2.r, sc2.n, sc2.paidF, sc2.centF]
  rw [eb] at hD3
  refine ⟨i3, j3, a3, sc2.tr sc3, ?_⟩
  rw [← hnd] at hn h4 ⊢
  rw [← hp] at h4 eat
  have vw : vp_in (nI w) 30 := vp_in_nI hw (by omega)
  have cw : (nI w).toNatClampNeg = w := nI_clamp (by omega)
  have ex : ∀ k, nI 400 * nI w + nI k = nI (400 * w + k) := fun k => by rw [pk_mul, nI_add]
  have vx : ∀ k, k < 400 → vp_in (nI 400 * nI w + nI k) 12000 := fun k hk => by rw [ex]; exact vp_in_nI (by omega) (by omega)
  have cx : ∀ k, k < 400 → (nI 400 * nI w + nI k).toNatClampNeg = 400 * w + k := fun k hk => by rw [ex]; exact nI_clamp (by omega)
  obtain ⟨P, hP⟩ : ∃ P : Option Value → am_M → Prop, P = fun v' M'' => v' = some (.int (nI (n + 1))) ∧ M'' = am_L (mo i3 j3 a3 (bookA (va_up i 26 (i 26 + 1)) (inA a w (nI x) (nI s)) b1 w 1)) := ⟨_, rfl⟩
  rw [← hP]
  have tail : ∀ o8, am_ev E (d + 60) tX9_comes (229, [some (.ref 0), some (.int (nI w)), some (.int v2), some (.int v3), some (.int (nI s)), some (.int v5), some (.int (nI x)), some (.int (nI p)), o8], [], am_L (mo i1 j1 (rwA a1 (a1 21) (shf (a1 22) w n p) (shf (a1 23) w n p)) b1), 0, 0) P := fun o8 => by
    refine ev_go 244 rfl ⟨vx p (by omega), trivial⟩ ?_
    refine ev_M (mo_a22 _) ?_
    refine ev_M (show _ = am_L (mo i1 j1 (rwA a1 (a1 21) (insF (a1 22) (400 * w + p) (400 * w + n) (nI x)) (shf (a1 23) w n p)) b1) by rw [rw_s22, rw_22]; show am_L (mo i1 j1 (rwA a1 (a1 21) (upd (shf (a1 22) w n p) (nI 400 * nI w + nI p).toNatClampNeg (nI x)) (shf (a1 23) w n p)) b1) = _; rw [cx p (by omega), shf_ins h4]) ?_
    refine ev_go 259 rfl ⟨vx p (by omega), trivial⟩ ?_
    refine ev_M (mo_a23 _) ?_
    refine ev_M (show _ = am_L (mo i1 j1 (rwA a1 (a1 21) (insF (a1 22) (400 * w + p) (400 * w + n) (nI x)) (insF (a1 23) (400 * w + p) (400 * w + n) (nI s))) b1) by rw [rw_s23, rw_23]; show am_L (mo i1 j1 (rwA a1 (a1 21) (insF (a1 22) (400 * w + p) (400 * w + n) (nI x)) (upd (shf (a1 23) w n p) (nI 400 * nI w + nI p).toNatClampNeg (nI s))) b1) = _; rw [cx p (by omega), shf_ins h4]) ?_
    refine ev_go 269 rfl ⟨vw, vw, trivial⟩ ?_
    refine ev_M (mo_a21 _) ?_
    refine ev_M (show _ = am_L (mo i1 j1 a2 b1) by rw [rw_s21, rw_21]; show am_L (mo i1 j1 (rwA a1 (upd (a1 21) (nI w).toNatClampNeg (a1 21 (nI w).toNatClampNeg + 1)) (insF (a1 22) (400 * w + p) (400 * w + n) (nI x)) (insF (a1 23) (400 * w + p) (400 * w + n) (nI s))) b1) = _; rw [cw, h21, nI_1, ha2]) ?_
    refine ev_go 279 rfl trivial ?_
    refine ev_M (mo_i26 _) ?_
    refine ev_go 999 rfl trivial ?_
    refine ev_call0 rfl (Nat.le_of_ble_eq_true rfl) (fun _ => ⟨_, _, _, rfl, rfl⟩) hD3 ?_
    refine ev_go 999 rfl ⟨vw, trivial⟩ ?_
    refine ev_ret rfl trivial ?_
    rw [hP]
    refine ⟨?_, rfl⟩
    show some (Value.int (a3 21 (nI w).toNatClampNeg)) = _
    rw [cw, sc3.1 21 (by omega), ha2, rw_21]
    unfold upd
    rw [if_pos rfl]
  have loop : ∀ m k, k - p = m → p ≤ k → k ≤ n → am_ev E (d + 60) tX9_comes (160, [some (.ref 0), some (.int (nI w)), some (.int v2), some (.int v3), some (.int (nI s)), some (.int v5), some (.int (nI x)), some (.int (nI p)), some (.int (nI k))], [], am_L (mo i1 j1 (rwA a1 (a1 21) (shf (a1 22) w n k) (shf (a1 23) w n k)) b1), 0, 0) P := by
    intro m
    induction m with
    | zero =>
      intro k e1 e2 e3
      have e : k = p := by omega
      rw [e]
      refine ev_go 999 rfl trivial ?_
      refine ev_pos (nI_le (Nat.le_refl _) (by omega)) ?_
      exact tail _
    | succ m ih =>
      intro k e1 e2 e3
      obtain ⟨q, rfl⟩ : ∃ q, k = q + 1 := ⟨k - 1, by omega⟩
      have kk := ih q (by omega) (by omega) (by omega)
      have ex1 : nI 400 * nI w + nI (q + 1) - 1 = nI 400 * nI w + nI q := by rw [ex, ex, show 400 * w + (q + 1) = (400 * w + q) + 1 by omega, nI_pred]
      refine ev_go 999 rfl trivial ?_
      refine ev_neg (nI_ge (by omega) (by omega)) ?_
      refine ev_go 195 rfl ⟨by show vp_in (nI 400 * nI w + nI (q + 1) - 1) 12000; rw [ex1]; exact vx q (by omega), vx (q + 1) (by omega), trivial⟩ ?_
      refine ev_M (mo_a22 _) ?_
      refine ev_M (show _ = am_L (mo i1 j1 (rwA a1 (a1 21) (shf (a1 22) w n q) (shf (a1 23) w n (q + 1))) b1) by rw [rw_s22, rw_22]; show am_L (mo i1 j1 (rwA a1 (a1 21) (upd (shf (a1 22) w n (q + 1)) (nI 400 * nI w + nI (q + 1)).toNatClampNeg (shf (a1 22) w n (q + 1) (nI 400 * nI w + nI (q + 1) - 1).toNatClampNeg)) (shf (a1 23) w n (q + 1))) b1) = _; rw [ex1, cx q (by omega), cx (q + 1) (by omega), shf_step (by omega)]) ?_
      refine ev_go 223 rfl ⟨by show vp_in (nI 400 * nI w + nI (q + 1) - 1) 12000; rw [ex1]; exact vx q (by omega), vx (q + 1) (by omega), trivial⟩ ?_
      refine ev_M (mo_a23 _) ?_
      refine ev_M (show _ = am_L (mo i1 j1 (rwA a1 (a1 21) (shf (a1 22) w n q) (shf (a1 23) w n q)) b1) by rw [rw_s23, rw_23]; show am_L (mo i1 j1 (rwA a1 (a1 21) (shf (a1 22) w n q) (upd (shf (a1 23) w n (q + 1)) (nI 400 * nI w + nI (q + 1)).toNatClampNeg (shf (a1 23) w n (q + 1) (nI 400 * nI w + nI (q + 1) - 1).toNatClampNeg))) b1) = _; rw [ex1, cx q (by omega), cx (q + 1) (by omega), shf_step (by omega)]) ?_
      rw [← pk_m1 q] at kk
      refine ev_go 999 rfl trivial ?_
      exact kk
  have k0 := loop (n - p) n rfl h4 (Nat.le_refl _)
  rw [shf_n, shf_n, rw_id] at k0
  refine ev_go 999 rfl trivial ?_
  refine ev_call0 rfl (Nat.le_of_ble_eq_true rfl) (fun _ => ⟨_, _, _, rfl, rfl⟩) hD1 ?_
  refine ev_go 999 rfl trivial ?_
  have hMA := x9_markAtA (E := E) (d := d + 59) (i := i1) (j := j1) (a := a1) (b := b1) (x := nI x) hI1 hw
  rw [eat] at hMA
  refine ev_call0 rfl (Nat.le_of_ble_eq_true rfl) (fun _ => ⟨_, _, _, rfl, rfl⟩) hMA ?_
  refine ev_go 160 rfl ⟨vw, trivial⟩ ?_
  show am_ev _ _ _ (160, [_, _, _, _, _, _, _, _, some (.int (a1 21 (nI w).toNatClampNeg))], _, _, _, _) _
  rw [cw, h21]
  exact k0
end C9
