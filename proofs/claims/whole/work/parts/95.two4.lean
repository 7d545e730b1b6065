/-! At the full memory: close, sum. -/
def am_J (l : List am_C) (G : am_M) : am_M := (G.1, fun k => match l[k]? with
  | some c => some c
  | none => G.2 k)
theorem J_eq {G : am_M} {l : List am_C} (h : am_at0 G 0 l) : am_J l G = G := by
  unfold am_J
  refine Prod.ext rfl ?_
  funext k
  dsimp only
  cases e : l[k]? with
  | none => rfl
  | some c =>
    have := h k c e
    rw [Nat.zero_add] at this
    exact this.symm
theorem am_w_J {l : List am_C} {G : am_M} {j : Nat} (h : j < l.length) (x : am_C) : am_w (am_J l G) j x = am_J (l.set j x) G := by
  unfold am_w am_J
  refine Prod.ext rfl ?_
  funext k
  dsimp only
  by_cases e : k = j
  · subst e
    rw [am_up_same, List.getElem?_set_self h]
  · rw [am_up_ne _ _ e, List.getElem?_set_ne (Ne.symm e)]
theorem J_at {l : List am_C} {G : am_M} : am_at0 (am_J l G) 0 l := by
  intro k x hk
  show (match l[0 + k]? with
    | some c => some c
    | none => G.2 (0 + k)) = some x
  rw [Nat.zero_add, hk]
theorem J_o {l : List am_C} {G : am_M} {k : Nat} (h : l.length ≤ k) : (am_J l G).2 k = G.2 k := by
  show (match l[k]? with
    | some c => some c
    | none => G.2 k) = G.2 k
  rw [List.getElem?_eq_none h]
section FJ
variable {E : am_E} {d : Nat} {G G0 : am_M} {ri ri' si : Nat → Int32} {rA rA' sA : Nat → Nat → Int32} {rb rb' sb : Nat → Nat → Int64} {sj : Nat → Int64} {i i' : Nat → Int32} {j j' : Nat → Int64} {a a' : Nat → Nat → Int32}
theorem FM.J (h : FM G ri rA rb si sj sA sb) : ∃ i j a G0, CX i a ri rA ∧ G = am_J (xo i j a (Wf (cl (ri 19)))) G0 := by
  obtain ⟨i, j, a, hc, hG⟩ := h.c
  exact ⟨i, j, a, G, hc, (J_eq hG).symm⟩
theorem FM.setJ (h : FM (am_J (xo i j a (Wf (cl (ri 19)))) G0) ri rA rb si sj sA sb) (hc' : CX i' a' ri' rA') (hI' : INV ri' rA') (e19 : ri' 19 = ri 19) (kr : KR 30 rA rA' rb rb') : FM (am_J (xo i' j' a' (Wf (cl (ri 19)))) G0) ri' rA' rb' si sj sA sb := by
  have n30 := h.n30
  have fr : ∀ k, 62 ≤ k → (am_J (xo i' j' a' (Wf (cl (ri 19)))) G0).2 k = (am_J (xo i j a (Wf (cl (ri 19)))) G0).2 k := fun k hk => (J_o hk).trans (J_o hk).symm
  refine ⟨hI', ⟨i', j', a', hc', by rw [e19]; exact J_at⟩, fun q hq => ?_, fun k y hk => ?_, by rw [e19]; exact h.n, fun k hk => ?_, fun o h1 h2 => ?_⟩
  · rw [e19] at hq
    obtain ⟨wi, wa, wb, hw, hG⟩ := h.w q hq
    obtain ⟨k1, k2⟩ := kr q (by omega) (by omega)
    refine ⟨wi, wa, wb, k2 _ _ _ hw, fun k x hk => ?_⟩
    rw [k1] at hk
    rw [fr _ (by omega)]
    exact hG k x hk
  · rw [fr _ (by omega)]
    exact h.r k y hk
  · rw [e19] at hk
    rw [fr _ (by omega)]
    exact h.o k hk
  · rw [e19] at h1
    obtain ⟨wi, wa, hw, e1, e2⟩ := h.e o h1 h2
    exact ⟨wi, wa, (kr o (by omega) h2).2 _ _ _ hw, e1, e2⟩
theorem clS_row {w o p m : Nat} (hc : cl (ri 39) < 36) (h : w ≤ o) (hm : m < 36) : clS ri rA rb w p (36 * o + m) = rb p (36 * o + m) := by
  induction w with
  | zero => rfl
  | succ w ih =>
    unfold clS
    by_cases z : p = 34
    · subst z; rw [va_s, updL_n (by omega)]; exact ih (by omega)
    · rw [va_n z]
      by_cases y : p = 33
      · subst y; rw [va_s, updL_n (by omega)]; exact ih (by omega)
      · rw [va_n y]
        by_cases x : p = 32
        · subst x; rw [va_s, updL_n (by omega)]; exact ih (by omega)
        · rw [va_n x]; exact ih (by omega)
theorem cl_kr (hI : INV ri rA) {w : Nat} (hc : cl (ri 39) < 36) : KR w rA rA (clS ri rA rb w) (clS ri rA rb (w + 1)) := by
  refine KR.row hI (fun p o h1 h2 ho => rfl) (fun o ho => rfl) (fun p o k h1 h2 ho hk => rfl) (fun p o k h1 h2 ho hk => rfl) (fun p o m ho hm => ?_)
  show va_up (va_up (va_up (clS ri rA rb w) 32 _) 33 _) 34 _ p (36 * o + m) = _
  by_cases z : p = 34
  · subst z; rw [va_s, updL_n (by omega)]
  · rw [va_n z]
    by_cases y : p = 33
    · subst y; rw [va_s, updL_n (by omega)]
    · rw [va_n y]
      by_cases x : p = 32
      · subst x; rw [va_s, updL_n (by omega)]
      · rw [va_n x]
theorem CW.kept {wi : Nat → Int32} {wa : Nat → Nat → Int32} {b : Nat → Nat → Int64} {w : Nat} (hc : cl (ri 39) < 36) (hw : CW wi wa b rA (clS ri rA rb w) w) : CW wi wa (va_up (va_up (va_up b 70 (vp_updL (b 70) (cl (ri 39)) (saysA ri rA rb w (cl (ri 39)) 0))) 71 (vp_updL (b 71) (cl (ri 39)) (saysA ri rA rb w (cl (ri 39)) 1))) 72 (vp_updL (b 72) (cl (ri 39)) (clmp (rA 14 (gA rA w)) (rA 15 (gA rA w)) (saysA ri rA rb w (cl (ri 39)) 2)))) rA (clS ri rA rb (w + 1)) w := by
  obtain ⟨c1, c2, c3, c4, c5, c6, c7, c8⟩ := hw
  refine ⟨c1, c2, c3, c4, c5, c6, c7, fun m hm => ?_⟩
  obtain ⟨b1, b2, b3, b4, b5⟩ := c8 m hm
  have up : ∀ (f g : Nat → Int64) (x : Int64), f m = g (36 * w + m) → vp_updL f (cl (ri 39)) x m = vp_updL g (36 * w + cl (ri 39)) x (36 * w + m) := fun f g x h => by
    unfold vp_updL
    by_cases z : m = cl (ri 39)
    · rw [if_pos z, if_pos (by omega)]
    · rw [if_neg z, if_neg (by omega)]; exact h
  show _ = va_up (va_up (va_up (clS ri rA rb w) 32 _) 33 _) 34 _ 32 (36 * w + m) ∧ _ = va_up (va_up (va_up (clS ri rA rb w) 32 _) 33 _) 34 _ 33 (36 * w + m) ∧ _ = va_up (va_up (va_up (clS ri rA rb w) 32 _) 33 _) 34 _ 34 (36 * w + m) ∧ _ = va_up (va_up (va_up (clS ri rA rb w) 32 _) 33 _) 34 _ 35 (36 * w + m) ∧ _ = va_up (va_up (va_up (clS ri rA rb w) 32 _) 33 _) 34 _ 36 (36 * w + m)
  refine ⟨?_, ?_, ?_, ?_, ?_⟩
  · rw [va_n (by decide), va_n (by decide), va_s, va_n (by decide), va_n (by decide), va_s]; exact up _ _ _ b1
  · rw [va_n (by decide), va_s, va_n (by decide), va_s]; exact up _ _ _ b2
  · rw [va_s, va_s]; exact up _ _ _ b3
  · rw [va_n (by decide), va_n (by decide), va_n (by decide), va_n (by decide), va_n (by decide), va_n (by decide)]; exact b4
  · rw [va_n (by decide), va_n (by decide), va_n (by decide), va_n (by decide), va_n (by decide), va_n (by decide)]; exact b5
theorem wf_at {n k : Nat} (h : k < n) (hk : k < 100) : va_rf (Wf n (nI k).toNatClampNeg) = .ref (99 + 13 * k) := by
  rw [nI_clamp (by omega)]
  unfold Wf
  rw [if_pos h]
  rfl
theorem c8_close (hE : E 3 = (37, fun j => am_MS.getD j 0)) (h : FM G ri rA rb si sj sA sb) : ∃ G', am_D E (d + 10) tX8_close [.ref 0] G 0 0 (some (.int (clQ ri rA))) G' ∧ FM G' (clI ri rA) rA (clB ri rA rb) si sj sA sb := by
  have hI := h.inv
  have h39 := hI.c39
  have h39b := h39.2
  have h19 := hI.w19
  have h19b := h19.2
  obtain ⟨c, hcd⟩ : ∃ c, c = cl (ri 39) := ⟨_, rfl⟩
  obtain ⟨nw, hnw⟩ : ∃ nw, nw = cl (ri 19) := ⟨_, rfl⟩
  rw [← hnw] at h19b
  have e39 : ri 39 = nI c := by rw [hcd]; exact h39.1
  have e19 : ri 19 = nI nw := by rw [hnw]; exact h19.1
  rw [← hcd] at h39b
  obtain ⟨P, hP⟩ : ∃ P : Option Value → am_M → Prop, P = fun v M => v = some (.int (clQ ri rA)) ∧ FM M (clI ri rA) rA (clB ri rA rb) si sj sA sb := ⟨_, rfl⟩
  have no : ∀ M, clOK ri rA = false → FM M ri rA rb si sj sA sb → P (some (.int (-3))) M := fun M hk hM => by
    rw [hP]
    unfold clQ clI clB
    rw [hk]
    exact ⟨rfl, hM⟩
  have main : am_ev E (d + 9) tX8_close (0, am_in [.ref 0] tX8_close.2.2.2.1, [], G, 0, 0) P := by
    obtain ⟨i, j, a, G0, hcx, rfl⟩ := h.J
    by_cases hc : c < 36
    · have loop2 : ∀ m w, nw - w = m → w ≤ nw → clOK ri rA = true → ∀ M, FM M ri rA (clS ri rA rb w) si sj sA sb → am_ev E (d + 9) tX8_close (49, [some (.ref 0), some (.int (nI w))], [], M, 0, 0) P := by
        intro m
        induction m with
        | zero =>
          intro w g1 g2 hOK M hM
          have e : w = nw := by omega
          subst e
          obtain ⟨i, j, a, G0, hcx, rfl⟩ := hM.J
          refine ev_go 999 rfl trivial ?_
          refine ev_pos (by show i 1 ≤ nI w; rw [hcx.i1, e19]; exact nI_le (Nat.le_refl _) (by omega)) ?_
          refine ev_go 87 rfl trivial ?_
          refine ev_M (show _ = am_J (xo (va_up i 3 (i 3 + 1)) j a (Wf (cl (ri 19)))) G0 by rw [am_w_J (Nat.le_of_ble_eq_true rfl)]; rfl) ?_
          refine ev_go 999 rfl trivial ?_
          refine ev_ret rfl trivial ?_
          have e1 : i 3 + 1 = nI (c + 1) := by rw [hcx.i3, e39, nI_1]
          rw [hP]
          refine ⟨?_, ?_⟩
          · show some (Value.int (va_up i 3 (i 3 + 1) 3 - 1)) = _
            unfold clQ
            rw [va_s, e1, nI_pred, hOK, if_pos rfl, ← hcd]
          · have hI' := cl_inv hI
            unfold clI at hI' ⊢
            unfold clB
            rw [hOK, if_pos rfl] at hI'
            rw [hOK, if_pos rfl, if_pos rfl, show clS ri rA rb (cl (ri 19)) = clS ri rA rb w by rw [← hnw]]
            refine hM.setJ ?_ hI' (va_n (by decide)) KR.rf
            obtain ⟨c1, c2, c3, c4, c5, c6, c7, c8, c9, c10, c11, c12, c13, c14⟩ := hcx
            refine ⟨?_, ?_, ?_, ?_, ?_, ?_, fun g hg => ?_, c8, c9, c10, c11, ?_, ?_, c14⟩
            · rw [va_n (by decide), va_n (by decide)]; exact c1
            · rw [va_n (by decide), va_n (by decide)]; exact c2
            · rw [va_n (by decide), va_n (by decide)]; exact c3
            · rw [va_s, va_s, e1, ← hcd]
            · rw [va_n (by decide), va_n (by decide)]; exact c5
            · rw [va_n (by decide), va_n (by decide)]; exact c6
            · rw [va_n (by omega), va_n (by omega), va_n (by omega)]; exact c7 g hg
            · rw [va_n (by decide)]; exact c12
            · rw [va_n (by decide)]; exact c13
        | succ m ih =>
          intro w g1 g2 hOK M hM
          obtain ⟨wi, wj, wa, wb, hc1, hc2, _, L⟩ := hM.wrk (E := E) (q := w) (by omega)
          obtain ⟨i', j', a', sx, hD⟩ := x8_keepSayings (E := E) (d := d) (j := wj) (W := Wq (cl (ri 19)) w) hE (by omega) (by omega) hc1 hc2 hI
          rw [clS_says (by omega) (by omega), clS_says (by omega) (by omega), clS_says (by omega) (by omega), ← h39.1] at hD
          obtain ⟨G1, g1', hM1⟩ := L hD rfl rfl (sx.cx hc1) ((sx.cw hc2).kept (by omega)) hI rfl rfl (cl_kr hI (by omega))
          obtain ⟨i, j, a, G0, hcx, rfl⟩ := hM.J
          refine ev_go 999 rfl trivial ?_
          refine ev_neg (by show ¬ i 1 ≤ nI w; rw [hcx.i1, e19]; exact nI_ge (by omega) (by omega)) ?_
          refine ev_go 999 rfl trivial ?_
          refine ev_aa (v := .ref (99 + 13 * w)) rfl rfl (by decide) (by decide) (vp_in_nI (by omega) (by omega)) (wf_at (by omega) (by omega)) ?_
          refine ev_go 999 rfl trivial ?_
          rw [show i 3 = ri 39 from hcx.i3]
          refine ev_call0 rfl (Nat.le_of_ble_eq_true rfl) (fun _ => ⟨_, _, _, rfl, rfl⟩) (g1') ?_
          refine ev_go 49 rfl trivial ?_
          show am_ev _ _ _ (49, [some (.ref 0), some (.int (nI w + 1))], _, _, _, _) _
          rw [nI_1]
          exact ih (w + 1) (by omega) (by omega) hOK G1 hM1
      have loop1 : ∀ m w, nw - w = m → w ≤ nw → (∀ q, q < w → gpA rA q (mday c) (mday (c + 1)) = false) → ∀ M, FM M ri rA rb si sj sA sb → am_ev E (d + 9) tX8_close (14, [some (.ref 0), some (.int (nI w))], [], M, 0, 0) P := by
        intro m
        induction m with
        | zero =>
          intro w g1 g2 hg M hM
          have e : w = nw := by omega
          subst e
          have hOK : clOK ri rA = true := by
            unfold clOK
            rw [← hcd, ← hnw, decide_eq_true hc, decide_eq_true hg]
            rfl
          obtain ⟨i, j, a, G0, hcx, e⟩ := hM.J
          subst e
          refine ev_go 999 rfl trivial ?_
          refine ev_pos (by show i 1 ≤ nI w; rw [hcx.i1, e19]; exact nI_le (Nat.le_refl _) (by omega)) ?_
          refine ev_go 49 rfl trivial ?_
          exact loop2 w 0 (by omega) (by omega) hOK _ hM
        | succ m ih =>
          intro w g1 g2 hg M hM
          obtain ⟨wi, wj, wa, wb, hc1, hc2, _, L⟩ := hM.wrk (E := E) (q := w) (by omega)
          have hD := x8_hasGap (E := E) (d := d + 6) (i := wi) (j := wj) (a := wa) (b := wb) (W := Wq (cl (ri 19)) w) (g := gA rA w) (m := c) hE (by omega) hc hc2 hI
          obtain ⟨G1, g1', hM1⟩ := L hD rfl rfl hc1 hc2 hI rfl rfl KR.rf
          obtain ⟨i, j, a, G0, hcx, e⟩ := hM.J
          subst e
          refine ev_go 999 rfl trivial ?_
          refine ev_neg (by show ¬ i 1 ≤ nI w; rw [hcx.i1, e19]; exact nI_ge (by omega) (by omega)) ?_
          refine ev_go 999 rfl trivial ?_
          refine ev_aa (v := .ref (99 + 13 * w)) rfl rfl (by decide) (by decide) (vp_in_nI (by omega) (by omega)) (wf_at (by omega) (by omega)) ?_
          refine ev_go 999 rfl trivial ?_
          rw [show i 3 = nI c from hcx.i3.trans e39]
          refine ev_call0 rfl (Nat.le_of_ble_eq_true rfl) (fun z => by cases z) (g1') ?_
          refine ev_go 999 rfl trivial ?_
          cases y : gpA rA w (mday c) (mday (c + 1)) with
          | true =>
            refine ev_neg (by show ¬ bI true = 0; decide) ?_
            refine ev_go 999 rfl trivial ?_
            refine ev_ret rfl trivial (no _ ?_ hM1)
            unfold clOK
            rw [Bool.and_eq_false_iff]
            refine Or.inr (decide_eq_false fun z => ?_)
            have := z w (by omega)
            rw [← hcd, y] at this
            cases this
          | false =>
            refine ev_pos (by show bI false = 0; decide) ?_
            refine ev_go 14 rfl trivial ?_
            show am_ev _ _ _ (14, [some (.ref 0), some (.int (nI w + 1))], _, _, _, _) _
            rw [nI_1]
            refine ih (w + 1) (by omega) (by omega) (fun q hq => ?_) G1 hM1
            rcases Nat.lt_or_ge q w with x | x
            · exact hg q x
            · rw [show q = w by omega]; exact y
      refine ev_go 999 rfl trivial ?_
      refine ev_pos (by show i 3 < nI 36; rw [hcx.i3, e39]; exact nI_lt hc (by omega)) ?_
      refine ev_go 14 rfl trivial ?_
      exact loop1 nw 0 (by omega) (by omega) (fun q hq => absurd hq (Nat.not_lt_zero q)) _ h
    · refine ev_go 999 rfl trivial ?_
      refine ev_neg (by show ¬ i 3 < nI 36; rw [hcx.i3, e39]; exact nI_nlt (by omega) (by omega)) ?_
      refine ev_go 999 rfl trivial ?_
      refine ev_ret rfl trivial (no _ ?_ h)
      unfold clOK
      rw [← hcd, decide_eq_false hc]
      rfl
  obtain ⟨v, M', hv, hD⟩ := am_D_ex (Nat.le_of_ble_eq_true rfl) main
  rw [hP] at hv
  obtain ⟨rfl, hv⟩ := hv
  exact ⟨M', hD, hv⟩
end FJ
section FS
variable {E : am_E} {d : Nat} {G G0 : am_M} {ri si : Nat → Int32} {rA sA : Nat → Nat → Int32} {rb sb : Nat → Nat → Int64} {sj : Nat → Int64}
theorem J_lt {l : List am_C} {G : am_M} {k : Nat} (h : k < l.length) : (am_J l G).2 k = some l[k] := by
  have := J_at (G := G) k _ (List.getElem?_eq_getElem h)
  rw [Nat.zero_add] at this
  exact this
theorem ev_acmp {τ : am_T} {P : Option Value → am_M → Prop} {pc bc bs x y t : Nat} {L : List (Option Value)} {r : List Value} {M : am_M} {off : Int} {cx cy : am_C} (ha : am_at τ pc = some (.if_acmp .ne off, 3)) (ht : am_tg pc off = some t) (hx : M.2 x = some cx) (hy : M.2 y = some cy) (kk : am_ev E d τ (if ¬ x = y then (t, L, r, M, bc, bs) else (pc + 3, L, r, M, bc, bs)) P) : am_ev E d τ (pc, L, .ref y :: .ref x :: r, M, bc, bs) P := by
  refine ev_s (ps := []) ?_ (fun q hq => by cases hq) kk
  unfold am_s
  simp only [ha]
  have e : Nat.beq 3 (am_len (.if_acmp .ne off) 3) = true := rfl
  rw [e]
  simp only [cond, am_ex, ht, hx, hy]
theorem c8_sum {g m what : Int32} (hE : E 3 = (37, fun j => am_MS.getD j 0)) (h : FM G ri rA rb si sj sA sb) : ∃ G', am_D E (d + 10) tX8_sum [.ref 0, .int g, .int m, .int what] G 0 0 (some (.long (sumA ri rA rb g m what))) G' ∧ FM G' ri rA rb si sj sA sb := by
  have hI := h.inv
  have h19 := hI.w19
  have h19b := h19.2
  obtain ⟨nw, hnw⟩ : ∃ nw, nw = cl (ri 19) := ⟨_, rfl⟩
  rw [← hnw] at h19b
  have e19 : ri 19 = nI nw := by rw [hnw]; exact h19.1
  obtain ⟨P, hP⟩ : ∃ P : Option Value → am_M → Prop, P = fun v M => v = some (.long (sumA ri rA rb g m what)) ∧ FM M ri rA rb si sj sA sb := ⟨_, rfl⟩
  have main : am_ev E (d + 9) tX8_sum (0, am_in [.ref 0, .int g, .int m, .int what] tX8_sum.2.2.2.1, [], G, 0, 0) P := by
    obtain ⟨ci, cj, ca, hcc, L⟩ := h.cls (E := E)
    cases h1 : inB g 0 5 with
    | false =>
      have e : sumA ri rA rb g m what = Int64.minValue := by unfold sumA; rw [h1]; rfl
      obtain ⟨G1, g1, hM1⟩ := L (xo_findGroup_no (d := d + 7) (j := cj) (W := Wl (cl (ri 19))) h1) rfl rfl hcc hI rfl KR.rf
      obtain ⟨i, j, a, G0, hcx, e0⟩ := h.J
      subst e0
      refine ev_go 999 rfl trivial ?_
      refine ev_call0 rfl (Nat.le_of_ble_eq_true rfl) (fun _ => ⟨_, _, _, rfl, rfl⟩) (g1) ?_
      refine ev_go 999 rfl trivial ?_
      refine ev_go 999 rfl trivial ?_
      refine ev_ret rfl trivial ?_
      rw [hP, e]
      exact ⟨rfl, hM1⟩
    | true =>
      have g5 := le0_in (N := 5) (by omega) h1
      have g5b := g5.2
      have vr : (some (Value.ref (20 + 3 * cl g))).map (am_rv r0) = some (.ref (20 + 3 * cl g)) := by
        show some (Value.ref (r0 (20 + 3 * cl g))) = _
        unfold r0
        rw [if_pos (by omega)]
      obtain ⟨G1, g1, hM1⟩ := L (xo_findGroup (d := d + 7) (j := cj) (W := Wl (cl (ri 19))) h1) rfl vr hcc hI rfl KR.rf
      obtain ⟨i, j, a, G0, hcx, e0⟩ := h.J
      subst e0
      refine ev_go 999 rfl trivial ?_
      refine ev_call0 rfl (Nat.le_of_ble_eq_true rfl) (fun _ => ⟨_, _, _, rfl, rfl⟩) (g1) ?_
      refine ev_go 999 rfl trivial ?_
      cases h2 : inB m 0 35 with
      | false =>
        have e : sumA ri rA rb g m what = Int64.minValue := by unfold sumA; rw [h1, h2]; rfl
        refine ev_go 999 rfl trivial ?_
        refine ev_call0 rfl (Nat.le_of_ble_eq_true rfl) (fun z => by cases z) (x8_isMonth (d := d + 7) (v := m)) ?_
        rw [h2]
        refine ev_go 999 rfl trivial ?_
        first | refine ev_pos (by decide) ?_ | refine ev_neg (by decide) ?_
        refine ev_go 999 rfl trivial ?_
        refine ev_ret rfl trivial ?_
        rw [hP, e]
        exact ⟨rfl, hM1⟩
      | true =>
        refine ev_go 999 rfl trivial ?_
        refine ev_call0 rfl (Nat.le_of_ble_eq_true rfl) (fun z => by cases z) (x8_isMonth (d := d + 7) (v := m)) ?_
        rw [h2]
        refine ev_go 999 rfl trivial ?_
        first | refine ev_pos (by decide) ?_ | refine ev_neg (by decide) ?_
        cases h3 : inB what 0 1 with
        | false =>
          have e : sumA ri rA rb g m what = Int64.minValue := by unfold sumA; rw [h1, h2, h3]; rfl
          refine ev_go 999 rfl trivial ?_
          refine ev_call0 rfl (Nat.le_of_ble_eq_true rfl) (fun z => by cases z) (x8_isWithin (d := d + 8) (v := what) (lo := 0) (hi := 1)) ?_
          rw [h3]
          refine ev_go 999 rfl trivial ?_
          first | refine ev_pos (by decide) ?_ | refine ev_neg (by decide) ?_
          refine ev_go 999 rfl trivial ?_
          refine ev_ret rfl trivial ?_
          rw [hP, e]
          exact ⟨rfl, hM1⟩
        | true =>
          have e : sumA ri rA rb g m what = sumS ri rA rb (cl g) (cl m) (cl what) nw := by unfold sumA; rw [h1, h2, h3, hnw]; rfl
          refine ev_go 999 rfl trivial ?_
          refine ev_call0 rfl (Nat.le_of_ble_eq_true rfl) (fun z => by cases z) (x8_isWithin (d := d + 8) (v := what) (lo := 0) (hi := 1)) ?_
          rw [h3]
          refine ev_go 999 rfl trivial ?_
          first | refine ev_pos (by decide) ?_ | refine ev_neg (by decide) ?_
          have m1 := le0_in (N := 35) (by omega) h2
          have m2 := m1.2
          have q1 := le0_in (N := 1) (by omega) h3
          have q2 := q1.2
          have loop : ∀ n k, nw - k = n → k ≤ nw → ∀ M, FM M ri rA rb si sj sA sb → am_ev E (d + 9) tX8_sum (38, [some (.ref 0), some (.int g), some (.int m), some (.int what), some (.ref (20 + 3 * cl g)), some (.long (sumS ri rA rb (cl g) (cl m) (cl what) k)), none, some (.int (nI k))], [], M, 0, 0) P := by
            intro n
            induction n with
            | zero =>
              intro k k1 k2 M hM
              have ek : k = nw := by omega
              subst ek
              obtain ⟨i, j, a, G0, hcx, e0⟩ := hM.J
              subst e0
              refine ev_go 999 rfl trivial ?_
              refine ev_pos (by show i 1 ≤ nI k; rw [hcx.i1, e19]; exact nI_le (Nat.le_refl _) (by omega)) ?_
              refine ev_go 999 rfl trivial ?_
              refine ev_ret rfl trivial ?_
              rw [hP, e]
              exact ⟨rfl, hM⟩
            | succ n ih =>
              intro k k1 k2 M hM
              obtain ⟨wi, wj, wa, wb, hc1, hc2, _, L⟩ := hM.wrk (E := E) (q := k) (by omega)
              obtain ⟨i', j', a', sx, hD⟩ := x8_sayingOf (E := E) (d := d + 1) (j := wj) (W := Wq (cl (ri 19)) k) (m := cl m) (what := cl what) hE (by omega) (by omega) (by omega) hc1 hc2 hI
              rw [← m1.1, ← q1.1] at hD
              obtain ⟨G1, g1', hM1⟩ := L hD rfl rfl (sx.cx hc1) (sx.cw hc2) hI rfl rfl KR.rf
              obtain ⟨ui, ua, ub, _, hu⟩ := hM.w k (by omega)
              have hu0 := hu 0 _ rfl
              rw [Nat.add_zero] at hu0
              have gk : gA rA k < 6 := hI.gl (by omega)
              obtain ⟨i, j, a, G0, hcx, e0⟩ := hM.J
              subst e0
              refine ev_go 999 rfl trivial ?_
              refine ev_neg (by show ¬ i 1 ≤ nI k; rw [hcx.i1, e19]; exact nI_ge (by omega) (by omega)) ?_
              refine ev_go 999 rfl trivial ?_
              refine ev_aa (v := .ref (99 + 13 * k)) rfl rfl (by decide) (by decide) (vp_in_nI (by omega) (by omega)) (wf_at (by omega) (by omega)) ?_
              refine ev_gf rfl rfl hu0 rfl ?_
              refine ev_go 59 rfl trivial ?_
              refine ev_acmp rfl rfl (J_lt (show 20 + 3 * gA rA k < 62 by omega)) (J_lt (show 20 + 3 * cl g < 62 by omega)) ?_
              by_cases z : gA rA k = cl g
              · refine ev_neg (fun y => y (by rw [z])) ?_
                refine ev_go 999 rfl trivial ?_
                refine ev_aa (v := .ref (99 + 13 * k)) rfl rfl (by decide) (by decide) (vp_in_nI (by omega) (by omega)) (wf_at (by omega) (by omega)) ?_
                refine ev_go 999 rfl trivial ?_
                refine ev_call0 rfl (Nat.le_of_ble_eq_true rfl) (fun _ => ⟨_, _, _, rfl, rfl⟩) (g1') ?_
                refine ev_go 38 rfl trivial ?_
                show am_ev _ _ _ (38, [some (.ref 0), some (.int g), some (.int m), some (.int what), some (.ref (20 + 3 * cl g)), some (.long (sumS ri rA rb (cl g) (cl m) (cl what) k + saysA ri rA rb k (cl m) (cl what))), none, some (.int (nI k + 1))], _, _, _, _) _
                have e2 : sumS ri rA rb (cl g) (cl m) (cl what) (k + 1) = sumS ri rA rb (cl g) (cl m) (cl what) k + saysA ri rA rb k (cl m) (cl what) := by
                  show _ + (if gA rA k = cl g then saysA ri rA rb k (cl m) (cl what) else 0) = _
                  rw [if_pos z]
                rw [nI_1, ← e2]
                exact ih (k + 1) (by omega) (by omega) G1 hM1
              · refine ev_pos (fun y => z (by omega)) ?_
                refine ev_go 38 rfl trivial ?_
                show am_ev _ _ _ (38, [some (.ref 0), some (.int g), some (.int m), some (.int what), some (.ref (20 + 3 * cl g)), some (.long (sumS ri rA rb (cl g) (cl m) (cl what) k)), none, some (.int (nI k + 1))], _, _, _, _) _
                have e2 : sumS ri rA rb (cl g) (cl m) (cl what) (k + 1) = sumS ri rA rb (cl g) (cl m) (cl what) k := by
                  show _ + (if gA rA k = cl g then saysA ri rA rb k (cl m) (cl what) else 0) = _
                  rw [if_neg z, Int64.add_zero]
                rw [nI_1, ← e2]
                exact ih (k + 1) (by omega) (by omega) _ hM
          refine ev_go 38 rfl trivial ?_
          exact loop nw 0 (by omega) (by omega) _ hM1
  obtain ⟨v, M', hv, hD⟩ := am_D_ex (Nat.le_of_ble_eq_true rfl) main
  rw [hP] at hv
  obtain ⟨rfl, hv⟩ := hv
  exact ⟨M', hD, hv⟩
theorem t_close (hE : E 3 = (37, fun j => am_MS.getD j 0)) : TWO E (d + 63) tX8_close tX9_close [] := by
  rintro G ⟨ri, rj, rA, rb, h⟩
  obtain ⟨si, sj, sA, sc, hR⟩ := x9_close (E := E) (d := d) (i := ri) (j := rj) (a := rA) (b := rb) h.inv
  obtain ⟨G1, g1, h1⟩ := c8_close (E := E) (d := d + 53) hE h
  obtain ⟨G2, g2, h2⟩ := h1.ref hR rfl rfl
  exact ⟨G1, G2, _, g1, g2, h1.hx, _, _, _, _, h2.scr sc⟩
theorem t_sum {g m what : Int32} (hE : E 3 = (37, fun j => am_MS.getD j 0)) : TWOL E (d + 63) tX8_sum tX9_sum [.int g, .int m, .int what] := by
  rintro G ⟨ri, rj, rA, rb, h⟩
  obtain ⟨si, sj, sA, sc, hR⟩ := x9_sum (E := E) (d := d + 2) (i := ri) (j := rj) (a := rA) (b := rb) (g := g) (m := m) (what := what) h.inv
  obtain ⟨G1, g1, h1⟩ := c8_sum (E := E) (d := d + 53) (g := g) (m := m) (what := what) hE h
  obtain ⟨G2, g2, h2⟩ := h1.ref hR rfl rfl
  exact ⟨G1, G2, _, g1, g2, h1.hx, _, _, _, _, h2.scr sc⟩
end FS
