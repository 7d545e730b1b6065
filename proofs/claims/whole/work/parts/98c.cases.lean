/-! The law's cases: each call is done by the class, then by the reference; the answers are the same. -/
def am_H (f8 f9 : List Value) (G : am_M) : am_M := (G.1, fun k => bif Nat.beq k 0 then some (.inr (8, f8)) else bif Nat.beq k 62 then some (.inr (9, f9)) else bif Nat.beq k 1000000 then none else G.2 k)
theorem HX.H {G : am_M} (h : HX G) : ∃ f8 f9 G', G = am_H f8 f9 G' := by
  obtain ⟨h1, ⟨f8, h2⟩, f9, h3⟩ := h
  refine ⟨f8, f9, G, ?_⟩
  refine Prod.ext rfl ?_
  funext k
  show G.2 k = (bif Nat.beq k 0 then some (.inr (8, f8)) else bif Nat.beq k 62 then some (.inr (9, f9)) else bif Nat.beq k 1000000 then none else G.2 k)
  have bf : ∀ q, k ≠ q → Nat.beq k q = false := fun q hq => by
    cases hb : Nat.beq k q with
    | false => rfl
    | true => exact absurd (Nat.eq_of_beq_eq_true hb) hq
  by_cases z : k = 0
  · subst z; exact h2
  · rw [bf 0 z]
    by_cases y : k = 62
    · subst y; exact h3
    · rw [bf 62 y]
      by_cases x : k = 1000000
      · subst x; exact h1
      · rw [bf 1000000 x]; rfl
theorem OKM.hx {G : am_M} (h : OKM G) : HX G := by
  obtain ⟨ri, rj, rA, rb, h⟩ := h
  exact FM.hx h
def lsc (xs : Nat → Int32) (p : Nat) (j : Int) : Int32 := xs (nI p + Int32.ofInt j).toNatClampNeg
def lloc (p : Nat) : List (Option Value) := [some (.ref am_X), some (.ref 0), some (.ref 62), some (.int (nI p))]
theorem lg_self (v : Int64) : lg_cmp v v = 0 := by
  unfold lg_cmp
  simp
section LC
variable {d L p bc bs : Nat} {xs : Nat → Int32} {G : am_M} {P : Option Value → am_M → Prop}
theorem l_vp (hp : p + 6 ≤ L) (hL : L ≤ 3072) {j : Nat} (hj : j < 6) : vp_in (nI p + nI j) L := by
  rw [nI_add]
  exact vp_in_nI (by omega) (by omega)
theorem lc_worker (hp : p + 6 ≤ L) (hL : L ≤ 3072) (hb : 13 ≤ bc) (hs : 1436 ≤ bs) (hG : OKM G) (next : ∀ G' bc' bs', bc - 13 ≤ bc' → bs - 1436 ≤ bs' → OKM G' → am_ev (am_E0 L xs) (d + 63) tL_law (1240, lloc p, [], G', bc', bs') P) : am_ev (am_E0 L xs) (d + 63) tL_law (156, lloc p, [], G, bc, bs) P := by
  obtain ⟨G1, G2, v, g1, g2, hx, ok⟩ := t_worker (E := am_E0 L xs) (d := d) (g := lsc xs p 1) (f := lsc xs p 2) G hG
  obtain ⟨f8, f9, G', e⟩ := hG.hx.H
  subst e
  obtain ⟨f8', f9', G1', e⟩ := hx.H
  subst e
  refine ev_go 167 rfl ⟨l_vp hp hL (j := 1) (by decide), l_vp hp hL (j := 2) (by decide), trivial⟩ ?_
  refine ev_callb rfl (Nat.le_of_ble_eq_true rfl) (fun _ => ⟨_, _, _, rfl, rfl⟩) g1 hb hs ?_
  refine ev_go 181 rfl ⟨l_vp hp hL (j := 1) (by decide), l_vp hp hL (j := 2) (by decide), trivial⟩ ?_
  refine ev_callb rfl (Nat.le_of_ble_eq_true rfl) (fun _ => ⟨_, _, _, rfl, rfl⟩) g2 (Nat.zero_le _) (Nat.zero_le _) ?_
  refine ev_go 999 rfl trivial ?_
  refine ev_pos rfl ?_
  exact next G2 _ _ (Nat.le_of_eq (Nat.sub_zero _).symm) (Nat.le_of_eq (Nat.sub_zero _).symm) ok
theorem lc_feast (hp : p + 6 ≤ L) (hL : L ≤ 3072) (hG : OKM G) (next : ∀ G', OKM G' → am_ev (am_E0 L xs) (d + 63) tL_law (1240, lloc p, [], G', bc, bs) P) : am_ev (am_E0 L xs) (d + 63) tL_law (189, lloc p, [], G, bc, bs) P := by
  obtain ⟨G1, G2, v, g1, g2, hx, ok⟩ := t_feast (E := am_E0 L xs) (d := d) (day := lsc xs p 1) G hG
  obtain ⟨f8, f9, G', e⟩ := hG.hx.H
  subst e
  obtain ⟨f8', f9', G1', e⟩ := hx.H
  subst e
  refine ev_go 195 rfl ⟨l_vp hp hL (j := 1) (by decide), trivial⟩ ?_
  refine ev_callb rfl (Nat.le_of_ble_eq_true rfl) (fun _ => ⟨_, _, _, rfl, rfl⟩) g1 (Nat.zero_le _) (Nat.zero_le _) ?_
  refine ev_go 204 rfl ⟨l_vp hp hL (j := 1) (by decide), trivial⟩ ?_
  refine ev_callb rfl (Nat.le_of_ble_eq_true rfl) (fun _ => ⟨_, _, _, rfl, rfl⟩) g2 (Nat.zero_le _) (Nat.zero_le _) ?_
  refine ev_go 999 rfl trivial ?_
  refine ev_pos rfl ?_
  exact next G2 ok
theorem lc_kind (hp : p + 6 ≤ L) (hL : L ≤ 3072) (hG : OKM G) (next : ∀ G', OKM G' → am_ev (am_E0 L xs) (d + 63) tL_law (1240, lloc p, [], G', bc, bs) P) : am_ev (am_E0 L xs) (d + 63) tL_law (212, lloc p, [], G, bc, bs) P := by
  obtain ⟨G1, G2, v, g1, g2, hx, ok⟩ := t_kind (E := am_E0 L xs) (d := d) (g := lsc xs p 1) (w := lsc xs p 2) (k := lsc xs p 3) G hG
  obtain ⟨f8, f9, G', e⟩ := hG.hx.H
  subst e
  obtain ⟨f8', f9', G1', e⟩ := hx.H
  subst e
  refine ev_go 228 rfl ⟨l_vp hp hL (j := 1) (by decide), l_vp hp hL (j := 2) (by decide), l_vp hp hL (j := 3) (by decide), trivial⟩ ?_
  refine ev_callb rfl (Nat.le_of_ble_eq_true rfl) (fun _ => ⟨_, _, _, rfl, rfl⟩) g1 (Nat.zero_le _) (Nat.zero_le _) ?_
  refine ev_go 247 rfl ⟨l_vp hp hL (j := 1) (by decide), l_vp hp hL (j := 2) (by decide), l_vp hp hL (j := 3) (by decide), trivial⟩ ?_
  refine ev_callb rfl (Nat.le_of_ble_eq_true rfl) (fun _ => ⟨_, _, _, rfl, rfl⟩) g2 (Nat.zero_le _) (Nat.zero_le _) ?_
  refine ev_go 999 rfl trivial ?_
  refine ev_pos rfl ?_
  exact next G2 ok
theorem lc_rule (hp : p + 6 ≤ L) (hL : L ≤ 3072) (hG : OKM G) (next : ∀ G', OKM G' → am_ev (am_E0 L xs) (d + 63) tL_law (1240, lloc p, [], G', bc, bs) P) : am_ev (am_E0 L xs) (d + 63) tL_law (255, lloc p, [], G, bc, bs) P := by
  obtain ⟨G1, G2, v, g1, g2, hx, ok⟩ := t_rule (E := am_E0 L xs) (d := d) (k := lsc xs p 1) (w := lsc xs p 2) (x := lsc xs p 3) (y := lsc xs p 4) rfl rfl G hG
  obtain ⟨f8, f9, G', e⟩ := hG.hx.H
  subst e
  obtain ⟨f8', f9', G1', e⟩ := hx.H
  subst e
  refine ev_go 276 rfl ⟨l_vp hp hL (j := 1) (by decide), l_vp hp hL (j := 2) (by decide), l_vp hp hL (j := 3) (by decide), l_vp hp hL (j := 4) (by decide), trivial⟩ ?_
  refine ev_callb rfl (Nat.le_of_ble_eq_true rfl) (fun _ => ⟨_, _, _, rfl, rfl⟩) g1 (Nat.zero_le _) (Nat.zero_le _) ?_
  refine ev_go 300 rfl ⟨l_vp hp hL (j := 1) (by decide), l_vp hp hL (j := 2) (by decide), l_vp hp hL (j := 3) (by decide), l_vp hp hL (j := 4) (by decide), trivial⟩ ?_
  refine ev_callb rfl (Nat.le_of_ble_eq_true rfl) (fun _ => ⟨_, _, _, rfl, rfl⟩) g2 (Nat.zero_le _) (Nat.zero_le _) ?_
  refine ev_go 999 rfl trivial ?_
  refine ev_pos rfl ?_
  exact next G2 ok
theorem lc_rate (hp : p + 6 ≤ L) (hL : L ≤ 3072) (hG : OKM G) (next : ∀ G', OKM G' → am_ev (am_E0 L xs) (d + 63) tL_law (1240, lloc p, [], G', bc, bs) P) : am_ev (am_E0 L xs) (d + 63) tL_law (308, lloc p, [], G, bc, bs) P := by
  obtain ⟨G1, G2, v, g1, g2, hx, ok⟩ := t_rate (E := am_E0 L xs) (d := d) (g := lsc xs p 1) (f := lsc xs p 2) (c := lsc xs p 3) G hG
  obtain ⟨f8, f9, G', e⟩ := hG.hx.H
  subst e
  obtain ⟨f8', f9', G1', e⟩ := hx.H
  subst e
  refine ev_go 324 rfl ⟨l_vp hp hL (j := 1) (by decide), l_vp hp hL (j := 2) (by decide), l_vp hp hL (j := 3) (by decide), trivial⟩ ?_
  refine ev_callb rfl (Nat.le_of_ble_eq_true rfl) (fun _ => ⟨_, _, _, rfl, rfl⟩) g1 (Nat.zero_le _) (Nat.zero_le _) ?_
  refine ev_go 343 rfl ⟨l_vp hp hL (j := 1) (by decide), l_vp hp hL (j := 2) (by decide), l_vp hp hL (j := 3) (by decide), trivial⟩ ?_
  refine ev_callb rfl (Nat.le_of_ble_eq_true rfl) (fun _ => ⟨_, _, _, rfl, rfl⟩) g2 (Nat.zero_le _) (Nat.zero_le _) ?_
  refine ev_go 999 rfl trivial ?_
  refine ev_pos rfl ?_
  exact next G2 ok
theorem lc_surcharge (hp : p + 6 ≤ L) (hL : L ≤ 3072) (hG : OKM G) (next : ∀ G', OKM G' → am_ev (am_E0 L xs) (d + 63) tL_law (1240, lloc p, [], G', bc, bs) P) : am_ev (am_E0 L xs) (d + 63) tL_law (351, lloc p, [], G, bc, bs) P := by
  obtain ⟨G1, G2, v, g1, g2, hx, ok⟩ := t_surcharge (E := am_E0 L xs) (d := d) (k := lsc xs p 1) (f := lsc xs p 2) (t := lsc xs p 3) (p := lsc xs p 4) G hG
  obtain ⟨f8, f9, G', e⟩ := hG.hx.H
  subst e
  obtain ⟨f8', f9', G1', e⟩ := hx.H
  subst e
  refine ev_go 372 rfl ⟨l_vp hp hL (j := 1) (by decide), l_vp hp hL (j := 2) (by decide), l_vp hp hL (j := 3) (by decide), l_vp hp hL (j := 4) (by decide), trivial⟩ ?_
  refine ev_callb rfl (Nat.le_of_ble_eq_true rfl) (fun _ => ⟨_, _, _, rfl, rfl⟩) g1 (Nat.zero_le _) (Nat.zero_le _) ?_
  refine ev_go 396 rfl ⟨l_vp hp hL (j := 1) (by decide), l_vp hp hL (j := 2) (by decide), l_vp hp hL (j := 3) (by decide), l_vp hp hL (j := 4) (by decide), trivial⟩ ?_
  refine ev_callb rfl (Nat.le_of_ble_eq_true rfl) (fun _ => ⟨_, _, _, rfl, rfl⟩) g2 (Nat.zero_le _) (Nat.zero_le _) ?_
  refine ev_go 999 rfl trivial ?_
  refine ev_pos rfl ?_
  exact next G2 ok
theorem lc_exclude (hp : p + 6 ≤ L) (hL : L ≤ 3072) (hG : OKM G) (next : ∀ G', OKM G' → am_ev (am_E0 L xs) (d + 63) tL_law (1240, lloc p, [], G', bc, bs) P) : am_ev (am_E0 L xs) (d + 63) tL_law (404, lloc p, [], G, bc, bs) P := by
  obtain ⟨G1, G2, v, g1, g2, hx, ok⟩ := t_exclude (E := am_E0 L xs) (d := d) (s := lsc xs p 1) (t := lsc xs p 2) G hG
  obtain ⟨f8, f9, G', e⟩ := hG.hx.H
  subst e
  obtain ⟨f8', f9', G1', e⟩ := hx.H
  subst e
  refine ev_go 415 rfl ⟨l_vp hp hL (j := 1) (by decide), l_vp hp hL (j := 2) (by decide), trivial⟩ ?_
  refine ev_callb rfl (Nat.le_of_ble_eq_true rfl) (fun _ => ⟨_, _, _, rfl, rfl⟩) g1 (Nat.zero_le _) (Nat.zero_le _) ?_
  refine ev_go 429 rfl ⟨l_vp hp hL (j := 1) (by decide), l_vp hp hL (j := 2) (by decide), trivial⟩ ?_
  refine ev_callb rfl (Nat.le_of_ble_eq_true rfl) (fun _ => ⟨_, _, _, rfl, rfl⟩) g2 (Nat.zero_le _) (Nat.zero_le _) ?_
  refine ev_go 999 rfl trivial ?_
  refine ev_pos rfl ?_
  exact next G2 ok
theorem lc_target (hp : p + 6 ≤ L) (hL : L ≤ 3072) (hG : OKM G) (next : ∀ G', OKM G' → am_ev (am_E0 L xs) (d + 63) tL_law (1240, lloc p, [], G', bc, bs) P) : am_ev (am_E0 L xs) (d + 63) tL_law (437, lloc p, [], G, bc, bs) P := by
  obtain ⟨G1, G2, v, g1, g2, hx, ok⟩ := t_target (E := am_E0 L xs) (d := d) (g := lsc xs p 1) (w := lsc xs p 2) (k := lsc xs p 3) G hG
  obtain ⟨f8, f9, G', e⟩ := hG.hx.H
  subst e
  obtain ⟨f8', f9', G1', e⟩ := hx.H
  subst e
  refine ev_go 453 rfl ⟨l_vp hp hL (j := 1) (by decide), l_vp hp hL (j := 2) (by decide), l_vp hp hL (j := 3) (by decide), trivial⟩ ?_
  refine ev_callb rfl (Nat.le_of_ble_eq_true rfl) (fun _ => ⟨_, _, _, rfl, rfl⟩) g1 (Nat.zero_le _) (Nat.zero_le _) ?_
  refine ev_go 472 rfl ⟨l_vp hp hL (j := 1) (by decide), l_vp hp hL (j := 2) (by decide), l_vp hp hL (j := 3) (by decide), trivial⟩ ?_
  refine ev_callb rfl (Nat.le_of_ble_eq_true rfl) (fun _ => ⟨_, _, _, rfl, rfl⟩) g2 (Nat.zero_le _) (Nat.zero_le _) ?_
  refine ev_go 999 rfl trivial ?_
  refine ev_pos rfl ?_
  exact next G2 ok
theorem lc_limits (hp : p + 6 ≤ L) (hL : L ≤ 3072) (hG : OKM G) (next : ∀ G', OKM G' → am_ev (am_E0 L xs) (d + 63) tL_law (1240, lloc p, [], G', bc, bs) P) : am_ev (am_E0 L xs) (d + 63) tL_law (480, lloc p, [], G, bc, bs) P := by
  obtain ⟨G1, G2, v, g1, g2, hx, ok⟩ := t_limits (E := am_E0 L xs) (d := d) (g := lsc xs p 1) (x := lsc xs p 2) (y := lsc xs p 3) G hG
  obtain ⟨f8, f9, G', e⟩ := hG.hx.H
  subst e
  obtain ⟨f8', f9', G1', e⟩ := hx.H
  subst e
  refine ev_go 496 rfl ⟨l_vp hp hL (j := 1) (by decide), l_vp hp hL (j := 2) (by decide), l_vp hp hL (j := 3) (by decide), trivial⟩ ?_
  refine ev_callb rfl (Nat.le_of_ble_eq_true rfl) (fun _ => ⟨_, _, _, rfl, rfl⟩) g1 (Nat.zero_le _) (Nat.zero_le _) ?_
  refine ev_go 515 rfl ⟨l_vp hp hL (j := 1) (by decide), l_vp hp hL (j := 2) (by decide), l_vp hp hL (j := 3) (by decide), trivial⟩ ?_
  refine ev_callb rfl (Nat.le_of_ble_eq_true rfl) (fun _ => ⟨_, _, _, rfl, rfl⟩) g2 (Nat.zero_le _) (Nat.zero_le _) ?_
  refine ev_go 999 rfl trivial ?_
  refine ev_pos rfl ?_
  exact next G2 ok
theorem lc_absent (hp : p + 6 ≤ L) (hL : L ≤ 3072) (hG : OKM G) (next : ∀ G', OKM G' → am_ev (am_E0 L xs) (d + 63) tL_law (1240, lloc p, [], G', bc, bs) P) : am_ev (am_E0 L xs) (d + 63) tL_law (523, lloc p, [], G, bc, bs) P := by
  obtain ⟨G1, G2, v, g1, g2, hx, ok⟩ := t_absent (E := am_E0 L xs) (d := d) (w := lsc xs p 1) (f := lsc xs p 2) (t := lsc xs p 3) rfl G hG
  obtain ⟨f8, f9, G', e⟩ := hG.hx.H
  subst e
  obtain ⟨f8', f9', G1', e⟩ := hx.H
  subst e
  refine ev_go 539 rfl ⟨l_vp hp hL (j := 1) (by decide), l_vp hp hL (j := 2) (by decide), l_vp hp hL (j := 3) (by decide), trivial⟩ ?_
  refine ev_callb rfl (Nat.le_of_ble_eq_true rfl) (fun _ => ⟨_, _, _, rfl, rfl⟩) g1 (Nat.zero_le _) (Nat.zero_le _) ?_
  refine ev_go 558 rfl ⟨l_vp hp hL (j := 1) (by decide), l_vp hp hL (j := 2) (by decide), l_vp hp hL (j := 3) (by decide), trivial⟩ ?_
  refine ev_callb rfl (Nat.le_of_ble_eq_true rfl) (fun _ => ⟨_, _, _, rfl, rfl⟩) g2 (Nat.zero_le _) (Nat.zero_le _) ?_
  refine ev_go 999 rfl trivial ?_
  refine ev_pos rfl ?_
  exact next G2 ok
theorem lc_mark (hp : p + 6 ≤ L) (hL : L ≤ 3072) (hG : OKM G) (next : ∀ G', OKM G' → am_ev (am_E0 L xs) (d + 63) tL_law (1240, lloc p, [], G', bc, bs) P) : am_ev (am_E0 L xs) (d + 63) tL_law (566, lloc p, [], G, bc, bs) P := by
  obtain ⟨G1, G2, v, g1, g2, hx, ok⟩ := t_mark (E := am_E0 L xs) (d := d) (w := lsc xs p 1) (day := lsc xs p 2) (mi := lsc xs p 3) (s := lsc xs p 4) rfl G hG
  obtain ⟨f8, f9, G', e⟩ := hG.hx.H
  subst e
  obtain ⟨f8', f9', G1', e⟩ := hx.H
  subst e
  refine ev_go 587 rfl ⟨l_vp hp hL (j := 1) (by decide), l_vp hp hL (j := 2) (by decide), l_vp hp hL (j := 3) (by decide), l_vp hp hL (j := 4) (by decide), trivial⟩ ?_
  refine ev_callb rfl (Nat.le_of_ble_eq_true rfl) (fun _ => ⟨_, _, _, rfl, rfl⟩) g1 (Nat.zero_le _) (Nat.zero_le _) ?_
  refine ev_go 611 rfl ⟨l_vp hp hL (j := 1) (by decide), l_vp hp hL (j := 2) (by decide), l_vp hp hL (j := 3) (by decide), l_vp hp hL (j := 4) (by decide), trivial⟩ ?_
  refine ev_callb rfl (Nat.le_of_ble_eq_true rfl) (fun _ => ⟨_, _, _, rfl, rfl⟩) g2 (Nat.zero_le _) (Nat.zero_le _) ?_
  refine ev_go 999 rfl trivial ?_
  refine ev_pos rfl ?_
  exact next G2 ok
theorem lc_late (hp : p + 6 ≤ L) (hL : L ≤ 3072) (hG : OKM G) (next : ∀ G', OKM G' → am_ev (am_E0 L xs) (d + 63) tL_law (1240, lloc p, [], G', bc, bs) P) : am_ev (am_E0 L xs) (d + 63) tL_law (619, lloc p, [], G, bc, bs) P := by
  obtain ⟨G1, G2, v, g1, g2, hx, ok⟩ := t_late (E := am_E0 L xs) (d := d) (w := lsc xs p 1) (day := lsc xs p 2) (mi := lsc xs p 3) (s := lsc xs p 4) rfl G hG
  obtain ⟨f8, f9, G', e⟩ := hG.hx.H
  subst e
  obtain ⟨f8', f9', G1', e⟩ := hx.H
  subst e
  refine ev_go 640 rfl ⟨l_vp hp hL (j := 1) (by decide), l_vp hp hL (j := 2) (by decide), l_vp hp hL (j := 3) (by decide), l_vp hp hL (j := 4) (by decide), trivial⟩ ?_
  refine ev_callb rfl (Nat.le_of_ble_eq_true rfl) (fun _ => ⟨_, _, _, rfl, rfl⟩) g1 (Nat.zero_le _) (Nat.zero_le _) ?_
  refine ev_go 664 rfl ⟨l_vp hp hL (j := 1) (by decide), l_vp hp hL (j := 2) (by decide), l_vp hp hL (j := 3) (by decide), l_vp hp hL (j := 4) (by decide), trivial⟩ ?_
  refine ev_callb rfl (Nat.le_of_ble_eq_true rfl) (fun _ => ⟨_, _, _, rfl, rfl⟩) g2 (Nat.zero_le _) (Nat.zero_le _) ?_
  refine ev_go 999 rfl trivial ?_
  refine ev_pos rfl ?_
  exact next G2 ok
theorem lc_unmark (hp : p + 6 ≤ L) (hL : L ≤ 3072) (hG : OKM G) (next : ∀ G', OKM G' → am_ev (am_E0 L xs) (d + 63) tL_law (1240, lloc p, [], G', bc, bs) P) : am_ev (am_E0 L xs) (d + 63) tL_law (672, lloc p, [], G, bc, bs) P := by
  obtain ⟨G1, G2, v, g1, g2, hx, ok⟩ := t_unmark (E := am_E0 L xs) (d := d) (w := lsc xs p 1) (day := lsc xs p 2) (mi := lsc xs p 3) rfl G hG
  obtain ⟨f8, f9, G', e⟩ := hG.hx.H
  subst e
  obtain ⟨f8', f9', G1', e⟩ := hx.H
  subst e
  refine ev_go 688 rfl ⟨l_vp hp hL (j := 1) (by decide), l_vp hp hL (j := 2) (by decide), l_vp hp hL (j := 3) (by decide), trivial⟩ ?_
  refine ev_callb rfl (Nat.le_of_ble_eq_true rfl) (fun _ => ⟨_, _, _, rfl, rfl⟩) g1 (Nat.zero_le _) (Nat.zero_le _) ?_
  refine ev_go 707 rfl ⟨l_vp hp hL (j := 1) (by decide), l_vp hp hL (j := 2) (by decide), l_vp hp hL (j := 3) (by decide), trivial⟩ ?_
  refine ev_callb rfl (Nat.le_of_ble_eq_true rfl) (fun _ => ⟨_, _, _, rfl, rfl⟩) g2 (Nat.zero_le _) (Nat.zero_le _) ?_
  refine ev_go 999 rfl trivial ?_
  refine ev_pos rfl ?_
  exact next G2 ok
theorem lc_marked (hp : p + 6 ≤ L) (hL : L ≤ 3072) (hG : OKM G) (next : ∀ G', OKM G' → am_ev (am_E0 L xs) (d + 63) tL_law (1240, lloc p, [], G', bc, bs) P) : am_ev (am_E0 L xs) (d + 63) tL_law (715, lloc p, [], G, bc, bs) P := by
  obtain ⟨G1, G2, v, g1, g2, hx, ok⟩ := t_marked (E := am_E0 L xs) (d := d) (w := lsc xs p 1) (k := lsc xs p 2) (what := lsc xs p 3) rfl G hG
  obtain ⟨f8, f9, G', e⟩ := hG.hx.H
  subst e
  obtain ⟨f8', f9', G1', e⟩ := hx.H
  subst e
  refine ev_go 731 rfl ⟨l_vp hp hL (j := 1) (by decide), l_vp hp hL (j := 2) (by decide), l_vp hp hL (j := 3) (by decide), trivial⟩ ?_
  refine ev_callb rfl (Nat.le_of_ble_eq_true rfl) (fun _ => ⟨_, _, _, rfl, rfl⟩) g1 (Nat.zero_le _) (Nat.zero_le _) ?_
  refine ev_go 750 rfl ⟨l_vp hp hL (j := 1) (by decide), l_vp hp hL (j := 2) (by decide), l_vp hp hL (j := 3) (by decide), trivial⟩ ?_
  refine ev_callb rfl (Nat.le_of_ble_eq_true rfl) (fun _ => ⟨_, _, _, rfl, rfl⟩) g2 (Nat.zero_le _) (Nat.zero_le _) ?_
  refine ev_go 999 rfl trivial ?_
  refine ev_pos rfl ?_
  exact next G2 ok
theorem lc_day (hp : p + 6 ≤ L) (hL : L ≤ 3072) (hG : OKM G) (next : ∀ G', OKM G' → am_ev (am_E0 L xs) (d + 63) tL_law (1240, lloc p, [], G', bc, bs) P) : am_ev (am_E0 L xs) (d + 63) tL_law (758, lloc p, [], G, bc, bs) P := by
  obtain ⟨G1, G2, v, g1, g2, hx, ok⟩ := t_day (E := am_E0 L xs) (d := d) (g := lsc xs p 1) (day := lsc xs p 2) (what := lsc xs p 3) rfl G hG
  obtain ⟨f8, f9, G', e⟩ := hG.hx.H
  subst e
  obtain ⟨f8', f9', G1', e⟩ := hx.H
  subst e
  refine ev_go 774 rfl ⟨l_vp hp hL (j := 1) (by decide), l_vp hp hL (j := 2) (by decide), l_vp hp hL (j := 3) (by decide), trivial⟩ ?_
  refine ev_callb rfl (Nat.le_of_ble_eq_true rfl) (fun _ => ⟨_, _, _, rfl, rfl⟩) g1 (Nat.zero_le _) (Nat.zero_le _) ?_
  refine ev_go 793 rfl ⟨l_vp hp hL (j := 1) (by decide), l_vp hp hL (j := 2) (by decide), l_vp hp hL (j := 3) (by decide), trivial⟩ ?_
  refine ev_callb rfl (Nat.le_of_ble_eq_true rfl) (fun _ => ⟨_, _, _, rfl, rfl⟩) g2 (Nat.zero_le _) (Nat.zero_le _) ?_
  refine ev_go 999 rfl trivial ?_
  refine ev_pos rfl ?_
  exact next G2 ok
theorem lc_shifts (hp : p + 6 ≤ L) (hL : L ≤ 3072) (hG : OKM G) (next : ∀ G', OKM G' → am_ev (am_E0 L xs) (d + 63) tL_law (1240, lloc p, [], G', bc, bs) P) : am_ev (am_E0 L xs) (d + 63) tL_law (801, lloc p, [], G, bc, bs) P := by
  obtain ⟨G1, G2, v, g1, g2, hx, ok⟩ := t_shifts (E := am_E0 L xs) (d := d) (w := lsc xs p 1) (day := lsc xs p 2) (what := lsc xs p 3) rfl G hG
  obtain ⟨f8, f9, G', e⟩ := hG.hx.H
  subst e
  obtain ⟨f8', f9', G1', e⟩ := hx.H
  subst e
  refine ev_go 817 rfl ⟨l_vp hp hL (j := 1) (by decide), l_vp hp hL (j := 2) (by decide), l_vp hp hL (j := 3) (by decide), trivial⟩ ?_
  refine ev_callb rfl (Nat.le_of_ble_eq_true rfl) (fun _ => ⟨_, _, _, rfl, rfl⟩) g1 (Nat.zero_le _) (Nat.zero_le _) ?_
  refine ev_go 836 rfl ⟨l_vp hp hL (j := 1) (by decide), l_vp hp hL (j := 2) (by decide), l_vp hp hL (j := 3) (by decide), trivial⟩ ?_
  refine ev_callb rfl (Nat.le_of_ble_eq_true rfl) (fun _ => ⟨_, _, _, rfl, rfl⟩) g2 (Nat.zero_le _) (Nat.zero_le _) ?_
  refine ev_go 999 rfl trivial ?_
  refine ev_pos rfl ?_
  exact next G2 ok
theorem lc_minute (hp : p + 6 ≤ L) (hL : L ≤ 3072) (hG : OKM G) (next : ∀ G', OKM G' → am_ev (am_E0 L xs) (d + 63) tL_law (1240, lloc p, [], G', bc, bs) P) : am_ev (am_E0 L xs) (d + 63) tL_law (844, lloc p, [], G, bc, bs) P := by
  obtain ⟨G1, G2, v, g1, g2, hx, ok⟩ := t_minute (E := am_E0 L xs) (d := d) (w := lsc xs p 1) (day := lsc xs p 2) (m := lsc xs p 3) rfl G hG
  obtain ⟨f8, f9, G', e⟩ := hG.hx.H
  subst e
  obtain ⟨f8', f9', G1', e⟩ := hx.H
  subst e
  refine ev_go 860 rfl ⟨l_vp hp hL (j := 1) (by decide), l_vp hp hL (j := 2) (by decide), l_vp hp hL (j := 3) (by decide), trivial⟩ ?_
  refine ev_callb rfl (Nat.le_of_ble_eq_true rfl) (fun _ => ⟨_, _, _, rfl, rfl⟩) g1 (Nat.zero_le _) (Nat.zero_le _) ?_
  refine ev_go 879 rfl ⟨l_vp hp hL (j := 1) (by decide), l_vp hp hL (j := 2) (by decide), l_vp hp hL (j := 3) (by decide), trivial⟩ ?_
  refine ev_callb rfl (Nat.le_of_ble_eq_true rfl) (fun _ => ⟨_, _, _, rfl, rfl⟩) g2 (Nat.zero_le _) (Nat.zero_le _) ?_
  refine ev_go 999 rfl trivial ?_
  refine ev_pos rfl ?_
  exact next G2 ok
theorem lc_minutes (hp : p + 6 ≤ L) (hL : L ≤ 3072) (hG : OKM G) (next : ∀ G', OKM G' → am_ev (am_E0 L xs) (d + 63) tL_law (1240, lloc p, [], G', bc, bs) P) : am_ev (am_E0 L xs) (d + 63) tL_law (887, lloc p, [], G, bc, bs) P := by
  obtain ⟨G1, G2, v, g1, g2, hx, ok⟩ := t_minutes (E := am_E0 L xs) (d := d) (w := lsc xs p 1) (day := lsc xs p 2) (m := lsc xs p 3) rfl G hG
  obtain ⟨f8, f9, G', e⟩ := hG.hx.H
  subst e
  obtain ⟨f8', f9', G1', e⟩ := hx.H
  subst e
  refine ev_go 903 rfl ⟨l_vp hp hL (j := 1) (by decide), l_vp hp hL (j := 2) (by decide), l_vp hp hL (j := 3) (by decide), trivial⟩ ?_
  refine ev_callb rfl (Nat.le_of_ble_eq_true rfl) (fun _ => ⟨_, _, _, rfl, rfl⟩) g1 (Nat.zero_le _) (Nat.zero_le _) ?_
  refine ev_go 922 rfl ⟨l_vp hp hL (j := 1) (by decide), l_vp hp hL (j := 2) (by decide), l_vp hp hL (j := 3) (by decide), trivial⟩ ?_
  refine ev_callb rfl (Nat.le_of_ble_eq_true rfl) (fun _ => ⟨_, _, _, rfl, rfl⟩) g2 (Nat.zero_le _) (Nat.zero_le _) ?_
  refine ev_go 999 rfl trivial ?_
  refine ev_pos rfl ?_
  exact next G2 ok
theorem lc_why (hp : p + 6 ≤ L) (hL : L ≤ 3072) (hG : OKM G) (next : ∀ G', OKM G' → am_ev (am_E0 L xs) (d + 63) tL_law (1240, lloc p, [], G', bc, bs) P) : am_ev (am_E0 L xs) (d + 63) tL_law (930, lloc p, [], G, bc, bs) P := by
  obtain ⟨G1, G2, v, g1, g2, hx, ok⟩ := t_why (E := am_E0 L xs) (d := d) (w := lsc xs p 1) (day := lsc xs p 2) (m := lsc xs p 3) rfl G hG
  obtain ⟨f8, f9, G', e⟩ := hG.hx.H
  subst e
  obtain ⟨f8', f9', G1', e⟩ := hx.H
  subst e
  refine ev_go 946 rfl ⟨l_vp hp hL (j := 1) (by decide), l_vp hp hL (j := 2) (by decide), l_vp hp hL (j := 3) (by decide), trivial⟩ ?_
  refine ev_callb rfl (Nat.le_of_ble_eq_true rfl) (fun _ => ⟨_, _, _, rfl, rfl⟩) g1 (Nat.zero_le _) (Nat.zero_le _) ?_
  refine ev_go 965 rfl ⟨l_vp hp hL (j := 1) (by decide), l_vp hp hL (j := 2) (by decide), l_vp hp hL (j := 3) (by decide), trivial⟩ ?_
  refine ev_callb rfl (Nat.le_of_ble_eq_true rfl) (fun _ => ⟨_, _, _, rfl, rfl⟩) g2 (Nat.zero_le _) (Nat.zero_le _) ?_
  refine ev_go 999 rfl trivial ?_
  refine ev_pos rfl ?_
  exact next G2 ok
theorem lc_counts (hp : p + 6 ≤ L) (hL : L ≤ 3072) (hG : OKM G) (next : ∀ G', OKM G' → am_ev (am_E0 L xs) (d + 63) tL_law (1240, lloc p, [], G', bc, bs) P) : am_ev (am_E0 L xs) (d + 63) tL_law (973, lloc p, [], G, bc, bs) P := by
  obtain ⟨G1, G2, v, g1, g2, hx, ok⟩ := t_counts (E := am_E0 L xs) (d := d) (w := lsc xs p 1) (day := lsc xs p 2) (m := lsc xs p 3) (s := lsc xs p 4) (what := lsc xs p 5) rfl G hG
  obtain ⟨f8, f9, G', e⟩ := hG.hx.H
  subst e
  obtain ⟨f8', f9', G1', e⟩ := hx.H
  subst e
  refine ev_go 999 rfl ⟨l_vp hp hL (j := 1) (by decide), l_vp hp hL (j := 2) (by decide), l_vp hp hL (j := 3) (by decide), l_vp hp hL (j := 4) (by decide), l_vp hp hL (j := 5) (by decide), trivial⟩ ?_
  refine ev_callb rfl (Nat.le_of_ble_eq_true rfl) (fun _ => ⟨_, _, _, rfl, rfl⟩) g1 (Nat.zero_le _) (Nat.zero_le _) ?_
  refine ev_go 1028 rfl ⟨l_vp hp hL (j := 1) (by decide), l_vp hp hL (j := 2) (by decide), l_vp hp hL (j := 3) (by decide), l_vp hp hL (j := 4) (by decide), l_vp hp hL (j := 5) (by decide), trivial⟩ ?_
  refine ev_callb rfl (Nat.le_of_ble_eq_true rfl) (fun _ => ⟨_, _, _, rfl, rfl⟩) g2 (Nat.zero_le _) (Nat.zero_le _) ?_
  refine ev_go 999 rfl trivial ?_
  refine ev_pos rfl ?_
  exact next G2 ok
theorem lc_cents (hp : p + 6 ≤ L) (hL : L ≤ 3072) (hG : OKM G) (next : ∀ G', OKM G' → am_ev (am_E0 L xs) (d + 63) tL_law (1240, lloc p, [], G', bc, bs) P) : am_ev (am_E0 L xs) (d + 63) tL_law (1036, lloc p, [], G, bc, bs) P := by
  obtain ⟨G1, G2, v, g1, g2, hx, ok⟩ := t_cents (E := am_E0 L xs) (d := d) (w := lsc xs p 1) (day := lsc xs p 2) rfl G hG
  obtain ⟨f8, f9, G', e⟩ := hG.hx.H
  subst e
  obtain ⟨f8', f9', G1', e⟩ := hx.H
  subst e
  refine ev_go 1047 rfl ⟨l_vp hp hL (j := 1) (by decide), l_vp hp hL (j := 2) (by decide), trivial⟩ ?_
  refine ev_callb rfl (Nat.le_of_ble_eq_true rfl) (fun _ => ⟨_, _, _, rfl, rfl⟩) g1 (Nat.zero_le _) (Nat.zero_le _) ?_
  refine ev_go 1061 rfl ⟨l_vp hp hL (j := 1) (by decide), l_vp hp hL (j := 2) (by decide), trivial⟩ ?_
  refine ev_callb rfl (Nat.le_of_ble_eq_true rfl) (fun _ => ⟨_, _, _, rfl, rfl⟩) g2 (Nat.zero_le _) (Nat.zero_le _) ?_
  refine ev_go 999 rfl trivial ?_
  refine ev_pos (lg_self v) ?_
  exact next G2 ok
theorem lc_due (hp : p + 6 ≤ L) (hL : L ≤ 3072) (hG : OKM G) (next : ∀ G', OKM G' → am_ev (am_E0 L xs) (d + 63) tL_law (1240, lloc p, [], G', bc, bs) P) : am_ev (am_E0 L xs) (d + 63) tL_law (1070, lloc p, [], G, bc, bs) P := by
  obtain ⟨G1, G2, v, g1, g2, hx, ok⟩ := t_due (E := am_E0 L xs) (d := d) (w := lsc xs p 1) (day := lsc xs p 2) rfl G hG
  obtain ⟨f8, f9, G', e⟩ := hG.hx.H
  subst e
  obtain ⟨f8', f9', G1', e⟩ := hx.H
  subst e
  refine ev_go 1081 rfl ⟨l_vp hp hL (j := 1) (by decide), l_vp hp hL (j := 2) (by decide), trivial⟩ ?_
  refine ev_callb rfl (Nat.le_of_ble_eq_true rfl) (fun _ => ⟨_, _, _, rfl, rfl⟩) g1 (Nat.zero_le _) (Nat.zero_le _) ?_
  refine ev_go 1095 rfl ⟨l_vp hp hL (j := 1) (by decide), l_vp hp hL (j := 2) (by decide), trivial⟩ ?_
  refine ev_callb rfl (Nat.le_of_ble_eq_true rfl) (fun _ => ⟨_, _, _, rfl, rfl⟩) g2 (Nat.zero_le _) (Nat.zero_le _) ?_
  refine ev_go 999 rfl trivial ?_
  refine ev_pos rfl ?_
  exact next G2 ok
theorem lc_close (hp : p + 6 ≤ L) (hL : L ≤ 3072) (hG : OKM G) (next : ∀ G', OKM G' → am_ev (am_E0 L xs) (d + 63) tL_law (1240, lloc p, [], G', bc, bs) P) : am_ev (am_E0 L xs) (d + 63) tL_law (1103, lloc p, [], G, bc, bs) P := by
  obtain ⟨G1, G2, v, g1, g2, hx, ok⟩ := t_close (E := am_E0 L xs) (d := d)  rfl G hG
  obtain ⟨f8, f9, G', e⟩ := hG.hx.H
  subst e
  obtain ⟨f8', f9', G1', e⟩ := hx.H
  subst e
  refine ev_go 1104 rfl trivial ?_
  refine ev_callb rfl (Nat.le_of_ble_eq_true rfl) (fun _ => ⟨_, _, _, rfl, rfl⟩) g1 (Nat.zero_le _) (Nat.zero_le _) ?_
  refine ev_go 1108 rfl trivial ?_
  refine ev_callb rfl (Nat.le_of_ble_eq_true rfl) (fun _ => ⟨_, _, _, rfl, rfl⟩) g2 (Nat.zero_le _) (Nat.zero_le _) ?_
  refine ev_go 999 rfl trivial ?_
  refine ev_pos rfl ?_
  exact next G2 ok
theorem lc_open (hp : p + 6 ≤ L) (hL : L ≤ 3072) (hG : OKM G) (next : ∀ G', OKM G' → am_ev (am_E0 L xs) (d + 63) tL_law (1240, lloc p, [], G', bc, bs) P) : am_ev (am_E0 L xs) (d + 63) tL_law (1116, lloc p, [], G, bc, bs) P := by
  obtain ⟨G1, G2, v, g1, g2, hx, ok⟩ := t_open (E := am_E0 L xs) (d := d)  G hG
  obtain ⟨f8, f9, G', e⟩ := hG.hx.H
  subst e
  obtain ⟨f8', f9', G1', e⟩ := hx.H
  subst e
  refine ev_go 1117 rfl trivial ?_
  refine ev_callb rfl (Nat.le_of_ble_eq_true rfl) (fun _ => ⟨_, _, _, rfl, rfl⟩) g1 (Nat.zero_le _) (Nat.zero_le _) ?_
  refine ev_go 1121 rfl trivial ?_
  refine ev_callb rfl (Nat.le_of_ble_eq_true rfl) (fun _ => ⟨_, _, _, rfl, rfl⟩) g2 (Nat.zero_le _) (Nat.zero_le _) ?_
  refine ev_go 999 rfl trivial ?_
  refine ev_pos rfl ?_
  exact next G2 ok
theorem lc_month (hp : p + 6 ≤ L) (hL : L ≤ 3072) (hG : OKM G) (next : ∀ G', OKM G' → am_ev (am_E0 L xs) (d + 63) tL_law (1240, lloc p, [], G', bc, bs) P) : am_ev (am_E0 L xs) (d + 63) tL_law (1129, lloc p, [], G, bc, bs) P := by
  obtain ⟨G1, G2, v, g1, g2, hx, ok⟩ := t_month (E := am_E0 L xs) (d := d) (w := lsc xs p 1) (m := lsc xs p 2) (what := lsc xs p 3) rfl G hG
  obtain ⟨f8, f9, G', e⟩ := hG.hx.H
  subst e
  obtain ⟨f8', f9', G1', e⟩ := hx.H
  subst e
  refine ev_go 1145 rfl ⟨l_vp hp hL (j := 1) (by decide), l_vp hp hL (j := 2) (by decide), l_vp hp hL (j := 3) (by decide), trivial⟩ ?_
  refine ev_callb rfl (Nat.le_of_ble_eq_true rfl) (fun _ => ⟨_, _, _, rfl, rfl⟩) g1 (Nat.zero_le _) (Nat.zero_le _) ?_
  refine ev_go 1164 rfl ⟨l_vp hp hL (j := 1) (by decide), l_vp hp hL (j := 2) (by decide), l_vp hp hL (j := 3) (by decide), trivial⟩ ?_
  refine ev_callb rfl (Nat.le_of_ble_eq_true rfl) (fun _ => ⟨_, _, _, rfl, rfl⟩) g2 (Nat.zero_le _) (Nat.zero_le _) ?_
  refine ev_go 999 rfl trivial ?_
  refine ev_pos (lg_self v) ?_
  exact next G2 ok
theorem lc_sum (hp : p + 6 ≤ L) (hL : L ≤ 3072) (hG : OKM G) (next : ∀ G', OKM G' → am_ev (am_E0 L xs) (d + 63) tL_law (1240, lloc p, [], G', bc, bs) P) : am_ev (am_E0 L xs) (d + 63) tL_law (1173, lloc p, [], G, bc, bs) P := by
  obtain ⟨G1, G2, v, g1, g2, hx, ok⟩ := t_sum (E := am_E0 L xs) (d := d) (g := lsc xs p 1) (m := lsc xs p 2) (what := lsc xs p 3) rfl G hG
  obtain ⟨f8, f9, G', e⟩ := hG.hx.H
  subst e
  obtain ⟨f8', f9', G1', e⟩ := hx.H
  subst e
  refine ev_go 1189 rfl ⟨l_vp hp hL (j := 1) (by decide), l_vp hp hL (j := 2) (by decide), l_vp hp hL (j := 3) (by decide), trivial⟩ ?_
  refine ev_callb rfl (Nat.le_of_ble_eq_true rfl) (fun _ => ⟨_, _, _, rfl, rfl⟩) g1 (Nat.zero_le _) (Nat.zero_le _) ?_
  refine ev_go 1208 rfl ⟨l_vp hp hL (j := 1) (by decide), l_vp hp hL (j := 2) (by decide), l_vp hp hL (j := 3) (by decide), trivial⟩ ?_
  refine ev_callb rfl (Nat.le_of_ble_eq_true rfl) (fun _ => ⟨_, _, _, rfl, rfl⟩) g2 (Nat.zero_le _) (Nat.zero_le _) ?_
  refine ev_go 999 rfl trivial ?_
  refine ev_pos (lg_self v) ?_
  exact next G2 ok
theorem lc_count (hp : p + 6 ≤ L) (hL : L ≤ 3072) (hG : OKM G) (next : ∀ G', OKM G' → am_ev (am_E0 L xs) (d + 63) tL_law (1240, lloc p, [], G', bc, bs) P) : am_ev (am_E0 L xs) (d + 63) tL_law (1217, lloc p, [], G, bc, bs) P := by
  obtain ⟨G1, G2, v, g1, g2, hx, ok⟩ := t_count (E := am_E0 L xs) (d := d) (w := lsc xs p 1) G hG
  obtain ⟨f8, f9, G', e⟩ := hG.hx.H
  subst e
  obtain ⟨f8', f9', G1', e⟩ := hx.H
  subst e
  refine ev_go 1223 rfl ⟨l_vp hp hL (j := 1) (by decide), trivial⟩ ?_
  refine ev_callb rfl (Nat.le_of_ble_eq_true rfl) (fun _ => ⟨_, _, _, rfl, rfl⟩) g1 (Nat.zero_le _) (Nat.zero_le _) ?_
  refine ev_go 1232 rfl ⟨l_vp hp hL (j := 1) (by decide), trivial⟩ ?_
  refine ev_callb rfl (Nat.le_of_ble_eq_true rfl) (fun _ => ⟨_, _, _, rfl, rfl⟩) g2 (Nat.zero_le _) (Nat.zero_le _) ?_
  refine ev_go 999 rfl trivial ?_
  refine ev_pos rfl ?_
  exact next G2 ok
end LC
