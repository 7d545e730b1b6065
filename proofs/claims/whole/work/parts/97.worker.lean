/-! A new worker, in the full memory. -/
section FWK
variable {E : am_E} {d : Nat} {G G0 : am_M} {ri si : Nat → Int32} {rA sA : Nat → Nat → Int32} {rb sb : Nat → Nat → Int64} {sj : Nat → Int64} {i : Nat → Int32} {j : Nat → Int64} {a : Nat → Nat → Int32}
theorem K_J {X l : List am_C} (h : X.length ≤ G0.1) : am_K (am_J X G0) l = am_J X (am_K G0 l) := by
  refine Prod.ext rfl ?_
  funext k
  show (if k < G0.1 then (am_J X G0).2 k else l[k - G0.1]?) = (am_J X (am_K G0 l)).2 k
  by_cases z : k < X.length
  · rw [if_pos (by omega), J_lt z, J_lt z]
  · rw [J_o (by omega), J_o (by omega)]
    rfl
theorem ev_aas {τ : am_T} {P : Option Value → am_M → Prop} {pc bc bs q w : Nat} {L : List (Option Value)} {r : List Value} {M : am_M} {kd n ci : Nat} {f : Nat → Option Nat} {fs : List Value} {x : Int32} (ha : am_at τ pc = some (.aastore, 1)) (hM : M.2 q = some (.inl (kd, n, .inr (.inr (.inr (.inr f)))))) (hw : M.2 w = some (.inr (ci, fs))) (hk : (Nat.beq (am_kd ci) kd && Nat.ble kd 5) = true) (hin : vp_in x n) (kk : am_ev E d τ (pc + 1, L, r, am_w M q (.inl (kd, n, .inr (.inr (.inr (.inr (va_up f x.toNatClampNeg (some w))))))), bc, bs) P) : am_ev E d τ (pc, L, .ref w :: .int x :: .ref q :: r, M, bc, bs) P := by
  refine ev_s (ps := [vp_in x n]) ?_ (am_all_mem (l := [vp_in x n]) ⟨hin, trivial⟩) kk
  unfold am_s
  simp only [ha]
  have e : Nat.beq 1 (am_len .aastore 1) = true := rfl
  rw [e]
  simp only [cond, am_ex, hM, hw, hk]
theorem Wf_up {n : Nat} : va_up (Wf n) n (some (99 + 13 * n)) = Wf (n + 1) := by
  funext k
  unfold Wf
  by_cases z : k = n
  · subst z
    rw [va_s, if_pos (by omega)]
  · rw [va_n z]
    by_cases y : k < n
    · rw [if_pos y, if_pos (by omega)]
    · rw [if_neg y, if_neg (by omega)]
def wnew (p g : Nat) (f : Int32) : List am_C := [.inr (7, [.ref g, .int f, .ref (p + 1), .ref (p + 5), .ref (p + 6), .int 0, .ref (p + 7)]), .inr (1, [.ref (p + 2), .ref (p + 3), .ref (p + 4), .int 0]), .inl (0, 400, .inl (fun _ => 0)), .inl (0, 400, .inl (fun _ => 0)), .inl (0, 400, .inl (fun _ => 0)), .inl (0, 20, .inl (fun _ => 0)), .inl (0, 20, .inl (fun _ => 0)), .inl (6, 5, .inr (.inr (.inr (.inr (sfn p))))), row36, row36, row36, row36, row36]
/-- the full memory with one worker more -/
theorem FM.add {g f : Int32} (h : FM (am_J (xo i j a (Wf (cl (ri 19)))) G0) ri rA rb si sj sA sb) (hc : CX i a ri rA) (hg : inB g 0 5 = true) (hf : inB f 0 1095 = true) (hn : cl (ri 19) < 30) : FM (am_J (xo (va_up i 1 (i 1 + 1)) j a (Wf (cl (ri 19) + 1))) (am_K G0 (wnew (99 + 13 * cl (ri 19)) (20 + 3 * cl g) f))) (wkI ri g f) (wkT ri rA g f) rb si sj sA sb := by
  obtain ⟨n, hnd⟩ : ∃ n, n = cl (ri 19) := ⟨_, rfl⟩
  have e19 : ri 19 = nI n := by rw [hnd]; exact h.inv.w19.1
  have hI := h.inv
  have ok : wkOK ri g f = true := by unfold wkOK gdC; rw [hg, hf, decide_eq_true hn]; rfl
  have hI' := wk_inv (g := g) (f := f) hI
  have kr : KR n rA (wkT ri rA g f) rb rb := by
    unfold wkT
    rw [ok, if_pos rfl, ← hnd]
    refine KR.row hI (fun p o h1 h2 ho => ?_) (fun o ho => ?_) (fun p o k h1 h2 ho hk => ?_) (fun p o k h1 h2 ho hk => ?_) (fun p o m ho hm => rfl)
    · by_cases z : p = 17
      · subst z; rw [va_s]; unfold upd; rw [if_neg ho]
      · rw [va_n z]
        by_cases y : p = 16
        · subst y; rw [va_s]; unfold upd; rw [if_neg ho]
        · rw [va_n y]
    · rw [va_n (by decide), va_n (by decide)]
    · rw [va_n (by omega), va_n (by omega)]
    · rw [va_n (by omega), va_n (by omega)]
  have eI : wkI ri g f = va_up ri 19 (nI (n + 1)) := by unfold wkI; rw [ok, if_pos rfl, ← hnd]
  have eA : wkT ri rA g f = va_up (va_up rA 16 (upd (rA 16) n g)) 17 (upd (rA 17) n f) := by unfold wkT; rw [ok, if_pos rfl, ← hnd]
  have g1 : G0.1 = 99 + 13 * n := by rw [hnd]; exact h.n
  rw [← hnd] at h hn ⊢
  have fr : ∀ p, 62 ≤ p → p < 99 + 13 * n → (am_J (xo (va_up i 1 (i 1 + 1)) j a (Wf (n + 1))) (am_K G0 (wnew (99 + 13 * n) (20 + 3 * cl g) f))).2 p = (am_J (xo i j a (Wf n)) G0).2 p := fun p h1 h2 => by
    rw [J_o h1, J_o h1, K_lt (by omega)]
  rw [eI] at hI' ⊢
  have c1 : cl (va_up ri 19 (nI (n + 1)) 19) = n + 1 := by rw [va_s, cl_nI (by omega)]
  rw [eA] at hI' kr ⊢
  have ow := h.w
  have oe := h.e
  rw [← hnd] at ow oe
  refine ⟨hI', ⟨va_up i 1 (i 1 + 1), j, a, ?_, by rw [c1]; exact J_at⟩, fun q hq => ?_, fun k y hk => ?_, ?_, fun k hk => ?_, fun o h1 h2 => ?_⟩
  · have A : ∀ p, p ≠ 16 → p ≠ 17 → va_up (va_up rA 16 (upd (rA 16) n g)) 17 (upd (rA 17) n f) p = rA p := fun p h1 h2 => by rw [va_n h2, va_n h1]
    obtain ⟨c1, c2, c3, c4, c5, c6, c7, c8, c9, c10, c11, c12, c13, c14⟩ := hc
    refine ⟨?_, ?_, ?_, ?_, ?_, ?_, fun g hg => ?_, ?_, ?_, ?_, ?_, ?_, ?_, ?_⟩
    · rw [va_n (by decide), va_n (by decide)]; exact c1
    · rw [va_s, va_s, c2, e19, nI_1]
    · rw [va_n (by decide), va_n (by decide)]; exact c3
    · rw [va_n (by decide), va_n (by decide)]; exact c4
    · rw [va_n (by decide), va_n (by decide)]; exact c5
    · rw [va_n (by decide), va_n (by decide)]; exact c6
    · rw [A 14 (by decide) (by decide), A 15 (by decide) (by decide), va_n (by omega), va_n (by omega), va_n (by omega)]; exact c7 g hg
    · rw [A 2 (by decide) (by decide)]; exact c8
    · rw [A 13 (by decide) (by decide)]; exact c9
    · rw [A 1 (by decide) (by decide)]; exact c10
    · rw [A 3 (by decide) (by decide), A 4 (by decide) (by decide)]; exact c11
    · rw [va_n (by decide), A 5 (by decide) (by decide), A 6 (by decide) (by decide), A 7 (by decide) (by decide)]; exact c12
    · rw [va_n (by decide), A 8 (by decide) (by decide), A 9 (by decide) (by decide), A 10 (by decide) (by decide), A 11 (by decide) (by decide)]; exact c13
    · rw [A 12 (by decide) (by decide)]; exact c14
  · rw [c1] at hq
    by_cases z : q = n
    · subst z
      obtain ⟨ei, ea, hE, e63, e67⟩ := oe q (Nat.le_refl _) hn
      have r21 : rA 21 q = 0 := by rw [← hE.n]; exact e63
      have r18 : rA 18 q = 0 := by rw [← hE.ab]; exact e67
      have n0 : nA (va_up (va_up rA 16 (upd (rA 16) q g)) 17 (upd (rA 17) q f)) q = 0 := by
        unfold nA
        rw [va_n (by decide), va_n (by decide), r21]
        rfl
      refine ⟨va_up (fun _ => 0) 62 f, fun _ _ => 0, fun _ _ => 0, ⟨?_, ?_, ?_, ?_, ?_, ?_, ?_, hE.b⟩, fun k x hk => ?_⟩
      · rw [va_s, va_s]; unfold upd; rw [if_pos rfl]
      · rw [va_n (by decide), va_n (by decide), va_n (by decide)]; exact r21.symm
      · rw [va_n (by decide), va_n (by decide), va_n (by decide)]; exact r18.symm
      · rw [n0]; exact fun k hk => absurd hk (Nat.not_lt_zero k)
      · rw [n0]; exact fun k hk => absurd hk (Nat.not_lt_zero k)
      · rw [n0]; exact fun k hk => absurd hk (Nat.not_lt_zero k)
      · rw [va_n (by decide), va_n (by decide), r18]; exact fun k hk => absurd hk (Nat.not_lt_zero k)
      · have eg : gA (va_up (va_up rA 16 (upd (rA 16) q g)) 17 (upd (rA 17) q f)) q = cl g := by
          unfold gA
          rw [va_n (by decide), va_s]
          unfold upd
          rw [if_pos rfl]
        rw [eg] at hk
        rw [J_o (show 62 ≤ _ by omega), ← g1, K_at]
        rw [← g1] at hk
        exact hk
    · obtain ⟨vi, va, vb, hv, hK⟩ := ow q (by omega)
      obtain ⟨k1, k2⟩ := kr q z (by omega)
      refine ⟨vi, va, vb, k2 _ _ _ hv, fun k x hk => ?_⟩
      rw [k1] at hk
      have : k < 13 := (List.getElem?_eq_some_iff.mp hk).1
      rw [fr _ (by omega) (by omega)]
      exact hK k x hk
  · have : k < 37 := (List.getElem?_eq_some_iff.mp hk).1
    rw [fr _ (by omega) (by omega)]
    exact h.r k y hk
  · rw [c1]
    show G0.1 + 13 = _
    omega
  · rw [c1] at hk
    rw [J_o (show 62 ≤ k by omega)]
    exact K_o (show G0.1 + 13 ≤ k by omega)
  · rw [c1] at h1
    obtain ⟨wi, wa, hw, e1, e2⟩ := oe o (by omega) h2
    exact ⟨wi, wa, (kr o (by omega) h2).2 _ _ _ hw, e1, e2⟩
theorem c8_worker {g f : Int32} (h : FM G ri rA rb si sj sA sb) : ∃ G', am_D E (d + 10) tX8_worker [.ref 0, .int g, .int f] G 13 1436 (some (.int (wkQ ri g f))) G' ∧ FM G' (wkI ri g f) (wkT ri rA g f) rb si sj sA sb := by
  have hI := h.inv
  have h19 := hI.w19
  have h19b := h19.2
  obtain ⟨P, hP⟩ : ∃ P : Option Value → am_M → Prop, P = fun v M => v = some (.int (wkQ ri g f)) ∧ FM M (wkI ri g f) (wkT ri rA g f) rb si sj sA sb := ⟨_, rfl⟩
  have no : ∀ M v, wkOK ri g f = false → wkQ ri g f = v → FM M ri rA rb si sj sA sb → P (some (.int v)) M := fun M v hk hv hM => by
    rw [hP, ← hv]
    unfold wkI wkT
    rw [hk]
    exact ⟨rfl, hM⟩
  have main : am_ev E (d + 9) tX8_worker (0, am_in [.ref 0, .int g, .int f] tX8_worker.2.2.2.1, [], G, 13, 1436) P := by
    obtain ⟨ci, cj, ca, hcc, L⟩ := h.cls (E := E)
    cases h1 : inB g 0 5 with
    | false =>
      obtain ⟨G1, g1, hM1⟩ := L (xo_findGroup_no (d := d + 7) (j := cj) (W := Wl (cl (ri 19))) h1) rfl rfl hcc hI rfl KR.rf
      obtain ⟨i, j, a, G0, hcx, e0⟩ := h.J
      subst e0
      refine ev_go 999 rfl trivial ?_
      refine ev_callb rfl (Nat.le_of_ble_eq_true rfl) (fun _ => ⟨_, _, _, rfl, rfl⟩) g1 (Nat.zero_le _) (Nat.zero_le _) ?_
      refine ev_go 999 rfl trivial ?_
      refine ev_go 999 rfl trivial ?_
      exact ev_ret rfl trivial (no _ _ (by unfold wkOK gdC; rw [h1]; rfl) (by unfold wkQ gdC; rw [h1]; rfl) hM1)
    | true =>
      have g5 := le0_in (N := 5) (by omega) h1
      have g5b := g5.2
      have vr : (some (Value.ref (20 + 3 * cl g))).map (am_rv r0) = some (.ref (20 + 3 * cl g)) := by
        show some (Value.ref (r0 (20 + 3 * cl g))) = _
        unfold r0
        rw [if_pos (by omega)]
      obtain ⟨G1, g1, hM1⟩ := L (xo_findGroup (d := d + 7) (j := cj) (W := Wl (cl (ri 19))) h1) rfl vr hcc hI rfl KR.rf
      obtain ⟨i, j, a, G0, hcx, e0⟩ := h.J
      subst e0
      refine ev_go 999 rfl trivial ?_
      refine ev_callb rfl (Nat.le_of_ble_eq_true rfl) (fun _ => ⟨_, _, _, rfl, rfl⟩) g1 (Nat.zero_le _) (Nat.zero_le _) ?_
      refine ev_go 999 rfl trivial ?_
      refine ev_go 999 rfl trivial ?_
      refine ev_callb rfl (Nat.le_of_ble_eq_true rfl) (fun z => by cases z) (x8_isDay (d := d + 7) (v := f)) (Nat.zero_le _) (Nat.zero_le _) ?_
      refine ev_go 999 rfl trivial ?_
      cases h2 : inB f 0 1095 with
      | false =>
        refine ev_neg (by decide) ?_
        refine ev_go 999 rfl trivial ?_
        exact ev_ret rfl trivial (no _ _ (by unfold wkOK gdC; rw [h1, h2]; rfl) (by unfold wkQ gdC; rw [h1, h2]; rfl) hM1)
      | true =>
        refine ev_pos (by decide) ?_
        clear hcx
        obtain ⟨i, j, a, G0, hcx, e0⟩ := hM1.J
        subst e0
        by_cases z : cl (ri 19) < 30
        · obtain ⟨n, hnd⟩ : ∃ n, n = cl (ri 19) := ⟨_, rfl⟩
          have g0 : G0.1 = 99 + 13 * n := by rw [hnd]; exact hM1.n
          have i1 : i 1 = nI n := by rw [hcx.i1, hnd]; exact h19.1
          have hA := hM1.add hcx h1 h2 z
          have ho := hM1.o
          rw [← hnd] at z hA
          refine ev_go 999 rfl trivial ?_
          refine ev_pos (by show i 1 < nI 30; rw [i1]; exact nI_lt z (by omega)) ?_
          refine ev_go 39 rfl trivial ?_
          refine ev_M (K_nil (M := am_J (xo i j a (Wf (cl (ri 19)))) G0) (fun k hk => ho k (by rw [← hnd, ← g0]; exact hk))).symm ?_
          refine k_new rfl rfl (Nat.le_of_ble_eq_true rfl) (Nat.le_of_ble_eq_true rfl) (by show G0.1 + 0 < am_X; rw [g0]; unfold am_X; omega) ?_
          refine ev_go 45 rfl trivial ?_
          refine k_ctor (l := []) rfl (Nat.le_of_ble_eq_true rfl) (by decide) (k_worker (d := d + 7) (M := am_K (am_J (xo i j a (Wf (cl (ri 19)))) G0) []) (g := 20 + 3 * cl g) (f := f) (by show G0.1 + 0 + 13 ≤ am_X; rw [g0]; unfold am_X; omega)) (Nat.le_of_ble_eq_true rfl) (Nat.le_of_ble_eq_true rfl) ?_
          refine ev_M (show _ = am_J (xo i j a (Wf n)) (am_K G0 (wnew (99 + 13 * n) (20 + 3 * cl g) f)) by
            rw [← g0, hnd]
            exact K_J (show 62 ≤ G0.1 by omega)) ?_
          show am_ev _ _ _ (48, _, [.ref (G0.1 + 0), .int (i 1), .ref 14], _, _, _) _
          rw [Nat.add_zero G0.1, g0, i1]
          refine ev_aas (q := 14) rfl rfl (show (am_J (xo i j a (Wf n)) (am_K G0 (wnew (99 + 13 * n) (20 + 3 * cl g) f))).2 (99 + 13 * n) = some (.inr (7, [.ref (20 + 3 * cl g), .int f, .ref (99 + 13 * n + 1), .ref (99 + 13 * n + 5), .ref (99 + 13 * n + 6), .int 0, .ref (99 + 13 * n + 7)])) by
            rw [J_o (show 62 ≤ _ by omega)]
            have := K_at (M := G0) (l := wnew (99 + 13 * n) (20 + 3 * cl g) f) (j := 0)
            rw [Nat.add_zero, g0] at this
            rw [this]
            rfl) rfl (vp_in_nI z (by omega)) ?_
          rw [nI_clamp (by omega), Wf_up]
          refine ev_M (show _ = am_J (xo i j a (Wf (n + 1))) (am_K G0 (wnew (99 + 13 * n) (20 + 3 * cl g) f)) by rw [am_w_J (Nat.le_of_ble_eq_true rfl)]; rfl) ?_
          refine ev_go 59 rfl trivial ?_
          refine ev_M (show _ = am_J (xo (va_up i 1 (i 1 + 1)) j a (Wf (n + 1))) (am_K G0 (wnew (99 + 13 * n) (20 + 3 * cl g) f)) by rw [am_w_J (Nat.le_of_ble_eq_true rfl)]; rfl) ?_
          refine ev_go 999 rfl trivial ?_
          refine ev_ret rfl trivial ?_
          rw [hP]
          refine ⟨?_, hA⟩
          show some (Value.int (va_up i 1 (i 1 + 1) 1 - 1)) = _
          unfold wkQ gdC
          rw [va_s, i1, nI_1, nI_pred, h1, h2, ← hnd, Bool.and_self, if_pos rfl, if_pos z]
        · refine ev_go 999 rfl trivial ?_
          refine ev_neg (by show ¬ i 1 < nI 30; rw [hcx.i1, h19.1]; exact nI_nlt (by omega) (by omega)) ?_
          refine ev_go 999 rfl trivial ?_
          exact ev_ret rfl trivial (no _ _ (by unfold wkOK gdC; rw [h1, h2, decide_eq_false z]; rfl) (by unfold wkQ gdC; rw [h1, h2, Bool.and_self, if_pos rfl, if_neg z]; rfl) hM1)
  obtain ⟨v, M', hv, hD⟩ := am_D_ex (Nat.le_of_ble_eq_true rfl) main
  rw [hP] at hv
  obtain ⟨rfl, hv⟩ := hv
  exact ⟨M', hD, hv⟩
theorem t_worker {g f : Int32} : ∀ G, OKM G → ∃ G1 G2 v, am_D E (d + 63) tX8_worker [.ref 0, .int g, .int f] G 13 1436 (some (.int v)) G1 ∧ am_D E (d + 63) tX9_worker [.ref 62, .int g, .int f] G1 0 0 (some (.int v)) G2 ∧ HX G1 ∧ OKM G2 := by
  rintro G ⟨ri, rj, rA, rb, h⟩
  obtain ⟨G1, g1, h1⟩ := c8_worker (E := E) (d := d + 53) (g := g) (f := f) h
  obtain ⟨G2, g2, h2⟩ := h1.ref (x9_worker (E := E) (d := d + 3) (g := g) (f := f) h.inv) rfl rfl
  exact ⟨G1, G2, _, g1, g2, h1.hx, _, _, _, _, h2⟩
end FWK
