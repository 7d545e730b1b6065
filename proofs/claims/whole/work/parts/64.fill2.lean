theorem Rp.amt {f t c : Nat → Nat} {z lo hi : Nat} {g : Nat → Int32} (h : Rp f t c z g) (hlo : 1 ≤ lo) (hl2 : lo < 1000) (hhi : hi < 1000) : fb_sm (fun q => if lo ≤ c q ∧ c q ≤ hi then t q - f q else 0) z = fb_ct (fun m => decide (nI lo ≤ g m) && decide (g m ≤ nI hi)) 2880 := by
  have h0 : (decide (nI lo ≤ (0 : Int32)) && decide ((0 : Int32) ≤ nI hi)) = false := by
    rw [decide_eq_false (nI_nle (by omega) (by omega)), Bool.false_and]
  have h1 := h.count (P := fun x => decide (nI lo ≤ x) && decide (x ≤ nI hi)) h0
  rw [h1]
  refine fb_sm_cong (fun q hq => ?_)
  have hb := h.cb q hq
  rw [← Bool.decide_and]
  by_cases w : lo ≤ c q ∧ c q ≤ hi
  · rw [if_pos w, if_pos (decide_eq_true ⟨nI_le w.1 (by omega), nI_le w.2 (by omega)⟩)]
  · rw [if_neg w, if_neg (fun y => w ?_)]
    have := of_decide_eq_true y
    rw [nI_leI (by omega) (by omega), nI_leI (by omega) (by omega)] at this
    exact this
theorem Rp.g7 {f t c : Nat → Nat} {z : Nat} {g : Nat → Int32} (h : Rp f t c z g) {m : Nat} (hm : m < 2880) : ∃ q, g m = nI q ∧ q ≤ 7 := by
  by_cases w : ∃ k, k < z ∧ f k ≤ m ∧ m < t k
  · obtain ⟨k, h1, h2, h3⟩ := w
    exact ⟨c k, h.ins k h1 m h2 h3, (h.cb k h1).2⟩
  · exact ⟨0, h.ou m hm (fun k hk y => w ⟨k, hk, y.1, y.2⟩), by omega⟩
theorem amt_eq {f t c : Nat → Nat} {z : Nat} {g : Nat → Int32} (h : Rp f t c z g) {v : Nat} (h1 : 1 ≤ v) (h2 : v ≤ 7) : fb_sm (fun q => if v ≤ c q ∧ c q ≤ v then t q - f q else 0) z = cntC g (nI v) 2880 := by
  rw [h.amt h1 (by omega) (by omega)]
  refine fb_ct_cong (fun m hm => ?_)
  obtain ⟨q, hq, hq7⟩ := h.g7 hm
  rw [hq, ← Bool.decide_and]
  refine decide_eq_decide.mpr ?_
  rw [nI_leI (by omega) (by omega), nI_leI (by omega) (by omega), nI_eq (by omega) (by omega)]
  omega
theorem amt_up {f t c : Nat → Nat} {z : Nat} {g : Nat → Int32} (h : Rp f t c z g) {v : Nat} (h1 : 1 ≤ v) (h2 : v ≤ 7) : fb_sm (fun q => if v ≤ c q ∧ c q ≤ 7 then t q - f q else 0) z = cntF g v 2880 := by
  rw [h.amt h1 (by omega) (by omega)]
  refine fb_ct_cong (fun m hm => ?_)
  obtain ⟨q, hq, hq7⟩ := h.g7 hm
  rw [hq, ← Bool.decide_and]
  refine decide_eq_decide.mpr ?_
  rw [nI_leI (by omega) (by omega), nI_leI (by omega) (by omega)]
  omega
theorem cntF_6 (g : Nat → Int32) (N : Nat) : cntF g 6 N = cntP g N := rfl
/-- all that are there stay -/
theorem bhC_all {g : Nat → Int32} {x : Int32} {m : Nat} (hm : m < 2880) : bhC g (cntC g (nI 7) 2880) x m = g m := by
  unfold bhC
  rw [if_neg (fun y => ?_)]
  have h1 := cntC_succ g (nI 7) m
  rw [if_pos y.1] at h1
  have h2 := cntC_mono g (nI 7) (show m + 1 ≤ 2880 by omega)
  omega
section X4
variable {E : am_E} {d n : Nat} {Z : Int32} {F T C mT mS mR rA rB : Nat → Int32} {t s : Nat → Nat}
theorem x4_fill {k day : Nat} {A B : Nat → Nat} (hM : MA n mT mS mR t s (pR t s n)) (hk : k ≤ n) (hday : day < 1096) (hk1 : ∀ q, q < k → ¬ (pR t s n q = 1 ∧ t q / 1440 = day)) (hk2 : ∀ q, k ≤ q → q < n → 1440 * day ≤ t q)
    (hA : ∀ q, q < 5 → rA q = nI (A q)) (hB : ∀ q, q < 5 → rB q = nI (B q)) (a0 : 1 ≤ A 0 ∧ A 0 ≤ 30) (bA : ∀ q, q < 5 → A q ≤ 2880) (bB : ∀ q, q < 5 → B q ≤ 20000) :
    ∃ z' F' T' C' f' t' c', RA z' F' T' C' f' t' c' ∧ Rp f' t' c' z' (dG t (pR t s n) n day A B) ∧ am_D E (d + 4) tX4_fill [.ref 0, .ref 4, .int (nI k), .int (nI day), .ref 8] (am_L (sf Z F T C (XM (nI n) mT mS mR rA rB))) 0 0 none (am_L (sf (nI z') F' T' C' (XM (nI n) mT mS mR rA rB))) := by
  have n4 := hM.n4
  obtain ⟨r, hrd⟩ : ∃ r, r = pR t s n := ⟨_, rfl⟩
  rw [← hrd] at hM hk1 ⊢
  obtain ⟨X, hX⟩ : ∃ X, X = XM (nI n) mT mS mR rA rB := ⟨_, rfl⟩
  obtain ⟨base, hbase⟩ : ∃ base, base = 1440 * day := ⟨_, rfl⟩
  obtain ⟨P, hP⟩ : ∃ P : Option Value → am_M → Prop, P = fun v M => v = none ∧ ∃ z' F' T' C' f' t' c', RA z' F' T' C' f' t' c' ∧ Rp f' t' c' z' (dG t r n day A B) ∧ M = am_L (sf (nI z') F' T' C' X) := ⟨_, rfl⟩
  have v1 : ∀ q, q < 5 → vp_in (nI q) 5 := fun q hq => vp_in_nI hq (by omega)
  have gA : ∀ q, q < 5 → rA (nI q).toNatClampNeg = nI (A q) := fun q hq => by rw [nI_clamp (by omega)]; exact hA q hq
  have gB : ∀ q, q < 5 → rB (nI q).toNatClampNeg = nI (B q) := fun q hq => by rw [nI_clamp (by omega)]; exact hB q hq
  have tail : ∀ z1 F1 T1 C1 f1 t1 c1 o7 o8 o9 oa, RA z1 F1 T1 C1 f1 t1 c1 → Rp f1 t1 c1 z1 (dR t r n day (A 0) n) → z1 ≤ 800 → am_ev E (d + 3) tX4_fill (151, [some (.ref 0), some (.ref 4), some (.int (nI k)), some (.int (nI day)), some (.ref 8), some (.int (nI base)), some (.int (nI (A 0))), o7, o8, o9, oa], [], am_L (sf (nI z1) F1 T1 C1 X), 0, 0) P := by
    intro z1 F1 T1 C1 f1 t1 c1 o7 o8 o9 oa hR1 hr1 hz1
    have sOver : ∀ z1 F1 T1 C1 f1 t1 c1 o7 o8 o9 oa, RA z1 F1 T1 C1 f1 t1 c1 → Rp f1 t1 c1 z1 (g3 t r n day A B) → z1 ≤ 804 → am_ev E (d + 3) tX4_fill (256, [some (.ref 0), some (.ref 4), some (.int (nI k)), some (.int (nI day)), some (.ref 8), some (.int (nI base)), some (.int (nI (A 0))), o7, o8, o9, oa], [], am_L (sf (nI z1) F1 T1 C1 X), 0, 0) P := by
      intro z1 F1 T1 C1 f1 t1 c1 o7 o8 o9 oa hR1 hr1 hz1
      rw [hX]
      have b4 := bA 4 (by omega)
      refine ev_go 999 rfl ⟨v1 4 (by omega), trivial⟩ ?_
      by_cases h4 : A 4 = 0
      · refine ev_pos (by show rA (nI 4).toNatClampNeg ≤ 0; rw [gA 4 (by omega), h4]; decide) ?_
        refine ev_ret rfl trivial ?_
        rw [hP]
        refine ⟨rfl, z1, F1, T1, C1, f1, t1, c1, hR1, ?_, by rw [hX]⟩
        unfold dG bhO
        rw [if_neg (by omega)]
        exact hr1
      · refine ev_neg (by show ¬ rA (nI 4).toNatClampNeg ≤ 0; rw [gA 4 (by omega)]; exact nI_nle (by omega) (by omega)) ?_
        obtain ⟨z2, F2, T2, C2, f2, t2, c2, r1, r2, r3, r4, r5⟩ := x4_turnBehind (E := E) (d := d + 1) (X := XM (nI n) mT mS mR rA rB) (v := nI (A 4)) (r := A 4) (cc := 6) hR1 hr1 (if_pos (nI_lt (a := 0) (by omega) (by omega))) (by omega) (by omega) (by omega)
        rw [← gA 4 (by omega)] at r5
        refine ev_go 999 rfl ⟨v1 4 (by omega), trivial⟩ ?_
        refine ev_call0 rfl (Nat.le_of_ble_eq_true rfl) (fun _ => ⟨_, _, _, rfl, rfl⟩) r5 ?_
        refine ev_ret rfl trivial ?_
        rw [hP]
        refine ⟨rfl, z2, F2, T2, C2, f2, t2, c2, r1, ?_, by rw [hX]⟩
        unfold dG bhO
        rw [if_pos (by omega)]
        exact r2
    have sMost : ∀ z1 F1 T1 C1 f1 t1 c1 o7 o8 o9 oa, RA z1 F1 T1 C1 f1 t1 c1 → Rp f1 t1 c1 z1 (g2 t r n day A B) → z1 ≤ 803 → am_ev E (d + 3) tX4_fill (234, [some (.ref 0), some (.ref 4), some (.int (nI k)), some (.int (nI day)), some (.ref 8), some (.int (nI base)), some (.int (nI (A 0))), o7, o8, o9, oa], [], am_L (sf (nI z1) F1 T1 C1 X), 0, 0) P := by
      intro z1 F1 T1 C1 f1 t1 c1 o7 o8 o9 oa hR1 hr1 hz1
      have b3 := bA 3 (by omega)
      by_cases h3 : A 3 = 0
      · have k0 := sOver z1 F1 T1 C1 f1 t1 c1 o7 o8 o9 oa hR1 (by unfold g3 bhO; rw [if_neg (by omega)]; exact hr1) (by omega)
        rw [hX] at k0 ⊢
        refine ev_go 999 rfl ⟨v1 3 (by omega), trivial⟩ ?_
        refine ev_pos (by show rA (nI 3).toNatClampNeg ≤ 0; rw [gA 3 (by omega), h3]; decide) ?_
        exact k0
      · obtain ⟨z2, F2, T2, C2, f2, t2, c2, r1, r2, r3, r4, r5⟩ := x4_turnBehind (E := E) (d := d + 1) (X := XM (nI n) mT mS mR rA rB) (v := nI (A 3)) (r := A 3) (cc := 5) hR1 hr1 (if_pos (nI_lt (a := 0) (by omega) (by omega))) (by omega) (by omega) (by omega)
        rw [← gA 3 (by omega)] at r5
        have k0 := sOver z2 F2 T2 C2 f2 t2 c2 o7 o8 o9 oa r1 (by unfold g3 bhO; rw [if_pos (by omega)]; exact r2) (by omega)
        rw [hX] at k0 ⊢
        refine ev_go 999 rfl ⟨v1 3 (by omega), trivial⟩ ?_
        refine ev_neg (by show ¬ rA (nI 3).toNatClampNeg ≤ 0; rw [gA 3 (by omega)]; exact nI_nle (by omega) (by omega)) ?_
        refine ev_go 999 rfl ⟨v1 3 (by omega), trivial⟩ ?_
        refine ev_call0 rfl (Nat.le_of_ble_eq_true rfl) (fun _ => ⟨_, _, _, rfl, rfl⟩) r5 ?_
        exact k0
    have sOwed : ∀ z1 F1 T1 C1 f1 t1 c1 o7 o8 o9 oa, RA z1 F1 T1 C1 f1 t1 c1 → Rp f1 t1 c1 z1 (g1 t r n day A B) → z1 ≤ 802 → am_ev E (d + 3) tX4_fill (181, [some (.ref 0), some (.ref 4), some (.int (nI k)), some (.int (nI day)), some (.ref 8), some (.int (nI base)), some (.int (nI (A 0))), o7, o8, o9, oa], [], am_L (sf (nI z1) F1 T1 C1 X), 0, 0) P := by
      intro z1 F1 T1 C1 f1 t1 c1 o7 o8 o9 oa hR1 hr1 hz1
      have b2 := bA 2 (by omega)
      have c2' := bB 2 (by omega)
      obtain ⟨G, hG⟩ : ∃ G, G = g1 t r n day A B := ⟨_, rfl⟩
      rw [← hG] at hr1
      obtain ⟨N7, hN7⟩ : ∃ N7, N7 = cntC G (nI 7) 2880 := ⟨_, rfl⟩
      obtain ⟨N1, hN1⟩ : ∃ N1, N1 = cntC G (nI 1) 2880 := ⟨_, rfl⟩
      have l7 : N7 ≤ 2880 := by rw [hN7]; exact cntC_le _ _ _
      have l1 : N1 ≤ 2880 := by rw [hN1]; exact cntC_le _ _ _
      have h77 := x4_amountOf (E := E) (d := d + 2) (X := XM (nI n) mT mS mR rA rB) (lo := 7) (hi := 7) hR1 hr1 (by omega) (by omega)
      have h11 := x4_amountOf (E := E) (d := d + 2) (X := XM (nI n) mT mS mR rA rB) (lo := 1) (hi := 1) hR1 hr1 (by omega) (by omega)
      rw [amt_eq hr1 (by omega) (by omega), ← hN7] at h77
      rw [amt_eq hr1 (by omega) (by omega), ← hN1] at h11
      have hg2 : ∀ m, g2 t r n day A B m = bhC G (N7 - (if N1 < B 2 ∧ A 2 < N7 then B 2 - N1 else 0)) (nI 4) m := fun m => by
        unfold g2 owe
        rw [← hG, ← hN7, ← hN1]
      have no : ¬ (N1 < B 2 ∧ A 2 < N7) → ∀ o7 o8, am_ev E (d + 3) tX4_fill (234, [some (.ref 0), some (.ref 4), some (.int (nI k)), some (.int (nI day)), some (.ref 8), some (.int (nI base)), some (.int (nI (A 0))), o7, o8, o9, oa], [], am_L (sf (nI z1) F1 T1 C1 X), 0, 0) P := fun ne o7 o8 => sMost z1 F1 T1 C1 f1 t1 c1 o7 o8 o9 oa hR1 (hr1.cong (fun m hm => by rw [hg2 m, if_neg ne, Nat.sub_zero, hN7]; exact bhC_all hm)) (by omega)
      have yes : N1 < B 2 ∧ A 2 < N7 → am_ev E (d + 3) tX4_fill (224, [some (.ref 0), some (.ref 4), some (.int (nI k)), some (.int (nI day)), some (.ref 8), some (.int (nI base)), some (.int (nI (A 0))), some (.int (nI N7)), some (.int (nI (B 2 - N1))), o9, oa], [], am_L (sf (nI z1) F1 T1 C1 X), 0, 0) P := fun ye => by
        have hmx : (if (0 : Int32) < nI N7 - nI (B 2 - N1) then nI N7 - nI (B 2 - N1) else 0) = nI (N7 - (B 2 - N1)) := by
          rcases Nat.lt_or_ge N7 (B 2 - N1) with w | w
          · rw [if_neg (fun y => ?_), show N7 - (B 2 - N1) = 0 by omega]
            · rfl
            · have h1 := pk_sneg (a := N7) (b := B 2 - N1) (by omega) w
              rw [fa_lt] at y h1
              omega
          · rw [pk_sub w]
            rcases Nat.eq_zero_or_pos (N7 - (B 2 - N1)) with u | u
            · rw [u]; rfl
            · exact if_pos (nI_lt (a := 0) u (by omega))
        obtain ⟨z2, F2, T2, C2, f2, t2, c2, r1, r2, r3, r4, r5⟩ := x4_turnBehind (E := E) (d := d + 1) (X := XM (nI n) mT mS mR rA rB) (v := nI N7 - nI (B 2 - N1)) (r := N7 - (B 2 - N1)) (cc := 4) hR1 hr1 hmx (by omega) (by omega) (by omega)
        have k0 := sMost z2 F2 T2 C2 f2 t2 c2 (some (.int (nI N7))) (some (.int (nI (B 2 - N1)))) o9 oa r1 (r2.cong (fun m hm => by rw [hg2 m, if_pos ye])) (by omega)
        rw [hX] at k0 ⊢
        refine ev_go 999 rfl trivial ?_
        refine ev_call0 rfl (Nat.le_of_ble_eq_true rfl) (fun _ => ⟨_, _, _, rfl, rfl⟩) r5 ?_
        exact k0
      have hz805 := hR1.1
      rw [hX]
      rw [hX] at no yes
      refine ev_go 999 rfl trivial ?_
      refine ev_call0 rfl (Nat.le_of_ble_eq_true rfl) (fun _ => ⟨_, _, _, rfl, rfl⟩) h77 ?_
      refine ev_go 999 rfl ⟨v1 2 (by omega), trivial⟩ ?_
      refine ev_call0 rfl (Nat.le_of_ble_eq_true rfl) (fun _ => ⟨_, _, _, rfl, rfl⟩) h11 ?_
      refine ev_go 999 rfl trivial ?_
      by_cases w : N1 < B 2
      · have e1 : rB (nI 2).toNatClampNeg - nI N1 = nI (B 2 - N1) := by rw [gB 2 (by omega), pk_sub (by omega)]
        refine ev_neg (by show ¬ rB (nI 2).toNatClampNeg - nI N1 ≤ 0; rw [e1]; exact nI_nle (by omega) (by omega)) ?_
        rw [← e1] at yes
        refine ev_go 999 rfl ⟨v1 2 (by omega), trivial⟩ ?_
        by_cases u : A 2 < N7
        · refine ev_neg (by show ¬ nI N7 ≤ rA (nI 2).toNatClampNeg; rw [gA 2 (by omega)]; exact nI_ge u (by omega)) ?_
          exact yes ⟨w, u⟩
        · refine ev_pos (by show nI N7 ≤ rA (nI 2).toNatClampNeg; rw [gA 2 (by omega)]; exact nI_le (by omega) (by omega)) ?_
          exact no (fun y => u y.2) _ _
      · refine ev_pos (by
          show rB (nI 2).toNatClampNeg - nI N1 ≤ 0
          rw [gB 2 (by omega)]
          rcases Nat.lt_or_ge (B 2) N1 with u | u
          · have h1 := pk_sneg (a := B 2) (b := N1) (by omega) u
            rw [fa_lt] at h1
            rw [fa_le]
            omega
          · rw [show B 2 = N1 by omega, pk_sub (Nat.le_refl _), Nat.sub_self]; decide) ?_
        exact no (fun y => w y.1) _ _
    have b1 := bA 1 (by omega)
    have c1' := bB 1 (by omega)
    by_cases h1 : B 1 = 0
    · have k0 := sOwed z1 F1 T1 C1 f1 t1 c1 o7 o8 o9 oa hR1 (hr1.cong (fun m hm => by unfold g1 frm; rw [if_neg (fun y => by omega)])) (by omega)
      rw [hX] at k0 ⊢
      refine ev_go 999 rfl ⟨v1 1 (by omega), trivial⟩ ?_
      refine ev_pos (by show rB (nI 1).toNatClampNeg ≤ 0; rw [gB 1 (by omega), h1]; decide) ?_
      exact k0
    · obtain ⟨z2, F2, T2, C2, f2, t2, c2, r1, r2, r3, r4, r5⟩ := x4_takeOutside (E := E) (d := d + 1) (X := XM (nI n) mT mS mR rA rB) (lo := A 1) (hi := B 1) (since := 0) (cc := 3) hR1 hr1 (by omega) (by omega) (by omega) (fun q _ y => absurd y.1 (Nat.not_lt_zero _)) (by omega) (by omega)
      have k0 := sOwed z2 F2 T2 C2 f2 t2 c2 o7 o8 o9 oa r1 (r2.cong (fun m hm => by
        unfold g1 frm outF
        by_cases w : dR t r n day (A 0) n m = nI 7 ∧ (m < A 1 ∨ B 1 ≤ m)
        · rw [if_pos ⟨by omega, w⟩, if_pos ⟨w.1, Nat.zero_le _, w.2⟩]
        · rw [if_neg (fun y => w y.2), if_neg (fun y => w ⟨y.1, y.2.2⟩)])) (by omega)
      rw [← gA 1 (by omega), ← gB 1 (by omega)] at r5
      rw [hX] at k0 ⊢
      refine ev_go 999 rfl ⟨v1 1 (by omega), trivial⟩ ?_
      refine ev_neg (by show ¬ rB (nI 1).toNatClampNeg ≤ 0; rw [gB 1 (by omega)]; exact nI_nle (by omega) (by omega)) ?_
      refine ev_go 999 rfl ⟨v1 1 (by omega), v1 1 (by omega), trivial⟩ ?_
      refine ev_call0 rfl (Nat.le_of_ble_eq_true rfl) (fun _ => ⟨_, _, _, rfl, rfl⟩) r5 ?_
      exact k0
  have loop : ∀ m i, n - i = m → k ≤ i → i ≤ n → ∀ z1 F1 T1 C1 f1 t1 c1 e o8 o9 oa, RA z1 F1 T1 C1 f1 t1 c1 → Rp f1 t1 c1 z1 (dR t r n day (A 0) i) → z1 ≤ 2 * e → e ≤ n → (∀ q, i ≤ q → q < n → r q = 1 → e ≤ q) → am_ev E (d + 3) tX4_fill (24, [some (.ref 0), some (.ref 4), some (.int (nI k)), some (.int (nI day)), some (.ref 8), some (.int (nI base)), some (.int (nI (A 0))), some (.int (nI i)), o8, o9, oa], [], am_L (sf (nI z1) F1 T1 C1 X), 0, 0) P := by
    intro m
    induction m with
    | zero =>
      intro i q1 q2 q3 z1 F1 T1 C1 f1 t1 c1 e o8 o9 oa hA1 hQ1 hze hen hnext
      have ei : i = n := by omega
      rw [ei] at hQ1
      have k0 := tail z1 F1 T1 C1 f1 t1 c1 (some (.int (nI i))) o8 o9 oa hA1 hQ1 (by omega)
      rw [hX] at k0 ⊢
      refine ev_go 999 rfl trivial ?_
      refine ev_pos (nI_le (by omega) (by omega)) ?_
      exact k0
    | succ m ih =>
      intro i q1 q2 q3 z1 F1 T1 C1 f1 t1 c1 e o8 o9 oa hA1 hQ1 hze hen hnext
      have hin : i < n := by omega
      have vi : vp_in (nI i) 400 := vp_in_nI (by omega) (by omega)
      have ci : (nI i).toNatClampNeg = i := nI_clamp (by omega)
      have ht2 := hM.t2 i hin
      have hbi := hk2 i q2 hin
      rw [← hbase] at hbi
      have ed : mT (nI i).toNatClampNeg - nI base = nI (t i - base) := by rw [ci, hM.ht i hin, pk_sub hbi]
      by_cases hend : t i - base < 1440
      · have hdy : t i / 1440 = day := by omega
        have hr4 := hM.r4 i hin
        by_cases h1 : r i = 1
        · have h1' : pR t s n i = 1 := by rw [← hrd]; exact h1
          obtain ⟨hsh, hln⟩ := pI_sh hin h1'
          rw [← hrd] at hsh hln
          obtain ⟨l, hl⟩ : ∃ l, l = lE r n i := ⟨_, rfl⟩
          rw [← hl] at hsh hln
          have hil := hsh.cl
          have hei := hnext i (Nat.le_refl _) hin h1
          have hfree : ∀ q, t i - base ≤ q → dR t r n day (A 0) i q = 0 := fun q hq => by
            rw [hrd]
            exact dR_free hM.inc hin h1' (by rw [← hbase]; exact hq)
          have hez : eE t1 z1 ≤ t i - base := by
            unfold eE
            split
            · omega
            · rename_i hz0
              have hlt := hQ1.lt (z1 - 1) (by omega)
              rcases Nat.lt_or_ge (t i - base) (t1 (z1 - 1)) with w | w
              · exfalso
                have hc := hQ1.ins (z1 - 1) (by omega) (t1 (z1 - 1) - 1) (by omega) (by omega)
                rw [hfree _ (by omega)] at hc
                have hb := hQ1.cb (z1 - 1) (by omega)
                exact nI_ne0 (by omega) (by omega) hc.symm
              · exact w
          obtain ⟨z2, F2, T2, C2, f2, t2, c2, r1, r2, r3, r4, r5, r6, r7⟩ := x4_layShift (E := E) (d := d + 1) (F := F1) (T := T1) (C := C1) (mT := mT) (mS := mS) (mR := mR) (rA := rA) (rB := rB) (base := base) hM hsh hln hbi (by omega) hA1 hQ1 hez (by omega)
          have hdR : ∀ q, dR t r n day (A 0) (i + 1) q = outF (sG r (fun k => t k - base) i (dR t r n day (A 0) i) (l - i + 1)) (t i - base) ((t i - base + A 0 - 1) / A 0 * A 0) ((eT t r i l - base) / A 0 * A 0) (nI 2) q := fun q => by
            show (if r i = 1 ∧ t i / 1440 = day then lS t r n (1440 * day) (A 0) (dR t r n day (A 0) i) i else dR t r n day (A 0) i) q = _
            rw [if_pos ⟨h1, hdy⟩]
            unfold lS
            rw [← hl, ← hbase]
            rfl
          have kk : ∀ z3 F3 T3 C3 f3 t3 c3 o8 o9 oa, RA z3 F3 T3 C3 f3 t3 c3 → Rp f3 t3 c3 z3 (outF (sG r (fun k => t k - base) i (dR t r n day (A 0) i) (l - i + 1)) (f2 z1) ((f2 z1 + A 0 - 1) / A 0 * A 0) (t2 (z2 - 1) / A 0 * A 0) (nI 2)) → z3 ≤ z2 + 2 → am_ev E (d + 3) tX4_fill (24, [some (.ref 0), some (.ref 4), some (.int (nI k)), some (.int (nI day)), some (.ref 8), some (.int (nI base)), some (.int (nI (A 0))), some (.int (nI (i + 1))), o8, o9, oa], [], am_L (sf (nI z3) F3 T3 C3 X), 0, 0) P := fun z3 F3 T3 C3 f3 t3 c3 o8 o9 oa s1 s2 s3 => by
            rw [r5, r6] at s2
            exact ih (i + 1) (by omega) (by omega) (by omega) z3 F3 T3 C3 f3 t3 c3 (l + 1) o8 o9 oa s1 (s2.cong (fun q _ => hdR q)) (by omega) (by omega) (fun q g1 g2 g3 => by
              rcases Nat.lt_or_ge q l with w | w
              · have := hsh.mid q (by omega) w; omega
              · rcases Nat.lt_or_ge l q with u | u
                · omega
                · have h3 := hsh.rl
                  rw [show l = q by omega] at h3
                  omega)
          rw [← nI_1 i] at kk
          rw [hX] at kk ⊢
          refine ev_go 999 rfl trivial ?_
          refine ev_neg (nI_ge hin (by omega)) ?_
          refine ev_go 999 rfl ⟨vi, trivial⟩ ?_
          refine ev_neg (by show ¬ nI 1440 ≤ mT (nI i).toNatClampNeg - nI base; rw [ed]; exact nI_ge hend (by omega)) ?_
          refine ev_go 999 rfl ⟨vi, trivial⟩ ?_
          refine ev_neg (by show ¬ ¬ mR (nI i).toNatClampNeg = nI 1; rw [ci, hM.hr i hin, h1]; exact fun y => y rfl) ?_
          refine ev_go 999 rfl trivial ?_
          refine ev_call0 rfl (Nat.le_of_ble_eq_true rfl) (fun _ => ⟨_, _, _, rfl, rfl⟩) r7 ?_
          refine ev_go 999 rfl trivial ?_
          rcases (show A 0 = 1 ∨ 2 ≤ A 0 by omega) with a1 | a1
          · have k1 := kk z2 F2 T2 C2 f2 t2 c2 (some (.int (nI z1))) o9 oa r1 (x4_round1 r2 r4 a1) (by omega)
            refine ev_pos (by show nI (A 0) ≤ nI 1; rw [a1]; decide) ?_
            refine ev_go 999 rfl trivial ?_
            exact k1
          · obtain ⟨z3, F3, T3, C3, f3, t3, c3, s1, s2, s3, s4, s5⟩ := x4_round (E := E) (d := d + 1) (X := XM (nI n) mT mS mR rA rB) (k := z1) (A := A 0) r1 r2 r4 a1 a0.2 (by omega)
            have hz2 := r1.1
            have vk : vp_in (nI z1) 805 := vp_in_nI (by omega) (by omega)
            have ez : nI z2 - 1 = nI (z2 - 1) := by
              obtain ⟨q, hq⟩ : ∃ q, z2 = q + 1 := ⟨z2 - 1, by omega⟩
              rw [hq, nI_pred, Nat.add_sub_cancel]
            have vz : vp_in (nI z2 - 1) 805 := by rw [ez]; exact vp_in_nI (by omega) (by omega)
            have hA0 : ¬ nI (A 0) = 0 := nI_ne0 (by omega) (by omega)
            obtain ⟨S, hS⟩ : ∃ S, S = nI (A 0) := ⟨_, rfl⟩
            have k1 := kk z3 F3 T3 C3 f3 t3 c3 (some (.int (nI z1))) (some (.int ((F2 (nI z1).toNatClampNeg + nI (A 0) - 1) / nI (A 0) * nI (A 0)))) (some (.int (T2 (nI z2 - 1).toNatClampNeg / nI (A 0) * nI (A 0)))) s1 s2 s3
            refine ev_neg (nI_ge (a := 1) (by omega) (by omega)) ?_
            rw [← hS] at hA0 s5 k1 ⊢
            refine ev_go 999 rfl trivial ?_
            refine ev_neg (nI_ge r4 (by omega)) ?_
            refine ev_go 110 rfl ⟨vk, hA0, trivial⟩ ?_
            show am_ev _ _ _ (110, [_, _, _, _, _, _, _, _, _, some (.int ((F2 (nI z1).toNatClampNeg + S - 1) / S * S)), _], _, _, _, _) _
            refine ev_go 129 rfl ⟨vz, hA0, trivial⟩ ?_
            show am_ev _ _ _ (129, [_, _, _, _, _, _, _, _, _, _, some (.int (T2 (nI z2 - 1).toNatClampNeg / S * S))], _, _, _, _) _
            refine ev_go 999 rfl ⟨vk, trivial⟩ ?_
            refine ev_call0 rfl (Nat.le_of_ble_eq_true rfl) (fun _ => ⟨_, _, _, rfl, rfl⟩) s5 ?_
            refine ev_go 999 rfl trivial ?_
            exact k1
        · have hdR : dR t r n day (A 0) (i + 1) = dR t r n day (A 0) i := if_neg (fun y => h1 y.1)
          have kk := ih (i + 1) (by omega) (by omega) (by omega) z1 F1 T1 C1 f1 t1 c1 e o8 o9 oa hA1 (by rw [hdR]; exact hQ1) hze hen (fun q g1 g2 g3 => hnext q (by omega) g2 g3)
          rw [← nI_1 i] at kk
          rw [hX] at kk ⊢
          refine ev_go 999 rfl trivial ?_
          refine ev_neg (nI_ge hin (by omega)) ?_
          refine ev_go 999 rfl ⟨vi, trivial⟩ ?_
          refine ev_neg (by show ¬ nI 1440 ≤ mT (nI i).toNatClampNeg - nI base; rw [ed]; exact nI_ge hend (by omega)) ?_
          refine ev_go 999 rfl ⟨vi, trivial⟩ ?_
          refine ev_pos (by show ¬ mR (nI i).toNatClampNeg = nI 1; rw [ci, hM.hr i hin, nI_eq (by omega) (by omega)]; exact h1) ?_
          refine ev_go 999 rfl trivial ?_
          exact kk
      · have hdR : dR t r n day (A 0) n = dR t r n day (A 0) i := dR_same n (by omega) (fun q g1 g2 g3 => by
          have := inc_le hM.inc g1 g2
          omega)
        have k0 := tail z1 F1 T1 C1 f1 t1 c1 (some (.int (nI i))) o8 o9 oa hA1 (by rw [hdR]; exact hQ1) (by omega)
        rw [hX] at k0 ⊢
        refine ev_go 999 rfl trivial ?_
        refine ev_neg (nI_ge hin (by omega)) ?_
        refine ev_go 999 rfl ⟨vi, trivial⟩ ?_
        refine ev_pos (by show nI 1440 ≤ mT (nI i).toNatClampNeg - nI base; rw [ed]; exact nI_le (by omega) (by omega)) ?_
        exact k0
  have main : am_ev E (d + 3) tX4_fill (0, am_in [.ref 0, .ref 4, .int (nI k), .int (nI day), .ref 8] tX4_fill.2.2.2.1, [], am_L (sf Z F T C (XM (nI n) mT mS mR rA rB)), 0, 0) P := by
    have h0 : dR t r n day (A 0) k = fun _ => 0 := dR_same (i := 0) k (Nat.zero_le _) (fun q _ g2 => hk1 q g2)
    have k0 := loop (n - k) k rfl (Nat.le_refl _) hk 0 F T C (fun _ => 0) (fun _ => 0) (fun _ => 0) 0 none none none ⟨by omega, fun q hq => absurd hq (Nat.not_lt_zero q)⟩ (by
      rw [h0]
      exact ⟨fun q hq => absurd hq (Nat.not_lt_zero q), fun q hq => absurd hq (Nat.not_lt_zero _), fun q hq => absurd hq (Nat.not_lt_zero q), fun _ _ _ => rfl, fun q hq => absurd hq (Nat.not_lt_zero q)⟩) (by omega) (by omega) (fun q _ _ _ => Nat.zero_le q)
    have hto := x8_timeOf (E := E) (d := d + 2) (M := am_L (sf (nI 0) F T C (XM (nI n) mT mS mR rA rB))) (x := nI day) (y := nI 0)
    rw [pk_mul, nI_add, Nat.add_zero, ← hbase] at hto
    refine ev_go 5 rfl trivial ?_
    refine ev_M (sf_z (nI 0)) ?_
    refine ev_go 999 rfl trivial ?_
    refine ev_call0 rfl (Nat.le_of_ble_eq_true rfl) (fun z => by cases z) hto ?_
    rw [hX] at k0
    rw [← gA 0 (by omega)] at k0
    refine ev_go 24 rfl ⟨v1 0 (by omega), trivial⟩ ?_
    exact k0
  obtain ⟨v, M', hv, hD2⟩ := am_D_ex (Nat.le_of_ble_eq_true rfl) main
  rw [hP] at hv
  obtain ⟨rfl, z', F', T', C', f', t', c', h1, h2, rfl⟩ := hv
  rw [hX] at hD2
  exact ⟨z', F', T', C', f', t', c', h1, h2, hD2⟩
end X4
