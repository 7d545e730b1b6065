section L9
variable {E : am_E} {d : Nat} {i : Nat → Int32} {j : Nat → Int64} {a : Nat → Nat → Int32} {b : Nat → Nat → Int64} {f u : Nat → Int32} {P : Option Value → am_M → Prop} {v1 v2 v3 v4 : Int32} {o5 o6 : Option Value}
theorem cntC_mono (f : Nat → Int32) (c : Int32) {p q : Nat} (h : p ≤ q) : cntC f c p ≤ cntC f c q := fb_ct_mono _ h
/-- the last ow of those that are there get class 4 -/
theorem lk_owe2 {k ow : Nat} (how : ow ≤ 100000) (kk : ∀ o o' f', (∀ m, m < 2880 → f' m = bhC f (cntC f (nI 7) 2880 - ow) (nI 4) m) → am_ev E d tX9_look (376, [some (.ref 0), some (.int v1), some (.int v2), some (.int (nI k)), some (.int v4), o, o'], [], am_L (mo i j (lk a f' u) b), 0, 0) P) : am_ev E d tX9_look (327, [some (.ref 0), some (.int v1), some (.int v2), some (.int (nI k)), some (.int v4), o5, o6], [.int (nI ow)], am_L (mo i j (lk a f u) b), 0, 0) P := by
  obtain ⟨T, hT⟩ : ∃ T, T = cntC f (nI 7) 2880 := ⟨_, rfl⟩
  rw [← hT] at kk
  have hT2 : T ≤ 2880 := by rw [hT]; exact cntC_le _ _ _
  have loop : ∀ q, q ≤ 2880 → ∀ f', T - cntC f (nI 7) q ≤ ow → (∀ m, m < 2880 → f' m = if q ≤ m ∧ f m = nI 7 then nI 4 else f m) → am_ev E d tX9_look (334, [some (.ref 0), some (.int v1), some (.int v2), some (.int (nI k)), some (.int v4), some (.int (nI (ow - (T - cntC f (nI 7) q)))), some (.int (nI q + (-1)))], [], am_L (mo i j (lk a f' u) b), 0, 0) P := by
    intro q
    induction q with
    | zero =>
      intro g2 f' h1 h2
      refine ev_go 999 rfl trivial ?_
      refine ev_pos (by show nI 0 + (-1) < 0; decide) ?_
      refine kk _ _ f' (fun m hm => ?_)
      rw [h2 m hm]
      unfold bhC
      have e0 : cntC f (nI 7) 0 = 0 := rfl
      rw [e0] at h1
      by_cases z : f m = nI 7
      · rw [if_pos ⟨Nat.zero_le _, z⟩, if_pos ⟨z, by omega⟩]
      · rw [if_neg (fun y => z y.2), if_neg (fun y => z y.1)]
    | succ q ih =>
      intro g2 f' h1 h2
      have hm1 : cntC f (nI 7) (q + 1) ≤ T := by rw [hT]; exact cntC_mono _ _ g2
      have hs := cntC_succ f (nI 7) q
      have ef : lk a f' u 30 (nI q).toNatClampNeg = f q := by
        rw [lk_30, nI_clamp (by omega), h2 q (by omega), if_neg (fun z => by omega)]
      rw [pk_m1]
      refine ev_go 999 rfl trivial ?_
      refine ev_neg (nI_pos (by omega)) ?_
      refine ev_go 999 rfl trivial ?_
      by_cases hz : ow - (T - cntC f (nI 7) (q + 1)) = 0
      · refine ev_pos (by show nI (ow - (T - cntC f (nI 7) (q + 1))) ≤ 0; rw [hz]; decide) ?_
        refine kk _ _ f' (fun m hm => ?_)
        rw [h2 m hm]
        unfold bhC
        by_cases z : f m = nI 7
        · by_cases y : q + 1 ≤ m
          · have := cntC_mono f (nI 7) y
            rw [if_pos ⟨y, z⟩, if_pos ⟨z, by omega⟩]
          · have h3 := cntC_succ f (nI 7) m
            rw [if_pos z] at h3
            have h4 := cntC_mono f (nI 7) (show m + 1 ≤ q + 1 by omega)
            rw [if_neg (fun x => y x.1), if_neg (fun x => by omega)]
        · rw [if_neg (fun y => z y.2), if_neg (fun y => z y.1)]
      · refine ev_neg (nI_nle (by omega) (by omega)) ?_
        refine ev_go 999 rfl ⟨vp_in_nI (by omega) (by omega), trivial⟩ ?_
        refine ev_if (fun h => ?_) (fun h => ?_)
        · have h7 : lk a f' u 30 (nI q).toNatClampNeg = nI 7 := h
          rw [ef] at h7
          rw [if_pos h7] at hs
          have kk := ih (by omega) (upd f' q (nI 4)) (by omega) (fun m hm => by
            unfold upd
            by_cases z : m = q
            · subst z; rw [if_pos rfl, if_pos ⟨Nat.le_refl _, h7⟩]
            · rw [if_neg z, h2 m hm]
              by_cases y : q + 1 ≤ m ∧ f m = nI 7
              · rw [if_pos y, if_pos ⟨by omega, y.2⟩]
              · rw [if_neg y, if_neg (fun x => y ⟨by omega, x.2⟩)])
          have e1 : nI (ow - (T - cntC f (nI 7) q)) = nI (ow - (T - cntC f (nI 7) (q + 1))) + (-1) := by
            rw [show ow - (T - cntC f (nI 7) (q + 1)) = (ow - (T - cntC f (nI 7) q)) + 1 by omega, pk_m1]
          rw [e1] at kk
          refine ev_go 999 rfl ⟨vp_in_nI (by omega) (by omega), trivial⟩ ?_
          rw [mo_a30, lk_f, lk_30, nI_clamp (by omega)]
          exact kk
        · have h7 : ¬ lk a f' u 30 (nI q).toNatClampNeg = nI 7 := h
          rw [ef] at h7
          rw [if_neg h7] at hs
          have kk := ih (by omega) f' (by omega) (fun m hm => by
            rw [h2 m hm]
            by_cases y : q + 1 ≤ m ∧ f m = nI 7
            · rw [if_pos y, if_pos ⟨by omega, y.2⟩]
            · rw [if_neg y, if_neg (fun x => y ⟨by
                have : m ≠ q := fun e => h7 (by rw [← e]; exact x.2)
                omega, x.2⟩)])
          rw [show cntC f (nI 7) q = cntC f (nI 7) (q + 1) by omega] at kk
          refine ev_go 999 rfl trivial ?_
          refine ev_go 999 rfl trivial ?_
          exact kk
  have k0 := loop 2880 (Nat.le_refl _) f (by omega) (fun m hm => by rw [if_neg (fun z => by omega)])
  rw [show ow - (T - cntC f (nI 7) 2880) = ow by omega] at k0
  refine ev_go 334 rfl trivial ?_
  exact k0
theorem lk_owe {k A B R : Nat} (hk : k + 2 < 40) (hA : a 3 (k + 2) = nI A) (hB : a 4 (k + 2) = nI B) (bA : A ≤ 100000) (bB : B ≤ 100000) (hR : i 38 = nI R) (bR : R ≤ 2880) (hh : u 2 = nI (cntC f (nI 7) 2880)) (kk : ∀ o o' f', (∀ m, m < 2880 → f' m = bhC f (cntC f (nI 7) 2880 - (if R < B ∧ A < cntC f (nI 7) 2880 then B - R else 0)) (nI 4) m) → am_ev E d tX9_look (376, [some (.ref 0), some (.int v1), some (.int v2), some (.int (nI k)), some (.int v4), o, o'], [], am_L (mo i j (lk a f' u) b), 0, 0) P) : am_ev E d tX9_look (267, [some (.ref 0), some (.int v1), some (.int v2), some (.int (nI k)), some (.int v4), o5, o6], [], am_L (mo i j (lk a f u) b), 0, 0) P := by
  have ek : nI k + Int32.ofInt 2 = nI (k + 2) := nI_add k 2
  have vk : vp_in (nI k + Int32.ofInt 2) 40 := by rw [ek]; exact vp_in_nI hk (by omega)
  have ck : (nI k + Int32.ofInt 2).toNatClampNeg = k + 2 := by rw [ek, nI_clamp (by omega)]
  have hA3 : lk a f u 3 (nI k + Int32.ofInt 2).toNatClampNeg = nI A := by rw [ck, lk_o (by decide) (by decide), hA]
  have hB4 : lk a f u 4 (nI k + Int32.ofInt 2).toNatClampNeg = nI B := by rw [ck, lk_o (by decide) (by decide), hB]
  have hT2 : cntC f (nI 7) 2880 ≤ 2880 := cntC_le _ _ _
  have w2 : vp_in (Int32.ofInt 2) 5 := vp_in_nI (n := 2) (by decide) (by decide)
  have h31 : lk a f u 31 (Int32.ofInt 2).toNatClampNeg = nI (cntC f (nI 7) 2880) := by rw [lk_31]; exact hh
  have no : ¬ (R < B ∧ A < cntC f (nI 7) 2880) → am_ev E d tX9_look (326, [some (.ref 0), some (.int v1), some (.int v2), some (.int (nI k)), some (.int v4), o5, o6], [], am_L (mo i j (lk a f u) b), 0, 0) P := fun z => by
    rw [if_neg z] at kk
    refine ev_go 327 rfl trivial ?_
    exact lk_owe2 (ow := 0) (by omega) kk
  refine ev_go 999 rfl ⟨vk, trivial⟩ ?_
  by_cases b0 : B = 0
  · refine ev_pos (by show lk a f u 4 (nI k + Int32.ofInt 2).toNatClampNeg ≤ 0; rw [hB4, b0]; decide) ?_
    exact no (fun z => by omega)
  · refine ev_neg (by show ¬ lk a f u 4 (nI k + Int32.ofInt 2).toNatClampNeg ≤ 0; rw [hB4]; exact nI_nle (by omega) (by omega)) ?_
    refine ev_go 999 rfl ⟨w2, vk, trivial⟩ ?_
    refine ev_if (fun h => ?_) (fun h => ?_)
    · have h : lk a f u 31 (Int32.ofInt 2).toNatClampNeg ≤ lk a f u 3 (nI k + Int32.ofInt 2).toNatClampNeg := h
      rw [h31, hA3, nI_leI (by omega) (by omega)] at h
      exact no (fun z => by omega)
    · have h1 : ¬ lk a f u 31 (Int32.ofInt 2).toNatClampNeg ≤ lk a f u 3 (nI k + Int32.ofInt 2).toNatClampNeg := h
      rw [h31, hA3, nI_leI (by omega) (by omega)] at h1
      refine ev_go 999 rfl ⟨vk, trivial⟩ ?_
      refine ev_if (fun h => ?_) (fun h => ?_)
      · have h : lk a f u 4 (nI k + Int32.ofInt 2).toNatClampNeg ≤ i 38 := h
        rw [hB4, hR, nI_leI (by omega) (by omega)] at h
        exact no (fun z => by omega)
      · have h : ¬ lk a f u 4 (nI k + Int32.ofInt 2).toNatClampNeg ≤ i 38 := h
        rw [hB4, hR, nI_leI (by omega) (by omega)] at h
        rw [if_pos ⟨by omega, by omega⟩] at kk
        refine ev_go 999 rfl ⟨vk, trivial⟩ ?_
        have e : lk a f u 4 (nI k + Int32.ofInt 2).toNatClampNeg - i 38 = nI (B - R) := by rw [hB4, hR, pk_sub (by omega)]
        have k0 := lk_owe2 (E := E) (d := d) (i := i) (j := j) (a := a) (b := b) (v1 := v1) (v2 := v2) (v4 := v4) (o5 := o5) (o6 := o6) (ow := B - R) (by omega) kk
        rw [← e] at k0
        exact k0
theorem lk_bh3 {k A : Nat} (hk : k + 3 < 40) (hA : a 3 (k + 3) = nI A) (bA : A ≤ 2880) (kk : ∀ f', (∀ m, m < 2880 → f' m = bhO f A (nI 5) m) → am_ev E (d + 1) tX9_look (419, [some (.ref 0), some (.int v1), some (.int v2), some (.int (nI k)), some (.int v4), o5, o6], [], am_L (mo i j (lk a f' u) b), 0, 0) P) : am_ev E (d + 1) tX9_look (395, [some (.ref 0), some (.int v1), some (.int v2), some (.int (nI k)), some (.int v4), o5, o6], [], am_L (mo i j (lk a f u) b), 0, 0) P := by
  have ek : nI k + Int32.ofInt 3 = nI (k + 3) := nI_add k 3
  have vk : vp_in (nI k + Int32.ofInt 3) 40 := by rw [ek]; exact vp_in_nI hk (by omega)
  have ck : (nI k + Int32.ofInt 3).toNatClampNeg = k + 3 := by rw [ek, nI_clamp (by omega)]
  have hA3 : lk a f u 3 (nI k + Int32.ofInt 3).toNatClampNeg = nI A := by rw [ck, lk_o (by decide) (by decide), hA]
  refine ev_go 999 rfl ⟨vk, trivial⟩ ?_
  by_cases a0 : A = 0
  · refine ev_pos (by show lk a f u 3 (nI k + Int32.ofInt 3).toNatClampNeg ≤ 0; rw [hA3, a0]; decide) ?_
    exact kk f (fun m _ => by unfold bhO; rw [if_neg (by omega)])
  · refine ev_neg (by show ¬ lk a f u 3 (nI k + Int32.ofInt 3).toNatClampNeg ≤ 0; rw [hA3]; exact nI_nle (by omega) (by omega)) ?_
    refine ev_go 999 rfl ⟨vk, trivial⟩ ?_
    have hb := x9_behind (E := E) (d := d) (i := i) (j := j) (a := lk a f u) (b := b) (r := A) (c := nI 5) bA
    rw [← hA3] at hb
    refine ev_call0 rfl (Nat.le_of_ble_eq_true rfl) (fun _ => ⟨_, _, _, rfl, rfl⟩) hb ?_
    rw [lk_f, lk_30]
    exact kk _ (fun m hm => by unfold bhO; rw [if_pos (by omega), fa_fill_in hm])
theorem lk_bh4 {k A : Nat} (hk : k + 4 < 40) (hA : a 3 (k + 4) = nI A) (bA : A ≤ 2880) (kk : ∀ f', (∀ m, m < 2880 → f' m = bhO f A (nI 6) m) → am_ev E (d + 1) tX9_look (463, [some (.ref 0), some (.int v1), some (.int v2), some (.int (nI k)), some (.int v4), o5, o6], [], am_L (mo i j (lk a f' u) b), 0, 0) P) : am_ev E (d + 1) tX9_look (438, [some (.ref 0), some (.int v1), some (.int v2), some (.int (nI k)), some (.int v4), o5, o6], [], am_L (mo i j (lk a f u) b), 0, 0) P := by
  have ek : nI k + Int32.ofInt 4 = nI (k + 4) := nI_add k 4
  have vk : vp_in (nI k + Int32.ofInt 4) 40 := by rw [ek]; exact vp_in_nI hk (by omega)
  have ck : (nI k + Int32.ofInt 4).toNatClampNeg = k + 4 := by rw [ek, nI_clamp (by omega)]
  have hA3 : lk a f u 3 (nI k + Int32.ofInt 4).toNatClampNeg = nI A := by rw [ck, lk_o (by decide) (by decide), hA]
  refine ev_go 999 rfl ⟨vk, trivial⟩ ?_
  by_cases a0 : A = 0
  · refine ev_pos (by show lk a f u 3 (nI k + Int32.ofInt 4).toNatClampNeg ≤ 0; rw [hA3, a0]; decide) ?_
    exact kk f (fun m _ => by unfold bhO; rw [if_neg (by omega)])
  · refine ev_neg (by show ¬ lk a f u 3 (nI k + Int32.ofInt 4).toNatClampNeg ≤ 0; rw [hA3]; exact nI_nle (by omega) (by omega)) ?_
    refine ev_go 999 rfl ⟨vk, trivial⟩ ?_
    have hb := x9_behind (E := E) (d := d) (i := i) (j := j) (a := lk a f u) (b := b) (r := A) (c := nI 6) bA
    rw [← hA3] at hb
    refine ev_call0 rfl (Nat.le_of_ble_eq_true rfl) (fun _ => ⟨_, _, _, rfl, rfl⟩) hb ?_
    rw [lk_f, lk_30]
    exact kk _ (fun m hm => by unfold bhO; rw [if_pos (by omega), fa_fill_in hm])
end L9
