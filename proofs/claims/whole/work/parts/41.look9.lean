/-! The reference looks at a day. -/
def lk (a : Nat → Nat → Int32) (f h : Nat → Int32) : Nat → Nat → Int32 := va_up (va_up a 31 h) 30 f
section LK
variable {a : Nat → Nat → Int32} {f h : Nat → Int32}
theorem lk_30 : lk a f h 30 = f := va_s
theorem lk_31 : lk a f h 31 = h := by unfold lk; rw [va_n (by decide), va_s]
theorem lk_o {p : Nat} (h1 : p ≠ 30) (h2 : p ≠ 31) : lk a f h p = a p := by unfold lk; rw [va_n h1, va_n h2]
theorem lk_f (f' : Nat → Int32) : va_up (lk a f h) 30 f' = lk a f' h := bx_uu _ _ _ _
theorem lk_h (h' : Nat → Int32) : va_up (lk a f h) 31 h' = lk a f h' := by
  funext p
  by_cases z : p = 31
  · subst z; rw [va_s, lk_31]
  · rw [va_n z]
    by_cases y : p = 30
    · subst y; rw [lk_30, lk_30]
    · rw [lk_o y z, lk_o y z]
theorem lk_id : lk a (a 30) (a 31) = a := by unfold lk; rw [va_id, va_id]
end LK
theorem clamp0 : (Int32.ofInt 0).toNatClampNeg = 0 := by decide
def ct27 (f : Nat → Int32) (m : Nat) : Nat := fb_ct (fun q => decide (f q = nI 7) || decide (f q = nI 2)) m
theorem ct27_succ (f : Nat → Int32) (m : Nat) : ct27 f (m + 1) = ct27 f m + (if f m = nI 7 ∨ f m = nI 2 then 1 else 0) := by
  unfold ct27
  rw [fb_ct_succ]
  by_cases h : f m = nI 7 ∨ f m = nI 2
  · rw [if_pos h, show (decide (f m = nI 7) || decide (f m = nI 2)) = true by rw [← Bool.decide_or]; exact decide_eq_true h]; rfl
  · rw [if_neg h, show (decide (f m = nI 7) || decide (f m = nI 2)) = false by rw [← Bool.decide_or]; exact decide_eq_false h]; rfl
section L9
variable {E : am_E} {d : Nat} {i : Nat → Int32} {j : Nat → Int64} {a : Nat → Nat → Int32} {b : Nat → Nat → Int64} {f u : Nat → Int32} {P : Option Value → am_M → Prop} {v1 v2 v3 v4 : Int32} {o5 o6 : Option Value}
theorem lk_cnt (kk : ∀ o, am_ev E d tX9_look (155, [some (.ref 0), some (.int v1), some (.int v2), some (.int v3), some (.int v4), o, o6], [], am_L (mo i j (lk a f (upd u 0 (nI (ct27 f 2880)))) b), 0, 0) P) : am_ev E d tX9_look (94, [some (.ref 0), some (.int v1), some (.int v2), some (.int v3), some (.int v4), o5, o6], [], am_L (mo i j (lk a f u) b), 0, 0) P := by
  have v0 : vp_in (Int32.ofInt 0) 5 := vp_in_nI (n := 0) (by decide) (by decide)
  have loop : ∀ n q, 2880 - q = n → q ≤ 2880 → am_ev E d tX9_look (104, [some (.ref 0), some (.int v1), some (.int v2), some (.int v3), some (.int v4), some (.int (nI q)), o6], [], am_L (mo i j (lk a f (upd u 0 (nI (ct27 f q)))) b), 0, 0) P := by
    intro n
    induction n with
    | zero =>
      intro q g1 g2
      have e : q = 2880 := by omega
      subst e
      refine ev_go 999 rfl trivial ?_
      refine ev_pos (nI_le (Nat.le_refl _) (by omega)) ?_
      exact kk _
    | succ n ih =>
      intro q g1 g2
      have kk := ih (q + 1) (by omega) (by omega)
      rw [ct27_succ, ← nI_1 q] at kk
      have hx : lk a f (upd u 0 (nI (ct27 f q))) 31 (Int32.ofInt 0).toNatClampNeg = nI (ct27 f q) := by rw [lk_31, clamp0]; exact if_pos rfl
      have hf : lk a f (upd u 0 (nI (ct27 f q))) 30 (nI q).toNatClampNeg = f q := by rw [lk_30, nI_clamp (by omega)]
      have hu : ∀ x, upd (lk a f (upd u 0 (nI (ct27 f q))) 31) (Int32.ofInt 0).toNatClampNeg x = upd u 0 x := fun x => by rw [lk_31, clamp0, fa_upd_twice]
      refine ev_go 999 rfl trivial ?_
      refine ev_neg (nI_ge (a := q) (b := 2880) (by omega) (by omega)) ?_
      refine ev_go 999 rfl ⟨v0, vp_in_nI (by omega) (by omega), trivial⟩ ?_
      refine ev_if (fun h => ?_) (fun h => ?_)
      · have h : lk a f (upd u 0 (nI (ct27 f q))) 30 (nI q).toNatClampNeg = nI 7 := h
        rw [hf] at h
        rw [if_pos (Or.inl h), ← nI_1 (ct27 f q)] at kk
        refine ev_go 999 rfl trivial ?_
        refine ev_go 999 rfl ⟨v0, trivial⟩ ?_
        rw [mo_a31, lk_h, hu]
        rw [← hx] at kk
        exact kk
      · have h7 : ¬ lk a f (upd u 0 (nI (ct27 f q))) 30 (nI q).toNatClampNeg = nI 7 := h
        rw [hf] at h7
        refine ev_go 999 rfl ⟨vp_in_nI (by omega) (by omega), trivial⟩ ?_
        refine ev_if (fun h => ?_) (fun h => ?_)
        · have h : ¬ lk a f (upd u 0 (nI (ct27 f q))) 30 (nI q).toNatClampNeg = nI 2 := h
          rw [hf] at h
          rw [if_neg (fun z => z.elim h7 h), ← nI_add] at kk
          refine ev_go 999 rfl ⟨v0, trivial⟩ ?_
          rw [mo_a31, lk_h, hu]
          rw [← hx] at kk
          exact kk
        · have h : ¬ ¬ lk a f (upd u 0 (nI (ct27 f q))) 30 (nI q).toNatClampNeg = nI 2 := h
          rw [hf] at h
          rw [if_pos (Or.inr (Classical.not_not.mp h)), ← nI_1 (ct27 f q)] at kk
          refine ev_go 999 rfl trivial ?_
          refine ev_go 999 rfl ⟨v0, trivial⟩ ?_
          rw [mo_a31, lk_h, hu]
          rw [← hx] at kk
          exact kk
  refine ev_go 104 rfl ⟨v0, trivial⟩ ?_
  show am_ev _ _ _ (104, [_, _, _, _, _, _, _], _, _, _, _) _
  rw [mo_a31, lk_h, lk_31]
  exact loop 2880 0 (by omega) (Nat.zero_le _)
theorem lk_any1 {v : Bool} (hv : v = false → cntC f (nI 7) 2880 = 0) (kk : am_ev E (d + 1) tX9_look (174, [some (.ref 0), some (.int v1), some (.int v2), some (.int v3), some (.int (bI v)), o5, o6], [], am_L (mo i j (lk a f (upd u 1 (nI (cntC f (nI 7) 2880)))) b), 0, 0) P) : am_ev E (d + 1) tX9_look (155, [some (.ref 0), some (.int v1), some (.int v2), some (.int v3), some (.int (bI v)), o5, o6], [], am_L (mo i j (lk a f u) b), 0, 0) P := by
  have v0 : vp_in (Int32.ofInt 1) 5 := vp_in_nI (n := 1) (by decide) (by decide)
  have hu : ∀ x, upd (lk a f u 31) (Int32.ofInt 1).toNatClampNeg x = upd u 1 x := fun x => by rw [lk_31]; rfl
  cases v with
  | false =>
    refine ev_go 999 rfl trivial ?_
    refine ev_pos (by decide) ?_
    refine ev_go 174 rfl ⟨v0, trivial⟩ ?_
    show am_ev _ _ _ (174, [_, _, _, _, _, _, _], _, _, _, _) _
    rw [mo_a31, lk_h, hu]
    rw [hv rfl] at kk
    exact kk
  | true =>
    refine ev_go 999 rfl trivial ?_
    refine ev_neg (by decide) ?_
    refine ev_go 999 rfl trivial ?_
    refine ev_call0 rfl (Nat.le_of_ble_eq_true rfl) (fun _ => ⟨_, _, _, rfl, rfl⟩) (x9_there) ?_
    refine ev_go 999 rfl trivial ?_
    refine ev_go 174 rfl ⟨v0, trivial⟩ ?_
    show am_ev _ _ _ (174, [_, _, _, _, _, _, _], _, _, _, _) _
    rw [mo_a31, lk_h, hu, lk_30]
    exact kk
theorem lk_any2 {v : Bool} (hv : v = false → cntC f (nI 7) 2880 = 0) (kk : am_ev E (d + 1) tX9_look (267, [some (.ref 0), some (.int v1), some (.int v2), some (.int v3), some (.int (bI v)), o5, o6], [], am_L (mo i j (lk a f (upd u 2 (nI (cntC f (nI 7) 2880)))) b), 0, 0) P) : am_ev E (d + 1) tX9_look (248, [some (.ref 0), some (.int v1), some (.int v2), some (.int v3), some (.int (bI v)), o5, o6], [], am_L (mo i j (lk a f u) b), 0, 0) P := by
  have v0 : vp_in (Int32.ofInt 2) 5 := vp_in_nI (n := 2) (by decide) (by decide)
  have hu : ∀ x, upd (lk a f u 31) (Int32.ofInt 2).toNatClampNeg x = upd u 2 x := fun x => by rw [lk_31]; rfl
  cases v with
  | false =>
    refine ev_go 999 rfl trivial ?_
    refine ev_pos (by decide) ?_
    refine ev_go 267 rfl ⟨v0, trivial⟩ ?_
    show am_ev _ _ _ (267, [_, _, _, _, _, _, _], _, _, _, _) _
    rw [mo_a31, lk_h, hu]
    rw [hv rfl] at kk
    exact kk
  | true =>
    refine ev_go 999 rfl trivial ?_
    refine ev_neg (by decide) ?_
    refine ev_go 999 rfl trivial ?_
    refine ev_call0 rfl (Nat.le_of_ble_eq_true rfl) (fun _ => ⟨_, _, _, rfl, rfl⟩) (x9_there) ?_
    refine ev_go 999 rfl trivial ?_
    refine ev_go 267 rfl ⟨v0, trivial⟩ ?_
    show am_ev _ _ _ (267, [_, _, _, _, _, _, _], _, _, _, _) _
    rw [mo_a31, lk_h, hu, lk_30]
    exact kk
theorem lk_any3 {v : Bool} (hv : v = false → cntC f (nI 7) 2880 = 0) (kk : am_ev E (d + 1) tX9_look (395, [some (.ref 0), some (.int v1), some (.int v2), some (.int v3), some (.int (bI v)), o5, o6], [], am_L (mo i j (lk a f (upd u 3 (nI (cntC f (nI 7) 2880)))) b), 0, 0) P) : am_ev E (d + 1) tX9_look (376, [some (.ref 0), some (.int v1), some (.int v2), some (.int v3), some (.int (bI v)), o5, o6], [], am_L (mo i j (lk a f u) b), 0, 0) P := by
  have v0 : vp_in (Int32.ofInt 3) 5 := vp_in_nI (n := 3) (by decide) (by decide)
  have hu : ∀ x, upd (lk a f u 31) (Int32.ofInt 3).toNatClampNeg x = upd u 3 x := fun x => by rw [lk_31]; rfl
  cases v with
  | false =>
    refine ev_go 999 rfl trivial ?_
    refine ev_pos (by decide) ?_
    refine ev_go 395 rfl ⟨v0, trivial⟩ ?_
    show am_ev _ _ _ (395, [_, _, _, _, _, _, _], _, _, _, _) _
    rw [mo_a31, lk_h, hu]
    rw [hv rfl] at kk
    exact kk
  | true =>
    refine ev_go 999 rfl trivial ?_
    refine ev_neg (by decide) ?_
    refine ev_go 999 rfl trivial ?_
    refine ev_call0 rfl (Nat.le_of_ble_eq_true rfl) (fun _ => ⟨_, _, _, rfl, rfl⟩) (x9_there) ?_
    refine ev_go 999 rfl trivial ?_
    refine ev_go 395 rfl ⟨v0, trivial⟩ ?_
    show am_ev _ _ _ (395, [_, _, _, _, _, _, _], _, _, _, _) _
    rw [mo_a31, lk_h, hu, lk_30]
    exact kk
theorem lk_any4 {v : Bool} (hv : v = false → cntC f (nI 7) 2880 = 0) (kk : am_ev E (d + 1) tX9_look (438, [some (.ref 0), some (.int v1), some (.int v2), some (.int v3), some (.int (bI v)), o5, o6], [], am_L (mo i j (lk a f (upd u 4 (nI (cntC f (nI 7) 2880)))) b), 0, 0) P) : am_ev E (d + 1) tX9_look (419, [some (.ref 0), some (.int v1), some (.int v2), some (.int v3), some (.int (bI v)), o5, o6], [], am_L (mo i j (lk a f u) b), 0, 0) P := by
  have v0 : vp_in (Int32.ofInt 4) 5 := vp_in_nI (n := 4) (by decide) (by decide)
  have hu : ∀ x, upd (lk a f u 31) (Int32.ofInt 4).toNatClampNeg x = upd u 4 x := fun x => by rw [lk_31]; rfl
  cases v with
  | false =>
    refine ev_go 999 rfl trivial ?_
    refine ev_pos (by decide) ?_
    refine ev_go 438 rfl ⟨v0, trivial⟩ ?_
    show am_ev _ _ _ (438, [_, _, _, _, _, _, _], _, _, _, _) _
    rw [mo_a31, lk_h, hu]
    rw [hv rfl] at kk
    exact kk
  | true =>
    refine ev_go 999 rfl trivial ?_
    refine ev_neg (by decide) ?_
    refine ev_go 999 rfl trivial ?_
    refine ev_call0 rfl (Nat.le_of_ble_eq_true rfl) (fun _ => ⟨_, _, _, rfl, rfl⟩) (x9_there) ?_
    refine ev_go 999 rfl trivial ?_
    refine ev_go 438 rfl ⟨v0, trivial⟩ ?_
    show am_ev _ _ _ (438, [_, _, _, _, _, _, _], _, _, _, _) _
    rw [mo_a31, lk_h, hu, lk_30]
    exact kk
theorem lk_frame {k A B : Nat} (hk : k + 1 < 40) (hA : a 3 (k + 1) = nI A) (hB : a 4 (k + 1) = nI B) (bA : A ≤ 100000) (bB : B ≤ 100000) (kk : ∀ o f', (∀ m, m < 2880 → f' m = frm f A B m) → am_ev E d tX9_look (248, [some (.ref 0), some (.int v1), some (.int v2), some (.int (nI k)), some (.int v4), o, o6], [], am_L (mo i j (lk a f' u) b), 0, 0) P) : am_ev E d tX9_look (174, [some (.ref 0), some (.int v1), some (.int v2), some (.int (nI k)), some (.int v4), o5, o6], [], am_L (mo i j (lk a f u) b), 0, 0) P := by
  have ek : nI k + Int32.ofInt 1 = nI (k + 1) := nI_1 k
  have vk : vp_in (nI k + Int32.ofInt 1) 40 := by rw [ek]; exact vp_in_nI hk (by omega)
  have ck : (nI k + Int32.ofInt 1).toNatClampNeg = k + 1 := by rw [ek, nI_clamp (by omega)]
  have hA3 : ∀ g, lk a g u 3 (nI k + Int32.ofInt 1).toNatClampNeg = nI A := fun g => by rw [ck, lk_o (by decide) (by decide), hA]
  have hB4 : ∀ g, lk a g u 4 (nI k + Int32.ofInt 1).toNatClampNeg = nI B := fun g => by rw [ck, lk_o (by decide) (by decide), hB]
  refine ev_go 999 rfl ⟨vk, trivial⟩ ?_
  by_cases b0 : B = 0
  · refine ev_pos (by show lk a f u 4 (nI k + Int32.ofInt 1).toNatClampNeg ≤ 0; rw [hB4, b0]; decide) ?_
    exact kk _ f (fun m _ => by unfold frm; rw [if_neg (fun z => by omega)])
  · refine ev_neg (by show ¬ lk a f u 4 (nI k + Int32.ofInt 1).toNatClampNeg ≤ 0; rw [hB4]; exact nI_nle (by omega) (by omega)) ?_
    have loop : ∀ n q, 2880 - q = n → q ≤ 2880 → ∀ f', (∀ m, m < q → f' m = frm f A B m) → (∀ m, q ≤ m → f' m = f m) → am_ev E d tX9_look (188, [some (.ref 0), some (.int v1), some (.int v2), some (.int (nI k)), some (.int v4), some (.int (nI q)), o6], [], am_L (mo i j (lk a f' u) b), 0, 0) P := by
      intro n
      induction n with
      | zero =>
        intro q g1 g2 f' h1 h2
        have e : q = 2880 := by omega
        subst e
        refine ev_go 999 rfl trivial ?_
        refine ev_pos (nI_le (Nat.le_refl _) (by omega)) ?_
        exact kk _ f' h1
      | succ n ih =>
        intro q g1 g2 f' h1 h2
        have hf : lk a f' u 30 (nI q).toNatClampNeg = f q := by rw [lk_30, nI_clamp (by omega), h2 q (Nat.le_refl _)]
        have same : frm f A B q = f q → am_ev E d tX9_look (188, [some (.ref 0), some (.int v1), some (.int v2), some (.int (nI k)), some (.int v4), some (.int (nI q + 1)), o6], [], am_L (mo i j (lk a f' u) b), 0, 0) P := fun e => by
          have kk := ih (q + 1) (by omega) (by omega) f' (fun m hm => by
            rcases Nat.lt_or_ge m q with z | z
            · exact h1 m z
            · have : m = q := by omega
              rw [this, h2 q (Nat.le_refl _), e]) (fun m hm => h2 m (by omega))
          rw [← nI_1 q] at kk
          exact kk
        have put : frm f A B q = nI 3 → am_ev E d tX9_look (234, [some (.ref 0), some (.int v1), some (.int v2), some (.int (nI k)), some (.int v4), some (.int (nI q)), o6], [], am_L (mo i j (lk a f' u) b), 0, 0) P := fun e => by
          have kk := ih (q + 1) (by omega) (by omega) (upd f' q (nI 3)) (fun m hm => by
            unfold upd
            by_cases z : m = q
            · rw [if_pos z, z, e]
            · rw [if_neg z]; exact h1 m (by omega)) (fun m hm => by unfold upd; rw [if_neg (by omega)]; exact h2 m (by omega))
          rw [← nI_1 q] at kk
          refine ev_go 999 rfl ⟨vp_in_nI (by omega) (by omega), trivial⟩ ?_
          rw [mo_a30, lk_f, lk_30, nI_clamp (by omega)]
          exact kk
        refine ev_go 999 rfl trivial ?_
        refine ev_neg (nI_ge (a := q) (b := 2880) (by omega) (by omega)) ?_
        refine ev_go 999 rfl ⟨vp_in_nI (by omega) (by omega), trivial⟩ ?_
        refine ev_if (fun h => ?_) (fun h => ?_)
        · have h : ¬ lk a f' u 30 (nI q).toNatClampNeg = nI 7 := h
          rw [hf] at h
          refine ev_go 999 rfl trivial ?_
          exact same (by unfold frm; rw [if_neg (fun z => h z.2.1)])
        · have h7 : ¬ ¬ lk a f' u 30 (nI q).toNatClampNeg = nI 7 := h
          rw [hf] at h7
          have h7 := Classical.not_not.mp h7
          refine ev_go 999 rfl ⟨vk, trivial⟩ ?_
          refine ev_if (fun h => ?_) (fun h => ?_)
          · have h : nI q < lk a f' u 3 (nI k + Int32.ofInt 1).toNatClampNeg := h
            rw [hA3, nI_ltI (by omega) (by omega)] at h
            exact put (by unfold frm; rw [if_pos ⟨by omega, h7, Or.inl h⟩])
          · have h : ¬ nI q < lk a f' u 3 (nI k + Int32.ofInt 1).toNatClampNeg := h
            rw [hA3, nI_ltI (by omega) (by omega)] at h
            have hA' := h
            refine ev_go 999 rfl ⟨vk, trivial⟩ ?_
            refine ev_if (fun h => ?_) (fun h => ?_)
            · have h : nI q < lk a f' u 4 (nI k + Int32.ofInt 1).toNatClampNeg := h
              rw [hB4, nI_ltI (by omega) (by omega)] at h
              refine ev_go 999 rfl trivial ?_
              exact same (by unfold frm; rw [if_neg (fun z => by omega)])
            · have h : ¬ nI q < lk a f' u 4 (nI k + Int32.ofInt 1).toNatClampNeg := h
              rw [hB4, nI_ltI (by omega) (by omega)] at h
              exact put (by unfold frm; rw [if_pos ⟨by omega, h7, Or.inr (by omega)⟩])
    refine ev_go 188 rfl trivial ?_
    exact loop 2880 0 (by omega) (Nat.zero_le _) f (fun m hm => absurd hm (Nat.not_lt_zero m)) (fun m _ => rfl)
end L9
