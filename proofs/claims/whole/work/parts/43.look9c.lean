theorem ev_M {E : am_E} {d : Nat} {τ : am_T} {P : Option Value → am_M → Prop} {pc bc bs : Nat} {L : List (Option Value)} {st : List Value} {M M' : am_M} (e : M = M') (kk : am_ev E d τ (pc, L, st, M', bc, bs) P) : am_ev E d τ (pc, L, st, M, bc, bs) P := by rw [e]; exact kk
/-- the rules of kind kd -/
abbrev RuL (a : Nat → Nat → Int32) (kd : Nat) (A B : Nat → Nat) : Prop := (kd < 8) ∧ (∀ q, q < 5 → a 3 (5 * kd + q) = nI (A q)) ∧ (∀ q, q < 5 → a 4 (5 * kd + q) = nI (B q)) ∧ (1 ≤ A 0 ∧ A 0 ≤ 30) ∧ (∀ q, q < 5 → A q ≤ 2880) ∧ (∀ q, q < 5 → B q ≤ 20000)
theorem RuL.k8 {a : Nat → Nat → Int32} {kd : Nat} {A B : Nat → Nat} (h : RuL a kd A B) : kd < 8 := h.1
theorem RuL.hA {a : Nat → Nat → Int32} {kd : Nat} {A B : Nat → Nat} (h : RuL a kd A B) : ∀ q, q < 5 → a 3 (5 * kd + q) = nI (A q) := h.2.1
theorem RuL.hB {a : Nat → Nat → Int32} {kd : Nat} {A B : Nat → Nat} (h : RuL a kd A B) : ∀ q, q < 5 → a 4 (5 * kd + q) = nI (B q) := h.2.2.1
theorem RuL.a0 {a : Nat → Nat → Int32} {kd : Nat} {A B : Nat → Nat} (h : RuL a kd A B) : 1 ≤ A 0 ∧ A 0 ≤ 30 := h.2.2.2.1
theorem RuL.bA {a : Nat → Nat → Int32} {kd : Nat} {A B : Nat → Nat} (h : RuL a kd A B) : ∀ q, q < 5 → A q ≤ 2880 := h.2.2.2.2.1
theorem RuL.bB {a : Nat → Nat → Int32} {kd : Nat} {A B : Nat → Nat} (h : RuL a kd A B) : ∀ q, q < 5 → B q ≤ 20000 := h.2.2.2.2.2
/-- the marks of a worker have been paired -/
abbrev PD (i : Nat → Int32) (a : Nat → Nat → Int32) (n : Nat) (t s : Nat → Nat) : Prop := (i 30 = nI (pN t s n)) ∧ (∀ q, q < n → a 24 q = nI (pR t s n q)) ∧ (∀ x, x < pN t s n → a 25 x = nI (t (pF t s n x)) ∧ a 27 x = nI (pF t s n x) ∧ a 29 x = bI (pG t s n x) ∧ (pG t s n x = false → a 26 x = nI (pE t s n x) ∧ a 28 x = nI (pLm t s n x)))
theorem PD.i30 {i : Nat → Int32} {a : Nat → Nat → Int32} {n : Nat} {t s : Nat → Nat} (h : PD i a n t s) : i 30 = nI (pN t s n) := h.1
theorem PD.r {i : Nat → Int32} {a : Nat → Nat → Int32} {n : Nat} {t s : Nat → Nat} (h : PD i a n t s) : ∀ q, q < n → a 24 q = nI (pR t s n q) := h.2.1
theorem PD.x {i : Nat → Int32} {a : Nat → Nat → Int32} {n : Nat} {t s : Nat → Nat} (h : PD i a n t s) : ∀ x, x < pN t s n → a 25 x = nI (t (pF t s n x)) ∧ a 27 x = nI (pF t s n x) ∧ a 29 x = bI (pG t s n x) ∧ (pG t s n x = false → a 26 x = nI (pE t s n x) ∧ a 28 x = nI (pLm t s n x)) := h.2.2
theorem PD.cong {i i' : Nat → Int32} {a a' : Nat → Nat → Int32} {n : Nat} {t s : Nat → Nat} (h : PD i a n t s) (e : ∀ p, p < 30 → a' p = a p) (ei : i' 30 = i 30) : PD i' a' n t s := by
  refine ⟨by rw [ei]; exact h.i30, ?_, ?_⟩
  · rw [e 24 (by omega)]; exact h.r
  · rw [e 25 (by omega), e 26 (by omega), e 27 (by omega), e 28 (by omega), e 29 (by omega)]; exact h.x
theorem RuL.cong {a a' : Nat → Nat → Int32} {kd : Nat} {A B : Nat → Nat} (h : RuL a kd A B) (e : ∀ p, p < 30 → a' p = a p) : RuL a' kd A B := by
  refine ⟨h.k8, ?_, ?_, h.a0, h.bA, h.bB⟩
  · rw [e 3 (by omega)]; exact h.hA
  · rw [e 4 (by omega)]; exact h.hB
theorem lk_lt {a : Nat → Nat → Int32} {f h : Nat → Int32} {p : Nat} (hp : p < 30) : lk a f h p = a p := lk_o (by omega) (by omega)
def pB (t s : Nat → Nat) (n x : Nat) : Nat := if x < pN t s n then pF t s n x else n
theorem pB_lt {t s : Nat → Nat} {n x : Nat} (h : x < pN t s n) : pB t s n x = pF t s n x := if_pos h
theorem pB_N {t s : Nat → Nat} {n : Nat} : pB t s n (pN t s n) = n := if_neg (Nat.lt_irrefl _)
theorem pF_lt {t s : Nat → Nat} {n x : Nat} (h : x < pN t s n) : pF t s n x < n := (pI_all t s n).A x h
theorem pB_next {t s : Nat → Nat} {n x : Nat} (h : x < pN t s n) : pF t s n x < pB t s n (x + 1) ∧ pB t s n (x + 1) ≤ n ∧ ∀ q, pF t s n x < q → q < pB t s n (x + 1) → pR t s n q ≠ 1 := by
  have hI := pI_all t s n
  unfold pB
  by_cases z : x + 1 < pN t s n
  · rw [if_pos z]
    refine ⟨hI.B x z, Nat.le_of_lt (pF_lt z), fun q h1 h2 h3 => ?_⟩
    obtain ⟨y, hy, hy2, _⟩ := pI_one (by have := pF_lt z; omega) h3
    rcases Nat.lt_or_ge y x with w | w
    · have := pI_mono hI.B x y w h; omega
    · rcases Nat.lt_or_ge (x + 1) y with u | u
      · have := pI_mono hI.B y (x + 1) u hy; omega
      · have : y = x ∨ y = x + 1 := by omega
        rcases this with e | e <;> (subst e; omega)
  · rw [if_neg z]
    refine ⟨pF_lt h, Nat.le_refl _, fun q h1 h2 h3 => ?_⟩
    obtain ⟨y, hy, hy2, _⟩ := pI_one h2 h3
    rcases Nat.lt_or_ge y x with w | w
    · have := pI_mono hI.B x y w h; omega
    · have : y = x := by omega
      subst this; omega
theorem pB_0 {t s : Nat → Nat} {n : Nat} : ∀ q, q < pB t s n 0 → pR t s n q ≠ 1 := fun q h1 h3 => by
  have hI := pI_all t s n
  have hqn : q < n := by
    unfold pB at h1
    split at h1
    · rename_i z; have := pF_lt z; omega
    · exact h1
  obtain ⟨y, hy, hy2, _⟩ := pI_one hqn h3
  rw [pB_lt (by omega)] at h1
  rcases Nat.eq_zero_or_pos y with e | e
  · subst e; omega
  · have := pI_mono hI.B y 0 e hy; omega
theorem cnt1_rnd {g : Nat → Int32} {x y z N : Nat} : cntC (rnd g x y z) (nI 1) N = cntC g (nI 1) N := cntC_cong2 (fun m _ => by
  unfold rnd
  split
  · rename_i h; rw [h.1]; decide
  · exact Iff.rfl)
theorem cnt1_frm {g : Nat → Int32} {x y N : Nat} : cntC (frm g x y) (nI 1) N = cntC g (nI 1) N := cntC_cong2 (fun m _ => by
  unfold frm
  split
  · rename_i h; rw [h.2.1]; decide
  · exact Iff.rfl)
theorem ct27_F {g : Nat → Int32} (h : upTo 2 g) (N : Nat) : ct27 g N = cntF g 2 N := fb_ct_cong (fun q _ => by
  obtain ⟨c, e, hc⟩ := h q
  rw [e, ← Bool.decide_or]
  refine decide_eq_decide.mpr ?_
  rw [nI_eq (by omega) (by omega), nI_eq (by omega) (by omega), nI_leI (by omega) (by omega)]
  omega)
theorem ct27_cong {f g : Nat → Int32} {n : Nat} (h : ∀ m, m < n → f m = g m) : ct27 f n = ct27 g n := fb_ct_cong (fun k hk => by rw [h k hk])
section L9
variable {E : am_E} {d : Nat} {i : Nat → Int32} {j : Nat → Int64} {a : Nat → Nat → Int32} {b : Nat → Nat → Int64}
theorem x9_look {w n day g kd : Nat} {t s A B : Nat → Nat} (hm : MK a w n t s) (hp : PD i a n t s) (hd : day < 1096) (hg : g < 6) (h16 : a 16 w = nI g) (hk : a 2 (8 * g + (if a 1 day = 0 then day % 7 else 7)) = nI kd) (hR : RuL a kd A B) :
    ∃ f h, (∀ m, m < 2880 → f m = dG t (pR t s n) n day A B m) ∧ (∀ q, q < 5 → h q = nI (cntF (dG t (pR t s n) n day A B) (q + 2) 2880)) ∧ am_D E (d + 3) tX9_look [.ref 0, .int (nI w), .int (nI day)] (am_L (mo i j a b)) 0 0 none (am_L (mo (va_up i 38 (nI (cntC (dR t (pR t s n) n day (A 0) n) (nI 1) 2880))) j (lk a f h) b)) := by
  obtain ⟨P, hP⟩ : ∃ P : Option Value → am_M → Prop, P = fun v M => v = none ∧ ∃ f h, (∀ m, m < 2880 → f m = dG t (pR t s n) n day A B m) ∧ (∀ q, q < 5 → h q = nI (cntF (dG t (pR t s n) n day A B) (q + 2) 2880)) ∧ M = am_L (mo (va_up i 38 (nI (cntC (dR t (pR t s n) n day (A 0) n) (nI 1) 2880))) j (lk a f h) b) := ⟨_, rfl⟩
  have hw := hm.w30
  have hn := hm.n4
  have hk8 := hR.k8
  have hI := pI_all t s n
  have hN : pN t s n ≤ 400 := Nat.le_trans (pN_le t s n) hn
  obtain ⟨D, hD⟩ : ∃ D : Nat → Nat → Int32, D = dR t (pR t s n) n day (A 0) := ⟨_, rfl⟩
  have hDu : ∀ q, upTo 2 (D q) := fun q => by rw [hD]; exact upTo_dR q
  have tail : ∀ (v : Bool) (f : Nat → Int32) o5, (v = false → ∀ q, q < n → ¬ (pR t s n q = 1 ∧ t q / 1440 = day)) → (∀ m, m < 2880 → f m = D n m) → am_ev E (d + 2) tX9_look (94, [some (.ref 0), some (.int (nI w)), some (.int (nI day)), some (.int (nI (5 * kd))), some (.int (bI v)), o5, none], [], am_L (mo (va_up i 38 (nI (cntC (D n) (nI 1) 2880))) j (lk a f (a 31)) b), 0, 0) P := by
    intro v f0 o5 hv hf0
    have z0 : cntC f0 (nI 7) 2880 = cntC (D n) (nI 7) 2880 := cntC_cong hf0
    refine lk_cnt (fun o => ?_)
    refine lk_any1 (d := d + 1) (fun e => by rw [z0, hD]; exact cntC_0 (by decide) (by decide) (dG_none (hv e)) _) ?_
    refine lk_frame (by omega) (hR.hA 1 (by omega)) (hR.hB 1 (by omega)) (by have := hR.bA 1 (by omega); omega) (by have := hR.bB 1 (by omega); omega) (fun o f1 hf1 => ?_)
    have hg1 : ∀ m, m < 2880 → f1 m = g1 t (pR t s n) n day A B m := fun m hm => by
      rw [hf1 m hm]
      unfold g1 frm
      rw [hf0 m hm, hD]
    have z1 : cntC f1 (nI 7) 2880 = cntC (g1 t (pR t s n) n day A B) (nI 7) 2880 := cntC_cong hg1
    refine lk_any2 (d := d + 1) (fun e => by rw [z1]; exact cntC_0 (by decide) (by decide) (g1_none (hv e)) _) ?_
    refine lk_owe (R := cntC (D n) (nI 1) 2880) (by omega) (hR.hA 2 (by omega)) (hR.hB 2 (by omega)) (by have := hR.bA 2 (by omega); omega) (by have := hR.bB 2 (by omega); omega) va_s (cntC_le _ _ _) (if_pos rfl) (fun o o' f2 hf2 => ?_)
    have hg2 : ∀ m, m < 2880 → f2 m = g2 t (pR t s n) n day A B m := fun m hm => by
      rw [hf2 m hm, z1]
      unfold g2 owe
      rw [show cntC (g1 t (pR t s n) n day A B) (nI 1) 2880 = cntC (D n) (nI 1) 2880 by unfold g1; rw [cnt1_frm, hD]]
      exact bhC_cong hg1 m hm
    have z2 : cntC f2 (nI 7) 2880 = cntC (g2 t (pR t s n) n day A B) (nI 7) 2880 := cntC_cong hg2
    refine lk_any3 (d := d + 1) (fun e => by rw [z2]; exact cntC_0 (by decide) (by decide) (g2_none (hv e)) _) ?_
    refine lk_bh3 (d := d + 1) (by omega) (hR.hA 3 (by omega)) (hR.bA 3 (by omega)) (fun f3 hf3 => ?_)
    have hg3 : ∀ m, m < 2880 → f3 m = g3 t (pR t s n) n day A B m := fun m hm => by
      rw [hf3 m hm]
      unfold g3 bhO
      split
      · exact bhC_cong hg2 m hm
      · exact hg2 m hm
    have z3 : cntC f3 (nI 7) 2880 = cntC (g3 t (pR t s n) n day A B) (nI 7) 2880 := cntC_cong hg3
    refine lk_any4 (d := d + 1) (fun e => by rw [z3]; exact cntC_0 (by decide) (by decide) (g3_none (hv e)) _) ?_
    refine lk_bh4 (d := d + 1) (by omega) (hR.hA 4 (by omega)) (hR.bA 4 (by omega)) (fun f4 hf4 => ?_)
    have hg4 : ∀ m, m < 2880 → f4 m = dG t (pR t s n) n day A B m := fun m hm => by
      rw [hf4 m hm]
      unfold dG bhO
      split
      · exact bhC_cong hg3 m hm
      · exact hg3 m hm
    refine ev_ret rfl trivial ?_
    rw [hP]
    refine ⟨rfl, f4, _, hg4, fun q hq => ?_, by rw [hD]⟩
    have hq5 : q = 0 ∨ q = 1 ∨ q = 2 ∨ q = 3 ∨ q = 4 := by omega
    rcases hq5 with e | e | e | e | e <;> subst e
    · rw [left_0, ← hD, ← ct27_F (hDu n), ← ct27_cong hf0]
      rfl
    · rw [left_1, ← hD, ← z0]
      rfl
    · rw [left_2, ← z1]
      rfl
    · rw [left_3, ← z2]
      rfl
    · rw [left_4, ← z3]
      rfl
  have loop : ∀ m x, pN t s n - x = m → x ≤ pN t s n → ∀ (v : Bool) (f : Nat → Int32), (v = false → ∀ q, q < pB t s n x → ¬ (pR t s n q = 1 ∧ t q / 1440 = day)) → (∀ m, m < 2880 → f m = D (pB t s n x) m) → am_ev E (d + 2) tX9_look (34, [some (.ref 0), some (.int (nI w)), some (.int (nI day)), some (.int (nI (5 * kd))), some (.int (bI v)), some (.int (nI x)), none], [], am_L (mo (va_up i 38 (nI (cntC (D (pB t s n x)) (nI 1) 2880))) j (lk a f (a 31)) b), 0, 0) P := by
    intro m
    induction m with
    | zero =>
      intro x e1 e2 v f hv hf
      have e : x = pN t s n := by omega
      subst e
      rw [pB_N] at hv hf ⊢
      refine ev_go 999 rfl trivial ?_
      refine ev_pos (by show va_up i 38 _ 30 ≤ nI (pN t s n); rw [va_n (by decide), hp.i30]; exact nI_le (Nat.le_refl _) (by omega)) ?_
      exact tail v f _ hv hf
    | succ m ih =>
      intro x e1 e2 v f hv hf
      have hx : x < pN t s n := by omega
      obtain ⟨c1, c2, c3⟩ := pB_next hx
      have hxB := pB_lt hx
      have hxn := pF_lt hx
      rw [hxB] at hv hf ⊢
      obtain ⟨p25, p27, p29, pg⟩ := hp.x x hx
      obtain ⟨c, hc⟩ : ∃ c, c = pF t s n x := ⟨_, rfl⟩
      rw [← hc] at hxB hxn c1 c3 hv hf p25 p27 ⊢
      have hDn : D (pB t s n (x + 1)) = D (c + 1) := by rw [hD]; exact dR_same _ (by omega) (fun q h1 h2 h3 => c3 q (by omega) h2 h3.1)
      have hDc : D (c + 1) = if pR t s n c = 1 ∧ t c / 1440 = day then lS t (pR t s n) n (1440 * day) (A 0) (D c) c else D c := by rw [hD]; rfl
      have vx : vp_in (nI x) 400 := vp_in_nI (by omega) (by omega)
      have cx : (nI x).toNatClampNeg = x := nI_clamp (by omega)
      have same : ¬ (pR t s n c = 1 ∧ t c / 1440 = day) → am_ev E (d + 2) tX9_look (88, [some (.ref 0), some (.int (nI w)), some (.int (nI day)), some (.int (nI (5 * kd))), some (.int (bI v)), some (.int (nI x)), none], [], am_L (mo (va_up i 38 (nI (cntC (D c) (nI 1) 2880))) j (lk a f (a 31)) b), 0, 0) P := fun ne => by
        have e : D (pB t s n (x + 1)) = D c := by rw [hDn, hDc, if_neg ne]
        have kk := ih (x + 1) (by omega) (by omega) v f (fun ev q hq => by
          rcases Nat.lt_or_ge q c with z | z
          · exact hv ev q z
          · rcases Nat.lt_or_ge c q with y | y
            · exact fun u => c3 q y hq u.1
            · have : q = c := by omega
              rw [this]; exact ne) (by rw [e]; exact hf)
        rw [e, ← nI_1 x] at kk
        refine ev_go 999 rfl trivial ?_
        exact kk
      refine ev_go 999 rfl trivial ?_
      refine ev_neg (by show ¬ va_up i 38 _ 30 ≤ nI x; rw [va_n (by decide), hp.i30]; exact nI_ge (by omega) (by omega)) ?_
      refine ev_go 999 rfl ⟨vx, trivial⟩ ?_
      have g29 : lk a f (a 31) 29 (nI x).toNatClampNeg = bI (pG t s n x) := by rw [cx, lk_lt (by decide), p29]
      cases hgp : pG t s n x with
      | true =>
        rw [hgp] at g29
        refine ev_pos (by show ¬ lk a f (a 31) 29 (nI x).toNatClampNeg = 0; rw [g29]; decide) ?_
        exact same (fun z => by have := hI.C x hx hgp; rw [← hc, z.1] at this; cases this)
      | false =>
        rw [hgp] at g29
        obtain ⟨p26, p28⟩ := pg hgp
        obtain ⟨q1, q2, q3, _⟩ := hI.D x hx hgp
        rw [← hc] at q1 q3
        have hr1 : pR t s n c = 1 := q1.rc
        have hlE : lE (pR t s n) n c = pLm t s n x := lE_is q1 q2
        refine ev_neg (by show ¬ ¬ lk a f (a 31) 29 (nI x).toNatClampNeg = 0; rw [g29]; decide) ?_
        refine ev_go 999 rfl ⟨vx, by decide, trivial⟩ ?_
        have ht2 := hm.t2 c hxn
        have g25 : lk a f (a 31) 25 (nI x).toNatClampNeg / nI 1440 = nI (t c / 1440) := by rw [cx, lk_lt (by decide), p25, pk_div (by omega) (by decide) (by decide)]
        by_cases hdy : t c / 1440 = day
        · refine ev_pos (by show lk a f (a 31) 25 (nI x).toNatClampNeg / nI 1440 = nI day; rw [g25, hdy]) ?_
          have vk : vp_in (nI (5 * kd)) 40 := vp_in_nI (by omega) (by omega)
          refine ev_go 999 rfl ⟨vk, trivial⟩ ?_
          have g3 : lk a f (a 31) 3 (nI (5 * kd)).toNatClampNeg = nI (A 0) := by rw [nI_clamp (by omega), lk_lt (by decide)]; exact hR.hA 0 (by omega)
          obtain ⟨f', hf', hL⟩ := x9_lay (E := E) (d := d) (i := va_up i 38 (nI (cntC (D c) (nI 1) 2880))) (j := j) (a := lk a f (a 31)) (b := b) (x := x) (day := day) (A := A 0) (c := c) (l := pLm t s n x) (r := pR t s n) (g := D c) (hm.cong (fun p hp => lk_lt (by omega))) (by omega) (fun q hq => by rw [lk_lt (by decide)]; exact hp.r q hq) (by rw [lk_lt (by decide)]; exact p25) (by rw [lk_lt (by decide), p26, q3]) (by rw [lk_lt (by decide)]; exact p27) (by rw [lk_lt (by decide)]; exact p28) q2 q1 hdy hR.a0.1 hR.a0.2 (fun m hm => by rw [lk_30]; exact hf m hm) (fun m hm2 => by rw [hD]; exact dR_free hm.inc hxn hr1 hm2) va_s
          rw [← g3, lk_f] at hL
          refine ev_call0 rfl (Nat.le_of_ble_eq_true rfl) (fun _ => ⟨_, _, _, rfl, rfl⟩) hL ?_
          have e : D (pB t s n (x + 1)) = rnd (sG (pR t s n) (fun k => t k - 1440 * day) c (D c) (pLm t s n x - c + 1)) (t c - 1440 * day) ((t c - 1440 * day + A 0 - 1) / A 0 * A 0) ((eT t (pR t s n) c (pLm t s n x) - 1440 * day) / A 0 * A 0) := by
            rw [hDn, hDc, if_pos ⟨hr1, hdy⟩]
            unfold lS
            rw [hlE]
          have kk := ih (x + 1) (by omega) (by omega) true f' (fun z => by cases z) (by rw [e]; exact hf')
          rw [e, cnt1_rnd, ← nI_1 x] at kk
          rw [bx_uu]
          refine ev_go 999 rfl trivial ?_
          exact kk
        · refine ev_neg (by show ¬ lk a f (a 31) 25 (nI x).toNatClampNeg / nI 1440 = nI day; rw [g25, nI_eq (by omega) (by omega)]; exact hdy) ?_
          refine ev_go 999 rfl trivial ?_
          exact same (fun z => hdy z.2)
  have main : am_ev E (d + 2) tX9_look (0, am_in [.ref 0, .int (nI w), .int (nI day)] tX9_look.2.2.2.1, [], am_L (mo i j a b), 0, 0) P := by
    refine ev_go 999 rfl trivial ?_
    refine ev_call0 rfl (Nat.le_of_ble_eq_true rfl) (fun _ => ⟨_, _, _, rfl, rfl⟩) (x9_fill (lo := 0) (hi := 2880) (c := 0) (Nat.le_refl _) (by omega)) ?_
    refine ev_go 14 rfl trivial ?_
    refine ev_M (mo_i38 0) ?_
    refine ev_go 999 rfl ⟨vp_in_nI hw (by omega), trivial⟩ ?_
    have a0 : ∀ h p, p ≠ 30 → va_up a 30 h p = a p := fun h p hp => va_n hp
    obtain ⟨F, hF⟩ : ∃ F : Nat → Int32, F = fun m => if 0 ≤ m ∧ m < 2880 then 0 else a 30 m := ⟨_, rfl⟩
    rw [← hF]
    have eg : va_up a 30 F 16 (nI w).toNatClampNeg = nI g := by rw [nI_clamp (by omega), va_n (by decide), h16]
    have hkd := x9_kindOf (E := E) (d := d + 1) (i := va_up i 38 0) (j := j) (a := va_up a 30 F) (b := b) hg hd
    rw [va_n (show (2 : Nat) ≠ 30 by decide), va_n (show (1 : Nat) ≠ 30 by decide), hk, ← eg] at hkd
    refine ev_call0 rfl (Nat.le_of_ble_eq_true rfl) (fun _ => ⟨_, _, _, rfl, rfl⟩) hkd ?_
    refine ev_go 34 rfl trivial ?_
    have e5 : Int32.ofInt 5 * nI kd = nI (5 * kd) := pk_mul 5 kd
    show am_ev _ _ _ (34, [_, _, _, _, _, _, _], _, _, _, _) _
    rw [e5]
    have hz : ∀ m, D (pB t s n 0) m = 0 := fun m => by
      rw [hD, dR_same (i := 0) _ (Nat.zero_le _) (fun q _ h2 h3 => pB_0 q h2 h3.1)]
      rfl
    have hz2 : cntC (D (pB t s n 0)) (nI 1) 2880 = 0 := cntC_0 (by decide) (by decide) (funext hz) _
    have kk := loop (pN t s n) 0 (by omega) (Nat.zero_le _) false F (fun _ q hq h3 => pB_0 q hq h3.1) (fun m hm => by rw [hz, hF]; exact if_pos ⟨Nat.zero_le _, hm⟩)
    rw [hz2] at kk
    have e30 : va_up a 30 F = lk a F (a 31) := by unfold lk; rw [va_id]
    rw [e30]
    exact kk
  obtain ⟨v, M', hv, hD2⟩ := am_D_ex (Nat.le_of_ble_eq_true rfl) main
  rw [hP] at hv
  obtain ⟨rfl, f, h, h1, h2, rfl⟩ := hv
  exact ⟨f, h, h1, h2, hD2⟩
end L9
