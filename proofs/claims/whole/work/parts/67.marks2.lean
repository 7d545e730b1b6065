/-! The class's marks come and go; its rates. -/
section X1
variable {E : am_E} {d n : Nat} {T S R : Nat → Int32}
theorem x1_insert {x y : Int32} {t s : Nat → Nat} (hn : n < 400) (ht : ∀ k, k < n + 1 → insF T (fa_first (fun k => decide (x ≤ T k)) n) n x k = nI (t k)) (hs : ∀ k, k < n + 1 → insF S (fa_first (fun k => decide (x ≤ T k)) n) n y k = nI (s k)) (hs3 : ∀ k, k < n + 1 → s k ≤ 3) (ht2 : ∀ k, k < n + 1 → t k < 2000000) (hinc : ∀ q k, q < k → k < n + 1 → t q < t k) :
    ∃ T' S' R', (∀ k, k < n + 1 → T' k = nI (t k)) ∧ (∀ k, k < n + 1 → S' k = nI (s k)) ∧ (∀ q, q < n + 1 → R' q = nI (pR t s (n + 1) q)) ∧ am_D E (d + 3) tX1_insert [.ref 0, .int x, .int y] (am_L (mk (nI n) T S R)) 0 0 none (am_L (mk (nI (n + 1)) T' S' R')) := by
  obtain ⟨p, hp⟩ : ∃ p, p = fa_first (fun k => decide (x ≤ T k)) n := ⟨_, rfl⟩
  have hpn : p ≤ n := by rw [hp]; exact fa_first_le _ _
  have hpl := x1_placeOf (E := E) (d := d + 1) (T := T) (S := S) (R := R) (t := x) (n := n) (by omega)
  rw [← hp] at ht hs hpl
  have cpy : ∀ (f : Nat → Int32) (v : Int32), ∀ k, k < n + 1 → upd (va_cpy f f p (p + 1) (n - p)) p v k = insF f p n v k := fun f v k hk => by
    unfold upd insF
    by_cases w : k = p
    · rw [if_pos w, if_neg (by omega), if_pos w]
    · rw [if_neg w]
      rcases Nat.lt_or_ge k p with u | u
      · rw [if_pos u, pk_cpy_out (by omega)]
      · rw [if_neg (by omega), if_neg w, if_pos (by omega), pk_cpy_in (by omega) (by omega), show p + (k - (p + 1)) = k - 1 by omega]
  have hT' : ∀ k, k < n + 1 → upd (va_cpy T T p (p + 1) (n - p)) p x k = nI (t k) := fun k hk => by rw [cpy T x k hk]; exact ht k hk
  have hS' : ∀ k, k < n + 1 → upd (va_cpy S S p (p + 1) (n - p)) p y k = nI (s k) := fun k hk => by rw [cpy S y k hk]; exact hs k hk
  obtain ⟨R', hR', hPU⟩ := x1_pairUp (E := E) (d := d) (R := R) (n := n + 1) (by omega) hT' hS' hs3 ht2 hinc
  refine ⟨_, _, R', hT', hS', hR', ?_⟩
  have vk : vp_in (nI p) 400 := vp_in_nI (by omega) (by omega)
  have ck : (nI p).toNatClampNeg = p := nI_clamp (by omega)
  have ck1 : (nI p + 1).toNatClampNeg = p + 1 := by rw [nI_1]; exact nI_clamp (by omega)
  have en : nI n - nI p = nI (n - p) := pk_sub (by omega)
  have cn : (nI n - nI p).toNatClampNeg = n - p := by rw [en]; exact nI_clamp (by omega)
  have s1 : ¬ nI p < 0 := nI_pos (by omega)
  have s2 : ¬ nI p + 1 < 0 := by rw [nI_1]; exact nI_pos (by omega)
  have s3 : ¬ nI n - nI p < 0 := by rw [en]; exact nI_pos (by omega)
  have s4 : (nI p).toNatClampNeg + (nI n - nI p).toNatClampNeg ≤ 400 := by rw [ck, cn]; omega
  have s5 : (nI p + 1).toNatClampNeg + (nI n - nI p).toNatClampNeg ≤ 400 := by rw [ck1, cn]; omega
  refine am_D_of (Nat.le_of_ble_eq_true rfl) ?_
  refine ev_go 999 rfl trivial ?_
  refine ev_neg (nI_ge (a := n) (b := 400) hn (by omega)) ?_
  refine ev_go 999 rfl trivial ?_
  refine ev_call0 rfl (Nat.le_of_ble_eq_true rfl) (fun _ => ⟨_, _, _, rfl, rfl⟩) hpl ?_
  refine ev_go 37 rfl ⟨s1, s2, s3, s4, s5, Nat.le_of_ble_eq_true rfl, trivial⟩ ?_
  refine ev_M (mk_T _) ?_
  refine ev_go 58 rfl ⟨s1, s2, s3, s4, s5, Nat.le_of_ble_eq_true rfl, trivial⟩ ?_
  refine ev_M (mk_S _) ?_
  refine ev_go 65 rfl ⟨vk, trivial⟩ ?_
  refine ev_M (mk_T _) ?_
  refine ev_go 72 rfl ⟨vk, trivial⟩ ?_
  refine ev_M (mk_S _) ?_
  refine ev_go 82 rfl trivial ?_
  refine ev_M (mk_z _) ?_
  refine ev_M (show am_L (mk (nI n + 1) (upd (va_cpy T T (nI p).toNatClampNeg (nI p + 1).toNatClampNeg (nI n - nI p).toNatClampNeg) (nI p).toNatClampNeg x) (upd (va_cpy S S (nI p).toNatClampNeg (nI p + 1).toNatClampNeg (nI n - nI p).toNatClampNeg) (nI p).toNatClampNeg y) R) = am_L (mk (nI (n + 1)) (upd (va_cpy T T p (p + 1) (n - p)) p x) (upd (va_cpy S S p (p + 1) (n - p)) p y) R) by rw [ck, ck1, cn, nI_1]) ?_
  refine ev_go 999 rfl trivial ?_
  refine ev_call0 rfl (Nat.le_of_ble_eq_true rfl) (fun _ => ⟨_, _, _, rfl, rfl⟩) hPU ?_
  exact ev_ret rfl trivial ⟨rfl, rfl⟩
theorem x1_remove {x : Int32} {t s : Nat → Nat} (hn : n ≤ 400) (hp1 : fa_first (fun k => decide (x ≤ T k)) n < n) (hp2 : T (fa_first (fun k => decide (x ≤ T k)) n) = x) (ht : ∀ k, k < n - 1 → remF T (fa_first (fun k => decide (x ≤ T k)) n) (n - 1) k = nI (t k)) (hs : ∀ k, k < n - 1 → remF S (fa_first (fun k => decide (x ≤ T k)) n) (n - 1) k = nI (s k)) (hs3 : ∀ k, k < n - 1 → s k ≤ 3) (ht2 : ∀ k, k < n - 1 → t k < 2000000) (hinc : ∀ q k, q < k → k < n - 1 → t q < t k) :
    ∃ T' S' R', (∀ k, k < n - 1 → T' k = nI (t k)) ∧ (∀ k, k < n - 1 → S' k = nI (s k)) ∧ (∀ q, q < n - 1 → R' q = nI (pR t s (n - 1) q)) ∧ am_D E (d + 3) tX1_remove [.ref 0, .int x] (am_L (mk (nI n) T S R)) 0 0 none (am_L (mk (nI (n - 1)) T' S' R')) := by
  have hst := x1_standsAt (E := E) (d := d) (T := T) (S := S) (R := R) (t := x) (n := n) hn
  rw [decide_eq_true hp1, decide_eq_true hp2] at hst
  obtain ⟨p, hp⟩ : ∃ p, p = fa_first (fun k => decide (x ≤ T k)) n := ⟨_, rfl⟩
  have hpl := x1_placeOf (E := E) (d := d + 1) (T := T) (S := S) (R := R) (t := x) (n := n) hn
  rw [← hp] at ht hs hpl hp1
  have cpy : ∀ (f : Nat → Int32), ∀ k, k < n - 1 → va_cpy f f (p + 1) p (n - p - 1) k = remF f p (n - 1) k := fun f k hk => by
    unfold remF
    rcases Nat.lt_or_ge k p with u | u
    · rw [if_pos u, pk_cpy_out (by omega)]
    · rw [if_neg (by omega), if_pos hk, pk_cpy_in (by omega) (by omega), show p + 1 + (k - p) = k + 1 by omega]
  have hT' : ∀ k, k < n - 1 → va_cpy T T (p + 1) p (n - p - 1) k = nI (t k) := fun k hk => by rw [cpy T k hk]; exact ht k hk
  have hS' : ∀ k, k < n - 1 → va_cpy S S (p + 1) p (n - p - 1) k = nI (s k) := fun k hk => by rw [cpy S k hk]; exact hs k hk
  obtain ⟨R', hR', hPU⟩ := x1_pairUp (E := E) (d := d) (R := R) (n := n - 1) (by omega) hT' hS' hs3 ht2 hinc
  refine ⟨_, _, R', hT', hS', hR', ?_⟩
  have ck : (nI p).toNatClampNeg = p := nI_clamp (by omega)
  have ck1 : (nI p + 1).toNatClampNeg = p + 1 := by rw [nI_1]; exact nI_clamp (by omega)
  have en : nI n - nI p - 1 = nI (n - p - 1) := by
    rw [pk_sub (by omega)]
    obtain ⟨q, hq⟩ : ∃ q, n - p = q + 1 := ⟨n - p - 1, by omega⟩
    rw [hq, nI_pred, Nat.add_sub_cancel]
  have cn : (nI n - nI p - 1).toNatClampNeg = n - p - 1 := by rw [en]; exact nI_clamp (by omega)
  have s1 : ¬ nI p < 0 := nI_pos (by omega)
  have s2 : ¬ nI p + 1 < 0 := by rw [nI_1]; exact nI_pos (by omega)
  have s3 : ¬ nI n - nI p - 1 < 0 := by rw [en]; exact nI_pos (by omega)
  have s4 : (nI p + 1).toNatClampNeg + (nI n - nI p - 1).toNatClampNeg ≤ 400 := by rw [ck1, cn]; omega
  have s5 : (nI p).toNatClampNeg + (nI n - nI p - 1).toNatClampNeg ≤ 400 := by rw [ck, cn]; omega
  have en1 : nI n - 1 = nI (n - 1) := by
    obtain ⟨q, hq⟩ : ∃ q, n = q + 1 := ⟨n - 1, by omega⟩
    rw [hq, nI_pred, Nat.add_sub_cancel]
  refine am_D_of (Nat.le_of_ble_eq_true rfl) ?_
  refine ev_go 999 rfl trivial ?_
  refine ev_call0 rfl (Nat.le_of_ble_eq_true rfl) (fun _ => ⟨_, _, _, rfl, rfl⟩) hst ?_
  refine ev_go 999 rfl trivial ?_
  refine ev_neg (by decide) ?_
  refine ev_go 999 rfl trivial ?_
  refine ev_call0 rfl (Nat.le_of_ble_eq_true rfl) (fun _ => ⟨_, _, _, rfl, rfl⟩) hpl ?_
  refine ev_go 37 rfl ⟨s2, s1, s3, s4, s5, Nat.le_of_ble_eq_true rfl, trivial⟩ ?_
  refine ev_M (mk_T _) ?_
  refine ev_go 60 rfl ⟨s2, s1, s3, s4, s5, Nat.le_of_ble_eq_true rfl, trivial⟩ ?_
  refine ev_M (mk_S _) ?_
  refine ev_go 70 rfl trivial ?_
  refine ev_M (mk_z _) ?_
  refine ev_M (show am_L (mk (nI n - 1) (va_cpy T T (nI p + 1).toNatClampNeg (nI p).toNatClampNeg (nI n - nI p - 1).toNatClampNeg) (va_cpy S S (nI p + 1).toNatClampNeg (nI p).toNatClampNeg (nI n - nI p - 1).toNatClampNeg) R) = am_L (mk (nI (n - 1)) (va_cpy T T (p + 1) p (n - p - 1)) (va_cpy S S (p + 1) p (n - p - 1)) R) by rw [ck, ck1, cn, en1]) ?_
  refine ev_go 999 rfl trivial ?_
  refine ev_call0 rfl (Nat.le_of_ble_eq_true rfl) (fun _ => ⟨_, _, _, rfl, rfl⟩) hPU ?_
  exact ev_ret rfl trivial ⟨rfl, rfl⟩
/-- how many marks play a role on the days from lo to ahead of hi -/
def ctD (t r : Nat → Nat) (lo hi role n : Nat) : Nat := fb_ct (fun k => decide (r k = role) && (decide (lo ≤ t k / 1440) && decide (t k / 1440 < hi))) n
theorem x1_amountOf {role lo hi : Nat} {t s r : Nat → Nat} (hM : MA n T S R t s r) (hlo : lo < 2000) (hhi : hi < 2000) (hro : role < 1000) : am_D E (d + 2) tX1_amountOf [.ref 0, .int (nI role), .int (nI lo), .int (nI hi)] (am_L (mk (nI n) T S R)) 0 0 (some (.int (nI (ctD t r lo hi role n)))) (am_L (mk (nI n) T S R)) := by
  have n4 := hM.n4
  have hto := x8_timeOf (E := E) (d := d) (M := am_L (mk (nI n) T S R)) (x := nI lo) (y := nI 0)
  rw [pk_mul, nI_add, Nat.add_zero] at hto
  have hpl := x1_placeOf (E := E) (d := d) (T := T) (S := S) (R := R) (t := nI (1440 * lo)) (n := n) n4
  obtain ⟨p, hp⟩ : ∃ p, p = fa_first (fun k => decide (nI (1440 * lo) ≤ T k)) n := ⟨_, rfl⟩
  have hpn : p ≤ n := by rw [hp]; exact fa_first_le _ _
  rw [← hp] at hpl
  have h1 : ∀ k, k < p → t k / 1440 < lo := fun k hk => by
    have h := of_decide_eq_false (fa_first_no (fun k => decide (nI (1440 * lo) ≤ T k)) n k (by rw [← hp]; exact hk))
    have ht2 := hM.t2 k (by omega)
    rw [hM.ht k (by omega), nI_leI (by omega) (by omega)] at h
    omega
  have h2 : ∀ k, p ≤ k → k < n → lo ≤ t k / 1440 := fun k hk hkn => by
    have h := of_decide_eq_true (fa_first_yes (fun k => decide (nI (1440 * lo) ≤ T k)) n (by rw [← hp]; omega))
    rw [← hp] at h
    have ht2 := hM.t2 p (by omega)
    rw [hM.ht p (by omega), nI_leI (by omega) (by omega)] at h
    have := inc_le hM.inc hk hkn
    omega
  obtain ⟨Cn, hC⟩ : ∃ Cn : Nat → Nat, Cn = ctD t r lo hi role := ⟨_, rfl⟩
  rw [← hC]
  have hC0 : Cn p = 0 := by
    rw [hC]
    refine fb_ct_zero.mpr (fun q hq => ?_)
    have := h1 q hq
    rw [decide_eq_false (show ¬ lo ≤ t q / 1440 by omega), Bool.false_and, Bool.and_false]
  have hCs : ∀ k, Cn (k + 1) = Cn k + (if (decide (r k = role) && (decide (lo ≤ t k / 1440) && decide (t k / 1440 < hi))) = true then 1 else 0) := fun k => by rw [hC]; rfl
  refine am_D_of (Nat.le_of_ble_eq_true rfl) ?_
  have loop : ∀ m k, n - k = m → p ≤ k → k ≤ n → am_ev E (d + 1) tX1_amountOf (14, [some (.ref 0), some (.int (nI role)), some (.int (nI lo)), some (.int (nI hi)), some (.int (nI (Cn k))), some (.int (nI k))], [], am_L (mk (nI n) T S R), 0, 0) (fun v' M'' => v' = some (.int (nI (Cn n))) ∧ M'' = am_L (mk (nI n) T S R)) := by
    intro m
    induction m with
    | zero =>
      intro k e1 e2 e3
      have e : k = n := by omega
      rw [e]
      refine ev_go 999 rfl trivial ?_
      refine ev_pos (nI_le (Nat.le_refl _) (by omega)) ?_
      refine ev_go 999 rfl trivial ?_
      exact ev_ret rfl trivial ⟨rfl, rfl⟩
    | succ m ih =>
      intro k e1 e2 e3
      have hk : k < n := by omega
      have vk : vp_in (nI k) 400 := vp_in_nI (by omega) (by omega)
      have ck : (nI k).toNatClampNeg = k := nI_clamp (by omega)
      have ht2 := hM.t2 k hk
      have hdo := x1_dayOf (E := E) (d := d) (T := T) (S := S) (R := R) (z := nI n) (k := k) (by omega)
      rw [hM.ht k hk, pk_div (by omega) (by omega) (by omega)] at hdo
      have kk := ih (k + 1) (by omega) (by omega) (by omega)
      rw [hCs, decide_eq_true (h2 k e2 hk), Bool.true_and, ← nI_1 k] at kk
      refine ev_go 999 rfl trivial ?_
      refine ev_neg (nI_ge hk (by omega)) ?_
      refine ev_go 999 rfl trivial ?_
      refine ev_call0 rfl (Nat.le_of_ble_eq_true rfl) (fun _ => ⟨_, _, _, rfl, rfl⟩) hdo ?_
      refine ev_go 999 rfl trivial ?_
      by_cases hd : t k / 1440 < hi
      · refine ev_neg (nI_ge hd (by omega)) ?_
        rw [decide_eq_true hd, Bool.and_true] at kk
        refine ev_go 999 rfl ⟨vk, trivial⟩ ?_
        have hr4 := hM.r4 k hk
        by_cases hr : r k = role
        · refine ev_neg (by show ¬ ¬ R (nI k).toNatClampNeg = nI role; rw [ck, hM.hr k hk, hr]; exact fun y => y rfl) ?_
          rw [decide_eq_true hr, if_pos rfl, ← nI_1] at kk
          refine ev_go 999 rfl trivial ?_
          exact kk
        · refine ev_pos (by show ¬ R (nI k).toNatClampNeg = nI role; rw [ck, hM.hr k hk, nI_eq (by omega) (by omega)]; exact hr) ?_
          rw [decide_eq_false hr, if_neg (by decide), Nat.add_zero] at kk
          refine ev_go 999 rfl trivial ?_
          exact kk
      · refine ev_pos (nI_le (by omega) (by omega)) ?_
        have hrest : Cn n = Cn k := by
          rw [hC]
          refine fb_ct_same (by omega) (fun q g1 g2 => ?_)
          have := inc_le hM.inc g1 g2
          rw [decide_eq_false (show ¬ t q / 1440 < hi by omega), Bool.and_false, Bool.and_false]
        rw [hrest]
        refine ev_go 999 rfl trivial ?_
        exact ev_ret rfl trivial ⟨rfl, rfl⟩
  have k0 := loop (n - p) p rfl (Nat.le_refl _) hpn
  rw [hC0] at k0
  refine ev_go 999 rfl trivial ?_
  refine ev_call0 rfl (Nat.le_of_ble_eq_true rfl) (fun z => by cases z) hto ?_
  refine ev_go 999 rfl trivial ?_
  refine ev_call0 rfl (Nat.le_of_ble_eq_true rfl) (fun _ => ⟨_, _, _, rfl, rfl⟩) hpl ?_
  refine ev_go 14 rfl trivial ?_
  exact k0
end X1
def ra (z : Int32) (G D A : Nat → Int32) : List am_C := [.inr (2, [.ref 1, .ref 2, .ref 3, .int z]), .inl (0, 60, .inl G), .inl (0, 60, .inl D), .inl (0, 60, .inl A)]
section X2
variable {E : am_E} {d n : Nat} {G D A : Nat → Int32}
theorem x2_add {g y c : Int32} (hn : n < 60) : am_D E (d + 1) tX2_add [.ref 0, .int g, .int y, .int c] (am_L (ra (nI n) G D A)) 0 0 none (am_L (ra (nI (n + 1)) (upd G n g) (upd D n y) (upd A n c))) := by
  have v : vp_in (nI n) 60 := vp_in_nI hn (by omega)
  have ck : (nI n).toNatClampNeg = n := nI_clamp (by omega)
  refine am_D_of (Nat.le_of_ble_eq_true rfl) ?_
  refine ev_go 999 rfl trivial ?_
  refine ev_neg (nI_ge (a := n) (b := 60) hn (by omega)) ?_
  refine ev_go 19 rfl ⟨v, trivial⟩ ?_
  refine ev_M (show _ = am_L (ra (nI n) (upd G n g) D A) by rw [am_w_L (Nat.le_of_ble_eq_true rfl), ck]; rfl) ?_
  refine ev_go 29 rfl ⟨v, trivial⟩ ?_
  refine ev_M (show _ = am_L (ra (nI n) (upd G n g) (upd D n y) A) by rw [am_w_L (Nat.le_of_ble_eq_true rfl), ck]; rfl) ?_
  refine ev_go 39 rfl ⟨v, trivial⟩ ?_
  refine ev_M (show _ = am_L (ra (nI n) (upd G n g) (upd D n y) (upd A n c)) by rw [am_w_L (Nat.le_of_ble_eq_true rfl), ck]; rfl) ?_
  refine ev_go 49 rfl trivial ?_
  refine ev_M (show _ = am_L (ra (nI (n + 1)) (upd G n g) (upd D n y) (upd A n c)) by rw [am_w_L (Nat.le_of_ble_eq_true rfl), ← nI_1 n]; rfl) ?_
  exact ev_ret rfl trivial ⟨rfl, rfl⟩
def rlat (D : Nat → Int32) (o : Option Nat) : Int32 := match o with
  | none => 0
  | some q => D q
theorem x2_at {g day : Int32} (hn : n ≤ 60) (hD : ∀ k, k < n → 0 ≤ D k) : am_D E (d + 1) tX2_at [.ref 0, .int g, .int day] (am_L (ra (nI n) G D A)) 0 0 (some (.int (rcents A (rbest G D g day n)))) (am_L (ra (nI n) G D A)) := by
  refine am_D_of (Nat.le_of_ble_eq_true rfl) ?_
  refine ev_go 8 rfl trivial ?_
  have loop : ∀ m k, n - k = m → k ≤ n → am_ev E d tX2_at (8, [some (.ref 0), some (.int g), some (.int day), some (.int (rcents A (rbest G D g day k))), some (.int (rlat D (rbest G D g day k))), some (.int (nI k))], [], am_L (ra (nI n) G D A), 0, 0) (fun v' M'' => v' = some (.int (rcents A (rbest G D g day n))) ∧ M'' = am_L (ra (nI n) G D A)) := by
    intro m
    induction m with
    | zero =>
      intro k e1 e2
      have e : k = n := by omega
      rw [e]
      refine ev_go 999 rfl trivial ?_
      refine ev_pos (nI_le (Nat.le_refl _) (by omega)) ?_
      refine ev_go 999 rfl trivial ?_
      exact ev_ret rfl trivial ⟨rfl, rfl⟩
    | succ m ih =>
      intro k e1 e2
      have hk : k < n := by omega
      have kk := ih (k + 1) (by omega) (by omega)
      have v : vp_in (nI k) 60 := vp_in_nI (by omega) (by omega)
      have c : (nI k).toNatClampNeg = k := nI_clamp (by omega)
      have hb : rbest G D g day (k + 1) = if G k = g ∧ D k ≤ day then (if rlat D (rbest G D g day k) ≤ D k then some k else rbest G D g day k) else rbest G D g day k := by
        show (if G k = g ∧ D k ≤ day then (match rbest G D g day k with
          | none => some k
          | some q => if D q ≤ D k then some k else some q) else rbest G D g day k) = _
        cases hq : rbest G D g day k with
        | none =>
          show (if G k = g ∧ D k ≤ day then some k else none) = (if G k = g ∧ D k ≤ day then (if (0 : Int32) ≤ D k then some k else none) else none)
          rw [if_pos (hD k hk)]
        | some q => rfl
      rw [hb, ← nI_1 k] at kk
      refine ev_go 999 rfl trivial ?_
      refine ev_neg (nI_ge hk (by omega)) ?_
      refine ev_go 999 rfl ⟨v, trivial⟩ ?_
      by_cases h1 : G k = g
      · refine ev_neg (by show ¬ ¬ G (nI k).toNatClampNeg = g; rw [c]; exact fun y => y h1) ?_
        refine ev_go 999 rfl ⟨v, trivial⟩ ?_
        by_cases h2 : D k ≤ day
        · refine ev_neg (by show ¬ day < D (nI k).toNatClampNeg; rw [c]; exact Int32.not_lt.mpr h2) ?_
          rw [if_pos ⟨h1, h2⟩] at kk
          refine ev_go 999 rfl ⟨v, trivial⟩ ?_
          by_cases h3 : rlat D (rbest G D g day k) ≤ D k
          · refine ev_neg (by show ¬ D (nI k).toNatClampNeg < rlat D (rbest G D g day k); rw [c]; exact Int32.not_lt.mpr h3) ?_
            rw [if_pos h3] at kk
            have e5 : D (nI k).toNatClampNeg = D k := by rw [c]
            have e6 : A (nI k).toNatClampNeg = A k := by rw [c]
            have kk : am_ev E d tX2_at (8, [some (.ref 0), some (.int g), some (.int day), some (.int (A k)), some (.int (D k)), some (.int (nI k + 1))], [], am_L (ra (nI n) G D A), 0, 0) (fun v' M'' => v' = some (.int (rcents A (rbest G D g day n))) ∧ M'' = am_L (ra (nI n) G D A)) := kk
            rw [← e5, ← e6] at kk
            refine ev_go 999 rfl ⟨v, v, trivial⟩ ?_
            exact kk
          · refine ev_pos (by show D (nI k).toNatClampNeg < rlat D (rbest G D g day k); rw [c]; exact Int32.not_le.mp h3) ?_
            rw [if_neg h3] at kk
            refine ev_go 999 rfl trivial ?_
            exact kk
        · refine ev_pos (by show day < D (nI k).toNatClampNeg; rw [c]; exact Int32.not_le.mp h2) ?_
          rw [if_neg (fun y => h2 y.2)] at kk
          refine ev_go 999 rfl trivial ?_
          exact kk
      · refine ev_pos (by show ¬ G (nI k).toNatClampNeg = g; rw [c]; exact h1) ?_
        rw [if_neg (fun y => h1 y.1)] at kk
        refine ev_go 999 rfl trivial ?_
        exact kk
  exact loop n 0 (by omega) (Nat.zero_le _)
end X2
