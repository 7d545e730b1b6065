/-! The class's sheet: cutting, counting. -/
def sf (z : Int32) (F T C : Nat → Int32) (X : List am_C) : List am_C := .inr (4, [.ref 1, .ref 2, .ref 3, .int z]) :: .inl (0, 805, .inl F) :: .inl (0, 805, .inl T) :: .inl (0, 805, .inl C) :: X
def RA (z : Nat) (F T C : Nat → Int32) (f t c : Nat → Nat) : Prop := z ≤ 805 ∧ ∀ k, k < z → F k = nI (f k) ∧ T k = nI (t k) ∧ C k = nI (c k)
section SF
variable {z : Int32} {F T C : Nat → Int32} {X : List am_C}
theorem sf_F (h : Nat → Int32) : am_w (am_L (sf z F T C X)) 1 (.inl (0, 805, .inl h)) = am_L (sf z h T C X) := by rw [am_w_L (by show 1 < X.length + 1 + 1 + 1 + 1; omega)]; rfl
theorem sf_T (h : Nat → Int32) : am_w (am_L (sf z F T C X)) 2 (.inl (0, 805, .inl h)) = am_L (sf z F h C X) := by rw [am_w_L (by show 2 < X.length + 1 + 1 + 1 + 1; omega)]; rfl
theorem sf_C (h : Nat → Int32) : am_w (am_L (sf z F T C X)) 3 (.inl (0, 805, .inl h)) = am_L (sf z F T h X) := by rw [am_w_L (by show 3 < X.length + 1 + 1 + 1 + 1; omega)]; rfl
theorem sf_z (x : Int32) : am_w (am_L (sf z F T C X)) 0 (.inr (4, [.ref 1, .ref 2, .ref 3, .int z].set 3 (.int x))) = am_L (sf x F T C X) := by rw [am_w_L (by show 0 < X.length + 1 + 1 + 1 + 1; omega)]; rfl
end SF
section X4
variable {E : am_E} {d z : Nat} {F T C : Nat → Int32} {X : List am_C} {f t c : Nat → Nat} {g : Nat → Int32}
theorem x4_amountOf {lo hi : Nat} (hR : RA z F T C f t c) (hr : Rp f t c z g) (hlo : lo < 1000) (hhi : hi < 1000) : am_D E (d + 1) tX4_amountOf [.ref 0, .int (nI lo), .int (nI hi)] (am_L (sf (nI z) F T C X)) 0 0 (some (.int (nI (fb_sm (fun q => if lo ≤ c q ∧ c q ≤ hi then t q - f q else 0) z)))) (am_L (sf (nI z) F T C X)) := by
  have hz := hR.1
  refine am_D_of (Nat.le_of_ble_eq_true rfl) ?_
  refine ev_go 5 rfl trivial ?_
  have loop : ∀ n k, z - k = n → k ≤ z → am_ev E d tX4_amountOf (5, [some (.ref 0), some (.int (nI lo)), some (.int (nI hi)), some (.int (nI (fb_sm (fun q => if lo ≤ c q ∧ c q ≤ hi then t q - f q else 0) k))), some (.int (nI k))], [], am_L (sf (nI z) F T C X), 0, 0) (fun v' M'' => v' = some (.int (nI (fb_sm (fun q => if lo ≤ c q ∧ c q ≤ hi then t q - f q else 0) z))) ∧ M'' = am_L (sf (nI z) F T C X)) := by
    intro n
    induction n with
    | zero =>
      intro k e1 e2
      have e : k = z := by omega
      subst e
      refine ev_go 999 rfl trivial ?_
      refine ev_pos (nI_le (Nat.le_refl _) (by omega)) ?_
      refine ev_go 999 rfl trivial ?_
      exact ev_ret rfl trivial ⟨rfl, rfl⟩
    | succ n ih =>
      intro k e1 e2
      have kk := ih (k + 1) (by omega) (by omega)
      rw [fb_sm_succ, ← nI_1 k] at kk
      obtain ⟨hF, hT, hC⟩ := hR.2 k (by omega)
      have hb := hr.cb k (by omega)
      have hl := hr.lt k (by omega)
      have vk : vp_in (nI k) 805 := vp_in_nI (by omega) (by omega)
      have ck : (nI k).toNatClampNeg = k := nI_clamp (by omega)
      refine ev_go 999 rfl trivial ?_
      refine ev_neg (nI_ge (by omega) (by omega)) ?_
      refine ev_go 999 rfl ⟨vk, trivial⟩ ?_
      by_cases h1 : c k < lo
      · refine ev_pos (by show C (nI k).toNatClampNeg < nI lo; rw [ck, hC]; exact nI_lt h1 (by omega)) ?_
        rw [if_neg (fun y => by omega), Nat.add_zero] at kk
        refine ev_go 999 rfl trivial ?_
        exact kk
      · refine ev_neg (by show ¬ C (nI k).toNatClampNeg < nI lo; rw [ck, hC]; exact nI_nlt (by omega) (by omega)) ?_
        refine ev_go 999 rfl ⟨vk, trivial⟩ ?_
        by_cases h2 : hi < c k
        · refine ev_pos (by show nI hi < C (nI k).toNatClampNeg; rw [ck, hC]; exact nI_lt h2 (by omega)) ?_
          rw [if_neg (fun y => by omega), Nat.add_zero] at kk
          refine ev_go 999 rfl trivial ?_
          exact kk
        · refine ev_neg (by show ¬ nI hi < C (nI k).toNatClampNeg; rw [ck, hC]; exact nI_nlt (by omega) (by omega)) ?_
          have e3 : T (nI k).toNatClampNeg - F (nI k).toNatClampNeg = nI (t k - f k) := by rw [ck, hT, hF, pk_sub (by omega)]
          rw [if_pos ⟨by omega, by omega⟩, ← nI_add, ← e3] at kk
          refine ev_go 999 rfl ⟨vk, vk, trivial⟩ ?_
          exact kk
  exact loop z 0 (by omega) (Nat.zero_le _)
theorem x4_classAt {m : Nat} (hR : RA z F T C f t c) (hr : Rp f t c z g) (hm : m < 2880) : am_D E (d + 1) tX4_classAt [.ref 0, .int (nI m)] (am_L (sf (nI z) F T C X)) 0 0 (some (.int (g m))) (am_L (sf (nI z) F T C X)) := by
  have hz := hR.1
  refine am_D_of (Nat.le_of_ble_eq_true rfl) ?_
  refine ev_go 2 rfl trivial ?_
  have loop : ∀ n k, z - k = n → k ≤ z → (∀ q, q < k → ¬ (f q ≤ m ∧ m < t q)) → am_ev E d tX4_classAt (2, [some (.ref 0), some (.int (nI m)), some (.int (nI k))], [], am_L (sf (nI z) F T C X), 0, 0) (fun v' M'' => v' = some (.int (g m)) ∧ M'' = am_L (sf (nI z) F T C X)) := by
    intro n
    induction n with
    | zero =>
      intro k e1 e2 hq
      have e : k = z := by omega
      subst e
      rw [hr.ou m hm hq]
      refine ev_go 999 rfl trivial ?_
      refine ev_pos (nI_le (Nat.le_refl _) (by omega)) ?_
      refine ev_go 999 rfl trivial ?_
      exact ev_ret rfl trivial ⟨rfl, rfl⟩
    | succ n ih =>
      intro k e1 e2 hq
      obtain ⟨hF, hT, hC⟩ := hR.2 k (by omega)
      have hl := hr.lt k (by omega)
      have vk : vp_in (nI k) 805 := vp_in_nI (by omega) (by omega)
      have ck : (nI k).toNatClampNeg = k := nI_clamp (by omega)
      have next : ¬ (f k ≤ m ∧ m < t k) → am_ev E d tX4_classAt (37, [some (.ref 0), some (.int (nI m)), some (.int (nI k))], [], am_L (sf (nI z) F T C X), 0, 0) (fun v' M'' => v' = some (.int (g m)) ∧ M'' = am_L (sf (nI z) F T C X)) := fun ne => by
        have kk := ih (k + 1) (by omega) (by omega) (fun q h => by
          rcases Nat.lt_or_ge q k with w | w
          · exact hq q w
          · rw [show q = k by omega]; exact ne)
        rw [← nI_1 k] at kk
        refine ev_go 999 rfl trivial ?_
        exact kk
      refine ev_go 999 rfl trivial ?_
      refine ev_neg (nI_ge (by omega) (by omega)) ?_
      refine ev_go 999 rfl ⟨vk, trivial⟩ ?_
      by_cases h1 : m < f k
      · refine ev_pos (by show nI m < F (nI k).toNatClampNeg; rw [ck, hF]; exact nI_lt h1 (by omega)) ?_
        exact next (fun y => by omega)
      · refine ev_neg (by show ¬ nI m < F (nI k).toNatClampNeg; rw [ck, hF]; exact nI_nlt (by omega) (by omega)) ?_
        refine ev_go 999 rfl ⟨vk, trivial⟩ ?_
        by_cases h2 : m < t k
        · refine ev_neg (by show ¬ T (nI k).toNatClampNeg ≤ nI m; rw [ck, hT]; exact nI_ge h2 (by omega)) ?_
          refine ev_go 999 rfl ⟨vk, trivial⟩ ?_
          refine ev_ret rfl trivial ⟨?_, rfl⟩
          show some (Value.int (C (nI k).toNatClampNeg)) = _
          rw [ck, hC, hr.ins k (by omega) m (by omega) h2]
        · refine ev_pos (by show T (nI k).toNatClampNeg ≤ nI m; rw [ck, hT]; exact nI_le (by omega) (by omega)) ?_
          exact next (fun y => by omega)
  exact loop z 0 (by omega) (Nat.zero_le _) (fun q h => absurd h (Nat.not_lt_zero q))
theorem x4_add {x y w : Int32} (hz : z < 805) : am_D E (d + 1) tX4_add [.ref 0, .int x, .int y, .int w] (am_L (sf (nI z) F T C X)) 0 0 none (am_L (sf (nI (z + 1)) (upd F z x) (upd T z y) (upd C z w) X)) := by
  have vk : vp_in (nI z) 805 := vp_in_nI (by omega) (by omega)
  have ck : (nI z).toNatClampNeg = z := nI_clamp (by omega)
  refine am_D_of (Nat.le_of_ble_eq_true rfl) ?_
  refine ev_go 999 rfl trivial ?_
  refine ev_neg (nI_ge (a := z) (b := 805) (by omega) (by omega)) ?_
  refine ev_go 20 rfl ⟨vk, trivial⟩ ?_
  refine ev_M (sf_F _) ?_
  refine ev_go 30 rfl ⟨vk, trivial⟩ ?_
  refine ev_M (sf_T _) ?_
  refine ev_go 40 rfl ⟨vk, trivial⟩ ?_
  refine ev_M (sf_C _) ?_
  refine ev_go 50 rfl trivial ?_
  refine ev_M (sf_z _) ?_
  refine ev_ret rfl trivial ⟨rfl, ?_⟩
  show am_L (sf (nI z + 1) (upd F (nI z).toNatClampNeg x) (upd T (nI z).toNatClampNeg y) (upd C (nI z).toNatClampNeg w) X) = _
  rw [ck, nI_1]
theorem x4_cut_go {m : Nat} {P : Option Value → am_M → Prop} (hR : RA z F T C f t c) (hr : Rp f t c z g) (hm : m < 100000) (kk : am_ev E d tX4_cutAt (26, [some (.ref 0), some (.int (nI m)), some (.int (nI (cp t z m)))], [], am_L (sf (nI z) F T C X), 0, 0) P) : am_ev E d tX4_cutAt (0, [some (.ref 0), some (.int (nI m)), none], [], am_L (sf (nI z) F T C X), 0, 0) P := by
  have hz := hR.1
  have hle : cp t z m ≤ z := fa_first_le _ _
  have loop : ∀ n k, cp t z m - k = n → k ≤ cp t z m → am_ev E d tX4_cutAt (2, [some (.ref 0), some (.int (nI m)), some (.int (nI k))], [], am_L (sf (nI z) F T C X), 0, 0) P := by
    intro n
    induction n with
    | zero =>
      intro k e1 e2
      have e : k = cp t z m := by omega
      rw [← e] at kk
      refine ev_go 999 rfl trivial ?_
      by_cases hk : k < z
      · have vk : vp_in (nI k) 805 := vp_in_nI (by omega) (by omega)
        have ck : (nI k).toNatClampNeg = k := nI_clamp (by omega)
        have hl := hr.lt k hk
        have h2 : m < t k := by have h := cp_lt (t := t) (z := z) (m := m) (by omega); rw [← e] at h; exact h
        refine ev_neg (nI_ge (by omega) (by omega)) ?_
        refine ev_go 999 rfl ⟨vk, trivial⟩ ?_
        refine ev_pos (by show nI m < T (nI k).toNatClampNeg; rw [ck, (hR.2 k hk).2.1]; exact nI_lt h2 (by omega)) ?_
        exact kk
      · refine ev_pos (nI_le (by omega) (by omega)) ?_
        exact kk
    | succ n ih =>
      intro k e1 e2
      have hk : k < z := by omega
      have k2 := ih (k + 1) (by omega) (by omega)
      have vk : vp_in (nI k) 805 := vp_in_nI (by omega) (by omega)
      have ck : (nI k).toNatClampNeg = k := nI_clamp (by omega)
      have hl := hr.lt k hk
      have h2 : ¬ m < t k := of_decide_eq_false (fa_first_no (fun k => decide (m < t k)) z k (by unfold cp at e1; omega))
      rw [← nI_1 k] at k2
      refine ev_go 999 rfl trivial ?_
      refine ev_neg (nI_ge (by omega) (by omega)) ?_
      refine ev_go 999 rfl ⟨vk, trivial⟩ ?_
      refine ev_neg (by show ¬ nI m < T (nI k).toNatClampNeg; rw [ck, (hR.2 k hk).2.1]; exact nI_nlt (by omega) (by omega)) ?_
      refine ev_go 999 rfl trivial ?_
      exact k2
  refine ev_go 2 rfl trivial ?_
  exact loop (cp t z m) 0 (by omega) (Nat.zero_le _)
theorem x4_cut_no {m : Nat} (hR : RA z F T C f t c) (hr : Rp f t c z g) (hm : m < 100000) (h : ¬ (cp t z m < z ∧ f (cp t z m) < m)) : am_D E (d + 1) tX4_cutAt [.ref 0, .int (nI m)] (am_L (sf (nI z) F T C X)) 0 0 none (am_L (sf (nI z) F T C X)) := by
  have hz := hR.1
  refine am_D_of (Nat.le_of_ble_eq_true rfl) ?_
  refine x4_cut_go hR hr hm ?_
  refine ev_go 999 rfl trivial ?_
  by_cases hk : cp t z m < z
  · have vk : vp_in (nI (cp t z m)) 805 := vp_in_nI (by omega) (by omega)
    have ck : (nI (cp t z m)).toNatClampNeg = cp t z m := nI_clamp (by omega)
    have hl := hr.lt _ hk
    refine ev_neg (nI_ge hk (by omega)) ?_
    refine ev_go 999 rfl ⟨vk, trivial⟩ ?_
    refine ev_pos (by show nI m ≤ F (nI (cp t z m)).toNatClampNeg; rw [ck, (hR.2 _ hk).1]; exact nI_le (by omega) (by omega)) ?_
    exact ev_ret rfl trivial ⟨rfl, rfl⟩
  · refine ev_pos (nI_le (by omega) (by have : cp t z m ≤ z := fa_first_le _ _; omega)) ?_
    exact ev_ret rfl trivial ⟨rfl, rfl⟩
theorem x4_cut_yes {p m : Nat} (hR : RA z F T C f t c) (hr : Rp f t c z g) (hm : m < 100000) (hp : p < z) (h1 : f p < m) (h2 : m < t p) (hz : z < 805) : ∃ F' T' C', RA (z + 1) F' T' C' (cutF f p m) (cutT t p m) (cutC c p) ∧ am_D E (d + 1) tX4_cutAt [.ref 0, .int (nI m)] (am_L (sf (nI z) F T C X)) 0 0 none (am_L (sf (nI (z + 1)) F' T' C' X)) := by
  have hcp : cp t z m = p := cp_is hr hp (by omega) h2
  have vk : vp_in (nI p) 805 := vp_in_nI (by omega) (by omega)
  have ck : (nI p).toNatClampNeg = p := nI_clamp (by omega)
  have vk1 : vp_in (nI p + 1) 805 := by rw [nI_1]; exact vp_in_nI (by omega) (by omega)
  have ck1 : (nI p + 1).toNatClampNeg = p + 1 := by rw [nI_1]; exact nI_clamp (by omega)
  have en : nI z - nI p = nI (z - p) := pk_sub (by omega)
  have cn : (nI z - nI p).toNatClampNeg = z - p := by rw [en]; exact nI_clamp (by omega)
  have s1 : ¬ nI p < 0 := nI_pos (by omega)
  have s2 : ¬ nI p + 1 < 0 := by rw [nI_1]; exact nI_pos (by omega)
  have s3 : ¬ nI z - nI p < 0 := by rw [en]; exact nI_pos (by omega)
  have s4 : (nI p).toNatClampNeg + (nI z - nI p).toNatClampNeg ≤ 805 := by rw [ck, cn]; omega
  have s5 : (nI p + 1).toNatClampNeg + (nI z - nI p).toNatClampNeg ≤ 805 := by rw [ck1, cn]; omega
  have hl := hr.lt p hp
  refine ⟨upd (va_cpy F F p (p + 1) (z - p)) (p + 1) (nI m), upd (va_cpy T T p (p + 1) (z - p)) p (nI m), va_cpy C C p (p + 1) (z - p), ⟨by omega, fun k hk => ?_⟩, ?_⟩
  · have cin : ∀ (A : Nat → Int32), p < k → va_cpy A A p (p + 1) (z - p) k = A (k - 1) := fun A w => by rw [pk_cpy_in (by omega) (by omega), show p + (k - (p + 1)) = k - 1 by omega]
    have cout : ∀ (A : Nat → Int32), k ≤ p → va_cpy A A p (p + 1) (z - p) k = A k := fun A w => pk_cpy_out (by omega)
    unfold upd cutF cutT cutC
    refine ⟨?_, ?_, ?_⟩
    · by_cases w : k = p + 1
      · rw [if_pos w, if_neg (by omega), if_pos w]
      · rw [if_neg w]
        rcases Nat.lt_or_ge p k with u | u
        · rw [cin F u, if_neg (by omega), if_neg w]; exact (hR.2 (k - 1) (by omega)).1
        · rw [cout F u, if_pos u]; exact (hR.2 k (by omega)).1
    · by_cases w : k = p
      · rw [if_pos w, if_neg (by omega), if_pos w]
      · rw [if_neg w]
        rcases Nat.lt_or_ge p k with u | u
        · rw [cin T u, if_neg (by omega), if_neg w]; exact (hR.2 (k - 1) (by omega)).2.1
        · rw [cout T u, if_pos (by omega)]; exact (hR.2 k (by omega)).2.1
    · rcases Nat.lt_or_ge p k with u | u
      · rw [cin C u, if_neg (by omega)]; exact (hR.2 (k - 1) (by omega)).2.2
      · rw [cout C u, if_pos u]; exact (hR.2 k (by omega)).2.2
  · refine am_D_of (Nat.le_of_ble_eq_true rfl) ?_
    refine x4_cut_go hR hr hm ?_
    rw [hcp]
    refine ev_go 999 rfl trivial ?_
    refine ev_neg (nI_ge hp (by omega)) ?_
    refine ev_go 999 rfl ⟨vk, trivial⟩ ?_
    refine ev_neg (by show ¬ nI m ≤ F (nI p).toNatClampNeg; rw [ck, (hR.2 p hp).1]; exact nI_ge h1 (by omega)) ?_
    refine ev_go 999 rfl trivial ?_
    refine ev_neg (nI_ge (a := z) (b := 805) hz (by omega)) ?_
    refine ev_go 75 rfl ⟨s1, s2, s3, s4, s5, Nat.le_of_ble_eq_true rfl, trivial⟩ ?_
    refine ev_M (sf_F _) ?_
    refine ev_go 96 rfl ⟨s1, s2, s3, s4, s5, Nat.le_of_ble_eq_true rfl, trivial⟩ ?_
    refine ev_M (sf_T _) ?_
    refine ev_go 117 rfl ⟨s1, s2, s3, s4, s5, Nat.le_of_ble_eq_true rfl, trivial⟩ ?_
    refine ev_M (sf_C _) ?_
    refine ev_go 124 rfl ⟨vk, trivial⟩ ?_
    refine ev_M (sf_T _) ?_
    refine ev_go 133 rfl ⟨vk1, trivial⟩ ?_
    refine ev_M (sf_F _) ?_
    refine ev_go 143 rfl trivial ?_
    refine ev_M (sf_z _) ?_
    refine ev_ret rfl trivial ⟨rfl, ?_⟩
    show am_L (sf (nI z + 1) (upd (va_cpy F F (nI p).toNatClampNeg (nI p + 1).toNatClampNeg (nI z - nI p).toNatClampNeg) (nI p + 1).toNatClampNeg (nI m)) (upd (va_cpy T T (nI p).toNatClampNeg (nI p + 1).toNatClampNeg (nI z - nI p).toNatClampNeg) (nI p).toNatClampNeg (nI m)) (va_cpy C C (nI p).toNatClampNeg (nI p + 1).toNatClampNeg (nI z - nI p).toNatClampNeg) X) = _
    rw [ck, ck1, cn, nI_1]
theorem x4_cutAt {m : Nat} (hR : RA z F T C f t c) (hr : Rp f t c z g) (hm : m < 100000) (hz : z < 805) : ∃ z' F' T' C' f' t' c', RA z' F' T' C' f' t' c' ∧ Rp f' t' c' z' g ∧ NS f' t' z' m ∧ (∀ q, NS f t z q → NS f' t' z' q) ∧ z' ≤ z + 1 ∧ z ≤ z' ∧ am_D E (d + 1) tX4_cutAt [.ref 0, .int (nI m)] (am_L (sf (nI z) F T C X)) 0 0 none (am_L (sf (nI z') F' T' C' X)) := by
  by_cases h : cp t z m < z ∧ f (cp t z m) < m
  · have h2 := cp_lt h.1
    obtain ⟨F', T', C', hA, hD⟩ := x4_cut_yes (E := E) (d := d) (X := X) hR hr hm h.1 h.2 h2 hz
    exact ⟨z + 1, F', T', C', _, _, _, hA, hr.cut h.1 h.2 h2, NS.at hr h.1 h.2 h2, fun q hq => hq.cut h.1 h.2 h2, Nat.le_refl _, by omega, hD⟩
  · exact ⟨z, F, T, C, f, t, c, hR, hr, cp_ns hr h, fun q hq => hq, by omega, Nat.le_refl _, x4_cut_no hR hr hm h⟩
end X4
