/-! The class's sheet: a day. -/
def XM (n : Int32) (mT mS mR rA rB : Nat → Int32) : List am_C := [.inr (1, [.ref 5, .ref 6, .ref 7, .int n]), .inl (0, 400, .inl mT), .inl (0, 400, .inl mS), .inl (0, 400, .inl mR), .inr (3, [.ref 9, .ref 10]), .inl (0, 5, .inl rA), .inl (0, 5, .inl rB)]
/-- the marks of the class -/
abbrev MA (n : Nat) (mT mS mR : Nat → Int32) (t s r : Nat → Nat) : Prop := (n ≤ 400) ∧ (∀ k, k < n → mT k = nI (t k)) ∧ (∀ k, k < n → mS k = nI (s k)) ∧ (∀ k, k < n → mR k = nI (r k)) ∧ (∀ k, k < n → s k ≤ 3) ∧ (∀ k, k < n → r k ≤ 4) ∧ (∀ k, k < n → t k < 1578240) ∧ (∀ q k, q < k → k < n → t q < t k)
theorem MA.n4 {n : Nat} {mT mS mR : Nat → Int32} {t s r : Nat → Nat} (h : MA n mT mS mR t s r) : n ≤ 400 := h.1
theorem MA.ht {n : Nat} {mT mS mR : Nat → Int32} {t s r : Nat → Nat} (h : MA n mT mS mR t s r) : ∀ k, k < n → mT k = nI (t k) := h.2.1
theorem MA.hs {n : Nat} {mT mS mR : Nat → Int32} {t s r : Nat → Nat} (h : MA n mT mS mR t s r) : ∀ k, k < n → mS k = nI (s k) := h.2.2.1
theorem MA.hr {n : Nat} {mT mS mR : Nat → Int32} {t s r : Nat → Nat} (h : MA n mT mS mR t s r) : ∀ k, k < n → mR k = nI (r k) := h.2.2.2.1
theorem MA.s3 {n : Nat} {mT mS mR : Nat → Int32} {t s r : Nat → Nat} (h : MA n mT mS mR t s r) : ∀ k, k < n → s k ≤ 3 := h.2.2.2.2.1
theorem MA.r4 {n : Nat} {mT mS mR : Nat → Int32} {t s r : Nat → Nat} (h : MA n mT mS mR t s r) : ∀ k, k < n → r k ≤ 4 := h.2.2.2.2.2.1
theorem MA.t2 {n : Nat} {mT mS mR : Nat → Int32} {t s r : Nat → Nat} (h : MA n mT mS mR t s r) : ∀ k, k < n → t k < 1578240 := h.2.2.2.2.2.2.1
theorem MA.inc {n : Nat} {mT mS mR : Nat → Int32} {t s r : Nat → Nat} (h : MA n mT mS mR t s r) : ∀ q k, q < k → k < n → t q < t k := h.2.2.2.2.2.2.2
theorem sK_zero {r : Nat → Nat} {c : Nat} : ∀ n q, sK r c n < q → q < c + n → r q = 0
  | 0, q, h1, h2 => by have : sK r c 0 = c := rfl; omega
  | n + 1, q, h1, h2 => by
    unfold sK at h1
    split at h1
    · rename_i hz
      rcases Nat.lt_or_ge q (c + n) with w | w
      · exact sK_zero n q h1 w
      · rw [show q = c + n by omega]; exact hz
    · omega
theorem Rp.add {f t c : Nat → Nat} {z x y w : Nat} {g : Nat → Int32} (h : Rp f t c z g) (hx : eE t z ≤ x) (hxy : x < y) (hy : y ≤ 2880) (hw : 1 ≤ w ∧ w ≤ 7) : Rp (upN f z x) (upN t z y) (upN c z w) (z + 1) (seg g x y (nI w)) := by
  refine ⟨fun k hk => ?_, fun k hk => ?_, fun k hk m h1 h2 => ?_, fun m hm hout => ?_, fun k hk => ?_⟩
  · by_cases e : k = z
    · rw [e, upN_s, upN_s]; exact ⟨hxy, hy⟩
    · rw [upN_n e, upN_n e]; exact h.lt k (by omega)
  · rw [upN_n (show k ≠ z by omega)]
    by_cases e : k + 1 = z
    · rw [e, upN_s]; exact Nat.le_trans (h.eT (Nat.le_refl z) (by omega)) hx
    · rw [upN_n e]; exact h.so k (by omega)
  · by_cases e : k = z
    · rw [e, upN_s] at h1 h2
      rw [e, upN_s]
      exact seg_in ⟨h1, h2⟩
    · rw [upN_n e] at h1 h2
      rw [upN_n e]
      have := h.eT (Nat.le_refl z) (show k < z by omega)
      rw [seg_out (fun y => by omega)]
      exact h.ins k (by omega) m h1 h2
  · have h1 := hout z (by omega)
    rw [upN_s, upN_s] at h1
    rw [seg_out h1]
    exact h.ou m hm (fun k hk y => hout k (by omega) (by rw [upN_n (by omega), upN_n (by omega)]; exact y))
  · by_cases e : k = z
    · rw [e, upN_s]; exact hw
    · rw [upN_n e]; exact h.cb k (by omega)
theorem RA.add {z x y w : Nat} {F T C : Nat → Int32} {f t c : Nat → Nat} (h : RA z F T C f t c) (hz : z < 805) : RA (z + 1) (upd F z (nI x)) (upd T z (nI y)) (upd C z (nI w)) (upN f z x) (upN t z y) (upN c z w) := by
  refine ⟨by omega, fun k hk => ?_⟩
  unfold upd upN
  by_cases e : k = z
  · rw [if_pos e, if_pos e, if_pos e, if_pos e, if_pos e, if_pos e]; exact ⟨rfl, rfl, rfl⟩
  · rw [if_neg e, if_neg e, if_neg e, if_neg e, if_neg e, if_neg e]; exact h.2 k (by omega)
/-- where the END of the shift from c to l is -/
def eI (s r : Nat → Nat) (c l : Nat) : Nat := if s (sK r c (l - c)) = 2 then sK r c (l - c) else l
section X4
variable {E : am_E} {d n : Nat} {Z : Int32} {F T C mT mS mR rA rB : Nat → Int32} {t s r : Nat → Nat}
theorem x1_endOf4 {c l : Nat} (hM : MA n mT mS mR t s r) (hD : shD t s r c l) (hl : l < n) : am_D E (d + 1) tX1_endOf [.ref 4, .int (nI c)] (am_L (sf Z F T C (XM (nI n) mT mS mR rA rB))) 0 0 (some (.int (nI (eI s r c l)))) (am_L (sf Z F T C (XM (nI n) mT mS mR rA rB))) := by
  have n4 := hM.n4
  have hcl := hD.cl
  have loop : ∀ m k, l - k = m → c < k → k ≤ l → am_ev E d tX1_endOf (6, [some (.ref 4), some (.int (nI c)), some (.int (nI (sK r c (k - c)))), some (.int (nI k))], [], am_L (sf Z F T C (XM (nI n) mT mS mR rA rB)), 0, 0) (fun v' M'' => v' = some (.int (nI (eI s r c l))) ∧ M'' = am_L (sf Z F T C (XM (nI n) mT mS mR rA rB))) := by
    intro m
    induction m with
    | zero =>
      intro k e1 e2 e3
      have e : k = l := by omega
      subst e
      have vk : vp_in (nI k) 400 := vp_in_nI (by omega) (by omega)
      have ck : (nI k).toNatClampNeg = k := nI_clamp (by omega)
      have hsk := sK_in r c (k - c)
      have hsk2 := hsk.2 (by omega)
      have vs : vp_in (nI (sK r c (k - c))) 400 := vp_in_nI (by omega) (by omega)
      have cs : (nI (sK r c (k - c))).toNatClampNeg = sK r c (k - c) := nI_clamp (by omega)
      refine ev_go 999 rfl trivial ?_
      refine ev_neg (nI_ge hl (by omega)) ?_
      refine ev_go 999 rfl ⟨vk, trivial⟩ ?_
      refine ev_neg (by show ¬ ¬ mR (nI k).toNatClampNeg = nI 3; rw [ck, hM.hr k hl, hD.rl]; exact fun y => y rfl) ?_
      refine ev_go 999 rfl ⟨vs, trivial⟩ ?_
      have h3 := hM.s3 (sK r c (k - c)) (by omega)
      unfold eI
      by_cases h2 : s (sK r c (k - c)) = 2
      · refine ev_neg (by show ¬ ¬ mS (nI (sK r c (k - c))).toNatClampNeg = nI 2; rw [cs, hM.hs _ (by omega), h2]; exact fun y => y rfl) ?_
        rw [if_pos h2]
        refine ev_go 999 rfl trivial ?_
        exact ev_ret rfl trivial ⟨rfl, rfl⟩
      · refine ev_pos (by show ¬ mS (nI (sK r c (k - c))).toNatClampNeg = nI 2; rw [cs, hM.hs _ (by omega), nI_eq (by omega) (by omega)]; exact h2) ?_
        rw [if_neg h2]
        refine ev_go 999 rfl trivial ?_
        exact ev_ret rfl trivial ⟨rfl, rfl⟩
    | succ m ih =>
      intro k e1 e2 e3
      have hkn : k < n := by omega
      have vk : vp_in (nI k) 400 := vp_in_nI (by omega) (by omega)
      have ck : (nI k).toNatClampNeg = k := nI_clamp (by omega)
      have kk := ih (k + 1) (by omega) (by omega) (by omega)
      have hk1 : sK r c (k + 1 - c) = if r k = 0 then sK r c (k - c) else k := by
        rw [show k + 1 - c = (k - c) + 1 by omega]
        show (if r (c + (k - c)) = 0 then sK r c (k - c) else c + (k - c)) = _
        rw [show c + (k - c) = k by omega]
      rw [hk1, ← nI_1 k] at kk
      refine ev_go 999 rfl trivial ?_
      refine ev_neg (nI_ge hkn (by omega)) ?_
      refine ev_go 999 rfl ⟨vk, trivial⟩ ?_
      rcases hD.mid k e2 (by omega) with h0 | h0
      · refine ev_pos (by show ¬ mR (nI k).toNatClampNeg = nI 3; rw [ck, hM.hr k hkn, h0]; decide) ?_
        rw [if_pos h0] at kk
        refine ev_go 999 rfl ⟨vk, trivial⟩ ?_
        refine ev_pos (by show ¬ mR (nI k).toNatClampNeg = nI 4; rw [ck, hM.hr k hkn, h0]; decide) ?_
        refine ev_go 999 rfl trivial ?_
        exact kk
      · refine ev_pos (by show ¬ mR (nI k).toNatClampNeg = nI 3; rw [ck, hM.hr k hkn, h0]; decide) ?_
        rw [if_neg (by omega)] at kk
        refine ev_go 999 rfl ⟨vk, trivial⟩ ?_
        refine ev_neg (by show ¬ ¬ mR (nI k).toNatClampNeg = nI 4; rw [ck, hM.hr k hkn, h0]; exact fun y => y rfl) ?_
        refine ev_go 999 rfl trivial ?_
        exact kk
  have k0 := loop (l - (c + 1)) (c + 1) rfl (by omega) (by omega)
  have h1 : sK r c (c + 1 - c) = c := by
    rw [show c + 1 - c = 0 + 1 by omega]
    show (if r (c + 0) = 0 then c else c + 0) = c
    split <;> rfl
  rw [h1, ← nI_1 c] at k0
  refine am_D_of (Nat.le_of_ble_eq_true rfl) ?_
  refine ev_go 6 rfl trivial ?_
  exact k0
theorem x4_layShift {z c l base : Nat} {f tt cc : Nat → Nat} {g : Nat → Int32} (hM : MA n mT mS mR t s r) (hD : shD t s r c l) (hl : l < n) (hb1 : base ≤ t c) (hb2 : t c < base + 1440) (hR : RA z F T C f tt cc) (hr : Rp f tt cc z g) (hez : eE tt z ≤ t c - base) (hz : z + (l - c) ≤ 805) :
    ∃ z' F' T' C' f' t' c', RA z' F' T' C' f' t' c' ∧ Rp f' t' c' z' (sG r (fun k => t k - base) c g (l - c + 1)) ∧ z' ≤ z + (l - c) ∧ z < z' ∧ f' z = t c - base ∧ t' (z' - 1) = eT t r c l - base ∧ am_D E (d + 2) tX4_layShift [.ref 0, .ref 4, .int (nI c), .int (nI base)] (am_L (sf (nI z) F T C (XM (nI n) mT mS mR rA rB))) 0 0 none (am_L (sf (nI z') F' T' C' (XM (nI n) mT mS mR rA rB))) := by
  have n4 := hM.n4
  have hcl := hD.cl
  have htl := hD.tl
  obtain ⟨τ, hτ⟩ : ∃ τ, τ = fun k => t k - base := ⟨_, rfl⟩
  have hτk : ∀ k, t k - base = τ k := fun k => by rw [hτ]
  rw [← hτ, hτk c]
  rw [hτk c] at hez
  have htk : ∀ k, c ≤ k → k ≤ l → base ≤ t k ∧ t k ≤ t c + 960 := fun k h1 h2 => by
    have z1 := inc_le hM.inc h1 (show k < n by omega)
    have z2 := inc_le hM.inc h2 (show l < n by omega)
    omega
  have hτb : ∀ k, c ≤ k → k ≤ l → τ k < 2400 := fun k h1 h2 => by
    have := htk k h1 h2
    rw [← hτk]
    omega
  have hτi : ∀ p q, c ≤ p → p < q → q ≤ l → τ p < τ q := fun p q h1 h2 h3 => by
    have a1 := hM.inc p q h2 (by omega)
    have a2 := htk p h1 (by omega)
    rw [← hτk, ← hτk]
    omega
  obtain ⟨e, he⟩ : ∃ e, e = eI s r c l := ⟨_, rfl⟩
  have hsl := sK_in r c (l - c)
  have hsl2 := hsl.2 (by omega)
  have hps := hD.ps (l - c) (by omega) (Nat.le_refl _)
  have hec : c < e ∧ e ≤ l ∧ (e = l ∧ sO r c (l - c) = true ∨ (e < l ∧ sO r c (l - c) = false ∧ e = sK r c (l - c))) := by
    by_cases h2 : s (sK r c (l - c)) = 2
    · have e1 : e = sK r c (l - c) := by rw [he]; unfold eI; rw [if_pos h2]
      have e2 := hps.mpr h2
      refine ⟨?_, by omega, Or.inr ⟨by omega, e2, e1⟩⟩
      rcases Nat.lt_or_ge c (sK r c (l - c)) with w | w
      · omega
      · have e3 : sK r c (l - c) = c := by omega
        have h4 := hD.ps 1 (by omega) (by omega)
        have h5 : sK r c 1 = c := by
          show (if r (c + 0) = 0 then c else c + 0) = c
          split <;> rfl
        have h6 : sO r c 1 = true := by
          show (if r (c + 0) = 0 then false else !false) = true
          rw [Nat.add_zero, hD.rc]
          rfl
        rw [h5, h6] at h4
        rw [e3] at h2
        have := h4.mpr h2
        cases this
    · have e1 : e = l := by rw [he]; unfold eI; rw [if_neg h2]
      have h3 : sO r c (l - c) = true := by
        cases h : sO r c (l - c) with
        | true => rfl
        | false => exact absurd (hps.mp h) h2
      exact ⟨by omega, by omega, Or.inl ⟨e1, h3⟩⟩
  obtain ⟨ec, el, eor⟩ := hec
  have hfin : sG r τ c g (e + 1 - c) = sG r τ c g (l - c + 1) ∧ τ (sK r c (e + 1 - c)) = eT t r c l - base := by
    rcases eor with ⟨e1, e2⟩ | ⟨e1, e2, e3⟩
    · rw [e1, show l + 1 - c = l - c + 1 by omega]
      refine ⟨rfl, ?_⟩
      unfold eT
      rw [if_pos e2, hτk]
      show τ (if r (c + (l - c)) = 0 then sK r c (l - c) else c + (l - c)) = τ l
      rw [show c + (l - c) = l by omega, hD.rl]
      rfl
    · have st : ∀ q, e + 1 ≤ q → q ≤ l → sG r τ c g (q - c) = sG r τ c g (e + 1 - c) ∧ sK r c (q - c) = e := by
        intro q
        induction q with
        | zero => intro h1; omega
        | succ q ihq =>
          intro h1 h2
          rcases Nat.lt_or_ge e q with w | w
          · obtain ⟨i1, i2⟩ := ihq (by omega) (by omega)
            have hq0 : r q = 0 := sK_zero (r := r) (c := c) (l - c) q (by omega) (by omega)
            rw [show q + 1 - c = (q - c) + 1 by omega]
            constructor
            · show (if r (c + (q - c)) = 0 then sG r τ c g (q - c) else _) = _
              rw [show c + (q - c) = q by omega, if_pos hq0]; exact i1
            · show (if r (c + (q - c)) = 0 then sK r c (q - c) else c + (q - c)) = _
              rw [show c + (q - c) = q by omega, if_pos hq0]; exact i2
          · have eq : q = e := by omega
            subst eq
            refine ⟨rfl, ?_⟩
            rw [show q + 1 - c = (q - c) + 1 by omega]
            show (if r (c + (q - c)) = 0 then sK r c (q - c) else c + (q - c)) = q
            rw [show c + (q - c) = q by omega]
            split
            · rename_i h0
              exfalso
              have h4 := hD.mid q ec (by omega)
              have h5 : sK r c (l - c) = q := e3.symm
              have key : ∀ m, q < c + m → m ≤ l - c → r q = 0 → sK r c m ≠ q := by
                intro m
                induction m with
                | zero => intro w1; omega
                | succ m ihm =>
                  intro w1 w2 w3 w4
                  unfold sK at w4
                  split at w4
                  · rename_i h8
                    rcases Nat.lt_or_ge q (c + m) with w5 | w5
                    · exact ihm w5 (by omega) w3 w4
                    · have := (sK_in r c m)
                      have h9 : 0 < m := by omega
                      have := this.2 h9
                      omega
                  · rename_i h8
                    rw [w4] at h8
                    exact h8 w3
              exact key (l - c) (by omega) (Nat.le_refl _) h0 h5
            · rfl
      have hl1 := st l (by omega) (Nat.le_refl _)
      constructor
      · rw [← hl1.1]
        show sG r τ c g (l - c) = (if r (c + (l - c)) = 0 then sG r τ c g (l - c) else if sO r c (l - c) = true then _ else if 0 < l - c ∧ r (c + (l - c)) ≠ 3 then _ else sG r τ c g (l - c))
        rw [show c + (l - c) = l by omega, hD.rl, if_neg (by decide), e2, if_neg (by decide), if_neg (fun y => y.2 rfl)]
      · rw [(st (e + 1) (Nat.le_refl _) (by omega)).2]
        unfold eT
        rw [e2, if_neg (by decide), ← e3, hτk]
  obtain ⟨P, hP⟩ : ∃ P : Option Value → am_M → Prop, P = fun v M => v = none ∧ ∃ z' F' T' C' f' t' c', RA z' F' T' C' f' t' c' ∧ Rp f' t' c' z' (sG r τ c g (l - c + 1)) ∧ z' ≤ z + (l - c) ∧ z < z' ∧ f' z = τ c ∧ t' (z' - 1) = eT t r c l - base ∧ M = am_L (sf (nI z') F' T' C' (XM (nI n) mT mS mR rA rB)) := ⟨_, rfl⟩
  have loop : ∀ m i, e + 1 - i = m → c < i → i ≤ e + 1 → ∀ z1 F1 T1 C1 f1 t1 c1 o8, RA z1 F1 T1 C1 f1 t1 c1 → Rp f1 t1 c1 z1 (sG r τ c g (i - c)) → eE t1 z1 ≤ τ (sK r c (i - c)) → z ≤ z1 → z1 ≤ z + (i - c - 1) → (z < z1 → f1 z = τ c ∧ t1 (z1 - 1) = τ (sK r c (i - c))) → (z1 = z → sK r c (i - c) = c) → am_ev E (d + 1) tX4_layShift (25, [some (.ref 0), some (.ref 4), some (.int (nI c)), some (.int (nI base)), some (.int (nI e)), some (.int (bI (!sO r c (i - c)))), some (.int (nI (τ (sK r c (i - c))))), some (.int (nI i)), o8], [], am_L (sf (nI z1) F1 T1 C1 (XM (nI n) mT mS mR rA rB)), 0, 0) P := by
    intro m
    induction m with
    | zero =>
      intro i q1 q2 q3 z1 F1 T1 C1 f1 t1 c1 o8 hA hQ hE hz1 hz2 hf hs
      have ei : i = e + 1 := by omega
      subst ei
      refine ev_go 999 rfl trivial ?_
      refine ev_pos (nI_lt (by omega) (by omega)) ?_
      refine ev_ret rfl trivial ?_
      rw [hP]
      have hzz : z < z1 := by
        rcases Nat.lt_or_ge z z1 with w | w
        · exact w
        · exfalso
          have h1 := hs (by omega)
          rcases eor with ⟨e1, e2⟩ | ⟨e1, e2, e3⟩
          · have h2 : sK r c (e + 1 - c) = l := by
              rw [e1, show l + 1 - c = (l - c) + 1 by omega]
              show (if r (c + (l - c)) = 0 then sK r c (l - c) else c + (l - c)) = l
              rw [show c + (l - c) = l by omega, hD.rl]
              rfl
            omega
          · have h2 := sK_zero (r := r) (c := c) (e + 1 - c) e (by omega) (by omega)
            have h5 : r (sK r c (l - c)) = 0 := by rw [← e3]; exact h2
            have h6 := hfin.2
            rw [h1] at h6
            unfold eT at h6
            rw [e2, if_neg (by decide), ← e3, hτk] at h6
            have := hτi c e (Nat.le_refl _) ec el
            omega
      obtain ⟨hf1, hf2⟩ := hf hzz
      refine ⟨rfl, z1, F1, T1, C1, f1, t1, c1, hA, by rw [← hfin.1]; exact hQ, by omega, hzz, hf1, by rw [hf2]; exact hfin.2, rfl⟩
    | succ m ih =>
      intro i q1 q2 q3 z1 F1 T1 C1 f1 t1 c1 o8 hA hQ hE hz1 hz2 hf hs
      have hie : i ≤ e := by omega
      have hin : i < n := by omega
      have vi : vp_in (nI i) 400 := vp_in_nI (by omega) (by omega)
      have ci : (nI i).toNatClampNeg = i := nI_clamp (by omega)
      have hsk := sK_in r c (i - c)
      have hsk2 := hsk.2 (by omega)
      have r4 := hM.r4 i hin
      have step : i + 1 - c = (i - c) + 1 := by omega
      have eK : sK r c (i + 1 - c) = if r i = 0 then sK r c (i - c) else i := by
        rw [step]
        show (if r (c + (i - c)) = 0 then sK r c (i - c) else c + (i - c)) = _
        rw [show c + (i - c) = i by omega]
      have eO : sO r c (i + 1 - c) = if r i = 0 then sO r c (i - c) else !sO r c (i - c) := by
        rw [step]
        show (if r (c + (i - c)) = 0 then sO r c (i - c) else !sO r c (i - c)) = _
        rw [show c + (i - c) = i by omega]
      have eG : sG r τ c g (i + 1 - c) = if r i = 0 then sG r τ c g (i - c) else if sO r c (i - c) = true then seg (sG r τ c g (i - c)) (τ (sK r c (i - c))) (τ i) (nI 7) else if 0 < i - c ∧ r i ≠ 3 then seg (sG r τ c g (i - c)) (τ (sK r c (i - c))) (τ i) (nI 1) else sG r τ c g (i - c) := by
        rw [step]
        show (if r (c + (i - c)) = 0 then _ else if sO r c (i - c) = true then seg _ _ (τ (c + (i - c))) _ else if 0 < i - c ∧ r (c + (i - c)) ≠ 3 then seg _ _ (τ (c + (i - c))) _ else _) = _
        rw [show c + (i - c) = i by omega]
      refine ev_go 999 rfl trivial ?_
      refine ev_neg (nI_nlt (by omega) (by omega)) ?_
      refine ev_go 999 rfl trivial ?_
      refine ev_neg (nI_ge hin (by omega)) ?_
      refine ev_go 999 rfl ⟨vi, trivial⟩ ?_
      by_cases h0 : r i = 0
      · refine ev_pos (by show mR (nI i).toNatClampNeg = 0; rw [ci, hM.hr i hin, h0]; rfl) ?_
        have kk := ih (i + 1) (by omega) (by omega) (by omega) z1 F1 T1 C1 f1 t1 c1 o8 hA (by rw [eG, if_pos h0]; exact hQ) (by rw [eK, if_pos h0]; exact hE) hz1 (by omega) (by rw [eK, if_pos h0]; exact hf) (by rw [eK, if_pos h0]; exact hs)
        rw [eO, eK, if_pos h0, if_pos h0, ← nI_1 i] at kk
        refine ev_go 999 rfl trivial ?_
        exact kk
      · refine ev_neg (by show ¬ mR (nI i).toNatClampNeg = 0; rw [ci, hM.hr i hin]; exact nI_ne0 (by omega) (by omega)) ?_
        have ht := htk i (by omega) (by omega)
        have eat : mT (nI i).toNatClampNeg - nI base = nI (τ i) := by rw [ci, hM.ht i hin, pk_sub ht.1, hτk]
        have hb := hτb i (by omega) (by omega)
        have hlt := hτi (sK r c (i - c)) i hsk.1 (by omega) (by omega)
        have v0 : vp_in (nI i) 400 := vi
        have cont : ∀ w, (w = if sO r c (i - c) = true then 7 else 1) → am_ev E (d + 1) tX4_layShift (78, [some (.ref 0), some (.ref 4), some (.int (nI c)), some (.int (nI base)), some (.int (nI e)), some (.int (bI (!sO r c (i - c)))), some (.int (nI (τ (sK r c (i - c))))), some (.int (nI i)), some (.int (nI (τ i)))], [.int (nI w), .int (nI (τ i)), .int (nI (τ (sK r c (i - c)))), .ref 0], am_L (sf (nI z1) F1 T1 C1 (XM (nI n) mT mS mR rA rB)), 0, 0) P := fun w hw => by
          have hz805 : z1 < 805 := by omega
          have eG2 : sG r τ c g (i + 1 - c) = seg (sG r τ c g (i - c)) (τ (sK r c (i - c))) (τ i) (nI w) := by
            rw [eG, if_neg h0, hw]
            cases hso : sO r c (i - c) with
            | true => rw [if_pos rfl, if_pos rfl]
            | false =>
              have n3 : r i ≠ 3 := fun h3 => by
                rcases eor with ⟨e1, e2⟩ | ⟨e1, e2, e3⟩
                · rcases Nat.lt_or_ge i l with u | u
                  · have := hD.mid i q2 u; omega
                  · rw [show l = i by omega, hso] at e2; cases e2
                · have := hD.mid i q2 (by omega); omega
              rw [if_neg (show ¬ false = true by decide), if_pos (show 0 < i - c ∧ r i ≠ 3 from ⟨by omega, n3⟩)]
              rfl
          have kk := ih (i + 1) (by omega) (by omega) (by omega) (z1 + 1) (upd F1 z1 (nI (τ (sK r c (i - c))))) (upd T1 z1 (nI (τ i))) (upd C1 z1 (nI w)) (upN f1 z1 (τ (sK r c (i - c)))) (upN t1 z1 (τ i)) (upN c1 z1 w) (some (.int (nI (τ i)))) (hA.add hz805) (by rw [eG2]; exact hQ.add hE hlt (by omega) (by rw [hw]; split <;> omega)) (by rw [eE_s, upN_s, eK, if_neg h0]; exact Nat.le_refl _) (by omega) (by omega) (fun _ => by
            rw [Nat.add_sub_cancel, upN_s, eK, if_neg h0]
            refine ⟨?_, rfl⟩
            by_cases u : z = z1
            · rw [u, upN_s, hs u.symm]
            · rw [upN_n u]; exact (hf (by omega)).1) (fun u => by omega)
          rw [eO, eK, if_neg h0, if_neg h0, ← nI_1 i] at kk
          refine ev_call0 rfl (Nat.le_of_ble_eq_true rfl) (fun _ => ⟨_, _, _, rfl, rfl⟩) (x4_add (z := z1) (x := nI (τ (sK r c (i - c)))) (y := nI (τ i)) (w := nI w) hz805) ?_
          cases hso : sO r c (i - c) with
          | true =>
            rw [hso] at kk
            refine ev_go 999 rfl trivial ?_
            refine ev_neg (by decide) ?_
            refine ev_go 999 rfl trivial ?_
            refine ev_go 999 rfl trivial ?_
            exact kk
          | false =>
            rw [hso] at kk
            refine ev_go 999 rfl trivial ?_
            refine ev_pos (by decide) ?_
            refine ev_go 999 rfl trivial ?_
            exact kk
        refine ev_go 62 rfl ⟨vi, trivial⟩ ?_
        show am_ev _ _ _ (62, [_, _, _, _, _, _, _, _, some (.int (mT (nI i).toNatClampNeg - nI base))], _, _, _, _) _
        rw [eat]
        refine ev_go 999 rfl trivial ?_
        cases hso : sO r c (i - c) with
        | true =>
          have k0 := cont 7 (by rw [hso]; rfl)
          rw [hso] at k0
          refine ev_pos (by decide) ?_
          refine ev_go 78 rfl trivial ?_
          exact k0
        | false =>
          have k0 := cont 1 (by rw [hso]; rfl)
          rw [hso] at k0
          refine ev_neg (by decide) ?_
          refine ev_go 999 rfl trivial ?_
          exact k0
  have main : am_ev E (d + 1) tX4_layShift (0, am_in [.ref 0, .ref 4, .int (nI c), .int (nI base)] tX4_layShift.2.2.2.1, [], am_L (sf (nI z) F T C (XM (nI n) mT mS mR rA rB)), 0, 0) P := by
    have hEnd := x1_endOf4 (E := E) (d := d) (Z := nI z) (F := F) (T := T) (C := C) (rA := rA) (rB := rB) hM hD hl
    rw [← he] at hEnd
    refine ev_go 999 rfl trivial ?_
    refine ev_call0 rfl (Nat.le_of_ble_eq_true rfl) (fun _ => ⟨_, _, _, rfl, rfl⟩) hEnd ?_
    have vc : vp_in (nI c) 400 := vp_in_nI (by omega) (by omega)
    have ec0 : mT (nI c).toNatClampNeg - nI base = nI (τ c) := by rw [nI_clamp (by omega), hM.ht c (by omega), pk_sub hb1, hτk]
    refine ev_go 25 rfl ⟨vc, trivial⟩ ?_
    show am_ev _ _ _ (25, [_, _, _, _, _, _, some (.int (mT (nI c).toNatClampNeg - nI base)), some (.int (nI c + 1)), _], _, _, _, _) _
    rw [ec0, nI_1]
    have h1K : sK r c (c + 1 - c) = c := by
      rw [show c + 1 - c = 0 + 1 by omega]
      show (if r (c + 0) = 0 then c else c + 0) = c
      split <;> rfl
    have h1O : sO r c (c + 1 - c) = true := by
      rw [show c + 1 - c = 0 + 1 by omega]
      show (if r (c + 0) = 0 then false else !false) = true
      rw [Nat.add_zero, hD.rc]
      rfl
    have h1G : sG r τ c g (c + 1 - c) = g := by
      rw [show c + 1 - c = 0 + 1 by omega]
      show (if r (c + 0) = 0 then g else if false = true then _ else if 0 < 0 ∧ r (c + 0) ≠ 3 then _ else g) = g
      rw [Nat.add_zero, hD.rc, if_neg (by decide), if_neg (by decide), if_neg (fun y => absurd y.1 (by decide))]
    have k0 := loop (e + 1 - (c + 1)) (c + 1) rfl (by omega) (by omega) z F T C f tt cc none hR (by rw [h1G]; exact hr) (by rw [h1K]; exact hez) (Nat.le_refl _) (by omega) (fun u => absurd u (Nat.lt_irrefl _)) (fun _ => h1K)
    rw [h1K, h1O] at k0
    exact k0
  obtain ⟨v, M', hv, hD2⟩ := am_D_ex (Nat.le_of_ble_eq_true rfl) main
  rw [hP] at hv
  obtain ⟨rfl, z', F', T', C', f', t', c', h1, h2, h3, h4, h5, h6, rfl⟩ := hv
  exact ⟨z', F', T', C', f', t', c', h1, h2, h3, h4, h5, h6, hD2⟩
end X4
