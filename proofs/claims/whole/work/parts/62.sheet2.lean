/-! The class's sheet: taking classes away. -/
def outF (g : Nat → Int32) (since lo hi : Nat) (x : Int32) : Nat → Int32 := fun m => if g m = nI 7 ∧ since ≤ m ∧ (m < lo ∨ hi ≤ m) then x else g m
def mixF (g h : Nat → Int32) (e : Nat) : Nat → Int32 := fun m => if m < e then h m else g m
section X4
variable {E : am_E} {d z : Nat} {F T C : Nat → Int32} {X : List am_C} {f t c : Nat → Nat} {g : Nat → Int32}
theorem RA.setC {k x : Nat} (hR : RA z F T C f t c) : RA z F T (upd C k (nI x)) f t (upN c k x) := by
  refine ⟨hR.1, fun q hq => ⟨(hR.2 q hq).1, (hR.2 q hq).2.1, ?_⟩⟩
  unfold upd upN
  split
  · rfl
  · exact (hR.2 q hq).2.2
theorem x4_takeOutside {lo hi since cc : Nat} (hR : RA z F T C f t c) (hr : Rp f t c z g) (hlo : lo < 100000) (hhi : hi < 100000) (hsi : since < 100000) (hns : NS f t z since) (hcc : 1 ≤ cc ∧ cc ≤ 7) (hz : z + 2 ≤ 805) : ∃ z' F' T' C' f' t' c', RA z' F' T' C' f' t' c' ∧ Rp f' t' c' z' (outF g since lo hi (nI cc)) ∧ z' ≤ z + 2 ∧ z ≤ z' ∧ am_D E (d + 2) tX4_takeOutside [.ref 0, .int (nI lo), .int (nI hi), .int (nI since), .int (nI cc)] (am_L (sf (nI z) F T C X)) 0 0 none (am_L (sf (nI z') F' T' C' X)) := by
  obtain ⟨z1, F1, T1, C1, f1, t1, c1, A1, R1, N1, K1, L1, M1, D1⟩ := x4_cutAt (E := E) (d := d) (X := X) hR hr hlo (by omega)
  obtain ⟨z2, F2, T2, C2, f2, t2, c2, A2, R2, N2, K2, L2, M2, D2⟩ := x4_cutAt (E := E) (d := d) (X := X) A1 R1 hhi (by omega)
  have Nlo := K2 lo N1
  have Nsi := K2 since (K1 since hns)
  have hz2 := A2.1
  obtain ⟨h, hh⟩ : ∃ h, h = outF g since lo hi (nI cc) := ⟨_, rfl⟩
  rw [← hh]
  obtain ⟨P, hP⟩ : ∃ P : Option Value → am_M → Prop, P = fun v M => v = none ∧ ∃ C' c', RA z2 F2 T2 C' f2 t2 c' ∧ Rp f2 t2 c' z2 h ∧ M = am_L (sf (nI z2) F2 T2 C' X) := ⟨_, rfl⟩
  have loop : ∀ n k, z2 - k = n → k ≤ z2 → ∀ C' c', RA z2 F2 T2 C' f2 t2 c' → Rp f2 t2 c' z2 (mixF g h (eE t2 k)) → am_ev E (d + 1) tX4_takeOutside (13, [some (.ref 0), some (.int (nI lo)), some (.int (nI hi)), some (.int (nI since)), some (.int (nI cc)), some (.int (nI k))], [], am_L (sf (nI z2) F2 T2 C' X), 0, 0) P := by
    intro n
    induction n with
    | zero =>
      intro k e1 e2 C' c' hA hQ
      have e : k = z2 := by omega
      rw [e] at hQ
      refine ev_go 999 rfl trivial ?_
      refine ev_pos (nI_le (by omega) (by omega)) ?_
      refine ev_ret rfl trivial ?_
      rw [hP]
      refine ⟨rfl, C', c', hA, hQ.cong (fun m hm => ?_), rfl⟩
      unfold mixF
      by_cases w : m < eE t2 z2
      · rw [if_pos w]
      · rw [if_neg w, hh]
        have h0 := hQ.beh (Nat.not_lt.mp w) hm
        unfold mixF at h0
        rw [if_neg w] at h0
        unfold outF
        rw [h0, if_neg (fun y => by have := y.1; revert this; decide)]
    | succ n ih =>
      intro k e1 e2 C' c' hA hQ
      have hk : k < z2 := by omega
      obtain ⟨hF, hT, hC⟩ := hA.2 k hk
      have hl := hQ.lt k hk
      have hb := hQ.cb k hk
      have he := hQ.eF hk
      have vk : vp_in (nI k) 805 := vp_in_nI (by omega) (by omega)
      have ck : (nI k).toNatClampNeg = k := nI_clamp (by omega)
      have g0 : ∀ m, eE t2 k ≤ m → m < f2 k → g m = 0 := fun m h1 h2 => by
        have h3 := hQ.gap hk h1 h2
        unfold mixF at h3
        rw [if_neg (by omega)] at h3
        exact h3
      have g1 : ∀ m, f2 k ≤ m → m < t2 k → g m = nI (c' k) := fun m h1 h2 => by
        have h3 := hQ.ins k hk m h1 h2
        unfold mixF at h3
        rw [if_neg (by omega)] at h3
        exact h3
      have hgap : ∀ m, eE t2 k ≤ m → m < f2 k → h m = 0 := fun m h1 h2 => by
        rw [hh]
        unfold outF
        rw [g0 m h1 h2, if_neg (fun y => by have := y.1; revert this; decide)]
      have same : (∀ m, f2 k ≤ m → m < t2 k → h m = g m) → am_ev E (d + 1) tX4_takeOutside (76, [some (.ref 0), some (.int (nI lo)), some (.int (nI hi)), some (.int (nI since)), some (.int (nI cc)), some (.int (nI k))], [], am_L (sf (nI z2) F2 T2 C' X), 0, 0) P := fun hs => by
        have kk := ih (k + 1) (by omega) (by omega) C' c' hA (hQ.cong (fun m hm => by
          unfold mixF
          rw [eE_s]
          by_cases w : m < t2 k
          · rw [if_pos w]
            by_cases u : m < eE t2 k
            · rw [if_pos u]
            · rw [if_neg u]
              by_cases v : m < f2 k
              · rw [hgap m (by omega) v, g0 m (by omega) v]
              · exact hs m (by omega) w
          · rw [if_neg w, if_neg (by omega)]))
        rw [← nI_1 k] at kk
        refine ev_go 999 rfl trivial ?_
        exact kk
      refine ev_go 999 rfl trivial ?_
      refine ev_neg (nI_ge hk (by omega)) ?_
      refine ev_go 999 rfl ⟨vk, trivial⟩ ?_
      by_cases h7 : c' k = 7
      · refine ev_neg (by show ¬ ¬ C' (nI k).toNatClampNeg = nI 7; rw [ck, hC, h7]; exact fun y => y rfl) ?_
        refine ev_go 999 rfl ⟨vk, trivial⟩ ?_
        by_cases hs : f2 k < since
        · refine ev_pos (by show F2 (nI k).toNatClampNeg < nI since; rw [ck, hF]; exact nI_lt hs (by omega)) ?_
          refine same (fun m h1 h2 => ?_)
          have := Nsi k hk
          rw [hh]
          unfold outF
          rw [if_neg (fun y => by omega)]
        · refine ev_neg (by show ¬ F2 (nI k).toNatClampNeg < nI since; rw [ck, hF]; exact nI_nlt (by omega) (by omega)) ?_
          have put : (f2 k < lo ∨ hi ≤ f2 k) → am_ev E (d + 1) tX4_takeOutside (67, [some (.ref 0), some (.int (nI lo)), some (.int (nI hi)), some (.int (nI since)), some (.int (nI cc)), some (.int (nI k))], [], am_L (sf (nI z2) F2 T2 C' X), 0, 0) P := fun hor => by
            have hlo2 := Nlo k hk
            have kk := ih (k + 1) (by omega) (by omega) (upd C' k (nI cc)) (upN c' k cc) hA.setC (hQ.set hk hcc (fun m h1 h2 => by
              unfold mixF
              rw [eE_s, if_pos h2, hh]
              unfold outF
              rw [if_pos ⟨by rw [g1 m h1 h2, h7], by omega, by omega⟩]) (fun m hm hno => by
              unfold mixF
              rw [eE_s]
              by_cases w : m < t2 k
              · rw [if_pos w]
                by_cases u : m < eE t2 k
                · rw [if_pos u]
                · rw [if_neg u, hgap m (by omega) (by omega), g0 m (by omega) (by omega)]
              · rw [if_neg w, if_neg (by omega)]))
            rw [← nI_1 k] at kk
            refine ev_go 76 rfl ⟨vk, trivial⟩ ?_
            refine ev_M (sf_C _) ?_
            refine ev_M (show _ = am_L (sf (nI z2) F2 T2 (upd C' k (nI cc)) X) by rw [ck]) ?_
            refine ev_go 999 rfl trivial ?_
            exact kk
          refine ev_go 999 rfl ⟨vk, trivial⟩ ?_
          by_cases w1 : f2 k < lo
          · refine ev_pos (by show F2 (nI k).toNatClampNeg < nI lo; rw [ck, hF]; exact nI_lt w1 (by omega)) ?_
            exact put (Or.inl w1)
          · refine ev_neg (by show ¬ F2 (nI k).toNatClampNeg < nI lo; rw [ck, hF]; exact nI_nlt (by omega) (by omega)) ?_
            refine ev_go 999 rfl ⟨vk, trivial⟩ ?_
            by_cases w2 : f2 k < hi
            · refine ev_pos (by show F2 (nI k).toNatClampNeg < nI hi; rw [ck, hF]; exact nI_lt w2 (by omega)) ?_
              refine same (fun m h1 h2 => ?_)
              have := N2 k hk
              rw [hh]
              unfold outF
              rw [if_neg (fun y => by omega)]
            · refine ev_neg (by show ¬ F2 (nI k).toNatClampNeg < nI hi; rw [ck, hF]; exact nI_nlt (by omega) (by omega)) ?_
              exact put (Or.inr (by omega))
      · refine ev_pos (by show ¬ C' (nI k).toNatClampNeg = nI 7; rw [ck, hC, nI_eq (by omega) (by omega)]; exact h7) ?_
        refine same (fun m h1 h2 => ?_)
        rw [hh]
        unfold outF
        rw [if_neg (fun y => by have := y.1; rw [g1 m h1 h2, nI_eq (by omega) (by omega)] at this; exact h7 this)]
  have main : am_ev E (d + 1) tX4_takeOutside (0, am_in [.ref 0, .int (nI lo), .int (nI hi), .int (nI since), .int (nI cc)] tX4_takeOutside.2.2.2.1, [], am_L (sf (nI z) F T C X), 0, 0) P := by
    refine ev_go 999 rfl trivial ?_
    refine ev_call0 rfl (Nat.le_of_ble_eq_true rfl) (fun _ => ⟨_, _, _, rfl, rfl⟩) D1 ?_
    refine ev_go 999 rfl trivial ?_
    refine ev_call0 rfl (Nat.le_of_ble_eq_true rfl) (fun _ => ⟨_, _, _, rfl, rfl⟩) D2 ?_
    refine ev_go 13 rfl trivial ?_
    refine loop z2 0 (by omega) (Nat.zero_le _) C2 c2 A2 (R2.cong (fun m _ => ?_))
    exact if_neg (Nat.not_lt_zero m)
  obtain ⟨v, M', hv, hD2⟩ := am_D_ex (Nat.le_of_ble_eq_true rfl) main
  rw [hP] at hv
  obtain ⟨rfl, C', c', h1, h2, rfl⟩ := hv
  exact ⟨z2, F2, T2, C', f2, t2, c', h1, h2, by omega, by omega, hD2⟩
theorem cnt_run {g : Nat → Int32} {x : Int32} {lo hi : Nat} {B : Bool} (h : lo ≤ hi) (hp : ∀ m, lo ≤ m → m < hi → decide (g m = x) = B) : cntC g x hi = cntC g x lo + (if B = true then hi - lo else 0) := ct_run2 h hp
theorem x4_turnBehind {v : Int32} {r cc : Nat} (hR : RA z F T C f t c) (hr : Rp f t c z g) (hv : (if (0 : Int32) < v then v else 0) = nI r) (hrb : r < 100000) (hcc : 1 ≤ cc ∧ cc ≤ 7) (hz : z < 805) : ∃ z' F' T' C' f' t' c', RA z' F' T' C' f' t' c' ∧ Rp f' t' c' z' (bhC g r (nI cc)) ∧ z' ≤ z + 1 ∧ z ≤ z' ∧ am_D E (d + 2) tX4_turnBehind [.ref 0, .int v, .int (nI cc)] (am_L (sf (nI z) F T C X)) 0 0 none (am_L (sf (nI z') F' T' C' X)) := by
  obtain ⟨P, hP⟩ : ∃ P : Option Value → am_M → Prop, P = fun v M => v = none ∧ ∃ z' F' T' C' f' t' c', RA z' F' T' C' f' t' c' ∧ Rp f' t' c' z' (bhC g r (nI cc)) ∧ z' ≤ z + 1 ∧ z ≤ z' ∧ M = am_L (sf (nI z') F' T' C' X) := ⟨_, rfl⟩
  obtain ⟨cn, hcn⟩ : ∃ cn : Nat → Nat, cn = fun e => cntC g (nI 7) e := ⟨_, rfl⟩
  have loop : ∀ n z1 F1 T1 C1 f1 t1 c1 k L, (z1 - k) + (if L = 0 then 0 else 1) ≤ n → k ≤ z1 → RA z1 F1 T1 C1 f1 t1 c1 → Rp f1 t1 c1 z1 (mixF g (bhC g r (nI cc)) (eE t1 k)) → L = r - cn (eE t1 k) → (z1 = z ∨ (z1 = z + 1 ∧ L = 0)) → am_ev E (d + 1) tX4_turnBehind (9, [some (.ref 0), some (.int v), some (.int (nI cc)), some (.int (nI L)), some (.int (nI k))], [], am_L (sf (nI z1) F1 T1 C1 X), 0, 0) P := by
    intro n
    induction n with
    | zero =>
      intro z1 F1 T1 C1 f1 t1 c1 k L e1 e2 hA hQ hL hz1
      have e : k = z1 := by omega
      have hz3 := hA.1
      rw [e] at hQ
      refine ev_go 999 rfl trivial ?_
      refine ev_pos (nI_le (by omega) (by omega)) ?_
      refine ev_ret rfl trivial ?_
      rw [hP]
      refine ⟨rfl, z1, F1, T1, C1, f1, t1, c1, hA, hQ.cong (fun m hm => ?_), by omega, by omega, rfl⟩
      unfold mixF
      by_cases w : m < eE t1 z1
      · rw [if_pos w]
      · rw [if_neg w]
        have h0 := hQ.beh (Nat.not_lt.mp w) hm
        unfold mixF at h0
        rw [if_neg w] at h0
        unfold bhC
        rw [h0, if_neg (fun y => by have := y.1; revert this; decide)]
    | succ n ih =>
      intro z1 F1 T1 C1 f1 t1 c1 k L e1 e2 hA hQ hL hz1
      have hz3 := hA.1
      by_cases hk : k < z1
      · obtain ⟨hF, hT, hC⟩ := hA.2 k hk
        have hl := hQ.lt k hk
        have hb := hQ.cb k hk
        have he := hQ.eF hk
        have vk : vp_in (nI k) 805 := vp_in_nI (by omega) (by omega)
        have ck : (nI k).toNatClampNeg = k := nI_clamp (by omega)
        obtain ⟨e, hee⟩ : ∃ e, e = eE t1 k := ⟨_, rfl⟩
        rw [← hee] at he hQ hL
        have g0 : ∀ m, e ≤ m → m < f1 k → g m = 0 := fun m h1 h2 => by
          have h3 := hQ.gap hk (by rw [← hee]; exact h1) h2
          unfold mixF at h3
          rw [if_neg (by omega)] at h3
          exact h3
        have g1 : ∀ m, f1 k ≤ m → m < t1 k → g m = nI (c1 k) := fun m h1 h2 => by
          have h3 := hQ.ins k hk m h1 h2
          unfold mixF at h3
          rw [if_neg (by omega)] at h3
          exact h3
        have b0 : ∀ m, e ≤ m → m < f1 k → bhC g r (nI cc) m = 0 := fun m h1 h2 => by
          unfold bhC
          rw [g0 m h1 h2, if_neg (fun y => by have := y.1; revert this; decide)]
        have cf : cn (f1 k) = cn e := by
          rw [hcn]
          show cntC g (nI 7) (f1 k) = cntC g (nI 7) e
          rw [cnt_run (B := false) he (fun m h1 h2 => decide_eq_false (by rw [g0 m h1 h2]; decide))]
          rfl
        have ci : ∀ q, f1 k ≤ q → q ≤ t1 k → cn q = cn e + (if c1 k = 7 then q - f1 k else 0) := fun q h1 h2 => by
          rw [← cf, hcn]
          show cntC g (nI 7) q = cntC g (nI 7) (f1 k) + _
          rw [cnt_run (B := decide (c1 k = 7)) h1 (fun m h3 h4 => by
            rw [g1 m h3 (by omega)]
            exact decide_eq_decide.mpr (nI_eq (by omega) (by omega)))]
          by_cases w : c1 k = 7
          · rw [decide_eq_true w, if_pos rfl, if_pos w]
          · rw [decide_eq_false w, if_neg (by decide), if_neg w]
        /- on to the end q of a span whose minutes stay as they are -/
        have stay : ∀ q, f1 k ≤ q → q ≤ t1 k → (∀ m, f1 k ≤ m → m < q → bhC g r (nI cc) m = g m) → ∀ m, mixF g (bhC g r (nI cc)) q m = mixF g (bhC g r (nI cc)) e m := fun q h1 h2 hs m => by
          unfold mixF
          by_cases w : m < q
          · rw [if_pos w]
            by_cases u : m < e
            · rw [if_pos u]
            · rw [if_neg u]
              by_cases v : m < f1 k
              · rw [b0 m (by omega) v, g0 m (by omega) v]
              · exact hs m (by omega) w
          · rw [if_neg w, if_neg (by omega)]
        refine ev_go 999 rfl trivial ?_
        refine ev_neg (nI_ge hk (by omega)) ?_
        refine ev_go 999 rfl ⟨vk, trivial⟩ ?_
        by_cases h7 : c1 k = 7
        · have ci7 : ∀ q, f1 k ≤ q → q ≤ t1 k → cn q = cn e + (q - f1 k) := fun q h1 h2 => by rw [ci q h1 h2, if_pos h7]
          refine ev_neg (by show ¬ ¬ C1 (nI k).toNatClampNeg = nI 7; rw [ck, hC, h7]; exact fun y => y rfl) ?_
          refine ev_go 999 rfl trivial ?_
          by_cases hL0 : L = 0
          · refine ev_neg (by show ¬ ¬ nI L = 0; rw [hL0]; exact fun y => y rfl) ?_
            have hre : r ≤ cn e := by omega
            have kk := ih z1 F1 T1 (upd C1 k (nI cc)) f1 t1 (upN c1 k cc) (k + 1) L (by omega) (by omega) hA.setC (hQ.set hk hcc (fun m h1 h2 => by
              unfold mixF
              rw [eE_s, if_pos h2]
              unfold bhC
              have := ci7 m h1 (by omega)
              rw [hcn] at this hre
              have this : cntC g (nI 7) m = cntC g (nI 7) e + (m - f1 k) := this
              have hre : r ≤ cntC g (nI 7) e := hre
              rw [if_pos ⟨by rw [g1 m h1 h2, h7], by omega⟩]) (fun m hm hno => by
              unfold mixF
              rw [eE_s]
              by_cases w : m < t1 k
              · rw [if_pos w]
                by_cases u : m < e
                · rw [if_pos u]
                · rw [if_neg u, b0 m (by omega) (by omega), g0 m (by omega) (by omega)]
              · rw [if_neg w, if_neg (by omega)])) (by rw [eE_s, ci7 (t1 k) (by omega) (Nat.le_refl _)]; omega) hz1
            rw [← nI_1 k] at kk
            refine ev_go 42 rfl ⟨vk, trivial⟩ ?_
            refine ev_M (sf_C _) ?_
            refine ev_M (show _ = am_L (sf (nI z1) F1 T1 (upd C1 k (nI cc)) X) by rw [ck]) ?_
            refine ev_go 999 rfl trivial ?_
            refine ev_go 999 rfl trivial ?_
            exact kk
          · refine ev_pos (nI_ne0 (by omega) (by omega)) ?_
            have hz0 : z1 = z := by omega
            have hlt : cn e < r := by omega
            have low : ∀ m, f1 k ≤ m → m < t1 k → m - f1 k < L → bhC g r (nI cc) m = g m := fun m h1 h2 h3 => by
              have h4 := ci7 m h1 (by omega)
              unfold bhC
              rw [hcn] at h4 hlt hL
              have h4 : cntC g (nI 7) m = cntC g (nI 7) e + (m - f1 k) := h4
              have hL : L = r - cntC g (nI 7) e := hL
              rw [if_neg (fun y => by omega)]
            have e3 : T1 (nI k).toNatClampNeg - F1 (nI k).toNatClampNeg = nI (t1 k - f1 k) := by rw [ck, hT, hF, pk_sub (by omega)]
            have hLb : L ≤ r := by omega
            refine ev_go 999 rfl ⟨vk, vk, trivial⟩ ?_
            by_cases hlen : t1 k - f1 k ≤ L
            · refine ev_pos (by show T1 (nI k).toNatClampNeg - F1 (nI k).toNatClampNeg ≤ nI L; rw [e3]; exact nI_le hlen (by omega)) ?_
              have kk := ih z1 F1 T1 C1 f1 t1 c1 (k + 1) (L - (t1 k - f1 k)) (by
                rw [if_neg hL0] at e1
                have w1 : (if L - (t1 k - f1 k) = 0 then 0 else 1) ≤ 1 := by split <;> omega
                omega) (by omega) hA (by
                rw [eE_s]
                exact hQ.cong (fun m _ => stay (t1 k) (by omega) (Nat.le_refl _) (fun m h1 h2 => low m h1 h2 (by omega)) m)) (by rw [eE_s, ci7 (t1 k) (by omega) (Nat.le_refl _)]; omega) (Or.inl hz0)
              have e4 : nI (L - (t1 k - f1 k)) = nI L - (T1 (nI k).toNatClampNeg - F1 (nI k).toNatClampNeg) := by rw [e3, pk_sub hlen]
              rw [e4, ← nI_1 k] at kk
              refine ev_go 999 rfl ⟨vk, vk, trivial⟩ ?_
              exact kk
            · refine ev_neg (by show ¬ T1 (nI k).toNatClampNeg - F1 (nI k).toNatClampNeg ≤ nI L; rw [e3]; exact nI_ge (by omega) (by omega)) ?_
              obtain ⟨F', T', C', hA', hD⟩ := x4_cut_yes (E := E) (d := d) (X := X) (p := k) (m := f1 k + L) hA hQ (by omega) hk (by omega) (by omega) (by omega)
              have hcut := hQ.cut (p := k) (m := f1 k + L) hk (by omega) (by omega)
              have eT : eE (cutT t1 k (f1 k + L)) (k + 1) = f1 k + L := by rw [eE_s]; unfold cutT; rw [if_neg (by omega), if_pos rfl]
              have kk := ih (z1 + 1) F' T' C' (cutF f1 k (f1 k + L)) (cutT t1 k (f1 k + L)) (cutC c1 k) (k + 1) 0 (by rw [if_neg hL0] at e1; rw [if_pos rfl]; omega) (by omega) hA' (by
                rw [eT]
                exact hcut.cong (fun m _ => stay (f1 k + L) (by omega) (by omega) (fun m h1 h2 => low m h1 (by omega) (by omega)) m)) (by rw [eT, ci7 (f1 k + L) (by omega) (by omega)]; omega) (Or.inr ⟨by omega, rfl⟩)
              have e5 : F1 (nI k).toNatClampNeg + nI L = nI (f1 k + L) := by rw [ck, hF, nI_add]
              rw [← e5] at hD
              rw [← nI_1 k] at kk
              refine ev_go 999 rfl ⟨vk, trivial⟩ ?_
              refine ev_call0 rfl (Nat.le_of_ble_eq_true rfl) (fun _ => ⟨_, _, _, rfl, rfl⟩) hD ?_
              refine ev_go 999 rfl trivial ?_
              refine ev_go 999 rfl trivial ?_
              exact kk
        · refine ev_pos (by show ¬ C1 (nI k).toNatClampNeg = nI 7; rw [ck, hC, nI_eq (by omega) (by omega)]; exact h7) ?_
          have kk := ih z1 F1 T1 C1 f1 t1 c1 (k + 1) L (by omega) (by omega) hA (by
            rw [eE_s]
            exact hQ.cong (fun m _ => stay (t1 k) (by omega) (Nat.le_refl _) (fun m h1 h2 => by
              unfold bhC
              rw [if_neg (fun y => by have := y.1; rw [g1 m h1 h2, nI_eq (by omega) (by omega)] at this; exact h7 this)]) m)) (by rw [eE_s, ci (t1 k) (by omega) (Nat.le_refl _), if_neg h7]; omega) hz1
          rw [← nI_1 k] at kk
          refine ev_go 999 rfl trivial ?_
          exact kk
      · have e : k = z1 := by omega
        rw [e] at hQ
        refine ev_go 999 rfl trivial ?_
        refine ev_pos (nI_le (by omega) (by omega)) ?_
        refine ev_ret rfl trivial ?_
        rw [hP]
        refine ⟨rfl, z1, F1, T1, C1, f1, t1, c1, hA, hQ.cong (fun m hm => ?_), by omega, by omega, rfl⟩
        unfold mixF
        by_cases w : m < eE t1 z1
        · rw [if_pos w]
        · rw [if_neg w]
          have h0 := hQ.beh (Nat.not_lt.mp w) hm
          unfold mixF at h0
          rw [if_neg w] at h0
          unfold bhC
          rw [h0, if_neg (fun y => by have := y.1; revert this; decide)]
  have main : am_ev E (d + 1) tX4_turnBehind (0, am_in [.ref 0, .int v, .int (nI cc)] tX4_turnBehind.2.2.2.1, [], am_L (sf (nI z) F T C X), 0, 0) P := by
    refine ev_go 9 rfl ⟨Nat.le_of_ble_eq_true rfl, trivial⟩ ?_
    show am_ev _ _ _ (9, [_, _, _, some (.int (if (0 : Int32) < v then v else 0)), _], _, _, _, _) _
    rw [hv]
    refine loop ((z - 0) + (if r = 0 then 0 else 1)) z F T C f t c 0 r (Nat.le_refl _) (Nat.zero_le _) hR (hr.cong (fun m _ => ?_)) (by rw [hcn]; rfl) (Or.inl rfl)
    exact if_neg (Nat.not_lt_zero m)
  obtain ⟨v', M', hv', hD2⟩ := am_D_ex (Nat.le_of_ble_eq_true rfl) main
  rw [hP] at hv'
  obtain ⟨rfl, z', F', T', C', f', t', c', h1, h2, h3, h4, rfl⟩ := hv'
  exact ⟨z', F', T', C', f', t', c', h1, h2, h3, h4, hD2⟩
theorem x4_round1 {k A : Nat} (hr : Rp f t c z g) (hk : k < z) (a1 : A = 1) : Rp f t c z (outF g (f k) ((f k + A - 1) / A * A) (t (z - 1) / A * A) (nI 2)) := by
  have hl := hr.lt k hk
  refine hr.cong (fun m hm => ?_)
  unfold outF
  rw [a1, Nat.div_one, Nat.div_one, Nat.mul_one, Nat.mul_one]
  by_cases w : eE t z ≤ m
  · rw [hr.beh w hm, if_neg (fun y => by have := y.1; revert this; decide)]
  · rw [if_neg (fun y => by
      have e : eE t z = t (z - 1) := if_neg (by omega)
      omega)]
theorem x4_round {k A : Nat} (hR : RA z F T C f t c) (hr : Rp f t c z g) (hk : k < z) (hA1 : 2 ≤ A) (hA : A ≤ 30) (hz : z + 2 ≤ 805) : ∃ z' F' T' C' f' t' c', RA z' F' T' C' f' t' c' ∧ Rp f' t' c' z' (outF g (f k) ((f k + A - 1) / A * A) (t (z - 1) / A * A) (nI 2)) ∧ z' ≤ z + 2 ∧ z ≤ z' ∧ am_D E (d + 2) tX4_takeOutside [.ref 0, .int ((F (nI k).toNatClampNeg + nI A - 1) / nI A * nI A), .int (T (nI z - 1).toNatClampNeg / nI A * nI A), .int (F (nI k).toNatClampNeg), .int (nI 2)] (am_L (sf (nI z) F T C X)) 0 0 none (am_L (sf (nI z') F' T' C' X)) := by
  have hl := hr.lt k hk
  have hlz := hr.lt (z - 1) (by omega)
  have ck : (nI k).toNatClampNeg = k := nI_clamp (by omega)
  have ez : nI z - 1 = nI (z - 1) := by
    obtain ⟨q, rfl⟩ : ∃ q, z = q + 1 := ⟨z - 1, by omega⟩
    rw [nI_pred, Nat.add_sub_cancel]
  have cz : (nI z - 1).toNatClampNeg = z - 1 := by rw [ez]; exact nI_clamp (by omega)
  obtain ⟨lo, hlo⟩ : ∃ lo, lo = (f k + A - 1) / A * A := ⟨_, rfl⟩
  obtain ⟨hi, hhi⟩ : ∃ hi, hi = t (z - 1) / A * A := ⟨_, rfl⟩
  have blo : lo ≤ f k + A - 1 := by rw [hlo]; exact Nat.div_mul_le_self _ _
  have bhi : hi ≤ t (z - 1) := by rw [hhi]; exact Nat.div_mul_le_self _ _
  have hns : NS f t z (f k) := fun q hq y => by
    rcases Nat.lt_or_ge q k with w | w
    · have := hr.le k q w hk; omega
    · rcases Nat.lt_or_ge k q with u | u
      · have := hr.le q k u hq; omega
      · rw [show q = k by omega] at y; omega
  rw [← hlo, ← hhi]
  obtain ⟨z', F', T', C', f', t', c', r1, r2, r3, r4, r5⟩ := x4_takeOutside (E := E) (d := d) (X := X) (lo := lo) (hi := hi) (since := f k) (cc := 2) hR hr (by omega) (by omega) (by omega) hns (by omega) hz
  refine ⟨z', F', T', C', f', t', c', r1, r2, r3, r4, ?_⟩
  have e1 : (F (nI k).toNatClampNeg + nI A - 1) / nI A * nI A = nI lo := by
    rw [ck, (hR.2 k hk).1, hlo, nI_add, show (1 : Int32) = nI 1 from rfl, pk_sub (by omega), pk_div (by omega) (by omega) (by omega), pk_mul]
  have e2 : T (nI z - 1).toNatClampNeg / nI A * nI A = nI hi := by
    rw [cz, (hR.2 (z - 1) (by omega)).2.1, hhi, pk_div (by omega) (by omega) (by omega), pk_mul]
  have e3 : F (nI k).toNatClampNeg = nI (f k) := by rw [ck, (hR.2 k hk).1]
  rw [e1, e2, e3]
  exact r5
end X4
