/-! The class's surcharges over a span; rates; absences. -/
/-- from x on, when is y reached -/
def wyN (y x : Nat) : Nat := if x < y then y - x else y - x + 1440 - (x - y)
def stN (F T : Nat → Int32) (x : Nat) : Nat → Nat
  | 0 => 1440
  | n + 1 => min (min (stN F T x n) (wyN (cl (F n)) x)) (wyN (cl (T n)) x)
theorem wyN_in {y x : Nat} (hy : y < 1440) (hx : x < 1440) : 1 ≤ wyN y x ∧ wyN y x ≤ 1440 := by
  unfold wyN
  split <;> omega
theorem stN_in {F T : Nat → Int32} {x : Nat} (hx : x < 1440) : ∀ n, (∀ s, s < n → cl (F s) < 1440 ∧ cl (T s) < 1440) → 1 ≤ stN F T x n ∧ stN F T x n ≤ 1440
  | 0, _ => ⟨by show 1 ≤ 1440; omega, Nat.le_refl _⟩
  | n + 1, h => by
    have ih := stN_in (F := F) (T := T) hx n (fun s hs => h s (by omega))
    have a1 := wyN_in (h n (by omega)).1 hx
    have a2 := wyN_in (h n (by omega)).2 hx
    unfold stN
    omega
theorem stN_le {F T : Nat → Int32} {x : Nat} : ∀ n s, s < n → stN F T x n ≤ wyN (cl (F s)) x ∧ stN F T x n ≤ wyN (cl (T s)) x
  | 0, s, h => absurd h (Nat.not_lt_zero s)
  | n + 1, s, h => by
    unfold stN
    rcases Nat.lt_or_ge s n with w | w
    · have := stN_le (F := F) (T := T) (x := x) n s w
      omega
    · rw [show s = n by omega]
      omega
theorem sp_steady {f t x j : Nat} (hf : f < 1440) (ht : t < 1440) (hx : x < 1440) (h1 : j < wyN f x) (h2 : j < wyN t x) : spB (nI f) (nI t) (nI ((x + j) % 1440)) = spB (nI f) (nI t) (nI x) := by
  have hj : j < 1440 := by have := (wyN_in hf hx).2; omega
  obtain ⟨y, hy⟩ : ∃ y, y = (x + j) % 1440 := ⟨_, rfl⟩
  have hy2 : (x + j < 1440 ∧ y = x + j) ∨ (1440 ≤ x + j ∧ y = x + j - 1440) := by omega
  rw [← hy]
  clear hy
  unfold wyN at h1 h2
  unfold spB
  simp only [nI_ltI (show f < 2 ^ 31 by omega) (show t < 2 ^ 31 by omega), nI_leI (show f < 2 ^ 31 by omega) (show y < 2 ^ 31 by omega), nI_leI (show f < 2 ^ 31 by omega) (show x < 2 ^ 31 by omega), nI_ltI (show y < 2 ^ 31 by omega) (show t < 2 ^ 31 by omega), nI_ltI (show x < 2 ^ 31 by omega) (show t < 2 ^ 31 by omega), nI_eq (show f < 2 ^ 31 by omega) (show t < 2 ^ 31 by omega)]
  split
  · rw [← Bool.decide_and, ← Bool.decide_and]
    refine decide_eq_decide.mpr ?_
    split at h1 <;> split at h2 <;> omega
  · rw [← Bool.decide_or, ← Bool.decide_or, ← Bool.decide_or, ← Bool.decide_or]
    refine decide_eq_decide.mpr ?_
    split at h1 <;> split at h2 <;> omega
theorem ctB_cong {X X' : Nat → Nat → Bool} {me me' : Nat → Bool} {P : Nat → Int32} {n s : Nat} (hs : s < n) (hX : ∀ t, t < n → X s t = X' s t) (hm : ∀ t, t < n → me t = me' t) : ctB X me P n s = ctB X' me' P n s := by
  unfold ctB
  rw [hm s hs]
  congr 2
  refine decide_eq_decide.mpr ⟨fun ⟨t, t1, t2, t3, t4⟩ => ⟨t, t1, by rw [← hX t t1]; exact t2, by rw [← hm t t1]; exact t3, t4⟩, fun ⟨t, t1, t2, t3, t4⟩ => ⟨t, t1, by rw [hX t t1]; exact t2, by rw [hm t t1]; exact t3, t4⟩⟩
theorem exN_cong {X X' : Nat → Nat → Bool} {me me' : Nat → Bool} {P : Nat → Int32} {p : Nat → Nat} {n : Nat} (hX : ∀ s t, s < n → t < n → X s t = X' s t) (hm : ∀ t, t < n → me t = me' t) : exN X me P p n = exN X' me' P p n := fb_sm_cong (fun s hs => by rw [ctB_cong hs (fun t ht => hX s t hs ht) hm])
/-- what the surcharges add at minute m, in the class -/
def exV (K F T P : Nat → Int32) (xs p : Nat → Nat) (kd ns m : Nat) : Nat := exN (fun s t => (xs s).testBit t) (meV K F T kd (m % 1440)) P p ns
section X5
variable {E : am_E} {d ns : Nat} {K F T P X : Nat → Int32} {p xs : Nat → Nat}
theorem x5_wayTo {y x : Nat} {M : am_M} (hy : y < 1440) (hx : x < 1440) : am_D E (d + 1) tX5_wayTo [.int (nI y), .int (nI x)] M 0 0 (some (.int (nI (wyN y x)))) M := by
  unfold wyN
  refine am_D_of (Nat.le_of_ble_eq_true rfl) ?_
  refine ev_go 999 rfl trivial ?_
  by_cases h : x < y
  · refine ev_neg (nI_ge h (by omega)) ?_
    rw [if_pos h, ← pk_sub (by omega)]
    refine ev_go 999 rfl trivial ?_
    exact ev_ret rfl trivial ⟨rfl, rfl⟩
  · refine ev_pos (nI_le (by omega) (by omega)) ?_
    rw [if_neg h]
    refine ev_go 999 rfl trivial ?_
    refine ev_ret rfl trivial ⟨?_, rfl⟩
    show some (Value.int (nI y - nI x + nI 1440)) = _
    have e : nI y - nI x + nI 1440 = nI (y - x + 1440 - (x - y)) := by
      refine Int32.toInt_inj.mp ?_
      have h1 := pk_sub_toInt (a := y) (b := x) (by omega) (by omega)
      rw [fb_addI (by rw [h1, nI_toInt (by omega)]; omega) (by rw [h1, nI_toInt (by omega)]; omega), h1, nI_toInt (by omega), nI_toInt (by omega)]
      omega
    rw [e]
theorem min_nI {x y : Nat} (hx : x < 2 ^ 31) (hy : y < 2 ^ 31) : (if nI y < nI x then nI y else nI x) = nI (min x y) := by
  rcases Nat.lt_or_ge y x with w | w
  · rw [if_pos (nI_lt w hx), show min x y = y by omega]
  · rw [if_neg (nI_nlt w hy), show min x y = x by omega]
theorem max_nI {x y : Nat} (hx : x < 2 ^ 31) (hy : y < 2 ^ 31) : (if nI x < nI y then nI y else nI x) = nI (max x y) := by
  rcases Nat.lt_or_ge x y with w | w
  · rw [if_pos (nI_lt w hy), show max x y = y by omega]
  · rw [if_neg (nI_nlt w hx), show max x y = x by omega]
theorem x5_steadyFrom {x : Nat} (hS : SV ns K F T P p) (hx : x < 1440) : am_D E (d + 2) tX5_steadyFrom [.ref 0, .int (nI x)] (am_L (su (nI ns) K F T P X)) 0 0 (some (.int (nI (stN F T x ns)))) (am_L (su (nI ns) K F T P X)) := by
  have h12 := hS.n12
  have hcl : ∀ s, s < ns → cl (F s) < 1440 ∧ cl (T s) < 1440 := fun s hs => ⟨by have := (hS.f s hs).2; omega, by have := (hS.t s hs).2; omega⟩
  refine am_D_of (Nat.le_of_ble_eq_true rfl) ?_
  refine ev_go 6 rfl trivial ?_
  have loop : ∀ n q, ns - q = n → q ≤ ns → am_ev E (d + 1) tX5_steadyFrom (6, [some (.ref 0), some (.int (nI x)), some (.int (nI (stN F T x q))), some (.int (nI q))], [], am_L (su (nI ns) K F T P X), 0, 0) (fun v' M'' => v' = some (.int (nI (stN F T x ns))) ∧ M'' = am_L (su (nI ns) K F T P X)) := by
    intro n
    induction n with
    | zero =>
      intro q e1 e2
      have e : q = ns := by omega
      rw [e]
      refine ev_go 999 rfl trivial ?_
      refine ev_pos (nI_le (Nat.le_refl _) (by omega)) ?_
      refine ev_go 999 rfl trivial ?_
      exact ev_ret rfl trivial ⟨rfl, rfl⟩
    | succ n ih =>
      intro q e1 e2
      have kk := ih (q + 1) (by omega) (by omega)
      have v : vp_in (nI q) 12 := vp_in_nI (by omega) (by omega)
      have c : (nI q).toNatClampNeg = q := nI_clamp (by omega)
      have b1 := stN_in (F := F) (T := T) hx q (fun s hs => hcl s (by omega))
      have b2 := wyN_in (hcl q (by omega)).1 hx
      have b3 := wyN_in (hcl q (by omega)).2 hx
      have hF : F (nI q).toNatClampNeg = nI (cl (F q)) := by rw [c]; exact (hS.f q (by omega)).1
      have hT : T (nI q).toNatClampNeg = nI (cl (T q)) := by rw [c]; exact (hS.t q (by omega)).1
      have w1 := x5_wayTo (E := E) (d := d) (M := am_L (su (nI ns) K F T P X)) (hcl q (by omega)).1 hx
      have w2 := x5_wayTo (E := E) (d := d) (M := am_L (su (nI ns) K F T P X)) (hcl q (by omega)).2 hx
      rw [← hF] at w1
      rw [← hT] at w2
      have e3 : nI (stN F T x (q + 1)) = (if nI (wyN (cl (T q)) x) < (if nI (wyN (cl (F q)) x) < nI (stN F T x q) then nI (wyN (cl (F q)) x) else nI (stN F T x q)) then nI (wyN (cl (T q)) x) else (if nI (wyN (cl (F q)) x) < nI (stN F T x q) then nI (wyN (cl (F q)) x) else nI (stN F T x q))) := by
        rw [min_nI (by omega) (by omega), min_nI (by omega) (by omega)]
        rfl
      rw [e3, ← nI_1 q] at kk
      refine ev_go 999 rfl trivial ?_
      refine ev_neg (nI_ge (by omega) (by omega)) ?_
      refine ev_go 999 rfl ⟨v, trivial⟩ ?_
      refine ev_call0 rfl (Nat.le_of_ble_eq_true rfl) (fun z => by cases z) w1 ?_
      refine ev_go 999 rfl ⟨Nat.le_of_ble_eq_true rfl, v, trivial⟩ ?_
      refine ev_call0 rfl (Nat.le_of_ble_eq_true rfl) (fun z => by cases z) w2 ?_
      refine ev_go 999 rfl ⟨Nat.le_of_ble_eq_true rfl, trivial⟩ ?_
      exact kk
  exact loop ns 0 (by omega) (Nat.zero_le _)
theorem exV_steady {kd m j : Nat} (hS : SV ns K F T P p) (h : j < stN F T (m % 1440) ns) : exV K F T P xs p kd ns (m + j) = exV K F T P xs p kd ns m := by
  refine exN_cong (fun _ _ _ _ => rfl) (fun s hs => ?_)
  have hm : m % 1440 < 1440 := Nat.mod_lt _ (by omega)
  have h1 := stN_le (F := F) (T := T) (x := m % 1440) ns s hs
  have hF := hS.f s hs
  have hT := hS.t s hs
  unfold meV meB
  have hsp := sp_steady (f := cl (F s)) (t := cl (T s)) (x := m % 1440) (j := j) (by have := hF.2; omega) (by have := hT.2; omega) hm (by omega) (by omega)
  rw [← hF.1, ← hT.1, show (m % 1440 + j) % 1440 = (m + j) % 1440 by omega] at hsp
  rw [hsp]
theorem exV_le {kd m : Nat} (hS : SV ns K F T P p) : exV K F T P xs p kd ns m ≤ 240000 := by
  have h12 := hS.n12
  refine Nat.le_trans (fb_sm_bound (c := 20000) (fun k hk => ?_)) (by omega)
  split
  · exact hS.pb k hk
  · omega
theorem x5_extraOver {kd lo hi : Nat} (hS : SV ns K F T P p) (hX : ∀ s, s < ns → X s = nI (xs s)) (hk : kd < 8) (hlh : lo ≤ hi) (hhi : hi ≤ 2880) : am_D E (d + 3) tX5_extraOver [.ref 0, .int (nI kd), .int (nI lo), .int (nI hi)] (am_L (su (nI ns) K F T P X)) 0 0 (some (.long (lN (fb_sm (fun j => exV K F T P xs p kd ns (lo + j)) (hi - lo))))) (am_L (su (nI ns) K F T P X)) := by
  have hcl : ∀ s, s < ns → cl (F s) < 1440 ∧ cl (T s) < 1440 := fun s hs => ⟨by have := (hS.f s hs).2; omega, by have := (hS.t s hs).2; omega⟩
  obtain ⟨G, hG⟩ : ∃ G : Nat → Nat, G = fun j => exV K F T P xs p kd ns (lo + j) := ⟨_, rfl⟩
  rw [← hG]
  refine am_D_of (Nat.le_of_ble_eq_true rfl) ?_
  have loop : ∀ n m, hi - m = n → lo ≤ m → m ≤ hi → ∀ o6 o8 o9 o10, am_ev E (d + 2) tX5_extraOver (9, [some (.ref 0), some (.int (nI kd)), some (.int (nI lo)), some (.int (nI hi)), some (.long (lN (fb_sm G (m - lo)))), none, o6, some (.int (nI m)), o8, o9, o10], [], am_L (su (nI ns) K F T P X), 0, 0) (fun v' M'' => v' = some (.long (lN (fb_sm G (hi - lo)))) ∧ M'' = am_L (su (nI ns) K F T P X)) := by
    intro n
    induction n using Nat.strongRecOn with
    | ind n ih =>
      intro m e1 e2 e3 o6 o8 o9 o10
      by_cases h : m < hi
      · have hm : m % 1440 < 1440 := Nat.mod_lt _ (by omega)
        have b1 := stN_in (F := F) (T := T) hm ns hcl
        obtain ⟨st, hst⟩ : ∃ st, st = stN F T (m % 1440) ns := ⟨_, rfl⟩
        have hsf := x5_steadyFrom (E := E) (d := d) (X := X) hS hm
        rw [← hst] at b1 hsf
        obtain ⟨nx, hnx⟩ : ∃ nx, nx = min hi (m + st) := ⟨_, rfl⟩
        have hmt := x5_meeting (E := E) (d := d) (X := X) (m := m % 1440) hS hk
        have hct := x5_countingOf (E := E) (d := d) (X := X) (me := meV K F T kd (m % 1440)) hS hX
        have hex := x5_extraOf (E := E) (d := d + 1) (X := X) (b := ctB (fun s t => (xs s).testBit t) (meV K F T kd (m % 1440)) P ns) hS
        have hxv : fb_sm (fun s => if ctB (fun s t => (xs s).testBit t) (meV K F T kd (m % 1440)) P ns s = true then p s else 0) ns = exV K F T P xs p kd ns m := rfl
        have hxl := exV_le (xs := xs) (kd := kd) (m := m) hS
        rw [hxv] at hex
        obtain ⟨X0, hX0⟩ : ∃ X0, X0 = exV K F T P xs p kd ns m := ⟨_, rfl⟩
        rw [← hX0] at hex hxl
        have erem : nI m - nI m / nI 1440 * nI 1440 = nI (m % 1440) := pk_rem (by omega) (by omega) (by omega)
        have emx : (if Int32.ofInt 1 < nI st then nI st else Int32.ofInt 1) = nI st := by
          have h1 := max_nI (x := 1) (y := st) (by omega) (by omega)
          rw [show max 1 st = st by omega] at h1
          exact h1
        have emn : (if nI m + nI st < nI hi then nI m + nI st else nI hi) = nI nx := by
          rw [nI_add, min_nI (by omega) (by omega), hnx]
        have hnx1 : m < nx := by omega
        have hnx2 : nx ≤ hi := by omega
        have hsum : fb_sm G (nx - lo) = fb_sm G (m - lo) + X0 * (nx - m) := by
          rw [show nx - lo = (m - lo) + (nx - m) by omega, fb_sm_split]
          congr 1
          rw [Nat.mul_comm, ← fb_sm_const]
          refine fb_sm_cong (fun q hq => ?_)
          rw [hG, hX0]
          show exV K F T P xs p kd ns (lo + ((m - lo) + q)) = _
          rw [show lo + ((m - lo) + q) = m + q by omega]
          exact exV_steady hS (by rw [← hst]; omega)
        have kk := ih (hi - nx) (by omega) nx rfl (by omega) hnx2 (some (.int (nI nx))) (some (.int (nI (m % 1440)))) (some (.long (lN X0))) none
        have e64 : lN (fb_sm G (nx - lo)) = lN (fb_sm G (m - lo)) + lN X0 * (nI nx - nI m).toInt64 := by
          rw [hsum, pk_sub (by omega), nI_l (by omega), lN_mul, lN_add]
        rw [e64] at kk
        refine ev_go 999 rfl trivial ?_
        refine ev_neg (nI_ge h (by omega)) ?_
        refine ev_go 23 rfl ⟨by decide, trivial⟩ ?_
        show am_ev _ _ _ (23, [_, _, _, _, _, _, _, _, some (.int (nI m - nI m / nI 1440 * nI 1440)), _, _], _, _, _, _) _
        rw [erem]
        refine ev_go 999 rfl trivial ?_
        refine ev_call0 rfl (Nat.le_of_ble_eq_true rfl) (fun _ => ⟨_, _, _, rfl, rfl⟩) hsf ?_
        refine ev_go 42 rfl ⟨Nat.le_of_ble_eq_true rfl, Nat.le_of_ble_eq_true rfl, trivial⟩ ?_
        show am_ev _ _ _ (42, [_, _, _, _, _, _, some (.int (if nI m + (if Int32.ofInt 1 < nI st then nI st else Int32.ofInt 1) < nI hi then nI m + (if Int32.ofInt 1 < nI st then nI st else Int32.ofInt 1) else nI hi)), _, _, _, _], _, _, _, _) _
        rw [emx, emn]
        refine ev_go 999 rfl trivial ?_
        refine ev_call0 rfl (Nat.le_of_ble_eq_true rfl) (fun _ => ⟨_, _, _, rfl, rfl⟩) hmt ?_
        refine ev_go 999 rfl trivial ?_
        refine ev_call0 rfl (Nat.le_of_ble_eq_true rfl) (fun _ => ⟨_, _, _, rfl, rfl⟩) hct ?_
        refine ev_go 999 rfl trivial ?_
        refine ev_call0 rfl (Nat.le_of_ble_eq_true rfl) (fun _ => ⟨_, _, _, rfl, rfl⟩) hex ?_
        refine ev_go 60 rfl trivial ?_
        show am_ev _ _ _ (60, [_, _, _, _, _, _, _, _, _, some (.long (nI X0).toInt64), _], _, _, _, _) _
        rw [nI_l (by omega)]
        refine ev_go 999 rfl trivial ?_
        exact kk
      · have e : m = hi := by omega
        rw [e]
        refine ev_go 999 rfl trivial ?_
        refine ev_pos (nI_le (Nat.le_refl _) (by omega)) ?_
        refine ev_go 999 rfl trivial ?_
        exact ev_ret rfl trivial ⟨rfl, rfl⟩
  have k0 := loop (hi - lo) lo rfl (Nat.le_refl _) hlh (some (.int (nI lo))) none none none
  rw [Nat.sub_self] at k0
  refine ev_go 9 rfl trivial ?_
  exact k0
theorem x5_add {z : Nat} {k f t q : Int32} (hz : z < 12) : am_D E (d + 1) tX5_add [.ref 0, .int k, .int f, .int t, .int q] (am_L (su (nI z) K F T P X)) 0 0 none (am_L (su (nI (z + 1)) (upd K z k) (upd F z f) (upd T z t) (upd P z q) X)) := by
  have v : vp_in (nI z) 12 := vp_in_nI hz (by omega)
  have c : (nI z).toNatClampNeg = z := nI_clamp (by omega)
  refine am_D_of (Nat.le_of_ble_eq_true rfl) ?_
  refine ev_go 999 rfl trivial ?_
  refine ev_neg (nI_ge (a := z) (b := 12) hz (by omega)) ?_
  refine ev_go 19 rfl ⟨v, trivial⟩ ?_
  refine ev_M (show _ = am_L (su (nI z) (upd K z k) F T P X) by rw [am_w_L (Nat.le_of_ble_eq_true rfl), c]; rfl) ?_
  refine ev_go 29 rfl ⟨v, trivial⟩ ?_
  refine ev_M (show _ = am_L (su (nI z) (upd K z k) (upd F z f) T P X) by rw [am_w_L (Nat.le_of_ble_eq_true rfl), c]; rfl) ?_
  refine ev_go 39 rfl ⟨v, trivial⟩ ?_
  refine ev_M (show _ = am_L (su (nI z) (upd K z k) (upd F z f) (upd T z t) P X) by rw [am_w_L (Nat.le_of_ble_eq_true rfl), c]; rfl) ?_
  refine ev_go 50 rfl ⟨v, trivial⟩ ?_
  refine ev_M (show _ = am_L (su (nI z) (upd K z k) (upd F z f) (upd T z t) (upd P z q) X) by rw [am_w_L (Nat.le_of_ble_eq_true rfl), c]; rfl) ?_
  refine ev_go 60 rfl trivial ?_
  refine ev_M (show _ = am_L (su (nI (z + 1)) (upd K z k) (upd F z f) (upd T z t) (upd P z q) X) by rw [am_w_L (Nat.le_of_ble_eq_true rfl), ← nI_1 z]; rfl) ?_
  exact ev_ret rfl trivial ⟨rfl, rfl⟩
theorem su_X {Z : Int32} (h : Nat → Int32) : am_w (am_L (su Z K F T P X)) 5 (.inl (0, 12, .inl h)) = am_L (su Z K F T P h) := by rw [am_w_L (Nat.le_of_ble_eq_true rfl)]; rfl
theorem x5_setApart {s t : Nat} {Z : Int32} (hs : s < 12) (ht : t < 12) (hst : s ≠ t) (hxs : ∀ q, q < 12 → X q = nI (xs q) ∧ xs q < 4096) : am_D E (d + 1) tX5_setApart [.ref 0, .int (nI s), .int (nI t)] (am_L (su Z K F T P X)) 0 0 (some (.int (bI (!(xs s).testBit t)))) (am_L (su Z K F T P (upd (upd X s (nI (xs s ||| 2 ^ t))) t (nI (xs t ||| 2 ^ s))))) := by
  have vs : vp_in (nI s) 12 := vp_in_nI hs (by omega)
  have vt : vp_in (nI t) 12 := vp_in_nI ht (by omega)
  have cs : (nI s).toNatClampNeg = s := nI_clamp (by omega)
  have ct : (nI t).toNatClampNeg = t := nI_clamp (by omega)
  have hb := bitS (m := xs s) (s := t) (by have := (hxs s hs).2; omega) ht
  have e1 : X (nI s).toNatClampNeg ||| ((1 : Int32) <<< (nI t &&& 31)) = nI (xs s ||| 2 ^ t) := by rw [cs, (hxs s hs).1, shl1 t ht, fa_or]
  have tail : ∀ c : Bool, am_ev E d tX5_setApart (18, [some (.ref 0), some (.int (nI s)), some (.int (nI t)), none], [.int (bI c)], am_L (su Z K F T P X), 0, 0) (fun v' M'' => v' = some (.int (bI c)) ∧ M'' = am_L (su Z K F T P (upd (upd X s (nI (xs s ||| 2 ^ t))) t (nI (xs t ||| 2 ^ s))))) := fun c => by
    refine ev_go 31 rfl ⟨vs, vs, trivial⟩ ?_
    refine ev_M (su_X _) ?_
    refine ev_M (show am_L (su Z K F T P (upd X (nI s).toNatClampNeg (X (nI s).toNatClampNeg ||| ((1 : Int32) <<< (nI t &&& 31))))) = am_L (su Z K F T P (upd X s (nI (xs s ||| 2 ^ t)))) by rw [e1, cs]) ?_
    have e2 : (upd X s (nI (xs s ||| 2 ^ t))) (nI t).toNatClampNeg ||| ((1 : Int32) <<< (nI s &&& 31)) = nI (xs t ||| 2 ^ s) := by
      rw [ct]
      unfold upd
      rw [if_neg (fun e => hst e.symm), (hxs t ht).1, shl1 s hs, fa_or]
    refine ev_go 43 rfl ⟨vt, vt, trivial⟩ ?_
    refine ev_M (su_X _) ?_
    refine ev_M (show am_L (su Z K F T P (upd (upd X s (nI (xs s ||| 2 ^ t))) (nI t).toNatClampNeg ((upd X s (nI (xs s ||| 2 ^ t))) (nI t).toNatClampNeg ||| ((1 : Int32) <<< (nI s &&& 31))))) = am_L (su Z K F T P (upd (upd X s (nI (xs s ||| 2 ^ t))) t (nI (xs t ||| 2 ^ s)))) by rw [e2, ct]) ?_
    refine ev_go 999 rfl trivial ?_
    exact ev_ret rfl ⟨bI_01 c, trivial⟩ ⟨rfl, rfl⟩
  refine am_D_of (Nat.le_of_ble_eq_true rfl) ?_
  refine ev_go 999 rfl ⟨vs, trivial⟩ ?_
  cases hbt : (xs s).testBit t with
  | false =>
    rw [hbt] at hb
    refine ev_neg (by show ¬ ¬ ((X (nI s).toNatClampNeg >>> (nI t &&& 31)) &&& 1) = 0; rw [cs, (hxs s hs).1, hb]; decide) ?_
    refine ev_go 999 rfl trivial ?_
    exact tail true
  | true =>
    rw [hbt] at hb
    refine ev_pos (by show ¬ ((X (nI s).toNatClampNeg >>> (nI t &&& 31)) &&& 1) = 0; rw [cs, (hxs s hs).1, hb]; decide) ?_
    refine ev_go 18 rfl trivial ?_
    exact tail false
end X5
