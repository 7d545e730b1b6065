theorem kb_m4 : (Int8.ofInt (-4)).toInt32 = -4 := rfl
theorem kb_m3 : (Int8.ofInt (-3)).toInt32 = -3 := rfl
theorem kb_m2 : (Int8.ofInt (-2)).toInt32 = -2 := rfl
theorem kb_6 : (Int8.ofInt 6).toInt32 = nI 6 := rfl
theorem kb_7 : (Int8.ofInt 7).toInt32 = nI 7 := rfl
theorem kb_8 : (Int8.ofInt 8).toInt32 = nI 8 := rfl
theorem kb_10 : (Int8.ofInt 10).toInt32 = nI 10 := rfl
theorem kb_12 : (Int8.ofInt 12).toInt32 = nI 12 := rfl
theorem kb_15 : (Int8.ofInt 15).toInt32 = nI 15 := rfl
theorem kb_20 : (Int8.ofInt 20).toInt32 = nI 20 := rfl
theorem kb_25 : (Int8.ofInt 25).toInt32 = nI 25 := rfl
theorem kb_28 : (Int8.ofInt 28).toInt32 = nI 28 := rfl
theorem kb_29 : (Int8.ofInt 29).toInt32 = nI 29 := rfl
theorem kb_30 : (Int8.ofInt 30).toInt32 = nI 30 := rfl
theorem kb_31 : (Int8.ofInt 31).toInt32 = nI 31 := rfl
theorem kb_35 : (Int8.ofInt 35).toInt32 = nI 35 := rfl
theorem kb_36 : (Int8.ofInt 36).toInt32 = nI 36 := rfl
theorem kb_40 : (Int8.ofInt 40).toInt32 = nI 40 := rfl
theorem kb_42 : (Int8.ofInt 42).toInt32 = nI 42 := rfl
theorem kb_48 : (Int8.ofInt 48).toInt32 = nI 48 := rfl
theorem kb_60 : (Int8.ofInt 60).toInt32 = nI 60 := rfl
theorem ks_144 : (Int16.ofInt 144).toInt32 = nI 144 := rfl
theorem ks_255 : (Int16.ofInt 255).toInt32 = nI 255 := rfl
theorem ks_400 : (Int16.ofInt 400).toInt32 = nI 400 := rfl
theorem ks_600 : (Int16.ofInt 600).toInt32 = nI 600 := rfl
theorem ks_805 : (Int16.ofInt 805).toInt32 = nI 805 := rfl
theorem ks_960 : (Int16.ofInt 960).toInt32 = nI 960 := rfl
theorem ks_1000 : (Int16.ofInt 1000).toInt32 = nI 1000 := rfl
theorem ks_1080 : (Int16.ofInt 1080).toInt32 = nI 1080 := rfl
theorem ks_1095 : (Int16.ofInt 1095).toInt32 = nI 1095 := rfl
theorem ks_1096 : (Int16.ofInt 1096).toInt32 = nI 1096 := rfl
theorem ks_1439 : (Int16.ofInt 1439).toInt32 = nI 1439 := rfl
theorem ks_1440 : (Int16.ofInt 1440).toInt32 = nI 1440 := rfl
theorem ks_2879 : (Int16.ofInt 2879).toInt32 = nI 2879 := rfl
theorem ks_2880 : (Int16.ofInt 2880).toInt32 = nI 2880 := rfl
theorem ks_10000 : (Int16.ofInt 10000).toInt32 = nI 10000 := rfl
theorem ks_12000 : (Int16.ofInt 12000).toInt32 = nI 12000 := rfl
theorem ks_20000 : (Int16.ofInt 20000).toInt32 = nI 20000 := rfl
theorem ki_m1 : Int32.ofInt (-1) = -1 := rfl
theorem ki_0 : Int32.ofInt 0 = nI 0 := rfl
theorem ki_1 : Int32.ofInt 1 = nI 1 := rfl
theorem ki_2 : Int32.ofInt 2 = nI 2 := rfl
theorem ki_3 : Int32.ofInt 3 = nI 3 := rfl
theorem ki_4 : Int32.ofInt 4 = nI 4 := rfl
theorem ki_5 : Int32.ofInt 5 = nI 5 := rfl
theorem vI {x y : Nat} (h : x = y) : some (Value.int (nI x)) = some (Value.int (nI y)) := by rw [h]
theorem vB {x : Int32} {y : Bool} (h : x = bI y) : some (Value.int x) = some (Value.int (bI y)) := by rw [h]
/-- how many days month m has, and which day is its first -/
def mlen (m : Nat) : Nat := if m % 12 = 1 then (if m = 25 then 29 else 28) else if m % 12 = 3 ∨ m % 12 = 5 ∨ m % 12 = 8 ∨ m % 12 = 10 then 30 else 31
def mday : Nat → Nat
  | 0 => 0
  | m + 1 => mday m + mlen m
theorem mlen_in (m : Nat) : 28 ≤ mlen m ∧ mlen m ≤ 31 := by unfold mlen; split <;> (try split) <;> omega
theorem mday_le (m : Nat) : mday m ≤ 31 * m := by
  induction m with
  | zero => exact Nat.le_refl _
  | succ m ih => have := (mlen_in m).2; unfold mday; omega
theorem mday_ge (m : Nat) : 28 * m ≤ mday m := by
  induction m with
  | zero => exact Nat.le_refl _
  | succ m ih => have := (mlen_in m).1; unfold mday; omega
theorem mday_36 : mday 36 = 1096 := by decide
theorem mday_lt {m n : Nat} (h : m < n) : mday m + 28 ≤ mday n := by
  induction n with
  | zero => omega
  | succ n ih =>
    have := (mlen_in n).1
    show mday m + 28 ≤ mday n + mlen n
    rcases Nat.lt_or_ge m n with z | z
    · have := ih z; omega
    · have : m = n := by omega
      subst this; omega
/-- the month of a day -/
def mOf (day : Nat) : Nat := fa_first (fun m => decide (day < mday (m + 1))) 36
theorem mOf_is {day m : Nat} (h1 : mday m ≤ day) (h2 : day < mday (m + 1)) (hm : m < 36) : mOf day = m := by
  refine fa_first_is (fun q hq => decide_eq_false ?_) (by omega) (Or.inr (decide_eq_true h2))
  rcases Nat.lt_or_ge (q + 1) m with z | z
  · have := mday_lt z; omega
  · have : q + 1 = m := by omega
    rw [this]; omega
theorem mOf_sp {day : Nat} (h : day < 1096) : mOf day < 36 ∧ mday (mOf day) ≤ day ∧ day < mday (mOf day + 1) := by
  have h1 : mOf day < 36 := by
    rcases Nat.lt_or_ge (mOf day) 36 with z | z
    · exact z
    · have := fa_first_no (fun m => decide (day < mday (m + 1))) 36 35 (by unfold mOf at z; omega)
      have h2 := of_decide_eq_false this
      rw [mday_36] at h2
      omega
  refine ⟨h1, ?_, of_decide_eq_true (fa_first_yes (fun m => decide (day < mday (m + 1))) 36 h1)⟩
  cases hm : mOf day with
  | zero => exact Nat.zero_le _
  | succ q =>
    have := of_decide_eq_false (fa_first_no (fun m => decide (day < mday (m + 1))) 36 q (by unfold mOf at hm; omega))
    omega
section M1
variable {E : am_E} {d : Nat} {i : Nat → Int32} {j : Nat → Int64} {a : Nat → Nat → Int32} {b : Nat → Nat → Int64}
theorem x9_length {M : am_M} {m : Nat} (hm : m < 1000) : am_D E (d + 1) tX9_length [.int (nI m)] M 0 0 (some (.int (nI (mlen m)))) M := by
  refine am_D_of (Nat.le_of_ble_eq_true rfl) ?_
  refine ev_go 999 rfl ⟨by decide, trivial⟩ ?_
  repeat' first
    | refine ev_ret rfl trivial ⟨?_, rfl⟩
    | refine ev_ret rfl ⟨Or.inl rfl, trivial⟩ ⟨?_, rfl⟩
    | refine ev_ret rfl ⟨Or.inr rfl, trivial⟩ ⟨?_, rfl⟩
    | refine ev_if (fun h => ?_) (fun h => ?_)
    | refine ev_go 999 rfl trivial ?_
  all_goals
    simp (disch := omega) only [kb_m4, kb_m3, kb_m2, kb_6, kb_7, kb_8, kb_10, kb_12, kb_15, kb_20, kb_25, kb_28, kb_29, kb_30, kb_31, kb_35, kb_36, kb_40, kb_42, kb_48, kb_60, ks_144, ks_255, ks_400, ks_600, ks_805, ks_960, ks_1000, ks_1080, ks_1095, ks_1096, ks_1439, ks_1440, ks_2879, ks_2880, ks_10000, ks_12000, ks_20000, ki_m1, ki_0, ki_1, ki_2, ki_3, ki_4, ki_5, nI_add, nI_1, pk_mul, pk_sub, pk_div, pk_rem, nI_clamp, nI_leI, nI_ltI, nI_eq] at *
    refine vI ?_
    unfold mlen
    repeat' split
    all_goals omega
theorem x9_firstDay {M : am_M} {m : Nat} (hm : m ≤ 36) : am_D E (d + 2) tX9_firstDay [.int (nI m)] M 0 0 (some (.int (nI (mday m)))) M := by
  refine am_D_of (Nat.le_of_ble_eq_true rfl) ?_
  refine ev_go 4 rfl trivial ?_
  have loop : ∀ n q, m - q = n → q ≤ m → am_ev E (d + 1) tX9_firstDay (4, [some (.int (nI m)), some (.int (nI (mday q))), some (.int (nI q))], [], M, 0, 0) (fun v' M'' => v' = some (.int (nI (mday m))) ∧ M'' = M) := by
    intro n
    induction n with
    | zero =>
      intro q h1 h2
      have e : q = m := by omega
      subst e
      refine ev_go 999 rfl trivial ?_
      refine ev_pos (nI_le (Nat.le_refl _) (by omega)) ?_
      refine ev_go 999 rfl trivial ?_
      refine ev_ret rfl trivial ⟨?_, rfl⟩
      rfl
    | succ n ih =>
      intro q h1 h2
      refine ev_go 999 rfl trivial ?_
      refine ev_neg (nI_ge (by omega) (by omega)) ?_
      refine ev_go 999 rfl trivial ?_
      refine ev_call0 rfl (Nat.le_of_ble_eq_true rfl) (fun z => by cases z) (x9_length (m := q) (by omega)) ?_
      refine ev_go 999 rfl trivial ?_
      have kk := ih (q + 1) (by omega) (by omega)
      have e : nI (mday (q + 1)) = nI (mday q) + nI (mlen q) := by rw [nI_add]; rfl
      rw [← nI_1, e] at kk
      exact kk
  exact loop m 0 (by omega) (Nat.zero_le _)
theorem x9_monthOf {M : am_M} {day : Nat} (hd : day < 1096) : am_D E (d + 2) tX9_monthOf [.int (nI day)] M 0 0 (some (.int (nI (mOf day)))) M := by
  obtain ⟨g1, g2, g3⟩ := mOf_sp hd
  generalize mOf day = mm at g1 g2 g3
  refine am_D_of (Nat.le_of_ble_eq_true rfl) ?_
  refine ev_go 4 rfl trivial ?_
  have loop : ∀ n q, mm - q = n → q ≤ mm → am_ev E (d + 1) tX9_monthOf (4, [some (.int (nI day)), some (.int (nI q)), some (.int (nI (day - mday q)))], [], M, 0, 0) (fun v' M'' => v' = some (.int (nI mm)) ∧ M'' = M) := by
    intro n
    induction n with
    | zero =>
      intro q h1 h2
      have e : q = mm := by omega
      subst e
      refine ev_go 999 rfl trivial ?_
      refine ev_call0 rfl (Nat.le_of_ble_eq_true rfl) (fun z => by cases z) (x9_length (m := q) (by omega)) ?_
      refine ev_go 999 rfl trivial ?_
      refine ev_pos (nI_lt (by unfold mday at g3; omega) (by have := (mlen_in q).2; omega)) ?_
      refine ev_go 999 rfl trivial ?_
      refine ev_ret rfl trivial ⟨?_, rfl⟩
      rfl
    | succ n ih =>
      intro q h1 h2
      have hq : mday (q + 1) ≤ day := by
        rcases Nat.lt_or_ge (q + 1) mm with z | z
        · have := mday_lt z; omega
        · have : q + 1 = mm := by omega
          rw [this]; exact g2
      have e1 : mday (q + 1) = mday q + mlen q := rfl
      refine ev_go 999 rfl trivial ?_
      refine ev_call0 rfl (Nat.le_of_ble_eq_true rfl) (fun z => by cases z) (x9_length (m := q) (by omega)) ?_
      refine ev_go 999 rfl trivial ?_
      refine ev_neg (nI_nlt (by omega) (by omega)) ?_
      refine ev_go 999 rfl trivial ?_
      refine ev_call0 rfl (Nat.le_of_ble_eq_true rfl) (fun z => by cases z) (x9_length (m := q) (by omega)) ?_
      refine ev_go 999 rfl trivial ?_
      have kk := ih (q + 1) (by omega) (by omega)
      have e : nI (day - mday (q + 1)) = nI (day - mday q) - nI (mlen q) := by rw [pk_sub (by omega)]; congr 1; omega
      rw [← nI_1, e] at kk
      exact kk
  have k0 := loop mm 0 (by omega) (Nat.zero_le _)
  exact k0
theorem x9_isDay {M : am_M} {v : Int32} : am_D E (d + 2) tX9_isDay [.int v] M 0 0 (some (.int (bI (inB v 0 1095)))) M := by
  refine am_D_of (Nat.le_of_ble_eq_true rfl) ?_
  refine ev_go 999 rfl trivial ?_
  refine ev_call0 rfl (Nat.le_of_ble_eq_true rfl) (fun z => by cases z) (x9_in) ?_
  refine ev_go 999 rfl trivial ?_
  refine ev_ret rfl ⟨bI_01 _, trivial⟩ ⟨?_, rfl⟩
  rfl
theorem x9_isGroup {M : am_M} {v : Int32} : am_D E (d + 2) tX9_isGroup [.int v] M 0 0 (some (.int (bI (inB v 0 5)))) M := by
  refine am_D_of (Nat.le_of_ble_eq_true rfl) ?_
  refine ev_go 999 rfl trivial ?_
  refine ev_call0 rfl (Nat.le_of_ble_eq_true rfl) (fun z => by cases z) (x9_in) ?_
  refine ev_go 999 rfl trivial ?_
  refine ev_ret rfl ⟨bI_01 _, trivial⟩ ⟨?_, rfl⟩
  rfl
theorem x9_isWorker {v : Int32} : am_D E (d + 2) tX9_isWorker [.ref 0, .int v] (am_L (mo i j a b)) 0 0 (some (.int (bI (inB v 0 (i 19 - 1))))) (am_L (mo i j a b)) := by
  refine am_D_of (Nat.le_of_ble_eq_true rfl) ?_
  refine ev_go 999 rfl trivial ?_
  refine ev_call0 rfl (Nat.le_of_ble_eq_true rfl) (fun z => by cases z) (x9_in) ?_
  refine ev_go 999 rfl trivial ?_
  refine ev_ret rfl ⟨bI_01 _, trivial⟩ ⟨?_, rfl⟩
  rfl
end M1
