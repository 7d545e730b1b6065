/-! What is told: answers, and what becomes of the state. -/
theorem upd_P {f : Nat → Int32} {P : Int32 → Prop} {k n : Nat} {x : Int32} (h : ∀ q, q < n → P (f q)) (hx : P x) : ∀ q, q < n → P (upd f k x q) := fun q hq => by
  unfold upd
  split
  · exact hx
  · exact h q hq
def feOK (a : Nat → Nat → Int32) (day : Int32) : Bool := inB day 0 1095 && decide (a 1 (cl day) = 0)
def feQ (a : Nat → Nat → Int32) (day : Int32) : Int32 := if inB day 0 1095 = true then (if a 1 (cl day) = 0 then 1 else 0) else -1
def feI (i : Nat → Int32) (a : Nat → Nat → Int32) (day : Int32) : Nat → Int32 := if feOK a day = true then va_up i 2 (i 2 + 1) else i
def feA (a : Nat → Nat → Int32) (day : Int32) : Nat → Nat → Int32 := if feOK a day = true then va_up a 1 (upd (a 1) (cl day) 1) else a
def kiC (g k : Int32) : Bool := inB g 0 5 && inB k 0 7
def kiQ (a : Nat → Nat → Int32) (g w k : Int32) : Int32 := if kiC g k = true then (if inB w 0 7 = true then a 2 (8 * cl g + cl w) else -2) else -1
def kiA (a : Nat → Nat → Int32) (g w k : Int32) : Nat → Nat → Int32 := if (kiC g k && inB w 0 7) = true then va_up a 2 (upd (a 2) (8 * cl g + cl w) k) else a
def ruC (k w : Int32) : Bool := inB k 0 7 && inB w 0 4
def ruQ (k w x y : Int32) : Int32 := if ruC k w = true then (if okR (cl w) x y = true then 0 else -2) else -1
def ruT (a : Nat → Nat → Int32) (k w x y : Int32) : Nat → Nat → Int32 := if (ruC k w && okR (cl w) x y) = true then va_up (va_up a 3 (upd (a 3) (5 * cl k + cl w) x)) 4 (upd (a 4) (5 * cl k + cl w) y) else a
def gdC (g f : Int32) : Bool := inB g 0 5 && inB f 0 1095
def rtOK (i : Nat → Int32) (g f c : Int32) : Bool := gdC g f && inB c 0 100000 && decide (cl (i 9) < 60)
def rtQ (i : Nat → Int32) (g f c : Int32) : Int32 := if gdC g f = true then (if inB c 0 100000 = true then (if cl (i 9) < 60 then nI (cl (i 9) + 1) else -4) else -2) else -1
def rtI (i : Nat → Int32) (g f c : Int32) : Nat → Int32 := if rtOK i g f c = true then va_up i 9 (nI (cl (i 9) + 1)) else i
def rtT (i : Nat → Int32) (a : Nat → Nat → Int32) (g f c : Int32) : Nat → Nat → Int32 := if rtOK i g f c = true then va_up (va_up (va_up a 5 (upd (a 5) (cl (i 9)) g)) 6 (upd (a 6) (cl (i 9)) f)) 7 (upd (a 7) (cl (i 9)) c) else a
def suC (k f t p : Int32) : Bool := inB k 0 255 && inB f 0 1439 && inB t 0 1439 && inB p 0 20000
def suOK (i : Nat → Int32) (k f t p : Int32) : Bool := suC k f t p && decide (cl (i 15) < 12)
def suQ (i : Nat → Int32) (k f t p : Int32) : Int32 := if suC k f t p = true then (if cl (i 15) < 12 then nI (cl (i 15)) else -4) else -2
def suI (i : Nat → Int32) (k f t p : Int32) : Nat → Int32 := if suOK i k f t p = true then va_up i 15 (nI (cl (i 15) + 1)) else i
def suT (i : Nat → Int32) (a : Nat → Nat → Int32) (k f t p : Int32) : Nat → Nat → Int32 := if suOK i k f t p = true then va_up (va_up (va_up (va_up a 8 (upd (a 8) (cl (i 15)) k)) 9 (upd (a 9) (cl (i 15)) f)) 10 (upd (a 10) (cl (i 15)) t)) 11 (upd (a 11) (cl (i 15)) p) else a
def exC (i : Nat → Int32) (s t : Int32) : Bool := inB s 0 (i 15 - 1) && inB t 0 (i 15 - 1)
def exQ (i : Nat → Int32) (a : Nat → Nat → Int32) (s t : Int32) : Int32 := if exC i s t = true then (if s = t then -2 else bI (decide (a 12 (12 * cl s + cl t) = 0))) else -1
def exT (i : Nat → Int32) (a : Nat → Nat → Int32) (s t : Int32) : Nat → Nat → Int32 := if (exC i s t && !decide (s = t)) = true then va_up a 12 (upd (upd (a 12) (12 * cl s + cl t) 1) (12 * cl t + cl s) 1) else a
def tgC (w k : Int32) : Bool := inB w 0 6 && inB k 0 1440
def tgQ (a : Nat → Nat → Int32) (g w k : Int32) : Int32 := if inB g 0 5 = true then (if tgC w k = true then a 13 (7 * cl g + cl w) else -2) else -1
def tgT (a : Nat → Nat → Int32) (g w k : Int32) : Nat → Nat → Int32 := if (inB g 0 5 && tgC w k) = true then va_up a 13 (upd (a 13) (7 * cl g + cl w) k) else a
def liC (x y : Int32) : Bool := inB x (-100000) 100000 && inB y (-100000) 100000 && decide (x ≤ y)
def liQ (g x y : Int32) : Int32 := if inB g 0 5 = true then (if liC x y = true then 0 else -2) else -1
def liT (a : Nat → Nat → Int32) (g x y : Int32) : Nat → Nat → Int32 := if (inB g 0 5 && liC x y) = true then va_up (va_up a 14 (upd (a 14) (cl g) x)) 15 (upd (a 15) (cl g) y) else a
def wkOK (i : Nat → Int32) (g f : Int32) : Bool := gdC g f && decide (cl (i 19) < 30)
def wkQ (i : Nat → Int32) (g f : Int32) : Int32 := if gdC g f = true then (if cl (i 19) < 30 then nI (cl (i 19)) else -4) else -1
def wkI (i : Nat → Int32) (g f : Int32) : Nat → Int32 := if wkOK i g f = true then va_up i 19 (nI (cl (i 19) + 1)) else i
def wkT (i : Nat → Int32) (a : Nat → Nat → Int32) (g f : Int32) : Nat → Nat → Int32 := if wkOK i g f = true then va_up (va_up a 16 (upd (a 16) (cl (i 19)) g)) 17 (upd (a 17) (cl (i 19)) f) else a
def coQ (i : Nat → Int32) (w : Int32) : Int32 := if inB w 0 4 = true then i ([19, 2, 9, 15, 26].getD (cl w) 0) else -1
section T9
variable {E : am_E} {d : Nat} {i : Nat → Int32} {j : Nat → Int64} {a : Nat → Nat → Int32} {b : Nat → Nat → Int64}
theorem x9_feast {day : Int32} : am_D E (d + 60) tX9_feast [.ref 0, .int day] (am_L (mo i j a b)) 0 0 (some (.int (feQ a day))) (am_L (mo (feI i a day) j (feA a day) b)) := by
  unfold feQ feI feA feOK
  cases h : inB day 0 1095 with
  | false => rw [if_neg (by decide), Bool.false_and, if_neg (by decide), if_neg (by decide)]; exact x9_feast_none (d := d + 57) h
  | true =>
    obtain ⟨d1, d2⟩ := dIn h
    have h' := h
    rw [d1] at h'
    rw [if_pos rfl, Bool.true_and]
    by_cases z : a 1 (cl day) = 0
    · rw [if_pos z, decide_eq_true z, if_pos rfl, if_pos rfl]
      have hD := x9_feast_new (E := E) (d := d + 57) (i := i) (j := j) (a := a) (b := b) h' d2 z
      rw [← d1] at hD
      exact hD
    · rw [if_neg z, decide_eq_false z, if_neg (by decide), if_neg (by decide)]
      have hD := x9_feast_was (E := E) (d := d + 57) (i := i) (j := j) (a := a) (b := b) h' d2 z
      rw [← d1] at hD
      exact hD
theorem x9_kind {g w k : Int32} : am_D E (d + 60) tX9_kind [.ref 0, .int g, .int w, .int k] (am_L (mo i j a b)) 0 0 (some (.int (kiQ a g w k))) (am_L (mo i j (kiA a g w k) b)) := by
  unfold kiQ kiA
  cases h : kiC g k with
  | false => rw [if_neg (by decide), Bool.false_and, if_neg (by decide)]; exact x9_kind_none (d := d + 57) h
  | true =>
    rw [if_pos rfl, Bool.true_and]
    cases h2 : inB w 0 7 with
    | false => rw [if_neg (by decide), if_neg (by decide)]; exact x9_kind_bad (d := d + 57) h h2
    | true =>
      rw [if_pos rfl, if_pos rfl]
      have hg := le0_in (N := 5) (by omega) (Bool.and_eq_true_iff.mp h).1
      have hw := le0_in (N := 7) (by omega) h2
      have h' := h
      unfold kiC at h'
      rw [hg.1] at h'
      have h2' := h2
      rw [hw.1] at h2'
      have hD := x9_kind_ok (E := E) (d := d + 57) (i := i) (j := j) (a := a) (b := b) (g := cl g) (w := cl w) (k := k) (by have := hg.2; omega) (by have := hw.2; omega) h' h2'
      rw [← hg.1, ← hw.1] at hD
      exact hD
theorem x9_rule {k w x y : Int32} : am_D E (d + 60) tX9_rule [.ref 0, .int k, .int w, .int x, .int y] (am_L (mo i j a b)) 0 0 (some (.int (ruQ k w x y))) (am_L (mo i j (ruT a k w x y) b)) := by
  unfold ruQ ruT
  cases h : ruC k w with
  | false => rw [if_neg (by decide), Bool.false_and, if_neg (by decide)]; exact x9_rule_none (d := d + 58) h
  | true =>
    rw [if_pos rfl, Bool.true_and]
    have hk := le0_in (N := 7) (by omega) (Bool.and_eq_true_iff.mp h).1
    have hw := le0_in (N := 4) (by omega) (Bool.and_eq_true_iff.mp h).2
    have h' := h
    unfold ruC at h'
    cases h2 : okR (cl w) x y with
    | false =>
      rw [if_neg (by decide), if_neg (by decide)]
      rw [hw.1] at h'
      have hD := x9_rule_bad (E := E) (d := d + 58) (i := i) (j := j) (a := a) (b := b) (k := k) (x := x) (y := y) (w := cl w) (by have := hw.2; omega) h' h2
      rw [← hw.1] at hD
      exact hD
    | true =>
      rw [if_pos rfl, if_pos rfl]
      rw [hw.1, hk.1] at h'
      have hD := x9_rule_ok (E := E) (d := d + 58) (i := i) (j := j) (a := a) (b := b) (x := x) (y := y) (k := cl k) (w := cl w) (by have := hk.2; omega) (by have := hw.2; omega) h' h2
      rw [← hw.1, ← hk.1] at hD
      exact hD
theorem x9_rate {g f c : Int32} (hI : INV i a) : am_D E (d + 60) tX9_rate [.ref 0, .int g, .int f, .int c] (am_L (mo i j a b)) 0 0 (some (.int (rtQ i g f c))) (am_L (mo (rtI i g f c) j (rtT i a g f c) b)) := by
  unfold rtQ rtI rtT rtOK
  have h9 := hI.r9
  cases h : gdC g f with
  | false => rw [if_neg (by decide), Bool.false_and, Bool.false_and, if_neg (by decide), if_neg (by decide)]; exact x9_rate_none (d := d + 57) h
  | true =>
    rw [if_pos rfl, Bool.true_and]
    cases h2 : inB c 0 100000 with
    | false => rw [if_neg (by decide), Bool.false_and, if_neg (by decide), if_neg (by decide)]; exact x9_rate_bad (d := d + 57) h h2
    | true =>
      rw [if_pos rfl, Bool.true_and]
      by_cases hn : cl (i 9) < 60
      · rw [if_pos hn, decide_eq_true hn, if_pos rfl, if_pos rfl]; exact x9_rate_ok (d := d + 57) h h2 hn h9.1
      · rw [if_neg hn, decide_eq_false hn, if_neg (by decide), if_neg (by decide)]
        exact x9_rate_full (d := d + 57) h h2 (by rw [h9.1, show cl (i 9) = 60 by have := h9.2; omega]; rfl)
theorem x9_surcharge {k f t p : Int32} (hI : INV i a) : am_D E (d + 60) tX9_surcharge [.ref 0, .int k, .int f, .int t, .int p] (am_L (mo i j a b)) 0 0 (some (.int (suQ i k f t p))) (am_L (mo (suI i k f t p) j (suT i a k f t p) b)) := by
  unfold suQ suI suT suOK
  have h9 := hI.s15
  cases h : suC k f t p with
  | false => rw [if_neg (by decide), Bool.false_and, if_neg (by decide), if_neg (by decide)]; exact x9_surcharge_bad (d := d + 58) h
  | true =>
    rw [if_pos rfl, Bool.true_and]
    by_cases hn : cl (i 15) < 12
    · rw [if_pos hn, decide_eq_true hn, if_pos rfl, if_pos rfl]; exact x9_surcharge_ok (d := d + 58) h hn h9.1
    · rw [if_neg hn, decide_eq_false hn, if_neg (by decide), if_neg (by decide)]
      exact x9_surcharge_full (d := d + 58) h (by rw [h9.1, show cl (i 15) = 12 by have := h9.2; omega]; rfl)
theorem x9_exclude {s t : Int32} (hI : INV i a) : am_D E (d + 60) tX9_exclude [.ref 0, .int s, .int t] (am_L (mo i j a b)) 0 0 (some (.int (exQ i a s t))) (am_L (mo i j (exT i a s t) b)) := by
  unfold exQ exT
  have h15 := hI.s15
  have h15b := h15.2
  cases h : exC i s t with
  | false => rw [if_neg (by decide), Bool.false_and, if_neg (by decide)]; exact x9_exclude_none (d := d + 58) h
  | true =>
    rw [if_pos rfl, Bool.true_and]
    have hs := (Bool.and_eq_true_iff.mp h).1
    have ht := (Bool.and_eq_true_iff.mp h).2
    rw [h15.1] at hs ht
    obtain ⟨s1, s2⟩ := inW (by omega) hs
    obtain ⟨t1, t2⟩ := inW (by omega) ht
    by_cases e : s = t
    · rw [if_pos e, decide_eq_true e, if_neg (by decide)]; exact x9_exclude_bad (d := d + 58) h e
    · rw [if_neg e, decide_eq_false e, if_pos (by decide)]
      have h' := h
      unfold exC at h'
      rw [s1, t1] at h'
      have hD := x9_exclude_ok (E := E) (d := d + 58) (i := i) (j := j) (a := a) (b := b) (s := cl s) (t := cl t) (by omega) (by omega) h' (fun z => e (by rw [s1, t1, z]))
      rw [← s1, ← t1] at hD
      exact hD
theorem x9_target {g w k : Int32} : am_D E (d + 60) tX9_target [.ref 0, .int g, .int w, .int k] (am_L (mo i j a b)) 0 0 (some (.int (tgQ a g w k))) (am_L (mo i j (tgT a g w k) b)) := by
  unfold tgQ tgT
  cases h : inB g 0 5 with
  | false => rw [if_neg (by decide), Bool.false_and, if_neg (by decide)]; exact x9_target_none (d := d + 57) h
  | true =>
    rw [if_pos rfl, Bool.true_and]
    cases h2 : tgC w k with
    | false => rw [if_neg (by decide), if_neg (by decide)]; exact x9_target_bad (d := d + 57) h h2
    | true =>
      rw [if_pos rfl, if_pos rfl]
      have hg := le0_in (N := 5) (by omega) h
      have hw := le0_in (N := 6) (by omega) (Bool.and_eq_true_iff.mp h2).1
      have h' := h
      rw [hg.1] at h'
      have h2' := h2
      unfold tgC at h2'
      rw [hw.1] at h2'
      have hD := x9_target_ok (E := E) (d := d + 57) (i := i) (j := j) (a := a) (b := b) (g := cl g) (w := cl w) (k := k) (by have := hg.2; omega) (by have := hw.2; omega) h' h2'
      rw [← hg.1, ← hw.1] at hD
      exact hD
theorem x9_limits {g x y : Int32} : am_D E (d + 60) tX9_limits [.ref 0, .int g, .int x, .int y] (am_L (mo i j a b)) 0 0 (some (.int (liQ g x y))) (am_L (mo i j (liT a g x y) b)) := by
  unfold liQ liT
  cases h : inB g 0 5 with
  | false => rw [if_neg (by decide), Bool.false_and, if_neg (by decide)]; exact x9_limits_none (d := d + 57) h
  | true =>
    rw [if_pos rfl, Bool.true_and]
    cases h2 : liC x y with
    | false => rw [if_neg (by decide), if_neg (by decide)]; exact x9_limits_bad (d := d + 57) h h2
    | true =>
      rw [if_pos rfl, if_pos rfl]
      have hg := le0_in (N := 5) (by omega) h
      have h' := h
      rw [hg.1] at h'
      have hD := x9_limits_ok (E := E) (d := d + 57) (i := i) (j := j) (a := a) (b := b) (g := cl g) (x := x) (y := y) (by have := hg.2; omega) h' h2
      rw [← hg.1] at hD
      exact hD
theorem x9_worker {g f : Int32} (hI : INV i a) : am_D E (d + 60) tX9_worker [.ref 0, .int g, .int f] (am_L (mo i j a b)) 0 0 (some (.int (wkQ i g f))) (am_L (mo (wkI i g f) j (wkT i a g f) b)) := by
  unfold wkQ wkI wkT wkOK
  have h9 := hI.w19
  cases h : gdC g f with
  | false => rw [if_neg (by decide), Bool.false_and, if_neg (by decide), if_neg (by decide)]; exact x9_worker_none (d := d + 57) h
  | true =>
    rw [if_pos rfl, Bool.true_and]
    by_cases hn : cl (i 19) < 30
    · rw [if_pos hn, decide_eq_true hn, if_pos rfl, if_pos rfl]; exact x9_worker_ok (d := d + 57) h hn h9.1
    · rw [if_neg hn, decide_eq_false hn, if_neg (by decide), if_neg (by decide)]
      exact x9_worker_full (d := d + 57) h (by rw [h9.1, show cl (i 19) = 30 by have := h9.2; omega]; rfl)
theorem x9_count {w : Int32} : am_D E (d + 60) tX9_count [.ref 0, .int w] (am_L (mo i j a b)) 0 0 (some (.int (coQ i w))) (am_L (mo i j a b)) := by
  unfold coQ
  cases h : inB w 0 4 with
  | false => rw [if_neg (by decide)]; exact x9_count_none (d := d + 59) h
  | true =>
    rw [if_pos rfl]
    have hw := le0_in (N := 4) (by omega) h
    have hD := x9_count_ok (E := E) (d := d + 59) (i := i) (j := j) (a := a) (b := b) (w := cl w) (by have := hw.2; omega)
    rw [← hw.1] at hD
    exact hD
end T9
