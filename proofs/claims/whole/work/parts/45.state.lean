/-! The ledger's state is the reference's: what it holds, and what follows from it. -/
def cl (x : Int32) : Nat := x.toNatClampNeg
def le0 (x : Int32) (N : Nat) : Prop := x = nI (cl x) ∧ cl x ≤ N
theorem cl_nI {c : Nat} (h : c < 2 ^ 31) : cl (nI c) = c := nI_clamp h
theorem le0_nI {c N : Nat} (h : c ≤ N) (hN : N < 2 ^ 31) : le0 (nI c) N := by
  unfold le0
  rw [cl_nI (by omega)]
  exact ⟨rfl, h⟩
theorem le0_in {x : Int32} {N : Nat} (hN : N < 2 ^ 31) (h : inB x 0 (nI N) = true) : le0 x N := by
  obtain ⟨n, h1, h2⟩ := inB_nI hN h
  rw [h2]
  exact le0_nI h1 hN
theorem le0_ex {x : Int32} {N : Nat} (h : le0 x N) : ∃ c, c ≤ N ∧ x = nI c ∧ cl x = c := ⟨cl x, h.2, h.1, rfl⟩
def tA (a : Nat → Nat → Int32) (w k : Nat) : Nat := cl (a 22 (400 * w + k))
def sA (a : Nat → Nat → Int32) (w k : Nat) : Nat := cl (a 23 (400 * w + k))
def nA (a : Nat → Nat → Int32) (w : Nat) : Nat := cl (a 21 w)
def gA (a : Nat → Nat → Int32) (w : Nat) : Nat := cl (a 16 w)
def kdA (a : Nat → Nat → Int32) (g day : Nat) : Nat := cl (a 2 (8 * g + (if a 1 day = 0 then day % 7 else 7)))
def ruA (a : Nat → Nat → Int32) (kd q : Nat) : Nat := cl (a 3 (5 * kd + q))
def rbA (a : Nat → Nat → Int32) (kd q : Nat) : Nat := cl (a 4 (5 * kd + q))
def pA (a : Nat → Nat → Int32) (s : Nat) : Nat := cl (a 11 s)
def rolA (a : Nat → Nat → Int32) (w : Nat) : Nat → Nat := pR (tA a w) (sA a w) (nA a w)
def rtA (i : Nat → Int32) (a : Nat → Nat → Int32) (g day : Nat) : Nat := cl (rcents (a 7) (rbest (a 5) (a 6) (nI g) (nI day) (cl (i 9))))
/-- the classes of a day's minutes -/
def dA (a : Nat → Nat → Int32) (w day : Nat) : Nat → Int32 := dG (tA a w) (rolA a w) (nA a w) day (ruA a (kdA a (gA a w) day)) (rbA a (kdA a (gA a w) day))
def paidA (a : Nat → Nat → Int32) (w day : Nat) : Nat := cntP (dA a w day) 2880
def shaA (i : Nat → Int32) (a : Nat → Nat → Int32) (w day : Nat) : Nat := payN (dA a w day) (rbA a (kdA a (gA a w) day) 4) (exA a (kdA a (gA a w) day) (cl (i 15)) (pA a)) 2880
def centA (i : Nat → Int32) (a : Nat → Nat → Int32) (w day : Nat) : Nat := centsN (shaA i a w day * rtA i a (gA a w) day)
/-- what is due on a day -/
def dueA (a : Nat → Nat → Int32) (w day : Nat) : Nat := if (decide (¬ a 1 day = 0) || decide (nI day < a 17 w) || awB (fun k => a 19 (20 * w + k)) (fun k => a 20 (20 * w + k)) (nI day) (cl (a 18 w))) = true then 0 else cl (a 13 (7 * gA a w + day % 7))
abbrev INV (i : Nat → Int32) (a : Nat → Nat → Int32) : Prop := (∀ k, k < 48 → le0 (a 2 k) 7) ∧ (∀ k q, k < 8 → q < 5 → le0 (a 3 (5 * k + q)) 2880) ∧ (∀ k q, k < 8 → q < 5 → le0 (a 4 (5 * k + q)) 20000) ∧ (∀ k, k < 8 → 1 ≤ cl (a 3 (5 * k)) ∧ cl (a 3 (5 * k)) ≤ 30) ∧ (le0 (i 9) 60) ∧ (∀ k, k < cl (i 9) → le0 (a 6 k) 1095 ∧ le0 (a 7 k) 100000) ∧ (le0 (i 15) 12) ∧ (∀ s, s < cl (i 15) → le0 (a 8 s) 255 ∧ le0 (a 9 s) 1439 ∧ le0 (a 10 s) 1439 ∧ le0 (a 11 s) 20000) ∧ (∀ k, k < 42 → le0 (a 13 k) 1440) ∧ (∀ g, g < 6 → -100000 ≤ (a 14 g).toInt ∧ (a 14 g).toInt ≤ (a 15 g).toInt ∧ (a 15 g).toInt ≤ 100000) ∧ (le0 (i 19) 30) ∧ (∀ w, w < 30 → le0 (a 16 w) 5) ∧ (∀ w, w < 30 → le0 (a 17 w) 1095) ∧ (∀ w, w < 30 → le0 (a 18 w) 20) ∧ (∀ w, w < 30 → MK a w (nA a w) (tA a w) (sA a w)) ∧ (i 26 = nI (fb_sm (nA a) 30) ∧ fb_sm (nA a) 30 ≤ 1000) ∧ (le0 (i 39) 36)
theorem INV.kinds {i : Nat → Int32} {a : Nat → Nat → Int32} (h : INV i a) : ∀ k, k < 48 → le0 (a 2 k) 7 := h.1
theorem INV.ra {i : Nat → Int32} {a : Nat → Nat → Int32} (h : INV i a) : ∀ k q, k < 8 → q < 5 → le0 (a 3 (5 * k + q)) 2880 := h.2.1
theorem INV.rb {i : Nat → Int32} {a : Nat → Nat → Int32} (h : INV i a) : ∀ k q, k < 8 → q < 5 → le0 (a 4 (5 * k + q)) 20000 := h.2.2.1
theorem INV.r0 {i : Nat → Int32} {a : Nat → Nat → Int32} (h : INV i a) : ∀ k, k < 8 → 1 ≤ cl (a 3 (5 * k)) ∧ cl (a 3 (5 * k)) ≤ 30 := h.2.2.2.1
theorem INV.r9 {i : Nat → Int32} {a : Nat → Nat → Int32} (h : INV i a) : le0 (i 9) 60 := h.2.2.2.2.1
theorem INV.rd {i : Nat → Int32} {a : Nat → Nat → Int32} (h : INV i a) : ∀ k, k < cl (i 9) → le0 (a 6 k) 1095 ∧ le0 (a 7 k) 100000 := h.2.2.2.2.2.1
theorem INV.s15 {i : Nat → Int32} {a : Nat → Nat → Int32} (h : INV i a) : le0 (i 15) 12 := h.2.2.2.2.2.2.1
theorem INV.sd {i : Nat → Int32} {a : Nat → Nat → Int32} (h : INV i a) : ∀ s, s < cl (i 15) → le0 (a 8 s) 255 ∧ le0 (a 9 s) 1439 ∧ le0 (a 10 s) 1439 ∧ le0 (a 11 s) 20000 := h.2.2.2.2.2.2.2.1
theorem INV.tg {i : Nat → Int32} {a : Nat → Nat → Int32} (h : INV i a) : ∀ k, k < 42 → le0 (a 13 k) 1440 := h.2.2.2.2.2.2.2.2.1
theorem INV.lim {i : Nat → Int32} {a : Nat → Nat → Int32} (h : INV i a) : ∀ g, g < 6 → -100000 ≤ (a 14 g).toInt ∧ (a 14 g).toInt ≤ (a 15 g).toInt ∧ (a 15 g).toInt ≤ 100000 := h.2.2.2.2.2.2.2.2.2.1
theorem INV.w19 {i : Nat → Int32} {a : Nat → Nat → Int32} (h : INV i a) : le0 (i 19) 30 := h.2.2.2.2.2.2.2.2.2.2.1
theorem INV.wg {i : Nat → Int32} {a : Nat → Nat → Int32} (h : INV i a) : ∀ w, w < 30 → le0 (a 16 w) 5 := h.2.2.2.2.2.2.2.2.2.2.2.1
theorem INV.wf {i : Nat → Int32} {a : Nat → Nat → Int32} (h : INV i a) : ∀ w, w < 30 → le0 (a 17 w) 1095 := h.2.2.2.2.2.2.2.2.2.2.2.2.1
theorem INV.wa {i : Nat → Int32} {a : Nat → Nat → Int32} (h : INV i a) : ∀ w, w < 30 → le0 (a 18 w) 20 := h.2.2.2.2.2.2.2.2.2.2.2.2.2.1
theorem INV.wm {i : Nat → Int32} {a : Nat → Nat → Int32} (h : INV i a) : ∀ w, w < 30 → MK a w (nA a w) (tA a w) (sA a w) := h.2.2.2.2.2.2.2.2.2.2.2.2.2.2.1
theorem INV.m26 {i : Nat → Int32} {a : Nat → Nat → Int32} (h : INV i a) : i 26 = nI (fb_sm (nA a) 30) ∧ fb_sm (nA a) 30 ≤ 1000 := h.2.2.2.2.2.2.2.2.2.2.2.2.2.2.2.1
theorem INV.c39 {i : Nat → Int32} {a : Nat → Nat → Int32} (h : INV i a) : le0 (i 39) 36 := h.2.2.2.2.2.2.2.2.2.2.2.2.2.2.2.2
/-- only what is worked with has changed -/
def Scr (i i' : Nat → Int32) (a a' : Nat → Nat → Int32) : Prop := (∀ p, p < 24 → a' p = a p) ∧ ∀ k, k ≠ 30 → k ≠ 38 → i' k = i k
theorem Scr.rf {i : Nat → Int32} {a : Nat → Nat → Int32} : Scr i i a a := ⟨fun _ _ => rfl, fun _ _ _ => rfl⟩
theorem Scr.tr {i i' i2 : Nat → Int32} {a a' a2 : Nat → Nat → Int32} (h : Scr i i' a a') (h2 : Scr i' i2 a' a2) : Scr i i2 a a2 := ⟨fun p hp => (h2.1 p hp).trans (h.1 p hp), fun k x y => (h2.2 k x y).trans (h.2 k x y)⟩
theorem Scr.lk {i : Nat → Int32} {a : Nat → Nat → Int32} {f h : Nat → Int32} {c : Int32} : Scr i (va_up i 38 c) a (lk a f h) := ⟨fun p hp => lk_o (by omega) (by omega), fun k _ h2 => va_n h2⟩
section SC
variable {i i' : Nat → Int32} {a a' : Nat → Nat → Int32}
theorem Scr.inv (h : Scr i i' a a') (hI : INV i a) : INV i' a' := by
  obtain ⟨h1, h2⟩ := h
  obtain ⟨b1, b2, b3, b4, b5, b6, b7, b8, b9, b10, b11, b12, b13, b14, b15, b16, b17⟩ := hI
  have e21 : nA a' = nA a := by funext w; unfold nA; rw [h1 21 (by omega)]
  refine ⟨?_, ?_, ?_, ?_, ?_, ?_, ?_, ?_, ?_, ?_, ?_, ?_, ?_, ?_, ?_, ?_, ?_⟩
  · rw [h1 2 (by omega)]; exact b1
  · rw [h1 3 (by omega)]; exact b2
  · rw [h1 4 (by omega)]; exact b3
  · rw [h1 3 (by omega)]; exact b4
  · rw [h2 9 (by decide) (by decide)]; exact b5
  · rw [h2 9 (by decide) (by decide), h1 6 (by omega), h1 7 (by omega)]; exact b6
  · rw [h2 15 (by decide) (by decide)]; exact b7
  · rw [h2 15 (by decide) (by decide), h1 8 (by omega), h1 9 (by omega), h1 10 (by omega), h1 11 (by omega)]; exact b8
  · rw [h1 13 (by omega)]; exact b9
  · rw [h1 14 (by omega), h1 15 (by omega)]; exact b10
  · rw [h2 19 (by decide) (by decide)]; exact b11
  · rw [h1 16 (by omega)]; exact b12
  · rw [h1 17 (by omega)]; exact b13
  · rw [h1 18 (by omega)]; exact b14
  · intro w hw
    have := (b15 w hw).cong h1
    have e1 : tA a' w = tA a w := by funext k; unfold tA; rw [h1 22 (by omega)]
    have e2 : sA a' w = sA a w := by funext k; unfold sA; rw [h1 23 (by omega)]
    rw [e21, e1, e2]
    exact this
  · rw [h2 26 (by decide) (by decide), e21]; exact b16
  · rw [h2 39 (by decide) (by decide)]; exact b17
theorem Scr.n (h : Scr i i' a a') (w : Nat) : nA a' w = nA a w := by unfold nA; rw [h.1 21 (by omega)]
theorem Scr.t (h : Scr i i' a a') (w : Nat) : tA a' w = tA a w := by funext k; unfold tA; rw [h.1 22 (by omega)]
theorem Scr.s (h : Scr i i' a a') (w : Nat) : sA a' w = sA a w := by funext k; unfold sA; rw [h.1 23 (by omega)]
theorem Scr.g (h : Scr i i' a a') (w : Nat) : gA a' w = gA a w := by unfold gA; rw [h.1 16 (by omega)]
theorem Scr.r (h : Scr i i' a a') (w : Nat) : rolA a' w = rolA a w := by unfold rolA; rw [h.t, h.s, h.n]
theorem Scr.kd (h : Scr i i' a a') (g day : Nat) : kdA a' g day = kdA a g day := by unfold kdA; rw [h.1 2 (by omega), h.1 1 (by omega)]
theorem Scr.ru (h : Scr i i' a a') (kd : Nat) : ruA a' kd = ruA a kd := by funext q; unfold ruA; rw [h.1 3 (by omega)]
theorem Scr.rb (h : Scr i i' a a') (kd : Nat) : rbA a' kd = rbA a kd := by funext q; unfold rbA; rw [h.1 4 (by omega)]
theorem Scr.p (h : Scr i i' a a') : pA a' = pA a := by funext q; unfold pA; rw [h.1 11 (by omega)]
theorem Scr.rt (h : Scr i i' a a') (g day : Nat) : rtA i' a' g day = rtA i a g day := by unfold rtA; rw [h.1 7 (by omega), h.1 5 (by omega), h.1 6 (by omega), h.2 9 (by decide) (by decide)]
theorem Scr.d (h : Scr i i' a a') (w day : Nat) : dA a' w day = dA a w day := by unfold dA; rw [h.t, h.r, h.n, h.g, h.kd, h.ru, h.rb]
theorem Scr.paid (h : Scr i i' a a') (w day : Nat) : paidA a' w day = paidA a w day := by unfold paidA; rw [h.d]
theorem Scr.ex (h : Scr i i' a a') (kd ns : Nat) (p : Nat → Nat) : exA a' kd ns p = exA a kd ns p := by
  funext m
  unfold exA meA
  rw [h.1 12 (by omega), h.1 8 (by omega), h.1 9 (by omega), h.1 10 (by omega), h.1 11 (by omega)]
theorem Scr.sha (h : Scr i i' a a') (w day : Nat) : shaA i' a' w day = shaA i a w day := by unfold shaA; rw [h.d, h.g, h.kd, h.rb, h.ex, h.p, h.2 15 (by decide) (by decide)]
theorem Scr.cent (h : Scr i i' a a') (w day : Nat) : centA i' a' w day = centA i a w day := by unfold centA; rw [h.sha, h.g, h.rt]
theorem Scr.due (h : Scr i i' a a') (w day : Nat) : dueA a' w day = dueA a w day := by unfold dueA; rw [h.1 1 (by omega), h.1 17 (by omega), h.1 19 (by omega), h.1 20 (by omega), h.1 18 (by omega), h.1 13 (by omega), h.g]
end SC
section SI
variable {i : Nat → Int32} {a : Nat → Nat → Int32}
theorem INV.gl (h : INV i a) {w : Nat} (hw : w < 30) : gA a w < 6 := by have := (h.wg w hw).2; unfold gA; omega
theorem INV.h16 (h : INV i a) {w : Nat} (hw : w < 30) : a 16 w = nI (gA a w) := (h.wg w hw).1
theorem kd_ix {a : Nat → Nat → Int32} {g day : Nat} (hg : g < 6) : 8 * g + (if a 1 day = 0 then day % 7 else 7) < 48 := by
  have := Nat.mod_lt day (show 0 < 7 by decide)
  split <;> omega
theorem INV.kdl (h : INV i a) {g day : Nat} (hg : g < 6) : kdA a g day < 8 := by have := (h.kinds _ (kd_ix (a := a) (day := day) hg)).2; unfold kdA; omega
theorem INV.hk (h : INV i a) {g day : Nat} (hg : g < 6) : a 2 (8 * g + (if a 1 day = 0 then day % 7 else 7)) = nI (kdA a g day) := (h.kinds _ (kd_ix hg)).1
theorem INV.rul (h : INV i a) {kd : Nat} (hk : kd < 8) : RuL a kd (ruA a kd) (rbA a kd) := ⟨hk, fun q hq => (h.ra kd q hk hq).1, fun q hq => (h.rb kd q hk hq).1, h.r0 kd hk, fun q hq => (h.ra kd q hk hq).2, fun q hq => (h.rb kd q hk hq).2⟩
theorem INV.su (h : INV i a) : SU i a (cl (i 15)) (pA a) := ⟨h.s15.2, h.s15.1, fun s hs => (h.sd s hs).2.2.2.1, fun s hs => (h.sd s hs).2.2.2.2⟩
theorem INV.rt (h : INV i a) (g day : Nat) : rcents (a 7) (rbest (a 5) (a 6) (nI g) (nI day) (cl (i 9))) = nI (rtA i a g day) ∧ rtA i a g day ≤ 100000 := by
  unfold rtA
  cases hb : rbest (a 5) (a 6) (nI g) (nI day) (cl (i 9)) with
  | none => exact ⟨by show (0 : Int32) = nI (cl 0); decide, by show cl 0 ≤ 100000; decide⟩
  | some q => exact (h.rd q (rbest_lt hb)).2
theorem INV.fi (h : INV i a) {w : Nat} (hw : w < 30) : a 17 w = nI (cl (a 17 w)) ∧ cl (a 17 w) < 1096 := ⟨(h.wf w hw).1, by have := (h.wf w hw).2; omega⟩
theorem paidA_le (a : Nat → Nat → Int32) (w day : Nat) : paidA a w day ≤ 2880 := fb_ct_le _ _
theorem centA_le (h : INV i a) {w day : Nat} (hw : w < 30) : centA i a w day ≤ 200000000 := by
  have hs : shaA i a w day ≤ 2880 * 270000 := by
    refine fb_sm_b (fun k _ => ?_) (Nat.le_refl _)
    have he := exA_le (kd := kdA a (gA a w) day) (m := k) h.su
    have hb := (h.rb (kdA a (gA a w) day) 4 (h.kdl (h.gl hw)) (by omega)).2
    unfold shN
    split
    · split
      · unfold rbA; omega
      · omega
    · omega
  have := Nat.mul_le_mul hs (h.rt (gA a w) day).2
  unfold centA centsN
  split <;> omega
end SI
/-- mark k is the first of an ended shift on its day -/
def fsD (t r : Nat → Nat) (k : Nat) : Bool := decide (r k = 1) && decide (∀ q, q < k → ¬ (r q = 1 ∧ t q / 1440 = t k / 1440))
/-- what the days from lo to ahead of hi add up to, over the marks ahead of k -/
def dSum (t r V : Nat → Nat) (lo hi : Nat) : Nat → Nat := fb_sm (fun k => if fsD t r k = true ∧ lo ≤ t k / 1440 ∧ t k / 1440 < hi then V (t k / 1440) else 0)
theorem dSum_add {t r V : Nat → Nat} {lo mi hi : Nat} (h1 : lo ≤ mi) (h2 : mi ≤ hi) (k : Nat) : dSum t r V lo mi k + dSum t r V mi hi k = dSum t r V lo hi k := by
  unfold dSum
  rw [← fb_sm_add]
  refine fb_sm_cong (fun q _ => ?_)
  cases fsD t r q with
  | false => rfl
  | true =>
    by_cases z : lo ≤ t q / 1440 ∧ t q / 1440 < mi
    · rw [if_pos ⟨rfl, z⟩, if_neg (fun y => by omega), if_pos ⟨rfl, by omega, by omega⟩]; rfl
    · rw [if_neg (fun y => z y.2)]
      by_cases u : mi ≤ t q / 1440 ∧ t q / 1440 < hi
      · rw [if_pos ⟨rfl, u⟩, if_pos ⟨rfl, by omega, by omega⟩]; omega
      · rw [if_neg (fun y => u y.2), if_neg (fun y => by omega)]
