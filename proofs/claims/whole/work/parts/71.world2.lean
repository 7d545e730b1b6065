/-! What the class's world has to do with the reference's state. -/
section EV
variable {E : am_E} {d : Nat} {τ : am_T} {P : Option Value → am_M → Prop} {pc bc bs q : Nat} {L : List (Option Value)} {r : List Value} {M : am_M}
theorem ev_gf {idx ci k : Nat} {fs : List Value} {v : Value} (ha : am_at τ pc = some (.getfield idx, 3)) (hf : am_fl τ.1 idx = some (ci, k)) (hM : M.2 q = some (.inr (ci, fs))) (hv : fs[k]? = some v) (kk : am_ev E d τ (pc + 3, L, v :: r, M, bc, bs) P) : am_ev E d τ (pc, L, .ref q :: r, M, bc, bs) P := by
  refine ev_s (ps := []) ?_ (fun q hq => by cases hq) kk
  unfold am_s
  simp only [ha]
  have e : Nat.beq 3 (am_len (.getfield idx) 3) = true := rfl
  rw [e]
  simp only [cond, am_ex, hf, hM, Nat.beq_refl, hv]
theorem ev_ia {n : Nat} {f : Nat → Int32} {x : Int32} (ha : am_at τ pc = some (.iaload, 1)) (hM : M.2 q = some (.inl (0, n, .inl f))) (hin : vp_in x n) (kk : am_ev E d τ (pc + 1, L, .int (f x.toNatClampNeg) :: r, M, bc, bs) P) : am_ev E d τ (pc, L, .int x :: .ref q :: r, M, bc, bs) P := by
  refine ev_s (ps := [vp_in x n]) ?_ (am_all_mem (l := [vp_in x n]) ⟨hin, trivial⟩) kk
  unfold am_s
  simp only [ha]
  have e : Nat.beq 1 (am_len .iaload 1) = true := rfl
  rw [e]
  simp only [cond, am_ex, hM]
end EV
abbrev CX (i : Nat → Int32) (a : Nat → Nat → Int32) (ri : Nat → Int32) (rA : Nat → Nat → Int32) : Prop := (i 0 = ri 2) ∧ (i 1 = ri 19) ∧ (i 2 = ri 26) ∧ (i 3 = ri 39) ∧ (i 4 = ri 9) ∧ (i 8 = ri 15) ∧ (∀ g, g < 6 → i (20 + 3 * g) = nI g ∧ i (21 + 3 * g) = rA 14 g ∧ i (22 + 3 * g) = rA 15 g) ∧ (∀ g k, g < 6 → k < 8 → a (21 + 3 * g) k = rA 2 (8 * g + k)) ∧ (∀ g k, g < 6 → k < 7 → a (22 + 3 * g) k = rA 13 (7 * g + k)) ∧ (∀ k, k < 1096 → a 1 k = rA 1 k) ∧ (∀ k q, k < 8 → q < 5 → a (39 + 3 * k) q = rA 3 (5 * k + q) ∧ a (40 + 3 * k) q = rA 4 (5 * k + q)) ∧ (∀ k, k < cl (ri 9) → a 5 k = rA 5 k ∧ a 6 k = rA 6 k ∧ a 7 k = rA 7 k) ∧ (∀ s, s < cl (ri 15) → a 9 s = rA 8 s ∧ a 10 s = rA 9 s ∧ a 11 s = rA 10 s ∧ a 12 s = rA 11 s) ∧ (∀ s, s < 12 → a 13 s = nI (cl (a 13 s)) ∧ cl (a 13 s) < 4096 ∧ ∀ t, t < 12 → (cl (a 13 s)).testBit t = decide (¬ rA 12 (12 * s + t) = 0))
theorem CX.i0 {i : Nat → Int32} {a : Nat → Nat → Int32} {ri : Nat → Int32} {rA : Nat → Nat → Int32} (h : CX i a ri rA) : i 0 = ri 2 := h.1
theorem CX.i1 {i : Nat → Int32} {a : Nat → Nat → Int32} {ri : Nat → Int32} {rA : Nat → Nat → Int32} (h : CX i a ri rA) : i 1 = ri 19 := h.2.1
theorem CX.i2 {i : Nat → Int32} {a : Nat → Nat → Int32} {ri : Nat → Int32} {rA : Nat → Nat → Int32} (h : CX i a ri rA) : i 2 = ri 26 := h.2.2.1
theorem CX.i3 {i : Nat → Int32} {a : Nat → Nat → Int32} {ri : Nat → Int32} {rA : Nat → Nat → Int32} (h : CX i a ri rA) : i 3 = ri 39 := h.2.2.2.1
theorem CX.i4 {i : Nat → Int32} {a : Nat → Nat → Int32} {ri : Nat → Int32} {rA : Nat → Nat → Int32} (h : CX i a ri rA) : i 4 = ri 9 := h.2.2.2.2.1
theorem CX.i8 {i : Nat → Int32} {a : Nat → Nat → Int32} {ri : Nat → Int32} {rA : Nat → Nat → Int32} (h : CX i a ri rA) : i 8 = ri 15 := h.2.2.2.2.2.1
theorem CX.gn {i : Nat → Int32} {a : Nat → Nat → Int32} {ri : Nat → Int32} {rA : Nat → Nat → Int32} (h : CX i a ri rA) : ∀ g, g < 6 → i (20 + 3 * g) = nI g ∧ i (21 + 3 * g) = rA 14 g ∧ i (22 + 3 * g) = rA 15 g := h.2.2.2.2.2.2.1
theorem CX.gk {i : Nat → Int32} {a : Nat → Nat → Int32} {ri : Nat → Int32} {rA : Nat → Nat → Int32} (h : CX i a ri rA) : ∀ g k, g < 6 → k < 8 → a (21 + 3 * g) k = rA 2 (8 * g + k) := h.2.2.2.2.2.2.2.1
theorem CX.gt {i : Nat → Int32} {a : Nat → Nat → Int32} {ri : Nat → Int32} {rA : Nat → Nat → Int32} (h : CX i a ri rA) : ∀ g k, g < 6 → k < 7 → a (22 + 3 * g) k = rA 13 (7 * g + k) := h.2.2.2.2.2.2.2.2.1
theorem CX.fe {i : Nat → Int32} {a : Nat → Nat → Int32} {ri : Nat → Int32} {rA : Nat → Nat → Int32} (h : CX i a ri rA) : ∀ k, k < 1096 → a 1 k = rA 1 k := h.2.2.2.2.2.2.2.2.2.1
theorem CX.ra {i : Nat → Int32} {a : Nat → Nat → Int32} {ri : Nat → Int32} {rA : Nat → Nat → Int32} (h : CX i a ri rA) : ∀ k q, k < 8 → q < 5 → a (39 + 3 * k) q = rA 3 (5 * k + q) ∧ a (40 + 3 * k) q = rA 4 (5 * k + q) := h.2.2.2.2.2.2.2.2.2.2.1
theorem CX.rt {i : Nat → Int32} {a : Nat → Nat → Int32} {ri : Nat → Int32} {rA : Nat → Nat → Int32} (h : CX i a ri rA) : ∀ k, k < cl (ri 9) → a 5 k = rA 5 k ∧ a 6 k = rA 6 k ∧ a 7 k = rA 7 k := h.2.2.2.2.2.2.2.2.2.2.2.1
theorem CX.su {i : Nat → Int32} {a : Nat → Nat → Int32} {ri : Nat → Int32} {rA : Nat → Nat → Int32} (h : CX i a ri rA) : ∀ s, s < cl (ri 15) → a 9 s = rA 8 s ∧ a 10 s = rA 9 s ∧ a 11 s = rA 10 s ∧ a 12 s = rA 11 s := h.2.2.2.2.2.2.2.2.2.2.2.2.1
theorem CX.ex {i : Nat → Int32} {a : Nat → Nat → Int32} {ri : Nat → Int32} {rA : Nat → Nat → Int32} (h : CX i a ri rA) : ∀ s, s < 12 → a 13 s = nI (cl (a 13 s)) ∧ cl (a 13 s) < 4096 ∧ ∀ t, t < 12 → (cl (a 13 s)).testBit t = decide (¬ rA 12 (12 * s + t) = 0) := h.2.2.2.2.2.2.2.2.2.2.2.2.2
abbrev CW (i : Nat → Int32) (a : Nat → Nat → Int32) (b : Nat → Nat → Int64) (rA : Nat → Nat → Int32) (rb : Nat → Nat → Int64) (w : Nat) : Prop := (i 62 = rA 17 w) ∧ (i 63 = rA 21 w) ∧ (i 67 = rA 18 w) ∧ (∀ k, k < nA rA w → a 64 k = rA 22 (400 * w + k)) ∧ (∀ k, k < nA rA w → a 65 k = rA 23 (400 * w + k)) ∧ (∀ k, k < nA rA w → a 66 k = nI (rolA rA w k)) ∧ (∀ k, k < cl (rA 18 w) → a 67 k = rA 19 (20 * w + k) ∧ a 68 k = rA 20 (20 * w + k)) ∧ (∀ m, m < 36 → b 70 m = rb 32 (36 * w + m) ∧ b 71 m = rb 33 (36 * w + m) ∧ b 72 m = rb 34 (36 * w + m) ∧ b 73 m = rb 35 (36 * w + m) ∧ b 74 m = rb 36 (36 * w + m))
theorem CW.f {i : Nat → Int32} {a : Nat → Nat → Int32} {b : Nat → Nat → Int64} {rA : Nat → Nat → Int32} {rb : Nat → Nat → Int64} {w : Nat} (h : CW i a b rA rb w) : i 62 = rA 17 w := h.1
theorem CW.n {i : Nat → Int32} {a : Nat → Nat → Int32} {b : Nat → Nat → Int64} {rA : Nat → Nat → Int32} {rb : Nat → Nat → Int64} {w : Nat} (h : CW i a b rA rb w) : i 63 = rA 21 w := h.2.1
theorem CW.ab {i : Nat → Int32} {a : Nat → Nat → Int32} {b : Nat → Nat → Int64} {rA : Nat → Nat → Int32} {rb : Nat → Nat → Int64} {w : Nat} (h : CW i a b rA rb w) : i 67 = rA 18 w := h.2.2.1
theorem CW.t {i : Nat → Int32} {a : Nat → Nat → Int32} {b : Nat → Nat → Int64} {rA : Nat → Nat → Int32} {rb : Nat → Nat → Int64} {w : Nat} (h : CW i a b rA rb w) : ∀ k, k < nA rA w → a 64 k = rA 22 (400 * w + k) := h.2.2.2.1
theorem CW.s {i : Nat → Int32} {a : Nat → Nat → Int32} {b : Nat → Nat → Int64} {rA : Nat → Nat → Int32} {rb : Nat → Nat → Int64} {w : Nat} (h : CW i a b rA rb w) : ∀ k, k < nA rA w → a 65 k = rA 23 (400 * w + k) := h.2.2.2.2.1
theorem CW.r {i : Nat → Int32} {a : Nat → Nat → Int32} {b : Nat → Nat → Int64} {rA : Nat → Nat → Int32} {rb : Nat → Nat → Int64} {w : Nat} (h : CW i a b rA rb w) : ∀ k, k < nA rA w → a 66 k = nI (rolA rA w k) := h.2.2.2.2.2.1
theorem CW.aw {i : Nat → Int32} {a : Nat → Nat → Int32} {b : Nat → Nat → Int64} {rA : Nat → Nat → Int32} {rb : Nat → Nat → Int64} {w : Nat} (h : CW i a b rA rb w) : ∀ k, k < cl (rA 18 w) → a 67 k = rA 19 (20 * w + k) ∧ a 68 k = rA 20 (20 * w + k) := h.2.2.2.2.2.2.1
theorem CW.b {i : Nat → Int32} {a : Nat → Nat → Int32} {b : Nat → Nat → Int64} {rA : Nat → Nat → Int32} {rb : Nat → Nat → Int64} {w : Nat} (h : CW i a b rA rb w) : ∀ m, m < 36 → b 70 m = rb 32 (36 * w + m) ∧ b 71 m = rb 33 (36 * w + m) ∧ b 72 m = rb 34 (36 * w + m) ∧ b 73 m = rb 35 (36 * w + m) ∧ b 74 m = rb 36 (36 * w + m) := h.2.2.2.2.2.2.2
/-- only the sheet has changed -/
def Sx (i i' : Nat → Int32) (a a' : Nat → Nat → Int32) : Prop := (∀ k, k ≠ 15 → i' k = i k) ∧ ∀ p, p < 16 ∨ 18 < p → a' p = a p
theorem Sx.rf {i : Nat → Int32} {a : Nat → Nat → Int32} : Sx i i a a := ⟨fun _ _ => rfl, fun _ _ => rfl⟩
theorem Sx.tr {i i' i2 : Nat → Int32} {a a' a2 : Nat → Nat → Int32} (h : Sx i i' a a') (h2 : Sx i' i2 a' a2) : Sx i i2 a a2 := ⟨fun k hk => (h2.1 k hk).trans (h.1 k hk), fun p hp => (h2.2 p hp).trans (h.2 p hp)⟩
theorem Sx.sh {i : Nat → Int32} {a : Nat → Nat → Int32} {z : Int32} {F T C : Nat → Int32} : Sx i (va_up i 15 z) a (va_up (va_up (va_up a 16 F) 17 T) 18 C) := ⟨fun k hk => va_n hk, fun p hp => by rw [va_n (by omega), va_n (by omega), va_n (by omega)]⟩
section CS
variable {i i' ri : Nat → Int32} {a a' rA : Nat → Nat → Int32} {b rb : Nat → Nat → Int64} {w : Nat}
theorem Sx.cx (h : Sx i i' a a') (hc : CX i a ri rA) : CX i' a' ri rA := by
  obtain ⟨h1, h2⟩ := h
  obtain ⟨c1, c2, c3, c4, c5, c6, c7, c8, c9, c10, c11, c12, c13, c14⟩ := hc
  refine ⟨by rw [h1 0 (by decide)]; exact c1, by rw [h1 1 (by decide)]; exact c2, by rw [h1 2 (by decide)]; exact c3, by rw [h1 3 (by decide)]; exact c4, by rw [h1 4 (by decide)]; exact c5, by rw [h1 8 (by decide)]; exact c6, fun g hg => ?_, fun g k hg hk => ?_, fun g k hg hk => ?_, by rw [h2 1 (by omega)]; exact c10, fun k q hk hq => ?_, by rw [h2 5 (by omega), h2 6 (by omega), h2 7 (by omega)]; exact c12, by rw [h2 9 (by omega), h2 10 (by omega), h2 11 (by omega), h2 12 (by omega)]; exact c13, by rw [h2 13 (by omega)]; exact c14⟩
  · rw [h1 (20 + 3 * g) (by omega), h1 (21 + 3 * g) (by omega), h1 (22 + 3 * g) (by omega)]; exact c7 g hg
  · rw [h2 (21 + 3 * g) (by omega)]; exact c8 g k hg hk
  · rw [h2 (22 + 3 * g) (by omega)]; exact c9 g k hg hk
  · rw [h2 (39 + 3 * k) (by omega), h2 (40 + 3 * k) (by omega)]; exact c11 k q hk hq
theorem Sx.cw (h : Sx i i' a a') (hc : CW i a b rA rb w) : CW i' a' b rA rb w := by
  obtain ⟨h1, h2⟩ := h
  obtain ⟨c1, c2, c3, c4, c5, c6, c7, c8⟩ := hc
  exact ⟨by rw [h1 62 (by decide)]; exact c1, by rw [h1 63 (by decide)]; exact c2, by rw [h1 67 (by decide)]; exact c3, by rw [h2 64 (by omega)]; exact c4, by rw [h2 65 (by omega)]; exact c5, by rw [h2 66 (by omega)]; exact c6, by rw [h2 67 (by omega), h2 68 (by omega)]; exact c7, c8⟩
theorem pR_le (t s : Nat → Nat) : ∀ n k, pR t s n k ≤ 4
  | 0, k => by show (0 : Nat) ≤ 4; omega
  | n + 1, k => by
    have ih := pR_le t s n
    unfold pR
    repeat' split
    all_goals
      unfold upN
      repeat' split
      all_goals first | omega | exact ih k
theorem CW.ma (hc : CW i a b rA rb w) (hI : INV ri rA) (hw : w < 30) : MA (nA rA w) (a 64) (a 65) (a 66) (tA rA w) (sA rA w) (rolA rA w) := by
  have hm := hI.wm w hw
  refine ⟨hm.n4, fun k hk => by rw [hc.t k hk]; exact hm.ht k hk, fun k hk => by rw [hc.s k hk]; exact hm.hs k hk, hc.r, hm.s3, fun k _ => pR_le _ _ _ _, hm.t2, hm.inc⟩
theorem CW.n' (hc : CW i a b rA rb w) (hI : INV ri rA) (hw : w < 30) : i 63 = nI (nA rA w) := by rw [hc.n]; exact (hI.wm w hw).h21
theorem CX.sv (hc : CX i a ri rA) (hI : INV ri rA) : SV (cl (ri 15)) (a 9) (a 10) (a 11) (a 12) (pA rA) := by
  refine ⟨hI.s15.2, fun s hs => ?_, fun s hs => ?_, fun s hs => ?_, fun s hs => ?_, fun s hs => ?_⟩
  · rw [(hc.su s hs).1]; exact (hI.sd s hs).1
  · rw [(hc.su s hs).2.1]; exact (hI.sd s hs).2.1
  · rw [(hc.su s hs).2.2.1]; exact (hI.sd s hs).2.2.1
  · rw [(hc.su s hs).2.2.2]; exact (hI.sd s hs).2.2.2.1
  · exact (hI.sd s hs).2.2.2.2
theorem CX.exv (hc : CX i a ri rA) (hI : INV ri rA) {kd m : Nat} : exV (a 9) (a 10) (a 11) (a 12) (fun s => cl (a 13 s)) (pA rA) kd (cl (ri 15)) m = exA rA kd (cl (ri 15)) (pA rA) m := by
  have h12 := hI.s15.2
  unfold exV exA
  have e : ∀ s, s < cl (ri 15) → a 12 s = rA 11 s := fun s hs => (hc.su s hs).2.2.2
  unfold exN
  refine fb_sm_cong (fun s hs => ?_)
  have e2 : ctB (fun s t => (cl (a 13 s)).testBit t) (meV (a 9) (a 10) (a 11) kd (m % 1440)) (a 12) (cl (ri 15)) s = ctB (fun s t => decide (¬ rA 12 (12 * s + t) = 0)) (meA rA kd m) (rA 11) (cl (ri 15)) s := by
    have hme : ∀ t, t < cl (ri 15) → meV (a 9) (a 10) (a 11) kd (m % 1440) t = meA rA kd m t := fun t ht => by
      unfold meV meA
      rw [(hc.su t ht).1, (hc.su t ht).2.1, (hc.su t ht).2.2.1]
    unfold ctB
    rw [hme s hs]
    congr 2
    refine decide_eq_decide.mpr ⟨fun ⟨t, t1, t2, t3, t4⟩ => ⟨t, t1, ?_, ?_, ?_⟩, fun ⟨t, t1, t2, t3, t4⟩ => ⟨t, t1, ?_, ?_, ?_⟩⟩
    · show decide (¬ rA 12 (12 * s + t) = 0) = true; rw [← (hc.ex s (by omega)).2.2 t (by omega)]; exact t2
    · rw [← hme t t1]; exact t3
    · unfold btB at t4 ⊢; rw [← e s hs, ← e t t1]; exact t4
    · show (cl (a 13 s)).testBit t = true; rw [(hc.ex s (by omega)).2.2 t (by omega)]; exact t2
    · rw [hme t t1]; exact t3
    · unfold btB at t4 ⊢; rw [e s hs, e t t1]; exact t4
  rw [e2]
end CS
section X8
variable {E : am_E} {d : Nat} {i ri : Nat → Int32} {j : Nat → Int64} {a rA : Nat → Nat → Int32} {b rb : Nat → Nat → Int64} {W : Nat → Option Nat} {g w : Nat}
theorem x8_kindOf {h day : Nat} (hh : h < 6) (hd : day < 1096) (hc : CX i a ri rA) (hI : INV ri rA) : am_D E (d + 1) tX8_kindOf [.ref 0, .ref (20 + 3 * h), .int (nI day)] (am_L (xw i j a b W g)) 0 0 (some (.int (nI (kdA rA h day)))) (am_L (xw i j a b W g)) := by
  have v1 : vp_in (nI day) 1096 := vp_in_nI hd (by omega)
  have c1 : (nI day).toNatClampNeg = day := nI_clamp (by omega)
  have h7 : day % 7 < 7 := Nat.mod_lt _ (by decide)
  have er : nI day - nI day / nI 7 * nI 7 = nI (day % 7) := pk_rem (by omega) (by omega) (by omega)
  have hk := hI.hk (day := day) hh
  have f1 := hc.fe day hd
  have hkk : ∀ k, k < 8 → a (21 + 3 * h) (nI k).toNatClampNeg = rA 2 (8 * h + k) := fun k hk => by rw [nI_clamp (by omega)]; exact hc.gk h k hh hk
  have fin : ∀ k, k < 8 → (k = if rA 1 day = 0 then day % 7 else 7) → some (Value.int (a (21 + 3 * h) (nI k).toNatClampNeg)) = some (.int (nI (kdA rA h day))) := fun k hk8 hkk2 => by
    rw [hkk k hk8, hkk2, hk]
  rcases (show h = 0 ∨ h = 1 ∨ h = 2 ∨ h = 3 ∨ h = 4 ∨ h = 5 by omega) with e | e | e | e | e | e <;> subst e <;> (
    refine am_D_of (Nat.le_of_ble_eq_true rfl) ?_
    refine ev_go 999 rfl ⟨v1, trivial⟩ ?_
    refine ev_if (fun h => ?_) (fun h => ?_)
    · have h : a 1 (nI day).toNatClampNeg = 0 := h
      rw [c1, f1] at h
      refine ev_go 999 rfl ⟨by decide, by show vp_in (nI day - nI day / nI 7 * nI 7) 8; rw [er]; exact vp_in_nI (by omega) (by omega), trivial⟩ ?_
      refine ev_ret rfl trivial ⟨?_, rfl⟩
      have := fin (day % 7) (by omega) (by rw [if_pos h])
      rw [← er] at this
      exact this
    · have h : ¬ a 1 (nI day).toNatClampNeg = 0 := h
      rw [c1, f1] at h
      refine ev_go 999 rfl trivial ?_
      refine ev_go 999 rfl ⟨vp_in_nI (n := 7) (by omega) (by omega), trivial⟩ ?_
      refine ev_ret rfl trivial ⟨?_, rfl⟩
      exact fin 7 (by omega) (by rw [if_neg h]))
theorem awB_cong {F T F' T' : Nat → Int32} {day : Int32} : ∀ n, (∀ k, k < n → F k = F' k ∧ T k = T' k) → awB F T day n = awB F' T' day n
  | 0, _ => rfl
  | n + 1, h => by
    unfold awB
    rw [awB_cong n (fun k hk => h k (by omega)), (h n (by omega)).1, (h n (by omega)).2]
theorem awB_yes {F T : Nat → Int32} {day : Int32} {k : Nat} (h : inB day (F k) (T k) = true) : ∀ n, k < n → awB F T day n = true
  | 0, hn => absurd hn (Nat.not_lt_zero k)
  | n + 1, hn => by
    unfold awB
    rcases Nat.lt_or_ge k n with w | w
    · rw [awB_yes h n w]; rfl
    · rw [show n = k by omega, h, Bool.or_true]
theorem awB_no {F T : Nat → Int32} {day : Int32} : ∀ n, (∀ k, k < n → inB day (F k) (T k) = false) → awB F T day n = false
  | 0, _ => rfl
  | n + 1, h => by
    unfold awB
    rw [awB_no n (fun k hk => h k (by omega)), h n (by omega)]
    rfl
theorem x7_isAway {day : Nat} {n : Nat} (hn : n ≤ 20) (hab : i 67 = nI n) : am_D E (d + 1) tX7_isAway [.ref 62, .int (nI day)] (am_L (xw i j a b W g)) 0 0 (some (.int (bI (awB (a 67) (a 68) (nI day) n)))) (am_L (xw i j a b W g)) := by
  refine am_D_of (Nat.le_of_ble_eq_true rfl) ?_
  refine ev_go 2 rfl trivial ?_
  have loop : ∀ m k, n - k = m → k ≤ n → (∀ q, q < k → inB (nI day) (a 67 q) (a 68 q) = false) → am_ev E d tX7_isAway (2, [some (.ref 62), some (.int (nI day)), some (.int (nI k))], [], am_L (xw i j a b W g), 0, 0) (fun v' M'' => v' = some (.int (bI (awB (a 67) (a 68) (nI day) n))) ∧ M'' = am_L (xw i j a b W g)) := by
    intro m
    induction m with
    | zero =>
      intro k e1 e2 hq
      have e : k = n := by omega
      rw [e] at hq ⊢
      rw [awB_no n hq]
      refine ev_go 999 rfl trivial ?_
      refine ev_pos (by show i 67 ≤ nI n; rw [hab]; exact nI_le (Nat.le_refl _) (by omega)) ?_
      refine ev_go 999 rfl trivial ?_
      exact ev_ret rfl ⟨Or.inl rfl, trivial⟩ ⟨rfl, rfl⟩
    | succ m ih =>
      intro k e1 e2 hq
      have v : vp_in (nI k) 20 := vp_in_nI (by omega) (by omega)
      have c : (nI k).toNatClampNeg = k := nI_clamp (by omega)
      have next : inB (nI day) (a 67 k) (a 68 k) = false → am_ev E d tX7_isAway (32, [some (.ref 62), some (.int (nI day)), some (.int (nI k))], [], am_L (xw i j a b W g), 0, 0) (fun v' M'' => v' = some (.int (bI (awB (a 67) (a 68) (nI day) n))) ∧ M'' = am_L (xw i j a b W g)) := fun hf => by
        have kk := ih (k + 1) (by omega) (by omega) (fun q hq2 => by
          rcases Nat.lt_or_ge q k with w | w
          · exact hq q w
          · rw [show q = k by omega]; exact hf)
        rw [← nI_1 k] at kk
        refine ev_go 999 rfl trivial ?_
        exact kk
      refine ev_go 999 rfl trivial ?_
      refine ev_neg (by show ¬ i 67 ≤ nI k; rw [hab]; exact nI_ge (by omega) (by omega)) ?_
      refine ev_go 999 rfl ⟨v, trivial⟩ ?_
      refine ev_if (fun h => ?_) (fun h => ?_)
      · have h : nI day < a 67 (nI k).toNatClampNeg := h
        rw [c] at h
        exact next (by unfold inB; rw [decide_eq_false (Int32.not_le.mpr h), Bool.false_and])
      · have h1 : ¬ nI day < a 67 (nI k).toNatClampNeg := h
        rw [c] at h1
        refine ev_go 999 rfl ⟨v, trivial⟩ ?_
        refine ev_if (fun h => ?_) (fun h => ?_)
        · have h : a 68 (nI k).toNatClampNeg < nI day := h
          rw [c] at h
          exact next (by unfold inB; rw [decide_eq_false (Int32.not_le.mpr h), Bool.and_false])
        · have h2 : ¬ a 68 (nI k).toNatClampNeg < nI day := h
          rw [c] at h2
          rw [awB_yes (k := k) (by unfold inB; rw [decide_eq_true (Int32.not_lt.mp h1), decide_eq_true (Int32.not_lt.mp h2)]; rfl) n (by omega)]
          refine ev_go 999 rfl trivial ?_
          exact ev_ret rfl ⟨Or.inr rfl, trivial⟩ ⟨rfl, rfl⟩
  exact loop n 0 (by omega) (Nat.zero_le _) (fun q hq => absurd hq (Nat.not_lt_zero q))
theorem x8_dueOf {day : Nat} (hw : w < 30) (hd : day < 1096) (hc : CX i a ri rA) (hcw : CW i a b rA rb w) (hI : INV ri rA) : am_D E (d + 2) tX8_dueOf [.ref 0, .ref 62, .int (nI day)] (am_L (xw i j a b W (gA rA w))) 0 0 (some (.int (nI (dueA rA w day)))) (am_L (xw i j a b W (gA rA w))) := by
  have v1 : vp_in (nI day) 1096 := vp_in_nI hd (by omega)
  have c1 : (nI day).toNatClampNeg = day := nI_clamp (by omega)
  have h7 : day % 7 < 7 := Nat.mod_lt _ (by decide)
  have er : nI day - nI day / nI 7 * nI 7 = nI (day % 7) := pk_rem (by omega) (by omega) (by omega)
  have f1 := hc.fe day hd
  have hg := hI.gl hw
  have ha := hI.wa w hw
  have hab : i 67 = nI (cl (rA 18 w)) := by rw [hcw.ab]; exact ha.1
  have haw := x7_isAway (E := E) (d := d) (i := i) (j := j) (a := a) (b := b) (W := W) (g := gA rA w) (day := day) ha.2 hab
  rw [awB_cong (cl (rA 18 w)) (F' := fun k => rA 19 (20 * w + k)) (T' := fun k => rA 20 (20 * w + k)) (fun k hk => hcw.aw k hk)] at haw
  have h42 : 7 * gA rA w + day % 7 < 42 := by omega
  have htg : a (22 + 3 * gA rA w) (nI (day % 7)).toNatClampNeg = nI (cl (rA 13 (7 * gA rA w + day % 7))) := by
    rw [nI_clamp (by omega), hc.gt _ _ hg h7]
    exact (hI.tg _ h42).1
  have fz : ∀ {P : Option Value → am_M → Prop}, P (some (.int 0)) (am_L (xw i j a b W (gA rA w))) → am_ev E (d + 1) tX8_dueOf (25, [some (.ref 0), some (.ref 62), some (.int (nI day))], [], am_L (xw i j a b W (gA rA w)), 0, 0) P := fun {P} hp => by
    refine ev_go 999 rfl trivial ?_
    exact ev_ret rfl trivial hp
  unfold dueA
  refine am_D_of (Nat.le_of_ble_eq_true rfl) ?_
  refine ev_go 999 rfl ⟨v1, trivial⟩ ?_
  refine ev_if (fun h => ?_) (fun h => ?_)
  · have h : ¬ a 1 (nI day).toNatClampNeg = 0 := h
    rw [c1, f1] at h
    rw [decide_eq_true h, Bool.true_or, Bool.true_or, if_pos rfl]
    exact fz ⟨rfl, rfl⟩
  · have h : ¬ ¬ a 1 (nI day).toNatClampNeg = 0 := h
    rw [c1, f1] at h
    rw [decide_eq_false h, Bool.false_or]
    refine ev_go 999 rfl trivial ?_
    refine ev_if (fun h => ?_) (fun h => ?_)
    · have h : nI day < i 62 := h
      rw [hcw.f] at h
      rw [decide_eq_true h, Bool.true_or, if_pos rfl]
      exact fz ⟨rfl, rfl⟩
    · have h : ¬ nI day < i 62 := h
      rw [hcw.f] at h
      rw [decide_eq_false h, Bool.false_or]
      refine ev_go 999 rfl trivial ?_
      refine ev_call0 rfl (Nat.le_of_ble_eq_true rfl) (fun _ => ⟨_, _, _, rfl, rfl⟩) haw ?_
      cases hb : awB (fun k => rA 19 (20 * w + k)) (fun k => rA 20 (20 * w + k)) (nI day) (cl (rA 18 w)) with
      | true =>
        rw [if_pos rfl]
        refine ev_go 999 rfl trivial ?_
        refine ev_neg (by decide) ?_
        exact fz ⟨rfl, rfl⟩
      | false =>
        rw [if_neg (by decide)]
        refine ev_go 999 rfl trivial ?_
        refine ev_pos (by decide) ?_
        rw [← htg, ← er]
        obtain ⟨gg, hgg⟩ : ∃ gg, gg = gA rA w := ⟨_, rfl⟩
        rw [← hgg] at hg ⊢
        rcases (show gg = 0 ∨ gg = 1 ∨ gg = 2 ∨ gg = 3 ∨ gg = 4 ∨ gg = 5 by omega) with e | e | e | e | e | e <;> rw [e] <;> (
          refine ev_go 999 rfl ⟨by decide, by show vp_in (nI day - nI day / nI 7 * nI 7) 7; rw [er]; exact vp_in_nI h7 (by omega), trivial⟩ ?_
          exact ev_ret rfl trivial ⟨rfl, rfl⟩
          )
end X8
