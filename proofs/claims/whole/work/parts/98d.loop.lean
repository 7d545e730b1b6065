/-! The law's loop. -/
section LL
variable {E : am_E} {d L : Nat} {xs : Nat → Int32}
theorem ev_swi {τ : am_T} {P : Option Value → am_M → Prop} {pc bc bs t n : Nat} {L : List (Option Value)} {r : List Value} {M : am_M} {x : Int32} {dd lo hi : Int} {offs : Array Int} (ha : am_at τ pc = some (.tableswitch dd lo hi offs, n)) (hsw : am_sw pc dd lo hi offs x = some t) (kk : am_ev E d τ (t, L, r, M, bc, bs) P) : am_ev E d τ (pc, L, .int x :: r, M, bc, bs) P := by
  refine ev_s (ps := []) ?_ (fun q hq => by cases hq) kk
  unfold am_s
  simp only [ha, am_len, Nat.beq_refl, cond, am_ex, hsw]
theorem l_exit (hL : L ≤ 3072) {p bc bs : Nat} {G : am_M} (hp4 : p ≤ 4000) (hp : ¬ p + 6 ≤ L) (hG : OKM G) : am_ev (am_E0 L xs) (d + 63) tL_law (18, lloc p, [], G, bc, bs) (fun v _ => v = some (.int 1)) := by
  obtain ⟨f8, f9, G', e⟩ := hG.hx.H
  subst e
  refine ev_go 999 rfl trivial ?_
  refine ev_pos (by
    show nI L - nI 6 < nI p
    rw [Int32.lt_iff_toInt_lt, pk_sub_toInt (by omega) (by omega), nI_toInt (by omega)]
    omega) ?_
  refine ev_go 999 rfl trivial ?_
  exact ev_ret rfl ⟨Or.inr rfl, trivial⟩ rfl
theorem l_loop (hL : L ≤ 3072) : ∀ (r p : Nat) (G : am_M) (bc bs : Nat), OKM G → L < p + 6 * r + 6 → p + 6 * r ≤ 3990 → 13 * r ≤ bc → 1436 * r ≤ bs → am_ev (am_E0 L xs) (d + 63) tL_law (18, lloc p, [], G, bc, bs) (fun v _ => v = some (.int 1)) := by
  intro r
  induction r with
  | zero =>
    intro p G bc bs hG h1 h2 h3 h4
    exact l_exit hL (by omega) (by omega) hG
  | succ r ih =>
    intro p G bc bs hG h1 h2 h3 h4
    by_cases hp : p + 6 ≤ L
    · have nx : ∀ G' bc' bs', 13 * r ≤ bc' → 1436 * r ≤ bs' → OKM G' → am_ev (am_E0 L xs) (d + 63) tL_law (1240, lloc p, [], G', bc', bs') (fun v _ => v = some (.int 1)) := by
        intro G' bc' bs' b1 b2 hG'
        refine ev_go 18 rfl trivial ?_
        show am_ev _ _ _ (18, [some (.ref am_X), some (.ref 0), some (.ref 62), some (.int (nI p + nI 6))], _, _, _, _) _
        rw [nI_add]
        exact ih (p + 6) G' bc' bs' hG' (by omega) (by omega) b1 b2
      have nx0 : ∀ G', OKM G' → am_ev (am_E0 L xs) (d + 63) tL_law (1240, lloc p, [], G', bc, bs) (fun v _ => v = some (.int 1)) := fun G' h => nx G' bc bs (by omega) (by omega) h
      obtain ⟨c, hc, e⟩ := pk_andE (xs (nI p).toNatClampNeg) (m := 31) 5 (by decide)
      have hG0 := hG
      obtain ⟨f8, f9, G', e0⟩ := hG.hx.H
      subst e0
      refine ev_go 999 rfl trivial ?_
      refine ev_neg (by
        show ¬ nI L - nI 6 < nI p
        rw [Int32.lt_iff_toInt_lt, pk_sub_toInt (by omega) (by omega), nI_toInt (by omega)]
        omega) ?_
      refine ev_go 33 rfl ⟨vp_in_nI (by show p < L; omega) (by show L < 2 ^ 31; omega), trivial⟩ ?_
      show am_ev _ _ _ (33, lloc p, [.int (xs (nI p).toNatClampNeg &&& 31)], _, _, _) _
      rw [e]
      have hc2 : c < 32 := hc
      rcases (show c = 0 ∨ c = 1 ∨ c = 2 ∨ c = 3 ∨ c = 4 ∨ c = 5 ∨ c = 6 ∨ c = 7 ∨ c = 8 ∨ c = 9 ∨ c = 10 ∨ c = 11 ∨ c = 12 ∨ c = 13 ∨ c = 14 ∨ c = 15 ∨ c = 16 ∨ c = 17 ∨ c = 18 ∨ c = 19 ∨ c = 20 ∨ c = 21 ∨ c = 22 ∨ c = 23 ∨ c = 24 ∨ c = 25 ∨ c = 26 ∨ c = 27 ∨ c = 28 ∨ c = 29 ∨ c = 30 ∨ c = 31 by omega) with z | z | z | z | z | z | z | z | z | z | z | z | z | z | z | z | z | z | z | z | z | z | z | z | z | z | z | z | z | z | z | z <;> subst z
      · exact ev_swi (t := 156) rfl rfl (lc_worker hp hL (by omega) (by omega) hG0 (fun G2 b2 s2 q1 q2 ok => nx G2 b2 s2 (by omega) (by omega) ok))
      · exact ev_swi (t := 189) rfl rfl (lc_feast hp hL hG0 nx0)
      · exact ev_swi (t := 212) rfl rfl (lc_kind hp hL hG0 nx0)
      · exact ev_swi (t := 255) rfl rfl (lc_rule hp hL hG0 nx0)
      · exact ev_swi (t := 308) rfl rfl (lc_rate hp hL hG0 nx0)
      · exact ev_swi (t := 351) rfl rfl (lc_surcharge hp hL hG0 nx0)
      · exact ev_swi (t := 404) rfl rfl (lc_exclude hp hL hG0 nx0)
      · exact ev_swi (t := 437) rfl rfl (lc_target hp hL hG0 nx0)
      · exact ev_swi (t := 480) rfl rfl (lc_limits hp hL hG0 nx0)
      · exact ev_swi (t := 523) rfl rfl (lc_absent hp hL hG0 nx0)
      · exact ev_swi (t := 566) rfl rfl (lc_mark hp hL hG0 nx0)
      · exact ev_swi (t := 619) rfl rfl (lc_late hp hL hG0 nx0)
      · exact ev_swi (t := 672) rfl rfl (lc_unmark hp hL hG0 nx0)
      · exact ev_swi (t := 715) rfl rfl (lc_marked hp hL hG0 nx0)
      · exact ev_swi (t := 758) rfl rfl (lc_day hp hL hG0 nx0)
      · exact ev_swi (t := 801) rfl rfl (lc_shifts hp hL hG0 nx0)
      · exact ev_swi (t := 844) rfl rfl (lc_minute hp hL hG0 nx0)
      · exact ev_swi (t := 887) rfl rfl (lc_minutes hp hL hG0 nx0)
      · exact ev_swi (t := 930) rfl rfl (lc_why hp hL hG0 nx0)
      · exact ev_swi (t := 973) rfl rfl (lc_counts hp hL hG0 nx0)
      · exact ev_swi (t := 1036) rfl rfl (lc_cents hp hL hG0 nx0)
      · exact ev_swi (t := 1070) rfl rfl (lc_due hp hL hG0 nx0)
      · exact ev_swi (t := 1103) rfl rfl (lc_close hp hL hG0 nx0)
      · exact ev_swi (t := 1116) rfl rfl (lc_open hp hL hG0 nx0)
      · exact ev_swi (t := 1129) rfl rfl (lc_month hp hL hG0 nx0)
      · exact ev_swi (t := 1173) rfl rfl (lc_sum hp hL hG0 nx0)
      · exact ev_swi (t := 1217) rfl rfl (lc_count hp hL hG0 nx0)
      · exact ev_swi (t := 1240) rfl rfl (nx0 _ hG0)
      · exact ev_swi (t := 1240) rfl rfl (nx0 _ hG0)
      · exact ev_swi (t := 1240) rfl rfl (nx0 _ hG0)
      · exact ev_swi (t := 1240) rfl rfl (nx0 _ hG0)
      · exact ev_swi (t := 1240) rfl rfl (nx0 _ hG0)
    · exact l_exit hL (by omega) hp hG
theorem law_runs (hL : L ≤ 3072) : ∃ d n : Nat, d ≤ 1000 ∧ am_Ev (am_E0 L xs) (am_D (am_E0 L xs) d) tL_law n (0, am_in [.ref am_X] 4, [], am_M0, 600000, 7302250) (fun v _ => v = some (.int 1)) := by
  obtain ⟨n, h⟩ := l_start (E := am_E0 L xs) (d := 0) (P := fun v _ => v = some (.int 1)) (l_loop hL 600 0 G00 599898 7258536 ⟨z0, zj0, zA0, zb0, start_fm⟩ (by omega) (by omega) (by omega) (by omega))
  exact ⟨0 + 63, n, by decide, h⟩
end LL
