/-! Runs moved to other pointers. -/
section AMV
variable {E : am_E} {ρ : Nat → Nat}
theorem am_r_s {τ : am_T} {G : am_M} {k k' : am_F} {ps : List Prop} (hc : k.2.2.2.2.1 = 0) (hs : k.2.2.2.2.2 = 0) (hR : am_RM ρ k.2.2.2.1 G) (h : am_s E τ k = some (ps, k')) (hp : ∀ q ∈ ps, q) : ∃ G', am_s E τ (am_rk ρ G k) = some (ps, am_rk ρ G' k') ∧ k'.2.2.2.2.1 = 0 ∧ k'.2.2.2.2.2 = 0 ∧ am_RM ρ k'.2.2.2.1 G' ∧ am_FR ρ k.2.2.2.1 G G' ∧ am_dm k.2.2.2.1 k'.2.2.2.1 := by
  obtain ⟨pc, L, st, M, bc, bs⟩ := k
  dsimp only at hc hs hR
  subst hc
  subst hs
  unfold am_s at h ⊢
  dsimp only [am_rk] at h ⊢
  cases ha : am_at τ pc with
  | none => simp only [ha] at h; cases h
  | some x =>
    obtain ⟨i, n⟩ := x
    simp only [ha] at h ⊢
    cases hn : Nat.beq n (am_len i n) with
    | false => rw [hn] at h; cases h
    | true =>
      rw [hn] at h
      dsimp only [cond] at h ⊢
      have key : am_mv E ρ τ.1 τ.2.2.2.2.2.2.1 pc L st M G i ps k' := by
        cases i with
        | aconst_null  => exact am_r_aconst_null hR h hp
        | iconst a0 => exact am_r_iconst hR h hp
        | bipush a0 => exact am_r_bipush hR h hp
        | sipush a0 => exact am_r_sipush hR h hp
        | lconst a0 => exact am_r_lconst hR h hp
        | ldc a0 => exact am_r_ldc hR h hp
        | ldc2_w a0 => exact am_r_ldc2_w hR h hp
        | iload a0 => exact am_r_iload hR h hp
        | iload_n a0 => exact am_r_iload_n hR h hp
        | lload a0 => exact am_r_lload hR h hp
        | lload_n a0 => exact am_r_lload_n hR h hp
        | aload a0 => exact am_r_aload hR h hp
        | aload_n a0 => exact am_r_aload_n hR h hp
        | istore a0 => exact am_r_istore hR h hp
        | istore_n a0 => exact am_r_istore_n hR h hp
        | lstore a0 => exact am_r_lstore hR h hp
        | lstore_n a0 => exact am_r_lstore_n hR h hp
        | astore a0 => exact am_r_astore hR h hp
        | astore_n a0 => exact am_r_astore_n hR h hp
        | iinc a0 a1 => exact am_r_iinc hR h hp
        | iadd  => exact am_r_iadd hR h hp
        | isub  => exact am_r_isub hR h hp
        | imul  => exact am_r_imul hR h hp
        | iand  => exact am_r_iand hR h hp
        | ior  => exact am_r_ior hR h hp
        | ishl  => exact am_r_ishl hR h hp
        | ishr  => exact am_r_ishr hR h hp
        | idiv  => exact am_r_idiv hR h hp
        | irem  => exact am_r_irem hR h hp
        | ladd  => exact am_r_ladd hR h hp
        | lsub  => exact am_r_lsub hR h hp
        | lmul  => exact am_r_lmul hR h hp
        | ldiv  => exact am_r_ldiv hR h hp
        | lrem  => exact am_r_lrem hR h hp
        | i2l  => exact am_r_i2l hR h hp
        | lcmp  => exact am_r_lcmp hR h hp
        | dup  => exact am_r_dup hR h hp
        | dup2  => exact am_r_dup2 hR h hp
        | goto a0 => exact am_r_goto hR h hp
        | ifCond a0 a1 => exact am_r_ifCond hR h hp
        | if_icmp a0 a1 => exact am_r_if_icmp hR h hp
        | if_acmp a0 a1 => exact am_r_if_acmp hR h hp
        | ifnull a0 => exact am_r_ifnull hR h hp
        | ifnonnull a0 => exact am_r_ifnonnull hR h hp
        | getfield a0 => exact am_r_getfield hR h hp
        | putfield a0 => exact am_r_putfield hR h hp
        | getstatic a0 => exact am_r_getstatic hR h hp
        | arraylength  => exact am_r_arraylength hR h hp
        | iaload  => exact am_r_iaload hR h hp
        | baload  => exact am_r_baload hR h hp
        | laload  => exact am_r_laload hR h hp
        | iastore  => exact am_r_iastore hR h hp
        | bastore  => exact am_r_bastore hR h hp
        | lastore  => exact am_r_lastore hR h hp
        | aastore  => exact am_r_aastore hR h hp
        | newarray a0 => exact am_r_newarray hR h hp
        | anewarray a0 => exact am_r_anewarray hR h hp
        | multianewarray a0 a1 => exact am_r_multianewarray hR h hp
        | new a0 => exact am_r_new hR h hp
        | invokespecial a0 => exact am_r_invokespecial hR h hp
        | invokestatic a0 => exact am_r_invokestatic hR h hp
        | tableswitch a0 a1 a2 a3 => exact am_r_tableswitch hR h hp
        | _ => cases h
      exact key
theorem am_r_pop {k : Nat} {τ' : am_T} {st : List Value} {k2 : Nat} {τ2 : am_T} {as r : List Value} (h : am_pop k τ' st = some (k2, τ2, as, r)) : am_pop k τ' (am_rS ρ st) = some (k2, τ2, am_rS ρ as, am_rS ρ r) := by
  unfold am_pop at h ⊢
  have hl : (am_rS ρ st).length = st.length := List.length_map _
  rw [hl]
  cases hn : Nat.ble τ'.2.2.2.2.2.1 st.length with
  | false => rw [hn] at h; cases h
  | true =>
    rw [hn] at h
    dsimp only [cond] at h ⊢
    have h1 : (am_rS ρ st).drop τ'.2.2.2.2.2.1 = am_rS ρ (st.drop τ'.2.2.2.2.2.1) := by unfold am_rS; rw [List.map_drop]
    have h2 : ((am_rS ρ st).take τ'.2.2.2.2.2.1).reverse = am_rS ρ (st.take τ'.2.2.2.2.2.1).reverse := by unfold am_rS; rw [List.map_reverse, List.map_take]
    rw [h1, h2]
    cases hk : Nat.ble k 2 with
    | true =>
      rw [hk] at h
      dsimp only [cond] at h ⊢
      split at h
      · rename_i b rr hdrop
        rw [hdrop]
        cases h
        rfl
      · cases h
    | false =>
      rw [hk] at h
      cases h
      rfl
theorem am_r_inv {τ : am_T} {G : am_M} {k : am_F} {kd : Nat} {τ' : am_T} {as r : List Value} (h : am_inv τ k = some (kd, τ', as, r)) : am_inv τ (am_rk ρ G k) = some (kd, τ', am_rS ρ as, am_rS ρ r) := by
  have h : am_invP τ k.1 k.2.2.1 = some (kd, τ', as, r) := h
  show am_invP τ k.1 (am_rS ρ k.2.2.1) = _
  unfold am_invP at h ⊢
  split at h
  · rename_i i ha
    split at h
    · rename_i kx τx hcv
      try rw [hcv]
      try dsimp only
      cases hk : Nat.beq kx 0 with
      | false => rw [hk] at h; cases h
      | true => rw [hk] at h; exact am_r_pop h
    · cases h
  · rename_i i ha
    split at h
    · rename_i kx τx hcv
      try rw [hcv]
      try dsimp only
      cases hk : (Nat.beq kx 1 || Nat.beq kx 2) with
      | false => rw [hk] at h; cases h
      | true => rw [hk] at h; exact am_r_pop h
    · cases h
  · rename_i i ha
    split at h
    · rename_i kx τx hcv
      try rw [hcv]
      try dsimp only
      cases hk : (Nat.beq kx 3 || Nat.beq kx 4) with
      | false => rw [hk] at h; cases h
      | true => rw [hk] at h; exact am_r_pop h
    · cases h
  · cases h
theorem am_r_ret {τ : am_T} {G : am_M} {k : am_F} {ps : List Prop} {v : Option Value} (h : am_ret τ k = some (ps, v)) : am_ret τ (am_rk ρ G k) = some (ps, v.map (am_rv ρ)) := by
  obtain ⟨pc, L, st, M, bc, bs⟩ := k
  unfold am_ret at h ⊢
  dsimp only [am_rk] at h ⊢
  split at h
  · rename_i ha hret; cases h; rw [ha, hret]; rfl
  · rename_i v ha hret; cases h; rw [ha, hret]; rfl
  · rename_i v ha hret; cases h; rw [ha, hret]; rfl
  · rename_i v ha hret; cases h; rw [ha, hret]; rfl
  · rename_i a o ha hret; cases h; rw [ha, hret]; rfl
  · rename_i o ha hret; cases h; rw [ha, hret]; rfl
  · cases h
theorem am_r_il (as : List Value) : am_il (am_rS ρ as) = am_rL ρ (am_il as) := by
  induction as with
  | nil => rfl
  | cons v l ih =>
    show (bif am_c2 (am_rv ρ v) then some (am_rv ρ v) :: none :: am_il (am_rS ρ l) else some (am_rv ρ v) :: am_il (am_rS ρ l)) = am_rL ρ (bif am_c2 v then some v :: none :: am_il l else some v :: am_il l)
    rw [am_rv_c2, ih]
    cases am_c2 v <;> rfl
theorem am_r_in (as : List Value) (n : Nat) : am_in (am_rS ρ as) n = am_rL ρ (am_in as n) := by
  unfold am_in
  rw [am_r_il, am_rL_len]
  unfold am_rL
  rw [List.map_append, List.map_replicate]
  rfl
theorem am_Ev_fix {D : am_Dt} {τ : am_T} {P : Option Value → am_M → Prop} : ∀ (n : Nat) (k : am_F), am_Ev E D τ n k P → ∃ v M, P v M ∧ am_Ev E D τ n k (fun v' M' => v' = v ∧ M' = M)
  | 0, _, h => h.elim
  | n + 1, k, h => by
    rcases h with ⟨ps, k', h1, h2, h3⟩ | ⟨kd, n', f, i, a, r, h1, h2, h3, h4, h5, h6, h7⟩ | ⟨kd, τ', as, r, mc, ms, v', M'', h1, h2, h3, h4, h5, h6, h7⟩ | ⟨ps, v', h1, h2, h3⟩
    · obtain ⟨v, M, g1, g2⟩ := am_Ev_fix n k' h3
      exact ⟨v, M, g1, Or.inl ⟨ps, k', h1, h2, g2⟩⟩
    · obtain ⟨v, M, g1, g2⟩ := am_Ev_fix n _ h7
      exact ⟨v, M, g1, Or.inr (Or.inl ⟨kd, n', f, i, a, r, h1, h2, h3, h4, h5, h6, g2⟩)⟩
    · obtain ⟨v, M, g1, g2⟩ := am_Ev_fix n _ h7
      exact ⟨v, M, g1, Or.inr (Or.inr (Or.inl ⟨kd, τ', as, r, mc, ms, v', M'', h1, h2, h3, h4, h5, h6, g2⟩))⟩
    · exact ⟨v', _, h3, Or.inr (Or.inr (Or.inr ⟨ps, v', h1, h2, rfl, rfl⟩))⟩
theorem am_Ev_mono {D : am_Dt} {τ : am_T} {P P' : Option Value → am_M → Prop} : ∀ (n : Nat) (k : am_F), (∀ v M, P v M → P' v M) → am_Ev E D τ n k P → am_Ev E D τ n k P'
  | 0, _, _, h => h.elim
  | n + 1, k, hP, h => by
    rcases h with ⟨ps, k', h1, h2, h3⟩ | ⟨kd, n', f, i, a, r, h1, h2, h3, h4, h5, h6, h7⟩ | ⟨kd, τ', as, r, mc, ms, v', M'', h1, h2, h3, h4, h5, h6, h7⟩ | ⟨ps, v', h1, h2, h3⟩
    · exact Or.inl ⟨ps, k', h1, h2, am_Ev_mono n k' hP h3⟩
    · exact Or.inr (Or.inl ⟨kd, n', f, i, a, r, h1, h2, h3, h4, h5, h6, am_Ev_mono n _ hP h7⟩)
    · exact Or.inr (Or.inr (Or.inl ⟨kd, τ', as, r, mc, ms, v', M'', h1, h2, h3, h4, h5, h6, am_Ev_mono n _ hP h7⟩))
    · exact Or.inr (Or.inr (Or.inr ⟨ps, v', h1, h2, hP _ _ h3⟩))
def am_Rn (E : am_E) (d : Nat) : Prop := ∀ (ρ : Nat → Nat) (τ : am_T) (as : List Value) (M : am_M) (v : Option Value) (M' G : am_M), am_D E d τ as M 0 0 v M' → am_RM ρ M G → ∃ G', am_D E d τ (am_rS ρ as) G 0 0 (v.map (am_rv ρ)) G' ∧ am_RM ρ M' G' ∧ am_FR ρ M G G' ∧ am_dm M M'
theorem am_r_Ev {d : Nat} (IH : am_Rn E d) {τ : am_T} {P : Option Value → am_M → Prop} : ∀ (n : Nat) (k : am_F) (G : am_M), am_Ev E (am_D E d) τ n k P → k.2.2.2.2.1 = 0 → k.2.2.2.2.2 = 0 → am_RM ρ k.2.2.2.1 G → am_Ev E (am_D E d) τ n (am_rk ρ G k) (fun v G' => ∃ v0 M', P v0 M' ∧ v = v0.map (am_rv ρ) ∧ am_RM ρ M' G' ∧ am_FR ρ k.2.2.2.1 G G' ∧ am_dm k.2.2.2.1 M')
  | 0, _, _, h, _, _, _ => h.elim
  | n + 1, k, G, h, hc, hs, hR => by
    have wk : ∀ {M1 G1 : am_M} {k1 : am_F}, am_FR ρ k.2.2.2.1 G G1 → am_dm k.2.2.2.1 M1 → am_Ev E (am_D E d) τ n k1 (fun v G' => ∃ v0 M', P v0 M' ∧ v = v0.map (am_rv ρ) ∧ am_RM ρ M' G' ∧ am_FR ρ M1 G1 G' ∧ am_dm M1 M') → am_Ev E (am_D E d) τ n k1 (fun v G' => ∃ v0 M', P v0 M' ∧ v = v0.map (am_rv ρ) ∧ am_RM ρ M' G' ∧ am_FR ρ k.2.2.2.1 G G' ∧ am_dm k.2.2.2.1 M') := by
      intro M1 G1 k1 hF hd hE
      obtain ⟨v, M, ⟨v0, M', a1, a2, a3, a4, a5⟩, hE2⟩ := am_Ev_fix n k1 hE
      exact am_Ev_mono n k1 (fun v' G' h => by
        obtain ⟨e1, e2⟩ := h
        rw [e1, e2]
        exact ⟨v0, M', a1, a2, a3, hF.tr hd a4, hd.tr a5⟩) hE2
    rcases h with ⟨ps, k', h1, h2, h3⟩ | ⟨kd, n', f, i, a, r, h1, h2, h3, h4, h5, h6, h7⟩ | ⟨kd, τ', as, r, mc, ms, v', M'', h1, h2, h3, h4, h5, h6, h7⟩ | ⟨ps, v', h1, h2, h3⟩
    · obtain ⟨G', g1, g2, g3, g4, g5, g6⟩ := am_r_s hc hs hR h1 h2
      exact Or.inl ⟨ps, _, g1, h2, wk g5 g6 (am_r_Ev IH n k' G' h3 g2 g3 g4)⟩
    · have hG : G.2 (ρ a) = some (.inl (kd, n', .inr (.inr (.inr (.inr (fun i => (f i).map ρ)))))) := hR.1 a _ h3
      refine Or.inr (Or.inl ⟨kd, n', _, i, ρ a, am_rS ρ r, h1, ?_, hG, h4, h5, h6, ?_⟩)
      · show am_rS ρ k.2.2.1 = _
        rw [h2]
        rfl
      · have h8 := am_r_Ev IH n _ G h7 hc hs hR
        unfold am_rk am_rS at h8 ⊢
        dsimp only at h8 ⊢
        rw [List.map_cons] at h8
        have hv : am_rv ρ (va_rf (f i.toNatClampNeg)) = va_rf ((f i.toNatClampNeg).map ρ) := by cases f i.toNatClampNeg <;> rfl
        rw [hv] at h8
        exact h8
    · rw [hc] at h5
      rw [hs] at h6
      have e1 : mc = 0 := Nat.le_zero.mp h5
      have e2 : ms = 0 := Nat.le_zero.mp h6
      subst e1
      subst e2
      obtain ⟨G', g1, g2, g3, g4⟩ := IH ρ τ' as _ v' M'' G h4 hR
      refine Or.inr (Or.inr (Or.inl ⟨kd, τ', am_rS ρ as, am_rS ρ r, 0, 0, v'.map (am_rv ρ), G', am_r_inv h1, by rw [am_rS_cs]; exact h2, ?_, g1, Nat.zero_le _, Nat.zero_le _, ?_⟩))
      · intro z
        obtain ⟨b, fs, rr, q1, q2⟩ := h3 z
        exact ⟨ρ b, fs.map (am_rv ρ), am_rS ρ rr, by rw [q1]; rfl, hR.1 b _ q2⟩
      · have h8 := wk g3 g4 (am_r_Ev IH n _ G' h7 (by show k.2.2.2.2.1 - 0 = 0; rw [hc]) (by show k.2.2.2.2.2 - 0 = 0; rw [hs]) g2)
        have es : am_rS ρ (v'.toList ++ r) = (v'.map (am_rv ρ)).toList ++ am_rS ρ r := by
          unfold am_rS
          rw [List.map_append]
          cases v' <;> rfl
        unfold am_rk at h8 ⊢
        dsimp only at h8 ⊢
        rw [es] at h8
        exact h8
    · exact Or.inr (Or.inr (Or.inr ⟨ps, v'.map (am_rv ρ), am_r_ret h1, h2, v', _, h3, rfl, hR, am_FR.rf, am_dm.rf⟩))
theorem am_ren (E : am_E) : ∀ d, am_Rn E d
  | 0 => fun _ _ _ _ _ _ _ h => h.elim
  | d + 1 => by
    intro ρ τ as M v M' G h hR
    obtain ⟨hlen, n, hE⟩ := h
    have h1 := am_r_Ev (ρ := ρ) (am_ren E d) n _ G hE rfl rfl hR
    obtain ⟨v1, G1, ⟨v0, M0, ⟨e1, e2⟩, a2, a3, a4, a5⟩, hE2⟩ := am_Ev_fix n _ h1
    subst e1
    subst e2
    subst a2
    refine ⟨G1, ⟨by rw [am_r_il, am_rL_len]; exact hlen, n, ?_⟩, a3, a4, a5⟩
    rw [am_r_in]
    exact hE2
end AMV
