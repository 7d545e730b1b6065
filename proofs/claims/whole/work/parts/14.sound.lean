/-! Returns, and the contract that every run gives. -/
section AMU
variable {p : Program} {l : Launch} {e : Env} {R : Room} {s : State} {m : MethodId} {args : Array Value} {below : List Frame} {meth : Method} {c : Code} {Q : State → Prop} {γ : am_G} {E : am_E} {τ : am_T}
set_option maxHeartbeats 4000000 in
theorem am_ret_ok (C : am_Cx γ E τ p R s m args meth c) (hr : meth.sig.returnType = τ.2.2.2.2.1) (hlocks : meth.locks = false) {k : am_F} {ps : List Prop} {v : Option Value} (h : am_ret τ k = some (ps, v)) (hp : ∀ q ∈ ps, q) : am_Wc γ τ p l e R s m args below meth c (MQ below (am_Post γ v k.2.2.2.1) args s R.cells R.slots (fun q => γ.2.2.1 ≤ q)) k := by
  obtain ⟨hx, hb, hml, hown, hts, hin, hdec, hKw, hKx, hfr, hlo, hbase⟩ := C
  intro H locs cells slots ls hH hS hL hc hs
  refine W.widen (k := R.cells) (n := R.slots) (by omega) (by omega) ?_
  obtain ⟨pc, L, st, M, bc, bs⟩ := k
  dsimp only at hH hL hc hs ⊢
  unfold am_ret at h
  dsimp only at h
  split at h
  · rename_i ha hret
    cases h
    rw [hret] at hr
    exact W.vret hx hb hr (fun t ht hW => ⟨rfl, by rw [ht]; exact hH, hS.F ht⟩) hS.2.2 (am_at_dec hdec ha)
  · rename_i v ha hret
    cases h
    rw [hret] at hr
    exact W.iret hx hb hr (fun t ht hW => ⟨rfl, by rw [ht]; exact hH, hS.F ht⟩) hS.2.2 (am_at_dec hdec ha)
  · rename_i v ha hret
    cases h
    rw [hret] at hr
    have hv : v = 0 ∨ v = 1 := hp _ am_i1
    exact W.zret hx hb hr (by rcases hv with rfl | rfl <;> rfl) (fun t ht hW => ⟨rfl, by rw [ht]; exact hH, hS.F ht⟩) hS.2.2 (am_at_dec hdec ha)
  · rename_i v ha hret
    cases h
    rw [hret] at hr
    exact W.lret hx hb hr (fun t ht hW => ⟨rfl, by rw [ht]; exact hH, hS.F ht⟩) hS.2.2 (am_at_dec hdec ha)
  · rename_i a o ha hret
    cases h
    rw [hret] at hr
    exact W.aret hx hb hr (Or.inl ⟨_, rfl⟩) (Or.inr ⟨_, rfl⟩) (fun t ht hW => ⟨rfl, by rw [ht]; exact hH, hS.F ht⟩) hS.2.2 (am_at_dec hdec ha)
  · rename_i o ha hret
    cases h
    rw [hret] at hr
    exact W.aret hx hb hr (Or.inl ⟨_, rfl⟩) (Or.inl rfl) (fun t ht hW => ⟨rfl, by rw [ht]; exact hH, hS.F ht⟩) hS.2.2 (am_at_dec hdec ha)
  · cases h
theorem am_Ev_gen {d : Nat} (IH : am_Sd E d) (C : am_Cx γ E τ p R s m args meth c) (hR : d + 1 ≤ R.frames ∧ 64 * d + 64 ≤ R.locals) (P : Option Value → am_M → Prop) (hret : ∀ (k : am_F) (ps : List Prop) (v : Option Value), am_ret τ k = some (ps, v) → (∀ q ∈ ps, q) → P v k.2.2.2.1 → am_Wc γ τ p l e R s m args below meth c Q k) : ∀ (n : Nat) (k : am_F), am_Ev E (am_D E d) τ n k P → am_Wc γ τ p l e R s m args below meth c Q k
  | 0, _, h => h.elim
  | n + 1, k, h => by
    rcases h with ⟨ps, k', h1, h2, h3⟩ | ⟨kd, n', f, i, a, r, h1, h2, h3, h4, h5, h6, h7⟩ | ⟨kd, τ', as, r, mc, ms, v', M'', h1, h2, h3, h4, h5, h6, h7⟩ | ⟨ps, v', h1, h2, h3⟩
    · exact am_s_ok C h1 h2 (am_Ev_gen IH C hR P hret n k' h3)
    · exact am_aa_ok C h1 h2 h3 h4 h5 h6 (am_Ev_gen IH C hR P hret n _ h7)
    · exact am_call_ok IH C hR h1 h2 h3 h4 h5 h6 (am_Ev_gen IH C hR P hret n _ h7)
    · exact hret k ps v' h1 h2 h3
theorem am_Ev_ok {d : Nat} (IH : am_Sd E d) (C : am_Cx γ E τ p R s m args meth c) (hR : d + 1 ≤ R.frames ∧ 64 * d + 64 ≤ R.locals) (hr : meth.sig.returnType = τ.2.2.2.2.1) (hlocks : meth.locks = false) (v : Option Value) (M' : am_M) (n : Nat) (k : am_F) (h : am_Ev E (am_D E d) τ n k (fun v' M'' => v' = v ∧ M'' = M')) : am_Wc γ τ p l e R s m args below meth c (MQ below (am_Post γ v M') args s R.cells R.slots (fun q => γ.2.2.1 ≤ q)) k :=
  am_Ev_gen IH C hR _ (fun k ps v' h1 h2 h3 => by
    obtain ⟨e1, e2⟩ := h3
    subst e1
    rw [← e2]
    exact am_ret_ok C hr hlocks h1 h2) n k h
theorem am_il_mem (γ : am_G) : ∀ (as : List Value) (i j : Nat) (v : Value), (am_il as).getD j none = some v → (i + j, am_v γ v) ∈ lv_args i (as.map (am_v γ))
  | [], i, j, v, h => by
    rw [am_il, List.getD_eq_getElem?_getD, List.getElem?_nil] at h
    cases h
  | w :: l, i, j, v, h => by
    rw [List.map_cons, lv_args, am_v_cat]
    unfold am_il at h
    cases hc : am_c2 w with
    | true =>
      have hc2 : w.category = 2 := Nat.eq_of_beq_eq_true hc
      rw [hc] at h
      rw [if_pos hc2]
      match j, h with
      | 0, h => cases h; exact List.mem_cons_self
      | 1, h => cases h
      | j + 2, h =>
        have := am_il_mem γ l (i + 2) j v h
        rw [show i + 2 + j = i + (j + 2) by omega] at this
        exact List.mem_cons_of_mem _ this
    | false =>
      have hc2 : ¬ w.category = 2 := fun z => by unfold am_c2 at hc; rw [z] at hc; cases hc
      rw [hc] at h
      rw [if_neg hc2]
      match j, h with
      | 0, h => cases h; exact List.mem_cons_self
      | j + 1, h =>
        have := am_il_mem γ l (i + 1) j v h
        rw [show i + 1 + j = i + (j + 1) by omega] at this
        exact List.mem_cons_of_mem _ this
theorem am_il_len (γ : am_G) : ∀ (as : List Value), (lg_sl (as.map (am_v γ))).length = (am_il as).length
  | [] => rfl
  | w :: l => by
    have ih := am_il_len γ l
    unfold lg_sl at ih ⊢
    rw [List.map_cons, List.flatMap_cons, List.length_append, ih, am_v_cat]
    show _ = (bif am_c2 w then some w :: none :: am_il l else some w :: am_il l).length
    cases hc : am_c2 w with
    | true =>
      have hc2 : w.category = 2 := Nat.eq_of_beq_eq_true hc
      rw [if_pos hc2]
      show [Slot.val (am_v γ w), Slot.second].length + _ = (some w :: none :: am_il l).length
      simp only [List.length_cons, List.length_nil]
      omega
    | false =>
      have hc2 : ¬ w.category = 2 := fun z => by unfold am_c2 at hc; rw [z] at hc; cases hc
      rw [if_neg hc2]
      show [Slot.val (am_v γ w)].length + _ = (some w :: am_il l).length
      simp only [List.length_cons, List.length_nil]
      omega
theorem am_entry {as : List Value} {n : Nat} (h : (am_il as).length ≤ n) : am_Ls γ ((lg_sl (as.map (am_v γ)) ++ List.replicate (n - (lg_sl (as.map (am_v γ))).length) Slot.unset).toArray) n (am_in as n) := by
  have hl := lv_entry (as.map (am_v γ)) (n := n) (by rw [am_il_len]; exact h)
  refine ⟨hl.1, hl.2.1, ?_, fun i v hi => ?_⟩
  · unfold am_in
    rw [List.length_append, List.length_replicate]
    omega
  · have hi2 : (am_il as).getD i none = some v := by
      unfold am_in at hi
      rw [List.getD_eq_getElem?_getD] at hi ⊢
      rcases Nat.lt_or_ge i (am_il as).length with q | q
      · rw [List.getElem?_append_left q] at hi
        exact hi
      · rw [List.getElem?_append_right q] at hi
        rw [List.getElem?_replicate] at hi
        split at hi <;> cases hi
    have hm := am_il_mem γ as 0 i v hi2
    rw [Nat.zero_add] at hm
    exact hl.2.2 _ hm
theorem am_sound (E : am_E) : ∀ d, am_Sd E d
  | 0 => fun τ as M mc ms v M' h => h.elim
  | d + 1 => by
    intro τ as M mc ms v M' h hok l γ
    obtain ⟨hlen, n, hEv⟩ := h
    refine Met.ofW (cc := τ.2.2.1) (maxL := τ.2.2.2.1) (ret := τ.2.2.2.2.1) hok.2.2.1 rfl ?_
    intro p e s m args below meth c s₁ B hml hv
    obtain ⟨rfl, hKw, hKx, hH⟩ := hv
    have hts := atoms_spec (ws := am_wsy τ) B.pre
    have hown : s.vm.findClass τ.2.1.cls = some m.cls := findClass_of_methodNamed B.named
    rw [hok.2.2.2.1] at hown
    have C : am_Cx γ E τ p (am_rm (d + 1) mc ms) s m (as.map (am_v γ)).toArray meth c := ⟨B.exec, B.bytes, hml, hown, fun w hw => hts w (List.mem_cons_of_mem _ hw), fun z => (name_of_methodNamed B.named B.method).1.trans (hok.2.2.2.2.1 z), hok.1, hKw, hKx, Nat.succ_le_succ (Nat.zero_le d), by show 64 ≤ 64 * (d + 1); omega, by rw [hH.1]; exact Nat.le_add_right _ _⟩
    have K := am_Ev_ok (l := l) (e := e) (below := below) (am_sound E d) C ⟨Nat.le_refl _, by show 64 * d + 64 ≤ 64 * (d + 1); omega⟩ B.returns B.notSynchronized v M' n _ hEv
    rw [lg_entry_eq]
    exact K s.heap [] 0 0 _ hH va_S.rf (am_entry hlen) (by show 0 + mc ≤ mc; omega) (by show 0 + ms ≤ ms; omega)
end AMU
