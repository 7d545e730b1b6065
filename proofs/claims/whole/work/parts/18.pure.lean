/-! Reasoning about runs: blocks, branches, calls, returns. -/
def am_ev (E : am_E) (d : Nat) (τ : am_T) (k : am_F) (P : Option Value → am_M → Prop) : Prop := ∃ n, am_Ev E (am_D E d) τ n k P
def am_run (E : am_E) (τ : am_T) : Nat → am_F → am_R1
  | 0, k => some ([], k)
  | n + 1, k => match am_s E τ k with
    | some (ps, k') => match am_run E τ n k' with
      | some (qs, k2) => some (ps ++ qs, k2)
      | none => none
    | none => none
def am_all : List Prop → Prop
  | [] => True
  | p :: l => p ∧ am_all l
theorem am_all_mem : ∀ {l : List Prop}, am_all l → ∀ p ∈ l, p
  | [], _, _, h => by cases h
  | q :: l, h, p, hp => by
    rcases List.mem_cons.mp hp with e | e
    · rw [e]; exact h.1
    · exact am_all_mem h.2 p e
section AMP
variable {E : am_E} {d : Nat} {τ : am_T} {k k' : am_F} {P : Option Value → am_M → Prop}
theorem ev_s {ps : List Prop} (h : am_s E τ k = some (ps, k')) (hp : ∀ q ∈ ps, q) (kk : am_ev E d τ k' P) : am_ev E d τ k P := by
  obtain ⟨n, h2⟩ := kk
  exact ⟨n + 1, Or.inl ⟨ps, k', h, hp, h2⟩⟩
theorem ev_run' : ∀ (n : Nat) (k k' : am_F) (ps : List Prop), am_run E τ n k = some (ps, k') → (∀ q ∈ ps, q) → am_ev E d τ k' P → am_ev E d τ k P
  | 0, k, k', ps, h, _, kk => by cases h; exact kk
  | n + 1, k, k', ps, h, hp, kk => by
    unfold am_run at h
    split at h
    · rename_i p1 k1 h1
      split at h
      · rename_i p2 k2 h2
        cases h
        exact ev_s h1 (fun q hq => hp q (List.mem_append_left _ hq)) (ev_run' n k1 k' p2 h2 (fun q hq => hp q (List.mem_append_right _ hq)) kk)
      · cases h
    · cases h
theorem ev_run (n : Nat) {ps : List Prop} (h : am_run E τ n k = some (ps, k')) (hp : am_all ps) (kk : am_ev E d τ k' P) : am_ev E d τ k P := ev_run' n k k' ps h (am_all_mem hp) kk
/-- is it a branch -/
def am_br : Instr → Bool
  | .goto _ => true
  | .ifCond _ _ => true
  | .if_icmp _ _ => true
  | .if_acmp _ _ => true
  | .ifnull _ => true
  | .ifnonnull _ => true
  | .tableswitch _ _ _ _ => true
  | _ => false
/-- on to the next branch, to a call or return, or to the place t -/
def am_go (E : am_E) (τ : am_T) (t : Nat) : Nat → am_F → am_R1
  | 0, k => some ([], k)
  | n + 1, (pc, L, st, M, bc, bs) => match am_at τ pc with
    | some (i, _) => match am_s E τ (pc, L, st, M, bc, bs) with
      | some (ps, k') => bif am_br i then some (ps, k') else match k' with
        | (pc', L', st', M', bc', bs') => bif Nat.beq pc' t then some (ps, pc', L', st', M', bc', bs') else match am_go E τ t n (pc', L', st', M', bc', bs') with
          | some (qs, k2) => some (ps ++ qs, k2)
          | none => none
      | none => some ([], pc, L, st, M, bc, bs)
    | none => none
theorem ev_go' (t : Nat) : ∀ (n : Nat) (k k' : am_F) (ps : List Prop), am_go E τ t n k = some (ps, k') → (∀ q ∈ ps, q) → am_ev E d τ k' P → am_ev E d τ k P
  | 0, k, k', ps, h, _, kk => by cases h; exact kk
  | n + 1, (pc, L, st, M, bc, bs), k', ps, h, hp, kk => by
    unfold am_go at h
    split at h
    · rename_i i ln hat
      split at h
      · rename_i p1 k1 h1
        cases hbr : am_br i with
        | true =>
          rw [hbr] at h
          cases h
          exact ev_s h1 hp kk
        | false =>
          rw [hbr] at h
          obtain ⟨pc', L', st', M', bc', bs'⟩ := k1
          dsimp only [cond] at h
          cases ht : Nat.beq pc' t with
          | true =>
            rw [ht] at h
            cases h
            exact ev_s h1 hp kk
          | false =>
            rw [ht] at h
            dsimp only [cond] at h
            split at h
            · rename_i p2 k2 h2
              cases h
              exact ev_s h1 (fun q hq => hp q (List.mem_append_left _ hq)) (ev_go' t n _ k' p2 h2 (fun q hq => hp q (List.mem_append_right _ hq)) kk)
            · cases h
      · cases h
        exact kk
    · cases h
theorem ev_go (t : Nat) {ps : List Prop} (h : am_go E τ t 400 k = some (ps, k')) (hp : am_all ps) (kk : am_ev E d τ k' P) : am_ev E d τ k P := ev_go' t 400 k k' ps h (am_all_mem hp) kk
theorem ev_if {c : Prop} {hd : Decidable c} {a b : am_F} (h1 : c → am_ev E d τ a P) (h2 : ¬ c → am_ev E d τ b P) : am_ev E d τ (@ite _ c hd a b) P := by
  by_cases h : c
  · rw [if_pos h]; exact h1 h
  · rw [if_neg h]; exact h2 h
theorem ev_pos {c : Prop} {hd : Decidable c} {a b : am_F} (h : c) (h1 : am_ev E d τ a P) : am_ev E d τ (@ite _ c hd a b) P := by rw [if_pos h]; exact h1
theorem ev_neg {c : Prop} {hd : Decidable c} {a b : am_F} (h : ¬ c) (h1 : am_ev E d τ b P) : am_ev E d τ (@ite _ c hd a b) P := by rw [if_neg h]; exact h1
theorem ev_aa {kd n : Nat} {f : Nat → Option Nat} {i : Int32} {a pc bc bs : Nat} {L : List (Option Value)} {r : List Value} {M : am_M} {v : Value} (ha : am_at τ pc = some (.aaload, 1)) (hM : M.2 a = some (.inl (kd, n, .inr (.inr (.inr (.inr f)))))) (h3 : 3 ≤ kd) (h6 : kd ≤ 6) (hin : vp_in i n) (hv : va_rf (f i.toNatClampNeg) = v) (kk : am_ev E d τ (pc + 1, L, v :: r, M, bc, bs) P) : am_ev E d τ (pc, L, .int i :: .ref a :: r, M, bc, bs) P := by
  obtain ⟨m, h⟩ := kk
  subst hv
  exact ⟨m + 1, Or.inr (Or.inl ⟨kd, n, f, i, a, r, ha, rfl, hM, h3, h6, hin, h⟩)⟩
theorem ev_call {kd : Nat} {τ' : am_T} {as r : List Value} {mc ms : Nat} {v : Option Value} {M' : am_M} (hi : am_inv τ k = some (kd, τ', as, r)) (hcs : am_cs r ≤ 8) (hrc : am_rcv kd τ' as k.2.2.2.1) (hD : am_D E d τ' as k.2.2.2.1 mc ms v M') (h1 : mc ≤ k.2.2.2.2.1) (h2 : ms ≤ k.2.2.2.2.2) (kk : am_ev E d τ (k.1 + 3, k.2.1, v.toList ++ r, M', k.2.2.2.2.1 - mc, k.2.2.2.2.2 - ms) P) : am_ev E d τ k P := by
  obtain ⟨n, h⟩ := kk
  exact ⟨n + 1, Or.inr (Or.inr (Or.inl ⟨kd, τ', as, r, mc, ms, v, M', hi, hcs, hrc, hD, h1, h2, h⟩))⟩
/-- a call that makes nothing, where nothing may be made -/
theorem ev_call0 {kd : Nat} {τ' : am_T} {as r : List Value} {v : Option Value} {pc : Nat} {L : List (Option Value)} {st : List Value} {M M' : am_M} (hi : am_inv τ (pc, L, st, M, 0, 0) = some (kd, τ', as, r)) (hcs : am_cs r ≤ 8) (hrc : am_rcv kd τ' as M) (hD : am_D E d τ' as M 0 0 v M') (kk : am_ev E d τ (pc + 3, L, v.toList ++ r, M', 0, 0) P) : am_ev E d τ (pc, L, st, M, 0, 0) P := ev_call hi hcs hrc hD (Nat.le_refl _) (Nat.le_refl _) kk
theorem ev_ret {ps : List Prop} {v : Option Value} (h : am_ret τ k = some (ps, v)) (hp : am_all ps) (hP : P v k.2.2.2.1) : am_ev E d τ k P := ⟨1, Or.inr (Or.inr (Or.inr ⟨ps, v, h, am_all_mem hp, hP⟩))⟩
theorem am_D_of {as : List Value} {M M' : am_M} {mc ms : Nat} {v : Option Value} (hl : (am_il as).length ≤ τ.2.2.2.1) (h : am_ev E d τ (0, am_in as τ.2.2.2.1, [], M, mc, ms) (fun v' M'' => v' = v ∧ M'' = M')) : am_D E (d + 1) τ as M mc ms v M' := ⟨hl, h⟩
end AMP
/-- a memory of a list of cells -/
def am_L (cs : List am_C) : am_M := (cs.length, fun k => cs[k]?)
theorem am_w_L {cs : List am_C} {j : Nat} (h : j < cs.length) (x : am_C) : am_w (am_L cs) j x = am_L (cs.set j x) := by
  unfold am_w am_L
  rw [List.length_set]
  congr 1
  funext k
  by_cases e : k = j
  · subst e
    rw [am_up_same, List.getElem?_set_self h]
  · rw [am_up_ne _ _ e, List.getElem?_set_ne (Ne.symm e)]
/-- where the cells of a list lie -/
def am_ro (Ps : List Nat) (j : Nat) : Nat := match Ps[j]? with
  | some p => p
  | none => if j < am_X then j - 500000 else j
def am_ov (G : am_M) : List Nat → List am_C → am_M
  | p :: ps, c :: cs => am_w (am_ov G ps cs) p c
  | _, _ => G
theorem am_ov_1 (G : am_M) : ∀ (Ps : List Nat) (cs : List am_C), (am_ov G Ps cs).1 = G.1
  | [], _ => rfl
  | _ :: _, [] => rfl
  | _ :: ps, _ :: cs => am_ov_1 G ps cs
theorem am_ov_out (G : am_M) {q : Nat} : ∀ (Ps : List Nat) (cs : List am_C), q ∉ Ps → (am_ov G Ps cs).2 q = G.2 q
  | [], _, _ => rfl
  | _ :: _, [], _ => rfl
  | p :: ps, c :: cs, h => by
    show am_up (am_ov G ps cs).2 p c q = _
    rw [am_up_ne _ _ (fun e => h (by rw [e]; exact List.mem_cons_self))]
    exact am_ov_out G ps cs (fun e => h (List.mem_cons_of_mem _ e))
theorem am_ov_in (G : am_M) : ∀ (Ps : List Nat) (cs : List am_C), Ps.Nodup → Ps.length = cs.length → ∀ (j : Nat) (p : Nat) (x : am_C), Ps[j]? = some p → cs[j]? = some x → (am_ov G Ps cs).2 p = some x
  | [], _, _, _, j, p, x, h, _ => by simp at h
  | _ :: _, [], _, _, j, p, x, _, h => by simp at h
  | p0 :: ps, c0 :: cs, hn, hl, j, p, x, h1, h2 => by
    show am_up (am_ov G ps cs).2 p0 c0 p = _
    obtain ⟨hn1, hn2⟩ := List.nodup_cons.mp hn
    cases j with
    | zero =>
      rw [List.getElem?_cons_zero] at h1 h2
      cases h1
      cases h2
      exact am_up_same _ _ _
    | succ j =>
      rw [List.getElem?_cons_succ] at h1 h2
      have hm := List.mem_of_getElem? h1
      rw [am_up_ne _ _ (fun e => hn1 (by rw [← e]; exact hm))]
      exact am_ov_in G ps cs hn2 (by simpa using hl) j p x h1 h2
theorem am_nd : ∀ (l : List Nat), l.Nodup → ∀ (i j a : Nat), l[i]? = some a → l[j]? = some a → i = j
  | [], _, i, j, a, h, _ => by simp at h
  | b :: l, hn, i, j, a, h1, h2 => by
    obtain ⟨n1, n2⟩ := List.nodup_cons.mp hn
    cases i with
    | zero =>
      cases j with
      | zero => rfl
      | succ j =>
        rw [List.getElem?_cons_zero] at h1
        rw [List.getElem?_cons_succ] at h2
        cases h1
        exact absurd (List.mem_of_getElem? h2) n1
    | succ i =>
      rw [List.getElem?_cons_succ] at h1
      cases j with
      | zero =>
        rw [List.getElem?_cons_zero] at h2
        cases h2
        exact absurd (List.mem_of_getElem? h1) n1
      | succ j =>
        rw [List.getElem?_cons_succ] at h2
        rw [am_nd l n2 i j a h1 h2]
/-- a run on a list of cells, moved to where they lie -/
theorem am_lift {E : am_E} {d : Nat} {τ : am_T} {as : List Value} {cs cs' : List am_C} {v : Option Value} (h : am_D E d τ as (am_L cs) 0 0 v (am_L cs')) {Ps : List Nat} (hn : Ps.Nodup) (hl : Ps.length = cs.length) {G : am_M} (hG : ∀ (j : Nat) (p : Nat) (x : am_C), Ps[j]? = some p → cs[j]? = some x → G.2 p = some (am_rc (am_ro Ps) x)) (hX : ∀ k, am_X ≤ k → k < am_X + 4 → G.2 k = none) (hs : cs.length ≤ am_X) : am_D E d τ (am_rS (am_ro Ps) as) G 0 0 (v.map (am_rv (am_ro Ps))) (am_ov G Ps (cs'.map (am_rc (am_ro Ps)))) := by
  have key : ∀ k x, (am_L cs).2 k = some x → ∃ p, Ps[k]? = some p ∧ am_ro Ps k = p := by
    intro k x hk
    have h1 : k < cs.length := (List.getElem?_eq_some_iff.mp hk).1
    have h2 : k < Ps.length := by rw [hl]; exact h1
    refine ⟨Ps[k], List.getElem?_eq_getElem h2, ?_⟩
    unfold am_ro
    rw [List.getElem?_eq_getElem h2]
  have hR : am_RM (am_ro Ps) (am_L cs) G := by
    refine ⟨fun k x hk => ?_, fun i j x y hi hj e => ?_, fun k h1 h2 => ?_⟩
    · obtain ⟨p, g1, g2⟩ := key k x hk
      rw [g2]
      exact hG k p x g1 hk
    · obtain ⟨p, g1, g2⟩ := key i x hi
      obtain ⟨q, g3, g4⟩ := key j y hj
      rw [g2, g4] at e
      subst e
      exact am_nd Ps hn i j _ g1 g3
    · have e1 : (am_L cs).2 k = none := List.getElem?_eq_none (by omega)
      refine ⟨e1, hX k h1 h2, ?_⟩
      unfold am_ro
      rw [List.getElem?_eq_none (by omega)]
      exact if_neg (by omega)
  obtain ⟨G', g1, g2, g3, g4⟩ := am_ren E d (am_ro Ps) τ as (am_L cs) v (am_L cs') G h hR
  have hlen : cs'.length = cs.length := by
    have a1 := g4 cs'.length
    have a2 := g4 cs.length
    have e1 : (am_L cs').2 cs'.length = none := List.getElem?_eq_none (Nat.le_refl _)
    have e2 : (am_L cs).2 cs.length = none := List.getElem?_eq_none (Nat.le_refl _)
    rw [e1] at a1
    rw [e2] at a2
    have b1 : ¬ cs'.length < cs.length := fun z => by
      have : (am_L cs).2 cs'.length = some cs[cs'.length] := List.getElem?_eq_getElem z
      rw [this] at a1
      cases a1
    have b2 : ¬ cs.length < cs'.length := fun z => by
      have : (am_L cs').2 cs.length = some cs'[cs.length] := List.getElem?_eq_getElem z
      rw [this] at a2
      cases a2
    omega
  have e : G' = am_ov G Ps (cs'.map (am_rc (am_ro Ps))) := by
    have e1 : G'.1 = (am_ov G Ps (cs'.map (am_rc (am_ro Ps)))).1 := by rw [am_ov_1]; exact g3.1
    have e2 : G'.2 = (am_ov G Ps (cs'.map (am_rc (am_ro Ps)))).2 := by
      funext q
      by_cases hq : q ∈ Ps
      · obtain ⟨j, hj⟩ := List.getElem?_of_mem hq
        have hj2 : j < cs'.length := by rw [hlen, ← hl]; exact (List.getElem?_eq_some_iff.mp hj).1
        have hc : cs'[j]? = some cs'[j] := List.getElem?_eq_getElem hj2
        rw [am_ov_in G Ps _ hn (by rw [List.length_map, hlen]; exact hl) j q (am_rc (am_ro Ps) cs'[j]) hj (by rw [List.getElem?_map, hc]; rfl)]
        have := g2.1 j cs'[j] hc
        have e3 : am_ro Ps j = q := by
          unfold am_ro
          rw [hj]
        rw [e3] at this
        exact this
      · rw [am_ov_out G Ps _ hq]
        refine g3.2 q (fun k x hk e => ?_)
        obtain ⟨p, h1, h2⟩ := key k x hk
        rw [h2] at e
        exact hq (by rw [e]; exact List.mem_of_getElem? h1)
    exact Prod.ext e1 e2
  rw [← e]
  exact g1
