/-! multianewarray: rows of longs, and the array of them. -/
theorem am_outer (c : ClassId) (N h0 : Nat) : ∀ i : Nat, Jvm.Free.Multi.outerC c N h0 i = arrV c N (fun j => va_rf (if j < i then some (h0 + 1 + j) else none))
  | 0 => (arrV_new c N .null).trans (congrArg (arrV c N) (funext fun j => by rw [if_neg (Nat.not_lt_zero j)]; rfl))
  | i + 1 => by
    show (Jvm.Free.Multi.outerC c N h0 i).setSlot i (.ref (h0 + 1 + i)) = _
    rw [am_outer c N h0 i, arrV_store]
    refine congrArg (arrV c N) (funext fun j => ?_)
    by_cases e : j = i
    · subst e
      simp [updV, va_rf]
    · by_cases h : j < i
      · simp [updV, e, h, Nat.lt_succ_of_lt h]
      · simp [updV, e, h, show ¬ j < i + 1 by omega]
section AMG
variable {p : Program} {l : Launch} {e : Env} {R : Room} {s : State} {m : MethodId} {args : Array Value} {below : List Frame} {meth : Method} {c : Code} {Q : State → Prop} {γ : am_G} {E : am_E} {τ : am_T}
theorem am_Hp.multi {M : am_M} {H H1 : Heap} {N K : Nat} (h : am_Hp γ M H) (hX : M.1 + 1 + N ≤ am_X) (z : H1.size = H.size + 1 + N) (oq : ∀ q : Nat, q < H.size → H1[q]? = H[q]?) (ho : H1[H.size]? = some (arrV (γ.2.1 6) N (fun j => va_rf (if j < N then some (H.size + 1 + j) else none)))) (hr : ∀ j : Nat, j < N → H1[H.size + 1 + j]? = some (arrV (γ.2.1 2) K (fun _ => .long 0))) : am_Hp γ (am_mg M N K) H1 := by
  have hs := h.1
  refine ⟨by show H1.size = γ.2.2.1 + (M.1 + 1 + N); omega, hX, fun j d hj => ?_⟩
  have hd : (bif Nat.beq j M.1 then some (.inl (6, N, .inr (.inr (.inr (.inr (fun i => if i < N then some (M.1 + 1 + i) else none)))))) else bif Nat.blt M.1 j && Nat.ble j (M.1 + N) then some (.inl (2, K, .inr (.inl (fun _ => 0)))) else M.2 j) = some d := hj
  show j < M.1 + 1 + N ∧ _
  cases e1 : Nat.beq j M.1 with
  | true =>
    have ej := Nat.eq_of_beq_eq_true e1
    rw [e1] at hd
    cases hd
    refine ⟨by omega, ?_⟩
    show H1[γ.2.2.1 + j]? = some (vp_cell (γ.2.1 6) (N, .inr (.inr (.inr (.inr (fun i => (if i < N then some (M.1 + 1 + i) else none).map (am_ad γ)))))))
    rw [ej, ← hs, ho, vp_cell_q]
    refine congrArg some (congrArg (arrV (γ.2.1 6) N) (funext fun q => ?_))
    by_cases y : q < N
    · rw [if_pos y, if_pos y]
      show va_rf (some (H.size + 1 + q)) = va_rf (some (am_ad γ (M.1 + 1 + q)))
      rw [am_ad_lt (by omega), show H.size + 1 + q = γ.2.2.1 + (M.1 + 1 + q) by omega]
    · rw [if_neg y, if_neg y]
      rfl
  | false =>
    rw [e1] at hd
    have hd : (bif Nat.blt M.1 j && Nat.ble j (M.1 + N) then some (.inl (2, K, .inr (.inl (fun _ => 0)))) else M.2 j) = some d := hd
    cases e2 : (Nat.blt M.1 j && Nat.ble j (M.1 + N)) with
    | true =>
      rw [e2] at hd
      cases hd
      simp only [Bool.and_eq_true] at e2
      have l1 : M.1 + 1 ≤ j := Nat.le_of_ble_eq_true e2.1
      have l2 : j ≤ M.1 + N := Nat.le_of_ble_eq_true e2.2
      refine ⟨by omega, ?_⟩
      show H1[γ.2.2.1 + j]? = some (vp_cell (γ.2.1 2) (K, .inr (.inl (fun _ => 0))))
      rw [show γ.2.2.1 + j = H.size + 1 + (j - M.1 - 1) by omega, hr _ (by omega), vp_cell_l]
    | false =>
      rw [e2] at hd
      obtain ⟨g1, g2⟩ := h.2.2 j d hd
      exact ⟨by omega, g2.kept (oq _ (by show γ.2.2.1 + j < _; omega))⟩
set_option maxHeartbeats 4000000 in
theorem am_x_multianewarray (C : am_Cx γ E τ p R s m args meth c) {pc : Nat} {L : List (Option Value)} {st : List Value} {M : am_M} {bc bs : Nat} {i d : Nat} {ps : List Prop} {k' : am_F} (hd : decode τ.2.2.1 pc = .ok (.multianewarray i d, 4)) (h : am_ex E τ.1 τ.2.2.2.2.2.2.1 pc L st M bc bs (.multianewarray i d) = some (ps, k')) (hp : ∀ q ∈ ps, q) (kk : am_Wc γ τ p l e R s m args below meth c Q k') : am_Wc γ τ p l e R s m args below meth c Q (pc, L, st, M, bc, bs) := by
  obtain ⟨hx, hb, hml, hown, hts, hin, hdec, hKw, hKx, hfr, hlo, hbase⟩ := C
  intro H locs cells slots ls hH hS hL hc hs
  dsimp only at hH hL hc hs ⊢
  simp only [am_ex] at h
  cases st with
  | nil => cases h
  | cons v r =>
   cases v with
   | int k =>
    cases r with
    | nil => cases h
    | cons v r =>
     cases v with
     | int n =>
      simp only at h
      cases hk : (Nat.beq τ.1 7 && Nat.beq i 25 && Nat.beq d 2) with
      | false => rw [hk] at h; cases h
      | true =>
        rw [hk] at h
        cases h
        simp only [Bool.and_eq_true] at hk
        have e7 : τ.1 = 7 := Nat.eq_of_beq_eq_true hk.1.1
        have ei : i = 25 := Nat.eq_of_beq_eq_true hk.1.2
        have ed : d = 2 := Nat.eq_of_beq_eq_true hk.2
        subst ei
        subst ed
        have p1 : ¬ n < 0 := hp _ am_i1
        have p2 : ¬ k < 0 := hp _ am_i2
        have p3 : n.toNatClampNeg ≤ 1000 := hp _ am_i3
        have p4 : k.toNatClampNeg ≤ 1000 := hp _ am_i4
        have p5 : 1 + n.toNatClampNeg ≤ bc := hp _ am_i5
        have p6 : n.toNatClampNeg + n.toNatClampNeg * k.toNatClampNeg ≤ bs := hp _ am_i6
        have p7 : M.1 + 1 + n.toNatClampNeg ≤ am_X := hp _ am_i7
        rw [e7] at hown
        have es : "[" ++ (FieldType.array .long).toString = "[[J" := by decide
        have hcl : (Cond.classLink (am_R 7) 25 ("[" ++ (FieldType.array .long).toString)).before args s = true := by
          rw [es]
          exact hts _ am_g9
        intro T hT Xs
        obtain ⟨vm₁, cA, comp, -, fA, fC, -, -, X', step⟩ := Xs.multianewarray2F hx (own := am_R 7) (index := 25) (ty := .long) hown hcl (am_AOA.use hKw.2.2.2.2.2) (hts _ am_g4) (g := F0 m pc ls ((Value.int k :: Value.int n :: r).map (am_v γ))) rfl (by rw [hb]; exact hd) rfl p1 p2 (by omega) (by show k.toNatClampNeg * 8 ≤ _; omega) (by omega) (by decide) (by decide) (by omega) (by omega)
        have ecA : cA = γ.2.1 6 := Option.some.inj (fA.symm.trans (am_arr hKw (kd := 6) (by decide)).2)
        have ecC : comp = γ.2.1 2 := Option.some.inj (fC.symm.trans (am_arr hKw (kd := 2) (by decide)).2)
        subst ecA
        subst ecC
        generalize hF : Jvm.Free.Multi.fill (T.setVm vm₁) (γ.2.1 6) (γ.2.1 2) n.toNatClampNeg k.toNatClampNeg (defaultValue .long) n.toNatClampNeg = F at X' step
        have hTh : (T.setVm vm₁).heap = H := hT
        obtain ⟨f1, f2, -, -⟩ := Jvm.Free.Multi.fill_facts (T.setVm vm₁) (γ.2.1 6) (γ.2.1 2) n.toNatClampNeg k.toNatClampNeg (defaultValue .long) n.toNatClampNeg
        rw [hF, hTh] at f1 f2
        have hold : ∀ x : Nat, x < H.size → F.heap[x]? = H[x]? := fun x hx => by
          have := Jvm.Free.Multi.fill_old (T.setVm vm₁) (γ.2.1 6) (γ.2.1 2) n.toNatClampNeg k.toNatClampNeg (defaultValue .long) (a := x) (by rw [hTh]; exact hx) n.toNatClampNeg
          rw [hF, hTh] at this
          exact this
        have hrow : ∀ j : Nat, j < n.toNatClampNeg → F.heap[H.size + 1 + j]? = some (arrV (γ.2.1 2) k.toNatClampNeg (fun _ => .long 0)) := fun j hj => by
          have := Jvm.Free.Multi.fill_inner (T.setVm vm₁) (γ.2.1 6) (γ.2.1 2) n.toNatClampNeg k.toNatClampNeg (defaultValue .long) n.toNatClampNeg j hj
          rw [hF, hTh] at this
          rw [this]
          exact congrArg some (arrV_new _ _ _)
        rw [am_outer] at f2
        have k2 := kk F.heap locs (cells + 1 + n.toNatClampNeg) (slots + n.toNatClampNeg + n.toNatClampNeg * k.toNatClampNeg) ls (hH.multi p7 f1 hold f2 hrow) ⟨by rw [f1]; have := hS.1; omega, fun x h1 h2 => (hold x (Nat.lt_of_lt_of_le h1 hS.1)).trans (hS.2.1 x h1 h2), hS.2.2⟩ hL (by show cells + 1 + n.toNatClampNeg + (bc - (1 + n.toNatClampNeg)) ≤ _; omega) (by show slots + n.toNatClampNeg + n.toNatClampNeg * k.toNatClampNeg + (bs - (n.toNatClampNeg + n.toNatClampNeg * k.toNatClampNeg)) ≤ _; omega)
        rw [List.map_cons] at k2
        rw [show am_v γ (.ref M.1) = .ref H.size from by rw [hH.new_ad (by omega)]; rfl] at k2
        obtain ⟨t, a1, b1⟩ := k2 F rfl X'
        refine ⟨t, step t ?_, b1⟩
        have e0 : T.heap.size = H.size := by rw [hT]
        rw [e0]
        exact a1
     | _ => cases h
   | _ => cases h
end AMG
