/-! Steps that write into arrays and make cells. -/
section AMD
variable {p : Program} {l : Launch} {e : Env} {R : Room} {s : State} {m : MethodId} {args : Array Value} {below : List Frame} {meth : Method} {c : Code} {Q : State → Prop} {γ : am_G} {E : am_E} {τ : am_T}
set_option maxHeartbeats 4000000 in
theorem am_x_iastore (C : am_Cx γ E τ p R s m args meth c) {pc : Nat} {L : List (Option Value)} {st : List Value} {M : am_M} {bc bs : Nat} {ps : List Prop} {k' : am_F} (hd : decode τ.2.2.1 pc = .ok (.iastore, 1)) (h : am_ex E τ.1 τ.2.2.2.2.2.2.1 pc L st M bc bs (.iastore) = some (ps, k')) (hp : ∀ q ∈ ps, q) (kk : am_Wc γ τ p l e R s m args below meth c Q k') : am_Wc γ τ p l e R s m args below meth c Q (pc, L, st, M, bc, bs) := by
  obtain ⟨hx, hb, hml, hown, hts, hin, hdec, hKw, hKx, hfr, hlo, hbase⟩ := C
  intro H locs cells slots ls hH hS hL hc hs
  dsimp only at hH hL hc hs ⊢
  simp only [am_ex] at h
  cases st with
  | nil => cases h
  | cons v r =>
   cases v with
   | int x =>
    cases r with
    | nil => cases h
    | cons v r =>
    cases v with
    | int i =>
     cases r with
     | nil => cases h
     | cons v r =>
     cases v with
     | ref a =>
      cases hM : M.2 a with
      | some cell =>
        simp only [hM] at h
        split at h
        · rename_i n f hcell
          cases hcell
          cases h
          have hin := hp _ List.mem_cons_self
          have hat := (hH.at hM).1
          refine W.iast hx hb hat ((am_arr hKw (kd := 0) (by decide)).1 n (fun j => .int (f j))) (fun q => by cases q) (by show ¬ (i < 0 ∨ (arrV _ _ _).slots.size ≤ _); rw [arrV_size]; exact hin) rfl rfl hd fun H1 e1 z oq => ?_
          refine kk H1 _ cells slots ls (hH.write hM z oq ?_) (hS.put z oq (am_base hH hM)) hL hc hs
          show H1[am_ad γ a]? = some (vp_cell _ _)
          rw [e1]
          show some (Cell.setSlot (arrV (γ.2.1 0) n (fun j => .int (f j))) i.toNatClampNeg (.int x)) = some (arrV (γ.2.1 0) n (fun j => .int (upd f i.toNatClampNeg x j)))
          rw [arrV_store]
          congr 2
          funext q
          by_cases hq : q = i.toNatClampNeg
          · subst hq
            simp [updV, upd]
          · simp [updV, upd, hq]
        · cases h
      | none => simp only [hM] at h; cases h
     | _ => cases h
    | _ => cases h
   | _ => cases h
set_option maxHeartbeats 4000000 in
theorem am_x_bastore (C : am_Cx γ E τ p R s m args meth c) {pc : Nat} {L : List (Option Value)} {st : List Value} {M : am_M} {bc bs : Nat} {ps : List Prop} {k' : am_F} (hd : decode τ.2.2.1 pc = .ok (.bastore, 1)) (h : am_ex E τ.1 τ.2.2.2.2.2.2.1 pc L st M bc bs (.bastore) = some (ps, k')) (hp : ∀ q ∈ ps, q) (kk : am_Wc γ τ p l e R s m args below meth c Q k') : am_Wc γ τ p l e R s m args below meth c Q (pc, L, st, M, bc, bs) := by
  obtain ⟨hx, hb, hml, hown, hts, hin, hdec, hKw, hKx, hfr, hlo, hbase⟩ := C
  intro H locs cells slots ls hH hS hL hc hs
  dsimp only at hH hL hc hs ⊢
  simp only [am_ex] at h
  cases st with
  | nil => cases h
  | cons v r =>
   cases v with
   | int x =>
    cases r with
    | nil => cases h
    | cons v r =>
    cases v with
    | int i =>
     cases r with
     | nil => cases h
     | cons v r =>
     cases v with
     | ref a =>
      cases hM : M.2 a with
      | some cell =>
        simp only [hM] at h
        split at h
        · rename_i n f hcell
          cases hcell
          cases h
          have hin := hp _ List.mem_cons_self
          have hat := (hH.at hM).1
          refine W.zast hx hb hat ((am_arr hKw (kd := 1) (by decide)).1 n (fun j => .int (f j))) (fun q => by cases q) (by show ¬ (i < 0 ∨ (arrV _ _ _).slots.size ≤ _); rw [arrV_size]; exact hin) rfl rfl hd fun H1 e1 z oq => ?_
          refine kk H1 _ cells slots ls (hH.write hM z oq ?_) (hS.put z oq (am_base hH hM)) hL hc hs
          show H1[am_ad γ a]? = some (vp_cell _ _)
          rw [e1]
          show some (Cell.setSlot (arrV (γ.2.1 1) n (fun j => .int (f j))) i.toNatClampNeg (narrow .boolean (.int x))) = some (arrV (γ.2.1 1) n (fun j => .int (upd f i.toNatClampNeg (vp_nar .boolean x) j)))
          rw [arrV_store]
          congr 2
          funext q
          by_cases hq : q = i.toNatClampNeg
          · subst hq
            simp [updV, upd]
            rfl
          · simp [updV, upd, hq]
        · cases h
      | none => simp only [hM] at h; cases h
     | _ => cases h
    | _ => cases h
   | _ => cases h
set_option maxHeartbeats 4000000 in
theorem am_x_lastore (C : am_Cx γ E τ p R s m args meth c) {pc : Nat} {L : List (Option Value)} {st : List Value} {M : am_M} {bc bs : Nat} {ps : List Prop} {k' : am_F} (hd : decode τ.2.2.1 pc = .ok (.lastore, 1)) (h : am_ex E τ.1 τ.2.2.2.2.2.2.1 pc L st M bc bs (.lastore) = some (ps, k')) (hp : ∀ q ∈ ps, q) (kk : am_Wc γ τ p l e R s m args below meth c Q k') : am_Wc γ τ p l e R s m args below meth c Q (pc, L, st, M, bc, bs) := by
  obtain ⟨hx, hb, hml, hown, hts, hin, hdec, hKw, hKx, hfr, hlo, hbase⟩ := C
  intro H locs cells slots ls hH hS hL hc hs
  dsimp only at hH hL hc hs ⊢
  simp only [am_ex] at h
  cases st with
  | nil => cases h
  | cons v r =>
   cases v with
   | long x =>
    cases r with
    | nil => cases h
    | cons v r =>
    cases v with
    | int i =>
     cases r with
     | nil => cases h
     | cons v r =>
     cases v with
     | ref a =>
      cases hM : M.2 a with
      | some cell =>
        simp only [hM] at h
        split at h
        · rename_i n f hcell
          cases hcell
          cases h
          have hin := hp _ List.mem_cons_self
          have hat := (hH.at hM).1
          refine W.last hx hb hat ((am_arr hKw (kd := 2) (by decide)).1 n (fun j => .long (f j))) (fun q => by cases q) (by show ¬ (i < 0 ∨ (arrV _ _ _).slots.size ≤ _); rw [arrV_size]; exact hin) rfl rfl hd fun H1 e1 z oq => ?_
          refine kk H1 _ cells slots ls (hH.write hM z oq ?_) (hS.put z oq (am_base hH hM)) hL hc hs
          show H1[am_ad γ a]? = some (vp_cell _ _)
          rw [e1]
          show some (Cell.setSlot (arrV (γ.2.1 2) n (fun j => .long (f j))) i.toNatClampNeg (.long x)) = some (arrV (γ.2.1 2) n (fun j => .long (vp_updL f i.toNatClampNeg x j)))
          rw [arrV_store]
          congr 2
          funext q
          by_cases hq : q = i.toNatClampNeg
          · subst hq
            simp [updV, vp_updL]
          · simp [updV, vp_updL, hq]
        · cases h
      | none => simp only [hM] at h; cases h
     | _ => cases h
    | _ => cases h
   | _ => cases h
set_option maxHeartbeats 4000000 in
theorem am_x_aastore (C : am_Cx γ E τ p R s m args meth c) {pc : Nat} {L : List (Option Value)} {st : List Value} {M : am_M} {bc bs : Nat} {ps : List Prop} {k' : am_F} (hd : decode τ.2.2.1 pc = .ok (.aastore, 1)) (h : am_ex E τ.1 τ.2.2.2.2.2.2.1 pc L st M bc bs (.aastore) = some (ps, k')) (hp : ∀ q ∈ ps, q) (kk : am_Wc γ τ p l e R s m args below meth c Q k') : am_Wc γ τ p l e R s m args below meth c Q (pc, L, st, M, bc, bs) := by
  obtain ⟨hx, hb, hml, hown, hts, hin, hdec, hKw, hKx, hfr, hlo, hbase⟩ := C
  intro H locs cells slots ls hH hS hL hc hs
  dsimp only at hH hL hc hs ⊢
  simp only [am_ex] at h
  cases st with
  | nil => cases h
  | cons v r =>
   cases v with
   | ref w =>
    cases r with
    | nil => cases h
    | cons v r =>
    cases v with
    | int i =>
     cases r with
     | nil => cases h
     | cons v r =>
     cases v with
     | ref a =>
      simp only at h
      split at h
      · rename_i kd n f ci vs hM hV
        cases hk : (Nat.beq (am_kd ci) kd && Nat.ble kd 5) with
        | false => rw [hk] at h; cases h
        | true =>
          rw [hk] at h
          cases h
          have hin := hp _ List.mem_cons_self
          have hlt : i.toNatClampNeg < n := Nat.not_le.mp fun q => hin (Or.inr q)
          have h0 : ¬ i < 0 := fun q => hin (Or.inl q)
          have hat := (hH.at hM).1
          obtain ⟨r', hr', cellV, g1, g2, g3, -⟩ := (hH.at hV).1
          have hci : ci < 10 := by
            have := (List.getElem?_eq_some_iff.mp hr').1
            exact this
          simp only [Bool.and_eq_true] at hk
          have ek : am_kd ci = kd := Nat.eq_of_beq_eq_true hk.1
          have e5 : kd ≤ 5 := Nat.le_of_ble_eq_true hk.2
          have hkd : kd ≤ 5 ∧ am_ty kd = .object (am_R ci) ∨ am_kd ci = 99 := by
            rw [← ek]
            rcases (show ci = 0 ∨ ci = 1 ∨ ci = 2 ∨ ci = 3 ∨ ci = 4 ∨ ci = 5 ∨ ci = 6 ∨ ci = 7 ∨ ci = 8 ∨ ci = 9 by omega) with rfl | rfl | rfl | rfl | rfl | rfl | rfl | rfl | rfl | rfl
            · exact Or.inl ⟨by decide, rfl⟩
            · exact Or.inr rfl
            · exact Or.inr rfl
            · exact Or.inl ⟨by decide, rfl⟩
            · exact Or.inr rfl
            · exact Or.inr rfl
            · exact Or.inr rfl
            · exact Or.inl ⟨by decide, rfl⟩
            · exact Or.inr rfl
            · exact Or.inr rfl
          have hcls := (hKw.1.1 ci _ (am_vwCl hci)).2
          rw [am_vwCn hci] at hcls
          have hkd2 : kd ≤ 6 ∧ am_ty kd = .object (am_R ci) := by
            rcases hkd with z | z
            · exact ⟨by omega, z.2⟩
            · exfalso
              omega
          have hra := (am_arr hKw hkd2.1).2
          rw [hkd2.2] at hra
          obtain ⟨kA, comp, k1, k2, k3, -⟩ := hra
          have hcomp : comp = γ.1.1 ci := Option.some.inj (k3.symm.trans hcls.1)
          subst hcomp
          obtain ⟨kC, hkC, hkk⟩ := hcls.2
          refine W.aast hx hb hat (fun q h => by cases h) (fun h => by cases h) k1 k2 rfl hkC ⟨h0, by show _ < (arrV _ _ _).slots.size; rw [arrV_size]; exact hlt⟩ g1 (fun q h => by rw [g3] at h; cases h) (by rw [g2]; exact hkC) (by rw [g2]; exact va_assign hcls) rfl rfl hd fun H1 e1 z oq => ?_
          refine kk H1 _ cells slots ls (hH.write hM z oq ?_) (hS.put z oq (am_base hH hM)) hL hc hs
          show H1[am_ad γ a]? = some (vp_cell _ _)
          rw [e1]
          show some (Cell.setSlot (arrV (γ.2.1 kd) n (fun j => va_rf ((f j).map (am_ad γ)))) i.toNatClampNeg (.ref (am_ad γ w))) = some (arrV (γ.2.1 kd) n (fun j => va_rf ((va_up f i.toNatClampNeg (some w) j).map (am_ad γ))))
          rw [arrV_store]
          congr 2
          funext q
          by_cases hq : q = i.toNatClampNeg
          · subst hq
            simp [updV, va_up, va_rf]
          · simp [updV, va_up, hq]
      · cases h
     | _ => cases h
    | _ => cases h
   | _ => cases h
theorem am_tyc9 : ∀ ci, ci < 10 → ∀ j, j < (am_Cn ci).2.2 → am_tyc (am_tyF ci j) ≠ 9 := by decide +kernel
theorem am_defA : ∀ ci, ci < 10 → ∀ j, j < (am_Cn ci).2.2 → defaultValue (am_tyF ci j) = vp_V ((am_def ci).map (am_v γ)) j := by
  intro ci h1 j h2
  have h3 := am_fkA ci h1 j h2
  unfold am_fk at h3
  unfold vp_V am_def
  rw [List.map_map, List.getD_eq_getElem?_getD, List.getElem?_map, h3]
  show _ = am_v γ (am_dv (am_tyc (am_tyF ci j)))
  have h4 := am_tyA h1 j h2
  have h5 : am_tyc (am_tyF ci j) ≠ 9 := am_tyc9 ci h1 j h2
  revert h5
  cases am_tyF ci j <;> intro h5 <;> first | rfl | exact absurd rfl h5
set_option maxHeartbeats 4000000 in
theorem am_x_new (C : am_Cx γ E τ p R s m args meth c) {pc : Nat} {L : List (Option Value)} {st : List Value} {M : am_M} {bc bs : Nat} {i : Nat} {ps : List Prop} {k' : am_F} (hd : decode τ.2.2.1 pc = .ok (.new i, 3)) (h : am_ex E τ.1 τ.2.2.2.2.2.2.1 pc L st M bc bs (.new i) = some (ps, k')) (hp : ∀ q ∈ ps, q) (kk : am_Wc γ τ p l e R s m args below meth c Q k') : am_Wc γ τ p l e R s m args below meth c Q (pc, L, st, M, bc, bs) := by
  obtain ⟨hx, hb, hml, hown, hts, hin, hdec, hKw, hKx, hfr, hlo, hbase⟩ := C
  intro H locs cells slots ls hH hS hL hc hs
  dsimp only at hH hL hc hs ⊢
  simp only [am_ex] at h
  cases hf : am_nc τ.1 i with
  | none => rw [hf] at h; cases h
  | some ci =>
    rw [hf] at h
    cases h
    obtain ⟨f1, f2, f3, f4⟩ := am_nc_ok hf
    have p1 : 1 ≤ bc := hp _ List.mem_cons_self
    have p2 : (am_Cn ci).2.2 ≤ bs := hp _ (List.mem_cons_of_mem _ List.mem_cons_self)
    have p3 : M.1 < am_X := hp _ (List.mem_cons_of_mem _ (List.mem_cons_of_mem _ List.mem_cons_self))
    have hKn := hKw.1.1 ci _ (am_vwCl f4)
    rw [← am_vwCn f4] at f1 f2 f3
    refine W.newcK hx hb hown (hts _ f1) (hts _ f2) (hts _ f3) rfl hd (by omega) (by omega) hKn.2.1 rfl fun H1 kC hkC e1 z1 o1 => ?_
    have k2 := kk H1 locs (cells + 1) (slots + (am_Cn ci).2.2) ls (hH.make p3 z1 o1 ⟨_, am_vwCl f4, (u_born (am_tyF ci) hts (am_layA f4) hKn hkC e1 (am_tyA f4)).to (fun j hj => am_defA ci f4 j hj)⟩) ⟨by rw [z1]; exact Nat.le_succ_of_le hS.1, fun x h1 h2 => (o1 x (Nat.lt_of_lt_of_le h1 hS.1)).trans (hS.2.1 x h1 h2), hS.2.2⟩ hL (by show cells + 1 + (bc - 1) ≤ _; omega) (by show slots + _ + (bs - _) ≤ _; omega)
    rw [List.map_cons] at k2
    rw [show am_v γ (.ref M.1) = .ref H.size from by rw [hH.new_ad p3]; rfl] at k2
    exact k2
end AMD
