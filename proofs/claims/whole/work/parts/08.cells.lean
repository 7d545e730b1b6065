/-! Steps that read, write and make cells. -/
section AMC
variable {p : Program} {l : Launch} {e : Env} {R : Room} {s : State} {m : MethodId} {args : Array Value} {below : List Frame} {meth : Method} {c : Code} {Q : State → Prop} {γ : am_G} {E : am_E} {τ : am_T}
theorem am_one {D : va_G} {cl : List vw_C} {x : Nat × va_E} {H : Heap} (h : va_at D cl x H) : va_P D cl [x] H := fun k q hk => by
  have h0 : k < 1 := (List.getElem?_eq_some_iff.mp hk).1
  rw [show k = 0 by omega] at hk
  cases hk
  exact h
theorem am_getE {fs : List Value} {k : Nat} {v : Value} (h : fs[k]? = some v) : (fs.map (am_v γ))[k]? = some (am_v γ v) := by rw [List.getElem?_map, h]; rfl
set_option maxHeartbeats 4000000 in
theorem am_x_getfield (C : am_Cx γ E τ p R s m args meth c) {pc : Nat} {L : List (Option Value)} {st : List Value} {M : am_M} {bc bs : Nat} {i : Nat} {ps : List Prop} {k' : am_F} (hd : decode τ.2.2.1 pc = .ok (.getfield i, 3)) (h : am_ex E τ.1 τ.2.2.2.2.2.2.1 pc L st M bc bs (.getfield i) = some (ps, k')) (hp : ∀ q ∈ ps, q) (kk : am_Wc γ τ p l e R s m args below meth c Q k') : am_Wc γ τ p l e R s m args below meth c Q (pc, L, st, M, bc, bs) := by
  obtain ⟨hx, hb, hml, hown, hts, hin, hdec, hKw, hKx, hfr, hlo, hbase⟩ := C
  intro H locs cells slots ls hH hS hL hc hs
  dsimp only at hH hL hc hs ⊢
  simp only [am_ex] at h
  cases hf : am_fl τ.1 i with
  | none => rw [hf] at h; cases h
  | some q =>
    obtain ⟨ci, k⟩ := q
    rw [hf] at h
    cases st with
    | nil => cases h
    | cons v r =>
      cases v with
      | ref a =>
        cases hM : M.2 a with
        | none => simp only [hM] at h; cases h
        | some cell =>
          cases cell with
          | inl z => simp only [hM] at h; cases h
          | inr z =>
            obtain ⟨ci', fs⟩ := z
            simp only [hM] at h
            cases he : Nat.beq ci ci' with
            | false => rw [he] at h; cases h
            | true =>
              rw [he] at h
              have e1 : ci = ci' := Nat.eq_of_beq_eq_true he
              subst e1
              cases hv : fs[k]? with
              | none => simp only [hv] at h; cases h
              | some v =>
                simp only [hv] at h
                cases h
                obtain ⟨f1, f2, f3⟩ := am_fl_ok hf
                have hat := (hH.at hM).1
                exact va_get (D := γ.1) (cl := vwCl) (tys := am_tys γ) (ci := ci) (C := (am_Cn ci).1) (T := (am_Cn ci).2.1) (N := (am_Cn ci).2.2) hx hb hts (am_layA f3) hown hKw.1 (am_one hat) 0 rfl (am_vwCl f3) k f2 (hts _ f1) (fun _ h9 => h9) (am_getE hv) hd (kk H locs cells slots ls hH hS hL hc hs)
      | _ => cases h
def am_tyc : FieldType → Nat
  | .int => 0
  | .long => 1
  | .object _ => 2
  | .array _ => 2
  | _ => 9
theorem am_fkA : ∀ ci, ci < 10 → ∀ k, k < (am_Cn ci).2.2 → am_fk ci k = some (am_tyc (am_tyF ci k)) := by decide +kernel
theorem am_fnA : ∀ ci, ci < 10 → ∀ k, k < (am_Cn ci).2.2 → am_fn ci k = ((am_Cn ci).2.1 k).2.2.2 := by decide +kernel
theorem am_dcA : ∀ ci, ci < 10 → ∀ k, k < (am_Cn ci).2.2 → ((am_Cn ci).2.1 k).1 = am_R ci := by decide +kernel
theorem am_fitA {ty : FieldType} {v : Value} (h : am_fit (am_tyc ty) v = true) : narrow ty (am_v γ v) = am_v γ v ∧ fits ty (am_v γ v) = true := by
  cases ty <;> cases v <;> first | exact ⟨rfl, rfl⟩ | (cases h)
theorem am_base {M : am_M} {H : Heap} (h : am_Hp γ M H) {k : Nat} {x : am_C} (hk : M.2 k = some x) : γ.2.2.1 ≤ am_ad γ k := by rw [(h.at hk).2]; exact Nat.le_add_right _ _
set_option maxHeartbeats 4000000 in
theorem am_x_putfield (C : am_Cx γ E τ p R s m args meth c) {pc : Nat} {L : List (Option Value)} {st : List Value} {M : am_M} {bc bs : Nat} {i : Nat} {ps : List Prop} {k' : am_F} (hd : decode τ.2.2.1 pc = .ok (.putfield i, 3)) (h : am_ex E τ.1 τ.2.2.2.2.2.2.1 pc L st M bc bs (.putfield i) = some (ps, k')) (hp : ∀ q ∈ ps, q) (kk : am_Wc γ τ p l e R s m args below meth c Q k') : am_Wc γ τ p l e R s m args below meth c Q (pc, L, st, M, bc, bs) := by
  obtain ⟨hx, hb, hml, hown, hts, hin, hdec, hKw, hKx, hfr, hlo, hbase⟩ := C
  intro H locs cells slots ls hH hS hL hc hs
  dsimp only at hH hL hc hs ⊢
  simp only [am_ex] at h
  cases hf : am_fl τ.1 i with
  | none => rw [hf] at h; cases h
  | some q =>
    obtain ⟨ci, k⟩ := q
    rw [hf] at h
    cases st with
    | nil => cases h
    | cons v r =>
     cases r with
     | nil => cases h
     | cons v2 r =>
      cases v2 with
      | ref a =>
        cases hM : M.2 a with
        | none => simp only [hM] at h; cases h
        | some cell =>
          cases cell with
          | inl z => simp only [hM] at h; cases h
          | inr z =>
            obtain ⟨ci', fs⟩ := z
            simp only [hM] at h
            obtain ⟨f1, f2, f3⟩ := am_fl_ok hf
            rw [show am_fk ci k = some (am_tyc (am_tyF ci k)) from am_fkA ci f3 k f2] at h
            simp only at h
            cases he : (Nat.beq ci ci' && am_fit (am_tyc (am_tyF ci k)) v && Nat.blt k fs.length && (!(am_fn ci k) || (τ.2.2.2.2.2.2.1 && Nat.beq τ.1 ci))) with
            | false => rw [he] at h; cases h
            | true =>
              rw [he] at h
              cases h
              simp only [Bool.and_eq_true, Bool.or_eq_true, Bool.not_eq_true'] at he
              obtain ⟨⟨⟨g1, g2⟩, g3⟩, g4⟩ := he
              have e1 : ci = ci' := Nat.eq_of_beq_eq_true g1
              subst e1
              have hl : k < fs.length := Nat.le_of_ble_eq_true g3
              have hl2 : k < (fs.map (am_v γ)).length := by rw [List.length_map]; exact hl
              obtain ⟨hn, hfit⟩ := am_fitA (γ := γ) g2
              have hap := va_apart (own := am_R τ.1) hts (am_layA f3) (am_tyF ci) (am_tyA f3) (am_nmA f3) hKw.1 (am_vwCl f3)
              obtain ⟨r', h1, cell, q1, q2, q3, q4⟩ := (hH.at hM).1
              have hr : r' = am_Cn ci := Option.some.inj (h1.symm.trans (am_vwCl f3))
              subst hr
              obtain ⟨hSl, hfc, kC, hkC, hkind⟩ := hKw.1.1 ci _ (am_vwCl f3)
              obtain ⟨cf, kf, fi, f, hi, hsl⟩ := hSl k f2
              have hlay := hts _ (am_layA f3 _ (u_in_lay f2))
              have hst := (u_facts hfc hkC (u_lays hts (am_layA f3) f2) hi).1
              have fin : ∀ H' : Heap, H'[am_ad γ a]? = some (cell.setSlot f.slot (am_v γ v)) → H'.size = H.size → (∀ q, q ≠ am_ad γ a → H'[q]? = H[q]?) → W p l e R s m args below meth c H' (locs ++ [⟨am_ad γ a, f.slot⟩]) cells slots Q (F0 m (pc + 3) ls (r.map (am_v γ))) := by
                intro H' e1 e2 e3
                rw [hsl] at e1
                refine kk H' _ cells slots ls (hH.write hM e2 e3 ⟨_, am_vwCl f3, ?_⟩) (hS.put e2 e3 (am_base hH hM)) hL hc hs
                rw [List.map_set]
                exact t_OB.to (V := updV (vp_V (fs.map (am_v γ))) k (am_v γ v)) ⟨_, e1, q2, q3, t_set q4 hap f2 (am_v γ v)⟩ (fun j _ => vp_updV_set hl2 (am_v γ v) j)
              cases hfn : am_fn ci k with
              | false =>
                rw [am_fnA ci f3 k f2] at hfn
                unfold u_lay at hlay
                rw [if_neg (by rw [hfn]; decide)] at hlay
                have h6 := u_store hfc hkC hkind hlay hi (am_tyA f3 k f2) hn hfit
                exact W.putK hx hb (f := f) ⟨hown, hts _ f1, ⟨_, _, _, hi⟩, hst⟩ (by rw [q2]; exact h6) q1 q3 (by rw [hsl]; exact k2_hasslot (q4 k f2)) rfl rfl hd fin
              | true =>
                rw [hfn] at g4
                have g5 : τ.2.2.2.2.2.2.1 = true ∧ Nat.beq τ.1 ci = true := by
                  rcases g4 with z | z
                  · cases z
                  · exact z
                have e2 : τ.1 = ci := Nat.eq_of_beq_eq_true g5.2
                rw [am_fnA ci f3 k f2] at hfn
                unfold u_lay at hlay
                rw [if_pos hfn] at hlay
                have hcf : m.cls = cf := by
                  obtain ⟨_, _, c', _, _, _, -, -, hf', -, -, -, hown2, -⟩ := Cond.laysFinal_spec hlay
                  have e1 : c' = cf := by have := hi.symm.trans hf'; simp at this; exact this.1.symm
                  have hdecl : ((am_Cn ci).2.1 k).1 = am_R τ.1 := by rw [e2]; exact am_dcA ci f3 k f2
                  rw [hdecl] at hown2
                  rw [← e1]; exact Option.some.inj (hown.symm.trans hown2)
                have h6 := u_fits hfc hkC hkind (Or.inr hlay) hi (am_tyA f3 k f2) hn hfit
                exact W.putFinK hx hb hown (hts _ f1) hi hst hcf (hin g5.1) (by rw [q2]; exact h6) q1 q3 (by rw [hsl]; exact k2_hasslot (q4 k f2)) rfl rfl hd fin
      | _ => cases h
set_option maxHeartbeats 4000000 in
theorem am_x_getstatic (C : am_Cx γ E τ p R s m args meth c) {pc : Nat} {L : List (Option Value)} {st : List Value} {M : am_M} {bc bs : Nat} {i : Nat} {ps : List Prop} {k' : am_F} (hd : decode τ.2.2.1 pc = .ok (.getstatic i, 3)) (h : am_ex E τ.1 τ.2.2.2.2.2.2.1 pc L st M bc bs (.getstatic i) = some (ps, k')) (hp : ∀ q ∈ ps, q) (kk : am_Wc γ τ p l e R s m args below meth c Q k') : am_Wc γ τ p l e R s m args below meth c Q (pc, L, st, M, bc, bs) := by
  obtain ⟨hx, hb, hml, hown, hts, hin, hdec, hKw, hKx, hfr, hlo, hbase⟩ := C
  intro H locs cells slots ls hH hS hL hc hs
  dsimp only at hH hL hc hs ⊢
  simp only [am_ex] at h
  cases hf : am_sc τ.1 i with
  | none => rw [hf] at h; cases h
  | some e =>
    rw [hf] at h
    cases h
    obtain ⟨f1, f2, f3⟩ := am_sc_ok hf
    have he : am_v γ (.ref (am_X + e)) = .ref (γ.2.2.2 e) := by
      show Value.ref (am_ad γ (am_X + e)) = _
      unfold am_ad
      rw [if_neg (by omega), Nat.add_sub_cancel_left]
    have k2 := kk H locs cells slots ls hH hS hL hc hs
    rw [List.map_cons, he] at k2
    exact va_gets hx hb (hKx.2 e f2 f3) hS hown (hts _ f1) (fun _ h9 => h9) hd k2
theorem am_arr {kd : Nat} (hKw : am_Kw γ s) (hk : kd ≤ 6) : ArrOfT s (γ.2.1 kd) (am_ty kd) ∧ va_RA s (γ.2.1 kd) (am_ty kd) := by
  rcases (show kd = 0 ∨ kd = 1 ∨ kd = 2 ∨ kd = 3 ∨ kd = 4 ∨ kd = 5 ∨ kd = 6 by omega) with rfl | rfl | rfl | rfl | rfl | rfl | rfl
  · exact hKw.1.2 0 _ rfl
  · exact hKw.1.2 1 _ rfl
  · exact hKw.1.2 2 _ rfl
  · exact hKw.1.2 3 _ rfl
  · exact hKw.1.2 4 _ rfl
  · exact hKw.1.2 5 _ rfl
  · exact hKw.1.2 6 _ rfl
theorem am_ext {a : Nat} (h1 : Nat.ble am_X a = true) (h2 : Nat.blt a (am_X + 4) = true) : a - am_X < 4 ∧ am_v γ (.ref a) = .ref (γ.2.2.2 (a - am_X)) := by
  have h3 := Nat.le_of_ble_eq_true h1
  have h4 : a < am_X + 4 := Nat.le_of_ble_eq_true h2
  refine ⟨by omega, ?_⟩
  show Value.ref (am_ad γ a) = _
  unfold am_ad
  rw [if_neg (by omega)]
set_option maxHeartbeats 4000000 in
theorem am_x_arraylength (C : am_Cx γ E τ p R s m args meth c) {pc : Nat} {L : List (Option Value)} {st : List Value} {M : am_M} {bc bs : Nat} {ps : List Prop} {k' : am_F} (hd : decode τ.2.2.1 pc = .ok (.arraylength, 1)) (h : am_ex E τ.1 τ.2.2.2.2.2.2.1 pc L st M bc bs (.arraylength) = some (ps, k')) (hp : ∀ q ∈ ps, q) (kk : am_Wc γ τ p l e R s m args below meth c Q k') : am_Wc γ τ p l e R s m args below meth c Q (pc, L, st, M, bc, bs) := by
  obtain ⟨hx, hb, hml, hown, hts, hin, hdec, hKw, hKx, hfr, hlo, hbase⟩ := C
  intro H locs cells slots ls hH hS hL hc hs
  dsimp only at hH hL hc hs ⊢
  simp only [am_ex] at h
  cases st with
  | nil => cases h
  | cons v r =>
    cases v with
    | ref a =>
      cases hM : M.2 a with
      | some cell => simp only [hM] at h; cases h
      | none =>
        simp only [hM] at h
        cases he : (Nat.ble am_X a && Nat.blt a (am_X + 4)) with
        | false => rw [he] at h; cases h
        | true =>
          rw [he] at h
          cases h
          simp only [Bool.and_eq_true] at he
          obtain ⟨g1, g2⟩ := am_ext (γ := γ) he.1 he.2
          show W p l e R s m args below meth c H locs cells slots Q (F0 m pc ls (am_v γ (.ref a) :: r.map (am_v γ)))
          rw [g2]
          exact va_tlen hx hb (hKx.1 _ g1) hS rfl hd (kk H locs cells slots ls hH hS hL hc hs)
    | _ => cases h
set_option maxHeartbeats 4000000 in
theorem am_x_iaload (C : am_Cx γ E τ p R s m args meth c) {pc : Nat} {L : List (Option Value)} {st : List Value} {M : am_M} {bc bs : Nat} {ps : List Prop} {k' : am_F} (hd : decode τ.2.2.1 pc = .ok (.iaload, 1)) (h : am_ex E τ.1 τ.2.2.2.2.2.2.1 pc L st M bc bs (.iaload) = some (ps, k')) (hp : ∀ q ∈ ps, q) (kk : am_Wc γ τ p l e R s m args below meth c Q k') : am_Wc γ τ p l e R s m args below meth c Q (pc, L, st, M, bc, bs) := by
  obtain ⟨hx, hb, hml, hown, hts, hin, hdec, hKw, hKx, hfr, hlo, hbase⟩ := C
  intro H locs cells slots ls hH hS hL hc hs
  dsimp only at hH hL hc hs ⊢
  simp only [am_ex] at h
  cases st with
  | nil => cases h
  | cons v r =>
   cases v with
   | int i =>
    cases r with
    | nil => cases h
    | cons v r =>
    cases v with
    | ref a =>
      cases hM : M.2 a with
      | some cell =>
        simp only [hM] at h
        split at h
        · rename_i n f hcell
          cases hcell
          cases h
          exact va_iald (D := γ.1) (cl := vwCl) (tys := am_tys γ) hx hb hKw.1 (am_one (hH.at hM).1) 0 0 rfl rfl (hp _ List.mem_cons_self) hd (kk H locs cells slots ls hH hS hL hc hs)
        · cases h
        · rename_i hcell; cases hcell
      | none =>
        simp only [hM] at h
        cases he : (Nat.ble am_X a && Nat.blt a (am_X + 4)) with
        | false => rw [he] at h; cases h
        | true =>
          rw [he] at h
          cases h
          simp only [Bool.and_eq_true] at he
          obtain ⟨g1, g2⟩ := am_ext (γ := γ) he.1 he.2
          show W p l e R s m args below meth c H locs cells slots Q (F0 m pc ls (.int i :: am_v γ (.ref a) :: r.map (am_v γ)))
          rw [g2]
          exact va_ti hx hb (hKx.1 _ g1) hS (hp _ List.mem_cons_self) rfl hd (kk H locs cells slots ls hH hS hL hc hs)
    | _ => cases h
   | _ => cases h
set_option maxHeartbeats 4000000 in
theorem am_x_baload (C : am_Cx γ E τ p R s m args meth c) {pc : Nat} {L : List (Option Value)} {st : List Value} {M : am_M} {bc bs : Nat} {ps : List Prop} {k' : am_F} (hd : decode τ.2.2.1 pc = .ok (.baload, 1)) (h : am_ex E τ.1 τ.2.2.2.2.2.2.1 pc L st M bc bs (.baload) = some (ps, k')) (hp : ∀ q ∈ ps, q) (kk : am_Wc γ τ p l e R s m args below meth c Q k') : am_Wc γ τ p l e R s m args below meth c Q (pc, L, st, M, bc, bs) := by
  obtain ⟨hx, hb, hml, hown, hts, hin, hdec, hKw, hKx, hfr, hlo, hbase⟩ := C
  intro H locs cells slots ls hH hS hL hc hs
  dsimp only at hH hL hc hs ⊢
  simp only [am_ex] at h
  cases st with
  | nil => cases h
  | cons v r =>
   cases v with
   | int i =>
    cases r with
    | nil => cases h
    | cons v r =>
    cases v with
    | ref a =>
      cases hM : M.2 a with
      | some cell =>
        simp only [hM] at h
        split at h
        · rename_i n f hcell
          cases hcell
          cases h
          exact va_zald (D := γ.1) (cl := vwCl) (tys := am_tys γ) hx hb hKw.1 (am_one (hH.at hM).1) 0 1 rfl rfl (hp _ List.mem_cons_self) hd (kk H locs cells slots ls hH hS hL hc hs)
        · cases h
      | none => simp only [hM] at h; cases h
    | _ => cases h
   | _ => cases h
set_option maxHeartbeats 4000000 in
theorem am_x_laload (C : am_Cx γ E τ p R s m args meth c) {pc : Nat} {L : List (Option Value)} {st : List Value} {M : am_M} {bc bs : Nat} {ps : List Prop} {k' : am_F} (hd : decode τ.2.2.1 pc = .ok (.laload, 1)) (h : am_ex E τ.1 τ.2.2.2.2.2.2.1 pc L st M bc bs (.laload) = some (ps, k')) (hp : ∀ q ∈ ps, q) (kk : am_Wc γ τ p l e R s m args below meth c Q k') : am_Wc γ τ p l e R s m args below meth c Q (pc, L, st, M, bc, bs) := by
  obtain ⟨hx, hb, hml, hown, hts, hin, hdec, hKw, hKx, hfr, hlo, hbase⟩ := C
  intro H locs cells slots ls hH hS hL hc hs
  dsimp only at hH hL hc hs ⊢
  simp only [am_ex] at h
  cases st with
  | nil => cases h
  | cons v r =>
   cases v with
   | int i =>
    cases r with
    | nil => cases h
    | cons v r =>
    cases v with
    | ref a =>
      cases hM : M.2 a with
      | some cell =>
        simp only [hM] at h
        split at h
        · rename_i n f hcell
          cases hcell
          cases h
          exact va_lald (D := γ.1) (cl := vwCl) (tys := am_tys γ) hx hb hKw.1 (am_one (hH.at hM).1) 0 2 rfl rfl (hp _ List.mem_cons_self) hd (kk H locs cells slots ls hH hS hL hc hs)
        · cases h
      | none => simp only [hM] at h; cases h
    | _ => cases h
   | _ => cases h
end AMC
