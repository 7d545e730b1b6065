/-! New arrays; Object's constructor, Math, arraycopy. -/
section AMF
variable {p : Program} {l : Launch} {e : Env} {R : Room} {s : State} {m : MethodId} {args : Array Value} {below : List Frame} {meth : Method} {c : Code} {Q : State → Prop} {γ : am_G} {E : am_E} {τ : am_T}
theorem am_i1 {α : Type} {a : α} {l : List α} : a ∈ a :: l := List.mem_cons_self
theorem am_i2 {α : Type} {a b : α} {l : List α} : a ∈ b :: a :: l := List.mem_cons_of_mem _ am_i1
theorem am_i3 {α : Type} {a b d : α} {l : List α} : a ∈ b :: d :: a :: l := List.mem_cons_of_mem _ am_i2
theorem am_i4 {α : Type} {a b d f : α} {l : List α} : a ∈ b :: d :: f :: a :: l := List.mem_cons_of_mem _ am_i3
theorem am_i5 {α : Type} {a b d f g : α} {l : List α} : a ∈ b :: d :: f :: g :: a :: l := List.mem_cons_of_mem _ am_i4
theorem am_i6 {α : Type} {a b d f g h : α} {l : List α} : a ∈ b :: d :: f :: g :: h :: a :: l := List.mem_cons_of_mem _ am_i5
theorem am_i7 {α : Type} {a b d f g h k : α} {l : List α} : a ∈ b :: d :: f :: g :: h :: k :: a :: l := List.mem_cons_of_mem _ am_i6
set_option maxHeartbeats 4000000 in
theorem am_x_newarray (C : am_Cx γ E τ p R s m args meth c) {pc : Nat} {L : List (Option Value)} {st : List Value} {M : am_M} {bc bs : Nat} {t : Jvm.ClassFile.ArrayType} {ps : List Prop} {k' : am_F} (hd : decode τ.2.2.1 pc = .ok (.newarray t, 2)) (h : am_ex E τ.1 τ.2.2.2.2.2.2.1 pc L st M bc bs (.newarray t) = some (ps, k')) (hp : ∀ q ∈ ps, q) (kk : am_Wc γ τ p l e R s m args below meth c Q k') : am_Wc γ τ p l e R s m args below meth c Q (pc, L, st, M, bc, bs) := by
  obtain ⟨hx, hb, hml, hown, hts, hin, hdec, hKw, hKx, hfr, hlo, hbase⟩ := C
  intro H locs cells slots ls hH hS hL hc hs
  dsimp only at hH hL hc hs ⊢
  simp only [am_ex] at h
  have key : ∀ (kd : Nat) (a0 : ((Nat → Int32) ⊕ (Nat → Int64) ⊕ (Nat → UInt32) ⊕ (Nat → UInt64) ⊕ (Nat → Option Nat))) (n : Int32) (r : List Value), st = .int n :: r → kd ≤ 6 → (Cond.arrayClass (newarray.typeOf t)) ∈ am_ws → componentBytes (newarray.typeOf t) ≤ 8 → s.vm.findClass ("[" ++ (newarray.typeOf t).toString) = some (γ.2.1 kd) → (∀ N, vp_cell (γ.2.1 kd) (am_ar γ (N, a0)) = arrV (γ.2.1 kd) N (fun _ => defaultValue (newarray.typeOf t))) →
      (some ([¬ n < 0, n.toNatClampNeg ≤ 67108864, 1 ≤ bc, n.toNatClampNeg ≤ bs, M.1 < am_X], pc + 2, L, .ref M.1 :: r, am_mk M (.inl (kd, n.toNatClampNeg, a0)), bc - 1, bs - n.toNatClampNeg) : am_R1) = some (ps, k') → W p l e R s m args below meth c H locs cells slots Q (F0 m pc ls (st.map (am_v γ))) := by
    intro kd a0 n r hst hk hw hcb hfc hcell h9
    subst hst
    cases h9
    have p1 : ¬ n < 0 := hp _ am_i1
    have p2 : n.toNatClampNeg ≤ 67108864 := hp _ am_i2
    have p3 : 1 ≤ bc := hp _ am_i3
    have p4 : n.toNatClampNeg ≤ bs := hp _ am_i4
    have p5 : M.1 < am_X := hp _ am_i5
    refine va_newaK hx hb (hts _ hw) rfl hd rfl p1 rfl (Nat.le_trans (Nat.mul_le_mul p2 hcb) (by decide)) (by omega) (by omega) rfl fun H1 cA e1 z1 o1 hAr hNm => ?_
    have hcA : cA = γ.2.1 kd := Option.some.inj (hNm.symm.trans hfc)
    subst hcA
    have k2 := kk H1 locs (cells + 1) (slots + n.toNatClampNeg) ls (hH.make p5 z1 o1 (by show H1[H.size]? = some (vp_cell (γ.2.1 kd) (am_ar γ (n.toNatClampNeg, a0))); rw [hcell]; exact e1)) ⟨by rw [z1]; exact Nat.le_succ_of_le hS.1, fun x h1 h2 => (o1 x (Nat.lt_of_lt_of_le h1 hS.1)).trans (hS.2.1 x h1 h2), hS.2.2⟩ hL (by show cells + 1 + (bc - 1) ≤ _; omega) (by show slots + _ + (bs - _) ≤ _; omega)
    rw [List.map_cons] at k2
    rw [show am_v γ (.ref M.1) = .ref H.size from by rw [hH.new_ad p5]; rfl] at k2
    exact k2
  cases st with
  | nil => cases t <;> cases h
  | cons v r =>
    cases v with
    | int n =>
      cases t with
      | int => exact key 0 _ n r rfl (by decide) am_g3 (by decide) (am_arr hKw (kd := 0) (by decide)).2 (fun N => rfl) h
      | boolean => exact key 1 _ n r rfl (by decide) am_g2 (by decide) (am_arr hKw (kd := 1) (by decide)).2 (fun N => rfl) h
      | long => exact key 2 _ n r rfl (by decide) am_g4 (by decide) (am_arr hKw (kd := 2) (by decide)).2 (fun N => rfl) h
      | _ => cases h
    | _ => cases t <;> cases h
set_option maxHeartbeats 4000000 in
theorem am_x_anewarray (C : am_Cx γ E τ p R s m args meth c) {pc : Nat} {L : List (Option Value)} {st : List Value} {M : am_M} {bc bs : Nat} {i : Nat} {ps : List Prop} {k' : am_F} (hd : decode τ.2.2.1 pc = .ok (.anewarray i, 3)) (h : am_ex E τ.1 τ.2.2.2.2.2.2.1 pc L st M bc bs (.anewarray i) = some (ps, k')) (hp : ∀ q ∈ ps, q) (kk : am_Wc γ τ p l e R s m args below meth c Q k') : am_Wc γ τ p l e R s m args below meth c Q (pc, L, st, M, bc, bs) := by
  obtain ⟨hx, hb, hml, hown, hts, hin, hdec, hKw, hKx, hfr, hlo, hbase⟩ := C
  intro H locs cells slots ls hH hS hL hc hs
  dsimp only at hH hL hc hs ⊢
  simp only [am_ex] at h
  cases hf : am_nc τ.1 i with
  | none => rw [hf] at h; cases h
  | some ci =>
    rw [hf] at h
    cases st with
    | nil => cases h
    | cons v r =>
      cases v with
      | int n =>
        simp only at h
        cases hk : Nat.ble (am_kd ci) 5 with
        | false => rw [hk] at h; cases h
        | true =>
          rw [hk] at h
          cases h
          have p1 : ¬ n < 0 := hp _ am_i1
          have p2 : n.toNatClampNeg ≤ 67108864 := hp _ am_i2
          have p3 : 1 ≤ bc := hp _ am_i3
          have p4 : n.toNatClampNeg ≤ bs := hp _ am_i4
          have p5 : M.1 < am_X := hp _ am_i5
          obtain ⟨f1, f2, f3, f4⟩ := am_nc_ok hf
          have k5 : am_kd ci ≤ 5 := Nat.le_of_ble_eq_true hk
          have hty : am_ty (am_kd ci) = .object (am_R ci) ∧ va_AO (am_R ci) s := by
            rcases (show ci = 0 ∨ ci = 1 ∨ ci = 2 ∨ ci = 3 ∨ ci = 4 ∨ ci = 5 ∨ ci = 6 ∨ ci = 7 ∨ ci = 8 ∨ ci = 9 by omega) with rfl | rfl | rfl | rfl | rfl | rfl | rfl | rfl | rfl | rfl
            · exact ⟨rfl, hKw.2.2.1⟩
            · cases hk
            · cases hk
            · exact ⟨rfl, hKw.2.2.2.1⟩
            · cases hk
            · cases hk
            · cases hk
            · exact ⟨rfl, hKw.2.2.2.2.1⟩
            · cases hk
            · cases hk
          have hra := (am_arr hKw (kd := am_kd ci) (by omega)).2
          rw [hty.1] at hra
          obtain ⟨kA', comp', -, -, -, k4⟩ := hra
          refine W.anew hx hb hown (hts _ f1) (va_AO.use hty.2) rfl hd rfl p1 (Nat.le_trans (Nat.mul_le_mul p2 (Nat.le_refl 4)) (by decide)) (by omega) (by omega) fun cA kA comp g1 g2 g3 g4 => ?_
          have hcA : cA = γ.2.1 (am_kd ci) := Option.some.inj (g1.symm.trans k4)
          subst hcA
          generalize hH1 : H.push ({ cls := γ.2.1 (am_kd ci), slots := Array.replicate n.toNatClampNeg .null, vm := .none } : Cell) = H1
          have z1 : H1.size = H.size + 1 := by rw [← hH1, Array.size_push]
          have e1 : H1[H.size]? = some (arrV (γ.2.1 (am_kd ci)) n.toNatClampNeg (fun _ => .null)) := by rw [← hH1, Array.getElem?_push_size, ← arrV_new]
          have o1 : ∀ q : Nat, q < H.size → H1[q]? = H[q]? := fun q hq => by rw [← hH1, Array.getElem?_push, if_neg (Nat.ne_of_lt hq)]
          have k2 := kk H1 locs (cells + 1) (slots + n.toNatClampNeg) ls (hH.make p5 z1 o1 e1) ⟨by rw [z1]; exact Nat.le_succ_of_le hS.1, fun x h1 h2 => (o1 x (Nat.lt_of_lt_of_le h1 hS.1)).trans (hS.2.1 x h1 h2), hS.2.2⟩ hL (by show cells + 1 + (bc - 1) ≤ _; omega) (by show slots + _ + (bs - _) ≤ _; omega)
          rw [List.map_cons] at k2
          rw [show am_v γ (.ref M.1) = .ref H.size from by rw [hH.new_ad p5]; rfl] at k2
          exact k2
      | _ => cases h
set_option maxHeartbeats 4000000 in
theorem am_x_invokespecial (C : am_Cx γ E τ p R s m args meth c) {pc : Nat} {L : List (Option Value)} {st : List Value} {M : am_M} {bc bs : Nat} {i : Nat} {ps : List Prop} {k' : am_F} (hd : decode τ.2.2.1 pc = .ok (.invokespecial i, 3)) (h : am_ex E τ.1 τ.2.2.2.2.2.2.1 pc L st M bc bs (.invokespecial i) = some (ps, k')) (hp : ∀ q ∈ ps, q) (kk : am_Wc γ τ p l e R s m args below meth c Q k') : am_Wc γ τ p l e R s m args below meth c Q (pc, L, st, M, bc, bs) := by
  obtain ⟨hx, hb, hml, hown, hts, hin, hdec, hKw, hKx, hfr, hlo, hbase⟩ := C
  intro H locs cells slots ls hH hS hL hc hs
  dsimp only at hH hL hc hs ⊢
  simp only [am_ex] at h
  split at h
  · rename_i a r hbi
    cases h
    have hw := am_bi_ok hbi
    have hcs : am_cs r ≤ 8 := hp _ am_i1
    rw [← am_cs_map γ] at hcs
    exact W.objInit hx hb hown (hts _ hw) (hts _ am_g0) (hts _ am_g1) rfl (by rw [hml]; exact hL.1) rfl hd hfr (by show 2 * 0 + (am_cs (r.map (am_v γ))) + 12 ≤ R.locals; omega) (kk H locs cells slots ls hH hS hL hc hs)
  · cases h
set_option maxHeartbeats 4000000 in
theorem am_copy {cc : ByteArray} {H : Heap} {locs : List Loc} {cells slots pc : Nat} {ls : Array Slot} {rest : List Value} (hexec : p.tables.exec = Jvm.exec) (hb : c.code = cc) (hml : c.maxLocals = ls.size) {own : String} {index : Nat} (hown : s.vm.findClass own = some m.cls) (hlink : (Cond.methodLink own index arraycopyName).before args s = true) (hnat : (Cond.native arraycopyName).before args s = true) (hstat : (Cond.static arraycopyName).before args s = true) (hini : (Cond.initialized "java/lang/System").before args s = true)
    {a0 a : Nat} {c0 : ClassId} {n0 n1 : Nat} {f g : Nat → Int32} (hA : ArrOfT s c0 .int) (hc0 : H[a0]? = some (vp_cell c0 (n0, .inl f))) (hc1 : H[a]? = some (vp_cell c0 (n1, .inl g)))
    {sp dp n : Int32} (h1 : ¬ sp < 0) (h2 : ¬ dp < 0) (h3 : ¬ n < 0) (h4 : sp.toNatClampNeg + n.toNatClampNeg ≤ n0) (h5 : dp.toNatClampNeg + n.toNatClampNeg ≤ n1)
    (hframes : 1 ≤ R.frames) (hlocals : (rest.map fun v => v.category).sum + (nativeFrameWords "java/lang/System" "arraycopy" 5 + 11) ≤ R.locals) (hdg : decode cc pc = .ok (.invokestatic index, 3))
    (kk : ∀ (H1 : Heap) (locs1 : List Loc), H1[a]? = some (vp_cell c0 (n1, .inl (va_cpy f g sp.toNatClampNeg dp.toNatClampNeg n.toNatClampNeg))) → H1.size = H.size → (∀ q : Nat, q ≠ a → H1[q]? = H[q]?) → (∀ q ∈ locs1, q ∈ locs ∨ q.base = a) → W p l e R s m args below meth c H1 locs1 cells slots Q (F0 m (pc + 3) ls rest)) : W p l e R s m args below meth c H locs cells slots Q (F0 m pc ls (.int n :: .int dp :: .ref a :: .int sp :: .ref a0 :: rest)) := by
  have nn : ∀ z : Int32, ¬ z < 0 → z.toInt = (z.toNatClampNeg : Int) := by
    intro z hz
    have hz0 : (0 : Int) ≤ z.toInt := by
      have := Int32.not_lt.mp hz
      simpa using Int32.le_iff_toInt_le.mp this
    show z.toInt = ((z.toInt.toNat : Nat) : Int)
    omega
  intro T hT X
  obtain ⟨-, k0, hk0, cm0, hkk0⟩ := hA n0 (fun j => .int (f j))
  obtain ⟨-, k1, hk1, cm1, hkk1⟩ := hA n1 (fun j => .int (g j))
  obtain ⟨vm', X', step⟩ := X.arraycopy hexec hown hlink hnat hstat hini (src := a0) (dst := a) (cs := vp_cell c0 (n0, .inl f)) (cd := vp_cell c0 (n1, .inl g)) (srcPos := sp) (destPos := dp) (n := n) (by rw [hT]; exact hc0) (by rw [hT]; exact hc1)
    (fun _ h => by cases h) (fun _ h => by cases h) (fun h => by cases h) (fun h => by cases h) hk0 hk1 hkk0 hkk1 rfl h1 h2 h3
    (by rw [nn sp h1, nn n h3]; show ¬ _ > ((arrV c0 n0 (fun j => .int (f j))).slots.size : Int); rw [arrV_size]; omega)
    (by rw [nn dp h2, nn n h3]; show ¬ _ > ((arrV c0 n1 (fun j => .int (g j))).slots.size : Int); rw [arrV_size]; omega)
    (fun vm₁ _ i hi => by
      have e : (vp_cell c0 (n0, .inl f)).slots.getD (sp.toNatClampNeg + i) .null = .int (f (sp.toNatClampNeg + i)) := by
        show (arrV c0 n0 (fun j => .int (f j))).slots.getD _ _ = _
        rw [Array.getD_eq_getD_getElem?, arrV_read _ _ (by omega)]
        rfl
      rw [e]
      exact ⟨rfl, trivial⟩)
    (g := F0 m pc ls (.int n :: .int dp :: .ref a :: .int sp :: .ref a0 :: rest)) rfl (by rw [hml]) (rest := rest) rfl (by rw [hb]; exact hdg) hframes (by show 2 * 0 + _ + _ ≤ _; omega)
  have e1 : copied (vp_cell c0 (n0, .inl f)) (vp_cell c0 (n1, .inl g)) sp dp n = vp_cell c0 (n1, .inl (va_cpy f g sp.toNatClampNeg dp.toNatClampNeg n.toNatClampNeg)) := va_copied (fun z => .int z) c0 c0 f g h4
  rw [e1] at X' step
  have hl : a < H.size := (Array.getElem?_eq_some_iff.mp hc1).1
  have hheap : ((T.setVm vm').setCell a (vp_cell c0 (n1, .inl (va_cpy f g sp.toNatClampNeg dp.toNatClampNeg n.toNatClampNeg)))).heap = H.setIfInBounds a (vp_cell c0 (n1, .inl (va_cpy f g sp.toNatClampNeg dp.toNatClampNeg n.toNatClampNeg))) := by rw [← hT]; rfl
  obtain ⟨t, a1, b1⟩ := kk _ _ (show (H.setIfInBounds a _)[a]? = some _ by simp [Array.getElem?_setIfInBounds, hl]) (by simp) (fun q hq => by simp [Array.getElem?_setIfInBounds, Ne.symm hq]) (fun q hq => by
      rcases List.mem_append.mp hq with h | h
      · exact Or.inl h
      · obtain ⟨z, -, hz⟩ := List.mem_map.mp h
        rw [← hz]
        exact Or.inr rfl) _ hheap X'
  exact ⟨t, step t a1, b1⟩
set_option maxHeartbeats 4000000 in
theorem am_x_invokestatic (C : am_Cx γ E τ p R s m args meth c) {pc : Nat} {L : List (Option Value)} {st : List Value} {M : am_M} {bc bs : Nat} {i : Nat} {ps : List Prop} {k' : am_F} (hd : decode τ.2.2.1 pc = .ok (.invokestatic i, 3)) (h : am_ex E τ.1 τ.2.2.2.2.2.2.1 pc L st M bc bs (.invokestatic i) = some (ps, k')) (hp : ∀ q ∈ ps, q) (kk : am_Wc γ τ p l e R s m args below meth c Q k') : am_Wc γ τ p l e R s m args below meth c Q (pc, L, st, M, bc, bs) := by
  obtain ⟨hx, hb, hml, hown, hts, hin, hdec, hKw, hKx, hfr, hlo, hbase⟩ := C
  intro H locs cells slots ls hH hS hL hc hs
  dsimp only at hH hL hc hs ⊢
  simp only [am_ex] at h
  have hml2 : c.maxLocals = ls.size := by rw [hml]; exact hL.1.symm
  split at h
  · rename_i y x r hbi
    cases h
    have hcs : am_cs r ≤ 8 := hp _ am_i1
    rw [← am_cs_map γ] at hcs
    exact va_mmax hx hb hml2 hown (hts _ (am_bi_ok hbi)) (hts _ am_g10) (hts _ am_g8) (hts _ am_g14) hfr (by show am_cs (r.map (am_v γ)) + 13 ≤ _; omega) (by omega) (by omega) hd (kk H locs cells slots ls hH hS hL hc hs)
  · rename_i y x r hbi
    cases h
    have hcs : am_cs r ≤ 8 := hp _ am_i1
    rw [← am_cs_map γ] at hcs
    exact va_mmin hx hb hml2 hown (hts _ (am_bi_ok hbi)) (hts _ am_g11) (hts _ am_g8) (hts _ am_g15) hfr (by show am_cs (r.map (am_v γ)) + 13 ≤ _; omega) (by omega) (by omega) hd (kk H locs cells slots ls hH hS hL hc hs)
  · rename_i y x r hbi
    cases h
    have hcs : am_cs r ≤ 8 := hp _ am_i1
    rw [← am_cs_map γ] at hcs
    exact va_mmax_long hx hb hml2 hown (hts _ (am_bi_ok hbi)) (hts _ am_g12) (hts _ am_g8) (hts _ am_g16) hfr (by show am_cs (r.map (am_v γ)) + 15 ≤ _; omega) (by omega) (by omega) hd (kk H locs cells slots ls hH hS hL hc hs)
  · rename_i y x r hbi
    cases h
    have hcs : am_cs r ≤ 8 := hp _ am_i1
    rw [← am_cs_map γ] at hcs
    exact va_mmin_long hx hb hml2 hown (hts _ (am_bi_ok hbi)) (hts _ am_g13) (hts _ am_g8) (hts _ am_g17) hfr (by show am_cs (r.map (am_v γ)) + 15 ≤ _; omega) (by omega) (by omega) hd (kk H locs cells slots ls hH hS hL hc hs)
  · rename_i n dp d sp q r hbi
    split at h
    · rename_i n0 f n1 g hM0 hM1
      cases h
      have p1 : ¬ sp < 0 := hp _ am_i1
      have p2 : ¬ dp < 0 := hp _ am_i2
      have p3 : ¬ n < 0 := hp _ am_i3
      have p4 := hp _ am_i4
      have p5 := hp _ am_i5
      have hcs : am_cs r ≤ 8 := hp _ am_i6
      rw [← am_cs_map γ] at hcs
      have hnf : nativeFrameWords "java/lang/System" "arraycopy" 5 ≤ 30 := by decide +kernel
      refine am_copy hx hb hml2 hown (hts _ (am_bi_ok hbi)) (hts _ am_g5) (hts _ am_g6) (hts _ am_g7) (am_arr hKw (kd := 0) (by decide)).1 (hH.at hM0).1 (hH.at hM1).1 p1 p2 p3 p4 p5 hfr (by show am_cs (r.map (am_v γ)) + (nativeFrameWords "java/lang/System" "arraycopy" 5 + 11) ≤ _; omega) hd (fun H1 locs1 e1 z1 o1 hl1 => ?_)
      refine kk H1 locs1 cells slots ls (hH.write hM1 z1 o1 e1) ⟨by rw [z1]; exact hS.1, fun q g1 g2 => by rw [o1 q (fun e => g2 (by rw [e]; exact am_base hH hM1))]; exact hS.2.1 q g1 g2, fun q hq => ?_⟩ hL hc hs
      rcases hl1 q hq with z | z
      · exact hS.2.2 q z
      · rw [z]; exact am_base hH hM1
    · cases h
  · cases h
end AMF
