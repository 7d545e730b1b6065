/-! The abstract machine's runs are the machine's. -/
section AMS2
variable {p : Program} {l : Launch} {e : Env} {R : Room} {s : State} {m : MethodId} {args : Array Value} {below : List Frame} {meth : Method} {c : Code} {Q : State → Prop} {γ : am_G} {E : am_E} {τ : am_T}
set_option maxHeartbeats 4000000 in
theorem am_s_ok (C : am_Cx γ E τ p R s m args meth c) {k k' : am_F} {ps : List Prop} (h : am_s E τ k = some (ps, k')) (hp : ∀ q ∈ ps, q) (kk : am_Wc γ τ p l e R s m args below meth c Q k') : am_Wc γ τ p l e R s m args below meth c Q k := by
  obtain ⟨pc, L, st, M, bc, bs⟩ := k
  unfold am_s at h
  dsimp only at h
  cases ha : am_at τ pc with
  | none => simp only [ha] at h; cases h
  | some x =>
    obtain ⟨i, n⟩ := x
    simp only [ha] at h
    have hd := am_at_dec C.2.2.2.2.2.2.1 ha
    cases hn : Nat.beq n (am_len i n) with
    | false => rw [hn] at h; cases h
    | true =>
      rw [hn] at h
      dsimp only [cond] at h
      have en : n = am_len i n := Nat.eq_of_beq_eq_true hn
      cases i with
      | aconst_null  => have e1 : n = 1 := en; subst e1; exact am_x_aconst_null C hd h hp kk
      | iconst a0 => have e1 : n = 1 := en; subst e1; exact am_x_iconst C hd h hp kk
      | bipush a0 => have e1 : n = 2 := en; subst e1; exact am_x_bipush C hd h hp kk
      | sipush a0 => have e1 : n = 3 := en; subst e1; exact am_x_sipush C hd h hp kk
      | lconst a0 => have e1 : n = 1 := en; subst e1; exact am_x_lconst C hd h hp kk
      | ldc a0 => have e1 : n = 2 := en; subst e1; exact am_x_ldc C hd h hp kk
      | ldc2_w a0 => have e1 : n = 3 := en; subst e1; exact am_x_ldc2_w C hd h hp kk
      | iload a0 => have e1 : n = 2 := en; subst e1; exact am_x_iload C hd h hp kk
      | iload_n a0 => have e1 : n = 1 := en; subst e1; exact am_x_iload_n C hd h hp kk
      | lload a0 => have e1 : n = 2 := en; subst e1; exact am_x_lload C hd h hp kk
      | lload_n a0 => have e1 : n = 1 := en; subst e1; exact am_x_lload_n C hd h hp kk
      | aload a0 => have e1 : n = 2 := en; subst e1; exact am_x_aload C hd h hp kk
      | aload_n a0 => have e1 : n = 1 := en; subst e1; exact am_x_aload_n C hd h hp kk
      | istore a0 => have e1 : n = 2 := en; subst e1; exact am_x_istore C hd h hp kk
      | istore_n a0 => have e1 : n = 1 := en; subst e1; exact am_x_istore_n C hd h hp kk
      | lstore a0 => have e1 : n = 2 := en; subst e1; exact am_x_lstore C hd h hp kk
      | lstore_n a0 => have e1 : n = 1 := en; subst e1; exact am_x_lstore_n C hd h hp kk
      | astore a0 => have e1 : n = 2 := en; subst e1; exact am_x_astore C hd h hp kk
      | astore_n a0 => have e1 : n = 1 := en; subst e1; exact am_x_astore_n C hd h hp kk
      | iinc a0 a1 => have e1 : n = 3 := en; subst e1; exact am_x_iinc C hd h hp kk
      | iadd  => have e1 : n = 1 := en; subst e1; exact am_x_iadd C hd h hp kk
      | isub  => have e1 : n = 1 := en; subst e1; exact am_x_isub C hd h hp kk
      | imul  => have e1 : n = 1 := en; subst e1; exact am_x_imul C hd h hp kk
      | iand  => have e1 : n = 1 := en; subst e1; exact am_x_iand C hd h hp kk
      | ior  => have e1 : n = 1 := en; subst e1; exact am_x_ior C hd h hp kk
      | ishl  => have e1 : n = 1 := en; subst e1; exact am_x_ishl C hd h hp kk
      | ishr  => have e1 : n = 1 := en; subst e1; exact am_x_ishr C hd h hp kk
      | idiv  => have e1 : n = 1 := en; subst e1; exact am_x_idiv C hd h hp kk
      | irem  => have e1 : n = 1 := en; subst e1; exact am_x_irem C hd h hp kk
      | ladd  => have e1 : n = 1 := en; subst e1; exact am_x_ladd C hd h hp kk
      | lsub  => have e1 : n = 1 := en; subst e1; exact am_x_lsub C hd h hp kk
      | lmul  => have e1 : n = 1 := en; subst e1; exact am_x_lmul C hd h hp kk
      | ldiv  => have e1 : n = 1 := en; subst e1; exact am_x_ldiv C hd h hp kk
      | lrem  => have e1 : n = 1 := en; subst e1; exact am_x_lrem C hd h hp kk
      | i2l  => have e1 : n = 1 := en; subst e1; exact am_x_i2l C hd h hp kk
      | lcmp  => have e1 : n = 1 := en; subst e1; exact am_x_lcmp C hd h hp kk
      | dup  => have e1 : n = 1 := en; subst e1; exact am_x_dup C hd h hp kk
      | dup2  => have e1 : n = 1 := en; subst e1; exact am_x_dup2 C hd h hp kk
      | goto a0 => have e1 : n = 3 := en; subst e1; exact am_x_goto C hd h hp kk
      | ifCond a0 a1 => have e1 : n = 3 := en; subst e1; exact am_x_ifCond C hd h hp kk
      | if_icmp a0 a1 => have e1 : n = 3 := en; subst e1; exact am_x_if_icmp C hd h hp kk
      | if_acmp a0 a1 => have e1 : n = 3 := en; subst e1; exact am_x_if_acmp C hd h hp kk
      | ifnull a0 => have e1 : n = 3 := en; subst e1; exact am_x_ifnull C hd h hp kk
      | ifnonnull a0 => have e1 : n = 3 := en; subst e1; exact am_x_ifnonnull C hd h hp kk
      | getfield a0 => have e1 : n = 3 := en; subst e1; exact am_x_getfield C hd h hp kk
      | putfield a0 => have e1 : n = 3 := en; subst e1; exact am_x_putfield C hd h hp kk
      | getstatic a0 => have e1 : n = 3 := en; subst e1; exact am_x_getstatic C hd h hp kk
      | arraylength  => have e1 : n = 1 := en; subst e1; exact am_x_arraylength C hd h hp kk
      | iaload  => have e1 : n = 1 := en; subst e1; exact am_x_iaload C hd h hp kk
      | baload  => have e1 : n = 1 := en; subst e1; exact am_x_baload C hd h hp kk
      | laload  => have e1 : n = 1 := en; subst e1; exact am_x_laload C hd h hp kk
      | iastore  => have e1 : n = 1 := en; subst e1; exact am_x_iastore C hd h hp kk
      | bastore  => have e1 : n = 1 := en; subst e1; exact am_x_bastore C hd h hp kk
      | lastore  => have e1 : n = 1 := en; subst e1; exact am_x_lastore C hd h hp kk
      | aastore  => have e1 : n = 1 := en; subst e1; exact am_x_aastore C hd h hp kk
      | newarray a0 => have e1 : n = 2 := en; subst e1; exact am_x_newarray C hd h hp kk
      | anewarray a0 => have e1 : n = 3 := en; subst e1; exact am_x_anewarray C hd h hp kk
      | multianewarray a0 a1 => have e1 : n = 4 := en; subst e1; exact am_x_multianewarray C hd h hp kk
      | new a0 => have e1 : n = 3 := en; subst e1; exact am_x_new C hd h hp kk
      | invokespecial a0 => have e1 : n = 3 := en; subst e1; exact am_x_invokespecial C hd h hp kk
      | invokestatic a0 => have e1 : n = 3 := en; subst e1; exact am_x_invokestatic C hd h hp kk
      | tableswitch a0 a1 a2 a3 => exact am_x_tableswitch C hd h hp kk
      | _ => cases h
/-- a load of a reference out of an array -/
theorem am_aa_ok (C : am_Cx γ E τ p R s m args meth c) {k : am_F} {kd n : Nat} {f : Nat → Option Nat} {i : Int32} {a : Nat} {r : List Value} (ha : am_at τ k.1 = some (.aaload, 1)) (hst : k.2.2.1 = .int i :: .ref a :: r) (hM : k.2.2.2.1.2 a = some (.inl (kd, n, .inr (.inr (.inr (.inr f)))))) (k3 : 3 ≤ kd) (k6 : kd ≤ 6) (hin : vp_in i n) (kk : am_Wc γ τ p l e R s m args below meth c Q (k.1 + 1, k.2.1, va_rf (f i.toNatClampNeg) :: r, k.2.2.2)) : am_Wc γ τ p l e R s m args below meth c Q k := by
  have hd := am_at_dec C.2.2.2.2.2.2.1 ha
  obtain ⟨hx, hb, hml, hown, hts, hini, hdec, hKw, hKx, hfr, hlo, hbase⟩ := C
  intro H locs cells slots ls hH hS hL hc hs
  rw [hst]
  have hlt : i.toNatClampNeg < n := Nat.not_le.mp fun q => hin (Or.inr q)
  have hat := (hH.at hM).1
  have hty : (am_ty kd).isReference = true := by
    rcases (show kd = 3 ∨ kd = 4 ∨ kd = 5 ∨ kd = 6 by omega) with rfl | rfl | rfl | rfl <;> rfl
  have k2 := kk H locs cells slots ls hH hS hL hc hs
  rw [List.map_cons] at k2
  have hv : am_v γ (va_rf (f i.toNatClampNeg)) = va_rf ((f i.toNatClampNeg).map (am_ad γ)) := by
    cases f i.toNatClampNeg <;> rfl
  rw [hv] at k2
  exact W.aald (v := va_rf ((f i.toNatClampNeg).map (am_ad γ))) (ty := am_ty kd) hx hb hat ((am_arr hKw k6).1 n (fun j => va_rf ((f j).map (am_ad γ)))) hty (fun q => by cases q) (by show ¬ (i < 0 ∨ (arrV (γ.2.1 kd) n (fun j => va_rf ((f j).map (am_ad γ)))).slots.size ≤ _); rw [arrV_size]; exact hin) (by show (arrV (γ.2.1 kd) n (fun j => va_rf ((f j).map (am_ad γ)))).slots[i.toNatClampNeg]? = _; exact arrV_read _ _ hlt) rfl rfl hd k2
def am_Pre (γ : am_G) (E : am_E) (M : am_M) : State → Prop := fun U => am_Kw γ U ∧ am_Kx γ E U U.heap ∧ am_Hp γ M U.heap
def am_Post (γ : am_G) (v : Option Value) (M' : am_M) : Array Value → State → Outcome → State → Prop := fun _ st oc t => oc = .returned (v.map (am_v γ)) ∧ am_Hp γ M' t.heap ∧ va_F (fun q => γ.2.2.1 ≤ q) st t
def am_rm (d mc ms : Nat) : Room := { frames := d, cells := mc, slots := ms, locals := 64 * d }
def am_wsy (τ : am_T) : List Cond := Cond.code τ.2.1 τ.2.2.1 τ.2.2.2.1 τ.2.2.2.2.1 :: am_ws
/-- every run of the abstract machine of at most d frames is a contract -/
def am_Sd (E : am_E) (d : Nat) : Prop := ∀ (τ : am_T) (as : List Value) (M : am_M) (mc ms : Nat) (v : Option Value) (M' : am_M), am_D E d τ as M mc ms v M' → am_ok τ → ∀ (l : Launch) (γ : am_G), Met l τ.2.1 (am_wsy τ) (am_rm d mc ms) (va_Pc (as.map (am_v γ)) (am_Pre γ E M)) (am_Post γ v M') mc ms (fun q => γ.2.2.1 ≤ q)
theorem am_blind {γ : am_G} {E : am_E} {M : am_M} {av : List Value} : FrameBlind (va_Pc av (am_Pre γ E M)) := by
  intro a U g mk q
  obtain ⟨q0, q1, q2, q3⟩ := q
  exact ⟨q0, am_Kw.same (u := U) (U := U.calling g mk a) rfl q1, am_Kx.moved (u := U) (U := U.calling g mk a) (Vm.Alike.refl U.vm) (fun _ _ _ => rfl) q2, q3⟩
theorem am_cont {H : Heap} {locs : List Loc} {cells slots mc ms pc bc bs : Nat} {ls : Array Slot} {st0 : List Value} {L : List (Option Value)} {r : List Value} {v : Option Value} {M' : am_M} {a : Array Value} (hr : va_Run p l e R s m args below meth c H locs cells slots mc ms (F0 m pc ls st0) (r.map (am_v γ)) (am_Post γ v M' a) (fun q => γ.2.2.1 ≤ q)) (hS : va_S (fun q => γ.2.2.1 ≤ q) s.heap H locs) (hL : am_Ls γ ls τ.2.2.2.1 L) (hc : cells + bc ≤ R.cells) (hs : slots + bs ≤ R.slots) (h1 : mc ≤ bc) (h2 : ms ≤ bs) (kk : am_Wc γ τ p l e R s m args below meth c Q (pc + 3, L, v.toList ++ r, M', bc - mc, bs - ms)) : W p l e R s m args below meth c H locs cells slots Q (F0 m pc ls st0) := by
  intro T hT X
  obtain ⟨v', st₀, t, T', Lc, h0, X', hLc, e1, e2, ⟨hv, hH1, hz, hk⟩, st⟩ := hr T hT X
  cases hv
  rw [h0] at hz hk
  have k2 := kk T'.heap (locs ++ Lc) (cells + mc) (slots + ms) ls (by rw [e1]; exact hH1) ⟨Nat.le_trans hS.1 (by rw [e1]; exact hz), fun q g1 g2 => by rw [e1, hk q (Nat.lt_of_lt_of_le g1 hS.1) g2]; exact hS.2.1 q g1 g2, fun q hq => by
      rcases List.mem_append.mp hq with h | h
      · exact hS.2.2 q h
      · exact hLc q h⟩ hL (by show cells + mc + (bc - mc) ≤ _; omega) (by show slots + ms + (bs - ms) ≤ _; omega)
  have es : (v.toList ++ r).map (am_v γ) = (v.map (am_v γ)).toList ++ r.map (am_v γ) := by
    rw [List.map_append]
    cases v <;> rfl
  dsimp only at k2
  rw [es] at k2
  obtain ⟨t2, a1, b1⟩ := k2 T' rfl X'
  exact ⟨t2, st t2 a1, b1⟩
theorem am_pop_ok {k k2 : Nat} {τ' τ2 : am_T} {st as r : List Value} (h : am_pop k τ' st = some (k2, τ2, as, r)) : k2 = k ∧ τ2 = τ' ∧ ((k ≤ 2 ∧ ∃ b As, as = .ref b :: As ∧ As.length = τ'.2.2.2.2.2.1 ∧ st = As.reverse ++ .ref b :: r) ∨ (2 < k ∧ as.length = τ'.2.2.2.2.2.1 ∧ st = as.reverse ++ r)) := by
  unfold am_pop at h
  cases hn : Nat.ble τ'.2.2.2.2.2.1 st.length with
  | false => rw [hn] at h; cases h
  | true =>
    rw [hn] at h
    have hle := Nat.le_of_ble_eq_true hn
    have hlen : (st.take τ'.2.2.2.2.2.1).reverse.length = τ'.2.2.2.2.2.1 := by rw [List.length_reverse, List.length_take]; omega
    dsimp only [cond] at h
    cases hk : Nat.ble k 2 with
    | true =>
      rw [hk] at h
      dsimp only [cond] at h
      split at h
      · rename_i b rr hdrop
        cases h
        refine ⟨rfl, rfl, Or.inl ⟨Nat.le_of_ble_eq_true hk, b, _, rfl, hlen, ?_⟩⟩
        rw [List.reverse_reverse, ← hdrop, List.take_append_drop]
      · cases h
    | false =>
      rw [hk] at h
      cases h
      refine ⟨rfl, rfl, Or.inr ⟨?_, hlen, ?_⟩⟩
      · rcases Nat.lt_or_ge 2 k with q | q
        · exact q
        · rw [Nat.ble_eq_true_of_le q] at hk; cases hk
      · rw [List.reverse_reverse, List.take_append_drop]
theorem am_goodL {ws : List Cond} (h : ∀ w ∈ ws, w ∈ am_ws) : GoodIn am_ws ws := fun w hw => ⟨h w hw, good_of_word (am_ws_good w (h w hw))⟩
end AMS2
