/-! Calls, returns, and the contract that every run gives. -/
section AMT
variable {p : Program} {l : Launch} {e : Env} {R : Room} {s : State} {m : MethodId} {args : Array Value} {below : List Frame} {meth : Method} {c : Code} {Q : State → Prop} {γ : am_G} {E : am_E} {τ : am_T}
theorem am_preU {H : Heap} {locs : List Loc} {M : am_M} {av : List Value} (hKw : am_Kw γ s) (hKx : am_Kx γ E s s.heap) (hS : va_S (fun q => γ.2.2.1 ≤ q) s.heap H locs) (hH : am_Hp γ M H) : ∀ U : State, U.heap = H → s.WarmedH U.vm → va_Pc av (am_Pre γ E M) av.toArray U := fun U hU hW => ⟨rfl, hKw.warm hW, am_Kx.moved hW.alike (fun a h1 h2 => by rw [hU]; exact hS.2.1 a h1 h2) hKx, by rw [hU]; exact hH⟩
theorem am_dsc {τ' : am_T} (h : am_ok τ') : τ'.2.1.cls ≠ "java/lang/invoke/MethodHandle" ∧ τ'.2.1.cls ≠ "java/lang/invoke/VarHandle" ∧ (parseMethodDescriptor τ'.2.1.desc).map (fun d => d.parameters.length) = some τ'.2.2.2.2.2.1 := ⟨h.2.2.2.2.2.2.2.1, h.2.2.2.2.2.2.2.2, h.2.2.2.2.2.1⟩
set_option maxHeartbeats 4000000 in
theorem am_call_ok {d : Nat} (IH : am_Sd E d) (C : am_Cx γ E τ p R s m args meth c) (hR : d + 1 ≤ R.frames ∧ 64 * d + 64 ≤ R.locals) {k : am_F} {kd : Nat} {τ' : am_T} {as r : List Value} {mc ms : Nat} {v : Option Value} {M' : am_M} (hi : am_inv τ k = some (kd, τ', as, r)) (hcs : am_cs r ≤ 8) (hrc : am_rcv kd τ' as k.2.2.2.1) (hD : am_D E d τ' as k.2.2.2.1 mc ms v M') (h1 : mc ≤ k.2.2.2.2.1) (h2 : ms ≤ k.2.2.2.2.2) (kk : am_Wc γ τ p l e R s m args below meth c Q (k.1 + 3, k.2.1, v.toList ++ r, M', k.2.2.2.2.1 - mc, k.2.2.2.2.2 - ms)) : am_Wc γ τ p l e R s m args below meth c Q k := by
  obtain ⟨hx, hb, hml, hown, hts, hin, hdec, hKw, hKx, hfr, hlo, hbase⟩ := C
  intro H locs cells slots ls hH hS hL hc hs
  rw [← am_cs_map γ] at hcs
  have hWr : 2 * (F0 m k.1 ls (k.2.2.1.map (am_v γ))).monitorRoom + ((r.map (am_v γ)).map fun v => v.category).sum ≤ 8 := lv_room hcs
  have hf : cells + mc ≤ R.cells ∧ slots + ms ≤ R.slots := ⟨by omega, by omega⟩
  have hsz : (F0 m k.1 ls (k.2.2.1.map (am_v γ))).locals.size = τ.2.2.2.1 := hL.1
  have done := fun (a : Array Value) (hr : va_Run p l e R s m args below meth c H locs cells slots mc ms (F0 m k.1 ls (k.2.2.1.map (am_v γ))) (r.map (am_v γ)) (am_Post γ v M' a) (fun q => γ.2.2.1 ≤ q)) => am_cont (L := k.2.1) hr hS hL hc hs h1 h2 kk
  have hi : am_invP τ k.1 k.2.2.1 = some (kd, τ', as, r) := hi
  unfold am_invP at hi
  split at hi
  · rename_i i ha
    have hd := am_at_dec hdec ha
    split at hi
    · rename_i kx τx hcv
      cases hk : Nat.beq kx 0 with
      | false => rw [hk] at hi; cases hi
      | true =>
        rw [hk] at hi
        have e0 : kx = 0 := Nat.eq_of_beq_eq_true hk
        obtain ⟨e1, e2, hor⟩ := am_pop_ok hi
        subst e1
        subst e2
        rcases hor with ⟨-, b, As, rfl, hlen, hst⟩ | ⟨z, -, -⟩
        · subst e0
          obtain ⟨hok, hws, -, -⟩ := am_cv_ok hcv
          obtain ⟨b', fs, r', hbr, hMb⟩ := hrc rfl
          cases hbr
          have hM := IH _ _ _ _ _ _ _ hD hok l γ
          have hci : τ'.1 < 10 := by
            obtain ⟨r', hr', -⟩ := (hH.at hMb).1
            exact (List.getElem?_eq_some_iff.mp hr').1
          refine done _ (va_runV (As := As.map (am_v γ)) (Ts := am_ws) (own := am_R τ.1) (C := τ'.2.1.cls) ⟨hx, hb, hml, hown, hts⟩ hM (cwV τ'.2.2.2.2.2.1 hts (am_goodL (fun w hw => ?_)) rfl rfl rfl ⟨rfl, am_dsc hok⟩ ⟨hR.1, by show 8 + (τ'.2.2.2.1 + 11) + 64 * d ≤ _; have h40 : τ'.2.2.2.1 ≤ 40 := hok.2.2.2.2.2.2.1; omega⟩) ⟨am_blind, ?_, am_preU hKw hKx hS hH⟩ rfl (by rw [List.length_map]; exact hlen) hsz (by show k.2.2.1.map (am_v γ) = _; rw [hst, List.map_append, List.map_reverse]; rfl) hWr hd hf)
          · rcases List.mem_append.mp hw with z | z
            · exact hws w z
            · rcases List.mem_cons.mp z with z | z
              · rw [z]; exact hok.2.1
              · exact z
          · rw [hok.2.2.2.1, ← am_vwCn hci]
            exact va_recv hKw.1 (am_one (hH.at hMb).1) (am_vwCl hci) (q0 := 0) rfl
        · omega
    · cases hi
  · rename_i i ha
    have hd := am_at_dec hdec ha
    split at hi
    · rename_i kx τx hcv
      cases hk : (Nat.beq kx 1 || Nat.beq kx 2) with
      | false => rw [hk] at hi; cases hi
      | true =>
        rw [hk] at hi
        obtain ⟨e1, e2, hor⟩ := am_pop_ok hi
        subst e1
        subst e2
        have e0 : kd = 1 ∨ kd = 2 := by
          rcases Bool.or_eq_true_iff.mp hk with z | z
          · exact Or.inl (Nat.eq_of_beq_eq_true z)
          · exact Or.inr (Nat.eq_of_beq_eq_true z)
        rcases hor with ⟨-, b, As, rfl, hlen, hst⟩ | ⟨z, -, -⟩
        · obtain ⟨hok, hws, hnl, hinn⟩ := am_cv_ok hcv
          have hM := IH _ _ _ _ _ _ _ hD hok l γ
          have hnm : τ'.2.1.name = "<init>" := hok.2.2.2.2.1 (hinn e0).1
          have hgd : GoodIn am_ws (am_wsy τ') := am_goodL (fun w hw => by
            rcases List.mem_cons.mp hw with z | z
            · rw [z]; exact hok.2.1
            · exact z)
          have hrm : (am_rm d mc ms).frames + 1 ≤ R.frames ∧ 8 + (τ'.2.2.2.1 + 11) + (am_rm d mc ms).locals ≤ R.locals := ⟨hR.1, by show 8 + (τ'.2.2.2.1 + 11) + 64 * d ≤ _; have h40 : τ'.2.2.2.1 ≤ 40 := hok.2.2.2.2.2.2.1; omega⟩
          have hst2 : k.2.2.1.map (am_v γ) = (As.map (am_v γ)).reverse ++ .ref (am_ad γ b) :: r.map (am_v γ) := by rw [hst, List.map_append, List.map_reverse]; rfl
          have hret : τ'.2.2.2.2.1 = none := (hinn e0).2
          have hM2 : Met l τ'.2.1 (Cond.code τ'.2.1 τ'.2.2.1 τ'.2.2.2.1 none :: am_ws) (am_rm d mc ms) (va_Pc ((Value.ref b :: As).map (am_v γ)) (am_Pre γ E k.2.2.2.1)) (am_Post γ v M') mc ms (fun q => γ.2.2.1 ≤ q) := by rw [← hret]; exact hM
          have hgd2 : GoodIn am_ws (Cond.code τ'.2.1 τ'.2.2.1 τ'.2.2.2.1 none :: am_ws) := by rw [← hret]; exact hgd
          rcases e0 with e0 | e0
          · subst e0
            exact done _ (va_runI (As := As.map (am_v γ)) (Ts := am_ws) (own := am_R τ.1) ⟨hx, hb, hml, hown, hts⟩ hM2 (cwI τ'.2.2.2.2.2.1 hts hgd2 rfl rfl rfl (hts _ (hws _ am_i3)) (hts _ (hws _ am_i1)) (hts _ (hws _ am_i2)) hnm (am_dsc hok) hrm) ⟨am_blind, am_preU hKw hKx hS hH⟩ rfl (by rw [List.length_map]; exact hlen) hsz hst2 hWr hd hf)
          · subst e0
            exact done _ (va_runIN (As := As.map (am_v γ)) (Ts := am_ws) (own := am_R τ.1) (host := RX8) ⟨hx, hb, hml, hown, hts⟩ hM2 ⟨va_cnB τ'.2.2.2.2.2.1 hts hgd2 rfl rfl rfl (hKw.2.1 _ (hnl (Or.inl rfl))) (hts _ (hws _ am_i2)) (am_dsc hok) hrm, hnm, hts _ (hws _ am_i1)⟩ ⟨am_blind, am_preU hKw hKx hS hH⟩ rfl (by rw [List.length_map]; exact hlen) hsz hst2 hWr hd hf)
        · omega
    · cases hi
  · rename_i i ha
    have hd := am_at_dec hdec ha
    split at hi
    · rename_i kx τx hcv
      cases hk : (Nat.beq kx 3 || Nat.beq kx 4) with
      | false => rw [hk] at hi; cases hi
      | true =>
        rw [hk] at hi
        obtain ⟨e1, e2, hor⟩ := am_pop_ok hi
        subst e1
        subst e2
        have e0 : kd = 3 ∨ kd = 4 := by
          rcases Bool.or_eq_true_iff.mp hk with z | z
          · exact Or.inl (Nat.eq_of_beq_eq_true z)
          · exact Or.inr (Nat.eq_of_beq_eq_true z)
        rcases hor with ⟨z, -⟩ | ⟨-, hlen, hst⟩
        · omega
        · obtain ⟨hok, hws, hnl, -⟩ := am_cv_ok hcv
          have hM := IH _ _ _ _ _ _ _ hD hok l γ
          have hgd : GoodIn am_ws (am_wsy τ') := am_goodL (fun w hw => by
            rcases List.mem_cons.mp hw with z | z
            · rw [z]; exact hok.2.1
            · exact z)
          have hrm : (am_rm d mc ms).frames + 1 ≤ R.frames ∧ 8 + (τ'.2.2.2.1 + 11) + (am_rm d mc ms).locals ≤ R.locals := ⟨hR.1, by show 8 + (τ'.2.2.2.1 + 11) + 64 * d ≤ _; have h40 : τ'.2.2.2.1 ≤ 40 := hok.2.2.2.2.2.2.1; omega⟩
          have hst2 : k.2.2.1.map (am_v γ) = (as.map (am_v γ)).reverse ++ r.map (am_v γ) := by rw [hst, List.map_append, List.map_reverse]
          rcases e0 with e0 | e0
          · subst e0
            exact done _ (va_runS (As := as.map (am_v γ)) (Ts := am_ws) (own := am_R τ.1) ⟨hx, hb, hml, hown, hts⟩ hM (va_cwS τ'.2.2.2.2.2.1 hts (am_goodL (fun w hw => by
              rcases List.mem_append.mp hw with z | z
              · exact hws w z
              · rcases List.mem_cons.mp z with z | z
                · rw [z]; exact hok.2.1
                · exact z)) rfl rfl rfl (am_dsc hok) hrm) ⟨am_blind, am_preU hKw hKx hS hH⟩ rfl (by rw [List.length_map]; exact hlen) hsz hst2 hWr hd hf)
          · subst e0
            exact done _ (va_runSN (As := as.map (am_v γ)) (Ts := am_ws) (own := am_R τ.1) (host := RX8) ⟨hx, hb, hml, hown, hts⟩ hM ⟨va_cnB τ'.2.2.2.2.2.1 hts hgd rfl rfl rfl (hKw.2.1 _ (hnl (Or.inr rfl))) (hts _ (hws _ am_i2)) (am_dsc hok) hrm, hts _ (hws _ am_i1), trivial⟩ ⟨am_blind, am_preU hKw hKx hS hH⟩ rfl (by rw [List.length_map]; exact hlen) hsz hst2 hWr hd hf)
    · cases hi
  · cases hi
end AMT
