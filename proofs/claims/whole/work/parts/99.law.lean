/-! THE CLAIM OUT OF ONE WALK OF THE LAW'S BODY. Your part is whole_start (and what it stands on); all else here is the same for every law, but numbers. -/
def R_law : String := "ShiftLedgerLaw"
def lw_P (b : Addr) (xs : List Int32) (args : Array Value) (s : State) : Prop := args = #[.ref b] ∧ s.IntsAt b xs ∧ xs.length ≤ 3072 ∧ (Jvm.Cond.and given_1 narrow_1).before args s = true
def lw_Q (_ : Array Value) (s : State) (o : Outcome) (t : State) : Prop := o = .returned (some (.int 1)) ∧ Framed s o t [] 600000 7302250
def lw_Z (below : List Frame) (a : Array Value) (s : State) : State → Prop := fun t => ∃ o, t.status = .running ∧ Ended t below o ∧ lw_Q a s o t
/-- the law's own end, with 1 on the stack, nothing written that was there before, its room as the claim has it -/
theorem lw_ret {p : Program} {l : Launch} {e : Env} {s : State} {m : MethodId} {below : List Frame} {meth : Method} {c : Code} {b : Nat} (hx : p.tables.exec = Jvm.exec) (hb : c.code = code) (hr : meth.sig.returnType = ret) (hlocks : meth.locks = false) {pc : Nat} {H : Heap} {ls : Array Slot} (hdg : decode code pc = .ok (.ireturn, 1)) : W p l e room_1 s m #[Value.ref b] below meth c H [] 600000 7302250 (lw_Z below #[Value.ref b] s) (F0 m pc ls [.int 1]) := by
  intro T hT X
  obtain ⟨fs, hret, hrun, hended, hW, hframe⟩ := X.leave (v := some (.int 1)) (hlocks := hlocks) (fun h => by rw [hr] at h; cases h)
  have hmeth' : T.vm.method? m = some meth := X.method'
  refine ⟨T.setFrames fs, ?_, .returned (some (.int 1)), hrun, hended, rfl, ⟨_, rfl⟩, hW, hframe⟩
  jvm_step X.here [X.here.top, hx, hb, hdg, hmeth', hr, ret, narrow_b1]
  (try refine ⟨rfl, ?_⟩); (try refine ⟨rfl, ?_⟩)
  first | (intro acts; rw [hret _ acts rfl rfl rfl]) | rw [hret _ _ rfl rfl rfl]
  exact Steps.refl _
/-- what holds at the law's entry: the machine, the code, the tables' words (any of lw_tbl by 'hts w (by decide +kernel)'), the script of L ints xs at the cell b, what the Statement gives of the start (any of its parts by flat_of_before) -/
def lw_At (p : Program) (s : State) (m : MethodId) (meth : Method) (c : Code) (b L : Nat) (xs : Nat → Int32) : Prop :=
  p.tables.exec = Jvm.exec ∧ c.code = code ∧ meth.sig.returnType = ret ∧ c.maxLocals = 4 ∧ s.vm.findClass R_law = some m.cls ∧ (∀ w ∈ lw_tbl, w.before #[Value.ref b] s = true) ∧ va_X b L xs s s.heap ∧ b < s.heap.size ∧ meth.locks = false ∧ (Jvm.Cond.and given_1 narrow_1).before #[Value.ref b] s = true

theorem am_ao (s : State) {a : Array Value} (h : (Cond.arrayOver (.array .long)).before a s = true) : ∃ (comp c : ClassId) (k : Class), s.vm.classes[c]? = some k ∧ k.kind = .array comp (.array .long) ∧ s.vm.findClass ("[" ++ (FieldType.array .long).toString) = some c := by
  unfold Cond.before at h
  simp only [Cond.holds, Cond.value, beq_iff_eq] at h
  rw [Option.bind_eq_some_iff] at h
  obtain ⟨comp, h1, h2⟩ := h
  rw [Option.bind_eq_some_iff] at h2
  obtain ⟨cc, h3, h4⟩ := h2
  rw [Option.map_eq_some_iff] at h4
  obtain ⟨k, h5, h6⟩ := h4
  cases hk : k.kind with
  | array comp' ty =>
    rw [hk] at h6
    simp only [Bool.and_eq_true, decide_eq_true_eq] at h6
    obtain ⟨e1, e2⟩ := h6
    subst e1
    exact ⟨comp', cc, k, h5, hk, e2⟩
  | _ => rw [hk] at h6; cases h6
set_option maxRecDepth 100000 in
set_option maxHeartbeats 4000000 in
theorem am_stat1 {b : Nat} {s : State} (hts : ∀ w ∈ lw_tbl, w.before #[Value.ref b] s = true) (hgv : (Jvm.Cond.and given_1 narrow_1).before #[Value.ref b] s = true) : ∃ t : Nat, va_T .int t 5 (fun j => .int (am_HA.getD j 0)) (fun q => s.heap.size ≤ q) s s.heap ∧ va_Z "ShiftLedger" "HIGHEST_A" "[I" (.ref t) (fun q => s.heap.size ≤ q) s s.heap := by
  have hs := flat_of_before _ hgv
  have hA : ∀ a : Nat, a < s.heap.size → ¬ s.heap.size ≤ a := fun a h1 h2 => absurd h1 (Nat.not_lt.mpr h2)
  have hel : ∀ j : Nat, j < 5 → (Term.elem (.static "ShiftLedger" "HIGHEST_A" "[I") (.int (Int32.ofNat j))).eval #[Value.ref b] s none [] s = some (.int (am_HA.getD j 0)) := by
    intro j hj
    match j, hj with
    | 0, _ => exact va_eqt (hs (.eq (.elem (.static "ShiftLedger" "HIGHEST_A" "[I") (.int 0)) (.int 30)) (by decide +kernel))
    | 1, _ => exact va_eqt (hs (.eq (.elem (.static "ShiftLedger" "HIGHEST_A" "[I") (.int 1)) (.int 2880)) (by decide +kernel))
    | 2, _ => exact va_eqt (hs (.eq (.elem (.static "ShiftLedger" "HIGHEST_A" "[I") (.int 2)) (.int 2880)) (by decide +kernel))
    | 3, _ => exact va_eqt (hs (.eq (.elem (.static "ShiftLedger" "HIGHEST_A" "[I") (.int 3)) (.int 2880)) (by decide +kernel))
    | 4, _ => exact va_eqt (hs (.eq (.elem (.static "ShiftLedger" "HIGHEST_A" "[I") (.int 4)) (.int 2880)) (by decide +kernel))
    | j + 5, hj => exact absurd hj (by omega)
  obtain ⟨t, h1, h2⟩ := va_Tof (N := 5) (A := fun q => s.heap.size ≤ q) (by decide) (hs (.arrayOf (.static "ShiftLedger" "HIGHEST_A" "[I") .int) (by decide +kernel)) (va_eqt (hs (.eq (.length (.static "ShiftLedger" "HIGHEST_A" "[I")) (.int 5)) (by decide +kernel))) hel hA
  exact ⟨t, h2, va_Zref (hts (.laysStatic "ShiftLedger" "HIGHEST_A" "[I") (by decide +kernel)) (hts (.initialized "ShiftLedger") (by decide +kernel)) h1 hA⟩
set_option maxRecDepth 100000 in
set_option maxHeartbeats 4000000 in
theorem am_stat2 {b : Nat} {s : State} (hts : ∀ w ∈ lw_tbl, w.before #[Value.ref b] s = true) (hgv : (Jvm.Cond.and given_1 narrow_1).before #[Value.ref b] s = true) : ∃ t : Nat, va_T .int t 5 (fun j => .int (am_HB.getD j 0)) (fun q => s.heap.size ≤ q) s s.heap ∧ va_Z "ShiftLedger" "HIGHEST_B" "[I" (.ref t) (fun q => s.heap.size ≤ q) s s.heap := by
  have hs := flat_of_before _ hgv
  have hA : ∀ a : Nat, a < s.heap.size → ¬ s.heap.size ≤ a := fun a h1 h2 => absurd h1 (Nat.not_lt.mpr h2)
  have hel : ∀ j : Nat, j < 5 → (Term.elem (.static "ShiftLedger" "HIGHEST_B" "[I") (.int (Int32.ofNat j))).eval #[Value.ref b] s none [] s = some (.int (am_HB.getD j 0)) := by
    intro j hj
    match j, hj with
    | 0, _ => exact va_eqt (hs (.eq (.elem (.static "ShiftLedger" "HIGHEST_B" "[I") (.int 0)) (.int 0)) (by decide +kernel))
    | 1, _ => exact va_eqt (hs (.eq (.elem (.static "ShiftLedger" "HIGHEST_B" "[I") (.int 1)) (.int 2880)) (by decide +kernel))
    | 2, _ => exact va_eqt (hs (.eq (.elem (.static "ShiftLedger" "HIGHEST_B" "[I") (.int 2)) (.int 600)) (by decide +kernel))
    | 3, _ => exact va_eqt (hs (.eq (.elem (.static "ShiftLedger" "HIGHEST_B" "[I") (.int 3)) (.int 0)) (by decide +kernel))
    | 4, _ => exact va_eqt (hs (.eq (.elem (.static "ShiftLedger" "HIGHEST_B" "[I") (.int 4)) (.int 20000)) (by decide +kernel))
    | j + 5, hj => exact absurd hj (by omega)
  obtain ⟨t, h1, h2⟩ := va_Tof (N := 5) (A := fun q => s.heap.size ≤ q) (by decide) (hs (.arrayOf (.static "ShiftLedger" "HIGHEST_B" "[I") .int) (by decide +kernel)) (va_eqt (hs (.eq (.length (.static "ShiftLedger" "HIGHEST_B" "[I")) (.int 5)) (by decide +kernel))) hel hA
  exact ⟨t, h2, va_Zref (hts (.laysStatic "ShiftLedger" "HIGHEST_B" "[I") (by decide +kernel)) (hts (.initialized "ShiftLedger") (by decide +kernel)) h1 hA⟩
set_option maxRecDepth 100000 in
set_option maxHeartbeats 4000000 in
theorem am_stat3 {b : Nat} {s : State} (hts : ∀ w ∈ lw_tbl, w.before #[Value.ref b] s = true) (hgv : (Jvm.Cond.and given_1 narrow_1).before #[Value.ref b] s = true) : ∃ t : Nat, va_T .int t 37 (fun j => .int (am_MS.getD j 0)) (fun q => s.heap.size ≤ q) s s.heap ∧ va_Z "ShiftLedger" "MONTH_STARTS" "[I" (.ref t) (fun q => s.heap.size ≤ q) s s.heap := by
  have hs := flat_of_before _ hgv
  have hA : ∀ a : Nat, a < s.heap.size → ¬ s.heap.size ≤ a := fun a h1 h2 => absurd h1 (Nat.not_lt.mpr h2)
  have hel : ∀ j : Nat, j < 37 → (Term.elem (.static "ShiftLedger" "MONTH_STARTS" "[I") (.int (Int32.ofNat j))).eval #[Value.ref b] s none [] s = some (.int (am_MS.getD j 0)) := by
    intro j hj
    match j, hj with
    | 0, _ => exact va_eqt (hs (.eq (.elem (.static "ShiftLedger" "MONTH_STARTS" "[I") (.int 0)) (.int 0)) (by decide +kernel))
    | 1, _ => exact va_eqt (hs (.eq (.elem (.static "ShiftLedger" "MONTH_STARTS" "[I") (.int 1)) (.int 31)) (by decide +kernel))
    | 2, _ => exact va_eqt (hs (.eq (.elem (.static "ShiftLedger" "MONTH_STARTS" "[I") (.int 2)) (.int 59)) (by decide +kernel))
    | 3, _ => exact va_eqt (hs (.eq (.elem (.static "ShiftLedger" "MONTH_STARTS" "[I") (.int 3)) (.int 90)) (by decide +kernel))
    | 4, _ => exact va_eqt (hs (.eq (.elem (.static "ShiftLedger" "MONTH_STARTS" "[I") (.int 4)) (.int 120)) (by decide +kernel))
    | 5, _ => exact va_eqt (hs (.eq (.elem (.static "ShiftLedger" "MONTH_STARTS" "[I") (.int 5)) (.int 151)) (by decide +kernel))
    | 6, _ => exact va_eqt (hs (.eq (.elem (.static "ShiftLedger" "MONTH_STARTS" "[I") (.int 6)) (.int 181)) (by decide +kernel))
    | 7, _ => exact va_eqt (hs (.eq (.elem (.static "ShiftLedger" "MONTH_STARTS" "[I") (.int 7)) (.int 212)) (by decide +kernel))
    | 8, _ => exact va_eqt (hs (.eq (.elem (.static "ShiftLedger" "MONTH_STARTS" "[I") (.int 8)) (.int 243)) (by decide +kernel))
    | 9, _ => exact va_eqt (hs (.eq (.elem (.static "ShiftLedger" "MONTH_STARTS" "[I") (.int 9)) (.int 273)) (by decide +kernel))
    | 10, _ => exact va_eqt (hs (.eq (.elem (.static "ShiftLedger" "MONTH_STARTS" "[I") (.int 10)) (.int 304)) (by decide +kernel))
    | 11, _ => exact va_eqt (hs (.eq (.elem (.static "ShiftLedger" "MONTH_STARTS" "[I") (.int 11)) (.int 334)) (by decide +kernel))
    | 12, _ => exact va_eqt (hs (.eq (.elem (.static "ShiftLedger" "MONTH_STARTS" "[I") (.int 12)) (.int 365)) (by decide +kernel))
    | 13, _ => exact va_eqt (hs (.eq (.elem (.static "ShiftLedger" "MONTH_STARTS" "[I") (.int 13)) (.int 396)) (by decide +kernel))
    | 14, _ => exact va_eqt (hs (.eq (.elem (.static "ShiftLedger" "MONTH_STARTS" "[I") (.int 14)) (.int 424)) (by decide +kernel))
    | 15, _ => exact va_eqt (hs (.eq (.elem (.static "ShiftLedger" "MONTH_STARTS" "[I") (.int 15)) (.int 455)) (by decide +kernel))
    | 16, _ => exact va_eqt (hs (.eq (.elem (.static "ShiftLedger" "MONTH_STARTS" "[I") (.int 16)) (.int 485)) (by decide +kernel))
    | 17, _ => exact va_eqt (hs (.eq (.elem (.static "ShiftLedger" "MONTH_STARTS" "[I") (.int 17)) (.int 516)) (by decide +kernel))
    | 18, _ => exact va_eqt (hs (.eq (.elem (.static "ShiftLedger" "MONTH_STARTS" "[I") (.int 18)) (.int 546)) (by decide +kernel))
    | 19, _ => exact va_eqt (hs (.eq (.elem (.static "ShiftLedger" "MONTH_STARTS" "[I") (.int 19)) (.int 577)) (by decide +kernel))
    | 20, _ => exact va_eqt (hs (.eq (.elem (.static "ShiftLedger" "MONTH_STARTS" "[I") (.int 20)) (.int 608)) (by decide +kernel))
    | 21, _ => exact va_eqt (hs (.eq (.elem (.static "ShiftLedger" "MONTH_STARTS" "[I") (.int 21)) (.int 638)) (by decide +kernel))
    | 22, _ => exact va_eqt (hs (.eq (.elem (.static "ShiftLedger" "MONTH_STARTS" "[I") (.int 22)) (.int 669)) (by decide +kernel))
    | 23, _ => exact va_eqt (hs (.eq (.elem (.static "ShiftLedger" "MONTH_STARTS" "[I") (.int 23)) (.int 699)) (by decide +kernel))
    | 24, _ => exact va_eqt (hs (.eq (.elem (.static "ShiftLedger" "MONTH_STARTS" "[I") (.int 24)) (.int 730)) (by decide +kernel))
    | 25, _ => exact va_eqt (hs (.eq (.elem (.static "ShiftLedger" "MONTH_STARTS" "[I") (.int 25)) (.int 761)) (by decide +kernel))
    | 26, _ => exact va_eqt (hs (.eq (.elem (.static "ShiftLedger" "MONTH_STARTS" "[I") (.int 26)) (.int 790)) (by decide +kernel))
    | 27, _ => exact va_eqt (hs (.eq (.elem (.static "ShiftLedger" "MONTH_STARTS" "[I") (.int 27)) (.int 821)) (by decide +kernel))
    | 28, _ => exact va_eqt (hs (.eq (.elem (.static "ShiftLedger" "MONTH_STARTS" "[I") (.int 28)) (.int 851)) (by decide +kernel))
    | 29, _ => exact va_eqt (hs (.eq (.elem (.static "ShiftLedger" "MONTH_STARTS" "[I") (.int 29)) (.int 882)) (by decide +kernel))
    | 30, _ => exact va_eqt (hs (.eq (.elem (.static "ShiftLedger" "MONTH_STARTS" "[I") (.int 30)) (.int 912)) (by decide +kernel))
    | 31, _ => exact va_eqt (hs (.eq (.elem (.static "ShiftLedger" "MONTH_STARTS" "[I") (.int 31)) (.int 943)) (by decide +kernel))
    | 32, _ => exact va_eqt (hs (.eq (.elem (.static "ShiftLedger" "MONTH_STARTS" "[I") (.int 32)) (.int 974)) (by decide +kernel))
    | 33, _ => exact va_eqt (hs (.eq (.elem (.static "ShiftLedger" "MONTH_STARTS" "[I") (.int 33)) (.int 1004)) (by decide +kernel))
    | 34, _ => exact va_eqt (hs (.eq (.elem (.static "ShiftLedger" "MONTH_STARTS" "[I") (.int 34)) (.int 1035)) (by decide +kernel))
    | 35, _ => exact va_eqt (hs (.eq (.elem (.static "ShiftLedger" "MONTH_STARTS" "[I") (.int 35)) (.int 1065)) (by decide +kernel))
    | 36, _ => exact va_eqt (hs (.eq (.elem (.static "ShiftLedger" "MONTH_STARTS" "[I") (.int 36)) (.int 1096)) (by decide +kernel))
    | j + 37, hj => exact absurd hj (by omega)
  obtain ⟨t, h1, h2⟩ := va_Tof (N := 37) (A := fun q => s.heap.size ≤ q) (by decide) (hs (.arrayOf (.static "ShiftLedger" "MONTH_STARTS" "[I") .int) (by decide +kernel)) (va_eqt (hs (.eq (.length (.static "ShiftLedger" "MONTH_STARTS" "[I")) (.int 37)) (by decide +kernel))) hel hA
  exact ⟨t, h2, va_Zref (hts (.laysStatic "ShiftLedger" "MONTH_STARTS" "[I") (by decide +kernel)) (hts (.initialized "ShiftLedger") (by decide +kernel)) h1 hA⟩
set_option maxRecDepth 100000 in
set_option maxHeartbeats 4000000 in
theorem am_arr0 {b : Nat} {s : State} (hts : ∀ w ∈ lw_tbl, w.before #[Value.ref b] s = true) : ∀ kd : Nat, ∃ cA : ClassId, ArrOfT s cA (am_ty kd) ∧ va_RA s cA (am_ty kd) := by
  have prim : ∀ ty : FieldType, (Cond.arrayClass ty).before #[Value.ref b] s = true → ∃ (cA : ClassId), ArrOfT s cA ty ∧ s.vm.findClass ("[" ++ ty.toString) = some cA := by
    intro ty h
    obtain ⟨c, k, comp, h1, h2, h3⟩ := Cond.arrayClass_spec h
    exact ⟨c, fun N z => ⟨(fun k h => by cases h), k, h2, comp, h3⟩, h1⟩
  have obj : ∀ C : String, (Cond.arrayOver (.object C)).before #[Value.ref b] s = true → ∃ (cA : ClassId), ArrOfT s cA (.object C) ∧ va_RA s cA (.object C) := by
    intro C h
    obtain ⟨comp, c, k, h1, h2, h3, h4, h5⟩ := Cond.arrayOver_spec h
    exact ⟨c, fun N z => ⟨(fun k h => by cases h), k, h3, comp, h4⟩, k, comp, h3, h4, h1, h5⟩
  intro kd
  match kd with
  | 0 => exact prim .int (hts _ (am_ws_in _ am_g3))
  | 1 => exact prim .boolean (hts _ (am_ws_in _ am_g2))
  | 2 => exact prim .long (hts _ (am_ws_in _ am_g4))
  | 3 => exact obj RX0 (hts _ (by decide +kernel))
  | 4 => exact obj RX3 (hts _ (by decide +kernel))
  | 5 => exact obj RX7 (hts _ (by decide +kernel))
  | n + 6 =>
    obtain ⟨comp, c, k, h1, h2, h3⟩ := am_ao s (hts (.arrayOver (.array .long)) (by decide +kernel))
    exact ⟨c, fun N z => ⟨(fun k h => by cases h), k, h1, comp, h2⟩, h3⟩
set_option maxRecDepth 100000 in
theorem am_inst0 : ∀ k, k < 10 → Cond.instantiable (am_Cn k).1 (am_Cn k).2.2 ∈ lw_tbl := by decide +kernel
set_option maxRecDepth 100000 in
theorem am_nest0 : ∀ q ∈ am_nestL, Cond.methodLinkNest q.1 q.2.1 q.2.2.1 q.2.2.2 ∈ lw_tbl := by decide +kernel
theorem am_law_ini {p : Program} {l : Launch} {e : Env} {s : State} {m : MethodId} {below : List Frame} {meth : Method} {c : Code} {b L : Nat} {xs : Nat → Int32} {γ : am_G} (hx : p.tables.exec = Jvm.exec) (hb : c.code = code) (hr : meth.sig.returnType = ret) (hlocks : meth.locks = false) (hbs : γ.2.2.1 = s.heap.size) (k : am_F) (ps : List Prop) (v : Option Value) (h : am_ret tL_law k = some (ps, v)) (hp : ∀ q ∈ ps, q) (hv : v = some (.int 1)) : am_Wc γ tL_law p l e room_1 s m #[Value.ref b] below meth c (lw_Z below #[Value.ref b] s) k := by
  intro H locs cells slots ls hH hS hL hc hs
  obtain ⟨pc, Ll, st, M, bc, bs⟩ := k
  dsimp only at hH hL hc hs ⊢
  have hd : am_at tL_law pc = some (.ireturn, 1) ∧ st = [.int 1] := by
    unfold am_ret at h
    dsimp only at h
    subst hv
    split at h
    · cases h
    · rename_i hret; cases hret
    · rename_i v ha hret
      cases h
      exact ⟨ha, rfl⟩
    · cases h
    · cases h
    · cases h
    · cases h
  obtain ⟨ha, rfl⟩ := hd
  have hdg : decode code pc = .ok (.ireturn, 1) := am_at_dec tL_law_d ha
  refine va_forget (fun q hq => by have := hS.2.2 q hq; rw [hbs] at this; exact this) ?_
  refine W.widen (k := 600000) (n := 7302250) (by have : cells + bc ≤ 600000 := hc; omega) (by have : slots + bs ≤ 7302250 := hs; omega) ?_
  exact lw_ret hx hb hr hlocks hdg
/-- what is left of the claim: the law's run on the abstract machine -/
def am_Claim : Prop := ∀ (L : Nat) (xs : Nat → Int32), L ≤ 3072 → ∃ d n : Nat, d ≤ 1000 ∧ am_Ev (am_E0 L xs) (am_D (am_E0 L xs) d) tL_law n (0, am_in [.ref am_X] 4, [], am_M0, 600000, 7302250) (fun v _ => v = some (.int 1))
set_option maxHeartbeats 4000000 in
/-- THE LAW, from its entry -/
theorem am_start (hcl : am_Claim) {p : Program} {e : Env} {s : State} {m : MethodId} {below : List Frame} {meth : Method} {c : Code} (l : Launch) {b L : Nat} {xs : Nat → Int32} (hL : L ≤ 3072) (C0 : lw_At p s m meth c b L xs) : W p l e room_1 s m #[Value.ref b] below meth c s.heap [] 0 0 (lw_Z below #[Value.ref b] s) (entryFrame m ([Value.ref b] : List Value).toArray 4) := by
  obtain ⟨hx, hb, hr, hml, hown, hts, hX, hbl, hlocks, hgv⟩ := C0
  obtain ⟨d, n, hd, hEv⟩ := hcl L xs hL
  have hts2 : ∀ w ∈ am_ws, w.before #[Value.ref b] s = true := fun w hw => hts w (am_ws_in w hw)
  have hcls : ∀ k : Nat, ∃ x : ClassId × (Nat → Nat), k < 10 → u_Kn s (am_Cn k).1 (am_Cn k).2.1 (am_Cn k).2.2 x.1 x.2 := by
    intro k
    by_cases hk : k < 10
    · have hins : (Cond.instantiable (am_Cn k).1 (am_Cn k).2.2).before #[Value.ref b] s = true := hts _ (am_inst0 k hk)
      obtain ⟨cC, iS, h⟩ := u_known hts2 (am_layA hk) hins
      exact ⟨(cC, iS), fun _ => h⟩
    · exact ⟨(0, fun _ => 0), fun z => absurd z hk⟩
  obtain ⟨fC, hfC⟩ := Classical.axiomOfChoice hcls
  obtain ⟨dA, hdA⟩ := Classical.axiomOfChoice (am_arr0 hts)
  obtain ⟨t1, T1, Z1⟩ := am_stat1 hts hgv
  obtain ⟨t2, T2, Z2⟩ := am_stat2 hts hgv
  obtain ⟨t3, T3, Z3⟩ := am_stat3 hts hgv
  obtain ⟨γ, hγ⟩ : ∃ γ : am_G, γ = ((fun k => (fC k).1, fun k => (fC k).2), dA, s.heap.size, fun e => match e with | 0 => b | 1 => t1 | 2 => t2 | _ => t3) := ⟨_, rfl⟩
  have hbs : γ.2.2.1 = s.heap.size := by rw [hγ]
  have hKw : am_Kw γ s := by
    rw [hγ]
    refine ⟨⟨fun k q hq => ?_, fun k q hq => ?_⟩, fun q hq => va_Nw.of rfl (hts _ (am_nest0 q hq)), va_AO.of (hts _ (by decide +kernel)), va_AO.of (hts _ (by decide +kernel)), va_AO.of (hts _ (by decide +kernel)), am_AOA.of (hts (.arrayOver (.array .long)) (by decide +kernel))⟩
    · have hk : k < 10 := (List.getElem?_eq_some_iff.mp hq).1
      have e1 := am_vwCl hk
      have e2 : q = am_Cn k := Option.some.inj (hq.symm.trans e1)
      subst e2
      exact hfC k hk
    · have hk : k < 7 := (List.getElem?_eq_some_iff.mp hq).1
      rcases (show k = 0 ∨ k = 1 ∨ k = 2 ∨ k = 3 ∨ k = 4 ∨ k = 5 ∨ k = 6 by omega) with rfl | rfl | rfl | rfl | rfl | rfl | rfl
      · cases hq; exact hdA 0
      · cases hq; exact hdA 1
      · cases hq; exact hdA 2
      · cases hq; exact hdA 3
      · cases hq; exact hdA 4
      · cases hq; exact hdA 5
      · cases hq; exact hdA 6
  have hKx : am_Kx γ (am_E0 L xs) s s.heap := by
    rw [hγ]
    refine ⟨fun e he => ?_, fun e h1 h2 => ?_⟩
    · rcases (show e = 0 ∨ e = 1 ∨ e = 2 ∨ e = 3 by omega) with rfl | rfl | rfl | rfl
      · obtain ⟨scr, g1, g2, g3, g4, g5⟩ := hX
        exact ⟨scr, g1, g2, g3, by rw [g4]; exact Nat.le_refl _, by rw [g4]; rfl, g5, fun z => absurd hbl (Nat.not_lt.mpr z)⟩
      · exact T1
      · exact T2
      · exact T3
    · rcases (show e = 1 ∨ e = 2 ∨ e = 3 by omega) with rfl | rfl | rfl
      · exact Z1
      · exact Z2
      · exact Z3
  have hH : am_Hp γ am_M0 s.heap := ⟨by rw [hbs]; rfl, Nat.zero_le _, fun k c h => by cases h⟩
  have C : am_Cx γ (am_E0 L xs) tL_law p room_1 s m #[Value.ref b] meth c := ⟨hx, hb, hml, hown, hts2, (fun z => by cases z), tL_law_d, hKw, hKx, by decide, by decide, by rw [hbs]; exact Nat.le_refl _⟩
  have K := am_Ev_gen (l := l) (e := e) (below := below) (Q := lw_Z below #[Value.ref b] s) (am_sound (am_E0 L xs) d) C ⟨by show d + 1 ≤ 2048; omega, by show 64 * d + 64 ≤ 84000; omega⟩ _ (fun k ps v h1 h2 h3 => am_law_ini (L := L) (xs := xs) hx hb hr hlocks hbs k ps v h1 h2 h3) n _ hEv
  have hb2 : am_v γ (.ref am_X) = .ref b := by rw [hγ]; rfl
  have hent := am_entry (γ := γ) (as := [.ref am_X]) (n := 4) (by decide)
  rw [List.map_cons, hb2] at hent
  rw [lg_entry_eq]
  exact K s.heap [] 0 0 _ hH va_S.rf hent (by show 0 + 600000 ≤ 600000; omega) (by show 0 + 7302250 ≤ 7302250; omega)
theorem am_claim : am_Claim := fun _ _ hL => law_runs hL
theorem whole_start {p : Program} {e : Env} {s : State} {m : MethodId} {below : List Frame} {meth : Method} {c : Code} (l : Launch) {b L : Nat} {xs : Nat → Int32} (hL : L ≤ 3072) (C0 : lw_At p s m meth c b L xs) : W p l e room_1 s m #[Value.ref b] below meth c s.heap [] 0 0 (lw_Z below #[Value.ref b] s) (entryFrame m ([Value.ref b] : List Value).toArray 4) := am_start am_claim l hL C0
set_option maxHeartbeats 4000000 in
theorem lw_walk (l : Launch) (b : Addr) (xs : List Int32) : MetFree l x (headSpec (Jvm.Cond.code x code maxLocals ret :: tables_1) room_1) (lw_P b xs) (fun _ _ _ _ _ => True) lw_Q := by
  refine MetFree.of_bodyS (code := code) (maxLocals := maxLocals) (ret := ret) (by decide) ?_ ?_
  · intro args s m h hn
    obtain ⟨meth, c, h1, h2, h3, h4, h5, h6, -, -⟩ := Cond.code_spec hn (atoms_spec (ws := Jvm.Cond.code x code maxLocals ret :: tables_1) h _ List.mem_cons_self)
    exact ⟨meth, c, h1, h2, h3, h4, h5, h6⟩
  · intro p e s m args below meth c s₁ B hml0 hP _
    obtain ⟨rfl, hx, hbd, hgv⟩ := hP
    obtain ⟨scr, harrAt, hlist, hof, hsmall⟩ := hx
    obtain ⟨hcb, hkn, -, -⟩ := State.arrayAt?_spec harrAt
    have hown : s.vm.findClass R_law = some m.cls := findClass_of_methodNamed B.named
    have hts0 : ∀ c ∈ (Jvm.Cond.code x code maxLocals ret :: tables_1), c.before #[Value.ref b] s = true := atoms_spec (ws := Jvm.Cond.code x code maxLocals ret :: tables_1) B.pre
    have hts : ∀ w ∈ lw_tbl, w.before #[Value.ref b] s = true := k2_hts_sels lw_privs (fun w hw => hts0 w (List.mem_cons_of_mem _ hw)) lw_privs_ok
    have hml : c.maxLocals = 4 := B.maxLocals_eq (hts0 _ List.mem_cons_self)
    have X₀ : Stand p l e room_1 s m #[Value.ref b] below meth c s₁ [] 0 0 := Stand.of_body B
    have hh0 : s₁.heap = s.heap := by rw [B.state]; rfl
    have hsz : scr.slots.size = xs.length := by rw [← Array.length_toList, hlist, List.length_map]
    have hval : ∀ j : Nat, j < xs.length → scr.slots[j]? = some (.int (xs.getD j 0)) := fun j hj => by
      rw [← Array.getElem?_toList, hlist]
      simp [hj]
    have hbl : b < s.heap.size := (Array.getElem?_eq_some_iff.mp hcb).1
    have hX : va_X b xs.length (fun j => xs.getD j 0) s s.heap := ⟨scr, hcb, hof, hkn, hsz, hval⟩
    have K : W p l e room_1 s m #[Value.ref b] below meth c s₁.heap [] 0 0 (lw_Z below #[Value.ref b] s) (entryFrame m ([Value.ref b] : List Value).toArray 4) := by
      rw [hh0]
      exact whole_start l hbd ⟨B.exec, B.bytes, B.returns, hml, hown, hts, hX, hbl, B.notSynchronized, hgv⟩
    obtain ⟨t, a1, o, b1, b2, b3⟩ := K s₁ rfl X₀
    exact ⟨t, o, a1, b1, b2, b3⟩
theorem lw_pre_spec {args : Array Value} {s : State} (h : (Jvm.Cond.and given_1 narrow_1).before args s = true) (hr : rest_1_c.before args s = true) : ∃ (b : Addr) (xs : List Int32), lw_P b xs args s := by
  have hs := flat_of_before _ h
  have hq := flat_of_before _ hr
  have hc : (Cond.count 1).before args s = true := hs _ (by decide +kernel)
  have harr : (Cond.arrayOf (.arg 0) .int).before args s = true := hs _ (by decide +kernel)
  have hle : (Cond.le (.length (.arg 0)) (.int 3072)).before args s = true := hs _ (by decide +kernel)
  have hlen : (Cond.isInt (.length (.arg 0))).before args s = true := hq _ (by decide +kernel)
  have hall : (Cond.all (.arg 0) (.isInt (.elem (.arg 0) (.index 0)))).before args s = true := hq _ (by decide +kernel)
  obtain ⟨b, xs, hb, hx⟩ := State.ints_of_pre rfl harr hlen hall
  have hsm : xs.length < 2 ^ 31 := hx.choose_spec.2.2.2
  have hev : (Term.length (.arg 0)).eval args s none [] s = some (.int xs.length.toInt32) := hx.length_eval hb
  have hv := Cond.le_ints hev (show (Term.int 3072).eval args s none [] s = some (.int 3072) from rfl)
  have hd : xs.length.toInt32 ≤ 3072 := by
    simpa [Cond.before, Cond.holds, hv] using hle
  have hN : xs.length ≤ 3072 := (Int32.ofNat_le_ofNat hsm (by decide)).mp (show Int32.ofNat xs.length ≤ Int32.ofNat 3072 from hd)
  exact ⟨b, xs, Cond.one_arg hc (show args[0]? = some (.ref b) from hb), hx, hN, h⟩
theorem lw_comes (l : Launch) : Comes l x (Jvm.Cond.code x code maxLocals ret :: tables_1) room_1 (fun tb e args s => Calls_1 tb e args s ∧ rest_1 tb e args s ∧ Pre_1 tb e args s)
    (fun _ _ args s o t => lw_Q args s o t) := by
  intro p e ha hc hk s m args below hf hfit hheap happ hpre
  obtain ⟨b, xs, hP⟩ := lw_pre_spec hpre.2.2 hpre.2.1
  obtain ⟨k, o, h1, h2, h3, hQ⟩ := lw_walk l b xs p e ha hc hk s m args below hf ((Spec.applies_iff_loose hf).mp happ).1 hP trivial
  exact ⟨k, o, h1, h2, h3, hQ⟩
theorem lw_frame {s t : State} {o : Outcome} {args : Array Value} (h : Framed s o t [] 600000 7302250) :
    Framed s o t (fieldLocs frame_1_writes args s ++ arrayLocs frame_1_arrays args s ++ staticLocs frame_1_statics s) 600000 7302250 := h
theorem lw_limb (L : Cond) (hL : ∀ (args : Array Value) (s t : State), L.after args s (.returned (some (.int 1))) t = true) :
    ArmFor flags0 classFile x code maxLocals ret World_1 tables_1 room_1 Calls_1 rest_1 Pre_1
      (fun tb e a s o t => postC L tb e a s o t ∧ Framed s o t (fieldLocs frame_1_writes a s ++ arrayLocs frame_1_arrays a s ++ staticLocs frame_1_statics s) 600000 7302250) := by
  intro l _ _ _ p e ha hc hk s m args below hf hfit hheap happ hpre
  obtain ⟨k, o, h1, h2, h3, rfl, hF⟩ := lw_comes l p e ha hc hk s m args below hf hfit hheap happ hpre
  exact ⟨k, _, h1, h2, h3, hL args s _, lw_frame hF⟩
theorem i_vc : Claimed_1_1 ∧ Claimed_1_2 := ⟨lw_limb limb_1_1 (fun args s t => by simp [limb_1_1, Cond.after, Cond.holds, Cond.value]), lw_limb limb_1_2 (fun args s t => Cond.after_iff.mpr (by
  first | (rw [show limb_1_2 = Cond.eq .result (.int 1) from rfl, Cond.eq_ints (x := 1) (y := 1) rfl rfl]; simp; done) | (simp [limb_1_2, Cond.value, Term.eval]; done)))⟩

