/-! One step of the abstract machine is a step of the machine. -/
section AMS
variable {p : Program} {l : Launch} {e : Env} {R : Room} {s : State} {m : MethodId} {args : Array Value} {below : List Frame} {meth : Method} {c : Code} {Q : State → Prop} {γ : am_G} {E : am_E} {τ : am_T}
/-- what holds at a method's entry and stays -/
def am_Cx (γ : am_G) (E : am_E) (τ : am_T) (p : Program) (R : Room) (s : State) (m : MethodId) (args : Array Value) (meth : Method) (c : Code) : Prop :=
  p.tables.exec = Jvm.exec ∧ c.code = τ.2.2.1 ∧ c.maxLocals = τ.2.2.2.1 ∧ s.vm.findClass (am_R τ.1) = some m.cls ∧ (∀ w ∈ am_ws, w.before args s = true) ∧ (τ.2.2.2.2.2.2.1 = true → meth.name = "<init>") ∧ am_dec τ = true ∧ am_Kw γ s ∧ am_Kx γ E s s.heap ∧ 1 ≤ R.frames ∧ 64 ≤ R.locals ∧ γ.2.2.1 ≤ s.heap.size
/-- at a place of the abstract machine: the machine goes on to Q -/
def am_Wc (γ : am_G) (τ : am_T) (p : Program) (l : Launch) (e : Env) (R : Room) (s : State) (m : MethodId) (args : Array Value) (below : List Frame) (meth : Method) (c : Code) (Q : State → Prop) (k : am_F) : Prop :=
  ∀ (H : Heap) (locs : List Loc) (cells slots : Nat) (ls : Array Slot), am_Hp γ k.2.2.2.1 H → va_S (fun q => γ.2.2.1 ≤ q) s.heap H locs → am_Ls γ ls τ.2.2.2.1 k.2.1 → cells + k.2.2.2.2.1 ≤ R.cells → slots + k.2.2.2.2.2 ≤ R.slots →
    W p l e R s m args below meth c H locs cells slots Q (F0 m k.1 ls (k.2.2.1.map (am_v γ)))
theorem am_vwCl {ci : Nat} (h : ci < 10) : vwCl[ci]? = some (am_Cn ci) := by
  rcases (show ci = 0 ∨ ci = 1 ∨ ci = 2 ∨ ci = 3 ∨ ci = 4 ∨ ci = 5 ∨ ci = 6 ∨ ci = 7 ∨ ci = 8 ∨ ci = 9 by omega) with rfl | rfl | rfl | rfl | rfl | rfl | rfl | rfl | rfl | rfl <;> rfl
theorem am_vwCn {ci : Nat} (h : ci < 10) : (am_Cn ci).1 = am_R ci := by
  rcases (show ci = 0 ∨ ci = 1 ∨ ci = 2 ∨ ci = 3 ∨ ci = 4 ∨ ci = 5 ∨ ci = 6 ∨ ci = 7 ∨ ci = 8 ∨ ci = 9 by omega) with rfl | rfl | rfl | rfl | rfl | rfl | rfl | rfl | rfl | rfl <;> rfl
theorem am_layA {ci : Nat} (h : ci < 10) : ∀ w ∈ u_ws (am_Cn ci).1 (am_Cn ci).2.1 (am_Cn ci).2.2, w ∈ am_ws := by
  rcases (show ci = 0 ∨ ci = 1 ∨ ci = 2 ∨ ci = 3 ∨ ci = 4 ∨ ci = 5 ∨ ci = 6 ∨ ci = 7 ∨ ci = 8 ∨ ci = 9 by omega) with rfl | rfl | rfl | rfl | rfl | rfl | rfl | rfl | rfl | rfl
  · exact am_lay0
  · exact am_lay1
  · exact am_lay2
  · exact am_lay3
  · exact am_lay4
  · exact am_lay5
  · exact am_lay6
  · exact am_lay7
  · exact am_lay8
  · exact am_lay9
def am_tyF (ci : Nat) : Nat → FieldType := [tyX0, tyX1, tyX2, tyX3, tyX4, tyX5, tyX6, tyX7, tyX8, tyX9].getD ci tyX0
theorem am_tyA {ci : Nat} (h : ci < 10) : ∀ k, k < (am_Cn ci).2.2 → parseFieldDescriptor ((am_Cn ci).2.1 k).2.2.1 = some (am_tyF ci k) := by
  rcases (show ci = 0 ∨ ci = 1 ∨ ci = 2 ∨ ci = 3 ∨ ci = 4 ∨ ci = 5 ∨ ci = 6 ∨ ci = 7 ∨ ci = 8 ∨ ci = 9 by omega) with rfl | rfl | rfl | rfl | rfl | rfl | rfl | rfl | rfl | rfl
  · exact tyX0_ok
  · exact tyX1_ok
  · exact tyX2_ok
  · exact tyX3_ok
  · exact tyX4_ok
  · exact tyX5_ok
  · exact tyX6_ok
  · exact tyX7_ok
  · exact tyX8_ok
  · exact tyX9_ok
theorem am_nmA {ci : Nat} (h : ci < 10) : ∀ a, a < (am_Cn ci).2.2 → ∀ b, b < (am_Cn ci).2.2 → a ≠ b → ((am_Cn ci).2.1 a).2.1 ≠ ((am_Cn ci).2.1 b).2.1 := by
  rcases (show ci = 0 ∨ ci = 1 ∨ ci = 2 ∨ ci = 3 ∨ ci = 4 ∨ ci = 5 ∨ ci = 6 ∨ ci = 7 ∨ ci = 8 ∨ ci = 9 by omega) with rfl | rfl | rfl | rfl | rfl | rfl | rfl | rfl | rfl | rfl
  · exact nmX0
  · exact nmX1
  · exact nmX2
  · exact nmX3
  · exact nmX4
  · exact nmX5
  · exact nmX6
  · exact nmX7
  · exact nmX8
  · exact nmX9

set_option maxHeartbeats 4000000 in
theorem am_x_aconst_null (C : am_Cx γ E τ p R s m args meth c) {pc : Nat} {L : List (Option Value)} {st : List Value} {M : am_M} {bc bs : Nat} {ps : List Prop} {k' : am_F} (hd : decode τ.2.2.1 pc = .ok (.aconst_null, 1)) (h : am_ex E τ.1 τ.2.2.2.2.2.2.1 pc L st M bc bs (.aconst_null) = some (ps, k')) (hp : ∀ q ∈ ps, q) (kk : am_Wc γ τ p l e R s m args below meth c Q k') : am_Wc γ τ p l e R s m args below meth c Q (pc, L, st, M, bc, bs) := by
  obtain ⟨hx, hb, hml, hown, hts, hin, hdec, hKw, hKx, hfr, hlo, hbase⟩ := C
  intro H locs cells slots ls hH hS hL hc hs
  dsimp only at hH hL hc hs ⊢
  simp only [am_ex] at h
  cases h
  exact lv_null hx hb hd (kk H locs cells slots ls hH hS hL hc hs)
set_option maxHeartbeats 4000000 in
theorem am_x_iconst (C : am_Cx γ E τ p R s m args meth c) {pc : Nat} {L : List (Option Value)} {st : List Value} {M : am_M} {bc bs : Nat} {n : Int} {ps : List Prop} {k' : am_F} (hd : decode τ.2.2.1 pc = .ok (.iconst n, 1)) (h : am_ex E τ.1 τ.2.2.2.2.2.2.1 pc L st M bc bs (.iconst n) = some (ps, k')) (hp : ∀ q ∈ ps, q) (kk : am_Wc γ τ p l e R s m args below meth c Q k') : am_Wc γ τ p l e R s m args below meth c Q (pc, L, st, M, bc, bs) := by
  obtain ⟨hx, hb, hml, hown, hts, hin, hdec, hKw, hKx, hfr, hlo, hbase⟩ := C
  intro H locs cells slots ls hH hS hL hc hs
  dsimp only at hH hL hc hs ⊢
  simp only [am_ex] at h
  cases h
  exact lv_iconst hx hb hd rfl (kk H locs cells slots ls hH hS hL hc hs)
set_option maxHeartbeats 4000000 in
theorem am_x_bipush (C : am_Cx γ E τ p R s m args meth c) {pc : Nat} {L : List (Option Value)} {st : List Value} {M : am_M} {bc bs : Nat} {n : Int} {ps : List Prop} {k' : am_F} (hd : decode τ.2.2.1 pc = .ok (.bipush n, 2)) (h : am_ex E τ.1 τ.2.2.2.2.2.2.1 pc L st M bc bs (.bipush n) = some (ps, k')) (hp : ∀ q ∈ ps, q) (kk : am_Wc γ τ p l e R s m args below meth c Q k') : am_Wc γ τ p l e R s m args below meth c Q (pc, L, st, M, bc, bs) := by
  obtain ⟨hx, hb, hml, hown, hts, hin, hdec, hKw, hKx, hfr, hlo, hbase⟩ := C
  intro H locs cells slots ls hH hS hL hc hs
  dsimp only at hH hL hc hs ⊢
  simp only [am_ex] at h
  cases h
  exact lv_bipush hx hb hd rfl (kk H locs cells slots ls hH hS hL hc hs)
set_option maxHeartbeats 4000000 in
theorem am_x_sipush (C : am_Cx γ E τ p R s m args meth c) {pc : Nat} {L : List (Option Value)} {st : List Value} {M : am_M} {bc bs : Nat} {n : Int} {ps : List Prop} {k' : am_F} (hd : decode τ.2.2.1 pc = .ok (.sipush n, 3)) (h : am_ex E τ.1 τ.2.2.2.2.2.2.1 pc L st M bc bs (.sipush n) = some (ps, k')) (hp : ∀ q ∈ ps, q) (kk : am_Wc γ τ p l e R s m args below meth c Q k') : am_Wc γ τ p l e R s m args below meth c Q (pc, L, st, M, bc, bs) := by
  obtain ⟨hx, hb, hml, hown, hts, hin, hdec, hKw, hKx, hfr, hlo, hbase⟩ := C
  intro H locs cells slots ls hH hS hL hc hs
  dsimp only at hH hL hc hs ⊢
  simp only [am_ex] at h
  cases h
  exact lv_sipush hx hb hd rfl (kk H locs cells slots ls hH hS hL hc hs)
set_option maxHeartbeats 4000000 in
theorem am_x_lconst (C : am_Cx γ E τ p R s m args meth c) {pc : Nat} {L : List (Option Value)} {st : List Value} {M : am_M} {bc bs : Nat} {n : Fin 2} {ps : List Prop} {k' : am_F} (hd : decode τ.2.2.1 pc = .ok (.lconst n, 1)) (h : am_ex E τ.1 τ.2.2.2.2.2.2.1 pc L st M bc bs (.lconst n) = some (ps, k')) (hp : ∀ q ∈ ps, q) (kk : am_Wc γ τ p l e R s m args below meth c Q k') : am_Wc γ τ p l e R s m args below meth c Q (pc, L, st, M, bc, bs) := by
  obtain ⟨hx, hb, hml, hown, hts, hin, hdec, hKw, hKx, hfr, hlo, hbase⟩ := C
  intro H locs cells slots ls hH hS hL hc hs
  dsimp only at hH hL hc hs ⊢
  simp only [am_ex] at h
  cases h
  exact lv_lconst hx hb hd rfl (kk H locs cells slots ls hH hS hL hc hs)
set_option maxHeartbeats 4000000 in
theorem am_x_ldc (C : am_Cx γ E τ p R s m args meth c) {pc : Nat} {L : List (Option Value)} {st : List Value} {M : am_M} {bc bs : Nat} {i : Nat} {ps : List Prop} {k' : am_F} (hd : decode τ.2.2.1 pc = .ok (.ldc i, 2)) (h : am_ex E τ.1 τ.2.2.2.2.2.2.1 pc L st M bc bs (.ldc i) = some (ps, k')) (hp : ∀ q ∈ ps, q) (kk : am_Wc γ τ p l e R s m args below meth c Q k') : am_Wc γ τ p l e R s m args below meth c Q (pc, L, st, M, bc, bs) := by
  obtain ⟨hx, hb, hml, hown, hts, hin, hdec, hKw, hKx, hfr, hlo, hbase⟩ := C
  intro H locs cells slots ls hH hS hL hc hs
  dsimp only at hH hL hc hs ⊢
  simp only [am_ex] at h
  cases hk : am_k1 τ.1 i with
  | none => rw [hk] at h; cases h
  | some v =>
    rw [hk] at h
    cases h
    exact lv_ldc hx hb hown (hts _ (am_k1_ok hk)) hd (kk H locs cells slots ls hH hS hL hc hs)
set_option maxHeartbeats 4000000 in
theorem am_x_ldc2_w (C : am_Cx γ E τ p R s m args meth c) {pc : Nat} {L : List (Option Value)} {st : List Value} {M : am_M} {bc bs : Nat} {i : Nat} {ps : List Prop} {k' : am_F} (hd : decode τ.2.2.1 pc = .ok (.ldc2_w i, 3)) (h : am_ex E τ.1 τ.2.2.2.2.2.2.1 pc L st M bc bs (.ldc2_w i) = some (ps, k')) (hp : ∀ q ∈ ps, q) (kk : am_Wc γ τ p l e R s m args below meth c Q k') : am_Wc γ τ p l e R s m args below meth c Q (pc, L, st, M, bc, bs) := by
  obtain ⟨hx, hb, hml, hown, hts, hin, hdec, hKw, hKx, hfr, hlo, hbase⟩ := C
  intro H locs cells slots ls hH hS hL hc hs
  dsimp only at hH hL hc hs ⊢
  simp only [am_ex] at h
  cases hk : am_k2 τ.1 i with
  | none => rw [hk] at h; cases h
  | some v =>
    rw [hk] at h
    cases h
    exact lv_ldc2 hx hb hown (hts _ (am_k2_ok hk)) hd (kk H locs cells slots ls hH hS hL hc hs)
set_option maxHeartbeats 4000000 in
theorem am_x_iload (C : am_Cx γ E τ p R s m args meth c) {pc : Nat} {L : List (Option Value)} {st : List Value} {M : am_M} {bc bs : Nat} {i : Nat} {ps : List Prop} {k' : am_F} (hd : decode τ.2.2.1 pc = .ok (.iload i, 2)) (h : am_ex E τ.1 τ.2.2.2.2.2.2.1 pc L st M bc bs (.iload i) = some (ps, k')) (hp : ∀ q ∈ ps, q) (kk : am_Wc γ τ p l e R s m args below meth c Q k') : am_Wc γ τ p l e R s m args below meth c Q (pc, L, st, M, bc, bs) := by
  obtain ⟨hx, hb, hml, hown, hts, hin, hdec, hKw, hKx, hfr, hlo, hbase⟩ := C
  intro H locs cells slots ls hH hS hL hc hs
  dsimp only at hH hL hc hs ⊢
  simp only [am_ex] at h
  cases hk : L.getD i none with
  | none => rw [hk] at h; cases h
  | some v =>
    rw [hk] at h
    have hv := hL.2.2.2 _ _ hk
    cases v with
    | int x =>
      cases h
      exact lv_iload hx hb hd hv (kk H locs cells slots ls hH hS hL hc hs)
    | _ => cases h
set_option maxHeartbeats 4000000 in
theorem am_x_iload_n (C : am_Cx γ E τ p R s m args meth c) {pc : Nat} {L : List (Option Value)} {st : List Value} {M : am_M} {bc bs : Nat} {i : Fin 4} {ps : List Prop} {k' : am_F} (hd : decode τ.2.2.1 pc = .ok (.iload_n i, 1)) (h : am_ex E τ.1 τ.2.2.2.2.2.2.1 pc L st M bc bs (.iload_n i) = some (ps, k')) (hp : ∀ q ∈ ps, q) (kk : am_Wc γ τ p l e R s m args below meth c Q k') : am_Wc γ τ p l e R s m args below meth c Q (pc, L, st, M, bc, bs) := by
  obtain ⟨hx, hb, hml, hown, hts, hin, hdec, hKw, hKx, hfr, hlo, hbase⟩ := C
  intro H locs cells slots ls hH hS hL hc hs
  dsimp only at hH hL hc hs ⊢
  simp only [am_ex] at h
  cases hk : L.getD i.val none with
  | none => rw [hk] at h; cases h
  | some v =>
    rw [hk] at h
    have hv := hL.2.2.2 _ _ hk
    cases v with
    | int x =>
      cases h
      exact lv_iload_n hx hb hd rfl hv (kk H locs cells slots ls hH hS hL hc hs)
    | _ => cases h
set_option maxHeartbeats 4000000 in
theorem am_x_lload (C : am_Cx γ E τ p R s m args meth c) {pc : Nat} {L : List (Option Value)} {st : List Value} {M : am_M} {bc bs : Nat} {i : Nat} {ps : List Prop} {k' : am_F} (hd : decode τ.2.2.1 pc = .ok (.lload i, 2)) (h : am_ex E τ.1 τ.2.2.2.2.2.2.1 pc L st M bc bs (.lload i) = some (ps, k')) (hp : ∀ q ∈ ps, q) (kk : am_Wc γ τ p l e R s m args below meth c Q k') : am_Wc γ τ p l e R s m args below meth c Q (pc, L, st, M, bc, bs) := by
  obtain ⟨hx, hb, hml, hown, hts, hin, hdec, hKw, hKx, hfr, hlo, hbase⟩ := C
  intro H locs cells slots ls hH hS hL hc hs
  dsimp only at hH hL hc hs ⊢
  simp only [am_ex] at h
  cases hk : L.getD i none with
  | none => rw [hk] at h; cases h
  | some v =>
    rw [hk] at h
    have hv := hL.2.2.2 _ _ hk
    cases v with
    | long x =>
      cases h
      exact lv_lload hx hb hd hv (kk H locs cells slots ls hH hS hL hc hs)
    | _ => cases h
set_option maxHeartbeats 4000000 in
theorem am_x_lload_n (C : am_Cx γ E τ p R s m args meth c) {pc : Nat} {L : List (Option Value)} {st : List Value} {M : am_M} {bc bs : Nat} {i : Fin 4} {ps : List Prop} {k' : am_F} (hd : decode τ.2.2.1 pc = .ok (.lload_n i, 1)) (h : am_ex E τ.1 τ.2.2.2.2.2.2.1 pc L st M bc bs (.lload_n i) = some (ps, k')) (hp : ∀ q ∈ ps, q) (kk : am_Wc γ τ p l e R s m args below meth c Q k') : am_Wc γ τ p l e R s m args below meth c Q (pc, L, st, M, bc, bs) := by
  obtain ⟨hx, hb, hml, hown, hts, hin, hdec, hKw, hKx, hfr, hlo, hbase⟩ := C
  intro H locs cells slots ls hH hS hL hc hs
  dsimp only at hH hL hc hs ⊢
  simp only [am_ex] at h
  cases hk : L.getD i.val none with
  | none => rw [hk] at h; cases h
  | some v =>
    rw [hk] at h
    have hv := hL.2.2.2 _ _ hk
    cases v with
    | long x =>
      cases h
      exact lv_lload_n hx hb hd rfl hv (kk H locs cells slots ls hH hS hL hc hs)
    | _ => cases h
set_option maxHeartbeats 4000000 in
theorem am_x_aload (C : am_Cx γ E τ p R s m args meth c) {pc : Nat} {L : List (Option Value)} {st : List Value} {M : am_M} {bc bs : Nat} {i : Nat} {ps : List Prop} {k' : am_F} (hd : decode τ.2.2.1 pc = .ok (.aload i, 2)) (h : am_ex E τ.1 τ.2.2.2.2.2.2.1 pc L st M bc bs (.aload i) = some (ps, k')) (hp : ∀ q ∈ ps, q) (kk : am_Wc γ τ p l e R s m args below meth c Q k') : am_Wc γ τ p l e R s m args below meth c Q (pc, L, st, M, bc, bs) := by
  obtain ⟨hx, hb, hml, hown, hts, hin, hdec, hKw, hKx, hfr, hlo, hbase⟩ := C
  intro H locs cells slots ls hH hS hL hc hs
  dsimp only at hH hL hc hs ⊢
  simp only [am_ex] at h
  cases hk : L.getD i none with
  | none => rw [hk] at h; cases h
  | some v =>
    rw [hk] at h
    have hv := hL.2.2.2 _ _ hk
    cases v with
    | ref x =>
      cases h
      exact lv_aload hx hb hd hv (kk H locs cells slots ls hH hS hL hc hs)
    | null =>
      cases h
      exact lv_aloadN hx hb hd hv (kk H locs cells slots ls hH hS hL hc hs)
    | _ => cases h
set_option maxHeartbeats 4000000 in
theorem am_x_aload_n (C : am_Cx γ E τ p R s m args meth c) {pc : Nat} {L : List (Option Value)} {st : List Value} {M : am_M} {bc bs : Nat} {i : Fin 4} {ps : List Prop} {k' : am_F} (hd : decode τ.2.2.1 pc = .ok (.aload_n i, 1)) (h : am_ex E τ.1 τ.2.2.2.2.2.2.1 pc L st M bc bs (.aload_n i) = some (ps, k')) (hp : ∀ q ∈ ps, q) (kk : am_Wc γ τ p l e R s m args below meth c Q k') : am_Wc γ τ p l e R s m args below meth c Q (pc, L, st, M, bc, bs) := by
  obtain ⟨hx, hb, hml, hown, hts, hin, hdec, hKw, hKx, hfr, hlo, hbase⟩ := C
  intro H locs cells slots ls hH hS hL hc hs
  dsimp only at hH hL hc hs ⊢
  simp only [am_ex] at h
  cases hk : L.getD i.val none with
  | none => rw [hk] at h; cases h
  | some v =>
    rw [hk] at h
    have hv := hL.2.2.2 _ _ hk
    cases v with
    | ref x =>
      cases h
      exact lv_aload_n hx hb hd rfl hv (kk H locs cells slots ls hH hS hL hc hs)
    | null =>
      cases h
      exact lv_aload_nN hx hb hd rfl hv (kk H locs cells slots ls hH hS hL hc hs)
    | _ => cases h
set_option maxHeartbeats 4000000 in
theorem am_x_istore (C : am_Cx γ E τ p R s m args meth c) {pc : Nat} {L : List (Option Value)} {st : List Value} {M : am_M} {bc bs : Nat} {i : Nat} {ps : List Prop} {k' : am_F} (hd : decode τ.2.2.1 pc = .ok (.istore i, 2)) (h : am_ex E τ.1 τ.2.2.2.2.2.2.1 pc L st M bc bs (.istore i) = some (ps, k')) (hp : ∀ q ∈ ps, q) (kk : am_Wc γ τ p l e R s m args below meth c Q k') : am_Wc γ τ p l e R s m args below meth c Q (pc, L, st, M, bc, bs) := by
  obtain ⟨hx, hb, hml, hown, hts, hin, hdec, hKw, hKx, hfr, hlo, hbase⟩ := C
  intro H locs cells slots ls hH hS hL hc hs
  dsimp only at hH hL hc hs ⊢
  simp only [am_ex] at h
  cases st with
  | nil => cases h
  | cons v r =>
    cases v with
    | int x =>
      cases hi : Nat.blt (i) L.length with
      | false => rw [hi] at h; cases h
      | true =>
        rw [hi] at h
        cases h
        have hi2 : i < τ.2.2.2.1 := by rw [← hL.2.2.1]; exact Nat.le_of_ble_eq_true hi
        exact lv_istore hx hb hd (hL.has) hi2 rfl (fun ls' hl' => kk H locs cells slots ls' hH hS (am_Ls.st1 (v := .int x) hL.2.2.1 hi2 hl') hc hs)
    | _ => cases h
set_option maxHeartbeats 4000000 in
theorem am_x_istore_n (C : am_Cx γ E τ p R s m args meth c) {pc : Nat} {L : List (Option Value)} {st : List Value} {M : am_M} {bc bs : Nat} {i : Fin 4} {ps : List Prop} {k' : am_F} (hd : decode τ.2.2.1 pc = .ok (.istore_n i, 1)) (h : am_ex E τ.1 τ.2.2.2.2.2.2.1 pc L st M bc bs (.istore_n i) = some (ps, k')) (hp : ∀ q ∈ ps, q) (kk : am_Wc γ τ p l e R s m args below meth c Q k') : am_Wc γ τ p l e R s m args below meth c Q (pc, L, st, M, bc, bs) := by
  obtain ⟨hx, hb, hml, hown, hts, hin, hdec, hKw, hKx, hfr, hlo, hbase⟩ := C
  intro H locs cells slots ls hH hS hL hc hs
  dsimp only at hH hL hc hs ⊢
  simp only [am_ex] at h
  cases st with
  | nil => cases h
  | cons v r =>
    cases v with
    | int x =>
      cases hi : Nat.blt (i.val) L.length with
      | false => rw [hi] at h; cases h
      | true =>
        rw [hi] at h
        cases h
        have hi2 : i.val < τ.2.2.2.1 := by rw [← hL.2.2.1]; exact Nat.le_of_ble_eq_true hi
        exact lv_istore_n hx hb hd rfl (hL.has) hi2 rfl (fun ls' hl' => kk H locs cells slots ls' hH hS (am_Ls.st1 (v := .int x) hL.2.2.1 hi2 hl') hc hs)
    | _ => cases h
set_option maxHeartbeats 4000000 in
theorem am_x_lstore (C : am_Cx γ E τ p R s m args meth c) {pc : Nat} {L : List (Option Value)} {st : List Value} {M : am_M} {bc bs : Nat} {i : Nat} {ps : List Prop} {k' : am_F} (hd : decode τ.2.2.1 pc = .ok (.lstore i, 2)) (h : am_ex E τ.1 τ.2.2.2.2.2.2.1 pc L st M bc bs (.lstore i) = some (ps, k')) (hp : ∀ q ∈ ps, q) (kk : am_Wc γ τ p l e R s m args below meth c Q k') : am_Wc γ τ p l e R s m args below meth c Q (pc, L, st, M, bc, bs) := by
  obtain ⟨hx, hb, hml, hown, hts, hin, hdec, hKw, hKx, hfr, hlo, hbase⟩ := C
  intro H locs cells slots ls hH hS hL hc hs
  dsimp only at hH hL hc hs ⊢
  simp only [am_ex] at h
  cases st with
  | nil => cases h
  | cons v r =>
    cases v with
    | long x =>
      cases hi : Nat.blt (i + 1) L.length with
      | false => rw [hi] at h; cases h
      | true =>
        rw [hi] at h
        cases h
        have hi2 : i + 1 < τ.2.2.2.1 := by rw [← hL.2.2.1]; exact Nat.le_of_ble_eq_true hi
        exact lv_lstore hx hb hd (hL.has) hi2 rfl (fun ls' hl' => kk H locs cells slots ls' hH hS (am_Ls.st2 (v := .long x) hL.2.2.1 hi2 hl') hc hs)
    | _ => cases h
set_option maxHeartbeats 4000000 in
theorem am_x_lstore_n (C : am_Cx γ E τ p R s m args meth c) {pc : Nat} {L : List (Option Value)} {st : List Value} {M : am_M} {bc bs : Nat} {i : Fin 4} {ps : List Prop} {k' : am_F} (hd : decode τ.2.2.1 pc = .ok (.lstore_n i, 1)) (h : am_ex E τ.1 τ.2.2.2.2.2.2.1 pc L st M bc bs (.lstore_n i) = some (ps, k')) (hp : ∀ q ∈ ps, q) (kk : am_Wc γ τ p l e R s m args below meth c Q k') : am_Wc γ τ p l e R s m args below meth c Q (pc, L, st, M, bc, bs) := by
  obtain ⟨hx, hb, hml, hown, hts, hin, hdec, hKw, hKx, hfr, hlo, hbase⟩ := C
  intro H locs cells slots ls hH hS hL hc hs
  dsimp only at hH hL hc hs ⊢
  simp only [am_ex] at h
  cases st with
  | nil => cases h
  | cons v r =>
    cases v with
    | long x =>
      cases hi : Nat.blt (i.val + 1) L.length with
      | false => rw [hi] at h; cases h
      | true =>
        rw [hi] at h
        cases h
        have hi2 : i.val + 1 < τ.2.2.2.1 := by rw [← hL.2.2.1]; exact Nat.le_of_ble_eq_true hi
        exact lv_lstore_n hx hb hd rfl (hL.has) hi2 rfl (fun ls' hl' => kk H locs cells slots ls' hH hS (am_Ls.st2 (v := .long x) hL.2.2.1 hi2 hl') hc hs)
    | _ => cases h
set_option maxHeartbeats 4000000 in
theorem am_x_astore (C : am_Cx γ E τ p R s m args meth c) {pc : Nat} {L : List (Option Value)} {st : List Value} {M : am_M} {bc bs : Nat} {i : Nat} {ps : List Prop} {k' : am_F} (hd : decode τ.2.2.1 pc = .ok (.astore i, 2)) (h : am_ex E τ.1 τ.2.2.2.2.2.2.1 pc L st M bc bs (.astore i) = some (ps, k')) (hp : ∀ q ∈ ps, q) (kk : am_Wc γ τ p l e R s m args below meth c Q k') : am_Wc γ τ p l e R s m args below meth c Q (pc, L, st, M, bc, bs) := by
  obtain ⟨hx, hb, hml, hown, hts, hin, hdec, hKw, hKx, hfr, hlo, hbase⟩ := C
  intro H locs cells slots ls hH hS hL hc hs
  dsimp only at hH hL hc hs ⊢
  simp only [am_ex] at h
  cases st with
  | nil => cases h
  | cons v r =>
    cases v with
    | ref x =>
      cases hi : Nat.blt (i) L.length with
      | false => rw [hi] at h; cases h
      | true =>
        rw [hi] at h
        cases h
        have hi2 : i < τ.2.2.2.1 := by rw [← hL.2.2.1]; exact Nat.le_of_ble_eq_true hi
        exact lv_astore hx hb hd (hL.has) hi2 rfl (fun ls' hl' => kk H locs cells slots ls' hH hS (am_Ls.st1 (v := .ref x) hL.2.2.1 hi2 hl') hc hs)
    | null =>
      cases hi : Nat.blt (i) L.length with
      | false => rw [hi] at h; cases h
      | true =>
        rw [hi] at h
        cases h
        have hi2 : i < τ.2.2.2.1 := by rw [← hL.2.2.1]; exact Nat.le_of_ble_eq_true hi
        exact lv_astoreN hx hb hd (hL.has) hi2 rfl (fun ls' hl' => kk H locs cells slots ls' hH hS (am_Ls.st1 (v := .null) hL.2.2.1 hi2 hl') hc hs)
    | _ => cases h
set_option maxHeartbeats 4000000 in
theorem am_x_astore_n (C : am_Cx γ E τ p R s m args meth c) {pc : Nat} {L : List (Option Value)} {st : List Value} {M : am_M} {bc bs : Nat} {i : Fin 4} {ps : List Prop} {k' : am_F} (hd : decode τ.2.2.1 pc = .ok (.astore_n i, 1)) (h : am_ex E τ.1 τ.2.2.2.2.2.2.1 pc L st M bc bs (.astore_n i) = some (ps, k')) (hp : ∀ q ∈ ps, q) (kk : am_Wc γ τ p l e R s m args below meth c Q k') : am_Wc γ τ p l e R s m args below meth c Q (pc, L, st, M, bc, bs) := by
  obtain ⟨hx, hb, hml, hown, hts, hin, hdec, hKw, hKx, hfr, hlo, hbase⟩ := C
  intro H locs cells slots ls hH hS hL hc hs
  dsimp only at hH hL hc hs ⊢
  simp only [am_ex] at h
  cases st with
  | nil => cases h
  | cons v r =>
    cases v with
    | ref x =>
      cases hi : Nat.blt (i.val) L.length with
      | false => rw [hi] at h; cases h
      | true =>
        rw [hi] at h
        cases h
        have hi2 : i.val < τ.2.2.2.1 := by rw [← hL.2.2.1]; exact Nat.le_of_ble_eq_true hi
        exact lv_astore_n hx hb hd rfl (hL.has) hi2 rfl (fun ls' hl' => kk H locs cells slots ls' hH hS (am_Ls.st1 (v := .ref x) hL.2.2.1 hi2 hl') hc hs)
    | null =>
      cases hi : Nat.blt (i.val) L.length with
      | false => rw [hi] at h; cases h
      | true =>
        rw [hi] at h
        cases h
        have hi2 : i.val < τ.2.2.2.1 := by rw [← hL.2.2.1]; exact Nat.le_of_ble_eq_true hi
        exact lv_astore_nN hx hb hd rfl (hL.has) hi2 rfl (fun ls' hl' => kk H locs cells slots ls' hH hS (am_Ls.st1 (v := .null) hL.2.2.1 hi2 hl') hc hs)
    | _ => cases h
set_option maxHeartbeats 4000000 in
theorem am_x_iinc (C : am_Cx γ E τ p R s m args meth c) {pc : Nat} {L : List (Option Value)} {st : List Value} {M : am_M} {bc bs : Nat} {i : Nat} {n : Int} {ps : List Prop} {k' : am_F} (hd : decode τ.2.2.1 pc = .ok (.iinc i n, 3)) (h : am_ex E τ.1 τ.2.2.2.2.2.2.1 pc L st M bc bs (.iinc i n) = some (ps, k')) (hp : ∀ q ∈ ps, q) (kk : am_Wc γ τ p l e R s m args below meth c Q k') : am_Wc γ τ p l e R s m args below meth c Q (pc, L, st, M, bc, bs) := by
  obtain ⟨hx, hb, hml, hown, hts, hin, hdec, hKw, hKx, hfr, hlo, hbase⟩ := C
  intro H locs cells slots ls hH hS hL hc hs
  dsimp only at hH hL hc hs ⊢
  simp only [am_ex] at h
  cases hk : L.getD i none with
  | none => rw [hk] at h; cases h
  | some v =>
    rw [hk] at h
    cases v with
    | int x =>
      cases hi : Nat.blt i L.length with
      | false => rw [hi] at h; cases h
      | true =>
        rw [hi] at h
        cases h
        have hi2 : i < τ.2.2.2.1 := by rw [← hL.2.2.1]; exact Nat.le_of_ble_eq_true hi
        obtain ⟨j, hj⟩ := List.getElem?_of_mem (am_al_mem (γ := γ).mpr ⟨hi2, _, hk, rfl⟩)
        exact lv_iinc hx hb hd hL.has hj rfl hi2 rfl (fun ls' hl' => kk H locs cells slots ls' hH hS (am_Ls.st1 (v := .int (x + Int32.ofInt n)) hL.2.2.1 hi2 hl') hc hs)
    | _ => cases h
set_option maxHeartbeats 4000000 in
theorem am_x_iadd (C : am_Cx γ E τ p R s m args meth c) {pc : Nat} {L : List (Option Value)} {st : List Value} {M : am_M} {bc bs : Nat} {ps : List Prop} {k' : am_F} (hd : decode τ.2.2.1 pc = .ok (.iadd, 1)) (h : am_ex E τ.1 τ.2.2.2.2.2.2.1 pc L st M bc bs (.iadd) = some (ps, k')) (hp : ∀ q ∈ ps, q) (kk : am_Wc γ τ p l e R s m args below meth c Q k') : am_Wc γ τ p l e R s m args below meth c Q (pc, L, st, M, bc, bs) := by
  obtain ⟨hx, hb, hml, hown, hts, hin, hdec, hKw, hKx, hfr, hlo, hbase⟩ := C
  intro H locs cells slots ls hH hS hL hc hs
  dsimp only at hH hL hc hs ⊢
  simp only [am_ex] at h
  cases st with
  | nil => cases h
  | cons v0 r0 =>
    cases v0 with
    | int y =>
      cases r0 with
      | nil => cases h
      | cons v1 r1 =>
        cases v1 with
        | int x =>
          cases h
          exact lv_iadd hx hb hd (kk H locs cells slots ls hH hS hL hc hs)
        | _ => cases h
    | _ => cases h
set_option maxHeartbeats 4000000 in
theorem am_x_isub (C : am_Cx γ E τ p R s m args meth c) {pc : Nat} {L : List (Option Value)} {st : List Value} {M : am_M} {bc bs : Nat} {ps : List Prop} {k' : am_F} (hd : decode τ.2.2.1 pc = .ok (.isub, 1)) (h : am_ex E τ.1 τ.2.2.2.2.2.2.1 pc L st M bc bs (.isub) = some (ps, k')) (hp : ∀ q ∈ ps, q) (kk : am_Wc γ τ p l e R s m args below meth c Q k') : am_Wc γ τ p l e R s m args below meth c Q (pc, L, st, M, bc, bs) := by
  obtain ⟨hx, hb, hml, hown, hts, hin, hdec, hKw, hKx, hfr, hlo, hbase⟩ := C
  intro H locs cells slots ls hH hS hL hc hs
  dsimp only at hH hL hc hs ⊢
  simp only [am_ex] at h
  cases st with
  | nil => cases h
  | cons v0 r0 =>
    cases v0 with
    | int y =>
      cases r0 with
      | nil => cases h
      | cons v1 r1 =>
        cases v1 with
        | int x =>
          cases h
          exact lv_isub hx hb hd (kk H locs cells slots ls hH hS hL hc hs)
        | _ => cases h
    | _ => cases h
set_option maxHeartbeats 4000000 in
theorem am_x_imul (C : am_Cx γ E τ p R s m args meth c) {pc : Nat} {L : List (Option Value)} {st : List Value} {M : am_M} {bc bs : Nat} {ps : List Prop} {k' : am_F} (hd : decode τ.2.2.1 pc = .ok (.imul, 1)) (h : am_ex E τ.1 τ.2.2.2.2.2.2.1 pc L st M bc bs (.imul) = some (ps, k')) (hp : ∀ q ∈ ps, q) (kk : am_Wc γ τ p l e R s m args below meth c Q k') : am_Wc γ τ p l e R s m args below meth c Q (pc, L, st, M, bc, bs) := by
  obtain ⟨hx, hb, hml, hown, hts, hin, hdec, hKw, hKx, hfr, hlo, hbase⟩ := C
  intro H locs cells slots ls hH hS hL hc hs
  dsimp only at hH hL hc hs ⊢
  simp only [am_ex] at h
  cases st with
  | nil => cases h
  | cons v0 r0 =>
    cases v0 with
    | int y =>
      cases r0 with
      | nil => cases h
      | cons v1 r1 =>
        cases v1 with
        | int x =>
          cases h
          exact lv_imul hx hb hd (kk H locs cells slots ls hH hS hL hc hs)
        | _ => cases h
    | _ => cases h
set_option maxHeartbeats 4000000 in
theorem am_x_iand (C : am_Cx γ E τ p R s m args meth c) {pc : Nat} {L : List (Option Value)} {st : List Value} {M : am_M} {bc bs : Nat} {ps : List Prop} {k' : am_F} (hd : decode τ.2.2.1 pc = .ok (.iand, 1)) (h : am_ex E τ.1 τ.2.2.2.2.2.2.1 pc L st M bc bs (.iand) = some (ps, k')) (hp : ∀ q ∈ ps, q) (kk : am_Wc γ τ p l e R s m args below meth c Q k') : am_Wc γ τ p l e R s m args below meth c Q (pc, L, st, M, bc, bs) := by
  obtain ⟨hx, hb, hml, hown, hts, hin, hdec, hKw, hKx, hfr, hlo, hbase⟩ := C
  intro H locs cells slots ls hH hS hL hc hs
  dsimp only at hH hL hc hs ⊢
  simp only [am_ex] at h
  cases st with
  | nil => cases h
  | cons v0 r0 =>
    cases v0 with
    | int y =>
      cases r0 with
      | nil => cases h
      | cons v1 r1 =>
        cases v1 with
        | int x =>
          cases h
          exact lv_iand hx hb hd (kk H locs cells slots ls hH hS hL hc hs)
        | _ => cases h
    | _ => cases h
set_option maxHeartbeats 4000000 in
theorem am_x_ior (C : am_Cx γ E τ p R s m args meth c) {pc : Nat} {L : List (Option Value)} {st : List Value} {M : am_M} {bc bs : Nat} {ps : List Prop} {k' : am_F} (hd : decode τ.2.2.1 pc = .ok (.ior, 1)) (h : am_ex E τ.1 τ.2.2.2.2.2.2.1 pc L st M bc bs (.ior) = some (ps, k')) (hp : ∀ q ∈ ps, q) (kk : am_Wc γ τ p l e R s m args below meth c Q k') : am_Wc γ τ p l e R s m args below meth c Q (pc, L, st, M, bc, bs) := by
  obtain ⟨hx, hb, hml, hown, hts, hin, hdec, hKw, hKx, hfr, hlo, hbase⟩ := C
  intro H locs cells slots ls hH hS hL hc hs
  dsimp only at hH hL hc hs ⊢
  simp only [am_ex] at h
  cases st with
  | nil => cases h
  | cons v0 r0 =>
    cases v0 with
    | int y =>
      cases r0 with
      | nil => cases h
      | cons v1 r1 =>
        cases v1 with
        | int x =>
          cases h
          exact lv_ior hx hb hd (kk H locs cells slots ls hH hS hL hc hs)
        | _ => cases h
    | _ => cases h
set_option maxHeartbeats 4000000 in
theorem am_x_ishl (C : am_Cx γ E τ p R s m args meth c) {pc : Nat} {L : List (Option Value)} {st : List Value} {M : am_M} {bc bs : Nat} {ps : List Prop} {k' : am_F} (hd : decode τ.2.2.1 pc = .ok (.ishl, 1)) (h : am_ex E τ.1 τ.2.2.2.2.2.2.1 pc L st M bc bs (.ishl) = some (ps, k')) (hp : ∀ q ∈ ps, q) (kk : am_Wc γ τ p l e R s m args below meth c Q k') : am_Wc γ τ p l e R s m args below meth c Q (pc, L, st, M, bc, bs) := by
  obtain ⟨hx, hb, hml, hown, hts, hin, hdec, hKw, hKx, hfr, hlo, hbase⟩ := C
  intro H locs cells slots ls hH hS hL hc hs
  dsimp only at hH hL hc hs ⊢
  simp only [am_ex] at h
  cases st with
  | nil => cases h
  | cons v0 r0 =>
    cases v0 with
    | int y =>
      cases r0 with
      | nil => cases h
      | cons v1 r1 =>
        cases v1 with
        | int x =>
          cases h
          exact lv_ishl hx hb hd (kk H locs cells slots ls hH hS hL hc hs)
        | _ => cases h
    | _ => cases h
set_option maxHeartbeats 4000000 in
theorem am_x_ishr (C : am_Cx γ E τ p R s m args meth c) {pc : Nat} {L : List (Option Value)} {st : List Value} {M : am_M} {bc bs : Nat} {ps : List Prop} {k' : am_F} (hd : decode τ.2.2.1 pc = .ok (.ishr, 1)) (h : am_ex E τ.1 τ.2.2.2.2.2.2.1 pc L st M bc bs (.ishr) = some (ps, k')) (hp : ∀ q ∈ ps, q) (kk : am_Wc γ τ p l e R s m args below meth c Q k') : am_Wc γ τ p l e R s m args below meth c Q (pc, L, st, M, bc, bs) := by
  obtain ⟨hx, hb, hml, hown, hts, hin, hdec, hKw, hKx, hfr, hlo, hbase⟩ := C
  intro H locs cells slots ls hH hS hL hc hs
  dsimp only at hH hL hc hs ⊢
  simp only [am_ex] at h
  cases st with
  | nil => cases h
  | cons v0 r0 =>
    cases v0 with
    | int y =>
      cases r0 with
      | nil => cases h
      | cons v1 r1 =>
        cases v1 with
        | int x =>
          cases h
          exact lv_ishr hx hb hd (kk H locs cells slots ls hH hS hL hc hs)
        | _ => cases h
    | _ => cases h
set_option maxHeartbeats 4000000 in
theorem am_x_idiv (C : am_Cx γ E τ p R s m args meth c) {pc : Nat} {L : List (Option Value)} {st : List Value} {M : am_M} {bc bs : Nat} {ps : List Prop} {k' : am_F} (hd : decode τ.2.2.1 pc = .ok (.idiv, 1)) (h : am_ex E τ.1 τ.2.2.2.2.2.2.1 pc L st M bc bs (.idiv) = some (ps, k')) (hp : ∀ q ∈ ps, q) (kk : am_Wc γ τ p l e R s m args below meth c Q k') : am_Wc γ τ p l e R s m args below meth c Q (pc, L, st, M, bc, bs) := by
  obtain ⟨hx, hb, hml, hown, hts, hin, hdec, hKw, hKx, hfr, hlo, hbase⟩ := C
  intro H locs cells slots ls hH hS hL hc hs
  dsimp only at hH hL hc hs ⊢
  simp only [am_ex] at h
  cases st with
  | nil => cases h
  | cons v0 r0 =>
    cases v0 with
    | int y =>
      cases r0 with
      | nil => cases h
      | cons v1 r1 =>
        cases v1 with
        | int x =>
          cases h
          exact lv_idiv hx hb hd (hp _ List.mem_cons_self) (kk H locs cells slots ls hH hS hL hc hs)
        | _ => cases h
    | _ => cases h
set_option maxHeartbeats 4000000 in
theorem am_x_irem (C : am_Cx γ E τ p R s m args meth c) {pc : Nat} {L : List (Option Value)} {st : List Value} {M : am_M} {bc bs : Nat} {ps : List Prop} {k' : am_F} (hd : decode τ.2.2.1 pc = .ok (.irem, 1)) (h : am_ex E τ.1 τ.2.2.2.2.2.2.1 pc L st M bc bs (.irem) = some (ps, k')) (hp : ∀ q ∈ ps, q) (kk : am_Wc γ τ p l e R s m args below meth c Q k') : am_Wc γ τ p l e R s m args below meth c Q (pc, L, st, M, bc, bs) := by
  obtain ⟨hx, hb, hml, hown, hts, hin, hdec, hKw, hKx, hfr, hlo, hbase⟩ := C
  intro H locs cells slots ls hH hS hL hc hs
  dsimp only at hH hL hc hs ⊢
  simp only [am_ex] at h
  cases st with
  | nil => cases h
  | cons v0 r0 =>
    cases v0 with
    | int y =>
      cases r0 with
      | nil => cases h
      | cons v1 r1 =>
        cases v1 with
        | int x =>
          cases h
          exact lv_irem hx hb hd (hp _ List.mem_cons_self) (kk H locs cells slots ls hH hS hL hc hs)
        | _ => cases h
    | _ => cases h
set_option maxHeartbeats 4000000 in
theorem am_x_ladd (C : am_Cx γ E τ p R s m args meth c) {pc : Nat} {L : List (Option Value)} {st : List Value} {M : am_M} {bc bs : Nat} {ps : List Prop} {k' : am_F} (hd : decode τ.2.2.1 pc = .ok (.ladd, 1)) (h : am_ex E τ.1 τ.2.2.2.2.2.2.1 pc L st M bc bs (.ladd) = some (ps, k')) (hp : ∀ q ∈ ps, q) (kk : am_Wc γ τ p l e R s m args below meth c Q k') : am_Wc γ τ p l e R s m args below meth c Q (pc, L, st, M, bc, bs) := by
  obtain ⟨hx, hb, hml, hown, hts, hin, hdec, hKw, hKx, hfr, hlo, hbase⟩ := C
  intro H locs cells slots ls hH hS hL hc hs
  dsimp only at hH hL hc hs ⊢
  simp only [am_ex] at h
  cases st with
  | nil => cases h
  | cons v0 r0 =>
    cases v0 with
    | long y =>
      cases r0 with
      | nil => cases h
      | cons v1 r1 =>
        cases v1 with
        | long x =>
          cases h
          exact lv_ladd hx hb hd (kk H locs cells slots ls hH hS hL hc hs)
        | _ => cases h
    | _ => cases h
set_option maxHeartbeats 4000000 in
theorem am_x_lsub (C : am_Cx γ E τ p R s m args meth c) {pc : Nat} {L : List (Option Value)} {st : List Value} {M : am_M} {bc bs : Nat} {ps : List Prop} {k' : am_F} (hd : decode τ.2.2.1 pc = .ok (.lsub, 1)) (h : am_ex E τ.1 τ.2.2.2.2.2.2.1 pc L st M bc bs (.lsub) = some (ps, k')) (hp : ∀ q ∈ ps, q) (kk : am_Wc γ τ p l e R s m args below meth c Q k') : am_Wc γ τ p l e R s m args below meth c Q (pc, L, st, M, bc, bs) := by
  obtain ⟨hx, hb, hml, hown, hts, hin, hdec, hKw, hKx, hfr, hlo, hbase⟩ := C
  intro H locs cells slots ls hH hS hL hc hs
  dsimp only at hH hL hc hs ⊢
  simp only [am_ex] at h
  cases st with
  | nil => cases h
  | cons v0 r0 =>
    cases v0 with
    | long y =>
      cases r0 with
      | nil => cases h
      | cons v1 r1 =>
        cases v1 with
        | long x =>
          cases h
          exact lv_lsub hx hb hd (kk H locs cells slots ls hH hS hL hc hs)
        | _ => cases h
    | _ => cases h
set_option maxHeartbeats 4000000 in
theorem am_x_lmul (C : am_Cx γ E τ p R s m args meth c) {pc : Nat} {L : List (Option Value)} {st : List Value} {M : am_M} {bc bs : Nat} {ps : List Prop} {k' : am_F} (hd : decode τ.2.2.1 pc = .ok (.lmul, 1)) (h : am_ex E τ.1 τ.2.2.2.2.2.2.1 pc L st M bc bs (.lmul) = some (ps, k')) (hp : ∀ q ∈ ps, q) (kk : am_Wc γ τ p l e R s m args below meth c Q k') : am_Wc γ τ p l e R s m args below meth c Q (pc, L, st, M, bc, bs) := by
  obtain ⟨hx, hb, hml, hown, hts, hin, hdec, hKw, hKx, hfr, hlo, hbase⟩ := C
  intro H locs cells slots ls hH hS hL hc hs
  dsimp only at hH hL hc hs ⊢
  simp only [am_ex] at h
  cases st with
  | nil => cases h
  | cons v0 r0 =>
    cases v0 with
    | long y =>
      cases r0 with
      | nil => cases h
      | cons v1 r1 =>
        cases v1 with
        | long x =>
          cases h
          exact lv_lmul hx hb hd (kk H locs cells slots ls hH hS hL hc hs)
        | _ => cases h
    | _ => cases h
set_option maxHeartbeats 4000000 in
theorem am_x_ldiv (C : am_Cx γ E τ p R s m args meth c) {pc : Nat} {L : List (Option Value)} {st : List Value} {M : am_M} {bc bs : Nat} {ps : List Prop} {k' : am_F} (hd : decode τ.2.2.1 pc = .ok (.ldiv, 1)) (h : am_ex E τ.1 τ.2.2.2.2.2.2.1 pc L st M bc bs (.ldiv) = some (ps, k')) (hp : ∀ q ∈ ps, q) (kk : am_Wc γ τ p l e R s m args below meth c Q k') : am_Wc γ τ p l e R s m args below meth c Q (pc, L, st, M, bc, bs) := by
  obtain ⟨hx, hb, hml, hown, hts, hin, hdec, hKw, hKx, hfr, hlo, hbase⟩ := C
  intro H locs cells slots ls hH hS hL hc hs
  dsimp only at hH hL hc hs ⊢
  simp only [am_ex] at h
  cases st with
  | nil => cases h
  | cons v0 r0 =>
    cases v0 with
    | long y =>
      cases r0 with
      | nil => cases h
      | cons v1 r1 =>
        cases v1 with
        | long x =>
          cases h
          exact lv_ldiv hx hb hd (hp _ List.mem_cons_self) (kk H locs cells slots ls hH hS hL hc hs)
        | _ => cases h
    | _ => cases h
set_option maxHeartbeats 4000000 in
theorem am_x_lrem (C : am_Cx γ E τ p R s m args meth c) {pc : Nat} {L : List (Option Value)} {st : List Value} {M : am_M} {bc bs : Nat} {ps : List Prop} {k' : am_F} (hd : decode τ.2.2.1 pc = .ok (.lrem, 1)) (h : am_ex E τ.1 τ.2.2.2.2.2.2.1 pc L st M bc bs (.lrem) = some (ps, k')) (hp : ∀ q ∈ ps, q) (kk : am_Wc γ τ p l e R s m args below meth c Q k') : am_Wc γ τ p l e R s m args below meth c Q (pc, L, st, M, bc, bs) := by
  obtain ⟨hx, hb, hml, hown, hts, hin, hdec, hKw, hKx, hfr, hlo, hbase⟩ := C
  intro H locs cells slots ls hH hS hL hc hs
  dsimp only at hH hL hc hs ⊢
  simp only [am_ex] at h
  cases st with
  | nil => cases h
  | cons v0 r0 =>
    cases v0 with
    | long y =>
      cases r0 with
      | nil => cases h
      | cons v1 r1 =>
        cases v1 with
        | long x =>
          cases h
          exact lv_lrem hx hb hd (hp _ List.mem_cons_self) (kk H locs cells slots ls hH hS hL hc hs)
        | _ => cases h
    | _ => cases h
set_option maxHeartbeats 4000000 in
theorem am_x_i2l (C : am_Cx γ E τ p R s m args meth c) {pc : Nat} {L : List (Option Value)} {st : List Value} {M : am_M} {bc bs : Nat} {ps : List Prop} {k' : am_F} (hd : decode τ.2.2.1 pc = .ok (.i2l, 1)) (h : am_ex E τ.1 τ.2.2.2.2.2.2.1 pc L st M bc bs (.i2l) = some (ps, k')) (hp : ∀ q ∈ ps, q) (kk : am_Wc γ τ p l e R s m args below meth c Q k') : am_Wc γ τ p l e R s m args below meth c Q (pc, L, st, M, bc, bs) := by
  obtain ⟨hx, hb, hml, hown, hts, hin, hdec, hKw, hKx, hfr, hlo, hbase⟩ := C
  intro H locs cells slots ls hH hS hL hc hs
  dsimp only at hH hL hc hs ⊢
  simp only [am_ex] at h
  cases st with
  | nil => cases h
  | cons v0 r0 =>
    cases v0 with
    | int x =>
      cases h
      exact lv_i2l hx hb hd rfl (kk H locs cells slots ls hH hS hL hc hs)
    | _ => cases h
set_option maxHeartbeats 4000000 in
theorem am_x_lcmp (C : am_Cx γ E τ p R s m args meth c) {pc : Nat} {L : List (Option Value)} {st : List Value} {M : am_M} {bc bs : Nat} {ps : List Prop} {k' : am_F} (hd : decode τ.2.2.1 pc = .ok (.lcmp, 1)) (h : am_ex E τ.1 τ.2.2.2.2.2.2.1 pc L st M bc bs (.lcmp) = some (ps, k')) (hp : ∀ q ∈ ps, q) (kk : am_Wc γ τ p l e R s m args below meth c Q k') : am_Wc γ τ p l e R s m args below meth c Q (pc, L, st, M, bc, bs) := by
  obtain ⟨hx, hb, hml, hown, hts, hin, hdec, hKw, hKx, hfr, hlo, hbase⟩ := C
  intro H locs cells slots ls hH hS hL hc hs
  dsimp only at hH hL hc hs ⊢
  simp only [am_ex] at h
  cases st with
  | nil => cases h
  | cons v0 r0 =>
    cases v0 with
    | long y =>
      cases r0 with
      | nil => cases h
      | cons v1 r1 =>
        cases v1 with
        | long x =>
          cases h
          exact W.lcmp hx hb hd (kk H locs cells slots ls hH hS hL hc hs)
        | _ => cases h
    | _ => cases h
set_option maxHeartbeats 4000000 in
theorem am_x_dup (C : am_Cx γ E τ p R s m args meth c) {pc : Nat} {L : List (Option Value)} {st : List Value} {M : am_M} {bc bs : Nat} {ps : List Prop} {k' : am_F} (hd : decode τ.2.2.1 pc = .ok (.dup, 1)) (h : am_ex E τ.1 τ.2.2.2.2.2.2.1 pc L st M bc bs (.dup) = some (ps, k')) (hp : ∀ q ∈ ps, q) (kk : am_Wc γ τ p l e R s m args below meth c Q k') : am_Wc γ τ p l e R s m args below meth c Q (pc, L, st, M, bc, bs) := by
  obtain ⟨hx, hb, hml, hown, hts, hin, hdec, hKw, hKx, hfr, hlo, hbase⟩ := C
  intro H locs cells slots ls hH hS hL hc hs
  dsimp only at hH hL hc hs ⊢
  simp only [am_ex] at h
  cases st with
  | nil => cases h
  | cons v r =>
    cases v with
    | int x => cases h; exact lv_dup hx hb hd rfl (kk H locs cells slots ls hH hS hL hc hs)
    | ref x => cases h; exact lv_dup hx hb hd rfl (kk H locs cells slots ls hH hS hL hc hs)
    | _ => cases h
set_option maxHeartbeats 4000000 in
theorem am_x_dup2 (C : am_Cx γ E τ p R s m args meth c) {pc : Nat} {L : List (Option Value)} {st : List Value} {M : am_M} {bc bs : Nat} {ps : List Prop} {k' : am_F} (hd : decode τ.2.2.1 pc = .ok (.dup2, 1)) (h : am_ex E τ.1 τ.2.2.2.2.2.2.1 pc L st M bc bs (.dup2) = some (ps, k')) (hp : ∀ q ∈ ps, q) (kk : am_Wc γ τ p l e R s m args below meth c Q k') : am_Wc γ τ p l e R s m args below meth c Q (pc, L, st, M, bc, bs) := by
  obtain ⟨hx, hb, hml, hown, hts, hin, hdec, hKw, hKx, hfr, hlo, hbase⟩ := C
  intro H locs cells slots ls hH hS hL hc hs
  dsimp only at hH hL hc hs ⊢
  simp only [am_ex] at h
  cases st with
  | nil => cases h
  | cons v0 r0 =>
    cases v0 with
    | int x =>
      cases r0 with
      | nil => cases h
      | cons v1 r1 =>
        cases v1 with
        | ref y =>
          cases h
          exact lv_dup2_11 hx hb hd rfl rfl (kk H locs cells slots ls hH hS hL hc hs)
        | _ => cases h
    | _ => cases h
set_option maxHeartbeats 4000000 in
theorem am_x_goto (C : am_Cx γ E τ p R s m args meth c) {pc : Nat} {L : List (Option Value)} {st : List Value} {M : am_M} {bc bs : Nat} {off : Int} {ps : List Prop} {k' : am_F} (hd : decode τ.2.2.1 pc = .ok (.goto off, 3)) (h : am_ex E τ.1 τ.2.2.2.2.2.2.1 pc L st M bc bs (.goto off) = some (ps, k')) (hp : ∀ q ∈ ps, q) (kk : am_Wc γ τ p l e R s m args below meth c Q k') : am_Wc γ τ p l e R s m args below meth c Q (pc, L, st, M, bc, bs) := by
  obtain ⟨hx, hb, hml, hown, hts, hin, hdec, hKw, hKx, hfr, hlo, hbase⟩ := C
  intro H locs cells slots ls hH hS hL hc hs
  dsimp only at hH hL hc hs ⊢
  simp only [am_ex] at h
  cases ht : am_tg pc off with
  | none => rw [ht] at h; cases h
  | some t =>
    rw [ht] at h
    have htg := am_tg_ok ht
    cases h
    exact lv_goto hx hb hd htg (kk H locs cells slots ls hH hS hL hc hs)
theorem am_ifp {α : Type} {q : Prop} [Decidable q] {a b : α} (h : q) : (if q then a else b) = a := if_pos h
theorem am_ifn {α : Type} {q : Prop} [Decidable q] {a b : α} (h : ¬ q) : (if q then a else b) = b := if_neg h
set_option maxHeartbeats 4000000 in
theorem am_x_ifCond (C : am_Cx γ E τ p R s m args meth c) {pc : Nat} {L : List (Option Value)} {st : List Value} {M : am_M} {bc bs : Nat} {k : Jvm.ClassFile.Cond} {off : Int} {ps : List Prop} {k' : am_F} (hd : decode τ.2.2.1 pc = .ok (.ifCond k off, 3)) (h : am_ex E τ.1 τ.2.2.2.2.2.2.1 pc L st M bc bs (.ifCond k off) = some (ps, k')) (hp : ∀ q ∈ ps, q) (kk : am_Wc γ τ p l e R s m args below meth c Q k') : am_Wc γ τ p l e R s m args below meth c Q (pc, L, st, M, bc, bs) := by
  obtain ⟨hx, hb, hml, hown, hts, hin, hdec, hKw, hKx, hfr, hlo, hbase⟩ := C
  intro H locs cells slots ls hH hS hL hc hs
  dsimp only at hH hL hc hs ⊢
  simp only [am_ex] at h
  cases ht : am_tg pc off with
  | none => rw [ht] at h; cases h
  | some t =>
    rw [ht] at h
    have htg := am_tg_ok ht
    cases st with
    | nil => cases h
    | cons v r =>
      cases v with
      | int x =>
        cases k with
        | eq =>
          cases h
          refine lv_if_eq hx hb hd htg (fun hq => ?_) (fun hq => ?_)
          · rw [am_ifp hq] at kk; exact kk H locs cells slots ls hH hS hL hc hs
          · rw [am_ifn hq] at kk; exact kk H locs cells slots ls hH hS hL hc hs
        | ne =>
          cases h
          refine lv_if_ne hx hb hd htg (fun hq => ?_) (fun hq => ?_)
          · rw [am_ifp hq] at kk; exact kk H locs cells slots ls hH hS hL hc hs
          · rw [am_ifn (fun z => z hq)] at kk; exact kk H locs cells slots ls hH hS hL hc hs
        | lt =>
          cases h
          refine lv_if_lt hx hb hd htg (fun hq => ?_) (fun hq => ?_)
          · rw [am_ifp hq] at kk; exact kk H locs cells slots ls hH hS hL hc hs
          · rw [am_ifn hq] at kk; exact kk H locs cells slots ls hH hS hL hc hs
        | ge =>
          cases h
          refine lv_if_ge hx hb hd htg (fun hq => ?_) (fun hq => ?_)
          · rw [am_ifp hq] at kk; exact kk H locs cells slots ls hH hS hL hc hs
          · rw [am_ifn hq] at kk; exact kk H locs cells slots ls hH hS hL hc hs
        | gt =>
          cases h
          refine lv_if_gt hx hb hd htg (fun hq => ?_) (fun hq => ?_)
          · rw [am_ifp hq] at kk; exact kk H locs cells slots ls hH hS hL hc hs
          · rw [am_ifn hq] at kk; exact kk H locs cells slots ls hH hS hL hc hs
        | le =>
          cases h
          refine lv_if_le hx hb hd htg (fun hq => ?_) (fun hq => ?_)
          · rw [am_ifp hq] at kk; exact kk H locs cells slots ls hH hS hL hc hs
          · rw [am_ifn hq] at kk; exact kk H locs cells slots ls hH hS hL hc hs
      | _ => cases h
set_option maxHeartbeats 4000000 in
theorem am_x_if_icmp (C : am_Cx γ E τ p R s m args meth c) {pc : Nat} {L : List (Option Value)} {st : List Value} {M : am_M} {bc bs : Nat} {k : Jvm.ClassFile.Cond} {off : Int} {ps : List Prop} {k' : am_F} (hd : decode τ.2.2.1 pc = .ok (.if_icmp k off, 3)) (h : am_ex E τ.1 τ.2.2.2.2.2.2.1 pc L st M bc bs (.if_icmp k off) = some (ps, k')) (hp : ∀ q ∈ ps, q) (kk : am_Wc γ τ p l e R s m args below meth c Q k') : am_Wc γ τ p l e R s m args below meth c Q (pc, L, st, M, bc, bs) := by
  obtain ⟨hx, hb, hml, hown, hts, hin, hdec, hKw, hKx, hfr, hlo, hbase⟩ := C
  intro H locs cells slots ls hH hS hL hc hs
  dsimp only at hH hL hc hs ⊢
  simp only [am_ex] at h
  cases ht : am_tg pc off with
  | none => rw [ht] at h; cases h
  | some t =>
    rw [ht] at h
    have htg := am_tg_ok ht
    cases st with
    | nil => cases h
    | cons v r =>
      cases v with
      | int y =>
       cases r with
       | nil => cases h
       | cons v2 r =>
       cases v2 with
       | int x =>
        cases k with
        | eq =>
          cases h
          refine lv_icmp_eq hx hb hd htg (fun hq => ?_) (fun hq => ?_)
          · rw [am_ifp hq] at kk; exact kk H locs cells slots ls hH hS hL hc hs
          · rw [am_ifn hq] at kk; exact kk H locs cells slots ls hH hS hL hc hs
        | ne =>
          cases h
          refine lv_icmp_ne hx hb hd htg (fun hq => ?_) (fun hq => ?_)
          · rw [am_ifp hq] at kk; exact kk H locs cells slots ls hH hS hL hc hs
          · rw [am_ifn (fun z => z hq)] at kk; exact kk H locs cells slots ls hH hS hL hc hs
        | lt =>
          cases h
          refine lv_icmp_lt hx hb hd htg (fun hq => ?_) (fun hq => ?_)
          · rw [am_ifp hq] at kk; exact kk H locs cells slots ls hH hS hL hc hs
          · rw [am_ifn hq] at kk; exact kk H locs cells slots ls hH hS hL hc hs
        | ge =>
          cases h
          refine lv_icmp_ge hx hb hd htg (fun hq => ?_) (fun hq => ?_)
          · rw [am_ifp hq] at kk; exact kk H locs cells slots ls hH hS hL hc hs
          · rw [am_ifn hq] at kk; exact kk H locs cells slots ls hH hS hL hc hs
        | gt =>
          cases h
          refine lv_icmp_gt hx hb hd htg (fun hq => ?_) (fun hq => ?_)
          · rw [am_ifp hq] at kk; exact kk H locs cells slots ls hH hS hL hc hs
          · rw [am_ifn hq] at kk; exact kk H locs cells slots ls hH hS hL hc hs
        | le =>
          cases h
          refine lv_icmp_le hx hb hd htg (fun hq => ?_) (fun hq => ?_)
          · rw [am_ifp hq] at kk; exact kk H locs cells slots ls hH hS hL hc hs
          · rw [am_ifn hq] at kk; exact kk H locs cells slots ls hH hS hL hc hs
       | _ => cases h
      | _ => cases h
set_option maxHeartbeats 4000000 in
theorem am_x_ifnull (C : am_Cx γ E τ p R s m args meth c) {pc : Nat} {L : List (Option Value)} {st : List Value} {M : am_M} {bc bs : Nat} {off : Int} {ps : List Prop} {k' : am_F} (hd : decode τ.2.2.1 pc = .ok (.ifnull off, 3)) (h : am_ex E τ.1 τ.2.2.2.2.2.2.1 pc L st M bc bs (.ifnull off) = some (ps, k')) (hp : ∀ q ∈ ps, q) (kk : am_Wc γ τ p l e R s m args below meth c Q k') : am_Wc γ τ p l e R s m args below meth c Q (pc, L, st, M, bc, bs) := by
  obtain ⟨hx, hb, hml, hown, hts, hin, hdec, hKw, hKx, hfr, hlo, hbase⟩ := C
  intro H locs cells slots ls hH hS hL hc hs
  dsimp only at hH hL hc hs ⊢
  simp only [am_ex] at h
  cases ht : am_tg pc off with
  | none => rw [ht] at h; cases h
  | some t =>
    rw [ht] at h
    have htg := am_tg_ok ht
    cases st with
    | nil => cases h
    | cons v r =>
      cases v with
      | ref x => cases h; exact lv_ifnull hx hb hd (kk H locs cells slots ls hH hS hL hc hs)
      | null => cases h; exact lv_ifnullN hx hb hd htg (kk H locs cells slots ls hH hS hL hc hs)
      | _ => cases h
set_option maxHeartbeats 4000000 in
theorem am_x_ifnonnull (C : am_Cx γ E τ p R s m args meth c) {pc : Nat} {L : List (Option Value)} {st : List Value} {M : am_M} {bc bs : Nat} {off : Int} {ps : List Prop} {k' : am_F} (hd : decode τ.2.2.1 pc = .ok (.ifnonnull off, 3)) (h : am_ex E τ.1 τ.2.2.2.2.2.2.1 pc L st M bc bs (.ifnonnull off) = some (ps, k')) (hp : ∀ q ∈ ps, q) (kk : am_Wc γ τ p l e R s m args below meth c Q k') : am_Wc γ τ p l e R s m args below meth c Q (pc, L, st, M, bc, bs) := by
  obtain ⟨hx, hb, hml, hown, hts, hin, hdec, hKw, hKx, hfr, hlo, hbase⟩ := C
  intro H locs cells slots ls hH hS hL hc hs
  dsimp only at hH hL hc hs ⊢
  simp only [am_ex] at h
  cases ht : am_tg pc off with
  | none => rw [ht] at h; cases h
  | some t =>
    rw [ht] at h
    have htg := am_tg_ok ht
    cases st with
    | nil => cases h
    | cons v r =>
      cases v with
      | ref x => cases h; exact lv_ifnonnull hx hb hd htg (kk H locs cells slots ls hH hS hL hc hs)
      | null => cases h; exact lv_ifnonnullN hx hb hd (kk H locs cells slots ls hH hS hL hc hs)
      | _ => cases h
set_option maxHeartbeats 4000000 in
theorem am_x_if_acmp (C : am_Cx γ E τ p R s m args meth c) {pc : Nat} {L : List (Option Value)} {st : List Value} {M : am_M} {bc bs : Nat} {k : Jvm.ClassFile.ACond} {off : Int} {ps : List Prop} {k' : am_F} (hd : decode τ.2.2.1 pc = .ok (.if_acmp k off, 3)) (h : am_ex E τ.1 τ.2.2.2.2.2.2.1 pc L st M bc bs (.if_acmp k off) = some (ps, k')) (hp : ∀ q ∈ ps, q) (kk : am_Wc γ τ p l e R s m args below meth c Q k') : am_Wc γ τ p l e R s m args below meth c Q (pc, L, st, M, bc, bs) := by
  obtain ⟨hx, hb, hml, hown, hts, hin, hdec, hKw, hKx, hfr, hlo, hbase⟩ := C
  intro H locs cells slots ls hH hS hL hc hs
  dsimp only at hH hL hc hs ⊢
  simp only [am_ex] at h
  cases ht : am_tg pc off with
  | none => rw [ht] at h; cases h
  | some t =>
    rw [ht] at h
    have htg := am_tg_ok ht
    cases st with
    | nil => cases h
    | cons v r =>
     cases v with
     | ref y =>
      cases r with
      | nil => cases h
      | cons v2 r =>
      cases v2 with
      | ref x =>
       cases k with
       | eq => cases h
       | ne =>
        simp only at h
        cases hx1 : M.2 x with
        | none => simp only [hx1] at h; cases h
        | some z1 =>
        cases hy1 : M.2 y with
        | none => simp only [hx1, hy1] at h; cases h
        | some z2 =>
        simp only [hx1, hy1] at h
        cases h
        have h1 : x < am_X := Nat.lt_of_lt_of_le (hH.2.2 x z1 hx1).1 hH.2.1
        have h2 : y < am_X := Nat.lt_of_lt_of_le (hH.2.2 y z2 hy1).1 hH.2.1
        refine lv_acmp_ne (rx := some (am_ad γ x)) (ry := some (am_ad γ y)) hx hb hd htg (fun hq => ?_) (fun hq => ?_)
        · have h3 : ¬ x = y := fun z => hq (by rw [z])
          rw [am_ifp h3] at kk; exact kk H locs cells slots ls hH hS hL hc hs
        · have h3 : γ.2.2.1 + x = γ.2.2.1 + y := by rw [← am_ad_lt h1, ← am_ad_lt h2]; exact Option.some.inj hq
          have h4 : x = y := Nat.add_left_cancel h3
          rw [am_ifn (fun z => z h4)] at kk; exact kk H locs cells slots ls hH hS hL hc hs
      | _ => cases h
     | _ => cases h
set_option maxHeartbeats 4000000 in
theorem am_x_tableswitch (C : am_Cx γ E τ p R s m args meth c) {pc : Nat} {L : List (Option Value)} {st : List Value} {M : am_M} {bc bs : Nat} {d lo hi : Int} {offs : Array Int} {len : Nat} {ps : List Prop} {k' : am_F} (hd : decode τ.2.2.1 pc = .ok (.tableswitch d lo hi offs, len)) (h : am_ex E τ.1 τ.2.2.2.2.2.2.1 pc L st M bc bs (.tableswitch d lo hi offs) = some (ps, k')) (hp : ∀ q ∈ ps, q) (kk : am_Wc γ τ p l e R s m args below meth c Q k') : am_Wc γ τ p l e R s m args below meth c Q (pc, L, st, M, bc, bs) := by
  obtain ⟨hx, hb, hml, hown, hts, hin, hdec, hKw, hKx, hfr, hlo, hbase⟩ := C
  intro H locs cells slots ls hH hS hL hc hs
  dsimp only at hH hL hc hs ⊢
  simp only [am_ex] at h
  cases st with
  | nil => cases h
  | cons v r =>
    cases v with
    | int x =>
      cases ht : am_sw pc d lo hi offs x with
      | none => simp only [ht] at h; cases h
      | some t =>
        simp only [ht] at h
        cases h
        unfold am_sw at ht
        by_cases h1 : x.toInt < lo
        · rw [decide_eq_true h1] at ht
          exact lv_tableOut hx hb hd (Or.inl h1) (am_tg_ok ht) (kk H locs cells slots ls hH hS hL hc hs)
        · by_cases h2 : hi < x.toInt
          · rw [decide_eq_true h2, Bool.or_true] at ht
            exact lv_tableOut hx hb hd (Or.inr h2) (am_tg_ok ht) (kk H locs cells slots ls hH hS hL hc hs)
          · rw [decide_eq_false h1, decide_eq_false h2] at ht
            cases ho : offs[(x.toInt - lo).toNat]? with
            | none => simp only [ho] at ht; cases ht
            | some off =>
              simp only [ho] at ht
              exact lv_tableIn hx hb hd h1 h2 ho (am_tg_ok ht) (kk H locs cells slots ls hH hS hL hc hs)
    | _ => cases h
end AMS
