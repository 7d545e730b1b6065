/-! A run that makes no cell may be moved: other pointers, a larger memory; what it doesn't reach stays. -/
def am_rv (ρ : Nat → Nat) (v : Value) : Value := match v with
  | .ref a => .ref (ρ a)
  | w => w
def am_rc (ρ : Nat → Nat) (x : am_C) : am_C := match x with
  | .inl (kd, n, .inr (.inr (.inr (.inr f)))) => .inl (kd, n, .inr (.inr (.inr (.inr (fun i => (f i).map ρ)))))
  | .inl y => .inl y
  | .inr (ci, fs) => .inr (ci, fs.map (am_rv ρ))
def am_rL (ρ : Nat → Nat) (L : List (Option Value)) : List (Option Value) := L.map (Option.map (am_rv ρ))
def am_rS (ρ : Nat → Nat) (l : List Value) : List Value := l.map (am_rv ρ)
def am_rk (ρ : Nat → Nat) (G : am_M) (k : am_F) : am_F := (k.1, am_rL ρ k.2.1, am_rS ρ k.2.2.1, G, k.2.2.2.2.1, k.2.2.2.2.2)
def am_RM (ρ : Nat → Nat) (M G : am_M) : Prop := (∀ k x, M.2 k = some x → G.2 (ρ k) = some (am_rc ρ x)) ∧ (∀ i j x y, M.2 i = some x → M.2 j = some y → ρ i = ρ j → i = j) ∧ ∀ k, am_X ≤ k → k < am_X + 4 → M.2 k = none ∧ G.2 k = none ∧ ρ k = k
def am_FR (ρ : Nat → Nat) (M G G' : am_M) : Prop := G'.1 = G.1 ∧ ∀ q, (∀ k x, M.2 k = some x → q ≠ ρ k) → G'.2 q = G.2 q
def am_dm (M M' : am_M) : Prop := ∀ k, (M'.2 k).isSome = (M.2 k).isSome
theorem am_rv_cat (ρ : Nat → Nat) (v : Value) : (am_rv ρ v).category = v.category := by cases v <;> rfl
theorem am_rv_c2 (ρ : Nat → Nat) (v : Value) : am_c2 (am_rv ρ v) = am_c2 v := by unfold am_c2; rw [am_rv_cat]
theorem am_rS_cs (ρ : Nat → Nat) (l : List Value) : am_cs (am_rS ρ l) = am_cs l := by
  unfold am_cs am_rS
  rw [List.map_map]
  congr 1
  exact List.map_congr_left (fun v _ => am_rv_cat ρ v)
theorem am_rL_get (ρ : Nat → Nat) (L : List (Option Value)) (i : Nat) : (am_rL ρ L).getD i none = (L.getD i none).map (am_rv ρ) := by
  unfold am_rL
  rw [List.getD_eq_getElem?_getD, List.getD_eq_getElem?_getD, List.getElem?_map]
  cases L[i]? <;> rfl
theorem am_rL_len (ρ : Nat → Nat) (L : List (Option Value)) : (am_rL ρ L).length = L.length := List.length_map _
theorem am_rL_set (ρ : Nat → Nat) (L : List (Option Value)) (i : Nat) (v : Option Value) : am_rL ρ (L.set i v) = (am_rL ρ L).set i (v.map (am_rv ρ)) := by
  unfold am_rL
  rw [List.map_set]
theorem am_rL_cl (ρ : Nat → Nat) (L : List (Option Value)) (i : Nat) : am_rL ρ (am_cl0 L i) = am_cl0 (am_rL ρ L) i := by
  cases i with
  | zero => rfl
  | succ j =>
    show am_rL ρ (match L.getD j none with | some w => bif am_c2 w then L.set j none else L | none => L) = (match (am_rL ρ L).getD j none with | some w => bif am_c2 w then (am_rL ρ L).set j none else am_rL ρ L | none => am_rL ρ L)
    rw [am_rL_get]
    cases L.getD j none with
    | none => rfl
    | some w =>
      show am_rL ρ (bif am_c2 w then L.set j none else L) = (bif am_c2 (am_rv ρ w) then (am_rL ρ L).set j none else am_rL ρ L)
      rw [am_rv_c2]
      cases am_c2 w
      · rfl
      · exact am_rL_set ρ L j none
theorem am_rL_s1 (ρ : Nat → Nat) (L : List (Option Value)) (i : Nat) (v : Value) : am_rL ρ (am_s1 L i v) = am_s1 (am_rL ρ L) i (am_rv ρ v) := by
  unfold am_s1
  rw [am_rL_set, am_rL_cl]
  rfl
theorem am_rL_s2 (ρ : Nat → Nat) (L : List (Option Value)) (i : Nat) (v : Value) : am_rL ρ (am_s2 L i v) = am_s2 (am_rL ρ L) i (am_rv ρ v) := by
  unfold am_s2
  rw [am_rL_set, am_rL_set, am_rL_cl]
  rfl
theorem am_FR.rf {ρ : Nat → Nat} {M G : am_M} : am_FR ρ M G G := ⟨rfl, fun _ _ => rfl⟩
theorem am_dm.rf {M : am_M} : am_dm M M := fun _ => rfl
theorem am_dm.to {M M' : am_M} (h : am_dm M M') {k : Nat} {x : am_C} (hk : M.2 k = some x) : ∃ y, M'.2 k = some y := by
  have := h k
  rw [hk] at this
  cases hy : M'.2 k with
  | none => rw [hy] at this; cases this
  | some y => exact ⟨y, rfl⟩
theorem am_dm.back {M M' : am_M} (h : am_dm M M') {k : Nat} {x : am_C} (hk : M'.2 k = some x) : ∃ y, M.2 k = some y := by
  have := h k
  rw [hk] at this
  cases hy : M.2 k with
  | none => rw [hy] at this; cases this
  | some y => exact ⟨y, rfl⟩
theorem am_FR.tr {ρ : Nat → Nat} {M M1 G G1 G2 : am_M} (h1 : am_FR ρ M G G1) (hd : am_dm M M1) (h2 : am_FR ρ M1 G1 G2) : am_FR ρ M G G2 := ⟨h2.1.trans h1.1, fun q hq => (h2.2 q (fun k x hk => by
  obtain ⟨y, hy⟩ := hd.back hk
  exact hq k y hy)).trans (h1.2 q hq)⟩
theorem am_dm.tr {M M1 M2 : am_M} (h1 : am_dm M M1) (h2 : am_dm M1 M2) : am_dm M M2 := fun k => (h2 k).trans (h1 k)
theorem am_dm.w {M : am_M} {a : Nat} {x y : am_C} (h : M.2 a = some x) : am_dm M (am_w M a y) := by
  intro k
  by_cases hk : k = a
  · subst hk
    show (am_up M.2 k y k).isSome = _
    rw [am_up_same, h]
    rfl
  · show (am_up M.2 a y k).isSome = _
    rw [am_up_ne _ _ hk]
theorem am_FR.w {ρ : Nat → Nat} {M G : am_M} {a : Nat} {x : am_C} (h : M.2 a = some x) (y : am_C) : am_FR ρ M G (am_w G (ρ a) y) := ⟨rfl, fun q hq => am_up_ne _ _ (hq a x h)⟩
theorem am_RM.w {ρ : Nat → Nat} {M G : am_M} (h : am_RM ρ M G) {a : Nat} {x : am_C} (ha : M.2 a = some x) (y : am_C) : am_RM ρ (am_w M a y) (am_w G (ρ a) (am_rc ρ y)) := by
  have hX : ∀ k, am_X ≤ k → k < am_X + 4 → k ≠ a := fun k h1 h2 e => by
    rw [e] at h1 h2
    rw [(h.2.2 a h1 h2).1] at ha
    cases ha
  refine ⟨fun k z hk => ?_, fun i j z w hi hj e => ?_, fun k h1 h2 => ?_⟩
  · have hk : am_up M.2 a y k = some z := hk
    show am_up G.2 (ρ a) (am_rc ρ y) (ρ k) = _
    by_cases e : k = a
    · subst e
      rw [am_up_same] at hk
      cases hk
      exact am_up_same _ _ _
    · rw [am_up_ne _ _ e] at hk
      rw [am_up_ne _ _ (fun z => e (h.2.1 k a _ _ hk ha z))]
      exact h.1 k z hk
  · have hi : am_up M.2 a y i = some z := hi
    have hj : am_up M.2 a y j = some w := hj
    have gi : ∃ z, M.2 i = some z := by
      by_cases q : i = a
      · rw [q]; exact ⟨_, ha⟩
      · rw [am_up_ne _ _ q] at hi; exact ⟨_, hi⟩
    have gj : ∃ z, M.2 j = some z := by
      by_cases q : j = a
      · rw [q]; exact ⟨_, ha⟩
      · rw [am_up_ne _ _ q] at hj; exact ⟨_, hj⟩
    obtain ⟨z1, gi⟩ := gi
    obtain ⟨z2, gj⟩ := gj
    exact h.2.1 i j z1 z2 gi gj e
  · obtain ⟨g1, g2, g3⟩ := h.2.2 k h1 h2
    refine ⟨?_, ?_, g3⟩
    · show am_up M.2 a y k = none
      rw [am_up_ne _ _ (hX k h1 h2)]; exact g1
    · show am_up G.2 (ρ a) (am_rc ρ y) k = none
      rw [am_up_ne _ _ (fun e => ?_)]
      · exact g2
      · have := h.1 a x ha
        rw [← e, g2] at this
        cases this
section AMR
variable {E : am_E} {ρ : Nat → Nat} {o : Nat} {ini : Bool} {pc : Nat} {L : List (Option Value)} {st : List Value} {M G : am_M} {ps : List Prop} {k' : am_F}
/-- what a step becomes when it is moved -/
def am_mv (E : am_E) (ρ : Nat → Nat) (o : Nat) (ini : Bool) (pc : Nat) (L : List (Option Value)) (st : List Value) (M G : am_M) (i : Instr) (ps : List Prop) (k' : am_F) : Prop :=
  ∃ G', am_ex E o ini pc (am_rL ρ L) (am_rS ρ st) G 0 0 i = some (ps, am_rk ρ G' k') ∧ k'.2.2.2.2.1 = 0 ∧ k'.2.2.2.2.2 = 0 ∧ am_RM ρ k'.2.2.2.1 G' ∧ am_FR ρ M G G' ∧ am_dm M k'.2.2.2.1
theorem am_mv0 {i : Instr} (h : am_ex E o ini pc (am_rL ρ L) (am_rS ρ st) G 0 0 i = some (ps, am_rk ρ G k')) (hM : k'.2.2.2 = (M, 0, 0)) (hR : am_RM ρ M G) : am_mv E ρ o ini pc L st M G i ps k' := ⟨G, h, by rw [hM], by rw [hM], by rw [hM]; exact hR, am_FR.rf, by rw [hM]; exact am_dm.rf⟩
set_option maxHeartbeats 1000000 in
theorem am_r_aconst_null (hR : am_RM ρ M G) (h : am_ex E o ini pc L st M 0 0 (.aconst_null) = some (ps, k')) (hp : ∀ q ∈ ps, q) : am_mv E ρ o ini pc L st M G (.aconst_null) ps k' := by
  simp only [am_ex] at h
  cases h
  exact am_mv0 rfl rfl hR
set_option maxHeartbeats 1000000 in
theorem am_r_iconst (hR : am_RM ρ M G) {n : Int} (h : am_ex E o ini pc L st M 0 0 (.iconst n) = some (ps, k')) (hp : ∀ q ∈ ps, q) : am_mv E ρ o ini pc L st M G (.iconst n) ps k' := by
  simp only [am_ex] at h
  cases h
  exact am_mv0 rfl rfl hR
set_option maxHeartbeats 1000000 in
theorem am_r_bipush (hR : am_RM ρ M G) {n : Int} (h : am_ex E o ini pc L st M 0 0 (.bipush n) = some (ps, k')) (hp : ∀ q ∈ ps, q) : am_mv E ρ o ini pc L st M G (.bipush n) ps k' := by
  simp only [am_ex] at h
  cases h
  exact am_mv0 rfl rfl hR
set_option maxHeartbeats 1000000 in
theorem am_r_sipush (hR : am_RM ρ M G) {n : Int} (h : am_ex E o ini pc L st M 0 0 (.sipush n) = some (ps, k')) (hp : ∀ q ∈ ps, q) : am_mv E ρ o ini pc L st M G (.sipush n) ps k' := by
  simp only [am_ex] at h
  cases h
  exact am_mv0 rfl rfl hR
set_option maxHeartbeats 1000000 in
theorem am_r_lconst (hR : am_RM ρ M G) {n : Fin 2} (h : am_ex E o ini pc L st M 0 0 (.lconst n) = some (ps, k')) (hp : ∀ q ∈ ps, q) : am_mv E ρ o ini pc L st M G (.lconst n) ps k' := by
  simp only [am_ex] at h
  cases h
  exact am_mv0 rfl rfl hR
set_option maxHeartbeats 1000000 in
theorem am_r_ldc (hR : am_RM ρ M G) {i : Nat} (h : am_ex E o ini pc L st M 0 0 (.ldc i) = some (ps, k')) (hp : ∀ q ∈ ps, q) : am_mv E ρ o ini pc L st M G (.ldc i) ps k' := by
  simp only [am_ex] at h
  cases hk : am_k1 o i with
  | none => rw [hk] at h; cases h
  | some v =>
    rw [hk] at h
    cases h
    refine am_mv0 ?_ rfl hR
    simp only [am_ex, hk]
    rfl
set_option maxHeartbeats 1000000 in
theorem am_r_ldc2_w (hR : am_RM ρ M G) {i : Nat} (h : am_ex E o ini pc L st M 0 0 (.ldc2_w i) = some (ps, k')) (hp : ∀ q ∈ ps, q) : am_mv E ρ o ini pc L st M G (.ldc2_w i) ps k' := by
  simp only [am_ex] at h
  cases hk : am_k2 o i with
  | none => rw [hk] at h; cases h
  | some v =>
    rw [hk] at h
    cases h
    refine am_mv0 ?_ rfl hR
    simp only [am_ex, hk]
    rfl
set_option maxHeartbeats 1000000 in
theorem am_r_iload (hR : am_RM ρ M G) {i : Nat} (h : am_ex E o ini pc L st M 0 0 (.iload i) = some (ps, k')) (hp : ∀ q ∈ ps, q) : am_mv E ρ o ini pc L st M G (.iload i) ps k' := by
  simp only [am_ex] at h
  cases hk : L.getD i none with
  | none => rw [hk] at h; cases h
  | some v =>
    rw [hk] at h
    have hv := am_rL_get ρ L i
    rw [hk] at hv
    cases v with
    | int x =>
      cases h
      refine am_mv0 ?_ rfl hR
      have hv : (am_rL ρ L).getD i none = some (.int x) := hv
      simp only [am_ex, hv]
      rfl
    | _ => cases h
set_option maxHeartbeats 1000000 in
theorem am_r_iload_n (hR : am_RM ρ M G) {i : Fin 4} (h : am_ex E o ini pc L st M 0 0 (.iload_n i) = some (ps, k')) (hp : ∀ q ∈ ps, q) : am_mv E ρ o ini pc L st M G (.iload_n i) ps k' := by
  simp only [am_ex] at h
  cases hk : L.getD i.val none with
  | none => rw [hk] at h; cases h
  | some v =>
    rw [hk] at h
    have hv := am_rL_get ρ L i.val
    rw [hk] at hv
    cases v with
    | int x =>
      cases h
      refine am_mv0 ?_ rfl hR
      have hv : (am_rL ρ L).getD i.val none = some (.int x) := hv
      simp only [am_ex, hv]
      rfl
    | _ => cases h
set_option maxHeartbeats 1000000 in
theorem am_r_lload (hR : am_RM ρ M G) {i : Nat} (h : am_ex E o ini pc L st M 0 0 (.lload i) = some (ps, k')) (hp : ∀ q ∈ ps, q) : am_mv E ρ o ini pc L st M G (.lload i) ps k' := by
  simp only [am_ex] at h
  cases hk : L.getD i none with
  | none => rw [hk] at h; cases h
  | some v =>
    rw [hk] at h
    have hv := am_rL_get ρ L i
    rw [hk] at hv
    cases v with
    | long x =>
      cases h
      refine am_mv0 ?_ rfl hR
      have hv : (am_rL ρ L).getD i none = some (.long x) := hv
      simp only [am_ex, hv]
      rfl
    | _ => cases h
set_option maxHeartbeats 1000000 in
theorem am_r_lload_n (hR : am_RM ρ M G) {i : Fin 4} (h : am_ex E o ini pc L st M 0 0 (.lload_n i) = some (ps, k')) (hp : ∀ q ∈ ps, q) : am_mv E ρ o ini pc L st M G (.lload_n i) ps k' := by
  simp only [am_ex] at h
  cases hk : L.getD i.val none with
  | none => rw [hk] at h; cases h
  | some v =>
    rw [hk] at h
    have hv := am_rL_get ρ L i.val
    rw [hk] at hv
    cases v with
    | long x =>
      cases h
      refine am_mv0 ?_ rfl hR
      have hv : (am_rL ρ L).getD i.val none = some (.long x) := hv
      simp only [am_ex, hv]
      rfl
    | _ => cases h
set_option maxHeartbeats 1000000 in
theorem am_r_aload (hR : am_RM ρ M G) {i : Nat} (h : am_ex E o ini pc L st M 0 0 (.aload i) = some (ps, k')) (hp : ∀ q ∈ ps, q) : am_mv E ρ o ini pc L st M G (.aload i) ps k' := by
  simp only [am_ex] at h
  cases hk : L.getD i none with
  | none => rw [hk] at h; cases h
  | some v =>
    rw [hk] at h
    have hv := am_rL_get ρ L i
    rw [hk] at hv
    cases v with
    | ref x =>
      cases h
      refine am_mv0 ?_ rfl hR
      have hv : (am_rL ρ L).getD i none = some (.ref (ρ x)) := hv
      simp only [am_ex, hv]
      rfl
    | null =>
      cases h
      refine am_mv0 ?_ rfl hR
      have hv : (am_rL ρ L).getD i none = some (.null) := hv
      simp only [am_ex, hv]
      rfl
    | _ => cases h
set_option maxHeartbeats 1000000 in
theorem am_r_aload_n (hR : am_RM ρ M G) {i : Fin 4} (h : am_ex E o ini pc L st M 0 0 (.aload_n i) = some (ps, k')) (hp : ∀ q ∈ ps, q) : am_mv E ρ o ini pc L st M G (.aload_n i) ps k' := by
  simp only [am_ex] at h
  cases hk : L.getD i.val none with
  | none => rw [hk] at h; cases h
  | some v =>
    rw [hk] at h
    have hv := am_rL_get ρ L i.val
    rw [hk] at hv
    cases v with
    | ref x =>
      cases h
      refine am_mv0 ?_ rfl hR
      have hv : (am_rL ρ L).getD i.val none = some (.ref (ρ x)) := hv
      simp only [am_ex, hv]
      rfl
    | null =>
      cases h
      refine am_mv0 ?_ rfl hR
      have hv : (am_rL ρ L).getD i.val none = some (.null) := hv
      simp only [am_ex, hv]
      rfl
    | _ => cases h
set_option maxHeartbeats 1000000 in
theorem am_r_istore (hR : am_RM ρ M G) {i : Nat} (h : am_ex E o ini pc L st M 0 0 (.istore i) = some (ps, k')) (hp : ∀ q ∈ ps, q) : am_mv E ρ o ini pc L st M G (.istore i) ps k' := by
  simp only [am_ex] at h
  cases st with
  | nil => cases h
  | cons v r =>
    cases v with
    | int x =>
      cases hi : Nat.blt (i) L.length with
      | false => rw [hi] at h; cases h
      | true =>
        rw [hi] at h
        cases h
        refine am_mv0 ?_ rfl hR
        show (bif Nat.blt (i) (am_rL ρ L).length then _ else _) = _
        rw [am_rL_len, hi]
        unfold am_rk
        dsimp only [cond]
        rw [am_rL_s1]
        rfl
    | _ => cases h
set_option maxHeartbeats 1000000 in
theorem am_r_istore_n (hR : am_RM ρ M G) {i : Fin 4} (h : am_ex E o ini pc L st M 0 0 (.istore_n i) = some (ps, k')) (hp : ∀ q ∈ ps, q) : am_mv E ρ o ini pc L st M G (.istore_n i) ps k' := by
  simp only [am_ex] at h
  cases st with
  | nil => cases h
  | cons v r =>
    cases v with
    | int x =>
      cases hi : Nat.blt (i.val) L.length with
      | false => rw [hi] at h; cases h
      | true =>
        rw [hi] at h
        cases h
        refine am_mv0 ?_ rfl hR
        show (bif Nat.blt (i.val) (am_rL ρ L).length then _ else _) = _
        rw [am_rL_len, hi]
        unfold am_rk
        dsimp only [cond]
        rw [am_rL_s1]
        rfl
    | _ => cases h
set_option maxHeartbeats 1000000 in
theorem am_r_lstore (hR : am_RM ρ M G) {i : Nat} (h : am_ex E o ini pc L st M 0 0 (.lstore i) = some (ps, k')) (hp : ∀ q ∈ ps, q) : am_mv E ρ o ini pc L st M G (.lstore i) ps k' := by
  simp only [am_ex] at h
  cases st with
  | nil => cases h
  | cons v r =>
    cases v with
    | long x =>
      cases hi : Nat.blt (i + 1) L.length with
      | false => rw [hi] at h; cases h
      | true =>
        rw [hi] at h
        cases h
        refine am_mv0 ?_ rfl hR
        show (bif Nat.blt (i + 1) (am_rL ρ L).length then _ else _) = _
        rw [am_rL_len, hi]
        unfold am_rk
        dsimp only [cond]
        rw [am_rL_s2]
        rfl
    | _ => cases h
set_option maxHeartbeats 1000000 in
theorem am_r_lstore_n (hR : am_RM ρ M G) {i : Fin 4} (h : am_ex E o ini pc L st M 0 0 (.lstore_n i) = some (ps, k')) (hp : ∀ q ∈ ps, q) : am_mv E ρ o ini pc L st M G (.lstore_n i) ps k' := by
  simp only [am_ex] at h
  cases st with
  | nil => cases h
  | cons v r =>
    cases v with
    | long x =>
      cases hi : Nat.blt (i.val + 1) L.length with
      | false => rw [hi] at h; cases h
      | true =>
        rw [hi] at h
        cases h
        refine am_mv0 ?_ rfl hR
        show (bif Nat.blt (i.val + 1) (am_rL ρ L).length then _ else _) = _
        rw [am_rL_len, hi]
        unfold am_rk
        dsimp only [cond]
        rw [am_rL_s2]
        rfl
    | _ => cases h
set_option maxHeartbeats 1000000 in
theorem am_r_astore (hR : am_RM ρ M G) {i : Nat} (h : am_ex E o ini pc L st M 0 0 (.astore i) = some (ps, k')) (hp : ∀ q ∈ ps, q) : am_mv E ρ o ini pc L st M G (.astore i) ps k' := by
  simp only [am_ex] at h
  cases st with
  | nil => cases h
  | cons v r =>
    cases v with
    | ref x =>
      cases hi : Nat.blt (i) L.length with
      | false => rw [hi] at h; cases h
      | true =>
        rw [hi] at h
        cases h
        refine am_mv0 ?_ rfl hR
        show (bif Nat.blt (i) (am_rL ρ L).length then _ else _) = _
        rw [am_rL_len, hi]
        unfold am_rk
        dsimp only [cond]
        rw [am_rL_s1]
        rfl
    | null =>
      cases hi : Nat.blt (i) L.length with
      | false => rw [hi] at h; cases h
      | true =>
        rw [hi] at h
        cases h
        refine am_mv0 ?_ rfl hR
        show (bif Nat.blt (i) (am_rL ρ L).length then _ else _) = _
        rw [am_rL_len, hi]
        unfold am_rk
        dsimp only [cond]
        rw [am_rL_s1]
        rfl
    | _ => cases h
set_option maxHeartbeats 1000000 in
theorem am_r_astore_n (hR : am_RM ρ M G) {i : Fin 4} (h : am_ex E o ini pc L st M 0 0 (.astore_n i) = some (ps, k')) (hp : ∀ q ∈ ps, q) : am_mv E ρ o ini pc L st M G (.astore_n i) ps k' := by
  simp only [am_ex] at h
  cases st with
  | nil => cases h
  | cons v r =>
    cases v with
    | ref x =>
      cases hi : Nat.blt (i.val) L.length with
      | false => rw [hi] at h; cases h
      | true =>
        rw [hi] at h
        cases h
        refine am_mv0 ?_ rfl hR
        show (bif Nat.blt (i.val) (am_rL ρ L).length then _ else _) = _
        rw [am_rL_len, hi]
        unfold am_rk
        dsimp only [cond]
        rw [am_rL_s1]
        rfl
    | null =>
      cases hi : Nat.blt (i.val) L.length with
      | false => rw [hi] at h; cases h
      | true =>
        rw [hi] at h
        cases h
        refine am_mv0 ?_ rfl hR
        show (bif Nat.blt (i.val) (am_rL ρ L).length then _ else _) = _
        rw [am_rL_len, hi]
        unfold am_rk
        dsimp only [cond]
        rw [am_rL_s1]
        rfl
    | _ => cases h
set_option maxHeartbeats 1000000 in
theorem am_r_iinc (hR : am_RM ρ M G) {i : Nat} {n : Int} (h : am_ex E o ini pc L st M 0 0 (.iinc i n) = some (ps, k')) (hp : ∀ q ∈ ps, q) : am_mv E ρ o ini pc L st M G (.iinc i n) ps k' := by
  simp only [am_ex] at h
  cases hk : L.getD i none with
  | none => rw [hk] at h; cases h
  | some v =>
    rw [hk] at h
    have hv := am_rL_get ρ L i
    rw [hk] at hv
    cases v with
    | int x =>
      cases hi : Nat.blt i L.length with
      | false => rw [hi] at h; cases h
      | true =>
        rw [hi] at h
        cases h
        refine am_mv0 ?_ rfl hR
        have hv : (am_rL ρ L).getD i none = some (.int x) := hv
        simp only [am_ex, hv]
        rw [am_rL_len, hi]
        unfold am_rk
        dsimp only [cond]
        rw [am_rL_s1]
        rfl
    | _ => cases h
set_option maxHeartbeats 1000000 in
theorem am_r_iadd (hR : am_RM ρ M G) (h : am_ex E o ini pc L st M 0 0 (.iadd) = some (ps, k')) (hp : ∀ q ∈ ps, q) : am_mv E ρ o ini pc L st M G (.iadd) ps k' := by
  simp only [am_ex] at h
  cases st with
  | nil => cases h
  | cons v0 r0 =>
    cases v0 with
    | int y =>
      cases r0 with
      | nil => cases h
      | cons v1 r1 =>
        cases v1 with
        | int x =>
          cases h
          exact am_mv0 rfl rfl hR
        | _ => cases h
    | _ => cases h
set_option maxHeartbeats 1000000 in
theorem am_r_isub (hR : am_RM ρ M G) (h : am_ex E o ini pc L st M 0 0 (.isub) = some (ps, k')) (hp : ∀ q ∈ ps, q) : am_mv E ρ o ini pc L st M G (.isub) ps k' := by
  simp only [am_ex] at h
  cases st with
  | nil => cases h
  | cons v0 r0 =>
    cases v0 with
    | int y =>
      cases r0 with
      | nil => cases h
      | cons v1 r1 =>
        cases v1 with
        | int x =>
          cases h
          exact am_mv0 rfl rfl hR
        | _ => cases h
    | _ => cases h
set_option maxHeartbeats 1000000 in
theorem am_r_imul (hR : am_RM ρ M G) (h : am_ex E o ini pc L st M 0 0 (.imul) = some (ps, k')) (hp : ∀ q ∈ ps, q) : am_mv E ρ o ini pc L st M G (.imul) ps k' := by
  simp only [am_ex] at h
  cases st with
  | nil => cases h
  | cons v0 r0 =>
    cases v0 with
    | int y =>
      cases r0 with
      | nil => cases h
      | cons v1 r1 =>
        cases v1 with
        | int x =>
          cases h
          exact am_mv0 rfl rfl hR
        | _ => cases h
    | _ => cases h
set_option maxHeartbeats 1000000 in
theorem am_r_iand (hR : am_RM ρ M G) (h : am_ex E o ini pc L st M 0 0 (.iand) = some (ps, k')) (hp : ∀ q ∈ ps, q) : am_mv E ρ o ini pc L st M G (.iand) ps k' := by
  simp only [am_ex] at h
  cases st with
  | nil => cases h
  | cons v0 r0 =>
    cases v0 with
    | int y =>
      cases r0 with
      | nil => cases h
      | cons v1 r1 =>
        cases v1 with
        | int x =>
          cases h
          exact am_mv0 rfl rfl hR
        | _ => cases h
    | _ => cases h
set_option maxHeartbeats 1000000 in
theorem am_r_ior (hR : am_RM ρ M G) (h : am_ex E o ini pc L st M 0 0 (.ior) = some (ps, k')) (hp : ∀ q ∈ ps, q) : am_mv E ρ o ini pc L st M G (.ior) ps k' := by
  simp only [am_ex] at h
  cases st with
  | nil => cases h
  | cons v0 r0 =>
    cases v0 with
    | int y =>
      cases r0 with
      | nil => cases h
      | cons v1 r1 =>
        cases v1 with
        | int x =>
          cases h
          exact am_mv0 rfl rfl hR
        | _ => cases h
    | _ => cases h
set_option maxHeartbeats 1000000 in
theorem am_r_ishl (hR : am_RM ρ M G) (h : am_ex E o ini pc L st M 0 0 (.ishl) = some (ps, k')) (hp : ∀ q ∈ ps, q) : am_mv E ρ o ini pc L st M G (.ishl) ps k' := by
  simp only [am_ex] at h
  cases st with
  | nil => cases h
  | cons v0 r0 =>
    cases v0 with
    | int y =>
      cases r0 with
      | nil => cases h
      | cons v1 r1 =>
        cases v1 with
        | int x =>
          cases h
          exact am_mv0 rfl rfl hR
        | _ => cases h
    | _ => cases h
set_option maxHeartbeats 1000000 in
theorem am_r_ishr (hR : am_RM ρ M G) (h : am_ex E o ini pc L st M 0 0 (.ishr) = some (ps, k')) (hp : ∀ q ∈ ps, q) : am_mv E ρ o ini pc L st M G (.ishr) ps k' := by
  simp only [am_ex] at h
  cases st with
  | nil => cases h
  | cons v0 r0 =>
    cases v0 with
    | int y =>
      cases r0 with
      | nil => cases h
      | cons v1 r1 =>
        cases v1 with
        | int x =>
          cases h
          exact am_mv0 rfl rfl hR
        | _ => cases h
    | _ => cases h
set_option maxHeartbeats 1000000 in
theorem am_r_idiv (hR : am_RM ρ M G) (h : am_ex E o ini pc L st M 0 0 (.idiv) = some (ps, k')) (hp : ∀ q ∈ ps, q) : am_mv E ρ o ini pc L st M G (.idiv) ps k' := by
  simp only [am_ex] at h
  cases st with
  | nil => cases h
  | cons v0 r0 =>
    cases v0 with
    | int y =>
      cases r0 with
      | nil => cases h
      | cons v1 r1 =>
        cases v1 with
        | int x =>
          cases h
          exact am_mv0 rfl rfl hR
        | _ => cases h
    | _ => cases h
set_option maxHeartbeats 1000000 in
theorem am_r_irem (hR : am_RM ρ M G) (h : am_ex E o ini pc L st M 0 0 (.irem) = some (ps, k')) (hp : ∀ q ∈ ps, q) : am_mv E ρ o ini pc L st M G (.irem) ps k' := by
  simp only [am_ex] at h
  cases st with
  | nil => cases h
  | cons v0 r0 =>
    cases v0 with
    | int y =>
      cases r0 with
      | nil => cases h
      | cons v1 r1 =>
        cases v1 with
        | int x =>
          cases h
          exact am_mv0 rfl rfl hR
        | _ => cases h
    | _ => cases h
set_option maxHeartbeats 1000000 in
theorem am_r_ladd (hR : am_RM ρ M G) (h : am_ex E o ini pc L st M 0 0 (.ladd) = some (ps, k')) (hp : ∀ q ∈ ps, q) : am_mv E ρ o ini pc L st M G (.ladd) ps k' := by
  simp only [am_ex] at h
  cases st with
  | nil => cases h
  | cons v0 r0 =>
    cases v0 with
    | long y =>
      cases r0 with
      | nil => cases h
      | cons v1 r1 =>
        cases v1 with
        | long x =>
          cases h
          exact am_mv0 rfl rfl hR
        | _ => cases h
    | _ => cases h
set_option maxHeartbeats 1000000 in
theorem am_r_lsub (hR : am_RM ρ M G) (h : am_ex E o ini pc L st M 0 0 (.lsub) = some (ps, k')) (hp : ∀ q ∈ ps, q) : am_mv E ρ o ini pc L st M G (.lsub) ps k' := by
  simp only [am_ex] at h
  cases st with
  | nil => cases h
  | cons v0 r0 =>
    cases v0 with
    | long y =>
      cases r0 with
      | nil => cases h
      | cons v1 r1 =>
        cases v1 with
        | long x =>
          cases h
          exact am_mv0 rfl rfl hR
        | _ => cases h
    | _ => cases h
set_option maxHeartbeats 1000000 in
theorem am_r_lmul (hR : am_RM ρ M G) (h : am_ex E o ini pc L st M 0 0 (.lmul) = some (ps, k')) (hp : ∀ q ∈ ps, q) : am_mv E ρ o ini pc L st M G (.lmul) ps k' := by
  simp only [am_ex] at h
  cases st with
  | nil => cases h
  | cons v0 r0 =>
    cases v0 with
    | long y =>
      cases r0 with
      | nil => cases h
      | cons v1 r1 =>
        cases v1 with
        | long x =>
          cases h
          exact am_mv0 rfl rfl hR
        | _ => cases h
    | _ => cases h
set_option maxHeartbeats 1000000 in
theorem am_r_ldiv (hR : am_RM ρ M G) (h : am_ex E o ini pc L st M 0 0 (.ldiv) = some (ps, k')) (hp : ∀ q ∈ ps, q) : am_mv E ρ o ini pc L st M G (.ldiv) ps k' := by
  simp only [am_ex] at h
  cases st with
  | nil => cases h
  | cons v0 r0 =>
    cases v0 with
    | long y =>
      cases r0 with
      | nil => cases h
      | cons v1 r1 =>
        cases v1 with
        | long x =>
          cases h
          exact am_mv0 rfl rfl hR
        | _ => cases h
    | _ => cases h
set_option maxHeartbeats 1000000 in
theorem am_r_lrem (hR : am_RM ρ M G) (h : am_ex E o ini pc L st M 0 0 (.lrem) = some (ps, k')) (hp : ∀ q ∈ ps, q) : am_mv E ρ o ini pc L st M G (.lrem) ps k' := by
  simp only [am_ex] at h
  cases st with
  | nil => cases h
  | cons v0 r0 =>
    cases v0 with
    | long y =>
      cases r0 with
      | nil => cases h
      | cons v1 r1 =>
        cases v1 with
        | long x =>
          cases h
          exact am_mv0 rfl rfl hR
        | _ => cases h
    | _ => cases h
set_option maxHeartbeats 1000000 in
theorem am_r_lcmp (hR : am_RM ρ M G) (h : am_ex E o ini pc L st M 0 0 (.lcmp) = some (ps, k')) (hp : ∀ q ∈ ps, q) : am_mv E ρ o ini pc L st M G (.lcmp) ps k' := by
  simp only [am_ex] at h
  cases st with
  | nil => cases h
  | cons v0 r0 =>
    cases v0 with
    | long y =>
      cases r0 with
      | nil => cases h
      | cons v1 r1 =>
        cases v1 with
        | long x =>
          cases h
          exact am_mv0 rfl rfl hR
        | _ => cases h
    | _ => cases h
set_option maxHeartbeats 1000000 in
theorem am_r_i2l (hR : am_RM ρ M G) (h : am_ex E o ini pc L st M 0 0 (.i2l) = some (ps, k')) (hp : ∀ q ∈ ps, q) : am_mv E ρ o ini pc L st M G (.i2l) ps k' := by
  simp only [am_ex] at h
  cases st with
  | nil => cases h
  | cons v0 r0 =>
    cases v0 with
    | int x =>
      cases h
      exact am_mv0 rfl rfl hR
    | _ => cases h
set_option maxHeartbeats 1000000 in
theorem am_r_dup (hR : am_RM ρ M G) (h : am_ex E o ini pc L st M 0 0 (.dup) = some (ps, k')) (hp : ∀ q ∈ ps, q) : am_mv E ρ o ini pc L st M G (.dup) ps k' := by
  simp only [am_ex] at h
  cases st with
  | nil => cases h
  | cons v r =>
    cases v with
    | int x => cases h; exact am_mv0 rfl rfl hR
    | ref x => cases h; exact am_mv0 rfl rfl hR
    | _ => cases h
set_option maxHeartbeats 1000000 in
theorem am_r_dup2 (hR : am_RM ρ M G) (h : am_ex E o ini pc L st M 0 0 (.dup2) = some (ps, k')) (hp : ∀ q ∈ ps, q) : am_mv E ρ o ini pc L st M G (.dup2) ps k' := by
  simp only [am_ex] at h
  cases st with
  | nil => cases h
  | cons v0 r0 =>
    cases v0 with
    | int x =>
      cases r0 with
      | nil => cases h
      | cons v1 r1 =>
        cases v1 with
        | ref y =>
          cases h
          exact am_mv0 rfl rfl hR
        | _ => cases h
    | _ => cases h
set_option maxHeartbeats 1000000 in
theorem am_r_goto (hR : am_RM ρ M G) {off : Int} (h : am_ex E o ini pc L st M 0 0 (.goto off) = some (ps, k')) (hp : ∀ q ∈ ps, q) : am_mv E ρ o ini pc L st M G (.goto off) ps k' := by
  simp only [am_ex] at h
  cases ht : am_tg pc off with
  | none => rw [ht] at h; cases h
  | some t =>
    rw [ht] at h
    cases h
    refine am_mv0 ?_ rfl hR
    simp only [am_ex, ht]
    rfl
theorem am_rk_if {c : Prop} [Decidable c] {a b : am_F} : am_rk ρ G (if c then a else b) = if c then am_rk ρ G a else am_rk ρ G b := by split <;> rfl
theorem am_mvif {c : Prop} [Decidable c] {a b : am_F} {i : Instr} (h : am_ex E o ini pc (am_rL ρ L) (am_rS ρ st) G 0 0 i = some ([], if c then am_rk ρ G a else am_rk ρ G b)) (ha : a.2.2.2 = (M, 0, 0)) (hb : b.2.2.2 = (M, 0, 0)) (hR : am_RM ρ M G) : am_mv E ρ o ini pc L st M G i [] (if c then a else b) := by
  refine am_mv0 (by rw [am_rk_if]; exact h) ?_ hR
  split
  · exact ha
  · exact hb
set_option maxHeartbeats 1000000 in
theorem am_r_ifCond (hR : am_RM ρ M G) {k : Jvm.ClassFile.Cond} {off : Int} (h : am_ex E o ini pc L st M 0 0 (.ifCond k off) = some (ps, k')) (hp : ∀ q ∈ ps, q) : am_mv E ρ o ini pc L st M G (.ifCond k off) ps k' := by
  simp only [am_ex] at h
  cases ht : am_tg pc off with
  | none => rw [ht] at h; cases h
  | some t =>
    rw [ht] at h
    cases st with
    | nil => cases h
    | cons v r =>
      cases v with
      | int x =>
        cases k <;> (cases h; exact am_mvif (by simp only [am_ex, ht]; rfl) rfl rfl hR)
      | _ => cases h
set_option maxHeartbeats 1000000 in
theorem am_r_if_icmp (hR : am_RM ρ M G) {k : Jvm.ClassFile.Cond} {off : Int} (h : am_ex E o ini pc L st M 0 0 (.if_icmp k off) = some (ps, k')) (hp : ∀ q ∈ ps, q) : am_mv E ρ o ini pc L st M G (.if_icmp k off) ps k' := by
  simp only [am_ex] at h
  cases ht : am_tg pc off with
  | none => rw [ht] at h; cases h
  | some t =>
    rw [ht] at h
    cases st with
    | nil => cases h
    | cons v r =>
      cases v with
      | int y =>
       cases r with
       | nil => cases h
       | cons v2 r =>
       cases v2 with
       | int x =>
        cases k <;> (cases h; exact am_mvif (by simp only [am_ex, ht]; rfl) rfl rfl hR)
       | _ => cases h
      | _ => cases h
set_option maxHeartbeats 1000000 in
theorem am_r_ifnull (hR : am_RM ρ M G) {off : Int} (h : am_ex E o ini pc L st M 0 0 (.ifnull off) = some (ps, k')) (hp : ∀ q ∈ ps, q) : am_mv E ρ o ini pc L st M G (.ifnull off) ps k' := by
  simp only [am_ex] at h
  cases ht : am_tg pc off with
  | none => rw [ht] at h; cases h
  | some t =>
    rw [ht] at h
    cases st with
    | nil => cases h
    | cons v r =>
      cases v with
      | ref x => cases h; exact am_mv0 (by simp only [am_ex, ht]; rfl) rfl hR
      | null => cases h; exact am_mv0 (by simp only [am_ex, ht]; rfl) rfl hR
      | _ => cases h
set_option maxHeartbeats 1000000 in
theorem am_r_ifnonnull (hR : am_RM ρ M G) {off : Int} (h : am_ex E o ini pc L st M 0 0 (.ifnonnull off) = some (ps, k')) (hp : ∀ q ∈ ps, q) : am_mv E ρ o ini pc L st M G (.ifnonnull off) ps k' := by
  simp only [am_ex] at h
  cases ht : am_tg pc off with
  | none => rw [ht] at h; cases h
  | some t =>
    rw [ht] at h
    cases st with
    | nil => cases h
    | cons v r =>
      cases v with
      | ref x => cases h; exact am_mv0 (by simp only [am_ex, ht]; rfl) rfl hR
      | null => cases h; exact am_mv0 (by simp only [am_ex, ht]; rfl) rfl hR
      | _ => cases h
set_option maxHeartbeats 1000000 in
theorem am_r_tableswitch (hR : am_RM ρ M G) {d lo hi : Int} {offs : Array Int} (h : am_ex E o ini pc L st M 0 0 (.tableswitch d lo hi offs) = some (ps, k')) (hp : ∀ q ∈ ps, q) : am_mv E ρ o ini pc L st M G (.tableswitch d lo hi offs) ps k' := by
  simp only [am_ex] at h
  cases st with
  | nil => cases h
  | cons v r =>
    cases v with
    | int x =>
      cases ht : am_sw pc d lo hi offs x with
      | none => simp only [ht] at h; cases h
      | some t =>
        simp only [ht] at h
        cases h
        refine am_mv0 ?_ rfl hR
        show (match am_sw pc d lo hi offs x with | some t => _ | none => _) = _
        rw [ht]
        rfl
    | _ => cases h
set_option maxHeartbeats 1000000 in
theorem am_r_getfield (hR : am_RM ρ M G) {i : Nat} (h : am_ex E o ini pc L st M 0 0 (.getfield i) = some (ps, k')) (hp : ∀ q ∈ ps, q) : am_mv E ρ o ini pc L st M G (.getfield i) ps k' := by
  simp only [am_ex] at h
  cases hf : am_fl o i with
  | none => rw [hf] at h; cases h
  | some q =>
    obtain ⟨ci, k⟩ := q
    rw [hf] at h
    cases st with
    | nil => cases h
    | cons v r =>
      cases v with
      | ref a =>
        cases hM : M.2 a with
        | none => simp only [hM] at h; cases h
        | some cell =>
          cases cell with
          | inl z => simp only [hM] at h; cases h
          | inr z =>
            obtain ⟨ci', fs⟩ := z
            simp only [hM] at h
            cases he : Nat.beq ci ci' with
            | false => rw [he] at h; cases h
            | true =>
              rw [he] at h
              cases hv : fs[k]? with
              | none => simp only [hv] at h; cases h
              | some v =>
                simp only [hv] at h
                cases h
                have hG : G.2 (ρ a) = some (.inr (ci', fs.map (am_rv ρ))) := hR.1 a _ hM
                have hv2 : (fs.map (am_rv ρ))[k]? = some (am_rv ρ v) := by rw [List.getElem?_map, hv]; rfl
                refine am_mv0 ?_ rfl hR
                show (match am_fl o i, Value.ref (ρ a) :: am_rS ρ r with | some (ci, k), .ref a :: r => _ | _, _ => _) = _
                simp only [hf, hG, he, cond, hv2]
                rfl
      | _ => cases h
set_option maxHeartbeats 1000000 in
theorem am_r_putfield (hR : am_RM ρ M G) {i : Nat} (h : am_ex E o ini pc L st M 0 0 (.putfield i) = some (ps, k')) (hp : ∀ q ∈ ps, q) : am_mv E ρ o ini pc L st M G (.putfield i) ps k' := by
  simp only [am_ex] at h
  cases hf : am_fl o i with
  | none => rw [hf] at h; cases h
  | some q =>
    obtain ⟨ci, k⟩ := q
    rw [hf] at h
    cases st with
    | nil => cases h
    | cons v r =>
     cases r with
     | nil => cases h
     | cons v2 r =>
      cases v2 with
      | ref a =>
        cases hM : M.2 a with
        | none => simp only [hM] at h; cases h
        | some cell =>
          cases cell with
          | inl z => simp only [hM] at h; cases h
          | inr z =>
            obtain ⟨ci', fs⟩ := z
            simp only [hM] at h
            cases hk : am_fk ci k with
            | none => rw [hk] at h; cases h
            | some q =>
              rw [hk] at h
              simp only at h
              cases he : (Nat.beq ci ci' && am_fit q v && Nat.blt k fs.length && (!(am_fn ci k) || (ini && Nat.beq o ci))) with
              | false => rw [he] at h; cases h
              | true =>
                rw [he] at h
                cases h
                have hG : G.2 (ρ a) = some (.inr (ci', fs.map (am_rv ρ))) := hR.1 a _ hM
                have hfit : am_fit q (am_rv ρ v) = am_fit q v := by
                  cases v with
                  | ref z =>
                    show am_fit q (.ref (ρ z)) = am_fit q (.ref z)
                    match q with
                    | 0 => rfl
                    | 1 => rfl
                    | 2 => rfl
                    | n + 3 => rfl
                  | _ => rfl
                refine ⟨am_w G (ρ a) (am_rc ρ (.inr (ci, fs.set k v))), ?_, rfl, rfl, hR.w hM _, am_FR.w hM _, am_dm.w hM⟩
                show (match am_fl o i, am_rv ρ v :: Value.ref (ρ a) :: am_rS ρ r with | some (ci, k), v :: .ref a :: r => _ | _, _ => _) = _
                simp only [hf, hG, hk, hfit, List.length_map, he, cond]
                show some _ = some _
                unfold am_rk am_rc
                dsimp only
                rw [List.map_set]
      | _ => cases h
set_option maxHeartbeats 1000000 in
theorem am_r_getstatic (hR : am_RM ρ M G) {i : Nat} (h : am_ex E o ini pc L st M 0 0 (.getstatic i) = some (ps, k')) (hp : ∀ q ∈ ps, q) : am_mv E ρ o ini pc L st M G (.getstatic i) ps k' := by
  simp only [am_ex] at h
  cases hf : am_sc o i with
  | none => rw [hf] at h; cases h
  | some e =>
    rw [hf] at h
    cases h
    have h4 := (am_sc_ok hf).2.2
    refine am_mv0 ?_ rfl hR
    simp only [am_ex, hf]
    unfold am_rk am_rS
    dsimp only
    rw [List.map_cons]
    show _ = some ([], pc + 3, am_rL ρ L, Value.ref (ρ (am_X + e)) :: _, G, 0, 0)
    rw [(hR.2.2 (am_X + e) (Nat.le_add_right _ _) (by omega)).2.2]
set_option maxHeartbeats 1000000 in
theorem am_r_arraylength (hR : am_RM ρ M G) (h : am_ex E o ini pc L st M 0 0 (.arraylength) = some (ps, k')) (hp : ∀ q ∈ ps, q) : am_mv E ρ o ini pc L st M G (.arraylength) ps k' := by
  simp only [am_ex] at h
  cases st with
  | nil => cases h
  | cons v r =>
    cases v with
    | ref a =>
      cases hM : M.2 a with
      | some cell => simp only [hM] at h; cases h
      | none =>
        simp only [hM] at h
        cases he : (Nat.ble am_X a && Nat.blt a (am_X + 4)) with
        | false => rw [he] at h; cases h
        | true =>
          rw [he] at h
          cases h
          have h1 := (Bool.and_eq_true_iff.mp he)
          obtain ⟨g1, g2, g3⟩ := hR.2.2 a (Nat.le_of_ble_eq_true h1.1) (Nat.le_of_ble_eq_true h1.2)
          refine am_mv0 ?_ rfl hR
          have e1 : am_rS ρ (.ref a :: r) = .ref (ρ a) :: am_rS ρ r := rfl
          rw [g3] at e1
          simp only [am_ex, e1, g2, he, cond]
          unfold am_rk
          dsimp only
          rfl
    | _ => cases h
set_option maxHeartbeats 1000000 in
theorem am_r_iaload (hR : am_RM ρ M G) (h : am_ex E o ini pc L st M 0 0 (.iaload) = some (ps, k')) (hp : ∀ q ∈ ps, q) : am_mv E ρ o ini pc L st M G (.iaload) ps k' := by
  simp only [am_ex] at h
  cases st with
  | nil => cases h
  | cons v r =>
   cases v with
   | int i =>
    cases r with
    | nil => cases h
    | cons v r =>
    cases v with
    | ref a =>
      cases hM : M.2 a with
      | some cell =>
        simp only [hM] at h
        split at h
        · rename_i n f hcell
          cases hcell
          cases h
          have hG : G.2 (ρ a) = some (.inl (0, n, .inl f)) := hR.1 a _ hM
          refine am_mv0 ?_ rfl hR
          have e1 : am_rS ρ (.int i :: .ref a :: r) = .int i :: .ref (ρ a) :: am_rS ρ r := rfl
          simp only [am_ex, e1, hG]
          rfl
        · cases h
        · rename_i hcell; cases hcell
      | none =>
        simp only [hM] at h
        cases he : (Nat.ble am_X a && Nat.blt a (am_X + 4)) with
        | false => rw [he] at h; cases h
        | true =>
          rw [he] at h
          cases h
          have h1 := (Bool.and_eq_true_iff.mp he)
          obtain ⟨g1, g2, g3⟩ := hR.2.2 a (Nat.le_of_ble_eq_true h1.1) (Nat.le_of_ble_eq_true h1.2)
          refine am_mv0 ?_ rfl hR
          have e1 : am_rS ρ (.int i :: .ref a :: r) = .int i :: .ref (ρ a) :: am_rS ρ r := rfl
          rw [g3] at e1
          simp only [am_ex, e1, g2, he, cond]
          unfold am_rk
          dsimp only
          rfl
    | _ => cases h
   | _ => cases h
set_option maxHeartbeats 1000000 in
theorem am_r_baload (hR : am_RM ρ M G) (h : am_ex E o ini pc L st M 0 0 (.baload) = some (ps, k')) (hp : ∀ q ∈ ps, q) : am_mv E ρ o ini pc L st M G (.baload) ps k' := by
  simp only [am_ex] at h
  cases st with
  | nil => cases h
  | cons v r =>
   cases v with
   | int i =>
    cases r with
    | nil => cases h
    | cons v r =>
    cases v with
    | ref a =>
      cases hM : M.2 a with
      | some cell =>
        simp only [hM] at h
        split at h
        · rename_i n f hcell
          cases hcell
          cases h
          have hG : G.2 (ρ a) = some (.inl (1, n, .inl f)) := hR.1 a _ hM
          refine am_mv0 ?_ rfl hR
          have e1 : am_rS ρ (.int i :: .ref a :: r) = .int i :: .ref (ρ a) :: am_rS ρ r := rfl
          simp only [am_ex, e1, hG]
          rfl
        · cases h
      | none => simp only [hM] at h; cases h
    | _ => cases h
   | _ => cases h
set_option maxHeartbeats 1000000 in
theorem am_r_laload (hR : am_RM ρ M G) (h : am_ex E o ini pc L st M 0 0 (.laload) = some (ps, k')) (hp : ∀ q ∈ ps, q) : am_mv E ρ o ini pc L st M G (.laload) ps k' := by
  simp only [am_ex] at h
  cases st with
  | nil => cases h
  | cons v r =>
   cases v with
   | int i =>
    cases r with
    | nil => cases h
    | cons v r =>
    cases v with
    | ref a =>
      cases hM : M.2 a with
      | some cell =>
        simp only [hM] at h
        split at h
        · rename_i n f hcell
          cases hcell
          cases h
          have hG : G.2 (ρ a) = some (.inl (2, n, .inr (.inl f))) := hR.1 a _ hM
          refine am_mv0 ?_ rfl hR
          have e1 : am_rS ρ (.int i :: .ref a :: r) = .int i :: .ref (ρ a) :: am_rS ρ r := rfl
          simp only [am_ex, e1, hG]
          rfl
        · cases h
      | none => simp only [hM] at h; cases h
    | _ => cases h
   | _ => cases h
set_option maxHeartbeats 1000000 in
theorem am_r_iastore (hR : am_RM ρ M G) (h : am_ex E o ini pc L st M 0 0 (.iastore) = some (ps, k')) (hp : ∀ q ∈ ps, q) : am_mv E ρ o ini pc L st M G (.iastore) ps k' := by
  simp only [am_ex] at h
  cases st with
  | nil => cases h
  | cons v r =>
   cases v with
   | int x =>
    cases r with
    | nil => cases h
    | cons v r =>
    cases v with
    | int i =>
     cases r with
     | nil => cases h
     | cons v r =>
     cases v with
     | ref a =>
      cases hM : M.2 a with
      | some cell =>
        simp only [hM] at h
        split at h
        · rename_i n f hcell
          cases hcell
          cases h
          have hG : G.2 (ρ a) = some (.inl (0, n, .inl f)) := hR.1 a _ hM
          refine ⟨am_w G (ρ a) (am_rc ρ (.inl (0, n, .inl (upd f i.toNatClampNeg x)))), ?_, rfl, rfl, hR.w hM _, am_FR.w hM _, am_dm.w hM⟩
          have e1 : am_rS ρ (.int x :: .int i :: .ref a :: r) = .int x :: .int i :: .ref (ρ a) :: am_rS ρ r := rfl
          simp only [am_ex, e1, hG]
          rfl
        · cases h
      | none => simp only [hM] at h; cases h
     | _ => cases h
    | _ => cases h
   | _ => cases h
set_option maxHeartbeats 1000000 in
theorem am_r_bastore (hR : am_RM ρ M G) (h : am_ex E o ini pc L st M 0 0 (.bastore) = some (ps, k')) (hp : ∀ q ∈ ps, q) : am_mv E ρ o ini pc L st M G (.bastore) ps k' := by
  simp only [am_ex] at h
  cases st with
  | nil => cases h
  | cons v r =>
   cases v with
   | int x =>
    cases r with
    | nil => cases h
    | cons v r =>
    cases v with
    | int i =>
     cases r with
     | nil => cases h
     | cons v r =>
     cases v with
     | ref a =>
      cases hM : M.2 a with
      | some cell =>
        simp only [hM] at h
        split at h
        · rename_i n f hcell
          cases hcell
          cases h
          have hG : G.2 (ρ a) = some (.inl (1, n, .inl f)) := hR.1 a _ hM
          refine ⟨am_w G (ρ a) (am_rc ρ (.inl (1, n, .inl (upd f i.toNatClampNeg (vp_nar .boolean x))))), ?_, rfl, rfl, hR.w hM _, am_FR.w hM _, am_dm.w hM⟩
          have e1 : am_rS ρ (.int x :: .int i :: .ref a :: r) = .int x :: .int i :: .ref (ρ a) :: am_rS ρ r := rfl
          simp only [am_ex, e1, hG]
          rfl
        · cases h
      | none => simp only [hM] at h; cases h
     | _ => cases h
    | _ => cases h
   | _ => cases h
set_option maxHeartbeats 1000000 in
theorem am_r_lastore (hR : am_RM ρ M G) (h : am_ex E o ini pc L st M 0 0 (.lastore) = some (ps, k')) (hp : ∀ q ∈ ps, q) : am_mv E ρ o ini pc L st M G (.lastore) ps k' := by
  simp only [am_ex] at h
  cases st with
  | nil => cases h
  | cons v r =>
   cases v with
   | long x =>
    cases r with
    | nil => cases h
    | cons v r =>
    cases v with
    | int i =>
     cases r with
     | nil => cases h
     | cons v r =>
     cases v with
     | ref a =>
      cases hM : M.2 a with
      | some cell =>
        simp only [hM] at h
        split at h
        · rename_i n f hcell
          cases hcell
          cases h
          have hG : G.2 (ρ a) = some (.inl (2, n, .inr (.inl f))) := hR.1 a _ hM
          refine ⟨am_w G (ρ a) (am_rc ρ (.inl (2, n, .inr (.inl (vp_updL f i.toNatClampNeg x))))), ?_, rfl, rfl, hR.w hM _, am_FR.w hM _, am_dm.w hM⟩
          have e1 : am_rS ρ (.long x :: .int i :: .ref a :: r) = .long x :: .int i :: .ref (ρ a) :: am_rS ρ r := rfl
          simp only [am_ex, e1, hG]
          rfl
        · cases h
      | none => simp only [hM] at h; cases h
     | _ => cases h
    | _ => cases h
   | _ => cases h
set_option maxHeartbeats 1000000 in
theorem am_r_invokespecial (hR : am_RM ρ M G) {i : Nat} (h : am_ex E o ini pc L st M 0 0 (.invokespecial i) = some (ps, k')) (hp : ∀ q ∈ ps, q) : am_mv E ρ o ini pc L st M G (.invokespecial i) ps k' := by
  simp only [am_ex] at h
  split at h
  · rename_i a r hbi
    cases h
    refine am_mv0 ?_ rfl hR
    show (match am_bi o i, Value.ref (ρ a) :: am_rS ρ r with | some 0, .ref _ :: r => _ | _, _ => _) = _
    simp only [hbi, am_rS_cs]
    rfl
  · cases h
set_option maxHeartbeats 1000000 in
theorem am_r_invokestatic (hR : am_RM ρ M G) {i : Nat} (h : am_ex E o ini pc L st M 0 0 (.invokestatic i) = some (ps, k')) (hp : ∀ q ∈ ps, q) : am_mv E ρ o ini pc L st M G (.invokestatic i) ps k' := by
  simp only [am_ex] at h
  split at h
  · rename_i y x r hbi
    cases h
    refine am_mv0 ?_ rfl hR
    have e1 : am_rS ρ (.int y :: .int x :: r) = .int y :: .int x :: am_rS ρ r := rfl
    simp only [am_ex, hbi, e1, am_rS_cs]
    rfl
  · rename_i y x r hbi
    cases h
    refine am_mv0 ?_ rfl hR
    have e1 : am_rS ρ (.int y :: .int x :: r) = .int y :: .int x :: am_rS ρ r := rfl
    simp only [am_ex, hbi, e1, am_rS_cs]
    rfl
  · rename_i y x r hbi
    cases h
    refine am_mv0 ?_ rfl hR
    have e1 : am_rS ρ (.long y :: .long x :: r) = .long y :: .long x :: am_rS ρ r := rfl
    simp only [am_ex, hbi, e1, am_rS_cs]
    rfl
  · rename_i y x r hbi
    cases h
    refine am_mv0 ?_ rfl hR
    have e1 : am_rS ρ (.long y :: .long x :: r) = .long y :: .long x :: am_rS ρ r := rfl
    simp only [am_ex, hbi, e1, am_rS_cs]
    rfl
  · rename_i n dp d sp q r hbi
    split at h
    · rename_i n0 f n1 g hM0 hM1
      cases h
      have hG0 : G.2 (ρ q) = some (.inl (0, n0, .inl f)) := hR.1 q _ hM0
      have hG1 : G.2 (ρ d) = some (.inl (0, n1, .inl g)) := hR.1 d _ hM1
      refine ⟨am_w G (ρ d) (am_rc ρ (.inl (0, n1, .inl (va_cpy f g sp.toNatClampNeg dp.toNatClampNeg n.toNatClampNeg)))), ?_, rfl, rfl, hR.w hM1 _, am_FR.w hM1 _, am_dm.w hM1⟩
      have e1 : am_rS ρ (.int n :: .int dp :: .ref d :: .int sp :: .ref q :: r) = .int n :: .int dp :: .ref (ρ d) :: .int sp :: .ref (ρ q) :: am_rS ρ r := rfl
      simp only [am_ex, hbi, e1, hG0, hG1, am_rS_cs]
      rfl
    · cases h
  · cases h
set_option maxHeartbeats 1000000 in
theorem am_r_newarray (hR : am_RM ρ M G) {t : Jvm.ClassFile.ArrayType} (h : am_ex E o ini pc L st M 0 0 (.newarray t) = some (ps, k')) (hp : ∀ q ∈ ps, q) : am_mv E ρ o ini pc L st M G (.newarray t) ps k' := by
  simp only [am_ex] at h
  split at h
  · cases h
    exact absurd (hp (1 ≤ 0) am_i3) (by decide)
  · cases h
set_option maxHeartbeats 1000000 in
theorem am_r_anewarray (hR : am_RM ρ M G) {i : Nat} (h : am_ex E o ini pc L st M 0 0 (.anewarray i) = some (ps, k')) (hp : ∀ q ∈ ps, q) : am_mv E ρ o ini pc L st M G (.anewarray i) ps k' := by
  simp only [am_ex] at h
  split at h
  · rename_i t n r hf
    cases hk : Nat.ble (am_kd t) 5 with
    | false => rw [hk] at h; cases h
    | true =>
      rw [hk] at h
      cases h
      exact absurd (hp (1 ≤ 0) am_i3) (by decide)
  · cases h
set_option maxHeartbeats 1000000 in
theorem am_r_new (hR : am_RM ρ M G) {i : Nat} (h : am_ex E o ini pc L st M 0 0 (.new i) = some (ps, k')) (hp : ∀ q ∈ ps, q) : am_mv E ρ o ini pc L st M G (.new i) ps k' := by
  simp only [am_ex] at h
  split at h
  · cases h
    exact absurd (hp (1 ≤ 0) am_i1) (by decide)
  · cases h
set_option maxHeartbeats 1000000 in
theorem am_r_multianewarray (hR : am_RM ρ M G) {i d : Nat} (h : am_ex E o ini pc L st M 0 0 (.multianewarray i d) = some (ps, k')) (hp : ∀ q ∈ ps, q) : am_mv E ρ o ini pc L st M G (.multianewarray i d) ps k' := by
  simp only [am_ex] at h
  split at h
  · rename_i k n r
    cases hk : (Nat.beq o 7 && Nat.beq i 25 && Nat.beq d 2) with
    | false => rw [hk] at h; cases h
    | true =>
      rw [hk] at h
      cases h
      have hz : 1 + n.toNatClampNeg ≤ 0 := hp _ am_i5
      omega
  · cases h
set_option maxHeartbeats 1000000 in
theorem am_r_aastore (hR : am_RM ρ M G) (h : am_ex E o ini pc L st M 0 0 (.aastore) = some (ps, k')) (hp : ∀ q ∈ ps, q) : am_mv E ρ o ini pc L st M G (.aastore) ps k' := by
  simp only [am_ex] at h
  cases st with
  | nil => cases h
  | cons v r =>
   cases v with
   | ref w =>
    cases r with
    | nil => cases h
    | cons v r =>
    cases v with
    | int i =>
     cases r with
     | nil => cases h
     | cons v r =>
     cases v with
     | ref a =>
      simp only at h
      split at h
      · rename_i kd n f ci vs hM hV
        cases hk : (Nat.beq (am_kd ci) kd && Nat.ble kd 5) with
        | false => rw [hk] at h; cases h
        | true =>
          rw [hk] at h
          cases h
          have hG : G.2 (ρ a) = some (.inl (kd, n, .inr (.inr (.inr (.inr (fun i => (f i).map ρ)))))) := hR.1 a _ hM
          have hG2 : G.2 (ρ w) = some (.inr (ci, vs.map (am_rv ρ))) := hR.1 w _ hV
          refine ⟨am_w G (ρ a) (am_rc ρ (.inl (kd, n, .inr (.inr (.inr (.inr (va_up f i.toNatClampNeg (some w)))))))), ?_, rfl, rfl, hR.w hM _, am_FR.w hM _, am_dm.w hM⟩
          have e1 : am_rS ρ (.ref w :: .int i :: .ref a :: r) = .ref (ρ w) :: .int i :: .ref (ρ a) :: am_rS ρ r := rfl
          have e2 : (fun j => (va_up f i.toNatClampNeg (some w) j).map ρ) = va_up (fun j => (f j).map ρ) i.toNatClampNeg (some (ρ w)) := by
            funext j
            unfold va_up
            by_cases e : j = i.toNatClampNeg
            · simp [e]
            · simp [e]
          simp only [am_ex, e1, hG, hG2, hk, cond]
          unfold am_rk am_rc
          dsimp only
          rw [e2]
      · cases h
     | _ => cases h
    | _ => cases h
   | _ => cases h
set_option maxHeartbeats 1000000 in
theorem am_r_if_acmp (hR : am_RM ρ M G) {k : Jvm.ClassFile.ACond} {off : Int} (h : am_ex E o ini pc L st M 0 0 (.if_acmp k off) = some (ps, k')) (hp : ∀ q ∈ ps, q) : am_mv E ρ o ini pc L st M G (.if_acmp k off) ps k' := by
  simp only [am_ex] at h
  cases ht : am_tg pc off with
  | none => rw [ht] at h; cases h
  | some t =>
    rw [ht] at h
    cases st with
    | nil => cases h
    | cons v r =>
     cases v with
     | ref y =>
      cases r with
      | nil => cases h
      | cons v2 r =>
      cases v2 with
      | ref x =>
       cases k with
       | eq => cases h
       | ne =>
        simp only at h
        cases hx1 : M.2 x with
        | none => simp only [hx1] at h; cases h
        | some z1 =>
        cases hy1 : M.2 y with
        | none => simp only [hx1, hy1] at h; cases h
        | some z2 =>
        simp only [hx1, hy1] at h
        cases h
        have e1 : am_rS ρ (.ref y :: .ref x :: r) = .ref (ρ y) :: .ref (ρ x) :: am_rS ρ r := rfl
        have g1 := hR.1 x _ hx1
        have g2 := hR.1 y _ hy1
        refine am_mvif ?_ rfl rfl hR
        simp only [am_ex, ht, e1, g1, g2]
        by_cases e : x = y
        · subst e
          rw [if_neg (fun z => z rfl), if_neg (fun z => z rfl)]
          rfl
        · rw [if_pos e, if_pos (fun z => e (hR.2.1 x y _ _ hx1 hy1 z))]
          rfl
      | _ => cases h
     | _ => cases h
end AMR
