/-! The machine's heap and the abstract memory. γ: classes and slots, the array classes by kind, where our cells begin, where the given arrays lie. -/
abbrev am_G : Type := va_G × (Nat → ClassId) × Nat × (Nat → Nat)
def am_ad (γ : am_G) (k : Nat) : Nat := if k < am_X then γ.2.2.1 + k else γ.2.2.2 (k - am_X)
def am_v (γ : am_G) (v : Value) : Value := match v with
  | .ref a => .ref (am_ad γ a)
  | w => w
theorem am_v_cat (γ : am_G) (v : Value) : (am_v γ v).category = v.category := by cases v <;> rfl
theorem am_cs_map (γ : am_G) (l : List Value) : am_cs (l.map (am_v γ)) = am_cs l := by
  unfold am_cs
  rw [List.map_map]
  congr 1
  exact List.map_congr_left (fun v _ => am_v_cat γ v)
def am_ar (γ : am_G) (x : vp_A) : vp_A := match x with
  | (n, .inr (.inr (.inr (.inr f)))) => (n, .inr (.inr (.inr (.inr (fun i => (f i).map (am_ad γ))))))
  | y => y
def am_e (γ : am_G) (c : am_C) : va_E := match c with
  | .inl (kd, x) => .inl (γ.2.1 kd, am_ar γ x)
  | .inr (ci, fs) => .inr (ci, fs.map (am_v γ))
def am_Hp (γ : am_G) (M : am_M) (H : Heap) : Prop := H.size = γ.2.2.1 + M.1 ∧ M.1 ≤ am_X ∧ ∀ k c, M.2 k = some c → k < M.1 ∧ va_at γ.1 vwCl (γ.2.2.1 + k, am_e γ c) H
theorem am_ad_lt {γ : am_G} {k : Nat} (h : k < am_X) : am_ad γ k = γ.2.2.1 + k := if_pos h
theorem am_Hp.at {γ : am_G} {M : am_M} {H : Heap} (h : am_Hp γ M H) {k : Nat} {c : am_C} (hk : M.2 k = some c) : va_at γ.1 vwCl (am_ad γ k, am_e γ c) H ∧ am_ad γ k = γ.2.2.1 + k := by
  obtain ⟨h1, h2⟩ := h.2.2 k c hk
  have e := am_ad_lt (γ := γ) (Nat.lt_of_lt_of_le h1 h.2.1)
  rw [e]
  exact ⟨h2, rfl⟩
theorem am_up_same {α : Type} (f : Nat → Option α) (k : Nat) (v : α) : am_up f k v k = some v := by
  unfold am_up
  rw [Nat.beq_refl]
  rfl
theorem am_up_ne {α : Type} (f : Nat → Option α) {k j : Nat} (v : α) (h : j ≠ k) : am_up f k v j = f j := by
  unfold am_up
  cases hb : Nat.beq j k with
  | false => rfl
  | true => exact absurd (Nat.eq_of_beq_eq_true hb) h
theorem am_Hp.write {γ : am_G} {M : am_M} {H H1 : Heap} (h : am_Hp γ M H) {k : Nat} {c0 c : am_C} (hk : M.2 k = some c0) (z : H1.size = H.size) (oq : ∀ q : Nat, q ≠ am_ad γ k → H1[q]? = H[q]?) (he : va_at γ.1 vwCl (am_ad γ k, am_e γ c) H1) : am_Hp γ (am_w M k c) H1 := by
  obtain ⟨h1, -⟩ := h.2.2 k c0 hk
  have e := (h.at hk).2
  refine ⟨z.trans h.1, h.2.1, fun j d hj => ?_⟩
  by_cases hjk : j = k
  · subst hjk
    have hd : am_up M.2 j c j = some d := hj
    rw [am_up_same] at hd
    cases hd
    exact ⟨h1, by rw [← e]; exact he⟩
  · have hd : am_up M.2 k c j = some d := hj
    rw [am_up_ne _ _ hjk] at hd
    obtain ⟨g1, g2⟩ := h.2.2 j d hd
    exact ⟨g1, g2.kept (oq _ (by rw [e]; show γ.2.2.1 + j ≠ _; omega))⟩
theorem am_Hp.make {γ : am_G} {M : am_M} {H H1 : Heap} (h : am_Hp γ M H) {c : am_C} (hX : M.1 < am_X) (z : H1.size = H.size + 1) (oq : ∀ q : Nat, q < H.size → H1[q]? = H[q]?) (he : va_at γ.1 vwCl (H.size, am_e γ c) H1) : am_Hp γ (am_mk M c) H1 := by
  refine ⟨by show H1.size = γ.2.2.1 + (M.1 + 1); rw [z, h.1]; omega, hX, fun j d hj => ?_⟩
  have hd : am_up M.2 M.1 c j = some d := hj
  by_cases hjk : j = M.1
  · subst hjk
    rw [am_up_same] at hd
    cases hd
    exact ⟨Nat.lt_succ_self _, by rw [← h.1]; exact he⟩
  · rw [am_up_ne _ _ hjk] at hd
    obtain ⟨g1, g2⟩ := h.2.2 j d hd
    exact ⟨Nat.lt_succ_of_lt g1, g2.kept (oq _ (by show γ.2.2.1 + j < _; rw [h.1]; omega))⟩
theorem am_Hp.new_ad {γ : am_G} {M : am_M} {H : Heap} (h : am_Hp γ M H) (hX : M.1 < am_X) : H.size = am_ad γ M.1 := by rw [am_ad_lt hX, h.1]
/-! locals -/
def am_Ls (γ : am_G) (ls : Array Slot) (nL : Nat) (L : List (Option Value)) : Prop := ls.size = nL ∧ lv_wf ls ∧ L.length = nL ∧ ∀ (i : Nat) (v : Value), L.getD i none = some v → ls[i]? = some (.val (am_v γ v))
def am_al (γ : am_G) (L : List (Option Value)) (nL : Nat) : List (Nat × Value) := (List.range nL).filterMap (fun i => (L.getD i none).map (fun v => (i, am_v γ v)))
theorem am_al_mem {γ : am_G} {L : List (Option Value)} {nL i : Nat} {w : Value} : (i, w) ∈ am_al γ L nL ↔ i < nL ∧ ∃ v, L.getD i none = some v ∧ w = am_v γ v := by
  unfold am_al
  constructor
  · intro h
    obtain ⟨j, hj, h2⟩ := List.mem_filterMap.mp h
    cases hg : L.getD j none with
    | none => rw [hg] at h2; cases h2
    | some v =>
      rw [hg] at h2
      cases h2
      exact ⟨List.mem_range.mp hj, v, hg, rfl⟩
  · rintro ⟨h1, v, h2, rfl⟩
    exact List.mem_filterMap.mpr ⟨i, List.mem_range.mpr h1, by rw [h2]; rfl⟩
theorem am_Ls.has {γ : am_G} {ls : Array Slot} {nL : Nat} {L : List (Option Value)} (h : am_Ls γ ls nL L) : lv_has ls nL (am_al γ L nL) := by
  refine ⟨h.1, h.2.1, fun q hq => ?_⟩
  obtain ⟨i, w⟩ := q
  obtain ⟨-, v, h2, rfl⟩ := am_al_mem.mp hq
  exact h.2.2.2 i v h2
theorem am_getD_lt {L : List (Option Value)} {i : Nat} {v : Value} (h : L.getD i none = some v) : i < L.length := by
  rcases Nat.lt_or_ge i L.length with q | q
  · exact q
  · rw [List.getD_eq_getElem?_getD, List.getElem?_eq_none q] at h
    cases h
theorem am_getD_set_ne {L : List (Option Value)} {i j : Nat} {x : Option Value} (h : j ≠ i) : (L.set i x).getD j none = L.getD j none := by
  rw [List.getD_eq_getElem?_getD, List.getD_eq_getElem?_getD, List.getElem?_set_ne (Ne.symm h)]
theorem am_getD_set_self {L : List (Option Value)} {i : Nat} {x : Option Value} (h : i < L.length) : (L.set i x).getD i none = x := by
  rw [List.getD_eq_getElem?_getD, List.getElem?_set_self h]
  rfl
theorem am_cl0_len (L : List (Option Value)) (i : Nat) : (am_cl0 L i).length = L.length := by
  cases i with
  | zero => rfl
  | succ j =>
    show (match L.getD j none with | some w => bif am_c2 w then L.set j none else L | none => L).length = _
    cases L.getD j none with
    | none => rfl
    | some w =>
      show (bif am_c2 w then L.set j none else L).length = _
      cases am_c2 w
      · rfl
      · exact List.length_set
theorem am_cl0_get {L : List (Option Value)} {i j : Nat} {w : Value} (h : (am_cl0 L i).getD j none = some w) : L.getD j none = some w ∧ (j + 1 = i → ¬ w.category = 2) := by
  cases i with
  | zero => exact ⟨h, fun q => absurd q (by omega)⟩
  | succ k =>
    have h : (match L.getD k none with | some w => bif am_c2 w then L.set k none else L | none => L).getD j none = some w := h
    cases hk : L.getD k none with
    | none =>
      rw [hk] at h
      have h : L.getD j none = some w := h
      refine ⟨h, fun q => ?_⟩
      have : j = k := by omega
      subst this
      rw [hk] at h
      cases h
    | some u =>
      rw [hk] at h
      have h : (bif am_c2 u then L.set k none else L).getD j none = some w := h
      cases hu : am_c2 u with
      | true =>
        rw [hu] at h
        have h : (L.set k none).getD j none = some w := h
        by_cases hjk : j = k
        · subst hjk
          rw [am_getD_set_self (am_getD_lt hk)] at h
          cases h
        · rw [am_getD_set_ne hjk] at h
          exact ⟨h, fun q => absurd (show j = k by omega) hjk⟩
      | false =>
        rw [hu] at h
        have h9 : L.getD j none = some w := h
        refine ⟨h9, fun q hc => ?_⟩
        have e : j = k := by omega
        rw [e, hk] at h9
        cases h9
        unfold am_c2 at hu
        rw [hc] at hu
        cases hu
theorem am_Ls.st1 {γ : am_G} {ls' : Array Slot} {nL i : Nat} {L : List (Option Value)} {v : Value} (hn : L.length = nL) (hi : i < nL) (h : lv_has ls' nL ((i, am_v γ v) :: (am_al γ L nL).filter (fun q => !(q.1 == i) && !(q.1 + 1 == i && q.2.category == 2)))) : am_Ls γ ls' nL (am_s1 L i v) := by
  refine ⟨h.1, h.2.1, ?_, fun j w hj => ?_⟩
  · unfold am_s1
    rw [List.length_set, am_cl0_len]
    exact hn
  · unfold am_s1 at hj
    by_cases hji : j = i
    · subst hji
      rw [am_getD_set_self (by rw [am_cl0_len, hn]; exact hi)] at hj
      cases hj
      exact h.2.2 (j, am_v γ v) List.mem_cons_self
    · rw [am_getD_set_ne hji] at hj
      obtain ⟨g1, g2⟩ := am_cl0_get hj
      refine h.2.2 (j, am_v γ w) (List.mem_cons_of_mem _ (List.mem_filter.mpr ⟨am_al_mem.mpr ⟨by rw [← hn]; exact am_getD_lt g1, w, g1, rfl⟩, ?_⟩))
      have e1 : (j == i) = false := by simpa using hji
      show (!(j == i) && !(j + 1 == i && (am_v γ w).category == 2)) = true
      rw [e1, am_v_cat]
      by_cases hq : j + 1 = i
      · have := g2 hq
        simp [this]
      · have e2 : (j + 1 == i) = false := by simpa using hq
        rw [e2]
        rfl
theorem am_Ls.st2 {γ : am_G} {ls' : Array Slot} {nL i : Nat} {L : List (Option Value)} {v : Value} (hn : L.length = nL) (hi : i + 1 < nL) (h : lv_has ls' nL ((i, am_v γ v) :: (am_al γ L nL).filter (fun q => !(q.1 == i) && (!(q.1 == i + 1) && !(q.1 + 1 == i && q.2.category == 2))))) : am_Ls γ ls' nL (am_s2 L i v) := by
  refine ⟨h.1, h.2.1, ?_, fun j w hj => ?_⟩
  · unfold am_s2
    rw [List.length_set, List.length_set, am_cl0_len]
    exact hn
  · unfold am_s2 at hj
    by_cases hji : j = i
    · subst hji
      rw [am_getD_set_self (by rw [List.length_set, am_cl0_len, hn]; omega)] at hj
      cases hj
      exact h.2.2 (j, am_v γ v) List.mem_cons_self
    · rw [am_getD_set_ne hji] at hj
      by_cases hj2 : j = i + 1
      · subst hj2
        rw [am_getD_set_self (by rw [am_cl0_len, hn]; exact hi)] at hj
        cases hj
      · rw [am_getD_set_ne hj2] at hj
        obtain ⟨g1, g2⟩ := am_cl0_get hj
        refine h.2.2 (j, am_v γ w) (List.mem_cons_of_mem _ (List.mem_filter.mpr ⟨am_al_mem.mpr ⟨by rw [← hn]; exact am_getD_lt g1, w, g1, rfl⟩, ?_⟩))
        have e1 : (j == i) = false := by simpa using hji
        have e3 : (j == i + 1) = false := by simpa using hj2
        show (!(j == i) && (!(j == i + 1) && !(j + 1 == i && (am_v γ w).category == 2))) = true
        rw [e1, e3, am_v_cat]
        by_cases hq : j + 1 = i
        · have := g2 hq
          simp [this]
        · have e2 : (j + 1 == i) = false := by simpa using hq
          rw [e2]
          rfl
theorem am_tg_ok {pc t : Nat} {off : Int} (h : am_tg pc off = some t) : (pc : Int) + off = (t : Int) := by
  unfold am_tg at h
  cases hz : (pc : Int) + off with
  | ofNat z => rw [hz] at h; cases h; rfl
  | negSucc z => rw [hz] at h; cases h
/-! what is known of the classes and of the given arrays -/
def am_tys (γ : am_G) : List (ClassId × FieldType) := [(γ.2.1 0, .int), (γ.2.1 1, .boolean), (γ.2.1 2, .long), (γ.2.1 3, .object RX0), (γ.2.1 4, .object RX3), (γ.2.1 5, .object RX7), (γ.2.1 6, .array .long)]
/-- the rows of longs: their array's class stands -/
def am_AOA (U : State) : Prop := (Cond.arrayOver (.array .long)).before #[] U = true
theorem am_AOA.of {A : Array Value} {U : State} (h : (Cond.arrayOver (.array .long)).before A U = true) : am_AOA U := h
theorem am_AOA.use {A : Array Value} {U : State} (h : am_AOA U) : (Cond.arrayOver (.array .long)).before A U = true := h
theorem am_AOA.moved {u U : State} (hvm : u.vm.Alike U.vm) (h : am_AOA u) : am_AOA U := Stand.arrayOver_alikeB hvm h
def am_Kw (γ : am_G) (U : State) : Prop := va_K γ.1 vwCl (am_tys γ) U ∧ (∀ q ∈ am_nestL, va_Nw (.methodLinkNest q.1 q.2.1 q.2.2.1 q.2.2.2) U) ∧ va_AO RX0 U ∧ va_AO RX3 U ∧ va_AO RX7 U ∧ am_AOA U
def am_Kx (γ : am_G) (E : am_E) (U : State) (H : Heap) : Prop := (∀ e, e < 4 → va_T .int (γ.2.2.2 e) (E e).1 (fun j => .int ((E e).2 j)) (fun q => γ.2.2.1 ≤ q) U H) ∧ ∀ e, 0 < e → e < 4 → va_Z "ShiftLedger" (am_snm e) "[I" (.ref (γ.2.2.2 e)) (fun q => γ.2.2.1 ≤ q) U H
theorem am_Kw.warm {γ : am_G} {s U : State} (hW : s.WarmedH U.vm) (h : am_Kw γ s) : am_Kw γ U := ⟨va_K.moved hW.alike h.1, fun q hq => va_Nw.warmM hW (h.2.1 q hq), va_AO.moved hW.alike h.2.2.1, va_AO.moved hW.alike h.2.2.2.1, va_AO.moved hW.alike h.2.2.2.2.1, am_AOA.moved hW.alike h.2.2.2.2.2⟩
theorem am_Kw.same {γ : am_G} {u U : State} (hv : u.vm = U.vm) (h : am_Kw γ u) : am_Kw γ U := by
  have hA : u.vm.Alike U.vm := by rw [hv]; exact Vm.Alike.refl U.vm
  exact ⟨va_K.moved hA h.1, fun q hq => va_Nw.same rfl hv (h.2.1 q hq), va_AO.moved hA h.2.2.1, va_AO.moved hA h.2.2.2.1, va_AO.moved hA h.2.2.2.2.1, am_AOA.moved hA h.2.2.2.2.2⟩
theorem am_Kx.moved {γ : am_G} {E : am_E} {u U : State} {H0 H : Heap} (hvm : u.vm.Alike U.vm) (hq : ∀ a : Nat, a < H0.size → ¬ γ.2.2.1 ≤ a → H[a]? = H0[a]?) (h : am_Kx γ E u H0) : am_Kx γ E U H := ⟨fun e he => ((h.1 e he).kept hq).moved hvm, fun e h1 h2 => ((h.2 e h1 h2).kept hq).moved hvm⟩
