/-! What is made: cells behind a memory; the small constructors. -/
def am_K (M : am_M) (l : List am_C) : am_M := (M.1 + l.length, fun k => if k < M.1 then M.2 k else l[k - M.1]?)
section KK
variable {M : am_M} {l : List am_C} {c : am_C}
theorem K_at {j : Nat} : (am_K M l).2 (M.1 + j) = l[j]? := by
  show (if M.1 + j < M.1 then M.2 (M.1 + j) else l[M.1 + j - M.1]?) = _
  rw [if_neg (by omega), Nat.add_sub_cancel_left]
theorem K_lt {k : Nat} (h : k < M.1) : (am_K M l).2 k = M.2 k := if_pos h
theorem K_ge {k : Nat} (h : M.1 ≤ k) : (am_K M l).2 k = l[k - M.1]? := if_neg (by omega)
theorem K_nil (h : ∀ k, M.1 ≤ k → M.2 k = none) : am_K M [] = M := by
  refine Prod.ext rfl ?_
  funext k
  show (if k < M.1 then M.2 k else ([] : List am_C)[k - M.1]?) = M.2 k
  by_cases z : k < M.1
  · rw [if_pos z]
  · rw [if_neg z, h k (by omega)]; rfl
theorem K_K {l2 : List am_C} : am_K (am_K M l) l2 = am_K M (l ++ l2) := by
  refine Prod.ext ?_ ?_
  · show M.1 + l.length + l2.length = M.1 + (l ++ l2).length
    rw [List.length_append]; omega
  · funext k
    show (if k < M.1 + l.length then (if k < M.1 then M.2 k else l[k - M.1]?) else l2[k - (M.1 + l.length)]?) = (if k < M.1 then M.2 k else (l ++ l2)[k - M.1]?)
    by_cases z : k < M.1
    · rw [if_pos (by omega), if_pos z, if_pos z]
    · by_cases y : k < M.1 + l.length
      · rw [if_pos y, if_neg z, if_neg z, List.getElem?_append_left (by omega)]
      · rw [if_neg y, if_neg z, List.getElem?_append_right (by omega), show k - M.1 - l.length = k - (M.1 + l.length) by omega]
theorem mk_K (h : ∀ k, M.1 ≤ k → M.2 k = none) : am_mk M c = am_K M [c] := by
  refine Prod.ext rfl ?_
  funext k
  show am_up M.2 M.1 c k = (if k < M.1 then M.2 k else ([c] : List am_C)[k - M.1]?)
  by_cases z : k = M.1
  · subst z
    rw [am_up_same, if_neg (by omega), Nat.sub_self]
    rfl
  · rw [am_up_ne _ _ z]
    by_cases y : k < M.1
    · rw [if_pos y]
    · rw [if_neg y, h k (by omega), List.getElem?_eq_none (by show 1 ≤ _; omega)]
theorem K_o {k : Nat} (h : (am_K M l).1 ≤ k) : (am_K M l).2 k = none := by
  have h2 : M.1 + l.length ≤ k := h
  rw [K_ge (by omega), List.getElem?_eq_none (by omega)]
theorem K_mk : am_mk (am_K M l) c = am_K M (l ++ [c]) := by rw [mk_K (fun k hk => K_o hk), K_K]
theorem K_w {j : Nat} (h : j < l.length) : am_w (am_K M l) (M.1 + j) c = am_K M (l.set j c) := by
  refine Prod.ext ?_ ?_
  · show M.1 + l.length = M.1 + (l.set j c).length
    rw [List.length_set]
  · funext k
    show am_up (am_K M l).2 (M.1 + j) c k = (if k < M.1 then M.2 k else (l.set j c)[k - M.1]?)
    by_cases z : k = M.1 + j
    · subst z
      rw [am_up_same, if_neg (by omega), Nat.add_sub_cancel_left, List.getElem?_set_self h]
    · rw [am_up_ne _ _ z]
      by_cases y : k < M.1
      · rw [if_pos y, K_lt y]
      · rw [if_neg y, K_ge (by omega), List.getElem?_set_ne (by omega)]
def row36 : am_C := .inl (2, 36, .inr (.inl (fun _ => 0)))
theorem K_mg : am_mg (am_K M l) 5 36 = am_K M (l ++ [.inl (6, 5, .inr (.inr (.inr (.inr (fun i => if i < 5 then some (M.1 + l.length + 1 + i) else none))))), row36, row36, row36, row36, row36]) := by
  rw [← K_K]
  have e : (am_K M l).1 = M.1 + l.length := rfl
  generalize hN : am_K M l = N at *
  rw [← e]
  have ho : ∀ k, N.1 ≤ k → N.2 k = none := fun k hk => by rw [← hN] at hk ⊢; exact K_o hk
  refine Prod.ext rfl ?_
  funext k
  show (bif Nat.beq k N.1 then some (.inl (6, 5, .inr (.inr (.inr (.inr (fun i => if i < 5 then some (N.1 + 1 + i) else none)))))) else bif Nat.blt N.1 k && Nat.ble k (N.1 + 5) then some (.inl (2, 36, .inr (.inl (fun _ => 0)))) else N.2 k) = (if k < N.1 then N.2 k else _)
  by_cases z : k < N.1
  · have e1 : Nat.beq k N.1 = false := by
      cases hb : Nat.beq k N.1 with
      | false => rfl
      | true => exact absurd (Nat.eq_of_beq_eq_true hb) (by omega)
    have e2 : Nat.blt N.1 k = false := by
      cases hb : Nat.blt N.1 k with
      | false => rfl
      | true => exact absurd (Nat.le_of_ble_eq_true hb) (by omega)
    rw [if_pos z, e1, e2]
    rfl
  · rw [if_neg z]
    by_cases y : k = N.1
    · subst y
      rw [Nat.beq_refl, Nat.sub_self]
      rfl
    · have e1 : Nat.beq k N.1 = false := by
        cases hb : Nat.beq k N.1 with
        | false => rfl
        | true => exact absurd (Nat.eq_of_beq_eq_true hb) y
      have e2 : Nat.blt N.1 k = true := Nat.ble_eq_true_of_le (by omega)
      rw [e1, e2]
      by_cases x : k ≤ N.1 + 5
      · rw [Nat.ble_eq_true_of_le x]
        rcases (show k - N.1 = 1 ∨ k - N.1 = 2 ∨ k - N.1 = 3 ∨ k - N.1 = 4 ∨ k - N.1 = 5 by omega) with v | v | v | v | v <;> rw [v] <;> rfl
      · have e3 : Nat.ble k (N.1 + 5) = false := by
          cases hb : Nat.ble k (N.1 + 5) with
          | false => rfl
          | true => exact absurd (Nat.le_of_ble_eq_true hb) x
        rw [e3, ho k (by omega), List.getElem?_eq_none (by show 6 ≤ _; omega)]
        rfl
end KK
section KE
variable {E : am_E} {d : Nat} {τ : am_T} {P : Option Value → am_M → Prop} {pc bc bs q : Nat} {L : List (Option Value)} {r : List Value} {M : am_M} {l : List am_C} {c : am_C}
theorem ev_pf {idx ci k n : Nat} {fs : List Value} {v : Value} (ha : am_at τ pc = some (.putfield idx, 3)) (hf : am_fl τ.1 idx = some (ci, k)) (hM : M.2 q = some (.inr (ci, fs))) (hq : am_fk ci k = some n) (hfit : am_fit n v = true) (hk : Nat.blt k fs.length = true) (hfin : (!(am_fn ci k) || (τ.2.2.2.2.2.2.1 && Nat.beq τ.1 ci)) = true) (kk : am_ev E d τ (pc + 3, L, r, am_w M q (.inr (ci, fs.set k v)), bc, bs) P) : am_ev E d τ (pc, L, v :: .ref q :: r, M, bc, bs) P := by
  refine ev_s (ps := []) ?_ (fun q hq => by cases hq) kk
  unfold am_s
  simp only [ha]
  have e : Nat.beq 3 (am_len (.putfield idx) 3) = true := rfl
  rw [e]
  simp only [cond, am_ex, hf, hM, hq, Nat.beq_refl, hfit, hk, hfin, Bool.and_self, Bool.true_and]
theorem k_pf {idx ci k n j : Nat} {fs : List Value} {v : Value} (ha : am_at τ pc = some (.putfield idx, 3)) (hf : am_fl τ.1 idx = some (ci, k)) (hM : l[j]? = some (.inr (ci, fs))) (hq : am_fk ci k = some n) (hfit : am_fit n v = true) (hk : Nat.blt k fs.length = true) (hfin : (!(am_fn ci k) || (τ.2.2.2.2.2.2.1 && Nat.beq τ.1 ci)) = true) (kk : am_ev E d τ (pc + 3, L, r, am_K M (l.set j (.inr (ci, fs.set k v))), bc, bs) P) : am_ev E d τ (pc, L, v :: .ref (M.1 + j) :: r, am_K M l, bc, bs) P := by
  refine ev_pf ha hf (K_at.trans hM) hq hfit hk hfin ?_
  rw [K_w (List.getElem?_eq_some_iff.mp hM).1]
  exact kk
theorem k_na {ty : Jvm.ClassFile.ArrayType} {kd : Nat} {a0 : ((Nat → Int32) ⊕ (Nat → Int64) ⊕ (Nat → UInt32) ⊕ (Nat → UInt64) ⊕ (Nat → Option Nat))} {x : Int32} (n' : Nat) (ha : am_at τ pc = some (.newarray ty, 2)) (hk : am_ak ty = some (kd, a0)) (hx : x = nI n') (hn : n' ≤ 100000) (hb : 1 ≤ bc) (hs : n' ≤ bs) (hM : M.1 + l.length < am_X) (kk : am_ev E d τ (pc + 2, L, .ref (M.1 + l.length) :: r, am_K M (l ++ [.inl (kd, n', a0)]), bc - 1, bs - n') P) : am_ev E d τ (pc, L, .int x :: r, am_K M l, bc, bs) P := by
  have cn : x.toNatClampNeg = n' := by rw [hx]; exact nI_clamp (by omega)
  refine ev_s (ps := [¬ x < 0, x.toNatClampNeg ≤ 67108864, 1 ≤ bc, x.toNatClampNeg ≤ bs, (am_K M l).1 < am_X]) (k' := (pc + 2, L, .ref (am_K M l).1 :: r, am_mk (am_K M l) (.inl (kd, x.toNatClampNeg, a0)), bc - 1, bs - x.toNatClampNeg)) ?_ (am_all_mem (l := [¬ x < 0, x.toNatClampNeg ≤ 67108864, 1 ≤ bc, x.toNatClampNeg ≤ bs, (am_K M l).1 < am_X]) ⟨by rw [hx]; exact fun z => nI_nlt (a := n') (b := 0) (Nat.zero_le _) (by omega) z, by omega, hb, by omega, hM, trivial⟩) ?_
  · unfold am_s
    simp only [ha]
    have e : Nat.beq 2 (am_len (.newarray ty) 2) = true := rfl
    rw [e]
    simp only [cond, am_ex, hk]
  · rw [cn, K_mk]
    exact kk
theorem k_new {idx ci : Nat} (ha : am_at τ pc = some (.new idx, 3)) (hc : am_nc τ.1 idx = some ci) (hb : 1 ≤ bc) (hs : (am_Cn ci).2.2 ≤ bs) (hM : M.1 + l.length < am_X) (kk : am_ev E d τ (pc + 3, L, .ref (M.1 + l.length) :: r, am_K M (l ++ [.inr (ci, am_def ci)]), bc - 1, bs - (am_Cn ci).2.2) P) : am_ev E d τ (pc, L, r, am_K M l, bc, bs) P := by
  refine ev_s (ps := [1 ≤ bc, (am_Cn ci).2.2 ≤ bs, (am_K M l).1 < am_X]) (k' := (pc + 3, L, .ref (am_K M l).1 :: r, am_mk (am_K M l) (.inr (ci, am_def ci)), bc - 1, bs - (am_Cn ci).2.2)) ?_ (am_all_mem (l := [1 ≤ bc, (am_Cn ci).2.2 ≤ bs, (am_K M l).1 < am_X]) ⟨hb, hs, hM, trivial⟩) ?_
  · unfold am_s
    simp only [ha]
    have e : Nat.beq 3 (am_len (.new idx) 3) = true := rfl
    rw [e]
    simp only [cond, am_ex, hc]
  · rw [K_mk]
    exact kk
theorem k_ana {idx ci : Nat} {x : Int32} (n' : Nat) (ha : am_at τ pc = some (.anewarray idx, 3)) (hc : am_nc τ.1 idx = some ci) (h5 : Nat.ble (am_kd ci) 5 = true) (hx : x = nI n') (hn : n' ≤ 100000) (hb : 1 ≤ bc) (hs : n' ≤ bs) (hM : M.1 + l.length < am_X) (kk : am_ev E d τ (pc + 3, L, .ref (M.1 + l.length) :: r, am_K M (l ++ [.inl (am_kd ci, n', .inr (.inr (.inr (.inr (fun _ => none)))))]), bc - 1, bs - n') P) : am_ev E d τ (pc, L, .int x :: r, am_K M l, bc, bs) P := by
  have cn : x.toNatClampNeg = n' := by rw [hx]; exact nI_clamp (by omega)
  refine ev_s (ps := [¬ x < 0, x.toNatClampNeg ≤ 67108864, 1 ≤ bc, x.toNatClampNeg ≤ bs, (am_K M l).1 < am_X]) (k' := (pc + 3, L, .ref (am_K M l).1 :: r, am_mk (am_K M l) (.inl (am_kd ci, x.toNatClampNeg, .inr (.inr (.inr (.inr (fun _ => none)))))), bc - 1, bs - x.toNatClampNeg)) ?_ (am_all_mem (l := [¬ x < 0, x.toNatClampNeg ≤ 67108864, 1 ≤ bc, x.toNatClampNeg ≤ bs, (am_K M l).1 < am_X]) ⟨by rw [hx]; exact fun z => nI_nlt (a := n') (b := 0) (Nat.zero_le _) (by omega) z, by omega, hb, by omega, hM, trivial⟩) ?_
  · unfold am_s
    simp only [ha]
    have e : Nat.beq 3 (am_len (.anewarray idx) 3) = true := rfl
    rw [e]
    simp only [cond, am_ex, hc, h5]
  · rw [cn, K_mk]
    exact kk
theorem k_ctor {kd mc ms : Nat} {τ' : am_T} {as st : List Value} {cells : List am_C} (hi : am_inv τ (pc, L, st, am_K M (l ++ [c]), bc, bs) = some (kd, τ', as, r)) (hcs : am_cs r ≤ 8) (hkd : kd ≠ 0) (hD : am_D E d τ' as (am_K (am_K M l) [c]) mc ms none (am_K (am_K M l) cells)) (h1 : mc ≤ bc) (h2 : ms ≤ bs) (kk : am_ev E d τ (pc + 3, L, r, am_K M (l ++ cells), bc - mc, bs - ms) P) : am_ev E d τ (pc, L, st, am_K M (l ++ [c]), bc, bs) P := by
  rw [K_K, K_K] at hD
  exact ev_call hi hcs (fun z => absurd z hkd) hD h1 h2 kk
theorem k_gf {idx ci k j : Nat} {fs : List Value} {v : Value} (ha : am_at τ pc = some (.getfield idx, 3)) (hf : am_fl τ.1 idx = some (ci, k)) (hl : l[j]? = some (.inr (ci, fs))) (hv : fs[k]? = some v) (kk : am_ev E d τ (pc + 3, L, v :: r, am_K M l, bc, bs) P) : am_ev E d τ (pc, L, .ref (M.1 + j) :: r, am_K M l, bc, bs) P := ev_gf ha hf (K_at.trans hl) hv kk
theorem k_ias {n j : Nat} {f : Nat → Int32} {x y : Int32} (ha : am_at τ pc = some (.iastore, 1)) (hl : l[j]? = some (.inl (0, n, .inl f))) (hin : vp_in y n) (kk : am_ev E d τ (pc + 1, L, r, am_K M (l.set j (.inl (0, n, .inl (upd f y.toNatClampNeg x)))), bc, bs) P) : am_ev E d τ (pc, L, .int x :: .int y :: .ref (M.1 + j) :: r, am_K M l, bc, bs) P := by
  refine ev_s (ps := [vp_in y n]) (k' := (pc + 1, L, r, am_w (am_K M l) (M.1 + j) (.inl (0, n, .inl (upd f y.toNatClampNeg x))), bc, bs)) ?_ (am_all_mem (l := [vp_in y n]) ⟨hin, trivial⟩) ?_
  · unfold am_s
    simp only [ha]
    have e : Nat.beq 1 (am_len .iastore 1) = true := rfl
    rw [e]
    simp only [cond, am_ex, K_at.trans hl]
  · rw [K_w (List.getElem?_eq_some_iff.mp hl).1]
    exact kk
theorem k_mna {x y : Int32} (ha : am_at τ pc = some (.multianewarray 25 2, 4)) (h7 : τ.1 = 7) (hx : x = nI 36) (hy : y = nI 5) (hb : 6 ≤ bc) (hs : 185 ≤ bs) (hM : M.1 + l.length + 6 ≤ am_X) (kk : am_ev E d τ (pc + 4, L, .ref (M.1 + l.length) :: r, am_K M (l ++ [.inl (6, 5, .inr (.inr (.inr (.inr (fun i => if i < 5 then some (M.1 + l.length + 1 + i) else none))))), row36, row36, row36, row36, row36]), bc - 6, bs - 185) P) : am_ev E d τ (pc, L, .int x :: .int y :: r, am_K M l, bc, bs) P := by
  have c36 : x.toNatClampNeg = 36 := by rw [hx]; exact nI_clamp (by decide)
  have c5 : y.toNatClampNeg = 5 := by rw [hy]; exact nI_clamp (by decide)
  refine ev_s (ps := [¬ y < 0, ¬ x < 0, y.toNatClampNeg ≤ 1000, x.toNatClampNeg ≤ 1000, 1 + y.toNatClampNeg ≤ bc, y.toNatClampNeg + y.toNatClampNeg * x.toNatClampNeg ≤ bs, (am_K M l).1 + 1 + y.toNatClampNeg ≤ am_X]) (k' := (pc + 4, L, .ref (am_K M l).1 :: r, am_mg (am_K M l) y.toNatClampNeg x.toNatClampNeg, bc - (1 + y.toNatClampNeg), bs - (y.toNatClampNeg + y.toNatClampNeg * x.toNatClampNeg))) ?_ (am_all_mem (l := [¬ y < 0, ¬ x < 0, y.toNatClampNeg ≤ 1000, x.toNatClampNeg ≤ 1000, 1 + y.toNatClampNeg ≤ bc, y.toNatClampNeg + y.toNatClampNeg * x.toNatClampNeg ≤ bs, (am_K M l).1 + 1 + y.toNatClampNeg ≤ am_X]) ⟨by rw [hy]; exact fun z => nI_nlt (a := 5) (b := 0) (Nat.zero_le _) (by decide) z, by rw [hx]; exact fun z => nI_nlt (a := 36) (b := 0) (Nat.zero_le _) (by decide) z, by omega, by omega, by omega, by rw [c5, c36]; exact hs, by rw [c5]; exact (show M.1 + l.length + 1 + 5 ≤ am_X by omega), trivial⟩) ?_
  · unfold am_s
    simp only [ha]
    have e : Nat.beq 4 (am_len (.multianewarray 25 2) 4) = true := rfl
    rw [e, h7]
    rfl
  · rw [c5, c36, K_mg]
    exact kk
theorem ev_callb {kd mc ms : Nat} {τ' : am_T} {as st : List Value} {v : Option Value} {M' : am_M} (hi : am_inv τ (pc, L, st, M, bc, bs) = some (kd, τ', as, r)) (hcs : am_cs r ≤ 8) (hrc : am_rcv kd τ' as M) (hD : am_D E d τ' as M mc ms v M') (h1 : mc ≤ bc) (h2 : ms ≤ bs) (kk : am_ev E d τ (pc + 3, L, v.toList ++ r, M', bc - mc, bs - ms) P) : am_ev E d τ (pc, L, st, M, bc, bs) P := ev_call hi hcs hrc hD h1 h2 kk
end KE
section KC
variable {E : am_E} {d : Nat} {M : am_M}
theorem k_group {n : Int32} (hM : M.1 + 3 ≤ am_X) : am_D E (d + 1) tX0_init [.ref M.1, .int n] (am_K M [.inr (0, am_def 0)]) 2 15 none (am_K M [.inr (0, [.int n, .ref (M.1 + 1), .ref (M.1 + 2), .int 0, .int 0]), .inl (0, 8, .inl (fun _ => 0)), .inl (0, 7, .inl (fun _ => 0))]) := by
  refine am_D_of (Nat.le_of_ble_eq_true rfl) ?_
  refine ev_go 7 rfl ⟨Nat.le_of_ble_eq_true rfl, trivial⟩ ?_
  refine k_na 8 rfl rfl rfl (by decide) (Nat.le_of_ble_eq_true rfl) (Nat.le_of_ble_eq_true rfl) (by show M.1 + 1 < am_X; omega) ?_
  refine k_pf (j := 0) rfl rfl rfl rfl rfl rfl rfl ?_
  refine ev_go 15 rfl trivial ?_
  refine k_na 7 rfl rfl rfl (by decide) (Nat.le_of_ble_eq_true rfl) (Nat.le_of_ble_eq_true rfl) (by show M.1 + 2 < am_X; omega) ?_
  refine k_pf (j := 0) rfl rfl rfl rfl rfl rfl rfl ?_
  refine ev_go 22 rfl trivial ?_
  refine k_pf (j := 0) rfl rfl rfl rfl rfl rfl rfl ?_
  exact ev_ret rfl trivial ⟨rfl, rfl⟩
theorem k_marks (hM : M.1 + 4 ≤ am_X) : am_D E (d + 1) tX1_init [.ref M.1] (am_K M [.inr (1, am_def 1)]) 3 1200 none (am_K M [.inr (1, [.ref (M.1 + 1), .ref (M.1 + 2), .ref (M.1 + 3), .int 0]), .inl (0, 400, .inl (fun _ => 0)), .inl (0, 400, .inl (fun _ => 0)), .inl (0, 400, .inl (fun _ => 0))]) := by
  refine am_D_of (Nat.le_of_ble_eq_true rfl) ?_
  refine ev_go 8 rfl ⟨Nat.le_of_ble_eq_true rfl, trivial⟩ ?_
  refine k_na 400 rfl rfl rfl (by decide) (Nat.le_of_ble_eq_true rfl) (Nat.le_of_ble_eq_true rfl) (by show M.1 + 1 < am_X; omega) ?_
  refine k_pf (j := 0) rfl rfl rfl rfl rfl rfl rfl ?_
  refine ev_go 17 rfl trivial ?_
  refine k_na 400 rfl rfl rfl (by decide) (Nat.le_of_ble_eq_true rfl) (Nat.le_of_ble_eq_true rfl) (by show M.1 + 2 < am_X; omega) ?_
  refine k_pf (j := 0) rfl rfl rfl rfl rfl rfl rfl ?_
  refine ev_go 26 rfl trivial ?_
  refine k_na 400 rfl rfl rfl (by decide) (Nat.le_of_ble_eq_true rfl) (Nat.le_of_ble_eq_true rfl) (by show M.1 + 3 < am_X; omega) ?_
  refine k_pf (j := 0) rfl rfl rfl rfl rfl rfl rfl ?_
  refine ev_go 31 rfl trivial ?_
  exact ev_ret rfl trivial ⟨rfl, rfl⟩
theorem k_rates (hM : M.1 + 4 ≤ am_X) : am_D E (d + 1) tX2_init [.ref M.1] (am_K M [.inr (2, am_def 2)]) 3 180 none (am_K M [.inr (2, [.ref (M.1 + 1), .ref (M.1 + 2), .ref (M.1 + 3), .int 0]), .inl (0, 60, .inl (fun _ => 0)), .inl (0, 60, .inl (fun _ => 0)), .inl (0, 60, .inl (fun _ => 0))]) := by
  refine am_D_of (Nat.le_of_ble_eq_true rfl) ?_
  refine ev_go 7 rfl ⟨Nat.le_of_ble_eq_true rfl, trivial⟩ ?_
  refine k_na 60 rfl rfl rfl (by decide) (Nat.le_of_ble_eq_true rfl) (Nat.le_of_ble_eq_true rfl) (by show M.1 + 1 < am_X; omega) ?_
  refine k_pf (j := 0) rfl rfl rfl rfl rfl rfl rfl ?_
  refine ev_go 15 rfl trivial ?_
  refine k_na 60 rfl rfl rfl (by decide) (Nat.le_of_ble_eq_true rfl) (Nat.le_of_ble_eq_true rfl) (by show M.1 + 2 < am_X; omega) ?_
  refine k_pf (j := 0) rfl rfl rfl rfl rfl rfl rfl ?_
  refine ev_go 23 rfl trivial ?_
  refine k_na 60 rfl rfl rfl (by decide) (Nat.le_of_ble_eq_true rfl) (Nat.le_of_ble_eq_true rfl) (by show M.1 + 3 < am_X; omega) ?_
  refine k_pf (j := 0) rfl rfl rfl rfl rfl rfl rfl ?_
  refine ev_go 28 rfl trivial ?_
  exact ev_ret rfl trivial ⟨rfl, rfl⟩
theorem k_sheet (hM : M.1 + 4 ≤ am_X) : am_D E (d + 1) tX4_init [.ref M.1] (am_K M [.inr (4, am_def 4)]) 3 2415 none (am_K M [.inr (4, [.ref (M.1 + 1), .ref (M.1 + 2), .ref (M.1 + 3), .int 0]), .inl (0, 805, .inl (fun _ => 0)), .inl (0, 805, .inl (fun _ => 0)), .inl (0, 805, .inl (fun _ => 0))]) := by
  refine am_D_of (Nat.le_of_ble_eq_true rfl) ?_
  refine ev_go 8 rfl ⟨Nat.le_of_ble_eq_true rfl, trivial⟩ ?_
  refine k_na 805 rfl rfl rfl (by decide) (Nat.le_of_ble_eq_true rfl) (Nat.le_of_ble_eq_true rfl) (by show M.1 + 1 < am_X; omega) ?_
  refine k_pf (j := 0) rfl rfl rfl rfl rfl rfl rfl ?_
  refine ev_go 17 rfl trivial ?_
  refine k_na 805 rfl rfl rfl (by decide) (Nat.le_of_ble_eq_true rfl) (Nat.le_of_ble_eq_true rfl) (by show M.1 + 2 < am_X; omega) ?_
  refine k_pf (j := 0) rfl rfl rfl rfl rfl rfl rfl ?_
  refine ev_go 26 rfl trivial ?_
  refine k_na 805 rfl rfl rfl (by decide) (Nat.le_of_ble_eq_true rfl) (Nat.le_of_ble_eq_true rfl) (by show M.1 + 3 < am_X; omega) ?_
  refine k_pf (j := 0) rfl rfl rfl rfl rfl rfl rfl ?_
  refine ev_go 31 rfl trivial ?_
  exact ev_ret rfl trivial ⟨rfl, rfl⟩
theorem k_surch (hM : M.1 + 6 ≤ am_X) : am_D E (d + 1) tX5_init [.ref M.1] (am_K M [.inr (5, am_def 5)]) 5 60 none (am_K M [.inr (5, [.ref (M.1 + 1), .ref (M.1 + 2), .ref (M.1 + 3), .ref (M.1 + 4), .ref (M.1 + 5), .int 0]), .inl (0, 12, .inl (fun _ => 0)), .inl (0, 12, .inl (fun _ => 0)), .inl (0, 12, .inl (fun _ => 0)), .inl (0, 12, .inl (fun _ => 0)), .inl (0, 12, .inl (fun _ => 0))]) := by
  refine am_D_of (Nat.le_of_ble_eq_true rfl) ?_
  refine ev_go 7 rfl ⟨Nat.le_of_ble_eq_true rfl, trivial⟩ ?_
  refine k_na 12 rfl rfl rfl (by decide) (Nat.le_of_ble_eq_true rfl) (Nat.le_of_ble_eq_true rfl) (by show M.1 + 1 < am_X; omega) ?_
  refine k_pf (j := 0) rfl rfl rfl rfl rfl rfl rfl ?_
  refine ev_go 15 rfl trivial ?_
  refine k_na 12 rfl rfl rfl (by decide) (Nat.le_of_ble_eq_true rfl) (Nat.le_of_ble_eq_true rfl) (by show M.1 + 2 < am_X; omega) ?_
  refine k_pf (j := 0) rfl rfl rfl rfl rfl rfl rfl ?_
  refine ev_go 23 rfl trivial ?_
  refine k_na 12 rfl rfl rfl (by decide) (Nat.le_of_ble_eq_true rfl) (Nat.le_of_ble_eq_true rfl) (by show M.1 + 3 < am_X; omega) ?_
  refine k_pf (j := 0) rfl rfl rfl rfl rfl rfl rfl ?_
  refine ev_go 31 rfl trivial ?_
  refine k_na 12 rfl rfl rfl (by decide) (Nat.le_of_ble_eq_true rfl) (Nat.le_of_ble_eq_true rfl) (by show M.1 + 4 < am_X; omega) ?_
  refine k_pf (j := 0) rfl rfl rfl rfl rfl rfl rfl ?_
  refine ev_go 39 rfl trivial ?_
  refine k_na 12 rfl rfl rfl (by decide) (Nat.le_of_ble_eq_true rfl) (Nat.le_of_ble_eq_true rfl) (by show M.1 + 5 < am_X; omega) ?_
  refine k_pf (j := 0) rfl rfl rfl rfl rfl rfl rfl ?_
  refine ev_go 44 rfl trivial ?_
  exact ev_ret rfl trivial ⟨rfl, rfl⟩
theorem k_rules (hM : M.1 + 3 ≤ am_X) : am_D E (d + 1) tX3_init [.ref M.1] (am_K M [.inr (3, am_def 3)]) 2 10 none (am_K M [.inr (3, [.ref (M.1 + 1), .ref (M.1 + 2)]), .inl (0, 5, .inl (upd (fun _ => 0) 0 1)), .inl (0, 5, .inl (fun _ => 0))]) := by
  refine am_D_of (Nat.le_of_ble_eq_true rfl) ?_
  refine ev_go 6 rfl ⟨Nat.le_of_ble_eq_true rfl, trivial⟩ ?_
  refine k_na 5 rfl rfl rfl (by decide) (Nat.le_of_ble_eq_true rfl) (Nat.le_of_ble_eq_true rfl) (by show M.1 + 1 < am_X; omega) ?_
  refine k_pf (j := 0) rfl rfl rfl rfl rfl rfl rfl ?_
  refine ev_go 13 rfl trivial ?_
  refine k_na 5 rfl rfl rfl (by decide) (Nat.le_of_ble_eq_true rfl) (Nat.le_of_ble_eq_true rfl) (by show M.1 + 2 < am_X; omega) ?_
  refine k_pf (j := 0) rfl rfl rfl rfl rfl rfl rfl ?_
  refine ev_go 19 rfl trivial ?_
  refine k_gf (j := 0) rfl rfl rfl rfl ?_
  refine ev_go 24 rfl trivial ?_
  refine k_ias (j := 1) rfl rfl (vp_in_nI (n := 0) (N := 5) (by decide) (by decide)) ?_
  exact ev_ret rfl trivial ⟨rfl, rfl⟩
theorem k_tally : am_D E (d + 1) tX6_init [.ref M.1] (am_K M [.inr (6, am_def 6)]) 0 0 none (am_K M [.inr (6, [.long 0, .long 0])]) := by
  refine am_D_of (Nat.le_of_ble_eq_true rfl) ?_
  refine ev_go 4 rfl ⟨Nat.le_of_ble_eq_true rfl, trivial⟩ ?_
  exact ev_ret rfl trivial ⟨rfl, rfl⟩
theorem k_worker {g : Nat} {f : Int32} (hM : M.1 + 13 ≤ am_X) : am_D E (d + 2) tX7_init [.ref M.1, .ref g, .int f] (am_K M [.inr (7, am_def 7)]) 12 1429 none (am_K M [.inr (7, [.ref g, .int f, .ref (M.1 + 1), .ref (M.1 + 5), .ref (M.1 + 6), .int 0, .ref (M.1 + 7)]), .inr (1, [.ref (M.1 + 2), .ref (M.1 + 3), .ref (M.1 + 4), .int 0]), .inl (0, 400, .inl (fun _ => 0)), .inl (0, 400, .inl (fun _ => 0)), .inl (0, 400, .inl (fun _ => 0)), .inl (0, 20, .inl (fun _ => 0)), .inl (0, 20, .inl (fun _ => 0)), .inl (6, 5, .inr (.inr (.inr (.inr (sfn M.1))))), row36, row36, row36, row36, row36]) := by
  refine am_D_of (Nat.le_of_ble_eq_true rfl) ?_
  refine ev_go 5 rfl ⟨Nat.le_of_ble_eq_true rfl, trivial⟩ ?_
  refine k_new rfl rfl (Nat.le_of_ble_eq_true rfl) (Nat.le_of_ble_eq_true rfl) (by show M.1 + 1 < am_X; omega) ?_
  refine ev_go 9 rfl trivial ?_
  refine k_ctor rfl (Nat.le_of_ble_eq_true rfl) (by decide) (k_marks (M := am_K M [.inr (7, am_def 7)]) (by show M.1 + 1 + 4 ≤ am_X; omega)) (Nat.le_of_ble_eq_true rfl) (Nat.le_of_ble_eq_true rfl) ?_
  refine k_pf (j := 0) rfl rfl rfl rfl rfl rfl rfl ?_
  refine ev_go 18 rfl trivial ?_
  refine k_na 20 rfl rfl rfl (by decide) (Nat.le_of_ble_eq_true rfl) (Nat.le_of_ble_eq_true rfl) (by show M.1 + 5 < am_X; omega) ?_
  refine k_pf (j := 0) rfl rfl rfl rfl rfl rfl rfl ?_
  refine ev_go 26 rfl trivial ?_
  refine k_na 20 rfl rfl rfl (by decide) (Nat.le_of_ble_eq_true rfl) (Nat.le_of_ble_eq_true rfl) (by show M.1 + 6 < am_X; omega) ?_
  refine k_pf (j := 0) rfl rfl rfl rfl rfl rfl rfl ?_
  refine ev_go 35 rfl trivial ?_
  refine k_mna rfl rfl rfl rfl (Nat.le_of_ble_eq_true rfl) (Nat.le_of_ble_eq_true rfl) (by show M.1 + 7 + 6 ≤ am_X; omega) ?_
  refine k_pf (j := 0) rfl rfl rfl rfl rfl rfl rfl ?_
  refine ev_go 44 rfl trivial ?_
  refine k_pf (j := 0) rfl rfl rfl rfl rfl rfl rfl ?_
  refine ev_go 49 rfl trivial ?_
  refine k_pf (j := 0) rfl rfl rfl rfl rfl rfl rfl ?_
  exact ev_ret rfl trivial ⟨rfl, rfl⟩
end KC
