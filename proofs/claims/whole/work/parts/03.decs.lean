/-- the words of the tables that every method keeps -/
def am_ws : List Cond := lw_tbl.filter goodWord
theorem am_ws_in : ∀ w ∈ am_ws, w ∈ lw_tbl := fun _ h => (List.mem_filter.mp h).1
theorem am_ws_good : ∀ w ∈ am_ws, goodWord w = true := fun _ h => (List.mem_filter.mp h).2
theorem am_mem {w : Cond} (i : Nat) (h : lw_tbl[i]? = some w) (hg : goodWord w = true) : w ∈ am_ws := List.mem_filter.mpr ⟨List.mem_of_getElem? h, hg⟩
def am_ok (τ : am_T) : Prop := am_dec τ = true ∧ Cond.code τ.2.1 τ.2.2.1 τ.2.2.2.1 τ.2.2.2.2.1 ∈ am_ws ∧ plainName τ.2.1.cls = true ∧ τ.2.1.cls = am_R τ.1 ∧ (τ.2.2.2.2.2.2.1 = true → τ.2.1.name = "<init>") ∧ (parseMethodDescriptor τ.2.1.desc).map (fun d => d.parameters.length) = some τ.2.2.2.2.2.1 ∧ τ.2.2.2.1 ≤ 40 ∧ (τ.2.1.cls ≠ "java/lang/invoke/MethodHandle" ∧ τ.2.1.cls ≠ "java/lang/invoke/VarHandle")
set_option maxRecDepth 100000 in
theorem tX8_init_d : am_dec tX8_init = true := by decide +kernel
set_option maxRecDepth 100000 in
theorem tX8_init_k : am_ok tX8_init := ⟨tX8_init_d, am_mem 53 (by decide +kernel) rfl, by decide +kernel, rfl, by decide +kernel, by decide +kernel, by decide, by decide +kernel, by decide +kernel⟩
set_option maxRecDepth 100000 in
theorem tX2_init_d : am_dec tX2_init = true := by decide +kernel
set_option maxRecDepth 100000 in
theorem tX2_init_k : am_ok tX2_init := ⟨tX2_init_d, am_mem 65 (by decide +kernel) rfl, by decide +kernel, rfl, by decide +kernel, by decide +kernel, by decide, by decide +kernel, by decide +kernel⟩
set_option maxRecDepth 100000 in
theorem tX5_init_d : am_dec tX5_init = true := by decide +kernel
set_option maxRecDepth 100000 in
theorem tX5_init_k : am_ok tX5_init := ⟨tX5_init_d, am_mem 87 (by decide +kernel) rfl, by decide +kernel, rfl, by decide +kernel, by decide +kernel, by decide, by decide +kernel, by decide +kernel⟩
set_option maxRecDepth 100000 in
theorem tX4_init_d : am_dec tX4_init = true := by decide +kernel
set_option maxRecDepth 100000 in
theorem tX4_init_k : am_ok tX4_init := ⟨tX4_init_d, am_mem 115 (by decide +kernel) rfl, by decide +kernel, rfl, by decide +kernel, by decide +kernel, by decide, by decide +kernel, by decide +kernel⟩
set_option maxRecDepth 100000 in
theorem tX6_init_d : am_dec tX6_init = true := by decide +kernel
set_option maxRecDepth 100000 in
theorem tX6_init_k : am_ok tX6_init := ⟨tX6_init_d, am_mem 138 (by decide +kernel) rfl, by decide +kernel, rfl, by decide +kernel, by decide +kernel, by decide, by decide +kernel, by decide +kernel⟩
set_option maxRecDepth 100000 in
theorem tX0_init_d : am_dec tX0_init = true := by decide +kernel
set_option maxRecDepth 100000 in
theorem tX0_init_k : am_ok tX0_init := ⟨tX0_init_d, am_mem 150 (by decide +kernel) rfl, by decide +kernel, rfl, by decide +kernel, by decide +kernel, by decide, by decide +kernel, by decide +kernel⟩
set_option maxRecDepth 100000 in
theorem tX3_init_d : am_dec tX3_init = true := by decide +kernel
set_option maxRecDepth 100000 in
theorem tX3_init_k : am_ok tX3_init := ⟨tX3_init_d, am_mem 174 (by decide +kernel) rfl, by decide +kernel, rfl, by decide +kernel, by decide +kernel, by decide, by decide +kernel, by decide +kernel⟩
set_option maxRecDepth 100000 in
theorem tX9_init_d0 : am_decR cX9_init tX9_init_r0 = true := by decide +kernel
set_option maxRecDepth 100000 in
theorem tX9_init_d1 : am_decR cX9_init tX9_init_r1 = true := by decide +kernel
set_option maxRecDepth 100000 in
theorem tX9_init_d2 : am_decR cX9_init tX9_init_r2 = true := by decide +kernel
set_option maxRecDepth 100000 in
theorem tX9_init_d3 : am_decR cX9_init tX9_init_r3 = true := by decide +kernel
set_option maxRecDepth 100000 in
theorem tX9_init_d4 : am_decR cX9_init tX9_init_r4 = true := by decide +kernel
set_option maxRecDepth 100000 in
theorem tX9_init_d5 : am_decR cX9_init tX9_init_r5 = true := by decide +kernel
set_option maxRecDepth 100000 in
theorem tX9_init_d6 : am_decR cX9_init tX9_init_r6 = true := by decide +kernel
set_option maxRecDepth 100000 in
theorem tX9_init_d7 : am_decR cX9_init tX9_init_r7 = true := by decide +kernel
set_option maxRecDepth 100000 in
theorem tX9_init_d8 : am_decR cX9_init tX9_init_r8 = true := by decide +kernel
set_option maxRecDepth 100000 in
theorem tX9_init_d9 : am_decR cX9_init tX9_init_r9 = true := by decide +kernel
set_option maxRecDepth 100000 in
theorem tX9_init_d10 : am_decR cX9_init tX9_init_r10 = true := by decide +kernel
theorem tX9_init_d : am_dec tX9_init = true := am_decC tX9_init_d0 (am_decC tX9_init_d1 (am_decC tX9_init_d2 (am_decC tX9_init_d3 (am_decC tX9_init_d4 (am_decC tX9_init_d5 (am_decC tX9_init_d6 (am_decC tX9_init_d7 (am_decC tX9_init_d8 (am_decC tX9_init_d9 (am_decC tX9_init_d10 (rfl)))))))))))
set_option maxRecDepth 100000 in
theorem tX9_init_k : am_ok tX9_init := ⟨tX9_init_d, am_mem 660 (by decide +kernel) rfl, by decide +kernel, rfl, by decide +kernel, by decide +kernel, by decide, by decide +kernel, by decide +kernel⟩
set_option maxRecDepth 100000 in
theorem tX8_worker_d : am_dec tX8_worker = true := by decide +kernel
set_option maxRecDepth 100000 in
theorem tX8_worker_k : am_ok tX8_worker := ⟨tX8_worker_d, am_mem 227 (by decide +kernel) rfl, by decide +kernel, rfl, by decide +kernel, by decide +kernel, by decide, by decide +kernel, by decide +kernel⟩
set_option maxRecDepth 100000 in
theorem tX8_findGroup_d : am_dec tX8_findGroup = true := by decide +kernel
set_option maxRecDepth 100000 in
theorem tX8_findGroup_k : am_ok tX8_findGroup := ⟨tX8_findGroup_d, am_mem 231 (by decide +kernel) rfl, by decide +kernel, rfl, by decide +kernel, by decide +kernel, by decide, by decide +kernel, by decide +kernel⟩
set_option maxRecDepth 100000 in
theorem tX8_isWithin_d : am_dec tX8_isWithin = true := by decide +kernel
set_option maxRecDepth 100000 in
theorem tX8_isWithin_k : am_ok tX8_isWithin := ⟨tX8_isWithin_d, am_mem 234 (by decide +kernel) rfl, by decide +kernel, rfl, by decide +kernel, by decide +kernel, by decide, by decide +kernel, by decide +kernel⟩
set_option maxRecDepth 100000 in
theorem tX8_isDay_d : am_dec tX8_isDay = true := by decide +kernel
set_option maxRecDepth 100000 in
theorem tX8_isDay_k : am_ok tX8_isDay := ⟨tX8_isDay_d, am_mem 237 (by decide +kernel) rfl, by decide +kernel, rfl, by decide +kernel, by decide +kernel, by decide, by decide +kernel, by decide +kernel⟩
set_option maxRecDepth 100000 in
theorem tX7_init_d : am_dec tX7_init = true := by decide +kernel
set_option maxRecDepth 100000 in
theorem tX7_init_k : am_ok tX7_init := ⟨tX7_init_d, am_mem 241 (by decide +kernel) rfl, by decide +kernel, rfl, by decide +kernel, by decide +kernel, by decide, by decide +kernel, by decide +kernel⟩
set_option maxRecDepth 100000 in
theorem tX1_init_d : am_dec tX1_init = true := by decide +kernel
set_option maxRecDepth 100000 in
theorem tX1_init_k : am_ok tX1_init := ⟨tX1_init_d, am_mem 247 (by decide +kernel) rfl, by decide +kernel, rfl, by decide +kernel, by decide +kernel, by decide, by decide +kernel, by decide +kernel⟩
set_option maxRecDepth 100000 in
theorem tX9_worker_d : am_dec tX9_worker = true := by decide +kernel
set_option maxRecDepth 100000 in
theorem tX9_worker_k : am_ok tX9_worker := ⟨tX9_worker_d, am_mem 832 (by decide +kernel) rfl, by decide +kernel, rfl, by decide +kernel, by decide +kernel, by decide, by decide +kernel, by decide +kernel⟩
set_option maxRecDepth 100000 in
theorem tX9_isGroup_d : am_dec tX9_isGroup = true := by decide +kernel
set_option maxRecDepth 100000 in
theorem tX9_isGroup_k : am_ok tX9_isGroup := ⟨tX9_isGroup_d, am_mem 655 (by decide +kernel) rfl, by decide +kernel, rfl, by decide +kernel, by decide +kernel, by decide, by decide +kernel, by decide +kernel⟩
set_option maxRecDepth 100000 in
theorem tX9_in_d : am_dec tX9_in = true := by decide +kernel
set_option maxRecDepth 100000 in
theorem tX9_in_k : am_ok tX9_in := ⟨tX9_in_d, am_mem 648 (by decide +kernel) rfl, by decide +kernel, rfl, by decide +kernel, by decide +kernel, by decide, by decide +kernel, by decide +kernel⟩
set_option maxRecDepth 100000 in
theorem tX9_isDay_d : am_dec tX9_isDay = true := by decide +kernel
set_option maxRecDepth 100000 in
theorem tX9_isDay_k : am_ok tX9_isDay := ⟨tX9_isDay_d, am_mem 645 (by decide +kernel) rfl, by decide +kernel, rfl, by decide +kernel, by decide +kernel, by decide, by decide +kernel, by decide +kernel⟩
set_option maxRecDepth 100000 in
theorem tX8_feast_d : am_dec tX8_feast = true := by decide +kernel
set_option maxRecDepth 100000 in
theorem tX8_feast_k : am_ok tX8_feast := ⟨tX8_feast_d, am_mem 302 (by decide +kernel) rfl, by decide +kernel, rfl, by decide +kernel, by decide +kernel, by decide, by decide +kernel, by decide +kernel⟩
set_option maxRecDepth 100000 in
theorem tX9_feast_d : am_dec tX9_feast = true := by decide +kernel
set_option maxRecDepth 100000 in
theorem tX9_feast_k : am_ok tX9_feast := ⟨tX9_feast_d, am_mem 642 (by decide +kernel) rfl, by decide +kernel, rfl, by decide +kernel, by decide +kernel, by decide, by decide +kernel, by decide +kernel⟩
set_option maxRecDepth 100000 in
theorem tX8_kind_d : am_dec tX8_kind = true := by decide +kernel
set_option maxRecDepth 100000 in
theorem tX8_kind_k : am_ok tX8_kind := ⟨tX8_kind_d, am_mem 306 (by decide +kernel) rfl, by decide +kernel, rfl, by decide +kernel, by decide +kernel, by decide, by decide +kernel, by decide +kernel⟩
set_option maxRecDepth 100000 in
theorem tX9_kind_d : am_dec tX9_kind = true := by decide +kernel
set_option maxRecDepth 100000 in
theorem tX9_kind_k : am_ok tX9_kind := ⟨tX9_kind_d, am_mem 652 (by decide +kernel) rfl, by decide +kernel, rfl, by decide +kernel, by decide +kernel, by decide, by decide +kernel, by decide +kernel⟩
set_option maxRecDepth 100000 in
theorem tX8_rule_d : am_dec tX8_rule = true := by decide +kernel
set_option maxRecDepth 100000 in
theorem tX8_rule_k : am_ok tX8_rule := ⟨tX8_rule_d, am_mem 310 (by decide +kernel) rfl, by decide +kernel, rfl, by decide +kernel, by decide +kernel, by decide, by decide +kernel, by decide +kernel⟩
set_option maxRecDepth 100000 in
theorem tX8_findRules_d : am_dec tX8_findRules = true := by decide +kernel
set_option maxRecDepth 100000 in
theorem tX8_findRules_k : am_ok tX8_findRules := ⟨tX8_findRules_d, am_mem 314 (by decide +kernel) rfl, by decide +kernel, rfl, by decide +kernel, by decide +kernel, by decide, by decide +kernel, by decide +kernel⟩
set_option maxRecDepth 100000 in
theorem tX8_isRoundStep_d : am_dec tX8_isRoundStep = true := by decide +kernel
set_option maxRecDepth 100000 in
theorem tX8_isRoundStep_k : am_ok tX8_isRoundStep := ⟨tX8_isRoundStep_d, am_mem 321 (by decide +kernel) rfl, by decide +kernel, rfl, by decide +kernel, by decide +kernel, by decide, by decide +kernel, by decide +kernel⟩
set_option maxRecDepth 100000 in
theorem tX9_rule_d : am_dec tX9_rule = true := by decide +kernel
set_option maxRecDepth 100000 in
theorem tX9_rule_k : am_ok tX9_rule := ⟨tX9_rule_d, am_mem 806 (by decide +kernel) rfl, by decide +kernel, rfl, by decide +kernel, by decide +kernel, by decide, by decide +kernel, by decide +kernel⟩
set_option maxRecDepth 100000 in
theorem tX8_rate_d : am_dec tX8_rate = true := by decide +kernel
set_option maxRecDepth 100000 in
theorem tX8_rate_k : am_ok tX8_rate := ⟨tX8_rate_d, am_mem 325 (by decide +kernel) rfl, by decide +kernel, rfl, by decide +kernel, by decide +kernel, by decide, by decide +kernel, by decide +kernel⟩
set_option maxRecDepth 100000 in
theorem tX2_add_d : am_dec tX2_add = true := by decide +kernel
set_option maxRecDepth 100000 in
theorem tX2_add_k : am_ok tX2_add := ⟨tX2_add_d, am_mem 330 (by decide +kernel) rfl, by decide +kernel, rfl, by decide +kernel, by decide +kernel, by decide, by decide +kernel, by decide +kernel⟩
set_option maxRecDepth 100000 in
theorem tX9_rate_d : am_dec tX9_rate = true := by decide +kernel
set_option maxRecDepth 100000 in
theorem tX9_rate_k : am_ok tX9_rate := ⟨tX9_rate_d, am_mem 810 (by decide +kernel) rfl, by decide +kernel, rfl, by decide +kernel, by decide +kernel, by decide, by decide +kernel, by decide +kernel⟩
set_option maxRecDepth 100000 in
theorem tX8_surcharge_d : am_dec tX8_surcharge = true := by decide +kernel
set_option maxRecDepth 100000 in
theorem tX8_surcharge_k : am_ok tX8_surcharge := ⟨tX8_surcharge_d, am_mem 334 (by decide +kernel) rfl, by decide +kernel, rfl, by decide +kernel, by decide +kernel, by decide, by decide +kernel, by decide +kernel⟩
set_option maxRecDepth 100000 in
theorem tX8_isMinuteOfDay_d : am_dec tX8_isMinuteOfDay = true := by decide +kernel
set_option maxRecDepth 100000 in
theorem tX8_isMinuteOfDay_k : am_ok tX8_isMinuteOfDay := ⟨tX8_isMinuteOfDay_d, am_mem 337 (by decide +kernel) rfl, by decide +kernel, rfl, by decide +kernel, by decide +kernel, by decide, by decide +kernel, by decide +kernel⟩
set_option maxRecDepth 100000 in
theorem tX5_add_d : am_dec tX5_add = true := by decide +kernel
set_option maxRecDepth 100000 in
theorem tX5_add_k : am_ok tX5_add := ⟨tX5_add_d, am_mem 341 (by decide +kernel) rfl, by decide +kernel, rfl, by decide +kernel, by decide +kernel, by decide, by decide +kernel, by decide +kernel⟩
set_option maxRecDepth 100000 in
theorem tX9_surcharge_d : am_dec tX9_surcharge = true := by decide +kernel
set_option maxRecDepth 100000 in
theorem tX9_surcharge_k : am_ok tX9_surcharge := ⟨tX9_surcharge_d, am_mem 815 (by decide +kernel) rfl, by decide +kernel, rfl, by decide +kernel, by decide +kernel, by decide, by decide +kernel, by decide +kernel⟩
set_option maxRecDepth 100000 in
theorem tX8_exclude_d : am_dec tX8_exclude = true := by decide +kernel
set_option maxRecDepth 100000 in
theorem tX8_exclude_k : am_ok tX8_exclude := ⟨tX8_exclude_d, am_mem 345 (by decide +kernel) rfl, by decide +kernel, rfl, by decide +kernel, by decide +kernel, by decide, by decide +kernel, by decide +kernel⟩
set_option maxRecDepth 100000 in
theorem tX5_has_d : am_dec tX5_has = true := by decide +kernel
set_option maxRecDepth 100000 in
theorem tX5_has_k : am_ok tX5_has := ⟨tX5_has_d, am_mem 349 (by decide +kernel) rfl, by decide +kernel, rfl, by decide +kernel, by decide +kernel, by decide, by decide +kernel, by decide +kernel⟩
set_option maxRecDepth 100000 in
theorem tX5_setApart_d : am_dec tX5_setApart = true := by decide +kernel
set_option maxRecDepth 100000 in
theorem tX5_setApart_k : am_ok tX5_setApart := ⟨tX5_setApart_d, am_mem 353 (by decide +kernel) rfl, by decide +kernel, rfl, by decide +kernel, by decide +kernel, by decide, by decide +kernel, by decide +kernel⟩
set_option maxRecDepth 100000 in
theorem tX9_exclude_d : am_dec tX9_exclude = true := by decide +kernel
set_option maxRecDepth 100000 in
theorem tX9_exclude_k : am_ok tX9_exclude := ⟨tX9_exclude_d, am_mem 819 (by decide +kernel) rfl, by decide +kernel, rfl, by decide +kernel, by decide +kernel, by decide, by decide +kernel, by decide +kernel⟩
set_option maxRecDepth 100000 in
theorem tX8_target_d : am_dec tX8_target = true := by decide +kernel
set_option maxRecDepth 100000 in
theorem tX8_target_k : am_ok tX8_target := ⟨tX8_target_d, am_mem 357 (by decide +kernel) rfl, by decide +kernel, rfl, by decide +kernel, by decide +kernel, by decide, by decide +kernel, by decide +kernel⟩
set_option maxRecDepth 100000 in
theorem tX9_target_d : am_dec tX9_target = true := by decide +kernel
set_option maxRecDepth 100000 in
theorem tX9_target_k : am_ok tX9_target := ⟨tX9_target_d, am_mem 823 (by decide +kernel) rfl, by decide +kernel, rfl, by decide +kernel, by decide +kernel, by decide, by decide +kernel, by decide +kernel⟩
set_option maxRecDepth 100000 in
theorem tX8_limits_d : am_dec tX8_limits = true := by decide +kernel
set_option maxRecDepth 100000 in
theorem tX8_limits_k : am_ok tX8_limits := ⟨tX8_limits_d, am_mem 361 (by decide +kernel) rfl, by decide +kernel, rfl, by decide +kernel, by decide +kernel, by decide, by decide +kernel, by decide +kernel⟩
set_option maxRecDepth 100000 in
theorem tX9_limits_d : am_dec tX9_limits = true := by decide +kernel
set_option maxRecDepth 100000 in
theorem tX9_limits_k : am_ok tX9_limits := ⟨tX9_limits_d, am_mem 827 (by decide +kernel) rfl, by decide +kernel, rfl, by decide +kernel, by decide +kernel, by decide, by decide +kernel, by decide +kernel⟩
set_option maxRecDepth 100000 in
theorem tX8_absent_d : am_dec tX8_absent = true := by decide +kernel
set_option maxRecDepth 100000 in
theorem tX8_absent_k : am_ok tX8_absent := ⟨tX8_absent_d, am_mem 366 (by decide +kernel) rfl, by decide +kernel, rfl, by decide +kernel, by decide +kernel, by decide, by decide +kernel, by decide +kernel⟩
set_option maxRecDepth 100000 in
theorem tX8_findWorker_d : am_dec tX8_findWorker = true := by decide +kernel
set_option maxRecDepth 100000 in
theorem tX8_findWorker_k : am_ok tX8_findWorker := ⟨tX8_findWorker_d, am_mem 370 (by decide +kernel) rfl, by decide +kernel, rfl, by decide +kernel, by decide +kernel, by decide, by decide +kernel, by decide +kernel⟩
set_option maxRecDepth 100000 in
theorem tX7_addAbsence_d : am_dec tX7_addAbsence = true := by decide +kernel
set_option maxRecDepth 100000 in
theorem tX7_addAbsence_k : am_ok tX7_addAbsence := ⟨tX7_addAbsence_d, am_mem 374 (by decide +kernel) rfl, by decide +kernel, rfl, by decide +kernel, by decide +kernel, by decide, by decide +kernel, by decide +kernel⟩
set_option maxRecDepth 100000 in
theorem tX9_absent_d : am_dec tX9_absent = true := by decide +kernel
set_option maxRecDepth 100000 in
theorem tX9_absent_k : am_ok tX9_absent := ⟨tX9_absent_d, am_mem 836 (by decide +kernel) rfl, by decide +kernel, rfl, by decide +kernel, by decide +kernel, by decide, by decide +kernel, by decide +kernel⟩
set_option maxRecDepth 100000 in
theorem tX9_isWorker_d : am_dec tX9_isWorker = true := by decide +kernel
set_option maxRecDepth 100000 in
theorem tX9_isWorker_k : am_ok tX9_isWorker := ⟨tX9_isWorker_d, am_mem 840 (by decide +kernel) rfl, by decide +kernel, rfl, by decide +kernel, by decide +kernel, by decide, by decide +kernel, by decide +kernel⟩
set_option maxRecDepth 100000 in
theorem tX8_mark_d : am_dec tX8_mark = true := by decide +kernel
set_option maxRecDepth 100000 in
theorem tX8_mark_k : am_ok tX8_mark := ⟨tX8_mark_d, am_mem 378 (by decide +kernel) rfl, by decide +kernel, rfl, by decide +kernel, by decide +kernel, by decide, by decide +kernel, by decide +kernel⟩
set_option maxRecDepth 100000 in
theorem tX8_enter_d : am_dec tX8_enter = true := by decide +kernel
set_option maxRecDepth 100000 in
theorem tX8_enter_k : am_ok tX8_enter := ⟨tX8_enter_d, am_mem 382 (by decide +kernel) rfl, by decide +kernel, rfl, by decide +kernel, by decide +kernel, by decide, by decide +kernel, by decide +kernel⟩
set_option maxRecDepth 100000 in
theorem tX8_timeOf_d : am_dec tX8_timeOf = true := by decide +kernel
set_option maxRecDepth 100000 in
theorem tX8_timeOf_k : am_ok tX8_timeOf := ⟨tX8_timeOf_d, am_mem 385 (by decide +kernel) rfl, by decide +kernel, rfl, by decide +kernel, by decide +kernel, by decide, by decide +kernel, by decide +kernel⟩
set_option maxRecDepth 100000 in
theorem tX1_standsAt_d : am_dec tX1_standsAt = true := by decide +kernel
set_option maxRecDepth 100000 in
theorem tX1_standsAt_k : am_ok tX1_standsAt := ⟨tX1_standsAt_d, am_mem 389 (by decide +kernel) rfl, by decide +kernel, rfl, by decide +kernel, by decide +kernel, by decide, by decide +kernel, by decide +kernel⟩
set_option maxRecDepth 100000 in
theorem tX1_placeOf_d : am_dec tX1_placeOf = true := by decide +kernel
set_option maxRecDepth 100000 in
theorem tX1_placeOf_k : am_ok tX1_placeOf := ⟨tX1_placeOf_d, am_mem 393 (by decide +kernel) rfl, by decide +kernel, rfl, by decide +kernel, by decide +kernel, by decide, by decide +kernel, by decide +kernel⟩
set_option maxRecDepth 100000 in
theorem tX8_isClosed_d : am_dec tX8_isClosed = true := by decide +kernel
set_option maxRecDepth 100000 in
theorem tX8_isClosed_k : am_ok tX8_isClosed := ⟨tX8_isClosed_d, am_mem 397 (by decide +kernel) rfl, by decide +kernel, rfl, by decide +kernel, by decide +kernel, by decide, by decide +kernel, by decide +kernel⟩
set_option maxRecDepth 100000 in
theorem tX8_monthOf_d : am_dec tX8_monthOf = true := by decide +kernel
set_option maxRecDepth 100000 in
theorem tX8_monthOf_k : am_ok tX8_monthOf := ⟨tX8_monthOf_d, am_mem 400 (by decide +kernel) rfl, by decide +kernel, rfl, by decide +kernel, by decide +kernel, by decide, by decide +kernel, by decide +kernel⟩
set_option maxRecDepth 100000 in
theorem tX8_bookClosedDays_d : am_dec tX8_bookClosedDays = true := by decide +kernel
set_option maxRecDepth 100000 in
theorem tX8_bookClosedDays_k : am_ok tX8_bookClosedDays := ⟨tX8_bookClosedDays_d, am_mem 406 (by decide +kernel) rfl, by decide +kernel, rfl, by decide +kernel, by decide +kernel, by decide, by decide +kernel, by decide +kernel⟩
set_option maxRecDepth 100000 in
theorem tX8_tallyDays_d : am_dec tX8_tallyDays = true := by decide +kernel
set_option maxRecDepth 100000 in
theorem tX8_tallyDays_k : am_ok tX8_tallyDays := ⟨tX8_tallyDays_d, am_mem 410 (by decide +kernel) rfl, by decide +kernel, rfl, by decide +kernel, by decide +kernel, by decide, by decide +kernel, by decide +kernel⟩
set_option maxRecDepth 100000 in
theorem tX1_dayOf_d : am_dec tX1_dayOf = true := by decide +kernel
set_option maxRecDepth 100000 in
theorem tX1_dayOf_k : am_ok tX1_dayOf := ⟨tX1_dayOf_d, am_mem 415 (by decide +kernel) rfl, by decide +kernel, rfl, by decide +kernel, by decide +kernel, by decide, by decide +kernel, by decide +kernel⟩
set_option maxRecDepth 100000 in
theorem tX8_kindOf_d : am_dec tX8_kindOf = true := by decide +kernel
set_option maxRecDepth 100000 in
theorem tX8_kindOf_k : am_ok tX8_kindOf := ⟨tX8_kindOf_d, am_mem 419 (by decide +kernel) rfl, by decide +kernel, rfl, by decide +kernel, by decide +kernel, by decide, by decide +kernel, by decide +kernel⟩
set_option maxRecDepth 100000 in
theorem tX4_fill_d0 : am_decR cX4_fill tX4_fill_r0 = true := by decide +kernel
set_option maxRecDepth 100000 in
theorem tX4_fill_d1 : am_decR cX4_fill tX4_fill_r1 = true := by decide +kernel
set_option maxRecDepth 100000 in
theorem tX4_fill_d2 : am_decR cX4_fill tX4_fill_r2 = true := by decide +kernel
set_option maxRecDepth 100000 in
theorem tX4_fill_d3 : am_decR cX4_fill tX4_fill_r3 = true := by decide +kernel
set_option maxRecDepth 100000 in
theorem tX4_fill_d4 : am_decR cX4_fill tX4_fill_r4 = true := by decide +kernel
set_option maxRecDepth 100000 in
theorem tX4_fill_d5 : am_decR cX4_fill tX4_fill_r5 = true := by decide +kernel
set_option maxRecDepth 100000 in
theorem tX4_fill_d6 : am_decR cX4_fill tX4_fill_r6 = true := by decide +kernel
set_option maxRecDepth 100000 in
theorem tX4_fill_d7 : am_decR cX4_fill tX4_fill_r7 = true := by decide +kernel
set_option maxRecDepth 100000 in
theorem tX4_fill_d8 : am_decR cX4_fill tX4_fill_r8 = true := by decide +kernel
theorem tX4_fill_d : am_dec tX4_fill = true := am_decC tX4_fill_d0 (am_decC tX4_fill_d1 (am_decC tX4_fill_d2 (am_decC tX4_fill_d3 (am_decC tX4_fill_d4 (am_decC tX4_fill_d5 (am_decC tX4_fill_d6 (am_decC tX4_fill_d7 (am_decC tX4_fill_d8 (rfl)))))))))
set_option maxRecDepth 100000 in
theorem tX4_fill_k : am_ok tX4_fill := ⟨tX4_fill_d, am_mem 423 (by decide +kernel) rfl, by decide +kernel, rfl, by decide +kernel, by decide +kernel, by decide, by decide +kernel, by decide +kernel⟩
set_option maxRecDepth 100000 in
theorem tX4_layShift_d : am_dec tX4_layShift = true := by decide +kernel
set_option maxRecDepth 100000 in
theorem tX4_layShift_k : am_ok tX4_layShift := ⟨tX4_layShift_d, am_mem 428 (by decide +kernel) rfl, by decide +kernel, rfl, by decide +kernel, by decide +kernel, by decide, by decide +kernel, by decide +kernel⟩
set_option maxRecDepth 100000 in
theorem tX1_endOf_d : am_dec tX1_endOf = true := by decide +kernel
set_option maxRecDepth 100000 in
theorem tX1_endOf_k : am_ok tX1_endOf := ⟨tX1_endOf_d, am_mem 432 (by decide +kernel) rfl, by decide +kernel, rfl, by decide +kernel, by decide +kernel, by decide, by decide +kernel, by decide +kernel⟩
set_option maxRecDepth 100000 in
theorem tX4_add_d : am_dec tX4_add = true := by decide +kernel
set_option maxRecDepth 100000 in
theorem tX4_add_k : am_ok tX4_add := ⟨tX4_add_d, am_mem 436 (by decide +kernel) rfl, by decide +kernel, rfl, by decide +kernel, by decide +kernel, by decide, by decide +kernel, by decide +kernel⟩
set_option maxRecDepth 100000 in
theorem tX4_takeOutside_d : am_dec tX4_takeOutside = true := by decide +kernel
set_option maxRecDepth 100000 in
theorem tX4_takeOutside_k : am_ok tX4_takeOutside := ⟨tX4_takeOutside_d, am_mem 440 (by decide +kernel) rfl, by decide +kernel, rfl, by decide +kernel, by decide +kernel, by decide, by decide +kernel, by decide +kernel⟩
set_option maxRecDepth 100000 in
theorem tX4_cutAt_d : am_dec tX4_cutAt = true := by decide +kernel
set_option maxRecDepth 100000 in
theorem tX4_cutAt_k : am_ok tX4_cutAt := ⟨tX4_cutAt_d, am_mem 444 (by decide +kernel) rfl, by decide +kernel, rfl, by decide +kernel, by decide +kernel, by decide, by decide +kernel, by decide +kernel⟩
set_option maxRecDepth 100000 in
theorem tX4_amountOf_d : am_dec tX4_amountOf = true := by decide +kernel
set_option maxRecDepth 100000 in
theorem tX4_amountOf_k : am_ok tX4_amountOf := ⟨tX4_amountOf_d, am_mem 451 (by decide +kernel) rfl, by decide +kernel, rfl, by decide +kernel, by decide +kernel, by decide, by decide +kernel, by decide +kernel⟩
set_option maxRecDepth 100000 in
theorem tX4_turnBehind_d : am_dec tX4_turnBehind = true := by decide +kernel
set_option maxRecDepth 100000 in
theorem tX4_turnBehind_k : am_ok tX4_turnBehind := ⟨tX4_turnBehind_d, am_mem 455 (by decide +kernel) rfl, by decide +kernel, rfl, by decide +kernel, by decide +kernel, by decide, by decide +kernel, by decide +kernel⟩
set_option maxRecDepth 100000 in
theorem tX8_payOfSheet_d : am_dec tX8_payOfSheet = true := by decide +kernel
set_option maxRecDepth 100000 in
theorem tX8_payOfSheet_k : am_ok tX8_payOfSheet := ⟨tX8_payOfSheet_d, am_mem 463 (by decide +kernel) rfl, by decide +kernel, rfl, by decide +kernel, by decide +kernel, by decide, by decide +kernel, by decide +kernel⟩
set_option maxRecDepth 100000 in
theorem tX5_extraOver_d : am_dec tX5_extraOver = true := by decide +kernel
set_option maxRecDepth 100000 in
theorem tX5_extraOver_k : am_ok tX5_extraOver := ⟨tX5_extraOver_d, am_mem 467 (by decide +kernel) rfl, by decide +kernel, rfl, by decide +kernel, by decide +kernel, by decide, by decide +kernel, by decide +kernel⟩
set_option maxRecDepth 100000 in
theorem tX5_steadyFrom_d : am_dec tX5_steadyFrom = true := by decide +kernel
set_option maxRecDepth 100000 in
theorem tX5_steadyFrom_k : am_ok tX5_steadyFrom := ⟨tX5_steadyFrom_d, am_mem 471 (by decide +kernel) rfl, by decide +kernel, rfl, by decide +kernel, by decide +kernel, by decide, by decide +kernel, by decide +kernel⟩
set_option maxRecDepth 100000 in
theorem tX5_wayTo_d : am_dec tX5_wayTo = true := by decide +kernel
set_option maxRecDepth 100000 in
theorem tX5_wayTo_k : am_ok tX5_wayTo := ⟨tX5_wayTo_d, am_mem 474 (by decide +kernel) rfl, by decide +kernel, rfl, by decide +kernel, by decide +kernel, by decide, by decide +kernel, by decide +kernel⟩
set_option maxRecDepth 100000 in
theorem tX5_meeting_d : am_dec tX5_meeting = true := by decide +kernel
set_option maxRecDepth 100000 in
theorem tX5_meeting_k : am_ok tX5_meeting := ⟨tX5_meeting_d, am_mem 482 (by decide +kernel) rfl, by decide +kernel, rfl, by decide +kernel, by decide +kernel, by decide, by decide +kernel, by decide +kernel⟩
set_option maxRecDepth 100000 in
theorem tX5_spans_d : am_dec tX5_spans = true := by decide +kernel
set_option maxRecDepth 100000 in
theorem tX5_spans_k : am_ok tX5_spans := ⟨tX5_spans_d, am_mem 486 (by decide +kernel) rfl, by decide +kernel, rfl, by decide +kernel, by decide +kernel, by decide, by decide +kernel, by decide +kernel⟩
set_option maxRecDepth 100000 in
theorem tX5_countingOf_d : am_dec tX5_countingOf = true := by decide +kernel
set_option maxRecDepth 100000 in
theorem tX5_countingOf_k : am_ok tX5_countingOf := ⟨tX5_countingOf_d, am_mem 490 (by decide +kernel) rfl, by decide +kernel, rfl, by decide +kernel, by decide +kernel, by decide, by decide +kernel, by decide +kernel⟩
set_option maxRecDepth 100000 in
theorem tX5_isBeaten_d : am_dec tX5_isBeaten = true := by decide +kernel
set_option maxRecDepth 100000 in
theorem tX5_isBeaten_k : am_ok tX5_isBeaten := ⟨tX5_isBeaten_d, am_mem 494 (by decide +kernel) rfl, by decide +kernel, rfl, by decide +kernel, by decide +kernel, by decide, by decide +kernel, by decide +kernel⟩
set_option maxRecDepth 100000 in
theorem tX5_extraOf_d : am_dec tX5_extraOf = true := by decide +kernel
set_option maxRecDepth 100000 in
theorem tX5_extraOf_k : am_ok tX5_extraOf := ⟨tX5_extraOf_d, am_mem 498 (by decide +kernel) rfl, by decide +kernel, rfl, by decide +kernel, by decide +kernel, by decide, by decide +kernel, by decide +kernel⟩
set_option maxRecDepth 100000 in
theorem tX2_at_d : am_dec tX2_at = true := by decide +kernel
set_option maxRecDepth 100000 in
theorem tX2_at_k : am_ok tX2_at := ⟨tX2_at_d, am_mem 502 (by decide +kernel) rfl, by decide +kernel, rfl, by decide +kernel, by decide +kernel, by decide, by decide +kernel, by decide +kernel⟩
set_option maxRecDepth 100000 in
theorem tX8_toCents_d : am_dec tX8_toCents = true := by decide +kernel
set_option maxRecDepth 100000 in
theorem tX8_toCents_k : am_ok tX8_toCents := ⟨tX8_toCents_d, am_mem 505 (by decide +kernel) rfl, by decide +kernel, rfl, by decide +kernel, by decide +kernel, by decide, by decide +kernel, by decide +kernel⟩
set_option maxRecDepth 100000 in
theorem tX1_insert_d : am_dec tX1_insert = true := by decide +kernel
set_option maxRecDepth 100000 in
theorem tX1_insert_k : am_ok tX1_insert := ⟨tX1_insert_d, am_mem 511 (by decide +kernel) rfl, by decide +kernel, rfl, by decide +kernel, by decide +kernel, by decide, by decide +kernel, by decide +kernel⟩
set_option maxRecDepth 100000 in
theorem tX1_pairUp_d : am_dec tX1_pairUp = true := by decide +kernel
set_option maxRecDepth 100000 in
theorem tX1_pairUp_k : am_ok tX1_pairUp := ⟨tX1_pairUp_d, am_mem 516 (by decide +kernel) rfl, by decide +kernel, rfl, by decide +kernel, by decide +kernel, by decide, by decide +kernel, by decide +kernel⟩
set_option maxRecDepth 100000 in
theorem tX1_nextState_d : am_dec tX1_nextState = true := by decide +kernel
set_option maxRecDepth 100000 in
theorem tX1_nextState_k : am_ok tX1_nextState := ⟨tX1_nextState_d, am_mem 519 (by decide +kernel) rfl, by decide +kernel, rfl, by decide +kernel, by decide +kernel, by decide, by decide +kernel, by decide +kernel⟩
set_option maxRecDepth 100000 in
theorem tX9_mark_d : am_dec tX9_mark = true := by decide +kernel
set_option maxRecDepth 100000 in
theorem tX9_mark_k : am_ok tX9_mark := ⟨tX9_mark_d, am_mem 925 (by decide +kernel) rfl, by decide +kernel, rfl, by decide +kernel, by decide +kernel, by decide, by decide +kernel, by decide +kernel⟩
set_option maxRecDepth 100000 in
theorem tX9_comes_d0 : am_decR cX9_comes tX9_comes_r0 = true := by decide +kernel
set_option maxRecDepth 100000 in
theorem tX9_comes_d1 : am_decR cX9_comes tX9_comes_r1 = true := by decide +kernel
set_option maxRecDepth 100000 in
theorem tX9_comes_d2 : am_decR cX9_comes tX9_comes_r2 = true := by decide +kernel
set_option maxRecDepth 100000 in
theorem tX9_comes_d3 : am_decR cX9_comes tX9_comes_r3 = true := by decide +kernel
set_option maxRecDepth 100000 in
theorem tX9_comes_d4 : am_decR cX9_comes tX9_comes_r4 = true := by decide +kernel
set_option maxRecDepth 100000 in
theorem tX9_comes_d5 : am_decR cX9_comes tX9_comes_r5 = true := by decide +kernel
set_option maxRecDepth 100000 in
theorem tX9_comes_d6 : am_decR cX9_comes tX9_comes_r6 = true := by decide +kernel
set_option maxRecDepth 100000 in
theorem tX9_comes_d7 : am_decR cX9_comes tX9_comes_r7 = true := by decide +kernel
set_option maxRecDepth 100000 in
theorem tX9_comes_d8 : am_decR cX9_comes tX9_comes_r8 = true := by decide +kernel
set_option maxRecDepth 100000 in
theorem tX9_comes_d9 : am_decR cX9_comes tX9_comes_r9 = true := by decide +kernel
theorem tX9_comes_d : am_dec tX9_comes = true := am_decC tX9_comes_d0 (am_decC tX9_comes_d1 (am_decC tX9_comes_d2 (am_decC tX9_comes_d3 (am_decC tX9_comes_d4 (am_decC tX9_comes_d5 (am_decC tX9_comes_d6 (am_decC tX9_comes_d7 (am_decC tX9_comes_d8 (am_decC tX9_comes_d9 (rfl))))))))))
set_option maxRecDepth 100000 in
theorem tX9_comes_k : am_ok tX9_comes := ⟨tX9_comes_d, am_mem 929 (by decide +kernel) rfl, by decide +kernel, rfl, by decide +kernel, by decide +kernel, by decide, by decide +kernel, by decide +kernel⟩
set_option maxRecDepth 100000 in
theorem tX9_markAt_d : am_dec tX9_markAt = true := by decide +kernel
set_option maxRecDepth 100000 in
theorem tX9_markAt_k : am_ok tX9_markAt := ⟨tX9_markAt_d, am_mem 933 (by decide +kernel) rfl, by decide +kernel, rfl, by decide +kernel, by decide +kernel, by decide, by decide +kernel, by decide +kernel⟩
set_option maxRecDepth 100000 in
theorem tX9_isMark_d : am_dec tX9_isMark = true := by decide +kernel
set_option maxRecDepth 100000 in
theorem tX9_isMark_k : am_ok tX9_isMark := ⟨tX9_isMark_d, am_mem 937 (by decide +kernel) rfl, by decide +kernel, rfl, by decide +kernel, by decide +kernel, by decide, by decide +kernel, by decide +kernel⟩
set_option maxRecDepth 100000 in
theorem tX9_monthOf_d : am_dec tX9_monthOf = true := by decide +kernel
set_option maxRecDepth 100000 in
theorem tX9_monthOf_k : am_ok tX9_monthOf := ⟨tX9_monthOf_d, am_mem 940 (by decide +kernel) rfl, by decide +kernel, rfl, by decide +kernel, by decide +kernel, by decide, by decide +kernel, by decide +kernel⟩
set_option maxRecDepth 100000 in
theorem tX9_length_d : am_dec tX9_length = true := by decide +kernel
set_option maxRecDepth 100000 in
theorem tX9_length_k : am_ok tX9_length := ⟨tX9_length_d, am_mem 850 (by decide +kernel) rfl, by decide +kernel, rfl, by decide +kernel, by decide +kernel, by decide, by decide +kernel, by decide +kernel⟩
set_option maxRecDepth 100000 in
theorem tX9_book_d : am_dec tX9_book = true := by decide +kernel
set_option maxRecDepth 100000 in
theorem tX9_book_k : am_ok tX9_book := ⟨tX9_book_d, am_mem 945 (by decide +kernel) rfl, by decide +kernel, rfl, by decide +kernel, by decide +kernel, by decide, by decide +kernel, by decide +kernel⟩
set_option maxRecDepth 100000 in
theorem tX9_pair_d0 : am_decR cX9_pair tX9_pair_r0 = true := by decide +kernel
set_option maxRecDepth 100000 in
theorem tX9_pair_d1 : am_decR cX9_pair tX9_pair_r1 = true := by decide +kernel
set_option maxRecDepth 100000 in
theorem tX9_pair_d2 : am_decR cX9_pair tX9_pair_r2 = true := by decide +kernel
set_option maxRecDepth 100000 in
theorem tX9_pair_d3 : am_decR cX9_pair tX9_pair_r3 = true := by decide +kernel
set_option maxRecDepth 100000 in
theorem tX9_pair_d4 : am_decR cX9_pair tX9_pair_r4 = true := by decide +kernel
set_option maxRecDepth 100000 in
theorem tX9_pair_d5 : am_decR cX9_pair tX9_pair_r5 = true := by decide +kernel
set_option maxRecDepth 100000 in
theorem tX9_pair_d6 : am_decR cX9_pair tX9_pair_r6 = true := by decide +kernel
set_option maxRecDepth 100000 in
theorem tX9_pair_d7 : am_decR cX9_pair tX9_pair_r7 = true := by decide +kernel
set_option maxRecDepth 100000 in
theorem tX9_pair_d8 : am_decR cX9_pair tX9_pair_r8 = true := by decide +kernel
set_option maxRecDepth 100000 in
theorem tX9_pair_d9 : am_decR cX9_pair tX9_pair_r9 = true := by decide +kernel
theorem tX9_pair_d : am_dec tX9_pair = true := am_decC tX9_pair_d0 (am_decC tX9_pair_d1 (am_decC tX9_pair_d2 (am_decC tX9_pair_d3 (am_decC tX9_pair_d4 (am_decC tX9_pair_d5 (am_decC tX9_pair_d6 (am_decC tX9_pair_d7 (am_decC tX9_pair_d8 (am_decC tX9_pair_d9 (rfl))))))))))
set_option maxRecDepth 100000 in
theorem tX9_pair_k : am_ok tX9_pair := ⟨tX9_pair_d, am_mem 854 (by decide +kernel) rfl, by decide +kernel, rfl, by decide +kernel, by decide +kernel, by decide, by decide +kernel, by decide +kernel⟩
set_option maxRecDepth 100000 in
theorem tX9_firstDay_d : am_dec tX9_firstDay = true := by decide +kernel
set_option maxRecDepth 100000 in
theorem tX9_firstDay_k : am_ok tX9_firstDay := ⟨tX9_firstDay_d, am_mem 847 (by decide +kernel) rfl, by decide +kernel, rfl, by decide +kernel, by decide +kernel, by decide, by decide +kernel, by decide +kernel⟩
set_option maxRecDepth 100000 in
theorem tX9_sumDays_d : am_dec tX9_sumDays = true := by decide +kernel
set_option maxRecDepth 100000 in
theorem tX9_sumDays_k : am_ok tX9_sumDays := ⟨tX9_sumDays_d, am_mem 866 (by decide +kernel) rfl, by decide +kernel, rfl, by decide +kernel, by decide +kernel, by decide, by decide +kernel, by decide +kernel⟩
set_option maxRecDepth 100000 in
theorem tX9_look_d0 : am_decR cX9_look tX9_look_r0 = true := by decide +kernel
set_option maxRecDepth 100000 in
theorem tX9_look_d1 : am_decR cX9_look tX9_look_r1 = true := by decide +kernel
set_option maxRecDepth 100000 in
theorem tX9_look_d2 : am_decR cX9_look tX9_look_r2 = true := by decide +kernel
set_option maxRecDepth 100000 in
theorem tX9_look_d3 : am_decR cX9_look tX9_look_r3 = true := by decide +kernel
set_option maxRecDepth 100000 in
theorem tX9_look_d4 : am_decR cX9_look tX9_look_r4 = true := by decide +kernel
set_option maxRecDepth 100000 in
theorem tX9_look_d5 : am_decR cX9_look tX9_look_r5 = true := by decide +kernel
set_option maxRecDepth 100000 in
theorem tX9_look_d6 : am_decR cX9_look tX9_look_r6 = true := by decide +kernel
set_option maxRecDepth 100000 in
theorem tX9_look_d7 : am_decR cX9_look tX9_look_r7 = true := by decide +kernel
set_option maxRecDepth 100000 in
theorem tX9_look_d8 : am_decR cX9_look tX9_look_r8 = true := by decide +kernel
set_option maxRecDepth 100000 in
theorem tX9_look_d9 : am_decR cX9_look tX9_look_r9 = true := by decide +kernel
set_option maxRecDepth 100000 in
theorem tX9_look_d10 : am_decR cX9_look tX9_look_r10 = true := by decide +kernel
set_option maxRecDepth 100000 in
theorem tX9_look_d11 : am_decR cX9_look tX9_look_r11 = true := by decide +kernel
set_option maxRecDepth 100000 in
theorem tX9_look_d12 : am_decR cX9_look tX9_look_r12 = true := by decide +kernel
set_option maxRecDepth 100000 in
theorem tX9_look_d13 : am_decR cX9_look tX9_look_r13 = true := by decide +kernel
set_option maxRecDepth 100000 in
theorem tX9_look_d14 : am_decR cX9_look tX9_look_r14 = true := by decide +kernel
theorem tX9_look_d : am_dec tX9_look = true := am_decC tX9_look_d0 (am_decC tX9_look_d1 (am_decC tX9_look_d2 (am_decC tX9_look_d3 (am_decC tX9_look_d4 (am_decC tX9_look_d5 (am_decC tX9_look_d6 (am_decC tX9_look_d7 (am_decC tX9_look_d8 (am_decC tX9_look_d9 (am_decC tX9_look_d10 (am_decC tX9_look_d11 (am_decC tX9_look_d12 (am_decC tX9_look_d13 (am_decC tX9_look_d14 (rfl)))))))))))))))
set_option maxRecDepth 100000 in
theorem tX9_look_k : am_ok tX9_look := ⟨tX9_look_d, am_mem 870 (by decide +kernel) rfl, by decide +kernel, rfl, by decide +kernel, by decide +kernel, by decide, by decide +kernel, by decide +kernel⟩
set_option maxRecDepth 100000 in
theorem tX9_fill_d : am_dec tX9_fill = true := by decide +kernel
set_option maxRecDepth 100000 in
theorem tX9_fill_k : am_ok tX9_fill := ⟨tX9_fill_d, am_mem 874 (by decide +kernel) rfl, by decide +kernel, rfl, by decide +kernel, by decide +kernel, by decide, by decide +kernel, by decide +kernel⟩
set_option maxRecDepth 100000 in
theorem tX9_kindOf_d : am_dec tX9_kindOf = true := by decide +kernel
set_option maxRecDepth 100000 in
theorem tX9_kindOf_k : am_ok tX9_kindOf := ⟨tX9_kindOf_d, am_mem 878 (by decide +kernel) rfl, by decide +kernel, rfl, by decide +kernel, by decide +kernel, by decide, by decide +kernel, by decide +kernel⟩
set_option maxRecDepth 100000 in
theorem tX9_lay_d0 : am_decR cX9_lay tX9_lay_r0 = true := by decide +kernel
set_option maxRecDepth 100000 in
theorem tX9_lay_d1 : am_decR cX9_lay tX9_lay_r1 = true := by decide +kernel
set_option maxRecDepth 100000 in
theorem tX9_lay_d2 : am_decR cX9_lay tX9_lay_r2 = true := by decide +kernel
set_option maxRecDepth 100000 in
theorem tX9_lay_d3 : am_decR cX9_lay tX9_lay_r3 = true := by decide +kernel
set_option maxRecDepth 100000 in
theorem tX9_lay_d4 : am_decR cX9_lay tX9_lay_r4 = true := by decide +kernel
set_option maxRecDepth 100000 in
theorem tX9_lay_d5 : am_decR cX9_lay tX9_lay_r5 = true := by decide +kernel
set_option maxRecDepth 100000 in
theorem tX9_lay_d6 : am_decR cX9_lay tX9_lay_r6 = true := by decide +kernel
set_option maxRecDepth 100000 in
theorem tX9_lay_d7 : am_decR cX9_lay tX9_lay_r7 = true := by decide +kernel
theorem tX9_lay_d : am_dec tX9_lay = true := am_decC tX9_lay_d0 (am_decC tX9_lay_d1 (am_decC tX9_lay_d2 (am_decC tX9_lay_d3 (am_decC tX9_lay_d4 (am_decC tX9_lay_d5 (am_decC tX9_lay_d6 (am_decC tX9_lay_d7 (rfl))))))))
set_option maxRecDepth 100000 in
theorem tX9_lay_k : am_ok tX9_lay := ⟨tX9_lay_d, am_mem 882 (by decide +kernel) rfl, by decide +kernel, rfl, by decide +kernel, by decide +kernel, by decide, by decide +kernel, by decide +kernel⟩
set_option maxRecDepth 100000 in
theorem tX9_there_d : am_dec tX9_there = true := by decide +kernel
set_option maxRecDepth 100000 in
theorem tX9_there_k : am_ok tX9_there := ⟨tX9_there_d, am_mem 886 (by decide +kernel) rfl, by decide +kernel, rfl, by decide +kernel, by decide +kernel, by decide, by decide +kernel, by decide +kernel⟩
set_option maxRecDepth 100000 in
theorem tX9_behind_d : am_dec tX9_behind = true := by decide +kernel
set_option maxRecDepth 100000 in
theorem tX9_behind_k : am_ok tX9_behind := ⟨tX9_behind_d, am_mem 890 (by decide +kernel) rfl, by decide +kernel, rfl, by decide +kernel, by decide +kernel, by decide, by decide +kernel, by decide +kernel⟩
set_option maxRecDepth 100000 in
theorem tX9_paid_d : am_dec tX9_paid = true := by decide +kernel
set_option maxRecDepth 100000 in
theorem tX9_paid_k : am_ok tX9_paid := ⟨tX9_paid_d, am_mem 894 (by decide +kernel) rfl, by decide +kernel, rfl, by decide +kernel, by decide +kernel, by decide, by decide +kernel, by decide +kernel⟩
set_option maxRecDepth 100000 in
theorem tX9_pay_d0 : am_decR cX9_pay tX9_pay_r0 = true := by decide +kernel
set_option maxRecDepth 100000 in
theorem tX9_pay_d1 : am_decR cX9_pay tX9_pay_r1 = true := by decide +kernel
set_option maxRecDepth 100000 in
theorem tX9_pay_d2 : am_decR cX9_pay tX9_pay_r2 = true := by decide +kernel
set_option maxRecDepth 100000 in
theorem tX9_pay_d3 : am_decR cX9_pay tX9_pay_r3 = true := by decide +kernel
set_option maxRecDepth 100000 in
theorem tX9_pay_d4 : am_decR cX9_pay tX9_pay_r4 = true := by decide +kernel
set_option maxRecDepth 100000 in
theorem tX9_pay_d5 : am_decR cX9_pay tX9_pay_r5 = true := by decide +kernel
set_option maxRecDepth 100000 in
theorem tX9_pay_d6 : am_decR cX9_pay tX9_pay_r6 = true := by decide +kernel
theorem tX9_pay_d : am_dec tX9_pay = true := am_decC tX9_pay_d0 (am_decC tX9_pay_d1 (am_decC tX9_pay_d2 (am_decC tX9_pay_d3 (am_decC tX9_pay_d4 (am_decC tX9_pay_d5 (am_decC tX9_pay_d6 (rfl)))))))
set_option maxRecDepth 100000 in
theorem tX9_pay_k : am_ok tX9_pay := ⟨tX9_pay_d, am_mem 898 (by decide +kernel) rfl, by decide +kernel, rfl, by decide +kernel, by decide +kernel, by decide, by decide +kernel, by decide +kernel⟩
set_option maxRecDepth 100000 in
theorem tX9_countsAt_d : am_dec tX9_countsAt = true := by decide +kernel
set_option maxRecDepth 100000 in
theorem tX9_countsAt_k : am_ok tX9_countsAt := ⟨tX9_countsAt_d, am_mem 902 (by decide +kernel) rfl, by decide +kernel, rfl, by decide +kernel, by decide +kernel, by decide, by decide +kernel, by decide +kernel⟩
set_option maxRecDepth 100000 in
theorem tX9_meets_d : am_dec tX9_meets = true := by decide +kernel
set_option maxRecDepth 100000 in
theorem tX9_meets_k : am_ok tX9_meets := ⟨tX9_meets_d, am_mem 906 (by decide +kernel) rfl, by decide +kernel, rfl, by decide +kernel, by decide +kernel, by decide, by decide +kernel, by decide +kernel⟩
set_option maxRecDepth 100000 in
theorem tX9_rateOf_d : am_dec tX9_rateOf = true := by decide +kernel
set_option maxRecDepth 100000 in
theorem tX9_rateOf_k : am_ok tX9_rateOf := ⟨tX9_rateOf_d, am_mem 910 (by decide +kernel) rfl, by decide +kernel, rfl, by decide +kernel, by decide +kernel, by decide, by decide +kernel, by decide +kernel⟩
set_option maxRecDepth 100000 in
theorem tX8_late_d : am_dec tX8_late = true := by decide +kernel
set_option maxRecDepth 100000 in
theorem tX8_late_k : am_ok tX8_late := ⟨tX8_late_d, am_mem 523 (by decide +kernel) rfl, by decide +kernel, rfl, by decide +kernel, by decide +kernel, by decide, by decide +kernel, by decide +kernel⟩
set_option maxRecDepth 100000 in
theorem tX9_late_d : am_dec tX9_late = true := by decide +kernel
set_option maxRecDepth 100000 in
theorem tX9_late_k : am_ok tX9_late := ⟨tX9_late_d, am_mem 949 (by decide +kernel) rfl, by decide +kernel, rfl, by decide +kernel, by decide +kernel, by decide, by decide +kernel, by decide +kernel⟩
set_option maxRecDepth 100000 in
theorem tX8_unmark_d : am_dec tX8_unmark = true := by decide +kernel
set_option maxRecDepth 100000 in
theorem tX8_unmark_k : am_ok tX8_unmark := ⟨tX8_unmark_d, am_mem 527 (by decide +kernel) rfl, by decide +kernel, rfl, by decide +kernel, by decide +kernel, by decide, by decide +kernel, by decide +kernel⟩
set_option maxRecDepth 100000 in
theorem tX1_remove_d : am_dec tX1_remove = true := by decide +kernel
set_option maxRecDepth 100000 in
theorem tX1_remove_k : am_ok tX1_remove := ⟨tX1_remove_d, am_mem 531 (by decide +kernel) rfl, by decide +kernel, rfl, by decide +kernel, by decide +kernel, by decide, by decide +kernel, by decide +kernel⟩
set_option maxRecDepth 100000 in
theorem tX9_unmark_d0 : am_decR cX9_unmark tX9_unmark_r0 = true := by decide +kernel
set_option maxRecDepth 100000 in
theorem tX9_unmark_d1 : am_decR cX9_unmark tX9_unmark_r1 = true := by decide +kernel
set_option maxRecDepth 100000 in
theorem tX9_unmark_d2 : am_decR cX9_unmark tX9_unmark_r2 = true := by decide +kernel
set_option maxRecDepth 100000 in
theorem tX9_unmark_d3 : am_decR cX9_unmark tX9_unmark_r3 = true := by decide +kernel
set_option maxRecDepth 100000 in
theorem tX9_unmark_d4 : am_decR cX9_unmark tX9_unmark_r4 = true := by decide +kernel
set_option maxRecDepth 100000 in
theorem tX9_unmark_d5 : am_decR cX9_unmark tX9_unmark_r5 = true := by decide +kernel
set_option maxRecDepth 100000 in
theorem tX9_unmark_d6 : am_decR cX9_unmark tX9_unmark_r6 = true := by decide +kernel
theorem tX9_unmark_d : am_dec tX9_unmark = true := am_decC tX9_unmark_d0 (am_decC tX9_unmark_d1 (am_decC tX9_unmark_d2 (am_decC tX9_unmark_d3 (am_decC tX9_unmark_d4 (am_decC tX9_unmark_d5 (am_decC tX9_unmark_d6 (rfl)))))))
set_option maxRecDepth 100000 in
theorem tX9_unmark_k : am_ok tX9_unmark := ⟨tX9_unmark_d, am_mem 953 (by decide +kernel) rfl, by decide +kernel, rfl, by decide +kernel, by decide +kernel, by decide, by decide +kernel, by decide +kernel⟩
set_option maxRecDepth 100000 in
theorem tX8_marked_d : am_dec tX8_marked = true := by decide +kernel
set_option maxRecDepth 100000 in
theorem tX8_marked_k : am_ok tX8_marked := ⟨tX8_marked_d, am_mem 536 (by decide +kernel) rfl, by decide +kernel, rfl, by decide +kernel, by decide +kernel, by decide, by decide +kernel, by decide +kernel⟩
set_option maxRecDepth 100000 in
theorem tX9_marked_d : am_dec tX9_marked = true := by decide +kernel
set_option maxRecDepth 100000 in
theorem tX9_marked_k : am_ok tX9_marked := ⟨tX9_marked_d, am_mem 957 (by decide +kernel) rfl, by decide +kernel, rfl, by decide +kernel, by decide +kernel, by decide, by decide +kernel, by decide +kernel⟩
set_option maxRecDepth 100000 in
theorem tX8_day_d : am_dec tX8_day = true := by decide +kernel
set_option maxRecDepth 100000 in
theorem tX8_day_k : am_ok tX8_day := ⟨tX8_day_d, am_mem 540 (by decide +kernel) rfl, by decide +kernel, rfl, by decide +kernel, by decide +kernel, by decide, by decide +kernel, by decide +kernel⟩
set_option maxRecDepth 100000 in
theorem tX9_day_d : am_dec tX9_day = true := by decide +kernel
set_option maxRecDepth 100000 in
theorem tX9_day_k : am_ok tX9_day := ⟨tX9_day_d, am_mem 961 (by decide +kernel) rfl, by decide +kernel, rfl, by decide +kernel, by decide +kernel, by decide, by decide +kernel, by decide +kernel⟩
set_option maxRecDepth 100000 in
theorem tX8_shifts_d : am_dec tX8_shifts = true := by decide +kernel
set_option maxRecDepth 100000 in
theorem tX8_shifts_k : am_ok tX8_shifts := ⟨tX8_shifts_d, am_mem 544 (by decide +kernel) rfl, by decide +kernel, rfl, by decide +kernel, by decide +kernel, by decide, by decide +kernel, by decide +kernel⟩
set_option maxRecDepth 100000 in
theorem tX1_amountOf_d : am_dec tX1_amountOf = true := by decide +kernel
set_option maxRecDepth 100000 in
theorem tX1_amountOf_k : am_ok tX1_amountOf := ⟨tX1_amountOf_d, am_mem 548 (by decide +kernel) rfl, by decide +kernel, rfl, by decide +kernel, by decide +kernel, by decide, by decide +kernel, by decide +kernel⟩
set_option maxRecDepth 100000 in
theorem tX9_shifts_d : am_dec tX9_shifts = true := by decide +kernel
set_option maxRecDepth 100000 in
theorem tX9_shifts_k : am_ok tX9_shifts := ⟨tX9_shifts_d, am_mem 965 (by decide +kernel) rfl, by decide +kernel, rfl, by decide +kernel, by decide +kernel, by decide, by decide +kernel, by decide +kernel⟩
set_option maxRecDepth 100000 in
theorem tX8_minute_d : am_dec tX8_minute = true := by decide +kernel
set_option maxRecDepth 100000 in
theorem tX8_minute_k : am_ok tX8_minute := ⟨tX8_minute_d, am_mem 554 (by decide +kernel) rfl, by decide +kernel, rfl, by decide +kernel, by decide +kernel, by decide, by decide +kernel, by decide +kernel⟩
set_option maxRecDepth 100000 in
theorem tX8_fillSheet_d : am_dec tX8_fillSheet = true := by decide +kernel
set_option maxRecDepth 100000 in
theorem tX8_fillSheet_k : am_ok tX8_fillSheet := ⟨tX8_fillSheet_d, am_mem 558 (by decide +kernel) rfl, by decide +kernel, rfl, by decide +kernel, by decide +kernel, by decide, by decide +kernel, by decide +kernel⟩
set_option maxRecDepth 100000 in
theorem tX4_classAt_d : am_dec tX4_classAt = true := by decide +kernel
set_option maxRecDepth 100000 in
theorem tX4_classAt_k : am_ok tX4_classAt := ⟨tX4_classAt_d, am_mem 562 (by decide +kernel) rfl, by decide +kernel, rfl, by decide +kernel, by decide +kernel, by decide, by decide +kernel, by decide +kernel⟩
set_option maxRecDepth 100000 in
theorem tX9_minute_d : am_dec tX9_minute = true := by decide +kernel
set_option maxRecDepth 100000 in
theorem tX9_minute_k : am_ok tX9_minute := ⟨tX9_minute_d, am_mem 969 (by decide +kernel) rfl, by decide +kernel, rfl, by decide +kernel, by decide +kernel, by decide, by decide +kernel, by decide +kernel⟩
set_option maxRecDepth 100000 in
theorem tX9_looks_d : am_dec tX9_looks = true := by decide +kernel
set_option maxRecDepth 100000 in
theorem tX9_looks_k : am_ok tX9_looks := ⟨tX9_looks_d, am_mem 973 (by decide +kernel) rfl, by decide +kernel, rfl, by decide +kernel, by decide +kernel, by decide, by decide +kernel, by decide +kernel⟩
set_option maxRecDepth 100000 in
theorem tX8_minutes_d : am_dec tX8_minutes = true := by decide +kernel
set_option maxRecDepth 100000 in
theorem tX8_minutes_k : am_ok tX8_minutes := ⟨tX8_minutes_d, am_mem 566 (by decide +kernel) rfl, by decide +kernel, rfl, by decide +kernel, by decide +kernel, by decide, by decide +kernel, by decide +kernel⟩
set_option maxRecDepth 100000 in
theorem tX9_minutes_d : am_dec tX9_minutes = true := by decide +kernel
set_option maxRecDepth 100000 in
theorem tX9_minutes_k : am_ok tX9_minutes := ⟨tX9_minutes_d, am_mem 977 (by decide +kernel) rfl, by decide +kernel, rfl, by decide +kernel, by decide +kernel, by decide, by decide +kernel, by decide +kernel⟩
set_option maxRecDepth 100000 in
theorem tX8_why_d : am_dec tX8_why = true := by decide +kernel
set_option maxRecDepth 100000 in
theorem tX8_why_k : am_ok tX8_why := ⟨tX8_why_d, am_mem 570 (by decide +kernel) rfl, by decide +kernel, rfl, by decide +kernel, by decide +kernel, by decide, by decide +kernel, by decide +kernel⟩
set_option maxRecDepth 100000 in
theorem tX9_why_d : am_dec tX9_why = true := by decide +kernel
set_option maxRecDepth 100000 in
theorem tX9_why_k : am_ok tX9_why := ⟨tX9_why_d, am_mem 981 (by decide +kernel) rfl, by decide +kernel, rfl, by decide +kernel, by decide +kernel, by decide, by decide +kernel, by decide +kernel⟩
set_option maxRecDepth 100000 in
theorem tX8_counts_d : am_dec tX8_counts = true := by decide +kernel
set_option maxRecDepth 100000 in
theorem tX8_counts_k : am_ok tX8_counts := ⟨tX8_counts_d, am_mem 574 (by decide +kernel) rfl, by decide +kernel, rfl, by decide +kernel, by decide +kernel, by decide, by decide +kernel, by decide +kernel⟩
set_option maxRecDepth 100000 in
theorem tX9_counts_d : am_dec tX9_counts = true := by decide +kernel
set_option maxRecDepth 100000 in
theorem tX9_counts_k : am_ok tX9_counts := ⟨tX9_counts_d, am_mem 985 (by decide +kernel) rfl, by decide +kernel, rfl, by decide +kernel, by decide +kernel, by decide, by decide +kernel, by decide +kernel⟩
set_option maxRecDepth 100000 in
theorem tX8_cents_d : am_dec tX8_cents = true := by decide +kernel
set_option maxRecDepth 100000 in
theorem tX8_cents_k : am_ok tX8_cents := ⟨tX8_cents_d, am_mem 580 (by decide +kernel) rfl, by decide +kernel, rfl, by decide +kernel, by decide +kernel, by decide, by decide +kernel, by decide +kernel⟩
set_option maxRecDepth 100000 in
theorem tX9_cents_d : am_dec tX9_cents = true := by decide +kernel
set_option maxRecDepth 100000 in
theorem tX9_cents_k : am_ok tX9_cents := ⟨tX9_cents_d, am_mem 989 (by decide +kernel) rfl, by decide +kernel, rfl, by decide +kernel, by decide +kernel, by decide, by decide +kernel, by decide +kernel⟩
set_option maxRecDepth 100000 in
theorem tX8_due_d : am_dec tX8_due = true := by decide +kernel
set_option maxRecDepth 100000 in
theorem tX8_due_k : am_ok tX8_due := ⟨tX8_due_d, am_mem 585 (by decide +kernel) rfl, by decide +kernel, rfl, by decide +kernel, by decide +kernel, by decide, by decide +kernel, by decide +kernel⟩
set_option maxRecDepth 100000 in
theorem tX8_dueOf_d : am_dec tX8_dueOf = true := by decide +kernel
set_option maxRecDepth 100000 in
theorem tX8_dueOf_k : am_ok tX8_dueOf := ⟨tX8_dueOf_d, am_mem 589 (by decide +kernel) rfl, by decide +kernel, rfl, by decide +kernel, by decide +kernel, by decide, by decide +kernel, by decide +kernel⟩
set_option maxRecDepth 100000 in
theorem tX7_isAway_d : am_dec tX7_isAway = true := by decide +kernel
set_option maxRecDepth 100000 in
theorem tX7_isAway_k : am_ok tX7_isAway := ⟨tX7_isAway_d, am_mem 593 (by decide +kernel) rfl, by decide +kernel, rfl, by decide +kernel, by decide +kernel, by decide, by decide +kernel, by decide +kernel⟩
set_option maxRecDepth 100000 in
theorem tX9_due_d : am_dec tX9_due = true := by decide +kernel
set_option maxRecDepth 100000 in
theorem tX9_due_k : am_ok tX9_due := ⟨tX9_due_d, am_mem 993 (by decide +kernel) rfl, by decide +kernel, rfl, by decide +kernel, by decide +kernel, by decide, by decide +kernel, by decide +kernel⟩
set_option maxRecDepth 100000 in
theorem tX9_dueOf_d : am_dec tX9_dueOf = true := by decide +kernel
set_option maxRecDepth 100000 in
theorem tX9_dueOf_k : am_ok tX9_dueOf := ⟨tX9_dueOf_d, am_mem 917 (by decide +kernel) rfl, by decide +kernel, rfl, by decide +kernel, by decide +kernel, by decide, by decide +kernel, by decide +kernel⟩
set_option maxRecDepth 100000 in
theorem tX8_close_d : am_dec tX8_close = true := by decide +kernel
set_option maxRecDepth 100000 in
theorem tX8_close_k : am_ok tX8_close := ⟨tX8_close_d, am_mem 597 (by decide +kernel) rfl, by decide +kernel, rfl, by decide +kernel, by decide +kernel, by decide, by decide +kernel, by decide +kernel⟩
set_option maxRecDepth 100000 in
theorem tX8_hasGap_d : am_dec tX8_hasGap = true := by decide +kernel
set_option maxRecDepth 100000 in
theorem tX8_hasGap_k : am_ok tX8_hasGap := ⟨tX8_hasGap_d, am_mem 600 (by decide +kernel) rfl, by decide +kernel, rfl, by decide +kernel, by decide +kernel, by decide, by decide +kernel, by decide +kernel⟩
set_option maxRecDepth 100000 in
theorem tX8_keepSayings_d : am_dec tX8_keepSayings = true := by decide +kernel
set_option maxRecDepth 100000 in
theorem tX8_keepSayings_k : am_ok tX8_keepSayings := ⟨tX8_keepSayings_d, am_mem 604 (by decide +kernel) rfl, by decide +kernel, rfl, by decide +kernel, by decide +kernel, by decide, by decide +kernel, by decide +kernel⟩
set_option maxRecDepth 100000 in
theorem tX8_openFlex_d : am_dec tX8_openFlex = true := by decide +kernel
set_option maxRecDepth 100000 in
theorem tX8_openFlex_k : am_ok tX8_openFlex := ⟨tX8_openFlex_d, am_mem 608 (by decide +kernel) rfl, by decide +kernel, rfl, by decide +kernel, by decide +kernel, by decide, by decide +kernel, by decide +kernel⟩
set_option maxRecDepth 100000 in
theorem tX9_close_d0 : am_decR cX9_close tX9_close_r0 = true := by decide +kernel
set_option maxRecDepth 100000 in
theorem tX9_close_d1 : am_decR cX9_close tX9_close_r1 = true := by decide +kernel
set_option maxRecDepth 100000 in
theorem tX9_close_d2 : am_decR cX9_close tX9_close_r2 = true := by decide +kernel
set_option maxRecDepth 100000 in
theorem tX9_close_d3 : am_decR cX9_close tX9_close_r3 = true := by decide +kernel
set_option maxRecDepth 100000 in
theorem tX9_close_d4 : am_decR cX9_close tX9_close_r4 = true := by decide +kernel
set_option maxRecDepth 100000 in
theorem tX9_close_d5 : am_decR cX9_close tX9_close_r5 = true := by decide +kernel
set_option maxRecDepth 100000 in
theorem tX9_close_d6 : am_decR cX9_close tX9_close_r6 = true := by decide +kernel
set_option maxRecDepth 100000 in
theorem tX9_close_d7 : am_decR cX9_close tX9_close_r7 = true := by decide +kernel
set_option maxRecDepth 100000 in
theorem tX9_close_d8 : am_decR cX9_close tX9_close_r8 = true := by decide +kernel
theorem tX9_close_d : am_dec tX9_close = true := am_decC tX9_close_d0 (am_decC tX9_close_d1 (am_decC tX9_close_d2 (am_decC tX9_close_d3 (am_decC tX9_close_d4 (am_decC tX9_close_d5 (am_decC tX9_close_d6 (am_decC tX9_close_d7 (am_decC tX9_close_d8 (rfl)))))))))
set_option maxRecDepth 100000 in
theorem tX9_close_k : am_ok tX9_close := ⟨tX9_close_d, am_mem 844 (by decide +kernel) rfl, by decide +kernel, rfl, by decide +kernel, by decide +kernel, by decide, by decide +kernel, by decide +kernel⟩
set_option maxRecDepth 100000 in
theorem tX9_says_d : am_dec tX9_says = true := by decide +kernel
set_option maxRecDepth 100000 in
theorem tX9_says_k : am_ok tX9_says := ⟨tX9_says_d, am_mem 858 (by decide +kernel) rfl, by decide +kernel, rfl, by decide +kernel, by decide +kernel, by decide, by decide +kernel, by decide +kernel⟩
set_option maxRecDepth 100000 in
theorem tX9_flexOf_d : am_dec tX9_flexOf = true := by decide +kernel
set_option maxRecDepth 100000 in
theorem tX9_flexOf_k : am_ok tX9_flexOf := ⟨tX9_flexOf_d, am_mem 862 (by decide +kernel) rfl, by decide +kernel, rfl, by decide +kernel, by decide +kernel, by decide, by decide +kernel, by decide +kernel⟩
set_option maxRecDepth 100000 in
theorem tX8_open_d : am_dec tX8_open = true := by decide +kernel
set_option maxRecDepth 100000 in
theorem tX8_open_k : am_ok tX8_open := ⟨tX8_open_d, am_mem 618 (by decide +kernel) rfl, by decide +kernel, rfl, by decide +kernel, by decide +kernel, by decide, by decide +kernel, by decide +kernel⟩
set_option maxRecDepth 100000 in
theorem tX9_open_d : am_dec tX9_open = true := by decide +kernel
set_option maxRecDepth 100000 in
theorem tX9_open_k : am_ok tX9_open := ⟨tX9_open_d, am_mem 921 (by decide +kernel) rfl, by decide +kernel, rfl, by decide +kernel, by decide +kernel, by decide, by decide +kernel, by decide +kernel⟩
set_option maxRecDepth 100000 in
theorem tX8_month_d : am_dec tX8_month = true := by decide +kernel
set_option maxRecDepth 100000 in
theorem tX8_month_k : am_ok tX8_month := ⟨tX8_month_d, am_mem 622 (by decide +kernel) rfl, by decide +kernel, rfl, by decide +kernel, by decide +kernel, by decide, by decide +kernel, by decide +kernel⟩
set_option maxRecDepth 100000 in
theorem tX8_isMonth_d : am_dec tX8_isMonth = true := by decide +kernel
set_option maxRecDepth 100000 in
theorem tX8_isMonth_k : am_ok tX8_isMonth := ⟨tX8_isMonth_d, am_mem 625 (by decide +kernel) rfl, by decide +kernel, rfl, by decide +kernel, by decide +kernel, by decide, by decide +kernel, by decide +kernel⟩
set_option maxRecDepth 100000 in
theorem tX8_sayingOf_d : am_dec tX8_sayingOf = true := by decide +kernel
set_option maxRecDepth 100000 in
theorem tX8_sayingOf_k : am_ok tX8_sayingOf := ⟨tX8_sayingOf_d, am_mem 630 (by decide +kernel) rfl, by decide +kernel, rfl, by decide +kernel, by decide +kernel, by decide, by decide +kernel, by decide +kernel⟩
set_option maxRecDepth 100000 in
theorem tX9_month_d : am_dec tX9_month = true := by decide +kernel
set_option maxRecDepth 100000 in
theorem tX9_month_k : am_ok tX9_month := ⟨tX9_month_d, am_mem 997 (by decide +kernel) rfl, by decide +kernel, rfl, by decide +kernel, by decide +kernel, by decide, by decide +kernel, by decide +kernel⟩
set_option maxRecDepth 100000 in
theorem tX8_sum_d : am_dec tX8_sum = true := by decide +kernel
set_option maxRecDepth 100000 in
theorem tX8_sum_k : am_ok tX8_sum := ⟨tX8_sum_d, am_mem 634 (by decide +kernel) rfl, by decide +kernel, rfl, by decide +kernel, by decide +kernel, by decide, by decide +kernel, by decide +kernel⟩
set_option maxRecDepth 100000 in
theorem tX9_sum_d : am_dec tX9_sum = true := by decide +kernel
set_option maxRecDepth 100000 in
theorem tX9_sum_k : am_ok tX9_sum := ⟨tX9_sum_d, am_mem 1002 (by decide +kernel) rfl, by decide +kernel, rfl, by decide +kernel, by decide +kernel, by decide, by decide +kernel, by decide +kernel⟩
set_option maxRecDepth 100000 in
theorem tX8_count_d : am_dec tX8_count = true := by decide +kernel
set_option maxRecDepth 100000 in
theorem tX8_count_k : am_ok tX8_count := ⟨tX8_count_d, am_mem 638 (by decide +kernel) rfl, by decide +kernel, rfl, by decide +kernel, by decide +kernel, by decide, by decide +kernel, by decide +kernel⟩
set_option maxRecDepth 100000 in
theorem tX9_count_d : am_dec tX9_count = true := by decide +kernel
set_option maxRecDepth 100000 in
theorem tX9_count_k : am_ok tX9_count := ⟨tX9_count_d, am_mem 1006 (by decide +kernel) rfl, by decide +kernel, rfl, by decide +kernel, by decide +kernel, by decide, by decide +kernel, by decide +kernel⟩
set_option maxRecDepth 100000 in
theorem tL_law_d0 : am_decR code tL_law_r0 = true := by decide +kernel
set_option maxRecDepth 100000 in
theorem tL_law_d1 : am_decR code tL_law_r1 = true := by decide +kernel
set_option maxRecDepth 100000 in
theorem tL_law_d2 : am_decR code tL_law_r2 = true := by decide +kernel
set_option maxRecDepth 100000 in
theorem tL_law_d3 : am_decR code tL_law_r3 = true := by decide +kernel
set_option maxRecDepth 100000 in
theorem tL_law_d4 : am_decR code tL_law_r4 = true := by decide +kernel
set_option maxRecDepth 100000 in
theorem tL_law_d5 : am_decR code tL_law_r5 = true := by decide +kernel
set_option maxRecDepth 100000 in
theorem tL_law_d6 : am_decR code tL_law_r6 = true := by decide +kernel
set_option maxRecDepth 100000 in
theorem tL_law_d7 : am_decR code tL_law_r7 = true := by decide +kernel
set_option maxRecDepth 100000 in
theorem tL_law_d8 : am_decR code tL_law_r8 = true := by decide +kernel
set_option maxRecDepth 100000 in
theorem tL_law_d9 : am_decR code tL_law_r9 = true := by decide +kernel
set_option maxRecDepth 100000 in
theorem tL_law_d10 : am_decR code tL_law_r10 = true := by decide +kernel
set_option maxRecDepth 100000 in
theorem tL_law_d11 : am_decR code tL_law_r11 = true := by decide +kernel
set_option maxRecDepth 100000 in
theorem tL_law_d12 : am_decR code tL_law_r12 = true := by decide +kernel
set_option maxRecDepth 100000 in
theorem tL_law_d13 : am_decR code tL_law_r13 = true := by decide +kernel
set_option maxRecDepth 100000 in
theorem tL_law_d14 : am_decR code tL_law_r14 = true := by decide +kernel
set_option maxRecDepth 100000 in
theorem tL_law_d15 : am_decR code tL_law_r15 = true := by decide +kernel
set_option maxRecDepth 100000 in
theorem tL_law_d16 : am_decR code tL_law_r16 = true := by decide +kernel
set_option maxRecDepth 100000 in
theorem tL_law_d17 : am_decR code tL_law_r17 = true := by decide +kernel
set_option maxRecDepth 100000 in
theorem tL_law_d18 : am_decR code tL_law_r18 = true := by decide +kernel
set_option maxRecDepth 100000 in
theorem tL_law_d19 : am_decR code tL_law_r19 = true := by decide +kernel
set_option maxRecDepth 100000 in
theorem tL_law_d20 : am_decR code tL_law_r20 = true := by decide +kernel
set_option maxRecDepth 100000 in
theorem tL_law_d21 : am_decR code tL_law_r21 = true := by decide +kernel
set_option maxRecDepth 100000 in
theorem tL_law_d22 : am_decR code tL_law_r22 = true := by decide +kernel
set_option maxRecDepth 100000 in
theorem tL_law_d23 : am_decR code tL_law_r23 = true := by decide +kernel
set_option maxRecDepth 100000 in
theorem tL_law_d24 : am_decR code tL_law_r24 = true := by decide +kernel
set_option maxRecDepth 100000 in
theorem tL_law_d25 : am_decR code tL_law_r25 = true := by decide +kernel
set_option maxRecDepth 100000 in
theorem tL_law_d26 : am_decR code tL_law_r26 = true := by decide +kernel
set_option maxRecDepth 100000 in
theorem tL_law_d27 : am_decR code tL_law_r27 = true := by decide +kernel
set_option maxRecDepth 100000 in
theorem tL_law_d28 : am_decR code tL_law_r28 = true := by decide +kernel
set_option maxRecDepth 100000 in
theorem tL_law_d29 : am_decR code tL_law_r29 = true := by decide +kernel
set_option maxRecDepth 100000 in
theorem tL_law_d30 : am_decR code tL_law_r30 = true := by decide +kernel
set_option maxRecDepth 100000 in
theorem tL_law_d31 : am_decR code tL_law_r31 = true := by decide +kernel
set_option maxRecDepth 100000 in
theorem tL_law_d32 : am_decR code tL_law_r32 = true := by decide +kernel
set_option maxRecDepth 100000 in
theorem tL_law_d33 : am_decR code tL_law_r33 = true := by decide +kernel
set_option maxRecDepth 100000 in
theorem tL_law_d34 : am_decR code tL_law_r34 = true := by decide +kernel
set_option maxRecDepth 100000 in
theorem tL_law_d35 : am_decR code tL_law_r35 = true := by decide +kernel
set_option maxRecDepth 100000 in
theorem tL_law_d36 : am_decR code tL_law_r36 = true := by decide +kernel
set_option maxRecDepth 100000 in
theorem tL_law_d37 : am_decR code tL_law_r37 = true := by decide +kernel
set_option maxRecDepth 100000 in
theorem tL_law_d38 : am_decR code tL_law_r38 = true := by decide +kernel
theorem tL_law_d : am_dec tL_law = true := am_decC tL_law_d0 (am_decC tL_law_d1 (am_decC tL_law_d2 (am_decC tL_law_d3 (am_decC tL_law_d4 (am_decC tL_law_d5 (am_decC tL_law_d6 (am_decC tL_law_d7 (am_decC tL_law_d8 (am_decC tL_law_d9 (am_decC tL_law_d10 (am_decC tL_law_d11 (am_decC tL_law_d12 (am_decC tL_law_d13 (am_decC tL_law_d14 (am_decC tL_law_d15 (am_decC tL_law_d16 (am_decC tL_law_d17 (am_decC tL_law_d18 (am_decC tL_law_d19 (am_decC tL_law_d20 (am_decC tL_law_d21 (am_decC tL_law_d22 (am_decC tL_law_d23 (am_decC tL_law_d24 (am_decC tL_law_d25 (am_decC tL_law_d26 (am_decC tL_law_d27 (am_decC tL_law_d28 (am_decC tL_law_d29 (am_decC tL_law_d30 (am_decC tL_law_d31 (am_decC tL_law_d32 (am_decC tL_law_d33 (am_decC tL_law_d34 (am_decC tL_law_d35 (am_decC tL_law_d36 (am_decC tL_law_d37 (am_decC tL_law_d38 (rfl)))))))))))))))))))))))))))))))))))))))
