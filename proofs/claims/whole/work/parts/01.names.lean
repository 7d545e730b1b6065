-- ===== PART A: goes FIRST, ahead of the names: the tables' words, and 'selects' of the private methods out of them =====
/-- a private method of a class that the tables say can be made, by its rows of tables_1 -/
def lw_okq (q : MethodName × Nat) : Prop := (q.1.cls ≠ "java/lang/invoke/MethodHandle" ∧ q.1.cls ≠ "java/lang/invoke/VarHandle") ∧ Cond.instantiable q.1.cls q.2 ∈ tables_1 ∧ Cond.privateMethod q.1 ∈ tables_1 ∧ Cond.instanceMethod q.1 ∈ tables_1
theorem lw_p0 : lw_okq (⟨"ShiftLedger", "findGroup", "(I)LShiftLedger$Group;"⟩, 12) := ⟨⟨by decide +kernel, by decide +kernel⟩, List.mem_of_getElem? (i := 14) (by decide +kernel), List.mem_of_getElem? (i := 193) (by decide +kernel), List.mem_of_getElem? (i := 194) (by decide +kernel)⟩
theorem lw_p1 : lw_okq (⟨"ShiftLedger", "findRules", "(I)LShiftLedger$Rules;"⟩, 12) := ⟨⟨by decide +kernel, by decide +kernel⟩, List.mem_of_getElem? (i := 14) (by decide +kernel), List.mem_of_getElem? (i := 276) (by decide +kernel), List.mem_of_getElem? (i := 277) (by decide +kernel)⟩
theorem lw_p2 : lw_okq (⟨"ShiftLedger", "findWorker", "(I)LShiftLedger$Worker;"⟩, 12) := ⟨⟨by decide +kernel, by decide +kernel⟩, List.mem_of_getElem? (i := 14) (by decide +kernel), List.mem_of_getElem? (i := 332) (by decide +kernel), List.mem_of_getElem? (i := 333) (by decide +kernel)⟩
theorem lw_p3 : lw_okq (⟨"ShiftLedger", "enter", "(IIIIZ)I"⟩, 12) := ⟨⟨by decide +kernel, by decide +kernel⟩, List.mem_of_getElem? (i := 14) (by decide +kernel), List.mem_of_getElem? (i := 344) (by decide +kernel), List.mem_of_getElem? (i := 345) (by decide +kernel)⟩
theorem lw_p4 : lw_okq (⟨"ShiftLedger", "isClosed", "(I)Z"⟩, 12) := ⟨⟨by decide +kernel, by decide +kernel⟩, List.mem_of_getElem? (i := 14) (by decide +kernel), List.mem_of_getElem? (i := 359) (by decide +kernel), List.mem_of_getElem? (i := 360) (by decide +kernel)⟩
theorem lw_p5 : lw_okq (⟨"ShiftLedger", "bookClosedDays", "(LShiftLedger$Worker;I)V"⟩, 12) := ⟨⟨by decide +kernel, by decide +kernel⟩, List.mem_of_getElem? (i := 14) (by decide +kernel), List.mem_of_getElem? (i := 368) (by decide +kernel), List.mem_of_getElem? (i := 369) (by decide +kernel)⟩
theorem lw_p6 : lw_okq (⟨"ShiftLedger", "tallyDays", "(LShiftLedger$Worker;II)V"⟩, 12) := ⟨⟨by decide +kernel, by decide +kernel⟩, List.mem_of_getElem? (i := 14) (by decide +kernel), List.mem_of_getElem? (i := 372) (by decide +kernel), List.mem_of_getElem? (i := 373) (by decide +kernel)⟩
theorem lw_p7 : lw_okq (⟨"ShiftLedger", "kindOf", "(LShiftLedger$Group;I)I"⟩, 12) := ⟨⟨by decide +kernel, by decide +kernel⟩, List.mem_of_getElem? (i := 14) (by decide +kernel), List.mem_of_getElem? (i := 381) (by decide +kernel), List.mem_of_getElem? (i := 382) (by decide +kernel)⟩
theorem lw_p8 : lw_okq (⟨"ShiftLedger", "payOfSheet", "(LShiftLedger$Group;I)J"⟩, 12) := ⟨⟨by decide +kernel, by decide +kernel⟩, List.mem_of_getElem? (i := 14) (by decide +kernel), List.mem_of_getElem? (i := 425) (by decide +kernel), List.mem_of_getElem? (i := 426) (by decide +kernel)⟩
theorem lw_p9 : lw_okq (⟨"ShiftLedger", "fillSheet", "(LShiftLedger$Worker;I)V"⟩, 12) := ⟨⟨by decide +kernel, by decide +kernel⟩, List.mem_of_getElem? (i := 14) (by decide +kernel), List.mem_of_getElem? (i := 520) (by decide +kernel), List.mem_of_getElem? (i := 521) (by decide +kernel)⟩
theorem lw_p10 : lw_okq (⟨"ShiftLedger", "dueOf", "(LShiftLedger$Worker;I)I"⟩, 12) := ⟨⟨by decide +kernel, by decide +kernel⟩, List.mem_of_getElem? (i := 14) (by decide +kernel), List.mem_of_getElem? (i := 551) (by decide +kernel), List.mem_of_getElem? (i := 552) (by decide +kernel)⟩
theorem lw_p11 : lw_okq (⟨"ShiftLedger", "keepSayings", "(LShiftLedger$Worker;I)V"⟩, 12) := ⟨⟨by decide +kernel, by decide +kernel⟩, List.mem_of_getElem? (i := 14) (by decide +kernel), List.mem_of_getElem? (i := 566) (by decide +kernel), List.mem_of_getElem? (i := 567) (by decide +kernel)⟩
theorem lw_p12 : lw_okq (⟨"ShiftLedger", "openFlex", "(LShiftLedger$Worker;I)J"⟩, 12) := ⟨⟨by decide +kernel, by decide +kernel⟩, List.mem_of_getElem? (i := 14) (by decide +kernel), List.mem_of_getElem? (i := 570) (by decide +kernel), List.mem_of_getElem? (i := 571) (by decide +kernel)⟩
theorem lw_p13 : lw_okq (⟨"ShiftLedger", "sayingOf", "(LShiftLedger$Worker;II)J"⟩, 12) := ⟨⟨by decide +kernel, by decide +kernel⟩, List.mem_of_getElem? (i := 14) (by decide +kernel), List.mem_of_getElem? (i := 592) (by decide +kernel), List.mem_of_getElem? (i := 593) (by decide +kernel)⟩
theorem lw_p14 : lw_okq (⟨"ShiftLedgerModel", "isWorker", "(I)Z"⟩, 47) := ⟨⟨by decide +kernel, by decide +kernel⟩, List.mem_of_getElem? (i := 621) (by decide +kernel), List.mem_of_getElem? (i := 802) (by decide +kernel), List.mem_of_getElem? (i := 803) (by decide +kernel)⟩
theorem lw_p15 : lw_okq (⟨"ShiftLedgerModel", "pair", "(I)V"⟩, 47) := ⟨⟨by decide +kernel, by decide +kernel⟩, List.mem_of_getElem? (i := 621) (by decide +kernel), List.mem_of_getElem? (i := 816) (by decide +kernel), List.mem_of_getElem? (i := 817) (by decide +kernel)⟩
def lw_privs_1 : List (MethodName × Nat) := [(⟨"ShiftLedger", "findGroup", "(I)LShiftLedger$Group;"⟩, 12), (⟨"ShiftLedger", "findRules", "(I)LShiftLedger$Rules;"⟩, 12), (⟨"ShiftLedger", "findWorker", "(I)LShiftLedger$Worker;"⟩, 12), (⟨"ShiftLedger", "enter", "(IIIIZ)I"⟩, 12), (⟨"ShiftLedger", "isClosed", "(I)Z"⟩, 12), (⟨"ShiftLedger", "bookClosedDays", "(LShiftLedger$Worker;I)V"⟩, 12), (⟨"ShiftLedger", "tallyDays", "(LShiftLedger$Worker;II)V"⟩, 12), (⟨"ShiftLedger", "kindOf", "(LShiftLedger$Group;I)I"⟩, 12), (⟨"ShiftLedger", "payOfSheet", "(LShiftLedger$Group;I)J"⟩, 12), (⟨"ShiftLedger", "fillSheet", "(LShiftLedger$Worker;I)V"⟩, 12), (⟨"ShiftLedger", "dueOf", "(LShiftLedger$Worker;I)I"⟩, 12), (⟨"ShiftLedger", "keepSayings", "(LShiftLedger$Worker;I)V"⟩, 12), (⟨"ShiftLedger", "openFlex", "(LShiftLedger$Worker;I)J"⟩, 12), (⟨"ShiftLedger", "sayingOf", "(LShiftLedger$Worker;II)J"⟩, 12), (⟨"ShiftLedgerModel", "isWorker", "(I)Z"⟩, 47), (⟨"ShiftLedgerModel", "pair", "(I)V"⟩, 47)]
theorem lw_r1 : ∀ q ∈ lw_privs_1, lw_okq q := List.forall_mem_cons.mpr ⟨lw_p0, List.forall_mem_cons.mpr ⟨lw_p1, List.forall_mem_cons.mpr ⟨lw_p2, List.forall_mem_cons.mpr ⟨lw_p3, List.forall_mem_cons.mpr ⟨lw_p4, List.forall_mem_cons.mpr ⟨lw_p5, List.forall_mem_cons.mpr ⟨lw_p6, List.forall_mem_cons.mpr ⟨lw_p7, List.forall_mem_cons.mpr ⟨lw_p8, List.forall_mem_cons.mpr ⟨lw_p9, List.forall_mem_cons.mpr ⟨lw_p10, List.forall_mem_cons.mpr ⟨lw_p11, List.forall_mem_cons.mpr ⟨lw_p12, List.forall_mem_cons.mpr ⟨lw_p13, List.forall_mem_cons.mpr ⟨lw_p14, List.forall_mem_cons.mpr ⟨lw_p15, fun _ h => absurd h List.not_mem_nil⟩⟩⟩⟩⟩⟩⟩⟩⟩⟩⟩⟩⟩⟩⟩⟩
theorem lw_p16 : lw_okq (⟨"ShiftLedgerModel", "says", "(III)J"⟩, 47) := ⟨⟨by decide +kernel, by decide +kernel⟩, List.mem_of_getElem? (i := 621) (by decide +kernel), List.mem_of_getElem? (i := 820) (by decide +kernel), List.mem_of_getElem? (i := 821) (by decide +kernel)⟩
theorem lw_p17 : lw_okq (⟨"ShiftLedgerModel", "flexOf", "(II)J"⟩, 47) := ⟨⟨by decide +kernel, by decide +kernel⟩, List.mem_of_getElem? (i := 621) (by decide +kernel), List.mem_of_getElem? (i := 824) (by decide +kernel), List.mem_of_getElem? (i := 825) (by decide +kernel)⟩
theorem lw_p18 : lw_okq (⟨"ShiftLedgerModel", "sumDays", "(III)V"⟩, 47) := ⟨⟨by decide +kernel, by decide +kernel⟩, List.mem_of_getElem? (i := 621) (by decide +kernel), List.mem_of_getElem? (i := 828) (by decide +kernel), List.mem_of_getElem? (i := 829) (by decide +kernel)⟩
theorem lw_p19 : lw_okq (⟨"ShiftLedgerModel", "look", "(II)V"⟩, 47) := ⟨⟨by decide +kernel, by decide +kernel⟩, List.mem_of_getElem? (i := 621) (by decide +kernel), List.mem_of_getElem? (i := 832) (by decide +kernel), List.mem_of_getElem? (i := 833) (by decide +kernel)⟩
theorem lw_p20 : lw_okq (⟨"ShiftLedgerModel", "fill", "(III)V"⟩, 47) := ⟨⟨by decide +kernel, by decide +kernel⟩, List.mem_of_getElem? (i := 621) (by decide +kernel), List.mem_of_getElem? (i := 836) (by decide +kernel), List.mem_of_getElem? (i := 837) (by decide +kernel)⟩
theorem lw_p21 : lw_okq (⟨"ShiftLedgerModel", "kindOf", "(II)I"⟩, 47) := ⟨⟨by decide +kernel, by decide +kernel⟩, List.mem_of_getElem? (i := 621) (by decide +kernel), List.mem_of_getElem? (i := 840) (by decide +kernel), List.mem_of_getElem? (i := 841) (by decide +kernel)⟩
theorem lw_p22 : lw_okq (⟨"ShiftLedgerModel", "lay", "(IIII)V"⟩, 47) := ⟨⟨by decide +kernel, by decide +kernel⟩, List.mem_of_getElem? (i := 621) (by decide +kernel), List.mem_of_getElem? (i := 844) (by decide +kernel), List.mem_of_getElem? (i := 845) (by decide +kernel)⟩
theorem lw_p23 : lw_okq (⟨"ShiftLedgerModel", "there", "()I"⟩, 47) := ⟨⟨by decide +kernel, by decide +kernel⟩, List.mem_of_getElem? (i := 621) (by decide +kernel), List.mem_of_getElem? (i := 848) (by decide +kernel), List.mem_of_getElem? (i := 849) (by decide +kernel)⟩
theorem lw_p24 : lw_okq (⟨"ShiftLedgerModel", "behind", "(II)V"⟩, 47) := ⟨⟨by decide +kernel, by decide +kernel⟩, List.mem_of_getElem? (i := 621) (by decide +kernel), List.mem_of_getElem? (i := 852) (by decide +kernel), List.mem_of_getElem? (i := 853) (by decide +kernel)⟩
theorem lw_p25 : lw_okq (⟨"ShiftLedgerModel", "paid", "()I"⟩, 47) := ⟨⟨by decide +kernel, by decide +kernel⟩, List.mem_of_getElem? (i := 621) (by decide +kernel), List.mem_of_getElem? (i := 856) (by decide +kernel), List.mem_of_getElem? (i := 857) (by decide +kernel)⟩
theorem lw_p26 : lw_okq (⟨"ShiftLedgerModel", "pay", "(II)J"⟩, 47) := ⟨⟨by decide +kernel, by decide +kernel⟩, List.mem_of_getElem? (i := 621) (by decide +kernel), List.mem_of_getElem? (i := 860) (by decide +kernel), List.mem_of_getElem? (i := 861) (by decide +kernel)⟩
theorem lw_p27 : lw_okq (⟨"ShiftLedgerModel", "countsAt", "(III)Z"⟩, 47) := ⟨⟨by decide +kernel, by decide +kernel⟩, List.mem_of_getElem? (i := 621) (by decide +kernel), List.mem_of_getElem? (i := 864) (by decide +kernel), List.mem_of_getElem? (i := 865) (by decide +kernel)⟩
theorem lw_p28 : lw_okq (⟨"ShiftLedgerModel", "meets", "(III)Z"⟩, 47) := ⟨⟨by decide +kernel, by decide +kernel⟩, List.mem_of_getElem? (i := 621) (by decide +kernel), List.mem_of_getElem? (i := 868) (by decide +kernel), List.mem_of_getElem? (i := 869) (by decide +kernel)⟩
theorem lw_p29 : lw_okq (⟨"ShiftLedgerModel", "rateOf", "(II)I"⟩, 47) := ⟨⟨by decide +kernel, by decide +kernel⟩, List.mem_of_getElem? (i := 621) (by decide +kernel), List.mem_of_getElem? (i := 872) (by decide +kernel), List.mem_of_getElem? (i := 873) (by decide +kernel)⟩
theorem lw_p30 : lw_okq (⟨"ShiftLedgerModel", "dueOf", "(II)I"⟩, 47) := ⟨⟨by decide +kernel, by decide +kernel⟩, List.mem_of_getElem? (i := 621) (by decide +kernel), List.mem_of_getElem? (i := 879) (by decide +kernel), List.mem_of_getElem? (i := 880) (by decide +kernel)⟩
theorem lw_p31 : lw_okq (⟨"ShiftLedgerModel", "comes", "(IIIIZ)I"⟩, 47) := ⟨⟨by decide +kernel, by decide +kernel⟩, List.mem_of_getElem? (i := 621) (by decide +kernel), List.mem_of_getElem? (i := 891) (by decide +kernel), List.mem_of_getElem? (i := 892) (by decide +kernel)⟩
def lw_privs_2 : List (MethodName × Nat) := [(⟨"ShiftLedgerModel", "says", "(III)J"⟩, 47), (⟨"ShiftLedgerModel", "flexOf", "(II)J"⟩, 47), (⟨"ShiftLedgerModel", "sumDays", "(III)V"⟩, 47), (⟨"ShiftLedgerModel", "look", "(II)V"⟩, 47), (⟨"ShiftLedgerModel", "fill", "(III)V"⟩, 47), (⟨"ShiftLedgerModel", "kindOf", "(II)I"⟩, 47), (⟨"ShiftLedgerModel", "lay", "(IIII)V"⟩, 47), (⟨"ShiftLedgerModel", "there", "()I"⟩, 47), (⟨"ShiftLedgerModel", "behind", "(II)V"⟩, 47), (⟨"ShiftLedgerModel", "paid", "()I"⟩, 47), (⟨"ShiftLedgerModel", "pay", "(II)J"⟩, 47), (⟨"ShiftLedgerModel", "countsAt", "(III)Z"⟩, 47), (⟨"ShiftLedgerModel", "meets", "(III)Z"⟩, 47), (⟨"ShiftLedgerModel", "rateOf", "(II)I"⟩, 47), (⟨"ShiftLedgerModel", "dueOf", "(II)I"⟩, 47), (⟨"ShiftLedgerModel", "comes", "(IIIIZ)I"⟩, 47)]
theorem lw_r2 : ∀ q ∈ lw_privs_2, lw_okq q := List.forall_mem_cons.mpr ⟨lw_p16, List.forall_mem_cons.mpr ⟨lw_p17, List.forall_mem_cons.mpr ⟨lw_p18, List.forall_mem_cons.mpr ⟨lw_p19, List.forall_mem_cons.mpr ⟨lw_p20, List.forall_mem_cons.mpr ⟨lw_p21, List.forall_mem_cons.mpr ⟨lw_p22, List.forall_mem_cons.mpr ⟨lw_p23, List.forall_mem_cons.mpr ⟨lw_p24, List.forall_mem_cons.mpr ⟨lw_p25, List.forall_mem_cons.mpr ⟨lw_p26, List.forall_mem_cons.mpr ⟨lw_p27, List.forall_mem_cons.mpr ⟨lw_p28, List.forall_mem_cons.mpr ⟨lw_p29, List.forall_mem_cons.mpr ⟨lw_p30, List.forall_mem_cons.mpr ⟨lw_p31, fun _ h => absurd h List.not_mem_nil⟩⟩⟩⟩⟩⟩⟩⟩⟩⟩⟩⟩⟩⟩⟩⟩
theorem lw_p32 : lw_okq (⟨"ShiftLedgerModel", "markAt", "(II)I"⟩, 47) := ⟨⟨by decide +kernel, by decide +kernel⟩, List.mem_of_getElem? (i := 621) (by decide +kernel), List.mem_of_getElem? (i := 895) (by decide +kernel), List.mem_of_getElem? (i := 896) (by decide +kernel)⟩
theorem lw_p33 : lw_okq (⟨"ShiftLedgerModel", "isMark", "(III)Z"⟩, 47) := ⟨⟨by decide +kernel, by decide +kernel⟩, List.mem_of_getElem? (i := 621) (by decide +kernel), List.mem_of_getElem? (i := 899) (by decide +kernel), List.mem_of_getElem? (i := 900) (by decide +kernel)⟩
theorem lw_p34 : lw_okq (⟨"ShiftLedgerModel", "book", "(IJ)V"⟩, 47) := ⟨⟨by decide +kernel, by decide +kernel⟩, List.mem_of_getElem? (i := 621) (by decide +kernel), List.mem_of_getElem? (i := 907) (by decide +kernel), List.mem_of_getElem? (i := 908) (by decide +kernel)⟩
theorem lw_p35 : lw_okq (⟨"ShiftLedgerModel", "looks", "(II)Z"⟩, 47) := ⟨⟨by decide +kernel, by decide +kernel⟩, List.mem_of_getElem? (i := 621) (by decide +kernel), List.mem_of_getElem? (i := 935) (by decide +kernel), List.mem_of_getElem? (i := 936) (by decide +kernel)⟩
def lw_privs_3 : List (MethodName × Nat) := [(⟨"ShiftLedgerModel", "markAt", "(II)I"⟩, 47), (⟨"ShiftLedgerModel", "isMark", "(III)Z"⟩, 47), (⟨"ShiftLedgerModel", "book", "(IJ)V"⟩, 47), (⟨"ShiftLedgerModel", "looks", "(II)Z"⟩, 47)]
theorem lw_r3 : ∀ q ∈ lw_privs_3, lw_okq q := List.forall_mem_cons.mpr ⟨lw_p32, List.forall_mem_cons.mpr ⟨lw_p33, List.forall_mem_cons.mpr ⟨lw_p34, List.forall_mem_cons.mpr ⟨lw_p35, fun _ h => absurd h List.not_mem_nil⟩⟩⟩⟩
def lw_privs : List (MethodName × Nat) := lw_privs_1 ++ (lw_privs_2 ++ (lw_privs_3))
def lw_tbl : List Cond := k2_sels lw_privs ++ tables_1
theorem lw_privs_ok : ∀ q ∈ lw_privs, lw_okq q := by
  show ∀ q ∈ lw_privs_1 ++ (lw_privs_2 ++ (lw_privs_3)), lw_okq q
  exact List.forall_mem_append.mpr ⟨lw_r1, List.forall_mem_append.mpr ⟨lw_r2, lw_r3⟩⟩

/-! ===== BEGIN words of one list among another's, by their places ===== -/
theorem goodIn_r {big : List Cond} (ws : List Cond) (ps : List Nat) (hp : ws = ps.filterMap (fun i => big[i]?)) (h : ws.all goodWord = true) : GoodIn big ws := by
  intro w hw
  have h1 := List.all_eq_true.mp h w hw
  rw [hp] at hw
  obtain ⟨i, -, hi⟩ := List.mem_filterMap.mp hw
  have hm : w ∈ big := by first | exact List.mem_of_getElem? hi | exact List.getElem?_mem hi
  exact ⟨hm, good_of_word h1⟩
theorem goodIn_app {big a b : List Cond} (ha : GoodIn big a) (hb : GoodIn big b) : GoodIn big (a ++ b) := fun w h => (List.mem_append.mp h).elim (ha w) (hb w)
theorem goodIn_ca {big a b : List Cond} {c : Cond} (ha : GoodIn big (c :: a)) (hb : GoodIn big b) : GoodIn big (c :: (a ++ b)) := fun w h => (List.mem_cons.mp h).elim (fun e => ha w (List.mem_cons.mpr (Or.inl e))) (fun h => (List.mem_append.mp h).elim (fun h => ha w (List.mem_cons.mpr (Or.inr h))) (hb w))
theorem goodIn_sub {big ws : List Cond} (hm : ∀ w ∈ ws, w ∈ big) (h : ws.all goodWord = true) : GoodIn big ws := fun w hw => ⟨hm w hw, good_of_word (List.all_eq_true.mp h w hw)⟩
/-! ===== END ===== -/
/-! ===== BEGIN printed: names, fields, word lists, decode rows ===== -/
def RX0 : String := "ShiftLedger$Group"
def TX0 : u_T := fun k => match k with
  | 0 => ("ShiftLedger$Group", "number", "I", true)
  | 1 => ("ShiftLedger$Group", "kinds", "[I", true)
  | 2 => ("ShiftLedger$Group", "targets", "[I", true)
  | 3 => ("ShiftLedger$Group", "low", "I", false)
  | _ => ("ShiftLedger$Group", "high", "I", false)
def tyX0 : Nat → FieldType := fun k => match k with
  | 0 => .int
  | 1 => .array .int
  | 2 => .array .int
  | 3 => .int
  | _ => .int
abbrev wsX00 : List Cond := u_ws RX0 TX0 5
theorem nmX0 : ∀ a, a < 5 → ∀ b, b < 5 → a ≠ b → (TX0 a).2.1 ≠ (TX0 b).2.1 := by decide +kernel
theorem tyX0_ok : ∀ k, k < 5 → parseFieldDescriptor (TX0 k).2.2.1 = some (tyX0 k) := by decide +kernel
abbrev cX0_init : ByteArray := prog_2_method_1_code
def yX0_init : MethodName := ⟨RX0, "<init>", "(I)V"⟩
def RX1 : String := "ShiftLedger$Marks"
def TX1 : u_T := fun k => match k with
  | 0 => ("ShiftLedger$Marks", "times", "[I", true)
  | 1 => ("ShiftLedger$Marks", "sorts", "[I", true)
  | 2 => ("ShiftLedger$Marks", "roles", "[I", true)
  | _ => ("ShiftLedger$Marks", "size", "I", false)
def tyX1 : Nat → FieldType := fun k => match k with
  | 0 => .array .int
  | 1 => .array .int
  | 2 => .array .int
  | _ => .int
abbrev wsX10 : List Cond := u_ws RX1 TX1 4
theorem nmX1 : ∀ a, a < 4 → ∀ b, b < 4 → a ≠ b → (TX1 a).2.1 ≠ (TX1 b).2.1 := by decide +kernel
theorem tyX1_ok : ∀ k, k < 4 → parseFieldDescriptor (TX1 k).2.2.1 = some (tyX1 k) := by decide +kernel
abbrev cX1_init : ByteArray := prog_3_method_1_code
def yX1_init : MethodName := ⟨RX1, "<init>", "()V"⟩
abbrev cX1_placeOf : ByteArray := prog_3_method_2_code
def yX1_placeOf : MethodName := ⟨RX1, "placeOf", "(I)I"⟩
abbrev cX1_standsAt : ByteArray := prog_3_method_3_code
def yX1_standsAt : MethodName := ⟨RX1, "standsAt", "(I)Z"⟩
abbrev cX1_dayOf : ByteArray := prog_3_method_4_code
def yX1_dayOf : MethodName := ⟨RX1, "dayOf", "(I)I"⟩
abbrev cX1_insert : ByteArray := prog_3_method_5_code
def yX1_insert : MethodName := ⟨RX1, "insert", "(II)V"⟩
abbrev cX1_remove : ByteArray := prog_3_method_6_code
def yX1_remove : MethodName := ⟨RX1, "remove", "(I)V"⟩
abbrev cX1_pairUp : ByteArray := prog_3_method_7_code
def yX1_pairUp : MethodName := ⟨RX1, "pairUp", "()V"⟩
abbrev cX1_nextState : ByteArray := prog_3_method_8_code
def yX1_nextState : MethodName := ⟨RX1, "nextState", "(II)I"⟩
abbrev cX1_endOf : ByteArray := prog_3_method_9_code
def yX1_endOf : MethodName := ⟨RX1, "endOf", "(I)I"⟩
abbrev cX1_amountOf : ByteArray := prog_3_method_10_code
def yX1_amountOf : MethodName := ⟨RX1, "amountOf", "(III)I"⟩
def RX2 : String := "ShiftLedger$Rates"
def TX2 : u_T := fun k => match k with
  | 0 => ("ShiftLedger$Rates", "groups", "[I", true)
  | 1 => ("ShiftLedger$Rates", "days", "[I", true)
  | 2 => ("ShiftLedger$Rates", "amounts", "[I", true)
  | _ => ("ShiftLedger$Rates", "size", "I", false)
def tyX2 : Nat → FieldType := fun k => match k with
  | 0 => .array .int
  | 1 => .array .int
  | 2 => .array .int
  | _ => .int
abbrev wsX20 : List Cond := u_ws RX2 TX2 4
theorem nmX2 : ∀ a, a < 4 → ∀ b, b < 4 → a ≠ b → (TX2 a).2.1 ≠ (TX2 b).2.1 := by decide +kernel
theorem tyX2_ok : ∀ k, k < 4 → parseFieldDescriptor (TX2 k).2.2.1 = some (tyX2 k) := by decide +kernel
abbrev cX2_init : ByteArray := prog_4_method_1_code
def yX2_init : MethodName := ⟨RX2, "<init>", "()V"⟩
abbrev cX2_add : ByteArray := prog_4_method_2_code
def yX2_add : MethodName := ⟨RX2, "add", "(III)V"⟩
abbrev cX2_at : ByteArray := prog_4_method_3_code
def yX2_at : MethodName := ⟨RX2, "at", "(II)I"⟩
def RX3 : String := "ShiftLedger$Rules"
def TX3 : u_T := fun k => match k with
  | 0 => ("ShiftLedger$Rules", "a", "[I", true)
  | _ => ("ShiftLedger$Rules", "b", "[I", true)
def tyX3 : Nat → FieldType := fun k => match k with
  | 0 => .array .int
  | _ => .array .int
abbrev wsX30 : List Cond := u_ws RX3 TX3 2
theorem nmX3 : ∀ a, a < 2 → ∀ b, b < 2 → a ≠ b → (TX3 a).2.1 ≠ (TX3 b).2.1 := by decide +kernel
theorem tyX3_ok : ∀ k, k < 2 → parseFieldDescriptor (TX3 k).2.2.1 = some (tyX3 k) := by decide +kernel
abbrev cX3_init : ByteArray := prog_5_method_1_code
def yX3_init : MethodName := ⟨RX3, "<init>", "()V"⟩
def RX4 : String := "ShiftLedger$Sheet"
def TX4 : u_T := fun k => match k with
  | 0 => ("ShiftLedger$Sheet", "from", "[I", true)
  | 1 => ("ShiftLedger$Sheet", "to", "[I", true)
  | 2 => ("ShiftLedger$Sheet", "classes", "[I", true)
  | _ => ("ShiftLedger$Sheet", "size", "I", false)
def tyX4 : Nat → FieldType := fun k => match k with
  | 0 => .array .int
  | 1 => .array .int
  | 2 => .array .int
  | _ => .int
abbrev wsX40 : List Cond := u_ws RX4 TX4 4
theorem nmX4 : ∀ a, a < 4 → ∀ b, b < 4 → a ≠ b → (TX4 a).2.1 ≠ (TX4 b).2.1 := by decide +kernel
theorem tyX4_ok : ∀ k, k < 4 → parseFieldDescriptor (TX4 k).2.2.1 = some (tyX4 k) := by decide +kernel
abbrev cX4_init : ByteArray := prog_6_method_1_code
def yX4_init : MethodName := ⟨RX4, "<init>", "()V"⟩
abbrev cX4_fill : ByteArray := prog_6_method_2_code
def yX4_fill : MethodName := ⟨RX4, "fill", "(LShiftLedger$Marks;IILShiftLedger$Rules;)V"⟩
abbrev cX4_layShift : ByteArray := prog_6_method_3_code
def yX4_layShift : MethodName := ⟨RX4, "layShift", "(LShiftLedger$Marks;II)V"⟩
abbrev cX4_add : ByteArray := prog_6_method_4_code
def yX4_add : MethodName := ⟨RX4, "add", "(III)V"⟩
abbrev cX4_takeOutside : ByteArray := prog_6_method_5_code
def yX4_takeOutside : MethodName := ⟨RX4, "takeOutside", "(IIII)V"⟩
abbrev cX4_turnBehind : ByteArray := prog_6_method_6_code
def yX4_turnBehind : MethodName := ⟨RX4, "turnBehind", "(II)V"⟩
abbrev cX4_cutAt : ByteArray := prog_6_method_7_code
def yX4_cutAt : MethodName := ⟨RX4, "cutAt", "(I)V"⟩
abbrev cX4_classAt : ByteArray := prog_6_method_8_code
def yX4_classAt : MethodName := ⟨RX4, "classAt", "(I)I"⟩
abbrev cX4_amountOf : ByteArray := prog_6_method_9_code
def yX4_amountOf : MethodName := ⟨RX4, "amountOf", "(II)I"⟩
def RX5 : String := "ShiftLedger$Surcharges"
def TX5 : u_T := fun k => match k with
  | 0 => ("ShiftLedger$Surcharges", "kinds", "[I", true)
  | 1 => ("ShiftLedger$Surcharges", "from", "[I", true)
  | 2 => ("ShiftLedger$Surcharges", "to", "[I", true)
  | 3 => ("ShiftLedger$Surcharges", "p", "[I", true)
  | 4 => ("ShiftLedger$Surcharges", "excluded", "[I", true)
  | _ => ("ShiftLedger$Surcharges", "size", "I", false)
def tyX5 : Nat → FieldType := fun k => match k with
  | 0 => .array .int
  | 1 => .array .int
  | 2 => .array .int
  | 3 => .array .int
  | 4 => .array .int
  | _ => .int
abbrev wsX50 : List Cond := u_ws RX5 TX5 6
theorem nmX5 : ∀ a, a < 6 → ∀ b, b < 6 → a ≠ b → (TX5 a).2.1 ≠ (TX5 b).2.1 := by decide +kernel
theorem tyX5_ok : ∀ k, k < 6 → parseFieldDescriptor (TX5 k).2.2.1 = some (tyX5 k) := by decide +kernel
abbrev cX5_init : ByteArray := prog_7_method_1_code
def yX5_init : MethodName := ⟨RX5, "<init>", "()V"⟩
abbrev cX5_has : ByteArray := prog_7_method_2_code
def yX5_has : MethodName := ⟨RX5, "has", "(I)Z"⟩
abbrev cX5_add : ByteArray := prog_7_method_3_code
def yX5_add : MethodName := ⟨RX5, "add", "(IIII)V"⟩
abbrev cX5_setApart : ByteArray := prog_7_method_4_code
def yX5_setApart : MethodName := ⟨RX5, "setApart", "(II)Z"⟩
abbrev cX5_meeting : ByteArray := prog_7_method_5_code
def yX5_meeting : MethodName := ⟨RX5, "meeting", "(II)I"⟩
abbrev cX5_spans : ByteArray := prog_7_method_6_code
def yX5_spans : MethodName := ⟨RX5, "spans", "(II)Z"⟩
abbrev cX5_countingOf : ByteArray := prog_7_method_7_code
def yX5_countingOf : MethodName := ⟨RX5, "countingOf", "(I)I"⟩
abbrev cX5_isBeaten : ByteArray := prog_7_method_8_code
def yX5_isBeaten : MethodName := ⟨RX5, "isBeaten", "(II)Z"⟩
abbrev cX5_extraOver : ByteArray := prog_7_method_9_code
def yX5_extraOver : MethodName := ⟨RX5, "extraOver", "(III)J"⟩
abbrev cX5_steadyFrom : ByteArray := prog_7_method_10_code
def yX5_steadyFrom : MethodName := ⟨RX5, "steadyFrom", "(I)I"⟩
abbrev cX5_wayTo : ByteArray := prog_7_method_11_code
def yX5_wayTo : MethodName := ⟨RX5, "wayTo", "(II)I"⟩
abbrev cX5_extraOf : ByteArray := prog_7_method_12_code
def yX5_extraOf : MethodName := ⟨RX5, "extraOf", "(I)I"⟩
def RX6 : String := "ShiftLedger$Tally"
def TX6 : u_T := fun k => match k with
  | 0 => ("ShiftLedger$Tally", "paid", "J", false)
  | _ => ("ShiftLedger$Tally", "cents", "J", false)
def tyX6 : Nat → FieldType := fun k => match k with
  | 0 => .long
  | _ => .long
abbrev wsX60 : List Cond := u_ws RX6 TX6 2
theorem nmX6 : ∀ a, a < 2 → ∀ b, b < 2 → a ≠ b → (TX6 a).2.1 ≠ (TX6 b).2.1 := by decide +kernel
theorem tyX6_ok : ∀ k, k < 2 → parseFieldDescriptor (TX6 k).2.2.1 = some (tyX6 k) := by decide +kernel
abbrev cX6_init : ByteArray := prog_8_method_1_code
def yX6_init : MethodName := ⟨RX6, "<init>", "()V"⟩
def RX7 : String := "ShiftLedger$Worker"
def TX7 : u_T := fun k => match k with
  | 0 => ("ShiftLedger$Worker", "group", "LShiftLedger$Group;", true)
  | 1 => ("ShiftLedger$Worker", "first", "I", true)
  | 2 => ("ShiftLedger$Worker", "marks", "LShiftLedger$Marks;", true)
  | 3 => ("ShiftLedger$Worker", "awayFrom", "[I", true)
  | 4 => ("ShiftLedger$Worker", "awayTo", "[I", true)
  | 5 => ("ShiftLedger$Worker", "absences", "I", false)
  | _ => ("ShiftLedger$Worker", "said", "[[J", true)
def tyX7 : Nat → FieldType := fun k => match k with
  | 0 => .object "ShiftLedger$Group"
  | 1 => .int
  | 2 => .object "ShiftLedger$Marks"
  | 3 => .array .int
  | 4 => .array .int
  | 5 => .int
  | _ => .array (.array .long)
abbrev wsX70 : List Cond := u_ws RX7 TX7 7
theorem nmX7 : ∀ a, a < 7 → ∀ b, b < 7 → a ≠ b → (TX7 a).2.1 ≠ (TX7 b).2.1 := by decide +kernel
theorem tyX7_ok : ∀ k, k < 7 → parseFieldDescriptor (TX7 k).2.2.1 = some (tyX7 k) := by decide +kernel
abbrev cX7_init : ByteArray := prog_9_method_1_code
def yX7_init : MethodName := ⟨RX7, "<init>", "(LShiftLedger$Group;I)V"⟩
abbrev cX7_addAbsence : ByteArray := prog_9_method_2_code
def yX7_addAbsence : MethodName := ⟨RX7, "addAbsence", "(II)V"⟩
abbrev cX7_isAway : ByteArray := prog_9_method_3_code
def yX7_isAway : MethodName := ⟨RX7, "isAway", "(I)Z"⟩
def RX8 : String := "ShiftLedger"
def TX8 : u_T := fun k => match k with
  | 0 => ("ShiftLedger", "feasts", "[Z", true)
  | 1 => ("ShiftLedger", "feastsTold", "I", false)
  | 2 => ("ShiftLedger", "groups", "[LShiftLedger$Group;", true)
  | 3 => ("ShiftLedger", "rules", "[LShiftLedger$Rules;", true)
  | 4 => ("ShiftLedger", "rates", "LShiftLedger$Rates;", true)
  | 5 => ("ShiftLedger", "surcharges", "LShiftLedger$Surcharges;", true)
  | 6 => ("ShiftLedger", "workers", "[LShiftLedger$Worker;", true)
  | 7 => ("ShiftLedger", "workersTold", "I", false)
  | 8 => ("ShiftLedger", "marksOfAll", "I", false)
  | 9 => ("ShiftLedger", "firstOpen", "I", false)
  | 10 => ("ShiftLedger", "sheet", "LShiftLedger$Sheet;", true)
  | _ => ("ShiftLedger", "tally", "LShiftLedger$Tally;", true)
def tyX8 : Nat → FieldType := fun k => match k with
  | 0 => .array .boolean
  | 1 => .int
  | 2 => .array (.object "ShiftLedger$Group")
  | 3 => .array (.object "ShiftLedger$Rules")
  | 4 => .object "ShiftLedger$Rates"
  | 5 => .object "ShiftLedger$Surcharges"
  | 6 => .array (.object "ShiftLedger$Worker")
  | 7 => .int
  | 8 => .int
  | 9 => .int
  | 10 => .object "ShiftLedger$Sheet"
  | _ => .object "ShiftLedger$Tally"
abbrev wsX80 : List Cond := u_ws RX8 TX8 12
theorem nmX8 : ∀ a, a < 12 → ∀ b, b < 12 → a ≠ b → (TX8 a).2.1 ≠ (TX8 b).2.1 := by decide +kernel
theorem tyX8_ok : ∀ k, k < 12 → parseFieldDescriptor (TX8 k).2.2.1 = some (tyX8 k) := by decide +kernel
abbrev cX8_init : ByteArray := prog_1_method_1_code
def yX8_init : MethodName := ⟨RX8, "<init>", "()V"⟩
abbrev cX8_worker : ByteArray := prog_1_method_2_code
def yX8_worker : MethodName := ⟨RX8, "worker", "(II)I"⟩
abbrev cX8_feast : ByteArray := prog_1_method_3_code
def yX8_feast : MethodName := ⟨RX8, "feast", "(I)I"⟩
abbrev cX8_kind : ByteArray := prog_1_method_4_code
def yX8_kind : MethodName := ⟨RX8, "kind", "(III)I"⟩
abbrev cX8_rule : ByteArray := prog_1_method_5_code
def yX8_rule : MethodName := ⟨RX8, "rule", "(IIII)I"⟩
abbrev cX8_rate : ByteArray := prog_1_method_6_code
def yX8_rate : MethodName := ⟨RX8, "rate", "(III)I"⟩
abbrev cX8_surcharge : ByteArray := prog_1_method_7_code
def yX8_surcharge : MethodName := ⟨RX8, "surcharge", "(IIII)I"⟩
abbrev cX8_exclude : ByteArray := prog_1_method_8_code
def yX8_exclude : MethodName := ⟨RX8, "exclude", "(II)I"⟩
abbrev cX8_target : ByteArray := prog_1_method_9_code
def yX8_target : MethodName := ⟨RX8, "target", "(III)I"⟩
abbrev cX8_limits : ByteArray := prog_1_method_10_code
def yX8_limits : MethodName := ⟨RX8, "limits", "(III)I"⟩
abbrev cX8_absent : ByteArray := prog_1_method_11_code
def yX8_absent : MethodName := ⟨RX8, "absent", "(III)I"⟩
abbrev cX8_mark : ByteArray := prog_1_method_12_code
def yX8_mark : MethodName := ⟨RX8, "mark", "(IIII)I"⟩
abbrev cX8_late : ByteArray := prog_1_method_13_code
def yX8_late : MethodName := ⟨RX8, "late", "(IIII)I"⟩
abbrev cX8_unmark : ByteArray := prog_1_method_14_code
def yX8_unmark : MethodName := ⟨RX8, "unmark", "(III)I"⟩
abbrev cX8_marked : ByteArray := prog_1_method_15_code
def yX8_marked : MethodName := ⟨RX8, "marked", "(III)I"⟩
abbrev cX8_day : ByteArray := prog_1_method_16_code
def yX8_day : MethodName := ⟨RX8, "day", "(III)I"⟩
abbrev cX8_shifts : ByteArray := prog_1_method_17_code
def yX8_shifts : MethodName := ⟨RX8, "shifts", "(III)I"⟩
abbrev cX8_minute : ByteArray := prog_1_method_18_code
def yX8_minute : MethodName := ⟨RX8, "minute", "(III)I"⟩
abbrev cX8_minutes : ByteArray := prog_1_method_19_code
def yX8_minutes : MethodName := ⟨RX8, "minutes", "(III)I"⟩
abbrev cX8_why : ByteArray := prog_1_method_20_code
def yX8_why : MethodName := ⟨RX8, "why", "(III)I"⟩
abbrev cX8_counts : ByteArray := prog_1_method_21_code
def yX8_counts : MethodName := ⟨RX8, "counts", "(IIIII)I"⟩
abbrev cX8_cents : ByteArray := prog_1_method_22_code
def yX8_cents : MethodName := ⟨RX8, "cents", "(II)J"⟩
abbrev cX8_due : ByteArray := prog_1_method_23_code
def yX8_due : MethodName := ⟨RX8, "due", "(II)I"⟩
abbrev cX8_close : ByteArray := prog_1_method_24_code
def yX8_close : MethodName := ⟨RX8, "close", "()I"⟩
abbrev cX8_open : ByteArray := prog_1_method_25_code
def yX8_open : MethodName := ⟨RX8, "open", "()I"⟩
abbrev cX8_month : ByteArray := prog_1_method_26_code
def yX8_month : MethodName := ⟨RX8, "month", "(III)J"⟩
abbrev cX8_sum : ByteArray := prog_1_method_27_code
def yX8_sum : MethodName := ⟨RX8, "sum", "(III)J"⟩
abbrev cX8_count : ByteArray := prog_1_method_28_code
def yX8_count : MethodName := ⟨RX8, "count", "(I)I"⟩
abbrev cX8_isWithin : ByteArray := prog_1_method_29_code
def yX8_isWithin : MethodName := ⟨RX8, "isWithin", "(III)Z"⟩
abbrev cX8_isDay : ByteArray := prog_1_method_30_code
def yX8_isDay : MethodName := ⟨RX8, "isDay", "(I)Z"⟩
abbrev cX8_isMonth : ByteArray := prog_1_method_31_code
def yX8_isMonth : MethodName := ⟨RX8, "isMonth", "(I)Z"⟩
abbrev cX8_isMinuteOfDay : ByteArray := prog_1_method_32_code
def yX8_isMinuteOfDay : MethodName := ⟨RX8, "isMinuteOfDay", "(I)Z"⟩
abbrev cX8_isRoundStep : ByteArray := prog_1_method_33_code
def yX8_isRoundStep : MethodName := ⟨RX8, "isRoundStep", "(I)Z"⟩
abbrev cX8_findWorker : ByteArray := prog_1_method_34_code
def yX8_findWorker : MethodName := ⟨RX8, "findWorker", "(I)LShiftLedger$Worker;"⟩
abbrev cX8_findGroup : ByteArray := prog_1_method_35_code
def yX8_findGroup : MethodName := ⟨RX8, "findGroup", "(I)LShiftLedger$Group;"⟩
abbrev cX8_findRules : ByteArray := prog_1_method_36_code
def yX8_findRules : MethodName := ⟨RX8, "findRules", "(I)LShiftLedger$Rules;"⟩
abbrev cX8_timeOf : ByteArray := prog_1_method_37_code
def yX8_timeOf : MethodName := ⟨RX8, "timeOf", "(II)I"⟩
abbrev cX8_monthOf : ByteArray := prog_1_method_38_code
def yX8_monthOf : MethodName := ⟨RX8, "monthOf", "(I)I"⟩
abbrev cX8_isClosed : ByteArray := prog_1_method_39_code
def yX8_isClosed : MethodName := ⟨RX8, "isClosed", "(I)Z"⟩
abbrev cX8_kindOf : ByteArray := prog_1_method_40_code
def yX8_kindOf : MethodName := ⟨RX8, "kindOf", "(LShiftLedger$Group;I)I"⟩
abbrev cX8_dueOf : ByteArray := prog_1_method_41_code
def yX8_dueOf : MethodName := ⟨RX8, "dueOf", "(LShiftLedger$Worker;I)I"⟩
abbrev cX8_enter : ByteArray := prog_1_method_42_code
def yX8_enter : MethodName := ⟨RX8, "enter", "(IIIIZ)I"⟩
abbrev cX8_bookClosedDays : ByteArray := prog_1_method_43_code
def yX8_bookClosedDays : MethodName := ⟨RX8, "bookClosedDays", "(LShiftLedger$Worker;I)V"⟩
abbrev cX8_fillSheet : ByteArray := prog_1_method_44_code
def yX8_fillSheet : MethodName := ⟨RX8, "fillSheet", "(LShiftLedger$Worker;I)V"⟩
abbrev cX8_tallyDays : ByteArray := prog_1_method_45_code
def yX8_tallyDays : MethodName := ⟨RX8, "tallyDays", "(LShiftLedger$Worker;II)V"⟩
abbrev cX8_payOfSheet : ByteArray := prog_1_method_46_code
def yX8_payOfSheet : MethodName := ⟨RX8, "payOfSheet", "(LShiftLedger$Group;I)J"⟩
abbrev cX8_toCents : ByteArray := prog_1_method_47_code
def yX8_toCents : MethodName := ⟨RX8, "toCents", "(J)J"⟩
abbrev cX8_hasGap : ByteArray := prog_1_method_48_code
def yX8_hasGap : MethodName := ⟨RX8, "hasGap", "(LShiftLedger$Worker;I)Z"⟩
abbrev cX8_sayingOf : ByteArray := prog_1_method_49_code
def yX8_sayingOf : MethodName := ⟨RX8, "sayingOf", "(LShiftLedger$Worker;II)J"⟩
abbrev cX8_openFlex : ByteArray := prog_1_method_50_code
def yX8_openFlex : MethodName := ⟨RX8, "openFlex", "(LShiftLedger$Worker;I)J"⟩
abbrev cX8_keepSayings : ByteArray := prog_1_method_51_code
def yX8_keepSayings : MethodName := ⟨RX8, "keepSayings", "(LShiftLedger$Worker;I)V"⟩
def RX9 : String := "ShiftLedgerModel"
def TX9 : u_T := fun k => match k with
  | 0 => ("ShiftLedgerModel", "thrown", "I", false)
  | 1 => ("ShiftLedgerModel", "feast", "[Z", true)
  | 2 => ("ShiftLedgerModel", "feasts", "I", false)
  | 3 => ("ShiftLedgerModel", "kinds", "[I", true)
  | 4 => ("ShiftLedgerModel", "ruleA", "[I", true)
  | 5 => ("ShiftLedgerModel", "ruleB", "[I", true)
  | 6 => ("ShiftLedgerModel", "rateGroup", "[I", true)
  | 7 => ("ShiftLedgerModel", "rateDay", "[I", true)
  | 8 => ("ShiftLedgerModel", "rateCents", "[I", true)
  | 9 => ("ShiftLedgerModel", "rates", "I", false)
  | 10 => ("ShiftLedgerModel", "sKinds", "[I", true)
  | 11 => ("ShiftLedgerModel", "sFrom", "[I", true)
  | 12 => ("ShiftLedgerModel", "sTo", "[I", true)
  | 13 => ("ShiftLedgerModel", "sP", "[I", true)
  | 14 => ("ShiftLedgerModel", "excludes", "[Z", true)
  | 15 => ("ShiftLedgerModel", "surcharges", "I", false)
  | 16 => ("ShiftLedgerModel", "targets", "[I", true)
  | 17 => ("ShiftLedgerModel", "low", "[I", true)
  | 18 => ("ShiftLedgerModel", "high", "[I", true)
  | 19 => ("ShiftLedgerModel", "workers", "I", false)
  | 20 => ("ShiftLedgerModel", "groupOf", "[I", true)
  | 21 => ("ShiftLedgerModel", "firstOf", "[I", true)
  | 22 => ("ShiftLedgerModel", "absences", "[I", true)
  | 23 => ("ShiftLedgerModel", "absentFrom", "[I", true)
  | 24 => ("ShiftLedgerModel", "absentTo", "[I", true)
  | 25 => ("ShiftLedgerModel", "marks", "[I", true)
  | 26 => ("ShiftLedgerModel", "allMarks", "I", false)
  | 27 => ("ShiftLedgerModel", "time", "[I", true)
  | 28 => ("ShiftLedgerModel", "sort", "[I", true)
  | 29 => ("ShiftLedgerModel", "role", "[I", true)
  | 30 => ("ShiftLedgerModel", "shifts", "I", false)
  | 31 => ("ShiftLedgerModel", "begin", "[I", true)
  | 32 => ("ShiftLedgerModel", "end", "[I", true)
  | 33 => ("ShiftLedgerModel", "firstMark", "[I", true)
  | 34 => ("ShiftLedgerModel", "lastMark", "[I", true)
  | 35 => ("ShiftLedgerModel", "gap", "[Z", true)
  | 36 => ("ShiftLedgerModel", "sorts", "[I", true)
  | 37 => ("ShiftLedgerModel", "left", "[I", true)
  | 38 => ("ShiftLedgerModel", "rests", "I", false)
  | 39 => ("ShiftLedgerModel", "closed", "I", false)
  | 40 => ("ShiftLedgerModel", "saidPaid", "[J", true)
  | 41 => ("ShiftLedgerModel", "saidCents", "[J", true)
  | 42 => ("ShiftLedgerModel", "saidFlex", "[J", true)
  | 43 => ("ShiftLedgerModel", "bookedPaid", "[J", true)
  | 44 => ("ShiftLedgerModel", "bookedCents", "[J", true)
  | 45 => ("ShiftLedgerModel", "sumPaid", "J", false)
  | _ => ("ShiftLedgerModel", "sumCents", "J", false)
def tyX9 : Nat → FieldType := fun k => match k with
  | 0 => .int
  | 1 => .array .boolean
  | 2 => .int
  | 3 => .array .int
  | 4 => .array .int
  | 5 => .array .int
  | 6 => .array .int
  | 7 => .array .int
  | 8 => .array .int
  | 9 => .int
  | 10 => .array .int
  | 11 => .array .int
  | 12 => .array .int
  | 13 => .array .int
  | 14 => .array .boolean
  | 15 => .int
  | 16 => .array .int
  | 17 => .array .int
  | 18 => .array .int
  | 19 => .int
  | 20 => .array .int
  | 21 => .array .int
  | 22 => .array .int
  | 23 => .array .int
  | 24 => .array .int
  | 25 => .array .int
  | 26 => .int
  | 27 => .array .int
  | 28 => .array .int
  | 29 => .array .int
  | 30 => .int
  | 31 => .array .int
  | 32 => .array .int
  | 33 => .array .int
  | 34 => .array .int
  | 35 => .array .boolean
  | 36 => .array .int
  | 37 => .array .int
  | 38 => .int
  | 39 => .int
  | 40 => .array .long
  | 41 => .array .long
  | 42 => .array .long
  | 43 => .array .long
  | 44 => .array .long
  | 45 => .long
  | _ => .long
abbrev wsX90 : List Cond := u_ws RX9 TX9 47
theorem nmX9 : ∀ a, a < 47 → ∀ b, b < 47 → a ≠ b → (TX9 a).2.1 ≠ (TX9 b).2.1 := by decide +kernel
theorem tyX9_ok : ∀ k, k < 47 → parseFieldDescriptor (TX9 k).2.2.1 = some (tyX9 k) := by decide +kernel
abbrev cX9_in : ByteArray := prog_11_method_2_code
def yX9_in : MethodName := ⟨RX9, "in", "(III)Z"⟩
abbrev cX9_length : ByteArray := prog_11_method_3_code
def yX9_length : MethodName := ⟨RX9, "length", "(I)I"⟩
abbrev cX9_firstDay : ByteArray := prog_11_method_4_code
def yX9_firstDay : MethodName := ⟨RX9, "firstDay", "(I)I"⟩
abbrev cX9_monthOf : ByteArray := prog_11_method_5_code
def yX9_monthOf : MethodName := ⟨RX9, "monthOf", "(I)I"⟩
abbrev cX9_isDay : ByteArray := prog_11_method_6_code
def yX9_isDay : MethodName := ⟨RX9, "isDay", "(I)Z"⟩
abbrev cX9_isGroup : ByteArray := prog_11_method_7_code
def yX9_isGroup : MethodName := ⟨RX9, "isGroup", "(I)Z"⟩
abbrev cX9_isWorker : ByteArray := prog_11_method_8_code
def yX9_isWorker : MethodName := ⟨RX9, "isWorker", "(I)Z"⟩
abbrev cX9_kindOf : ByteArray := prog_11_method_9_code
def yX9_kindOf : MethodName := ⟨RX9, "kindOf", "(II)I"⟩
abbrev cX9_feast : ByteArray := prog_11_method_10_code
def yX9_feast : MethodName := ⟨RX9, "feast", "(I)I"⟩
abbrev cX9_kind : ByteArray := prog_11_method_11_code
def yX9_kind : MethodName := ⟨RX9, "kind", "(III)I"⟩
abbrev cX9_init : ByteArray := prog_11_method_12_code
def yX9_init : MethodName := ⟨RX9, "<init>", "()V"⟩
abbrev cX9_rule : ByteArray := prog_11_method_13_code
def yX9_rule : MethodName := ⟨RX9, "rule", "(IIII)I"⟩
abbrev cX9_rate : ByteArray := prog_11_method_14_code
def yX9_rate : MethodName := ⟨RX9, "rate", "(III)I"⟩
abbrev cX9_rateOf : ByteArray := prog_11_method_15_code
def yX9_rateOf : MethodName := ⟨RX9, "rateOf", "(II)I"⟩
abbrev cX9_surcharge : ByteArray := prog_11_method_16_code
def yX9_surcharge : MethodName := ⟨RX9, "surcharge", "(IIII)I"⟩
abbrev cX9_exclude : ByteArray := prog_11_method_17_code
def yX9_exclude : MethodName := ⟨RX9, "exclude", "(II)I"⟩
abbrev cX9_target : ByteArray := prog_11_method_18_code
def yX9_target : MethodName := ⟨RX9, "target", "(III)I"⟩
abbrev cX9_limits : ByteArray := prog_11_method_19_code
def yX9_limits : MethodName := ⟨RX9, "limits", "(III)I"⟩
abbrev cX9_worker : ByteArray := prog_11_method_20_code
def yX9_worker : MethodName := ⟨RX9, "worker", "(II)I"⟩
abbrev cX9_absent : ByteArray := prog_11_method_21_code
def yX9_absent : MethodName := ⟨RX9, "absent", "(III)I"⟩
abbrev cX9_dueOf : ByteArray := prog_11_method_22_code
def yX9_dueOf : MethodName := ⟨RX9, "dueOf", "(II)I"⟩
abbrev cX9_pair : ByteArray := prog_11_method_23_code
def yX9_pair : MethodName := ⟨RX9, "pair", "(I)V"⟩
abbrev cX9_fill : ByteArray := prog_11_method_24_code
def yX9_fill : MethodName := ⟨RX9, "fill", "(III)V"⟩
abbrev cX9_lay : ByteArray := prog_11_method_25_code
def yX9_lay : MethodName := ⟨RX9, "lay", "(IIII)V"⟩
abbrev cX9_there : ByteArray := prog_11_method_26_code
def yX9_there : MethodName := ⟨RX9, "there", "()I"⟩
abbrev cX9_look : ByteArray := prog_11_method_27_code
def yX9_look : MethodName := ⟨RX9, "look", "(II)V"⟩
abbrev cX9_behind : ByteArray := prog_11_method_28_code
def yX9_behind : MethodName := ⟨RX9, "behind", "(II)V"⟩
abbrev cX9_paid : ByteArray := prog_11_method_29_code
def yX9_paid : MethodName := ⟨RX9, "paid", "()I"⟩
abbrev cX9_meets : ByteArray := prog_11_method_30_code
def yX9_meets : MethodName := ⟨RX9, "meets", "(III)Z"⟩
abbrev cX9_countsAt : ByteArray := prog_11_method_31_code
def yX9_countsAt : MethodName := ⟨RX9, "countsAt", "(III)Z"⟩
abbrev cX9_pay : ByteArray := prog_11_method_32_code
def yX9_pay : MethodName := ⟨RX9, "pay", "(II)J"⟩
abbrev cX9_sumDays : ByteArray := prog_11_method_33_code
def yX9_sumDays : MethodName := ⟨RX9, "sumDays", "(III)V"⟩
abbrev cX9_flexOf : ByteArray := prog_11_method_34_code
def yX9_flexOf : MethodName := ⟨RX9, "flexOf", "(II)J"⟩
abbrev cX9_says : ByteArray := prog_11_method_35_code
def yX9_says : MethodName := ⟨RX9, "says", "(III)J"⟩
abbrev cX9_close : ByteArray := prog_11_method_36_code
def yX9_close : MethodName := ⟨RX9, "close", "()I"⟩
abbrev cX9_open : ByteArray := prog_11_method_37_code
def yX9_open : MethodName := ⟨RX9, "open", "()I"⟩
abbrev cX9_markAt : ByteArray := prog_11_method_38_code
def yX9_markAt : MethodName := ⟨RX9, "markAt", "(II)I"⟩
abbrev cX9_isMark : ByteArray := prog_11_method_39_code
def yX9_isMark : MethodName := ⟨RX9, "isMark", "(III)Z"⟩
abbrev cX9_comes : ByteArray := prog_11_method_40_code
def yX9_comes : MethodName := ⟨RX9, "comes", "(IIIIZ)I"⟩
abbrev cX9_book : ByteArray := prog_11_method_41_code
def yX9_book : MethodName := ⟨RX9, "book", "(IJ)V"⟩
abbrev cX9_mark : ByteArray := prog_11_method_42_code
def yX9_mark : MethodName := ⟨RX9, "mark", "(IIII)I"⟩
abbrev cX9_late : ByteArray := prog_11_method_43_code
def yX9_late : MethodName := ⟨RX9, "late", "(IIII)I"⟩
abbrev cX9_unmark : ByteArray := prog_11_method_44_code
def yX9_unmark : MethodName := ⟨RX9, "unmark", "(III)I"⟩
abbrev cX9_marked : ByteArray := prog_11_method_45_code
def yX9_marked : MethodName := ⟨RX9, "marked", "(III)I"⟩
abbrev cX9_day : ByteArray := prog_11_method_46_code
def yX9_day : MethodName := ⟨RX9, "day", "(III)I"⟩
abbrev cX9_shifts : ByteArray := prog_11_method_47_code
def yX9_shifts : MethodName := ⟨RX9, "shifts", "(III)I"⟩
abbrev cX9_looks : ByteArray := prog_11_method_48_code
def yX9_looks : MethodName := ⟨RX9, "looks", "(II)Z"⟩
abbrev cX9_minute : ByteArray := prog_11_method_49_code
def yX9_minute : MethodName := ⟨RX9, "minute", "(III)I"⟩
abbrev cX9_minutes : ByteArray := prog_11_method_50_code
def yX9_minutes : MethodName := ⟨RX9, "minutes", "(III)I"⟩
abbrev cX9_why : ByteArray := prog_11_method_51_code
def yX9_why : MethodName := ⟨RX9, "why", "(III)I"⟩
abbrev cX9_counts : ByteArray := prog_11_method_52_code
def yX9_counts : MethodName := ⟨RX9, "counts", "(IIIII)I"⟩
abbrev cX9_cents : ByteArray := prog_11_method_53_code
def yX9_cents : MethodName := ⟨RX9, "cents", "(II)J"⟩
abbrev cX9_due : ByteArray := prog_11_method_54_code
def yX9_due : MethodName := ⟨RX9, "due", "(II)I"⟩
abbrev cX9_month : ByteArray := prog_11_method_55_code
def yX9_month : MethodName := ⟨RX9, "month", "(III)J"⟩
abbrev cX9_sum : ByteArray := prog_11_method_56_code
def yX9_sum : MethodName := ⟨RX9, "sum", "(III)J"⟩
abbrev cX9_count : ByteArray := prog_11_method_57_code
def yX9_count : MethodName := ⟨RX9, "count", "(I)I"⟩
def RJ9 : String := "java/lang/Math"
def TJ9 : u_T := fun k => match k with
  | _ => ("", "", "", false)
def tyJ9 : Nat → FieldType := fun k => match k with
  | _ => .int
abbrev wsJ90 : List Cond := u_ws RJ9 TJ9 0
theorem nmJ9 : ∀ a, a < 0 → ∀ b, b < 0 → a ≠ b → (TJ9 a).2.1 ≠ (TJ9 b).2.1 := by decide +kernel
theorem tyJ9_ok : ∀ k, k < 0 → parseFieldDescriptor (TJ9 k).2.2.1 = some (tyJ9 k) := by decide +kernel
abbrev cJ9_max_7cf53 : ByteArray := prog_12_method_65_code
def yJ9_max_7cf53 : MethodName := ⟨RJ9, "max", "(II)I"⟩
abbrev cJ9_max_f86c9 : ByteArray := prog_12_method_66_code
def yJ9_max_f86c9 : MethodName := ⟨RJ9, "max", "(JJ)J"⟩
abbrev cJ9_min_7cf53 : ByteArray := prog_12_method_69_code
def yJ9_min_7cf53 : MethodName := ⟨RJ9, "min", "(II)I"⟩
abbrev cJ9_min_f86c9 : ByteArray := prog_12_method_70_code
def yJ9_min_f86c9 : MethodName := ⟨RJ9, "min", "(JJ)J"⟩
def RJ10 : String := "java/lang/System"
def TJ10 : u_T := fun k => match k with
  | _ => ("", "", "", false)
def tyJ10 : Nat → FieldType := fun k => match k with
  | _ => .int
abbrev wsJ100 : List Cond := u_ws RJ10 TJ10 0
theorem nmJ10 : ∀ a, a < 0 → ∀ b, b < 0 → a ≠ b → (TJ10 a).2.1 ≠ (TJ10 b).2.1 := by decide +kernel
theorem tyJ10_ok : ∀ k, k < 0 → parseFieldDescriptor (TJ10 k).2.2.1 = some (tyJ10 k) := by decide +kernel
def RL : String := "ShiftLedgerLaw"
abbrev cL_law : ByteArray := code
def yL_law : MethodName := ⟨RL, "law", "([I)Z"⟩
abbrev vwCl : List vw_C := [(RX0, TX0, 5), (RX1, TX1, 4), (RX2, TX2, 4), (RX3, TX3, 2), (RX4, TX4, 4), (RX5, TX5, 6), (RX6, TX6, 2), (RX7, TX7, 7), (RX8, TX8, 12), (RX9, TX9, 47)]
