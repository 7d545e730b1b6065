section
-- ===== PART A: goes FIRST, ahead of the names: the tables' words, and 'selects' of the private methods out of them =====
/-- a private method of a class that the tables say can be made, by its rows of tables_1 -/
def lw_okq (q : MethodName × Nat) : Prop := (q.1.cls ≠ "java/lang/invoke/MethodHandle" ∧ q.1.cls ≠ "java/lang/invoke/VarHandle") ∧ Cond.instantiable q.1.cls q.2 ∈ tables_1 ∧ Cond.privateMethod q.1 ∈ tables_1 ∧ Cond.instanceMethod q.1 ∈ tables_1
theorem lw_p0 : lw_okq (⟨"ShiftLedger", "findGroup", "(I)LShiftLedger$Group;"⟩, 12) := ⟨⟨by decide +kernel, by decide +kernel⟩, List.mem_of_getElem? (i := 14) (by decide +kernel), List.mem_of_getElem? (i := 193) (by decide +kernel), List.mem_of_getElem? (i := 194) (by decide +kernel)⟩
theorem lw_p1 : lw_okq (⟨"ShiftLedger", "findRules", "(I)LShiftLedger$Rules;"⟩, 12) := ⟨⟨by decide +kernel, by decide +kernel⟩, List.mem_of_getElem? (i := 14) (by decide +kernel), List.mem_of_getElem? (i := 276) (by decide +kernel), List.mem_of_getElem? (i := 277) (by decide +kernel)⟩
theorem lw_p2 : lw_okq (⟨"ShiftLedger", "findWorker", "(I)LShiftLedger$Worker;"⟩, 12) := ⟨⟨by decide +kernel, by decide +kernel⟩, List.mem_of_getElem? (i := 14) (by decide +kernel), List.mem_of_getElem? (i := 332) (by decide +kernel), List.mem_of_getElem? (i := 333) (by decide +kernel)⟩
theorem lw_p3 : lw_okq (⟨"ShiftLedger", "enter", "(IIIIZ)I"⟩, 12) := ⟨⟨by decide +kernel, by decide +kernel⟩, List.mem_of_getElem? (i := 14) (by decide +kernel), List.mem_of_getElem? (i := 344) (by decide +kernel), List.mem_of_getElem? (i := 345) (by decide +kernel)⟩
theorem lw_p4 : lw_okq (⟨"ShiftLedger", "isClosed", "(I)Z"⟩, 12) := ⟨⟨by decide +kernel, by decide +kernel⟩, List.mem_of_getElem? (i := 14) (by decide +kernel), List.mem_of_getElem? (i := 359) (by decide +kernel), List.mem_of_getElem? (i := 360) (by decide +kernel)⟩
theorem lw_p5 : lw_okq (⟨"ShiftLedger", "bookClosedDays", "(LShiftLedger$Worker;I)V"⟩, 12) := ⟨⟨by decide +kernel, by decide +kernel⟩, List.mem_of_getElem? (i := 14) (by decide +kernel), List.mem_of_getElem? (i := 368) (by decide +kernel), List.mem_of_getElem? (i := 369) (by decide +kernel)⟩
theorem lw_p6 : lw_okq (⟨"ShiftLedger", "tallyDays", "(LShiftLedger$Worker;II)V"⟩, 12) := ⟨⟨by decide +kernel, by decide +kernel⟩, List.mem_of_getElem? (i := 14) (by decide +kernel), List.mem_of_getElem? (i := 372) (by decide +kernel), List.mem_of_getElem? (i := 373) (by decide +kernel)⟩
theorem lw_p7 : lw_okq (⟨"ShiftLedger", "kindOf", "(LShiftLedger$Group;I)I"⟩, 12) := ⟨⟨by decide +kernel, by decide +kernel⟩, List.mem_of_getElem? (i := 14) (by decide +kernel), List.mem_of_getElem? (i := 381) (by decide +kernel), List.mem_of_getElem? (i := 382) (by decide +kernel)⟩
theorem lw_p8 : lw_okq (⟨"ShiftLedger", "payOfSheet", "(LShiftLedger$Group;I)J"⟩, 12) := ⟨⟨by decide +kernel, by decide +kernel⟩, List.mem_of_getElem? (i := 14) (by decide +kernel), List.mem_of_getElem? (i := 429) (by decide +kernel), List.mem_of_getElem? (i := 430) (by decide +kernel)⟩
theorem lw_p9 : lw_okq (⟨"ShiftLedger", "fillSheet", "(LShiftLedger$Worker;I)V"⟩, 12) := ⟨⟨by decide +kernel, by decide +kernel⟩, List.mem_of_getElem? (i := 14) (by decide +kernel), List.mem_of_getElem? (i := 524) (by decide +kernel), List.mem_of_getElem? (i := 525) (by decide +kernel)⟩
theorem lw_p10 : lw_okq (⟨"ShiftLedger", "dueOf", "(LShiftLedger$Worker;I)I"⟩, 12) := ⟨⟨by decide +kernel, by decide +kernel⟩, List.mem_of_getElem? (i := 14) (by decide +kernel), List.mem_of_getElem? (i := 555) (by decide +kernel), List.mem_of_getElem? (i := 556) (by decide +kernel)⟩
theorem lw_p11 : lw_okq (⟨"ShiftLedger", "keepSayings", "(LShiftLedger$Worker;I)V"⟩, 12) := ⟨⟨by decide +kernel, by decide +kernel⟩, List.mem_of_getElem? (i := 14) (by decide +kernel), List.mem_of_getElem? (i := 570) (by decide +kernel), List.mem_of_getElem? (i := 571) (by decide +kernel)⟩
theorem lw_p12 : lw_okq (⟨"ShiftLedger", "sayingOf", "(LShiftLedger$Worker;II)J"⟩, 12) := ⟨⟨by decide +kernel, by decide +kernel⟩, List.mem_of_getElem? (i := 14) (by decide +kernel), List.mem_of_getElem? (i := 574) (by decide +kernel), List.mem_of_getElem? (i := 575) (by decide +kernel)⟩
theorem lw_p13 : lw_okq (⟨"ShiftLedger", "openFlex", "(LShiftLedger$Worker;I)J"⟩, 12) := ⟨⟨by decide +kernel, by decide +kernel⟩, List.mem_of_getElem? (i := 14) (by decide +kernel), List.mem_of_getElem? (i := 578) (by decide +kernel), List.mem_of_getElem? (i := 579) (by decide +kernel)⟩
theorem lw_p14 : lw_okq (⟨"ShiftLedgerModel", "isWorker", "(I)Z"⟩, 47) := ⟨⟨by decide +kernel, by decide +kernel⟩, List.mem_of_getElem? (i := 625) (by decide +kernel), List.mem_of_getElem? (i := 806) (by decide +kernel), List.mem_of_getElem? (i := 807) (by decide +kernel)⟩
theorem lw_p15 : lw_okq (⟨"ShiftLedgerModel", "pair", "(I)V"⟩, 47) := ⟨⟨by decide +kernel, by decide +kernel⟩, List.mem_of_getElem? (i := 625) (by decide +kernel), List.mem_of_getElem? (i := 820) (by decide +kernel), List.mem_of_getElem? (i := 821) (by decide +kernel)⟩
def lw_privs_1 : List (MethodName × Nat) := [(⟨"ShiftLedger", "findGroup", "(I)LShiftLedger$Group;"⟩, 12), (⟨"ShiftLedger", "findRules", "(I)LShiftLedger$Rules;"⟩, 12), (⟨"ShiftLedger", "findWorker", "(I)LShiftLedger$Worker;"⟩, 12), (⟨"ShiftLedger", "enter", "(IIIIZ)I"⟩, 12), (⟨"ShiftLedger", "isClosed", "(I)Z"⟩, 12), (⟨"ShiftLedger", "bookClosedDays", "(LShiftLedger$Worker;I)V"⟩, 12), (⟨"ShiftLedger", "tallyDays", "(LShiftLedger$Worker;II)V"⟩, 12), (⟨"ShiftLedger", "kindOf", "(LShiftLedger$Group;I)I"⟩, 12), (⟨"ShiftLedger", "payOfSheet", "(LShiftLedger$Group;I)J"⟩, 12), (⟨"ShiftLedger", "fillSheet", "(LShiftLedger$Worker;I)V"⟩, 12), (⟨"ShiftLedger", "dueOf", "(LShiftLedger$Worker;I)I"⟩, 12), (⟨"ShiftLedger", "keepSayings", "(LShiftLedger$Worker;I)V"⟩, 12), (⟨"ShiftLedger", "sayingOf", "(LShiftLedger$Worker;II)J"⟩, 12), (⟨"ShiftLedger", "openFlex", "(LShiftLedger$Worker;I)J"⟩, 12), (⟨"ShiftLedgerModel", "isWorker", "(I)Z"⟩, 47), (⟨"ShiftLedgerModel", "pair", "(I)V"⟩, 47)]
theorem lw_r1 : ∀ q ∈ lw_privs_1, lw_okq q := List.forall_mem_cons.mpr ⟨lw_p0, List.forall_mem_cons.mpr ⟨lw_p1, List.forall_mem_cons.mpr ⟨lw_p2, List.forall_mem_cons.mpr ⟨lw_p3, List.forall_mem_cons.mpr ⟨lw_p4, List.forall_mem_cons.mpr ⟨lw_p5, List.forall_mem_cons.mpr ⟨lw_p6, List.forall_mem_cons.mpr ⟨lw_p7, List.forall_mem_cons.mpr ⟨lw_p8, List.forall_mem_cons.mpr ⟨lw_p9, List.forall_mem_cons.mpr ⟨lw_p10, List.forall_mem_cons.mpr ⟨lw_p11, List.forall_mem_cons.mpr ⟨lw_p12, List.forall_mem_cons.mpr ⟨lw_p13, List.forall_mem_cons.mpr ⟨lw_p14, List.forall_mem_cons.mpr ⟨lw_p15, fun _ h => absurd h List.not_mem_nil⟩⟩⟩⟩⟩⟩⟩⟩⟩⟩⟩⟩⟩⟩⟩⟩
theorem lw_p16 : lw_okq (⟨"ShiftLedgerModel", "says", "(III)J"⟩, 47) := ⟨⟨by decide +kernel, by decide +kernel⟩, List.mem_of_getElem? (i := 625) (by decide +kernel), List.mem_of_getElem? (i := 824) (by decide +kernel), List.mem_of_getElem? (i := 825) (by decide +kernel)⟩
theorem lw_p17 : lw_okq (⟨"ShiftLedgerModel", "flexOf", "(II)J"⟩, 47) := ⟨⟨by decide +kernel, by decide +kernel⟩, List.mem_of_getElem? (i := 625) (by decide +kernel), List.mem_of_getElem? (i := 828) (by decide +kernel), List.mem_of_getElem? (i := 829) (by decide +kernel)⟩
theorem lw_p18 : lw_okq (⟨"ShiftLedgerModel", "sumDays", "(III)V"⟩, 47) := ⟨⟨by decide +kernel, by decide +kernel⟩, List.mem_of_getElem? (i := 625) (by decide +kernel), List.mem_of_getElem? (i := 832) (by decide +kernel), List.mem_of_getElem? (i := 833) (by decide +kernel)⟩
theorem lw_p19 : lw_okq (⟨"ShiftLedgerModel", "look", "(II)V"⟩, 47) := ⟨⟨by decide +kernel, by decide +kernel⟩, List.mem_of_getElem? (i := 625) (by decide +kernel), List.mem_of_getElem? (i := 836) (by decide +kernel), List.mem_of_getElem? (i := 837) (by decide +kernel)⟩
theorem lw_p20 : lw_okq (⟨"ShiftLedgerModel", "fill", "(III)V"⟩, 47) := ⟨⟨by decide +kernel, by decide +kernel⟩, List.mem_of_getElem? (i := 625) (by decide +kernel), List.mem_of_getElem? (i := 840) (by decide +kernel), List.mem_of_getElem? (i := 841) (by decide +kernel)⟩
theorem lw_p21 : lw_okq (⟨"ShiftLedgerModel", "kindOf", "(II)I"⟩, 47) := ⟨⟨by decide +kernel, by decide +kernel⟩, List.mem_of_getElem? (i := 625) (by decide +kernel), List.mem_of_getElem? (i := 844) (by decide +kernel), List.mem_of_getElem? (i := 845) (by decide +kernel)⟩
theorem lw_p22 : lw_okq (⟨"ShiftLedgerModel", "lay", "(IIII)V"⟩, 47) := ⟨⟨by decide +kernel, by decide +kernel⟩, List.mem_of_getElem? (i := 625) (by decide +kernel), List.mem_of_getElem? (i := 848) (by decide +kernel), List.mem_of_getElem? (i := 849) (by decide +kernel)⟩
theorem lw_p23 : lw_okq (⟨"ShiftLedgerModel", "there", "()I"⟩, 47) := ⟨⟨by decide +kernel, by decide +kernel⟩, List.mem_of_getElem? (i := 625) (by decide +kernel), List.mem_of_getElem? (i := 852) (by decide +kernel), List.mem_of_getElem? (i := 853) (by decide +kernel)⟩
theorem lw_p24 : lw_okq (⟨"ShiftLedgerModel", "behind", "(II)V"⟩, 47) := ⟨⟨by decide +kernel, by decide +kernel⟩, List.mem_of_getElem? (i := 625) (by decide +kernel), List.mem_of_getElem? (i := 856) (by decide +kernel), List.mem_of_getElem? (i := 857) (by decide +kernel)⟩
theorem lw_p25 : lw_okq (⟨"ShiftLedgerModel", "paid", "()I"⟩, 47) := ⟨⟨by decide +kernel, by decide +kernel⟩, List.mem_of_getElem? (i := 625) (by decide +kernel), List.mem_of_getElem? (i := 860) (by decide +kernel), List.mem_of_getElem? (i := 861) (by decide +kernel)⟩
theorem lw_p26 : lw_okq (⟨"ShiftLedgerModel", "pay", "(II)J"⟩, 47) := ⟨⟨by decide +kernel, by decide +kernel⟩, List.mem_of_getElem? (i := 625) (by decide +kernel), List.mem_of_getElem? (i := 864) (by decide +kernel), List.mem_of_getElem? (i := 865) (by decide +kernel)⟩
theorem lw_p27 : lw_okq (⟨"ShiftLedgerModel", "countsAt", "(III)Z"⟩, 47) := ⟨⟨by decide +kernel, by decide +kernel⟩, List.mem_of_getElem? (i := 625) (by decide +kernel), List.mem_of_getElem? (i := 868) (by decide +kernel), List.mem_of_getElem? (i := 869) (by decide +kernel)⟩
theorem lw_p28 : lw_okq (⟨"ShiftLedgerModel", "meets", "(III)Z"⟩, 47) := ⟨⟨by decide +kernel, by decide +kernel⟩, List.mem_of_getElem? (i := 625) (by decide +kernel), List.mem_of_getElem? (i := 872) (by decide +kernel), List.mem_of_getElem? (i := 873) (by decide +kernel)⟩
theorem lw_p29 : lw_okq (⟨"ShiftLedgerModel", "rateOf", "(II)I"⟩, 47) := ⟨⟨by decide +kernel, by decide +kernel⟩, List.mem_of_getElem? (i := 625) (by decide +kernel), List.mem_of_getElem? (i := 876) (by decide +kernel), List.mem_of_getElem? (i := 877) (by decide +kernel)⟩
theorem lw_p30 : lw_okq (⟨"ShiftLedgerModel", "dueOf", "(II)I"⟩, 47) := ⟨⟨by decide +kernel, by decide +kernel⟩, List.mem_of_getElem? (i := 625) (by decide +kernel), List.mem_of_getElem? (i := 883) (by decide +kernel), List.mem_of_getElem? (i := 884) (by decide +kernel)⟩
theorem lw_p31 : lw_okq (⟨"ShiftLedgerModel", "comes", "(IIIIZ)I"⟩, 47) := ⟨⟨by decide +kernel, by decide +kernel⟩, List.mem_of_getElem? (i := 625) (by decide +kernel), List.mem_of_getElem? (i := 895) (by decide +kernel), List.mem_of_getElem? (i := 896) (by decide +kernel)⟩
def lw_privs_2 : List (MethodName × Nat) := [(⟨"ShiftLedgerModel", "says", "(III)J"⟩, 47), (⟨"ShiftLedgerModel", "flexOf", "(II)J"⟩, 47), (⟨"ShiftLedgerModel", "sumDays", "(III)V"⟩, 47), (⟨"ShiftLedgerModel", "look", "(II)V"⟩, 47), (⟨"ShiftLedgerModel", "fill", "(III)V"⟩, 47), (⟨"ShiftLedgerModel", "kindOf", "(II)I"⟩, 47), (⟨"ShiftLedgerModel", "lay", "(IIII)V"⟩, 47), (⟨"ShiftLedgerModel", "there", "()I"⟩, 47), (⟨"ShiftLedgerModel", "behind", "(II)V"⟩, 47), (⟨"ShiftLedgerModel", "paid", "()I"⟩, 47), (⟨"ShiftLedgerModel", "pay", "(II)J"⟩, 47), (⟨"ShiftLedgerModel", "countsAt", "(III)Z"⟩, 47), (⟨"ShiftLedgerModel", "meets", "(III)Z"⟩, 47), (⟨"ShiftLedgerModel", "rateOf", "(II)I"⟩, 47), (⟨"ShiftLedgerModel", "dueOf", "(II)I"⟩, 47), (⟨"ShiftLedgerModel", "comes", "(IIIIZ)I"⟩, 47)]
theorem lw_r2 : ∀ q ∈ lw_privs_2, lw_okq q := List.forall_mem_cons.mpr ⟨lw_p16, List.forall_mem_cons.mpr ⟨lw_p17, List.forall_mem_cons.mpr ⟨lw_p18, List.forall_mem_cons.mpr ⟨lw_p19, List.forall_mem_cons.mpr ⟨lw_p20, List.forall_mem_cons.mpr ⟨lw_p21, List.forall_mem_cons.mpr ⟨lw_p22, List.forall_mem_cons.mpr ⟨lw_p23, List.forall_mem_cons.mpr ⟨lw_p24, List.forall_mem_cons.mpr ⟨lw_p25, List.forall_mem_cons.mpr ⟨lw_p26, List.forall_mem_cons.mpr ⟨lw_p27, List.forall_mem_cons.mpr ⟨lw_p28, List.forall_mem_cons.mpr ⟨lw_p29, List.forall_mem_cons.mpr ⟨lw_p30, List.forall_mem_cons.mpr ⟨lw_p31, fun _ h => absurd h List.not_mem_nil⟩⟩⟩⟩⟩⟩⟩⟩⟩⟩⟩⟩⟩⟩⟩⟩
theorem lw_p32 : lw_okq (⟨"ShiftLedgerModel", "markAt", "(II)I"⟩, 47) := ⟨⟨by decide +kernel, by decide +kernel⟩, List.mem_of_getElem? (i := 625) (by decide +kernel), List.mem_of_getElem? (i := 899) (by decide +kernel), List.mem_of_getElem? (i := 900) (by decide +kernel)⟩
theorem lw_p33 : lw_okq (⟨"ShiftLedgerModel", "isMark", "(III)Z"⟩, 47) := ⟨⟨by decide +kernel, by decide +kernel⟩, List.mem_of_getElem? (i := 625) (by decide +kernel), List.mem_of_getElem? (i := 903) (by decide +kernel), List.mem_of_getElem? (i := 904) (by decide +kernel)⟩
theorem lw_p34 : lw_okq (⟨"ShiftLedgerModel", "book", "(IJ)V"⟩, 47) := ⟨⟨by decide +kernel, by decide +kernel⟩, List.mem_of_getElem? (i := 625) (by decide +kernel), List.mem_of_getElem? (i := 911) (by decide +kernel), List.mem_of_getElem? (i := 912) (by decide +kernel)⟩
theorem lw_p35 : lw_okq (⟨"ShiftLedgerModel", "looks", "(II)Z"⟩, 47) := ⟨⟨by decide +kernel, by decide +kernel⟩, List.mem_of_getElem? (i := 625) (by decide +kernel), List.mem_of_getElem? (i := 939) (by decide +kernel), List.mem_of_getElem? (i := 940) (by decide +kernel)⟩
def lw_privs_3 : List (MethodName × Nat) := [(⟨"ShiftLedgerModel", "markAt", "(II)I"⟩, 47), (⟨"ShiftLedgerModel", "isMark", "(III)Z"⟩, 47), (⟨"ShiftLedgerModel", "book", "(IJ)V"⟩, 47), (⟨"ShiftLedgerModel", "looks", "(II)Z"⟩, 47)]
theorem lw_r3 : ∀ q ∈ lw_privs_3, lw_okq q := List.forall_mem_cons.mpr ⟨lw_p32, List.forall_mem_cons.mpr ⟨lw_p33, List.forall_mem_cons.mpr ⟨lw_p34, List.forall_mem_cons.mpr ⟨lw_p35, fun _ h => absurd h List.not_mem_nil⟩⟩⟩⟩
def lw_privs : List (MethodName × Nat) := lw_privs_1 ++ (lw_privs_2 ++ (lw_privs_3))
def lw_tbl : List Cond := k2_sels lw_privs ++ tables_1
theorem lw_privs_ok : ∀ q ∈ lw_privs, lw_okq q := by
  show ∀ q ∈ lw_privs_1 ++ (lw_privs_2 ++ (lw_privs_3)), lw_okq q
  exact List.forall_mem_append.mpr ⟨lw_r1, List.forall_mem_append.mpr ⟨lw_r2, lw_r3⟩⟩

/-! ===== BEGIN words of one list among another's, by their places ===== -/
theorem goodIn_r {big : List Cond} (ws : List Cond) (ps : List Nat) (hp : ws = ps.filterMap (fun i => big[i]?)) (h : ws.all goodWord = true) : GoodIn big ws := by
  intro w hw
  have h1 := List.all_eq_true.mp h w hw
  rw [hp] at hw
  obtain ⟨i, -, hi⟩ := List.mem_filterMap.mp hw
  have hm : w ∈ big := by first | exact List.mem_of_getElem? hi | exact List.getElem?_mem hi
  exact ⟨hm, good_of_word h1⟩
theorem goodIn_app {big a b : List Cond} (ha : GoodIn big a) (hb : GoodIn big b) : GoodIn big (a ++ b) := fun w h => (List.mem_append.mp h).elim (ha w) (hb w)
theorem goodIn_ca {big a b : List Cond} {c : Cond} (ha : GoodIn big (c :: a)) (hb : GoodIn big b) : GoodIn big (c :: (a ++ b)) := fun w h => (List.mem_cons.mp h).elim (fun e => ha w (List.mem_cons.mpr (Or.inl e))) (fun h => (List.mem_append.mp h).elim (fun h => ha w (List.mem_cons.mpr (Or.inr h))) (hb w))
theorem goodIn_sub {big ws : List Cond} (hm : ∀ w ∈ ws, w ∈ big) (h : ws.all goodWord = true) : GoodIn big ws := fun w hw => ⟨hm w hw, good_of_word (List.all_eq_true.mp h w hw)⟩
/-! ===== END ===== -/
/-! ===== BEGIN printed: names, fields, word lists, decode rows ===== -/
def RX0 : String := "ShiftLedger$Group"
def TX0 : u_T := fun k => match k with
  | 0 => ("ShiftLedger$Group", "number", "I", true)
  | 1 => ("ShiftLedger$Group", "kinds", "[I", true)
  | 2 => ("ShiftLedger$Group", "targets", "[I", true)
  | 3 => ("ShiftLedger$Group", "low", "I", false)
  | _ => ("ShiftLedger$Group", "high", "I", false)
def tyX0 : Nat → FieldType := fun k => match k with
  | 0 => .int
  | 1 => .array .int
  | 2 => .array .int
  | 3 => .int
  | _ => .int
abbrev wsX00 : List Cond := u_ws RX0 TX0 5
theorem nmX0 : ∀ a, a < 5 → ∀ b, b < 5 → a ≠ b → (TX0 a).2.1 ≠ (TX0 b).2.1 := by decide +kernel
theorem tyX0_ok : ∀ k, k < 5 → parseFieldDescriptor (TX0 k).2.2.1 = some (tyX0 k) := by decide +kernel
abbrev cX0_init : ByteArray := prog_2_method_1_code
def yX0_init : MethodName := ⟨RX0, "<init>", "(I)V"⟩
def RX1 : String := "ShiftLedger$Marks"
def TX1 : u_T := fun k => match k with
  | 0 => ("ShiftLedger$Marks", "times", "[I", true)
  | 1 => ("ShiftLedger$Marks", "sorts", "[I", true)
  | 2 => ("ShiftLedger$Marks", "roles", "[I", true)
  | _ => ("ShiftLedger$Marks", "size", "I", false)
def tyX1 : Nat → FieldType := fun k => match k with
  | 0 => .array .int
  | 1 => .array .int
  | 2 => .array .int
  | _ => .int
abbrev wsX10 : List Cond := u_ws RX1 TX1 4
theorem nmX1 : ∀ a, a < 4 → ∀ b, b < 4 → a ≠ b → (TX1 a).2.1 ≠ (TX1 b).2.1 := by decide +kernel
theorem tyX1_ok : ∀ k, k < 4 → parseFieldDescriptor (TX1 k).2.2.1 = some (tyX1 k) := by decide +kernel
abbrev cX1_init : ByteArray := prog_3_method_1_code
def yX1_init : MethodName := ⟨RX1, "<init>", "()V"⟩
abbrev cX1_placeOf : ByteArray := prog_3_method_2_code
def yX1_placeOf : MethodName := ⟨RX1, "placeOf", "(I)I"⟩
abbrev cX1_standsAt : ByteArray := prog_3_method_3_code
def yX1_standsAt : MethodName := ⟨RX1, "standsAt", "(I)Z"⟩
abbrev cX1_dayOf : ByteArray := prog_3_method_4_code
def yX1_dayOf : MethodName := ⟨RX1, "dayOf", "(I)I"⟩
abbrev cX1_insert : ByteArray := prog_3_method_5_code
def yX1_insert : MethodName := ⟨RX1, "insert", "(II)V"⟩
abbrev cX1_remove : ByteArray := prog_3_method_6_code
def yX1_remove : MethodName := ⟨RX1, "remove", "(I)V"⟩
abbrev cX1_pairUp : ByteArray := prog_3_method_7_code
def yX1_pairUp : MethodName := ⟨RX1, "pairUp", "()V"⟩
abbrev cX1_nextState : ByteArray := prog_3_method_8_code
def yX1_nextState : MethodName := ⟨RX1, "nextState", "(II)I"⟩
abbrev cX1_endOf : ByteArray := prog_3_method_9_code
def yX1_endOf : MethodName := ⟨RX1, "endOf", "(I)I"⟩
abbrev cX1_amountOf : ByteArray := prog_3_method_10_code
def yX1_amountOf : MethodName := ⟨RX1, "amountOf", "(III)I"⟩
def RX2 : String := "ShiftLedger$Rates"
def TX2 : u_T := fun k => match k with
  | 0 => ("ShiftLedger$Rates", "groups", "[I", true)
  | 1 => ("ShiftLedger$Rates", "days", "[I", true)
  | 2 => ("ShiftLedger$Rates", "amounts", "[I", true)
  | _ => ("ShiftLedger$Rates", "size", "I", false)
def tyX2 : Nat → FieldType := fun k => match k with
  | 0 => .array .int
  | 1 => .array .int
  | 2 => .array .int
  | _ => .int
abbrev wsX20 : List Cond := u_ws RX2 TX2 4
theorem nmX2 : ∀ a, a < 4 → ∀ b, b < 4 → a ≠ b → (TX2 a).2.1 ≠ (TX2 b).2.1 := by decide +kernel
theorem tyX2_ok : ∀ k, k < 4 → parseFieldDescriptor (TX2 k).2.2.1 = some (tyX2 k) := by decide +kernel
abbrev cX2_init : ByteArray := prog_4_method_1_code
def yX2_init : MethodName := ⟨RX2, "<init>", "()V"⟩
abbrev cX2_add : ByteArray := prog_4_method_2_code
def yX2_add : MethodName := ⟨RX2, "add", "(III)V"⟩
abbrev cX2_at : ByteArray := prog_4_method_3_code
def yX2_at : MethodName := ⟨RX2, "at", "(II)I"⟩
def RX3 : String := "ShiftLedger$Rules"
def TX3 : u_T := fun k => match k with
  | 0 => ("ShiftLedger$Rules", "a", "[I", true)
  | _ => ("ShiftLedger$Rules", "b", "[I", true)
def tyX3 : Nat → FieldType := fun k => match k with
  | 0 => .array .int
  | _ => .array .int
abbrev wsX30 : List Cond := u_ws RX3 TX3 2
theorem nmX3 : ∀ a, a < 2 → ∀ b, b < 2 → a ≠ b → (TX3 a).2.1 ≠ (TX3 b).2.1 := by decide +kernel
theorem tyX3_ok : ∀ k, k < 2 → parseFieldDescriptor (TX3 k).2.2.1 = some (tyX3 k) := by decide +kernel
abbrev cX3_init : ByteArray := prog_5_method_1_code
def yX3_init : MethodName := ⟨RX3, "<init>", "()V"⟩
def RX4 : String := "ShiftLedger$Sheet"
def TX4 : u_T := fun k => match k with
  | 0 => ("ShiftLedger$Sheet", "from", "[I", true)
  | 1 => ("ShiftLedger$Sheet", "to", "[I", true)
  | 2 => ("ShiftLedger$Sheet", "classes", "[I", true)
  | _ => ("ShiftLedger$Sheet", "size", "I", false)
def tyX4 : Nat → FieldType := fun k => match k with
  | 0 => .array .int
  | 1 => .array .int
  | 2 => .array .int
  | _ => .int
abbrev wsX40 : List Cond := u_ws RX4 TX4 4
theorem nmX4 : ∀ a, a < 4 → ∀ b, b < 4 → a ≠ b → (TX4 a).2.1 ≠ (TX4 b).2.1 := by decide +kernel
theorem tyX4_ok : ∀ k, k < 4 → parseFieldDescriptor (TX4 k).2.2.1 = some (tyX4 k) := by decide +kernel
abbrev cX4_init : ByteArray := prog_6_method_1_code
def yX4_init : MethodName := ⟨RX4, "<init>", "()V"⟩
abbrev cX4_fill : ByteArray := prog_6_method_2_code
def yX4_fill : MethodName := ⟨RX4, "fill", "(LShiftLedger$Marks;IILShiftLedger$Rules;)V"⟩
abbrev cX4_layShift : ByteArray := prog_6_method_3_code
def yX4_layShift : MethodName := ⟨RX4, "layShift", "(LShiftLedger$Marks;II)V"⟩
abbrev cX4_add : ByteArray := prog_6_method_4_code
def yX4_add : MethodName := ⟨RX4, "add", "(III)V"⟩
abbrev cX4_applyRound : ByteArray := prog_6_method_5_code
def yX4_applyRound : MethodName := ⟨RX4, "applyRound", "(II)V"⟩
abbrev cX4_takeOutside : ByteArray := prog_6_method_6_code
def yX4_takeOutside : MethodName := ⟨RX4, "takeOutside", "(IIII)V"⟩
abbrev cX4_turnBehind : ByteArray := prog_6_method_7_code
def yX4_turnBehind : MethodName := ⟨RX4, "turnBehind", "(II)V"⟩
abbrev cX4_cutAt : ByteArray := prog_6_method_8_code
def yX4_cutAt : MethodName := ⟨RX4, "cutAt", "(I)V"⟩
abbrev cX4_classAt : ByteArray := prog_6_method_9_code
def yX4_classAt : MethodName := ⟨RX4, "classAt", "(I)I"⟩
abbrev cX4_amountOf : ByteArray := prog_6_method_10_code
def yX4_amountOf : MethodName := ⟨RX4, "amountOf", "(II)I"⟩
def RX5 : String := "ShiftLedger$Surcharges"
def TX5 : u_T := fun k => match k with
  | 0 => ("ShiftLedger$Surcharges", "kinds", "[I", true)
  | 1 => ("ShiftLedger$Surcharges", "from", "[I", true)
  | 2 => ("ShiftLedger$Surcharges", "to", "[I", true)
  | 3 => ("ShiftLedger$Surcharges", "p", "[I", true)
  | 4 => ("ShiftLedger$Surcharges", "excluded", "[I", true)
  | _ => ("ShiftLedger$Surcharges", "size", "I", false)
def tyX5 : Nat → FieldType := fun k => match k with
  | 0 => .array .int
  | 1 => .array .int
  | 2 => .array .int
  | 3 => .array .int
  | 4 => .array .int
  | _ => .int
abbrev wsX50 : List Cond := u_ws RX5 TX5 6
theorem nmX5 : ∀ a, a < 6 → ∀ b, b < 6 → a ≠ b → (TX5 a).2.1 ≠ (TX5 b).2.1 := by decide +kernel
theorem tyX5_ok : ∀ k, k < 6 → parseFieldDescriptor (TX5 k).2.2.1 = some (tyX5 k) := by decide +kernel
abbrev cX5_init : ByteArray := prog_7_method_1_code
def yX5_init : MethodName := ⟨RX5, "<init>", "()V"⟩
abbrev cX5_has : ByteArray := prog_7_method_2_code
def yX5_has : MethodName := ⟨RX5, "has", "(I)Z"⟩
abbrev cX5_add : ByteArray := prog_7_method_3_code
def yX5_add : MethodName := ⟨RX5, "add", "(IIII)V"⟩
abbrev cX5_setApart : ByteArray := prog_7_method_4_code
def yX5_setApart : MethodName := ⟨RX5, "setApart", "(II)Z"⟩
abbrev cX5_meeting : ByteArray := prog_7_method_5_code
def yX5_meeting : MethodName := ⟨RX5, "meeting", "(II)I"⟩
abbrev cX5_spans : ByteArray := prog_7_method_6_code
def yX5_spans : MethodName := ⟨RX5, "spans", "(II)Z"⟩
abbrev cX5_countingOf : ByteArray := prog_7_method_7_code
def yX5_countingOf : MethodName := ⟨RX5, "countingOf", "(I)I"⟩
abbrev cX5_isBeaten : ByteArray := prog_7_method_8_code
def yX5_isBeaten : MethodName := ⟨RX5, "isBeaten", "(II)Z"⟩
abbrev cX5_extraOver : ByteArray := prog_7_method_9_code
def yX5_extraOver : MethodName := ⟨RX5, "extraOver", "(III)J"⟩
abbrev cX5_steadyFrom : ByteArray := prog_7_method_10_code
def yX5_steadyFrom : MethodName := ⟨RX5, "steadyFrom", "(I)I"⟩
abbrev cX5_wayTo : ByteArray := prog_7_method_11_code
def yX5_wayTo : MethodName := ⟨RX5, "wayTo", "(II)I"⟩
abbrev cX5_extraOf : ByteArray := prog_7_method_12_code
def yX5_extraOf : MethodName := ⟨RX5, "extraOf", "(I)I"⟩
def RX6 : String := "ShiftLedger$Tally"
def TX6 : u_T := fun k => match k with
  | 0 => ("ShiftLedger$Tally", "paid", "J", false)
  | _ => ("ShiftLedger$Tally", "cents", "J", false)
def tyX6 : Nat → FieldType := fun k => match k with
  | 0 => .long
  | _ => .long
abbrev wsX60 : List Cond := u_ws RX6 TX6 2
theorem nmX6 : ∀ a, a < 2 → ∀ b, b < 2 → a ≠ b → (TX6 a).2.1 ≠ (TX6 b).2.1 := by decide +kernel
theorem tyX6_ok : ∀ k, k < 2 → parseFieldDescriptor (TX6 k).2.2.1 = some (tyX6 k) := by decide +kernel
abbrev cX6_init : ByteArray := prog_8_method_1_code
def yX6_init : MethodName := ⟨RX6, "<init>", "()V"⟩
def RX7 : String := "ShiftLedger$Worker"
def TX7 : u_T := fun k => match k with
  | 0 => ("ShiftLedger$Worker", "group", "LShiftLedger$Group;", true)
  | 1 => ("ShiftLedger$Worker", "first", "I", true)
  | 2 => ("ShiftLedger$Worker", "marks", "LShiftLedger$Marks;", true)
  | 3 => ("ShiftLedger$Worker", "awayFrom", "[I", true)
  | 4 => ("ShiftLedger$Worker", "awayTo", "[I", true)
  | 5 => ("ShiftLedger$Worker", "absences", "I", false)
  | _ => ("ShiftLedger$Worker", "said", "[[J", true)
def tyX7 : Nat → FieldType := fun k => match k with
  | 0 => .object "ShiftLedger$Group"
  | 1 => .int
  | 2 => .object "ShiftLedger$Marks"
  | 3 => .array .int
  | 4 => .array .int
  | 5 => .int
  | _ => .array (.array .long)
abbrev wsX70 : List Cond := u_ws RX7 TX7 7
theorem nmX7 : ∀ a, a < 7 → ∀ b, b < 7 → a ≠ b → (TX7 a).2.1 ≠ (TX7 b).2.1 := by decide +kernel
theorem tyX7_ok : ∀ k, k < 7 → parseFieldDescriptor (TX7 k).2.2.1 = some (tyX7 k) := by decide +kernel
abbrev cX7_init : ByteArray := prog_9_method_1_code
def yX7_init : MethodName := ⟨RX7, "<init>", "(LShiftLedger$Group;I)V"⟩
abbrev cX7_addAbsence : ByteArray := prog_9_method_2_code
def yX7_addAbsence : MethodName := ⟨RX7, "addAbsence", "(II)V"⟩
abbrev cX7_isAway : ByteArray := prog_9_method_3_code
def yX7_isAway : MethodName := ⟨RX7, "isAway", "(I)Z"⟩
def RX8 : String := "ShiftLedger"
def TX8 : u_T := fun k => match k with
  | 0 => ("ShiftLedger", "feasts", "[Z", true)
  | 1 => ("ShiftLedger", "feastsTold", "I", false)
  | 2 => ("ShiftLedger", "groups", "[LShiftLedger$Group;", true)
  | 3 => ("ShiftLedger", "rules", "[LShiftLedger$Rules;", true)
  | 4 => ("ShiftLedger", "rates", "LShiftLedger$Rates;", true)
  | 5 => ("ShiftLedger", "surcharges", "LShiftLedger$Surcharges;", true)
  | 6 => ("ShiftLedger", "workers", "[LShiftLedger$Worker;", true)
  | 7 => ("ShiftLedger", "workersTold", "I", false)
  | 8 => ("ShiftLedger", "marksOfAll", "I", false)
  | 9 => ("ShiftLedger", "firstOpen", "I", false)
  | 10 => ("ShiftLedger", "sheet", "LShiftLedger$Sheet;", true)
  | _ => ("ShiftLedger", "tally", "LShiftLedger$Tally;", true)
def tyX8 : Nat → FieldType := fun k => match k with
  | 0 => .array .boolean
  | 1 => .int
  | 2 => .array (.object "ShiftLedger$Group")
  | 3 => .array (.object "ShiftLedger$Rules")
  | 4 => .object "ShiftLedger$Rates"
  | 5 => .object "ShiftLedger$Surcharges"
  | 6 => .array (.object "ShiftLedger$Worker")
  | 7 => .int
  | 8 => .int
  | 9 => .int
  | 10 => .object "ShiftLedger$Sheet"
  | _ => .object "ShiftLedger$Tally"
abbrev wsX80 : List Cond := u_ws RX8 TX8 12
theorem nmX8 : ∀ a, a < 12 → ∀ b, b < 12 → a ≠ b → (TX8 a).2.1 ≠ (TX8 b).2.1 := by decide +kernel
theorem tyX8_ok : ∀ k, k < 12 → parseFieldDescriptor (TX8 k).2.2.1 = some (tyX8 k) := by decide +kernel
abbrev cX8_init : ByteArray := prog_1_method_1_code
def yX8_init : MethodName := ⟨RX8, "<init>", "()V"⟩
abbrev cX8_worker : ByteArray := prog_1_method_2_code
def yX8_worker : MethodName := ⟨RX8, "worker", "(II)I"⟩
abbrev cX8_feast : ByteArray := prog_1_method_3_code
def yX8_feast : MethodName := ⟨RX8, "feast", "(I)I"⟩
abbrev cX8_kind : ByteArray := prog_1_method_4_code
def yX8_kind : MethodName := ⟨RX8, "kind", "(III)I"⟩
abbrev cX8_rule : ByteArray := prog_1_method_5_code
def yX8_rule : MethodName := ⟨RX8, "rule", "(IIII)I"⟩
abbrev cX8_rate : ByteArray := prog_1_method_6_code
def yX8_rate : MethodName := ⟨RX8, "rate", "(III)I"⟩
abbrev cX8_surcharge : ByteArray := prog_1_method_7_code
def yX8_surcharge : MethodName := ⟨RX8, "surcharge", "(IIII)I"⟩
abbrev cX8_exclude : ByteArray := prog_1_method_8_code
def yX8_exclude : MethodName := ⟨RX8, "exclude", "(II)I"⟩
abbrev cX8_target : ByteArray := prog_1_method_9_code
def yX8_target : MethodName := ⟨RX8, "target", "(III)I"⟩
abbrev cX8_limits : ByteArray := prog_1_method_10_code
def yX8_limits : MethodName := ⟨RX8, "limits", "(III)I"⟩
abbrev cX8_absent : ByteArray := prog_1_method_11_code
def yX8_absent : MethodName := ⟨RX8, "absent", "(III)I"⟩
abbrev cX8_mark : ByteArray := prog_1_method_12_code
def yX8_mark : MethodName := ⟨RX8, "mark", "(IIII)I"⟩
abbrev cX8_late : ByteArray := prog_1_method_13_code
def yX8_late : MethodName := ⟨RX8, "late", "(IIII)I"⟩
abbrev cX8_unmark : ByteArray := prog_1_method_14_code
def yX8_unmark : MethodName := ⟨RX8, "unmark", "(III)I"⟩
abbrev cX8_marked : ByteArray := prog_1_method_15_code
def yX8_marked : MethodName := ⟨RX8, "marked", "(III)I"⟩
abbrev cX8_day : ByteArray := prog_1_method_16_code
def yX8_day : MethodName := ⟨RX8, "day", "(III)I"⟩
abbrev cX8_shifts : ByteArray := prog_1_method_17_code
def yX8_shifts : MethodName := ⟨RX8, "shifts", "(III)I"⟩
abbrev cX8_minute : ByteArray := prog_1_method_18_code
def yX8_minute : MethodName := ⟨RX8, "minute", "(III)I"⟩
abbrev cX8_minutes : ByteArray := prog_1_method_19_code
def yX8_minutes : MethodName := ⟨RX8, "minutes", "(III)I"⟩
abbrev cX8_why : ByteArray := prog_1_method_20_code
def yX8_why : MethodName := ⟨RX8, "why", "(III)I"⟩
abbrev cX8_counts : ByteArray := prog_1_method_21_code
def yX8_counts : MethodName := ⟨RX8, "counts", "(IIIII)I"⟩
abbrev cX8_cents : ByteArray := prog_1_method_22_code
def yX8_cents : MethodName := ⟨RX8, "cents", "(II)J"⟩
abbrev cX8_due : ByteArray := prog_1_method_23_code
def yX8_due : MethodName := ⟨RX8, "due", "(II)I"⟩
abbrev cX8_close : ByteArray := prog_1_method_24_code
def yX8_close : MethodName := ⟨RX8, "close", "()I"⟩
abbrev cX8_open : ByteArray := prog_1_method_25_code
def yX8_open : MethodName := ⟨RX8, "open", "()I"⟩
abbrev cX8_month : ByteArray := prog_1_method_26_code
def yX8_month : MethodName := ⟨RX8, "month", "(III)J"⟩
abbrev cX8_sum : ByteArray := prog_1_method_27_code
def yX8_sum : MethodName := ⟨RX8, "sum", "(III)J"⟩
abbrev cX8_count : ByteArray := prog_1_method_28_code
def yX8_count : MethodName := ⟨RX8, "count", "(I)I"⟩
abbrev cX8_isWithin : ByteArray := prog_1_method_29_code
def yX8_isWithin : MethodName := ⟨RX8, "isWithin", "(III)Z"⟩
abbrev cX8_isDay : ByteArray := prog_1_method_30_code
def yX8_isDay : MethodName := ⟨RX8, "isDay", "(I)Z"⟩
abbrev cX8_isMonth : ByteArray := prog_1_method_31_code
def yX8_isMonth : MethodName := ⟨RX8, "isMonth", "(I)Z"⟩
abbrev cX8_isMinuteOfDay : ByteArray := prog_1_method_32_code
def yX8_isMinuteOfDay : MethodName := ⟨RX8, "isMinuteOfDay", "(I)Z"⟩
abbrev cX8_isRoundStep : ByteArray := prog_1_method_33_code
def yX8_isRoundStep : MethodName := ⟨RX8, "isRoundStep", "(I)Z"⟩
abbrev cX8_findWorker : ByteArray := prog_1_method_34_code
def yX8_findWorker : MethodName := ⟨RX8, "findWorker", "(I)LShiftLedger$Worker;"⟩
abbrev cX8_findGroup : ByteArray := prog_1_method_35_code
def yX8_findGroup : MethodName := ⟨RX8, "findGroup", "(I)LShiftLedger$Group;"⟩
abbrev cX8_findRules : ByteArray := prog_1_method_36_code
def yX8_findRules : MethodName := ⟨RX8, "findRules", "(I)LShiftLedger$Rules;"⟩
abbrev cX8_timeOf : ByteArray := prog_1_method_37_code
def yX8_timeOf : MethodName := ⟨RX8, "timeOf", "(II)I"⟩
abbrev cX8_monthOf : ByteArray := prog_1_method_38_code
def yX8_monthOf : MethodName := ⟨RX8, "monthOf", "(I)I"⟩
abbrev cX8_isClosed : ByteArray := prog_1_method_39_code
def yX8_isClosed : MethodName := ⟨RX8, "isClosed", "(I)Z"⟩
abbrev cX8_kindOf : ByteArray := prog_1_method_40_code
def yX8_kindOf : MethodName := ⟨RX8, "kindOf", "(LShiftLedger$Group;I)I"⟩
abbrev cX8_dueOf : ByteArray := prog_1_method_41_code
def yX8_dueOf : MethodName := ⟨RX8, "dueOf", "(LShiftLedger$Worker;I)I"⟩
abbrev cX8_enter : ByteArray := prog_1_method_42_code
def yX8_enter : MethodName := ⟨RX8, "enter", "(IIIIZ)I"⟩
abbrev cX8_bookClosedDays : ByteArray := prog_1_method_43_code
def yX8_bookClosedDays : MethodName := ⟨RX8, "bookClosedDays", "(LShiftLedger$Worker;I)V"⟩
abbrev cX8_fillSheet : ByteArray := prog_1_method_44_code
def yX8_fillSheet : MethodName := ⟨RX8, "fillSheet", "(LShiftLedger$Worker;I)V"⟩
abbrev cX8_tallyDays : ByteArray := prog_1_method_45_code
def yX8_tallyDays : MethodName := ⟨RX8, "tallyDays", "(LShiftLedger$Worker;II)V"⟩
abbrev cX8_payOfSheet : ByteArray := prog_1_method_46_code
def yX8_payOfSheet : MethodName := ⟨RX8, "payOfSheet", "(LShiftLedger$Group;I)J"⟩
abbrev cX8_toCents : ByteArray := prog_1_method_47_code
def yX8_toCents : MethodName := ⟨RX8, "toCents", "(J)J"⟩
abbrev cX8_hasGap : ByteArray := prog_1_method_48_code
def yX8_hasGap : MethodName := ⟨RX8, "hasGap", "(LShiftLedger$Worker;I)Z"⟩
abbrev cX8_sayingOf : ByteArray := prog_1_method_49_code
def yX8_sayingOf : MethodName := ⟨RX8, "sayingOf", "(LShiftLedger$Worker;II)J"⟩
abbrev cX8_openFlex : ByteArray := prog_1_method_50_code
def yX8_openFlex : MethodName := ⟨RX8, "openFlex", "(LShiftLedger$Worker;I)J"⟩
abbrev cX8_keepSayings : ByteArray := prog_1_method_51_code
def yX8_keepSayings : MethodName := ⟨RX8, "keepSayings", "(LShiftLedger$Worker;I)V"⟩
def RX9 : String := "ShiftLedgerModel"
def TX9 : u_T := fun k => match k with
  | 0 => ("ShiftLedgerModel", "thrown", "I", false)
  | 1 => ("ShiftLedgerModel", "feast", "[Z", true)
  | 2 => ("ShiftLedgerModel", "feasts", "I", false)
  | 3 => ("ShiftLedgerModel", "kinds", "[I", true)
  | 4 => ("ShiftLedgerModel", "ruleA", "[I", true)
  | 5 => ("ShiftLedgerModel", "ruleB", "[I", true)
  | 6 => ("ShiftLedgerModel", "rateGroup", "[I", true)
  | 7 => ("ShiftLedgerModel", "rateDay", "[I", true)
  | 8 => ("ShiftLedgerModel", "rateCents", "[I", true)
  | 9 => ("ShiftLedgerModel", "rates", "I", false)
  | 10 => ("ShiftLedgerModel", "sKinds", "[I", true)
  | 11 => ("ShiftLedgerModel", "sFrom", "[I", true)
  | 12 => ("ShiftLedgerModel", "sTo", "[I", true)
  | 13 => ("ShiftLedgerModel", "sP", "[I", true)
  | 14 => ("ShiftLedgerModel", "excludes", "[Z", true)
  | 15 => ("ShiftLedgerModel", "surcharges", "I", false)
  | 16 => ("ShiftLedgerModel", "targets", "[I", true)
  | 17 => ("ShiftLedgerModel", "low", "[I", true)
  | 18 => ("ShiftLedgerModel", "high", "[I", true)
  | 19 => ("ShiftLedgerModel", "workers", "I", false)
  | 20 => ("ShiftLedgerModel", "groupOf", "[I", true)
  | 21 => ("ShiftLedgerModel", "firstOf", "[I", true)
  | 22 => ("ShiftLedgerModel", "absences", "[I", true)
  | 23 => ("ShiftLedgerModel", "absentFrom", "[I", true)
  | 24 => ("ShiftLedgerModel", "absentTo", "[I", true)
  | 25 => ("ShiftLedgerModel", "marks", "[I", true)
  | 26 => ("ShiftLedgerModel", "allMarks", "I", false)
  | 27 => ("ShiftLedgerModel", "time", "[I", true)
  | 28 => ("ShiftLedgerModel", "sort", "[I", true)
  | 29 => ("ShiftLedgerModel", "role", "[I", true)
  | 30 => ("ShiftLedgerModel", "shifts", "I", false)
  | 31 => ("ShiftLedgerModel", "begin", "[I", true)
  | 32 => ("ShiftLedgerModel", "end", "[I", true)
  | 33 => ("ShiftLedgerModel", "firstMark", "[I", true)
  | 34 => ("ShiftLedgerModel", "lastMark", "[I", true)
  | 35 => ("ShiftLedgerModel", "gap", "[Z", true)
  | 36 => ("ShiftLedgerModel", "sorts", "[I", true)
  | 37 => ("ShiftLedgerModel", "left", "[I", true)
  | 38 => ("ShiftLedgerModel", "rests", "I", false)
  | 39 => ("ShiftLedgerModel", "closed", "I", false)
  | 40 => ("ShiftLedgerModel", "saidPaid", "[J", true)
  | 41 => ("ShiftLedgerModel", "saidCents", "[J", true)
  | 42 => ("ShiftLedgerModel", "saidFlex", "[J", true)
  | 43 => ("ShiftLedgerModel", "bookedPaid", "[J", true)
  | 44 => ("ShiftLedgerModel", "bookedCents", "[J", true)
  | 45 => ("ShiftLedgerModel", "sumPaid", "J", false)
  | _ => ("ShiftLedgerModel", "sumCents", "J", false)
def tyX9 : Nat → FieldType := fun k => match k with
  | 0 => .int
  | 1 => .array .boolean
  | 2 => .int
  | 3 => .array .int
  | 4 => .array .int
  | 5 => .array .int
  | 6 => .array .int
  | 7 => .array .int
  | 8 => .array .int
  | 9 => .int
  | 10 => .array .int
  | 11 => .array .int
  | 12 => .array .int
  | 13 => .array .int
  | 14 => .array .boolean
  | 15 => .int
  | 16 => .array .int
  | 17 => .array .int
  | 18 => .array .int
  | 19 => .int
  | 20 => .array .int
  | 21 => .array .int
  | 22 => .array .int
  | 23 => .array .int
  | 24 => .array .int
  | 25 => .array .int
  | 26 => .int
  | 27 => .array .int
  | 28 => .array .int
  | 29 => .array .int
  | 30 => .int
  | 31 => .array .int
  | 32 => .array .int
  | 33 => .array .int
  | 34 => .array .int
  | 35 => .array .boolean
  | 36 => .array .int
  | 37 => .array .int
  | 38 => .int
  | 39 => .int
  | 40 => .array .long
  | 41 => .array .long
  | 42 => .array .long
  | 43 => .array .long
  | 44 => .array .long
  | 45 => .long
  | _ => .long
abbrev wsX90 : List Cond := u_ws RX9 TX9 47
theorem nmX9 : ∀ a, a < 47 → ∀ b, b < 47 → a ≠ b → (TX9 a).2.1 ≠ (TX9 b).2.1 := by decide +kernel
theorem tyX9_ok : ∀ k, k < 47 → parseFieldDescriptor (TX9 k).2.2.1 = some (tyX9 k) := by decide +kernel
abbrev cX9_in : ByteArray := prog_11_method_2_code
def yX9_in : MethodName := ⟨RX9, "in", "(III)Z"⟩
abbrev cX9_length : ByteArray := prog_11_method_3_code
def yX9_length : MethodName := ⟨RX9, "length", "(I)I"⟩
abbrev cX9_firstDay : ByteArray := prog_11_method_4_code
def yX9_firstDay : MethodName := ⟨RX9, "firstDay", "(I)I"⟩
abbrev cX9_monthOf : ByteArray := prog_11_method_5_code
def yX9_monthOf : MethodName := ⟨RX9, "monthOf", "(I)I"⟩
abbrev cX9_isDay : ByteArray := prog_11_method_6_code
def yX9_isDay : MethodName := ⟨RX9, "isDay", "(I)Z"⟩
abbrev cX9_isGroup : ByteArray := prog_11_method_7_code
def yX9_isGroup : MethodName := ⟨RX9, "isGroup", "(I)Z"⟩
abbrev cX9_isWorker : ByteArray := prog_11_method_8_code
def yX9_isWorker : MethodName := ⟨RX9, "isWorker", "(I)Z"⟩
abbrev cX9_kindOf : ByteArray := prog_11_method_9_code
def yX9_kindOf : MethodName := ⟨RX9, "kindOf", "(II)I"⟩
abbrev cX9_feast : ByteArray := prog_11_method_10_code
def yX9_feast : MethodName := ⟨RX9, "feast", "(I)I"⟩
abbrev cX9_kind : ByteArray := prog_11_method_11_code
def yX9_kind : MethodName := ⟨RX9, "kind", "(III)I"⟩
abbrev cX9_init : ByteArray := prog_11_method_12_code
def yX9_init : MethodName := ⟨RX9, "<init>", "()V"⟩
abbrev cX9_rule : ByteArray := prog_11_method_13_code
def yX9_rule : MethodName := ⟨RX9, "rule", "(IIII)I"⟩
abbrev cX9_rate : ByteArray := prog_11_method_14_code
def yX9_rate : MethodName := ⟨RX9, "rate", "(III)I"⟩
abbrev cX9_rateOf : ByteArray := prog_11_method_15_code
def yX9_rateOf : MethodName := ⟨RX9, "rateOf", "(II)I"⟩
abbrev cX9_surcharge : ByteArray := prog_11_method_16_code
def yX9_surcharge : MethodName := ⟨RX9, "surcharge", "(IIII)I"⟩
abbrev cX9_exclude : ByteArray := prog_11_method_17_code
def yX9_exclude : MethodName := ⟨RX9, "exclude", "(II)I"⟩
abbrev cX9_target : ByteArray := prog_11_method_18_code
def yX9_target : MethodName := ⟨RX9, "target", "(III)I"⟩
abbrev cX9_limits : ByteArray := prog_11_method_19_code
def yX9_limits : MethodName := ⟨RX9, "limits", "(III)I"⟩
abbrev cX9_worker : ByteArray := prog_11_method_20_code
def yX9_worker : MethodName := ⟨RX9, "worker", "(II)I"⟩
abbrev cX9_absent : ByteArray := prog_11_method_21_code
def yX9_absent : MethodName := ⟨RX9, "absent", "(III)I"⟩
abbrev cX9_dueOf : ByteArray := prog_11_method_22_code
def yX9_dueOf : MethodName := ⟨RX9, "dueOf", "(II)I"⟩
abbrev cX9_pair : ByteArray := prog_11_method_23_code
def yX9_pair : MethodName := ⟨RX9, "pair", "(I)V"⟩
abbrev cX9_fill : ByteArray := prog_11_method_24_code
def yX9_fill : MethodName := ⟨RX9, "fill", "(III)V"⟩
abbrev cX9_lay : ByteArray := prog_11_method_25_code
def yX9_lay : MethodName := ⟨RX9, "lay", "(IIII)V"⟩
abbrev cX9_there : ByteArray := prog_11_method_26_code
def yX9_there : MethodName := ⟨RX9, "there", "()I"⟩
abbrev cX9_look : ByteArray := prog_11_method_27_code
def yX9_look : MethodName := ⟨RX9, "look", "(II)V"⟩
abbrev cX9_behind : ByteArray := prog_11_method_28_code
def yX9_behind : MethodName := ⟨RX9, "behind", "(II)V"⟩
abbrev cX9_paid : ByteArray := prog_11_method_29_code
def yX9_paid : MethodName := ⟨RX9, "paid", "()I"⟩
abbrev cX9_meets : ByteArray := prog_11_method_30_code
def yX9_meets : MethodName := ⟨RX9, "meets", "(III)Z"⟩
abbrev cX9_countsAt : ByteArray := prog_11_method_31_code
def yX9_countsAt : MethodName := ⟨RX9, "countsAt", "(III)Z"⟩
abbrev cX9_pay : ByteArray := prog_11_method_32_code
def yX9_pay : MethodName := ⟨RX9, "pay", "(II)J"⟩
abbrev cX9_sumDays : ByteArray := prog_11_method_33_code
def yX9_sumDays : MethodName := ⟨RX9, "sumDays", "(III)V"⟩
abbrev cX9_flexOf : ByteArray := prog_11_method_34_code
def yX9_flexOf : MethodName := ⟨RX9, "flexOf", "(II)J"⟩
abbrev cX9_says : ByteArray := prog_11_method_35_code
def yX9_says : MethodName := ⟨RX9, "says", "(III)J"⟩
abbrev cX9_close : ByteArray := prog_11_method_36_code
def yX9_close : MethodName := ⟨RX9, "close", "()I"⟩
abbrev cX9_open : ByteArray := prog_11_method_37_code
def yX9_open : MethodName := ⟨RX9, "open", "()I"⟩
abbrev cX9_markAt : ByteArray := prog_11_method_38_code
def yX9_markAt : MethodName := ⟨RX9, "markAt", "(II)I"⟩
abbrev cX9_isMark : ByteArray := prog_11_method_39_code
def yX9_isMark : MethodName := ⟨RX9, "isMark", "(III)Z"⟩
abbrev cX9_comes : ByteArray := prog_11_method_40_code
def yX9_comes : MethodName := ⟨RX9, "comes", "(IIIIZ)I"⟩
abbrev cX9_book : ByteArray := prog_11_method_41_code
def yX9_book : MethodName := ⟨RX9, "book", "(IJ)V"⟩
abbrev cX9_mark : ByteArray := prog_11_method_42_code
def yX9_mark : MethodName := ⟨RX9, "mark", "(IIII)I"⟩
abbrev cX9_late : ByteArray := prog_11_method_43_code
def yX9_late : MethodName := ⟨RX9, "late", "(IIII)I"⟩
abbrev cX9_unmark : ByteArray := prog_11_method_44_code
def yX9_unmark : MethodName := ⟨RX9, "unmark", "(III)I"⟩
abbrev cX9_marked : ByteArray := prog_11_method_45_code
def yX9_marked : MethodName := ⟨RX9, "marked", "(III)I"⟩
abbrev cX9_day : ByteArray := prog_11_method_46_code
def yX9_day : MethodName := ⟨RX9, "day", "(III)I"⟩
abbrev cX9_shifts : ByteArray := prog_11_method_47_code
def yX9_shifts : MethodName := ⟨RX9, "shifts", "(III)I"⟩
abbrev cX9_looks : ByteArray := prog_11_method_48_code
def yX9_looks : MethodName := ⟨RX9, "looks", "(II)Z"⟩
abbrev cX9_minute : ByteArray := prog_11_method_49_code
def yX9_minute : MethodName := ⟨RX9, "minute", "(III)I"⟩
abbrev cX9_minutes : ByteArray := prog_11_method_50_code
def yX9_minutes : MethodName := ⟨RX9, "minutes", "(III)I"⟩
abbrev cX9_why : ByteArray := prog_11_method_51_code
def yX9_why : MethodName := ⟨RX9, "why", "(III)I"⟩
abbrev cX9_counts : ByteArray := prog_11_method_52_code
def yX9_counts : MethodName := ⟨RX9, "counts", "(IIIII)I"⟩
abbrev cX9_cents : ByteArray := prog_11_method_53_code
def yX9_cents : MethodName := ⟨RX9, "cents", "(II)J"⟩
abbrev cX9_due : ByteArray := prog_11_method_54_code
def yX9_due : MethodName := ⟨RX9, "due", "(II)I"⟩
abbrev cX9_month : ByteArray := prog_11_method_55_code
def yX9_month : MethodName := ⟨RX9, "month", "(III)J"⟩
abbrev cX9_sum : ByteArray := prog_11_method_56_code
def yX9_sum : MethodName := ⟨RX9, "sum", "(III)J"⟩
abbrev cX9_count : ByteArray := prog_11_method_57_code
def yX9_count : MethodName := ⟨RX9, "count", "(I)I"⟩
def RJ9 : String := "java/lang/Math"
def TJ9 : u_T := fun k => match k with
  | _ => ("", "", "", false)
def tyJ9 : Nat → FieldType := fun k => match k with
  | _ => .int
abbrev wsJ90 : List Cond := u_ws RJ9 TJ9 0
theorem nmJ9 : ∀ a, a < 0 → ∀ b, b < 0 → a ≠ b → (TJ9 a).2.1 ≠ (TJ9 b).2.1 := by decide +kernel
theorem tyJ9_ok : ∀ k, k < 0 → parseFieldDescriptor (TJ9 k).2.2.1 = some (tyJ9 k) := by decide +kernel
abbrev cJ9_max_7cf53 : ByteArray := prog_12_method_65_code
def yJ9_max_7cf53 : MethodName := ⟨RJ9, "max", "(II)I"⟩
abbrev cJ9_max_f86c9 : ByteArray := prog_12_method_66_code
def yJ9_max_f86c9 : MethodName := ⟨RJ9, "max", "(JJ)J"⟩
abbrev cJ9_min_7cf53 : ByteArray := prog_12_method_69_code
def yJ9_min_7cf53 : MethodName := ⟨RJ9, "min", "(II)I"⟩
abbrev cJ9_min_f86c9 : ByteArray := prog_12_method_70_code
def yJ9_min_f86c9 : MethodName := ⟨RJ9, "min", "(JJ)J"⟩
def RJ10 : String := "java/lang/System"
def TJ10 : u_T := fun k => match k with
  | _ => ("", "", "", false)
def tyJ10 : Nat → FieldType := fun k => match k with
  | _ => .int
abbrev wsJ100 : List Cond := u_ws RJ10 TJ10 0
theorem nmJ10 : ∀ a, a < 0 → ∀ b, b < 0 → a ≠ b → (TJ10 a).2.1 ≠ (TJ10 b).2.1 := by decide +kernel
theorem tyJ10_ok : ∀ k, k < 0 → parseFieldDescriptor (TJ10 k).2.2.1 = some (tyJ10 k) := by decide +kernel
def RL : String := "ShiftLedgerLaw"
abbrev cL_law : ByteArray := code
def yL_law : MethodName := ⟨RL, "law", "([I)Z"⟩
abbrev vwCl : List vw_C := [(RX0, TX0, 5), (RX1, TX1, 4), (RX2, TX2, 4), (RX3, TX3, 2), (RX4, TX4, 4), (RX5, TX5, 6), (RX6, TX6, 2), (RX7, TX7, 7), (RX8, TX8, 12), (RX9, TX9, 47)]
end
section
/-! Tables of the program for the abstract machine, written by wip/whole/gen.py out of the printed names. -/
abbrev am_I : Type := Nat × Instr × Nat
/-- a method: its class's number, name, bytes, locals, what it returns, how many parameters, whether it is <init>, its instructions in rows of 32 bytes -/
abbrev am_T : Type := Nat × MethodName × ByteArray × Nat × Option FieldType × Nat × Bool × List (List am_I)
def am_cn : List String := [RX0, RX1, RX2, RX3, RX4, RX5, RX6, RX7, RX8, RX9, RL]
def am_R (o : Nat) : String := am_cn.getD o RL
def am_find (pc : Nat) : List am_I → Option (Instr × Nat)
  | [] => none
  | q :: l => bif Nat.beq q.1 pc then some q.2 else am_find pc l
def am_rows (τ : am_T) : List (List am_I) := τ.2.2.2.2.2.2.2
def am_at (τ : am_T) (pc : Nat) : Option (Instr × Nat) := am_find pc ((am_rows τ).getD (pc / 32) [])
def am_decR (c : ByteArray) (r : List am_I) : Bool := r.all (fun q => decide (decode c q.1 = .ok q.2))
def am_dec (τ : am_T) : Bool := (am_rows τ).all (am_decR τ.2.2.1)
theorem am_decC {c : ByteArray} {r : List am_I} {l : List (List am_I)} (h : am_decR c r = true) (hl : l.all (am_decR c) = true) : (r :: l).all (am_decR c) = true := by
  rw [List.all_cons, h, hl]; rfl
theorem am_find_mem {pc : Nat} {x : Instr × Nat} : ∀ {l : List am_I}, am_find pc l = some x → (pc, x) ∈ l
  | [], h => by cases h
  | q :: l, h => by
    unfold am_find at h
    cases hb : Nat.beq q.1 pc with
    | true =>
      rw [hb] at h
      have e1 : q.1 = pc := Nat.eq_of_beq_eq_true hb
      have e2 : q.2 = x := Option.some.inj h
      rw [← e1, ← e2]
      exact List.mem_cons_self
    | false =>
      rw [hb] at h
      exact List.mem_cons_of_mem _ (am_find_mem h)
theorem am_at_dec {τ : am_T} (ho : am_dec τ = true) {pc : Nat} {x : Instr × Nat} (h : am_at τ pc = some x) : decode τ.2.2.1 pc = .ok x := by
  have hm := am_find_mem h
  have hr : ∀ r ∈ am_rows τ, ∀ q ∈ r, decode τ.2.2.1 q.1 = .ok q.2 := by
    intro r hr q hq
    have h1 := List.all_eq_true.mp ho r hr
    have h2 := List.all_eq_true.mp h1 q hq
    exact of_decide_eq_true h2
  rw [List.getD_eq_getElem?_getD] at hm
  cases hg : (am_rows τ)[pc / 32]? with
  | none => rw [hg] at hm; cases hm
  | some r =>
    rw [hg] at hm
    exact hr r (List.mem_of_getElem? hg) (pc, x) hm

def tX8_init : am_T := (8, yX8_init, cX8_init, 2, none, 0, true, [[(0, .aload_n 0, 1), (1, .invokespecial 3, 3), (4, .aload_n 0, 1), (5, .sipush 1096, 3), (8, .newarray .boolean, 2), (10, .putfield 9, 3), (13, .aload_n 0, 1), (14, .bipush 6, 2), (16, .anewarray 13, 3), (19, .putfield 15, 3), (22, .aload_n 0, 1), (23, .bipush 8, 2), (25, .anewarray 19, 3), (28, .putfield 21, 3), (31, .aload_n 0, 1)],
  [(32, .new 25, 3), (35, .dup, 1), (36, .invokespecial 27, 3), (39, .putfield 28, 3), (42, .aload_n 0, 1), (43, .new 32, 3), (46, .dup, 1), (47, .invokespecial 34, 3), (50, .putfield 35, 3), (53, .aload_n 0, 1), (54, .bipush 30, 2), (56, .anewarray 39, 3), (59, .putfield 41, 3), (62, .aload_n 0, 1), (63, .new 45, 3)],
  [(66, .dup, 1), (67, .invokespecial 47, 3), (70, .putfield 48, 3), (73, .aload_n 0, 1), (74, .new 52, 3), (77, .dup, 1), (78, .invokespecial 54, 3), (81, .putfield 55, 3), (84, .iconst 0, 1), (85, .istore_n 1, 1), (86, .iload_n 1, 1), (87, .bipush 6, 2), (89, .if_icmp .ge 23, 3), (92, .aload_n 0, 1), (93, .getfield 15, 3)],
  [(96, .iload_n 1, 1), (97, .new 13, 3), (100, .dup, 1), (101, .iload_n 1, 1), (102, .invokespecial 59, 3), (105, .aastore, 1), (106, .iinc 1 1, 3), (109, .goto (-23), 3), (112, .iconst 0, 1), (113, .istore_n 1, 1), (114, .iload_n 1, 1), (115, .bipush 8, 2), (117, .if_icmp .ge 22, 3), (120, .aload_n 0, 1), (121, .getfield 21, 3), (124, .iload_n 1, 1), (125, .new 19, 3)],
  [(128, .dup, 1), (129, .invokespecial 62, 3), (132, .aastore, 1), (133, .iinc 1 1, 3), (136, .goto (-22), 3), (139, .return_, 1)]])
def tX2_init : am_T := (2, yX2_init, cX2_init, 1, none, 0, true, [[(0, .aload_n 0, 1), (1, .invokespecial 3, 3), (4, .aload_n 0, 1), (5, .bipush 60, 2), (7, .newarray .int, 2), (9, .putfield 9, 3), (12, .aload_n 0, 1), (13, .bipush 60, 2), (15, .newarray .int, 2), (17, .putfield 15, 3), (20, .aload_n 0, 1), (21, .bipush 60, 2), (23, .newarray .int, 2), (25, .putfield 18, 3), (28, .return_, 1)]])
def tX5_init : am_T := (5, yX5_init, cX5_init, 1, none, 0, true, [[(0, .aload_n 0, 1), (1, .invokespecial 3, 3), (4, .aload_n 0, 1), (5, .bipush 12, 2), (7, .newarray .int, 2), (9, .putfield 9, 3), (12, .aload_n 0, 1), (13, .bipush 12, 2), (15, .newarray .int, 2), (17, .putfield 15, 3), (20, .aload_n 0, 1), (21, .bipush 12, 2), (23, .newarray .int, 2), (25, .putfield 18, 3), (28, .aload_n 0, 1), (29, .bipush 12, 2), (31, .newarray .int, 2)],
  [(33, .putfield 21, 3), (36, .aload_n 0, 1), (37, .bipush 12, 2), (39, .newarray .int, 2), (41, .putfield 24, 3), (44, .return_, 1)]])
def tX4_init : am_T := (4, yX4_init, cX4_init, 1, none, 0, true, [[(0, .aload_n 0, 1), (1, .invokespecial 3, 3), (4, .aload_n 0, 1), (5, .sipush 805, 3), (8, .newarray .int, 2), (10, .putfield 9, 3), (13, .aload_n 0, 1), (14, .sipush 805, 3), (17, .newarray .int, 2), (19, .putfield 15, 3), (22, .aload_n 0, 1), (23, .sipush 805, 3), (26, .newarray .int, 2), (28, .putfield 18, 3), (31, .return_, 1)]])
def tX6_init : am_T := (6, yX6_init, cX6_init, 1, none, 0, true, [[(0, .aload_n 0, 1), (1, .invokespecial 1, 3), (4, .return_, 1)]])
def tX0_init : am_T := (0, yX0_init, cX0_init, 2, none, 1, true, [[(0, .aload_n 0, 1), (1, .invokespecial 3, 3), (4, .aload_n 0, 1), (5, .bipush 8, 2), (7, .newarray .int, 2), (9, .putfield 9, 3), (12, .aload_n 0, 1), (13, .bipush 7, 2), (15, .newarray .int, 2), (17, .putfield 15, 3), (20, .aload_n 0, 1), (21, .iload_n 1, 1), (22, .putfield 18, 3), (25, .return_, 1)]])
def tX3_init : am_T := (3, yX3_init, cX3_init, 1, none, 0, true, [[(0, .aload_n 0, 1), (1, .invokespecial 3, 3), (4, .aload_n 0, 1), (5, .iconst 5, 1), (6, .newarray .int, 2), (8, .putfield 9, 3), (11, .aload_n 0, 1), (12, .iconst 5, 1), (13, .newarray .int, 2), (15, .putfield 15, 3), (18, .aload_n 0, 1), (19, .getfield 9, 3), (22, .iconst 0, 1), (23, .iconst 1, 1), (24, .iastore, 1), (25, .return_, 1)]])
def tX9_init_r0 : List am_I := [(0, .aload_n 0, 1), (1, .invokespecial 36, 3), (4, .aload_n 0, 1), (5, .sipush 1096, 3), (8, .newarray .boolean, 2), (10, .putfield 22, 3), (13, .aload_n 0, 1), (14, .bipush 48, 2), (16, .newarray .int, 2), (18, .putfield 18, 3), (21, .aload_n 0, 1), (22, .bipush 40, 2), (24, .newarray .int, 2), (26, .putfield 42, 3), (29, .aload_n 0, 1), (30, .bipush 40, 2)]
def tX9_init_r1 : List am_I := [(32, .newarray .int, 2), (34, .putfield 45, 3), (37, .aload_n 0, 1), (38, .bipush 60, 2), (40, .newarray .int, 2), (42, .putfield 48, 3), (45, .aload_n 0, 1), (46, .bipush 60, 2), (48, .newarray .int, 2), (50, .putfield 51, 3), (53, .aload_n 0, 1), (54, .bipush 60, 2), (56, .newarray .int, 2), (58, .putfield 54, 3), (61, .aload_n 0, 1), (62, .bipush 12, 2)]
def tX9_init_r2 : List am_I := [(64, .newarray .int, 2), (66, .putfield 57, 3), (69, .aload_n 0, 1), (70, .bipush 12, 2), (72, .newarray .int, 2), (74, .putfield 60, 3), (77, .aload_n 0, 1), (78, .bipush 12, 2), (80, .newarray .int, 2), (82, .putfield 63, 3), (85, .aload_n 0, 1), (86, .bipush 12, 2), (88, .newarray .int, 2), (90, .putfield 66, 3), (93, .aload_n 0, 1), (94, .sipush 144, 3)]
def tX9_init_r3 : List am_I := [(97, .newarray .boolean, 2), (99, .putfield 69, 3), (102, .aload_n 0, 1), (103, .bipush 42, 2), (105, .newarray .int, 2), (107, .putfield 72, 3), (110, .aload_n 0, 1), (111, .bipush 6, 2), (113, .newarray .int, 2), (115, .putfield 75, 3), (118, .aload_n 0, 1), (119, .bipush 6, 2), (121, .newarray .int, 2), (123, .putfield 78, 3), (126, .aload_n 0, 1), (127, .bipush 30, 2)]
def tX9_init_r4 : List am_I := [(129, .newarray .int, 2), (131, .putfield 81, 3), (134, .aload_n 0, 1), (135, .bipush 30, 2), (137, .newarray .int, 2), (139, .putfield 84, 3), (142, .aload_n 0, 1), (143, .bipush 30, 2), (145, .newarray .int, 2), (147, .putfield 87, 3), (150, .aload_n 0, 1), (151, .sipush 600, 3), (154, .newarray .int, 2), (156, .putfield 90, 3), (159, .aload_n 0, 1)]
def tX9_init_r5 : List am_I := [(160, .sipush 600, 3), (163, .newarray .int, 2), (165, .putfield 93, 3), (168, .aload_n 0, 1), (169, .bipush 30, 2), (171, .newarray .int, 2), (173, .putfield 96, 3), (176, .aload_n 0, 1), (177, .sipush 12000, 3), (180, .newarray .int, 2), (182, .putfield 99, 3), (185, .aload_n 0, 1), (186, .sipush 12000, 3), (189, .newarray .int, 2), (191, .putfield 102, 3)]
def tX9_init_r6 : List am_I := [(194, .aload_n 0, 1), (195, .sipush 400, 3), (198, .newarray .int, 2), (200, .putfield 105, 3), (203, .aload_n 0, 1), (204, .sipush 400, 3), (207, .newarray .int, 2), (209, .putfield 108, 3), (212, .aload_n 0, 1), (213, .sipush 400, 3), (216, .newarray .int, 2), (218, .putfield 111, 3), (221, .aload_n 0, 1), (222, .sipush 400, 3)]
def tX9_init_r7 : List am_I := [(225, .newarray .int, 2), (227, .putfield 114, 3), (230, .aload_n 0, 1), (231, .sipush 400, 3), (234, .newarray .int, 2), (236, .putfield 117, 3), (239, .aload_n 0, 1), (240, .sipush 400, 3), (243, .newarray .boolean, 2), (245, .putfield 120, 3), (248, .aload_n 0, 1), (249, .sipush 2880, 3), (252, .newarray .int, 2), (254, .putfield 123, 3)]
def tX9_init_r8 : List am_I := [(257, .aload_n 0, 1), (258, .iconst 5, 1), (259, .newarray .int, 2), (261, .putfield 126, 3), (264, .aload_n 0, 1), (265, .sipush 1080, 3), (268, .newarray .long, 2), (270, .putfield 129, 3), (273, .aload_n 0, 1), (274, .sipush 1080, 3), (277, .newarray .long, 2), (279, .putfield 133, 3), (282, .aload_n 0, 1), (283, .sipush 1080, 3), (286, .newarray .long, 2)]
def tX9_init_r9 : List am_I := [(288, .putfield 136, 3), (291, .aload_n 0, 1), (292, .sipush 1080, 3), (295, .newarray .long, 2), (297, .putfield 139, 3), (300, .aload_n 0, 1), (301, .sipush 1080, 3), (304, .newarray .long, 2), (306, .putfield 142, 3), (309, .iconst 0, 1), (310, .istore_n 1, 1), (311, .iload_n 1, 1), (312, .bipush 8, 2), (314, .if_icmp .ge 18, 3), (317, .aload_n 0, 1), (318, .getfield 42, 3)]
def tX9_init_r10 : List am_I := [(321, .iconst 5, 1), (322, .iload_n 1, 1), (323, .imul, 1), (324, .iconst 1, 1), (325, .iastore, 1), (326, .iinc 1 1, 3), (329, .goto (-18), 3), (332, .return_, 1)]
def tX9_init : am_T := (9, yX9_init, cX9_init, 2, none, 0, true, [tX9_init_r0, tX9_init_r1, tX9_init_r2, tX9_init_r3, tX9_init_r4, tX9_init_r5, tX9_init_r6, tX9_init_r7, tX9_init_r8, tX9_init_r9, tX9_init_r10])
def tX8_worker : am_T := (8, yX8_worker, cX8_worker, 4, (some .int), 2, false, [[(0, .aload_n 0, 1), (1, .iload_n 1, 1), (2, .invokevirtual 63, 3), (5, .astore_n 3, 1), (6, .aload_n 3, 1), (7, .ifnull 10, 3), (10, .iload_n 2, 1), (11, .invokestatic 67, 3), (14, .ifCond .ne 5, 3), (17, .iconst (-1), 1), (18, .ireturn, 1), (19, .aload_n 0, 1), (20, .getfield 71, 3), (23, .bipush 30, 2), (25, .if_icmp .lt 6, 3), (28, .bipush (-4), 2), (30, .ireturn, 1), (31, .aload_n 0, 1)],
  [(32, .getfield 41, 3), (35, .aload_n 0, 1), (36, .getfield 71, 3), (39, .new 39, 3), (42, .dup, 1), (43, .aload_n 3, 1), (44, .iload_n 2, 1), (45, .invokespecial 75, 3), (48, .aastore, 1), (49, .aload_n 0, 1), (50, .dup, 1), (51, .getfield 71, 3), (54, .iconst 1, 1), (55, .iadd, 1), (56, .putfield 71, 3), (59, .aload_n 0, 1), (60, .getfield 71, 3), (63, .iconst 1, 1)],
  [(64, .isub, 1), (65, .ireturn, 1)]])
def tX8_findGroup : am_T := (8, yX8_findGroup, cX8_findGroup, 2, (some (.object "ShiftLedger$Group")), 1, false, [[(0, .iload_n 1, 1), (1, .iconst 0, 1), (2, .iconst 5, 1), (3, .invokestatic 81, 3), (6, .ifCond .eq 12, 3), (9, .aload_n 0, 1), (10, .getfield 15, 3), (13, .iload_n 1, 1), (14, .aaload, 1), (15, .goto 4, 3), (18, .aconst_null, 1), (19, .areturn, 1)]])
def tX8_isWithin : am_T := (8, yX8_isWithin, cX8_isWithin, 3, (some .boolean), 3, false, [[(0, .iload_n 0, 1), (1, .iload_n 1, 1), (2, .if_icmp .lt 12, 3), (5, .iload_n 0, 1), (6, .iload_n 2, 1), (7, .if_icmp .gt 7, 3), (10, .iconst 1, 1), (11, .goto 4, 3), (14, .iconst 0, 1), (15, .ireturn, 1)]])
def tX8_isDay : am_T := (8, yX8_isDay, cX8_isDay, 1, (some .boolean), 1, false, [[(0, .iload_n 0, 1), (1, .iconst 0, 1), (2, .sipush 1095, 3), (5, .invokestatic 81, 3), (8, .ireturn, 1)]])
def tX7_init : am_T := (7, yX7_init, cX7_init, 3, none, 2, true, [[(0, .aload_n 0, 1), (1, .invokespecial 3, 3), (4, .aload_n 0, 1), (5, .new 9, 3), (8, .dup, 1), (9, .invokespecial 11, 3), (12, .putfield 12, 3), (15, .aload_n 0, 1), (16, .bipush 20, 2), (18, .newarray .int, 2), (20, .putfield 18, 3), (23, .aload_n 0, 1), (24, .bipush 20, 2), (26, .newarray .int, 2), (28, .putfield 22, 3), (31, .aload_n 0, 1)],
  [(32, .iconst 5, 1), (33, .bipush 36, 2), (35, .multianewarray 25 2, 4), (39, .putfield 27, 3), (42, .aload_n 0, 1), (43, .aload_n 1, 1), (44, .putfield 30, 3), (47, .aload_n 0, 1), (48, .iload_n 2, 1), (49, .putfield 34, 3), (52, .return_, 1)]])
def tX1_init : am_T := (1, yX1_init, cX1_init, 1, none, 0, true, [[(0, .aload_n 0, 1), (1, .invokespecial 3, 3), (4, .aload_n 0, 1), (5, .sipush 400, 3), (8, .newarray .int, 2), (10, .putfield 9, 3), (13, .aload_n 0, 1), (14, .sipush 400, 3), (17, .newarray .int, 2), (19, .putfield 15, 3), (22, .aload_n 0, 1), (23, .sipush 400, 3), (26, .newarray .int, 2), (28, .putfield 18, 3), (31, .return_, 1)]])
def tX9_worker : am_T := (9, yX9_worker, cX9_worker, 3, (some .int), 2, false, [[(0, .iload_n 1, 1), (1, .invokestatic 33, 3), (4, .ifCond .eq 10, 3), (7, .iload_n 2, 1), (8, .invokestatic 26, 3), (11, .ifCond .ne 5, 3), (14, .iconst (-1), 1), (15, .ireturn, 1), (16, .aload_n 0, 1), (17, .getfield 15, 3), (20, .bipush 30, 2), (22, .if_icmp .ne 6, 3), (25, .bipush (-4), 2), (27, .ireturn, 1), (28, .aload_n 0, 1), (29, .getfield 81, 3)],
  [(32, .aload_n 0, 1), (33, .getfield 15, 3), (36, .iload_n 1, 1), (37, .iastore, 1), (38, .aload_n 0, 1), (39, .getfield 84, 3), (42, .aload_n 0, 1), (43, .getfield 15, 3), (46, .iload_n 2, 1), (47, .iastore, 1), (48, .aload_n 0, 1), (49, .dup, 1), (50, .getfield 15, 3), (53, .iconst 1, 1), (54, .iadd, 1), (55, .putfield 15, 3), (58, .aload_n 0, 1), (59, .getfield 15, 3), (62, .iconst 1, 1), (63, .isub, 1)],
  [(64, .ireturn, 1)]])
def tX9_isGroup : am_T := (9, yX9_isGroup, cX9_isGroup, 1, (some .boolean), 1, false, [[(0, .iload_n 0, 1), (1, .iconst 0, 1), (2, .iconst 5, 1), (3, .invokestatic 11, 3), (6, .ireturn, 1)]])
def tX9_in : am_T := (9, yX9_in, cX9_in, 3, (some .boolean), 3, false, [[(0, .iload_n 0, 1), (1, .iload_n 1, 1), (2, .if_icmp .lt 12, 3), (5, .iload_n 0, 1), (6, .iload_n 2, 1), (7, .if_icmp .gt 7, 3), (10, .iconst 1, 1), (11, .goto 4, 3), (14, .iconst 0, 1), (15, .ireturn, 1)]])
def tX9_isDay : am_T := (9, yX9_isDay, cX9_isDay, 1, (some .boolean), 1, false, [[(0, .iload_n 0, 1), (1, .iconst 0, 1), (2, .sipush 1095, 3), (5, .invokestatic 11, 3), (8, .ireturn, 1)]])
def tX8_feast : am_T := (8, yX8_feast, cX8_feast, 2, (some .int), 1, false, [[(0, .iload_n 1, 1), (1, .invokestatic 67, 3), (4, .ifCond .ne 5, 3), (7, .iconst (-1), 1), (8, .ireturn, 1), (9, .aload_n 0, 1), (10, .getfield 9, 3), (13, .iload_n 1, 1), (14, .baload, 1), (15, .ifCond .eq 5, 3), (18, .iconst 0, 1), (19, .ireturn, 1), (20, .aload_n 0, 1), (21, .getfield 9, 3), (24, .iload_n 1, 1), (25, .iconst 1, 1), (26, .bastore, 1), (27, .aload_n 0, 1), (28, .dup, 1), (29, .getfield 78, 3)],
  [(32, .iconst 1, 1), (33, .iadd, 1), (34, .putfield 78, 3), (37, .iconst 1, 1), (38, .ireturn, 1)]])
def tX9_feast : am_T := (9, yX9_feast, cX9_feast, 2, (some .int), 1, false, [[(0, .iload_n 1, 1), (1, .invokestatic 26, 3), (4, .ifCond .ne 5, 3), (7, .iconst (-1), 1), (8, .ireturn, 1), (9, .aload_n 0, 1), (10, .getfield 22, 3), (13, .iload_n 1, 1), (14, .baload, 1), (15, .ifCond .eq 5, 3), (18, .iconst 0, 1), (19, .ireturn, 1), (20, .aload_n 0, 1), (21, .getfield 22, 3), (24, .iload_n 1, 1), (25, .iconst 1, 1), (26, .bastore, 1), (27, .aload_n 0, 1), (28, .dup, 1), (29, .getfield 30, 3)],
  [(32, .iconst 1, 1), (33, .iadd, 1), (34, .putfield 30, 3), (37, .iconst 1, 1), (38, .ireturn, 1)]])
def tX8_kind : am_T := (8, yX8_kind, cX8_kind, 6, (some .int), 3, false, [[(0, .aload_n 0, 1), (1, .iload_n 1, 1), (2, .invokevirtual 63, 3), (5, .astore 4, 2), (7, .aload 4, 2), (9, .ifnull 13, 3), (12, .iload_n 3, 1), (13, .iconst 0, 1), (14, .bipush 7, 2), (16, .invokestatic 81, 3), (19, .ifCond .ne 5, 3), (22, .iconst (-1), 1), (23, .ireturn, 1), (24, .iload_n 2, 1), (25, .iconst 0, 1), (26, .bipush 7, 2), (28, .invokestatic 81, 3), (31, .ifCond .ne 6, 3)],
  [(34, .bipush (-2), 2), (36, .ireturn, 1), (37, .aload 4, 2), (39, .getfield 85, 3), (42, .iload_n 2, 1), (43, .iaload, 1), (44, .istore 5, 2), (46, .aload 4, 2), (48, .getfield 85, 3), (51, .iload_n 2, 1), (52, .iload_n 3, 1), (53, .iastore, 1), (54, .iload 5, 2), (56, .ireturn, 1)]])
def tX9_kind : am_T := (9, yX9_kind, cX9_kind, 5, (some .int), 3, false, [[(0, .iload_n 1, 1), (1, .invokestatic 33, 3), (4, .ifCond .eq 13, 3), (7, .iload_n 3, 1), (8, .iconst 0, 1), (9, .bipush 7, 2), (11, .invokestatic 11, 3), (14, .ifCond .ne 5, 3), (17, .iconst (-1), 1), (18, .ireturn, 1), (19, .iload_n 2, 1), (20, .iconst 0, 1), (21, .bipush 7, 2), (23, .invokestatic 11, 3), (26, .ifCond .ne 6, 3), (29, .bipush (-2), 2), (31, .ireturn, 1)],
  [(32, .aload_n 0, 1), (33, .getfield 18, 3), (36, .bipush 8, 2), (38, .iload_n 1, 1), (39, .imul, 1), (40, .iload_n 2, 1), (41, .iadd, 1), (42, .iaload, 1), (43, .istore 4, 2), (45, .aload_n 0, 1), (46, .getfield 18, 3), (49, .bipush 8, 2), (51, .iload_n 1, 1), (52, .imul, 1), (53, .iload_n 2, 1), (54, .iadd, 1), (55, .iload_n 3, 1), (56, .iastore, 1), (57, .iload 4, 2), (59, .ireturn, 1)]])
def tX8_rule : am_T := (8, yX8_rule, cX8_rule, 6, (some .int), 4, false, [[(0, .aload_n 0, 1), (1, .iload_n 1, 1), (2, .invokevirtual 89, 3), (5, .astore 5, 2), (7, .aload 5, 2), (9, .ifnull 12, 3), (12, .iload_n 2, 1), (13, .iconst 0, 1), (14, .iconst 4, 1), (15, .invokestatic 81, 3), (18, .ifCond .ne 5, 3), (21, .iconst (-1), 1), (22, .ireturn, 1), (23, .iload_n 3, 1), (24, .iconst 0, 1), (25, .getstatic 93, 3), (28, .iload_n 2, 1), (29, .iaload, 1), (30, .invokestatic 81, 3)],
  [(33, .ifCond .eq 17, 3), (36, .iload 4, 2), (38, .iconst 0, 1), (39, .getstatic 96, 3), (42, .iload_n 2, 1), (43, .iaload, 1), (44, .invokestatic 81, 3), (47, .ifCond .ne 6, 3), (50, .bipush (-2), 2), (52, .ireturn, 1), (53, .iload_n 2, 1), (54, .ifCond .ne 13, 3), (57, .iload_n 3, 1), (58, .invokestatic 99, 3), (61, .ifCond .ne 6, 3)],
  [(64, .bipush (-2), 2), (66, .ireturn, 1), (67, .aload 5, 2), (69, .getfield 102, 3), (72, .iload_n 2, 1), (73, .iload_n 3, 1), (74, .iastore, 1), (75, .aload 5, 2), (77, .getfield 105, 3), (80, .iload_n 2, 1), (81, .iload 4, 2), (83, .iastore, 1), (84, .iconst 0, 1), (85, .ireturn, 1)]])
def tX8_findRules : am_T := (8, yX8_findRules, cX8_findRules, 2, (some (.object "ShiftLedger$Rules")), 1, false, [[(0, .iload_n 1, 1), (1, .iconst 0, 1), (2, .bipush 7, 2), (4, .invokestatic 81, 3), (7, .ifCond .eq 12, 3), (10, .aload_n 0, 1), (11, .getfield 21, 3), (14, .iload_n 1, 1), (15, .aaload, 1), (16, .goto 4, 3), (19, .aconst_null, 1), (20, .areturn, 1)]])
def tX8_isRoundStep : am_T := (8, yX8_isRoundStep, cX8_isRoundStep, 1, (some .boolean), 1, false, [[(0, .iload_n 0, 1), (1, .iconst 1, 1), (2, .if_icmp .eq 26, 3), (5, .iload_n 0, 1), (6, .iconst 5, 1), (7, .if_icmp .eq 21, 3), (10, .iload_n 0, 1), (11, .bipush 10, 2), (13, .if_icmp .eq 15, 3), (16, .iload_n 0, 1), (17, .bipush 15, 2), (19, .if_icmp .eq 9, 3), (22, .iload_n 0, 1), (23, .bipush 30, 2), (25, .if_icmp .ne 7, 3), (28, .iconst 1, 1), (29, .goto 4, 3)],
  [(32, .iconst 0, 1), (33, .ireturn, 1)]])
def tX9_rule : am_T := (9, yX9_rule, cX9_rule, 7, (some .int), 4, false, [[(0, .iload_n 1, 1), (1, .iconst 0, 1), (2, .bipush 7, 2), (4, .invokestatic 11, 3), (7, .ifCond .eq 12, 3), (10, .iload_n 2, 1), (11, .iconst 0, 1), (12, .iconst 4, 1), (13, .invokestatic 11, 3), (16, .ifCond .ne 5, 3), (19, .iconst (-1), 1), (20, .ireturn, 1), (21, .iload_n 3, 1), (22, .iconst 1, 1), (23, .if_icmp .eq 26, 3), (26, .iload_n 3, 1), (27, .iconst 5, 1), (28, .if_icmp .eq 21, 3), (31, .iload_n 3, 1)],
  [(32, .bipush 10, 2), (34, .if_icmp .eq 15, 3), (37, .iload_n 3, 1), (38, .bipush 15, 2), (40, .if_icmp .eq 9, 3), (43, .iload_n 3, 1), (44, .bipush 30, 2), (46, .if_icmp .ne 7, 3), (49, .iconst 1, 1), (50, .goto 4, 3), (53, .iconst 0, 1), (54, .istore 5, 2), (56, .iload_n 2, 1), (57, .iconst 1, 1), (58, .if_icmp .ne 9, 3), (61, .sipush 2880, 3)],
  [(64, .goto 26, 3), (67, .iload_n 2, 1), (68, .iconst 2, 1), (69, .if_icmp .ne 9, 3), (72, .sipush 600, 3), (75, .goto 15, 3), (78, .iload_n 2, 1), (79, .iconst 4, 1), (80, .if_icmp .ne 9, 3), (83, .sipush 20000, 3), (86, .goto 4, 3), (89, .iconst 0, 1), (90, .istore 6, 2), (92, .iload_n 2, 1), (93, .ifCond .ne 11, 3)],
  [(96, .iload 5, 2), (98, .ifCond .ne 20, 3), (101, .goto 14, 3), (104, .iload_n 3, 1), (105, .iconst 0, 1), (106, .sipush 2880, 3), (109, .invokestatic 11, 3), (112, .ifCond .ne 6, 3), (115, .bipush (-2), 2), (117, .ireturn, 1), (118, .iload 4, 2), (120, .iconst 0, 1), (121, .iload 6, 2), (123, .invokestatic 11, 3), (126, .ifCond .ne 6, 3)],
  [(129, .bipush (-2), 2), (131, .ireturn, 1), (132, .aload_n 0, 1), (133, .getfield 42, 3), (136, .iconst 5, 1), (137, .iload_n 1, 1), (138, .imul, 1), (139, .iload_n 2, 1), (140, .iadd, 1), (141, .iload_n 3, 1), (142, .iastore, 1), (143, .aload_n 0, 1), (144, .getfield 45, 3), (147, .iconst 5, 1), (148, .iload_n 1, 1), (149, .imul, 1), (150, .iload_n 2, 1), (151, .iadd, 1), (152, .iload 4, 2), (154, .iastore, 1), (155, .iconst 0, 1), (156, .ireturn, 1)]])
def tX8_rate : am_T := (8, yX8_rate, cX8_rate, 4, (some .int), 3, false, [[(0, .aload_n 0, 1), (1, .iload_n 1, 1), (2, .invokevirtual 63, 3), (5, .ifnull 10, 3), (8, .iload_n 2, 1), (9, .invokestatic 67, 3), (12, .ifCond .ne 5, 3), (15, .iconst (-1), 1), (16, .ireturn, 1), (17, .iload_n 3, 1), (18, .iconst 0, 1), (19, .ldc 108, 2), (21, .invokestatic 81, 3), (24, .ifCond .ne 6, 3), (27, .bipush (-2), 2), (29, .ireturn, 1), (30, .aload_n 0, 1), (31, .getfield 28, 3)],
  [(34, .getfield 109, 3), (37, .bipush 60, 2), (39, .if_icmp .lt 6, 3), (42, .bipush (-4), 2), (44, .ireturn, 1), (45, .aload_n 0, 1), (46, .getfield 28, 3), (49, .iload_n 1, 1), (50, .iload_n 2, 1), (51, .iload_n 3, 1), (52, .invokevirtual 112, 3), (55, .aload_n 0, 1), (56, .getfield 28, 3), (59, .getfield 109, 3), (62, .ireturn, 1)]])
def tX2_add : am_T := (2, yX2_add, cX2_add, 4, none, 3, false, [[(0, .aload_n 0, 1), (1, .getfield 21, 3), (4, .bipush 60, 2), (6, .if_icmp .ge 43, 3), (9, .aload_n 0, 1), (10, .getfield 9, 3), (13, .aload_n 0, 1), (14, .getfield 21, 3), (17, .iload_n 1, 1), (18, .iastore, 1), (19, .aload_n 0, 1), (20, .getfield 15, 3), (23, .aload_n 0, 1), (24, .getfield 21, 3), (27, .iload_n 2, 1), (28, .iastore, 1), (29, .aload_n 0, 1), (30, .getfield 18, 3)],
  [(33, .aload_n 0, 1), (34, .getfield 21, 3), (37, .iload_n 3, 1), (38, .iastore, 1), (39, .aload_n 0, 1), (40, .dup, 1), (41, .getfield 21, 3), (44, .iconst 1, 1), (45, .iadd, 1), (46, .putfield 21, 3), (49, .return_, 1)]])
def tX9_rate : am_T := (9, yX9_rate, cX9_rate, 4, (some .int), 3, false, [[(0, .iload_n 1, 1), (1, .invokestatic 33, 3), (4, .ifCond .eq 10, 3), (7, .iload_n 2, 1), (8, .invokestatic 26, 3), (11, .ifCond .ne 5, 3), (14, .iconst (-1), 1), (15, .ireturn, 1), (16, .iload_n 3, 1), (17, .iconst 0, 1), (18, .ldc 145, 2), (20, .invokestatic 11, 3), (23, .ifCond .ne 6, 3), (26, .bipush (-2), 2), (28, .ireturn, 1), (29, .aload_n 0, 1), (30, .getfield 146, 3)],
  [(33, .bipush 60, 2), (35, .if_icmp .ne 6, 3), (38, .bipush (-4), 2), (40, .ireturn, 1), (41, .aload_n 0, 1), (42, .getfield 48, 3), (45, .aload_n 0, 1), (46, .getfield 146, 3), (49, .iload_n 1, 1), (50, .iastore, 1), (51, .aload_n 0, 1), (52, .getfield 51, 3), (55, .aload_n 0, 1), (56, .getfield 146, 3), (59, .iload_n 2, 1), (60, .iastore, 1), (61, .aload_n 0, 1), (62, .getfield 54, 3)],
  [(65, .aload_n 0, 1), (66, .getfield 146, 3), (69, .iload_n 3, 1), (70, .iastore, 1), (71, .aload_n 0, 1), (72, .dup, 1), (73, .getfield 146, 3), (76, .iconst 1, 1), (77, .iadd, 1), (78, .putfield 146, 3), (81, .aload_n 0, 1), (82, .getfield 146, 3), (85, .ireturn, 1)]])
def tX8_surcharge : am_T := (8, yX8_surcharge, cX8_surcharge, 5, (some .int), 4, false, [[(0, .iload_n 1, 1), (1, .iconst 0, 1), (2, .sipush 255, 3), (5, .invokestatic 81, 3), (8, .ifCond .eq 29, 3), (11, .iload_n 2, 1), (12, .invokestatic 116, 3), (15, .ifCond .eq 22, 3), (18, .iload_n 3, 1), (19, .invokestatic 116, 3), (22, .ifCond .eq 15, 3), (25, .iload 4, 2), (27, .iconst 0, 1), (28, .sipush 20000, 3), (31, .invokestatic 81, 3)],
  [(34, .ifCond .ne 6, 3), (37, .bipush (-2), 2), (39, .ireturn, 1), (40, .aload_n 0, 1), (41, .getfield 35, 3), (44, .getfield 119, 3), (47, .bipush 12, 2), (49, .if_icmp .lt 6, 3), (52, .bipush (-4), 2), (54, .ireturn, 1), (55, .aload_n 0, 1), (56, .getfield 35, 3), (59, .iload_n 1, 1), (60, .iload_n 2, 1), (61, .iload_n 3, 1), (62, .iload 4, 2)],
  [(64, .invokevirtual 120, 3), (67, .aload_n 0, 1), (68, .getfield 35, 3), (71, .getfield 119, 3), (74, .iconst 1, 1), (75, .isub, 1), (76, .ireturn, 1)]])
def tX8_isMinuteOfDay : am_T := (8, yX8_isMinuteOfDay, cX8_isMinuteOfDay, 1, (some .boolean), 1, false, [[(0, .iload_n 0, 1), (1, .iconst 0, 1), (2, .sipush 1439, 3), (5, .invokestatic 81, 3), (8, .ireturn, 1)]])
def tX5_add : am_T := (5, yX5_add, cX5_add, 5, none, 4, false, [[(0, .aload_n 0, 1), (1, .getfield 27, 3), (4, .bipush 12, 2), (6, .if_icmp .ge 54, 3), (9, .aload_n 0, 1), (10, .getfield 9, 3), (13, .aload_n 0, 1), (14, .getfield 27, 3), (17, .iload_n 1, 1), (18, .iastore, 1), (19, .aload_n 0, 1), (20, .getfield 15, 3), (23, .aload_n 0, 1), (24, .getfield 27, 3), (27, .iload_n 2, 1), (28, .iastore, 1), (29, .aload_n 0, 1), (30, .getfield 18, 3)],
  [(33, .aload_n 0, 1), (34, .getfield 27, 3), (37, .iload_n 3, 1), (38, .iastore, 1), (39, .aload_n 0, 1), (40, .getfield 21, 3), (43, .aload_n 0, 1), (44, .getfield 27, 3), (47, .iload 4, 2), (49, .iastore, 1), (50, .aload_n 0, 1), (51, .dup, 1), (52, .getfield 27, 3), (55, .iconst 1, 1), (56, .iadd, 1), (57, .putfield 27, 3), (60, .return_, 1)]])
def tX9_surcharge : am_T := (9, yX9_surcharge, cX9_surcharge, 5, (some .int), 4, false, [[(0, .iload_n 1, 1), (1, .iconst 0, 1), (2, .sipush 255, 3), (5, .invokestatic 11, 3), (8, .ifCond .eq 37, 3), (11, .iload_n 2, 1), (12, .iconst 0, 1), (13, .sipush 1439, 3), (16, .invokestatic 11, 3), (19, .ifCond .eq 26, 3), (22, .iload_n 3, 1), (23, .iconst 0, 1), (24, .sipush 1439, 3), (27, .invokestatic 11, 3), (30, .ifCond .eq 15, 3)],
  [(33, .iload 4, 2), (35, .iconst 0, 1), (36, .sipush 20000, 3), (39, .invokestatic 11, 3), (42, .ifCond .ne 6, 3), (45, .bipush (-2), 2), (47, .ireturn, 1), (48, .aload_n 0, 1), (49, .getfield 149, 3), (52, .bipush 12, 2), (54, .if_icmp .ne 6, 3), (57, .bipush (-4), 2), (59, .ireturn, 1), (60, .aload_n 0, 1), (61, .getfield 57, 3)],
  [(64, .aload_n 0, 1), (65, .getfield 149, 3), (68, .iload_n 1, 1), (69, .iastore, 1), (70, .aload_n 0, 1), (71, .getfield 60, 3), (74, .aload_n 0, 1), (75, .getfield 149, 3), (78, .iload_n 2, 1), (79, .iastore, 1), (80, .aload_n 0, 1), (81, .getfield 63, 3), (84, .aload_n 0, 1), (85, .getfield 149, 3), (88, .iload_n 3, 1), (89, .iastore, 1), (90, .aload_n 0, 1), (91, .getfield 66, 3), (94, .aload_n 0, 1), (95, .getfield 149, 3)],
  [(98, .iload 4, 2), (100, .iastore, 1), (101, .aload_n 0, 1), (102, .dup, 1), (103, .getfield 149, 3), (106, .iconst 1, 1), (107, .iadd, 1), (108, .putfield 149, 3), (111, .aload_n 0, 1), (112, .getfield 149, 3), (115, .iconst 1, 1), (116, .isub, 1), (117, .ireturn, 1)]])
def tX8_exclude : am_T := (8, yX8_exclude, cX8_exclude, 3, (some .int), 2, false, [[(0, .aload_n 0, 1), (1, .getfield 35, 3), (4, .iload_n 1, 1), (5, .invokevirtual 123, 3), (8, .ifCond .eq 14, 3), (11, .aload_n 0, 1), (12, .getfield 35, 3), (15, .iload_n 2, 1), (16, .invokevirtual 123, 3), (19, .ifCond .ne 5, 3), (22, .iconst (-1), 1), (23, .ireturn, 1), (24, .iload_n 1, 1), (25, .iload_n 2, 1), (26, .if_icmp .ne 6, 3), (29, .bipush (-2), 2), (31, .ireturn, 1)],
  [(32, .aload_n 0, 1), (33, .getfield 35, 3), (36, .iload_n 1, 1), (37, .iload_n 2, 1), (38, .invokevirtual 126, 3), (41, .ifCond .eq 7, 3), (44, .iconst 1, 1), (45, .goto 4, 3), (48, .iconst 0, 1), (49, .ireturn, 1)]])
def tX5_has : am_T := (5, yX5_has, cX5_has, 2, (some .boolean), 1, false, [[(0, .iload_n 1, 1), (1, .ifCond .lt 15, 3), (4, .iload_n 1, 1), (5, .aload_n 0, 1), (6, .getfield 27, 3), (9, .if_icmp .ge 7, 3), (12, .iconst 1, 1), (13, .goto 4, 3), (16, .iconst 0, 1), (17, .ireturn, 1)]])
def tX5_setApart : am_T := (5, yX5_setApart, cX5_setApart, 4, (some .boolean), 2, false, [[(0, .aload_n 0, 1), (1, .getfield 24, 3), (4, .iload_n 1, 1), (5, .iaload, 1), (6, .iload_n 2, 1), (7, .ishr, 1), (8, .iconst 1, 1), (9, .iand, 1), (10, .ifCond .ne 7, 3), (13, .iconst 1, 1), (14, .goto 4, 3), (17, .iconst 0, 1), (18, .istore_n 3, 1), (19, .aload_n 0, 1), (20, .getfield 24, 3), (23, .iload_n 1, 1), (24, .dup2, 1), (25, .iaload, 1), (26, .iconst 1, 1), (27, .iload_n 2, 1), (28, .ishl, 1), (29, .ior, 1), (30, .iastore, 1), (31, .aload_n 0, 1)],
  [(32, .getfield 24, 3), (35, .iload_n 2, 1), (36, .dup2, 1), (37, .iaload, 1), (38, .iconst 1, 1), (39, .iload_n 1, 1), (40, .ishl, 1), (41, .ior, 1), (42, .iastore, 1), (43, .iload_n 3, 1), (44, .ireturn, 1)]])
def tX9_exclude : am_T := (9, yX9_exclude, cX9_exclude, 4, (some .int), 2, false, [[(0, .iload_n 1, 1), (1, .iconst 0, 1), (2, .aload_n 0, 1), (3, .getfield 149, 3), (6, .iconst 1, 1), (7, .isub, 1), (8, .invokestatic 11, 3), (11, .ifCond .eq 17, 3), (14, .iload_n 2, 1), (15, .iconst 0, 1), (16, .aload_n 0, 1), (17, .getfield 149, 3), (20, .iconst 1, 1), (21, .isub, 1), (22, .invokestatic 11, 3), (25, .ifCond .ne 5, 3), (28, .iconst (-1), 1), (29, .ireturn, 1), (30, .iload_n 1, 1), (31, .iload_n 2, 1)],
  [(32, .if_icmp .ne 6, 3), (35, .bipush (-2), 2), (37, .ireturn, 1), (38, .aload_n 0, 1), (39, .getfield 69, 3), (42, .bipush 12, 2), (44, .iload_n 1, 1), (45, .imul, 1), (46, .iload_n 2, 1), (47, .iadd, 1), (48, .baload, 1), (49, .ifCond .eq 7, 3), (52, .iconst 0, 1), (53, .goto 4, 3), (56, .iconst 1, 1), (57, .istore_n 3, 1), (58, .aload_n 0, 1), (59, .getfield 69, 3), (62, .bipush 12, 2)],
  [(64, .iload_n 1, 1), (65, .imul, 1), (66, .iload_n 2, 1), (67, .iadd, 1), (68, .iconst 1, 1), (69, .bastore, 1), (70, .aload_n 0, 1), (71, .getfield 69, 3), (74, .bipush 12, 2), (76, .iload_n 2, 1), (77, .imul, 1), (78, .iload_n 1, 1), (79, .iadd, 1), (80, .iconst 1, 1), (81, .bastore, 1), (82, .iload_n 3, 1), (83, .ireturn, 1)]])
def tX8_target : am_T := (8, yX8_target, cX8_target, 6, (some .int), 3, false, [[(0, .aload_n 0, 1), (1, .iload_n 1, 1), (2, .invokevirtual 63, 3), (5, .astore 4, 2), (7, .aload 4, 2), (9, .ifnonnull 5, 3), (12, .iconst (-1), 1), (13, .ireturn, 1), (14, .iload_n 2, 1), (15, .iconst 0, 1), (16, .bipush 6, 2), (18, .invokestatic 81, 3), (21, .ifCond .eq 14, 3), (24, .iload_n 3, 1), (25, .iconst 0, 1), (26, .sipush 1440, 3), (29, .invokestatic 81, 3)],
  [(32, .ifCond .ne 6, 3), (35, .bipush (-2), 2), (37, .ireturn, 1), (38, .aload 4, 2), (40, .getfield 130, 3), (43, .iload_n 2, 1), (44, .iaload, 1), (45, .istore 5, 2), (47, .aload 4, 2), (49, .getfield 130, 3), (52, .iload_n 2, 1), (53, .iload_n 3, 1), (54, .iastore, 1), (55, .iload 5, 2), (57, .ireturn, 1)]])
def tX9_target : am_T := (9, yX9_target, cX9_target, 5, (some .int), 3, false, [[(0, .iload_n 1, 1), (1, .invokestatic 33, 3), (4, .ifCond .ne 5, 3), (7, .iconst (-1), 1), (8, .ireturn, 1), (9, .iload_n 2, 1), (10, .iconst 0, 1), (11, .bipush 6, 2), (13, .invokestatic 11, 3), (16, .ifCond .eq 14, 3), (19, .iload_n 3, 1), (20, .iconst 0, 1), (21, .sipush 1440, 3), (24, .invokestatic 11, 3), (27, .ifCond .ne 6, 3), (30, .bipush (-2), 2)],
  [(32, .ireturn, 1), (33, .aload_n 0, 1), (34, .getfield 72, 3), (37, .bipush 7, 2), (39, .iload_n 1, 1), (40, .imul, 1), (41, .iload_n 2, 1), (42, .iadd, 1), (43, .iaload, 1), (44, .istore 4, 2), (46, .aload_n 0, 1), (47, .getfield 72, 3), (50, .bipush 7, 2), (52, .iload_n 1, 1), (53, .imul, 1), (54, .iload_n 2, 1), (55, .iadd, 1), (56, .iload_n 3, 1), (57, .iastore, 1), (58, .iload 4, 2), (60, .ireturn, 1)]])
def tX8_limits : am_T := (8, yX8_limits, cX8_limits, 5, (some .int), 3, false, [[(0, .aload_n 0, 1), (1, .iload_n 1, 1), (2, .invokevirtual 63, 3), (5, .astore 4, 2), (7, .aload 4, 2), (9, .ifnonnull 5, 3), (12, .iconst (-1), 1), (13, .ireturn, 1), (14, .iload_n 2, 1), (15, .ldc 133, 2), (17, .ldc 108, 2), (19, .invokestatic 81, 3), (22, .ifCond .eq 13, 3), (25, .iload_n 3, 1), (26, .iload_n 2, 1), (27, .ldc 108, 2), (29, .invokestatic 81, 3)],
  [(32, .ifCond .ne 6, 3), (35, .bipush (-2), 2), (37, .ireturn, 1), (38, .aload 4, 2), (40, .iload_n 2, 1), (41, .putfield 134, 3), (44, .aload 4, 2), (46, .iload_n 3, 1), (47, .putfield 137, 3), (50, .iconst 0, 1), (51, .ireturn, 1)]])
def tX9_limits : am_T := (9, yX9_limits, cX9_limits, 4, (some .int), 3, false, [[(0, .iload_n 1, 1), (1, .invokestatic 33, 3), (4, .ifCond .ne 5, 3), (7, .iconst (-1), 1), (8, .ireturn, 1), (9, .iload_n 2, 1), (10, .ldc 152, 2), (12, .ldc 145, 2), (14, .invokestatic 11, 3), (17, .ifCond .eq 19, 3), (20, .iload_n 3, 1), (21, .ldc 152, 2), (23, .ldc 145, 2), (25, .invokestatic 11, 3), (28, .ifCond .eq 8, 3), (31, .iload_n 3, 1)],
  [(32, .iload_n 2, 1), (33, .if_icmp .ge 6, 3), (36, .bipush (-2), 2), (38, .ireturn, 1), (39, .aload_n 0, 1), (40, .getfield 75, 3), (43, .iload_n 1, 1), (44, .iload_n 2, 1), (45, .iastore, 1), (46, .aload_n 0, 1), (47, .getfield 78, 3), (50, .iload_n 1, 1), (51, .iload_n 3, 1), (52, .iastore, 1), (53, .iconst 0, 1), (54, .ireturn, 1)]])
def tX8_absent : am_T := (8, yX8_absent, cX8_absent, 5, (some .int), 3, false, [[(0, .aload_n 0, 1), (1, .iload_n 1, 1), (2, .invokevirtual 140, 3), (5, .astore 4, 2), (7, .aload 4, 2), (9, .ifnull 17, 3), (12, .iload_n 2, 1), (13, .invokestatic 67, 3), (16, .ifCond .eq 10, 3), (19, .iload_n 3, 1), (20, .invokestatic 67, 3), (23, .ifCond .ne 5, 3), (26, .iconst (-1), 1), (27, .ireturn, 1), (28, .iload_n 3, 1), (29, .iload_n 2, 1), (30, .if_icmp .ge 6, 3)],
  [(33, .bipush (-2), 2), (35, .ireturn, 1), (36, .aload 4, 2), (38, .getfield 144, 3), (41, .bipush 20, 2), (43, .if_icmp .lt 6, 3), (46, .bipush (-4), 2), (48, .ireturn, 1), (49, .aload 4, 2), (51, .iload_n 2, 1), (52, .iload_n 3, 1), (53, .invokevirtual 147, 3), (56, .aload 4, 2), (58, .getfield 144, 3), (61, .ireturn, 1)]])
def tX8_findWorker : am_T := (8, yX8_findWorker, cX8_findWorker, 2, (some (.object "ShiftLedger$Worker")), 1, false, [[(0, .iload_n 1, 1), (1, .ifCond .lt 20, 3), (4, .iload_n 1, 1), (5, .aload_n 0, 1), (6, .getfield 71, 3), (9, .if_icmp .ge 12, 3), (12, .aload_n 0, 1), (13, .getfield 41, 3), (16, .iload_n 1, 1), (17, .aaload, 1), (18, .goto 4, 3), (21, .aconst_null, 1), (22, .areturn, 1)]])
def tX7_addAbsence : am_T := (7, yX7_addAbsence, cX7_addAbsence, 3, none, 2, false, [[(0, .aload_n 0, 1), (1, .getfield 38, 3), (4, .bipush 20, 2), (6, .if_icmp .ge 33, 3), (9, .aload_n 0, 1), (10, .getfield 18, 3), (13, .aload_n 0, 1), (14, .getfield 38, 3), (17, .iload_n 1, 1), (18, .iastore, 1), (19, .aload_n 0, 1), (20, .getfield 22, 3), (23, .aload_n 0, 1), (24, .getfield 38, 3), (27, .iload_n 2, 1), (28, .iastore, 1), (29, .aload_n 0, 1), (30, .dup, 1), (31, .getfield 38, 3)],
  [(34, .iconst 1, 1), (35, .iadd, 1), (36, .putfield 38, 3), (39, .return_, 1)]])
def tX9_absent : am_T := (9, yX9_absent, cX9_absent, 4, (some .int), 3, false, [[(0, .aload_n 0, 1), (1, .iload_n 1, 1), (2, .invokevirtual 153, 3), (5, .ifCond .eq 17, 3), (8, .iload_n 2, 1), (9, .invokestatic 26, 3), (12, .ifCond .eq 10, 3), (15, .iload_n 3, 1), (16, .invokestatic 26, 3), (19, .ifCond .ne 5, 3), (22, .iconst (-1), 1), (23, .ireturn, 1), (24, .iload_n 3, 1), (25, .iload_n 2, 1), (26, .if_icmp .ge 6, 3), (29, .bipush (-2), 2), (31, .ireturn, 1)],
  [(32, .aload_n 0, 1), (33, .getfield 87, 3), (36, .iload_n 1, 1), (37, .iaload, 1), (38, .bipush 20, 2), (40, .if_icmp .ne 6, 3), (43, .bipush (-4), 2), (45, .ireturn, 1), (46, .aload_n 0, 1), (47, .getfield 90, 3), (50, .bipush 20, 2), (52, .iload_n 1, 1), (53, .imul, 1), (54, .aload_n 0, 1), (55, .getfield 87, 3), (58, .iload_n 1, 1), (59, .iaload, 1), (60, .iadd, 1), (61, .iload_n 2, 1), (62, .iastore, 1), (63, .aload_n 0, 1)],
  [(64, .getfield 93, 3), (67, .bipush 20, 2), (69, .iload_n 1, 1), (70, .imul, 1), (71, .aload_n 0, 1), (72, .getfield 87, 3), (75, .iload_n 1, 1), (76, .iaload, 1), (77, .iadd, 1), (78, .iload_n 3, 1), (79, .iastore, 1), (80, .aload_n 0, 1), (81, .getfield 87, 3), (84, .iload_n 1, 1), (85, .dup2, 1), (86, .iaload, 1), (87, .iconst 1, 1), (88, .iadd, 1), (89, .iastore, 1), (90, .aload_n 0, 1), (91, .getfield 87, 3), (94, .iload_n 1, 1), (95, .iaload, 1)],
  [(96, .ireturn, 1)]])
def tX9_isWorker : am_T := (9, yX9_isWorker, cX9_isWorker, 2, (some .boolean), 1, false, [[(0, .iload_n 1, 1), (1, .iconst 0, 1), (2, .aload_n 0, 1), (3, .getfield 15, 3), (6, .iconst 1, 1), (7, .isub, 1), (8, .invokestatic 11, 3), (11, .ireturn, 1)]])
def tX8_mark : am_T := (8, yX8_mark, cX8_mark, 5, (some .int), 4, false, [[(0, .aload_n 0, 1), (1, .iload_n 1, 1), (2, .iload_n 2, 1), (3, .iload_n 3, 1), (4, .iload 4, 2), (6, .iconst 0, 1), (7, .invokevirtual 151, 3), (10, .ireturn, 1)]])
def tX8_enter : am_T := (8, yX8_enter, cX8_enter, 8, (some .int), 5, false, [[(0, .aload_n 0, 1), (1, .iload_n 1, 1), (2, .invokevirtual 140, 3), (5, .astore 6, 2), (7, .aload 6, 2), (9, .ifnull 10, 3), (12, .iload_n 2, 1), (13, .invokestatic 67, 3), (16, .ifCond .ne 5, 3), (19, .iconst (-1), 1), (20, .ireturn, 1), (21, .iload_n 3, 1), (22, .invokestatic 116, 3), (25, .ifCond .eq 22, 3), (28, .iload 4, 2), (30, .iconst 0, 1), (31, .iconst 3, 1)],
  [(32, .invokestatic 81, 3), (35, .ifCond .eq 12, 3), (38, .iload_n 2, 1), (39, .aload 6, 2), (41, .getfield 255, 3), (44, .if_icmp .ge 6, 3), (47, .bipush (-2), 2), (49, .ireturn, 1), (50, .iload_n 2, 1), (51, .iload_n 3, 1), (52, .invokestatic 155, 3), (55, .istore 7, 2), (57, .aload 6, 2), (59, .getfield 159, 3), (62, .iload 7, 2)],
  [(64, .invokevirtual 163, 3), (67, .ifCond .eq 6, 3), (70, .bipush (-2), 2), (72, .ireturn, 1), (73, .aload_n 0, 1), (74, .iload_n 2, 1), (75, .invokevirtual 168, 3), (78, .iload 5, 2), (80, .if_icmp .ne 12, 3), (83, .aload_n 0, 1), (84, .getfield 231, 3), (87, .bipush 36, 2), (89, .if_icmp .lt 6, 3), (92, .bipush (-3), 2), (94, .ireturn, 1), (95, .aload 6, 2)],
  [(97, .getfield 159, 3), (100, .getfield 181, 3), (103, .sipush 400, 3), (106, .if_icmp .ge 13, 3), (109, .aload_n 0, 1), (110, .getfield 178, 3), (113, .sipush 1000, 3), (116, .if_icmp .lt 6, 3), (119, .bipush (-4), 2), (121, .ireturn, 1), (122, .aload_n 0, 1), (123, .aload 6, 2), (125, .iconst (-1), 1), (126, .invokevirtual 171, 3)],
  [(129, .aload 6, 2), (131, .getfield 159, 3), (134, .iload 7, 2), (136, .iload 4, 2), (138, .invokevirtual 261, 3), (141, .aload_n 0, 1), (142, .dup, 1), (143, .getfield 178, 3), (146, .iconst 1, 1), (147, .iadd, 1), (148, .putfield 178, 3), (151, .aload_n 0, 1), (152, .aload 6, 2), (154, .iconst 1, 1), (155, .invokevirtual 171, 3), (158, .aload 6, 2)],
  [(160, .getfield 159, 3), (163, .getfield 181, 3), (166, .ireturn, 1)]])
def tX8_timeOf : am_T := (8, yX8_timeOf, cX8_timeOf, 2, (some .int), 2, false, [[(0, .sipush 1440, 3), (3, .iload_n 0, 1), (4, .imul, 1), (5, .iload_n 1, 1), (6, .iadd, 1), (7, .ireturn, 1)]])
def tX1_standsAt : am_T := (1, yX1_standsAt, cX1_standsAt, 3, (some .boolean), 1, false, [[(0, .aload_n 0, 1), (1, .iload_n 1, 1), (2, .invokevirtual 25, 3), (5, .istore_n 2, 1), (6, .iload_n 2, 1), (7, .aload_n 0, 1), (8, .getfield 21, 3), (11, .if_icmp .ge 17, 3), (14, .aload_n 0, 1), (15, .getfield 9, 3), (18, .iload_n 2, 1), (19, .iaload, 1), (20, .iload_n 1, 1), (21, .if_icmp .ne 7, 3), (24, .iconst 1, 1), (25, .goto 4, 3), (28, .iconst 0, 1), (29, .ireturn, 1)]])
def tX1_placeOf : am_T := (1, yX1_placeOf, cX1_placeOf, 3, (some .int), 1, false, [[(0, .iconst 0, 1), (1, .istore_n 2, 1), (2, .iload_n 2, 1), (3, .aload_n 0, 1), (4, .getfield 21, 3), (7, .if_icmp .ge 19, 3), (10, .aload_n 0, 1), (11, .getfield 9, 3), (14, .iload_n 2, 1), (15, .iaload, 1), (16, .iload_n 1, 1), (17, .if_icmp .ge 9, 3), (20, .iinc 2 1, 3), (23, .goto (-21), 3), (26, .iload_n 2, 1), (27, .ireturn, 1)]])
def tX8_isClosed : am_T := (8, yX8_isClosed, cX8_isClosed, 2, (some .boolean), 1, false, [[(0, .iload_n 1, 1), (1, .invokestatic 191, 3), (4, .aload_n 0, 1), (5, .getfield 231, 3), (8, .if_icmp .ge 7, 3), (11, .iconst 1, 1), (12, .goto 4, 3), (15, .iconst 0, 1), (16, .ireturn, 1)]])
def tX8_monthOf : am_T := (8, yX8_monthOf, cX8_monthOf, 2, (some .int), 1, false, [[(0, .iconst 0, 1), (1, .istore_n 1, 1), (2, .iload_n 1, 1), (3, .bipush 35, 2), (5, .if_icmp .ge 20, 3), (8, .iload_n 0, 1), (9, .getstatic 252, 3), (12, .iload_n 1, 1), (13, .iconst 1, 1), (14, .iadd, 1), (15, .iaload, 1), (16, .if_icmp .lt 9, 3), (19, .iinc 1 1, 3), (22, .goto (-20), 3), (25, .iload_n 1, 1), (26, .ireturn, 1)]])
def tX8_bookClosedDays : am_T := (8, yX8_bookClosedDays, cX8_bookClosedDays, 3, none, 2, false, [[(0, .aload_n 0, 1), (1, .getfield 231, 3), (4, .bipush 36, 2), (6, .if_icmp .lt 4, 3), (9, .return_, 1), (10, .aload_n 0, 1), (11, .aload_n 1, 1), (12, .iconst 0, 1), (13, .getstatic 252, 3), (16, .aload_n 0, 1), (17, .getfield 231, 3), (20, .iaload, 1), (21, .invokevirtual 264, 3), (24, .aload_n 1, 1), (25, .getfield 268, 3), (28, .iconst 3, 1), (29, .aaload, 1), (30, .aload_n 0, 1), (31, .getfield 231, 3)],
  [(34, .dup2, 1), (35, .laload, 1), (36, .iload_n 2, 1), (37, .i2l, 1), (38, .aload_n 0, 1), (39, .getfield 55, 3), (42, .getfield 272, 3), (45, .lmul, 1), (46, .ladd, 1), (47, .lastore, 1), (48, .aload_n 1, 1), (49, .getfield 268, 3), (52, .iconst 4, 1), (53, .aaload, 1), (54, .aload_n 0, 1), (55, .getfield 231, 3), (58, .dup2, 1), (59, .laload, 1), (60, .iload_n 2, 1), (61, .i2l, 1), (62, .aload_n 0, 1), (63, .getfield 55, 3)],
  [(66, .getfield 276, 3), (69, .lmul, 1), (70, .ladd, 1), (71, .lastore, 1), (72, .return_, 1)]])
def tX8_tallyDays : am_T := (8, yX8_tallyDays, cX8_tallyDays, 8, none, 3, false, [[(0, .aload_n 0, 1), (1, .getfield 55, 3), (4, .lconst 0, 1), (5, .putfield 272, 3), (8, .aload_n 0, 1), (9, .getfield 55, 3), (12, .lconst 0, 1), (13, .putfield 276, 3), (16, .aload_n 1, 1), (17, .getfield 159, 3), (20, .astore 4, 2), (22, .iload_n 2, 1), (23, .iconst 1, 1), (24, .isub, 1), (25, .istore 5, 2), (27, .aload 4, 2), (29, .iload_n 2, 1), (30, .iconst 0, 1), (31, .invokestatic 155, 3)],
  [(34, .invokevirtual 279, 3), (37, .istore 6, 2), (39, .iload 6, 2), (41, .aload 4, 2), (43, .getfield 181, 3), (46, .if_icmp .ge 126, 3), (49, .aload 4, 2), (51, .iload 6, 2), (53, .invokevirtual 286, 3), (56, .iload_n 3, 1), (57, .if_icmp .ge 115, 3), (60, .aload 4, 2), (62, .iload 6, 2)],
  [(64, .invokevirtual 286, 3), (67, .istore 7, 2), (69, .aload 4, 2), (71, .getfield 188, 3), (74, .iload 6, 2), (76, .iaload, 1), (77, .iconst 1, 1), (78, .if_icmp .ne 88, 3), (81, .iload 7, 2), (83, .iload 5, 2), (85, .if_icmp .le 81, 3), (88, .aload_n 0, 1), (89, .getfield 48, 3), (92, .aload 4, 2), (94, .iload 6, 2)],
  [(96, .iload 7, 2), (98, .aload_n 0, 1), (99, .getfield 21, 3), (102, .aload_n 0, 1), (103, .aload_n 1, 1), (104, .getfield 211, 3), (107, .iload 7, 2), (109, .invokevirtual 195, 3), (112, .aaload, 1), (113, .invokevirtual 282, 3), (116, .aload_n 0, 1), (117, .getfield 55, 3), (120, .dup, 1), (121, .getfield 272, 3), (124, .aload_n 0, 1), (125, .getfield 48, 3)],
  [(128, .bipush 6, 2), (130, .bipush 7, 2), (132, .invokevirtual 209, 3), (135, .i2l, 1), (136, .ladd, 1), (137, .putfield 272, 3), (140, .aload_n 0, 1), (141, .getfield 55, 3), (144, .dup, 1), (145, .getfield 276, 3), (148, .aload_n 0, 1), (149, .aload_n 1, 1), (150, .getfield 211, 3), (153, .iload 7, 2), (155, .invokevirtual 223, 3), (158, .ladd, 1), (159, .putfield 276, 3)],
  [(162, .iload 7, 2), (164, .istore 5, 2), (166, .iinc 6 1, 3), (169, .goto (-130), 3), (172, .return_, 1)]])
def tX1_dayOf : am_T := (1, yX1_dayOf, cX1_dayOf, 2, (some .int), 1, false, [[(0, .aload_n 0, 1), (1, .getfield 9, 3), (4, .iload_n 1, 1), (5, .iaload, 1), (6, .sipush 1440, 3), (9, .idiv, 1), (10, .ireturn, 1)]])
def tX8_kindOf : am_T := (8, yX8_kindOf, cX8_kindOf, 3, (some .int), 2, false, [[(0, .aload_n 1, 1), (1, .getfield 85, 3), (4, .aload_n 0, 1), (5, .getfield 9, 3), (8, .iload_n 2, 1), (9, .baload, 1), (10, .ifCond .eq 8, 3), (13, .bipush 7, 2), (15, .goto 7, 3), (18, .iload_n 2, 1), (19, .bipush 7, 2), (21, .irem, 1), (22, .iaload, 1), (23, .ireturn, 1)]])
def tX4_fill_r0 : List am_I := [(0, .aload_n 0, 1), (1, .iconst 0, 1), (2, .putfield 21, 3), (5, .iload_n 3, 1), (6, .iconst 0, 1), (7, .invokestatic 25, 3), (10, .istore 5, 2), (12, .iload_n 2, 1), (13, .istore 6, 2), (15, .iload 6, 2), (17, .aload_n 1, 1), (18, .getfield 29, 3), (21, .if_icmp .ge 64, 3), (24, .aload_n 1, 1), (25, .getfield 32, 3), (28, .iload 6, 2), (30, .iaload, 1), (31, .iload 5, 2)]
def tX4_fill_r1 : List am_I := [(33, .isub, 1), (34, .sipush 1440, 3), (37, .if_icmp .ge 48, 3), (40, .aload_n 1, 1), (41, .getfield 35, 3), (44, .iload 6, 2), (46, .iaload, 1), (47, .iconst 1, 1), (48, .if_icmp .ne 31, 3), (51, .aload_n 0, 1), (52, .getfield 21, 3), (55, .istore 7, 2), (57, .aload_n 0, 1), (58, .aload_n 1, 1), (59, .iload 6, 2), (61, .iload 5, 2), (63, .invokevirtual 38, 3)]
def tX4_fill_r2 : List am_I := [(66, .aload_n 0, 1), (67, .iload 7, 2), (69, .aload 4, 2), (71, .getfield 42, 3), (74, .iconst 0, 1), (75, .iaload, 1), (76, .invokevirtual 47, 3), (79, .iinc 6 1, 3), (82, .goto (-67), 3), (85, .aload 4, 2), (87, .getfield 51, 3), (90, .iconst 1, 1), (91, .iaload, 1), (92, .ifCond .le 23, 3), (95, .aload_n 0, 1)]
def tX4_fill_r3 : List am_I := [(96, .aload 4, 2), (98, .getfield 42, 3), (101, .iconst 1, 1), (102, .iaload, 1), (103, .aload 4, 2), (105, .getfield 51, 3), (108, .iconst 1, 1), (109, .iaload, 1), (110, .iconst 0, 1), (111, .iconst 3, 1), (112, .invokevirtual 54, 3), (115, .aload_n 0, 1), (116, .bipush 7, 2), (118, .bipush 7, 2), (120, .invokevirtual 58, 3), (123, .istore 6, 2), (125, .aload 4, 2), (127, .getfield 51, 3)]
def tX4_fill_r4 : List am_I := [(130, .iconst 2, 1), (131, .iaload, 1), (132, .aload_n 0, 1), (133, .iconst 1, 1), (134, .iconst 1, 1), (135, .invokevirtual 58, 3), (138, .isub, 1), (139, .istore 7, 2), (141, .iload 7, 2), (143, .ifCond .le 25, 3), (146, .iload 6, 2), (148, .aload 4, 2), (150, .getfield 42, 3), (153, .iconst 2, 1), (154, .iaload, 1), (155, .if_icmp .le 13, 3), (158, .aload_n 0, 1), (159, .iload 6, 2)]
def tX4_fill_r5 : List am_I := [(161, .iload 7, 2), (163, .isub, 1), (164, .iconst 4, 1), (165, .invokevirtual 61, 3), (168, .aload 4, 2), (170, .getfield 42, 3), (173, .iconst 3, 1), (174, .iaload, 1), (175, .ifCond .le 15, 3), (178, .aload_n 0, 1), (179, .aload 4, 2), (181, .getfield 42, 3), (184, .iconst 3, 1), (185, .iaload, 1), (186, .iconst 5, 1), (187, .invokevirtual 61, 3), (190, .aload 4, 2)]
def tX4_fill_r6 : List am_I := [(192, .getfield 42, 3), (195, .iconst 4, 1), (196, .iaload, 1), (197, .ifCond .le 16, 3), (200, .aload_n 0, 1), (201, .aload 4, 2), (203, .getfield 42, 3), (206, .iconst 4, 1), (207, .iaload, 1), (208, .bipush 6, 2), (210, .invokevirtual 61, 3), (213, .return_, 1)]
def tX4_fill : am_T := (4, yX4_fill, cX4_fill, 8, none, 4, false, [tX4_fill_r0, tX4_fill_r1, tX4_fill_r2, tX4_fill_r3, tX4_fill_r4, tX4_fill_r5, tX4_fill_r6])
def tX4_layShift : am_T := (4, yX4_layShift, cX4_layShift, 9, none, 3, false, [[(0, .aload_n 1, 1), (1, .iload_n 2, 1), (2, .invokevirtual 64, 3), (5, .istore 4, 2), (7, .iconst 0, 1), (8, .istore 5, 2), (10, .aload_n 1, 1), (11, .getfield 32, 3), (14, .iload_n 2, 1), (15, .iaload, 1), (16, .iload_n 3, 1), (17, .isub, 1), (18, .istore 6, 2), (20, .iload_n 2, 1), (21, .iconst 1, 1), (22, .iadd, 1), (23, .istore 7, 2), (25, .iload 7, 2), (27, .iload 4, 2), (29, .if_icmp .gt 74, 3)],
  [(32, .iload 7, 2), (34, .aload_n 1, 1), (35, .getfield 29, 3), (38, .if_icmp .ge 65, 3), (41, .aload_n 1, 1), (42, .getfield 35, 3), (45, .iload 7, 2), (47, .iaload, 1), (48, .ifCond .eq 49, 3), (51, .aload_n 1, 1), (52, .getfield 32, 3), (55, .iload 7, 2), (57, .iaload, 1), (58, .iload_n 3, 1), (59, .isub, 1), (60, .istore 8, 2), (62, .aload_n 0, 1), (63, .iload 6, 2)],
  [(65, .iload 8, 2), (67, .iload 5, 2), (69, .ifCond .eq 7, 3), (72, .iconst 1, 1), (73, .goto 5, 3), (76, .bipush 7, 2), (78, .invokevirtual 68, 3), (81, .iload 5, 2), (83, .ifCond .ne 7, 3), (86, .iconst 1, 1), (87, .goto 4, 3), (90, .iconst 0, 1), (91, .istore 5, 2), (93, .iload 8, 2), (95, .istore 6, 2)],
  [(97, .iinc 7 1, 3), (100, .goto (-75), 3), (103, .return_, 1)]])
def tX1_endOf : am_T := (1, yX1_endOf, cX1_endOf, 4, (some .int), 1, false, [[(0, .iload_n 1, 1), (1, .istore_n 2, 1), (2, .iload_n 1, 1), (3, .iconst 1, 1), (4, .iadd, 1), (5, .istore_n 3, 1), (6, .iload_n 3, 1), (7, .aload_n 0, 1), (8, .getfield 21, 3), (11, .if_icmp .ge 47, 3), (14, .aload_n 0, 1), (15, .getfield 18, 3), (18, .iload_n 3, 1), (19, .iaload, 1), (20, .iconst 3, 1), (21, .if_icmp .ne 19, 3), (24, .aload_n 0, 1), (25, .getfield 15, 3), (28, .iload_n 2, 1), (29, .iaload, 1), (30, .iconst 2, 1), (31, .if_icmp .ne 7, 3)],
  [(34, .iload_n 2, 1), (35, .goto 4, 3), (38, .iload_n 3, 1), (39, .ireturn, 1), (40, .aload_n 0, 1), (41, .getfield 18, 3), (44, .iload_n 3, 1), (45, .iaload, 1), (46, .iconst 4, 1), (47, .if_icmp .ne 5, 3), (50, .iload_n 3, 1), (51, .istore_n 2, 1), (52, .iinc 3 1, 3), (55, .goto (-49), 3), (58, .iload_n 2, 1), (59, .ireturn, 1)]])
def tX4_add : am_T := (4, yX4_add, cX4_add, 4, none, 3, false, [[(0, .aload_n 0, 1), (1, .getfield 21, 3), (4, .sipush 805, 3), (7, .if_icmp .ge 43, 3), (10, .aload_n 0, 1), (11, .getfield 9, 3), (14, .aload_n 0, 1), (15, .getfield 21, 3), (18, .iload_n 1, 1), (19, .iastore, 1), (20, .aload_n 0, 1), (21, .getfield 15, 3), (24, .aload_n 0, 1), (25, .getfield 21, 3), (28, .iload_n 2, 1), (29, .iastore, 1), (30, .aload_n 0, 1), (31, .getfield 18, 3)],
  [(34, .aload_n 0, 1), (35, .getfield 21, 3), (38, .iload_n 3, 1), (39, .iastore, 1), (40, .aload_n 0, 1), (41, .dup, 1), (42, .getfield 21, 3), (45, .iconst 1, 1), (46, .iadd, 1), (47, .putfield 21, 3), (50, .return_, 1)]])
def tX4_applyRound : am_T := (4, yX4_applyRound, cX4_applyRound, 5, none, 2, false, [[(0, .iload_n 2, 1), (1, .iconst 1, 1), (2, .if_icmp .le 57, 3), (5, .iload_n 1, 1), (6, .aload_n 0, 1), (7, .getfield 21, 3), (10, .if_icmp .ge 49, 3), (13, .aload_n 0, 1), (14, .getfield 9, 3), (17, .iload_n 1, 1), (18, .iaload, 1), (19, .iload_n 2, 1), (20, .iadd, 1), (21, .iconst 1, 1), (22, .isub, 1), (23, .iload_n 2, 1), (24, .idiv, 1), (25, .iload_n 2, 1), (26, .imul, 1), (27, .istore_n 3, 1), (28, .aload_n 0, 1), (29, .getfield 15, 3)],
  [(32, .aload_n 0, 1), (33, .getfield 21, 3), (36, .iconst 1, 1), (37, .isub, 1), (38, .iaload, 1), (39, .iload_n 2, 1), (40, .idiv, 1), (41, .iload_n 2, 1), (42, .imul, 1), (43, .istore 4, 2), (45, .aload_n 0, 1), (46, .iload_n 3, 1), (47, .iload 4, 2), (49, .aload_n 0, 1), (50, .getfield 9, 3), (53, .iload_n 1, 1), (54, .iaload, 1), (55, .iconst 2, 1), (56, .invokevirtual 54, 3), (59, .return_, 1)]])
def tX4_takeOutside : am_T := (4, yX4_takeOutside, cX4_takeOutside, 6, none, 4, false, [[(0, .aload_n 0, 1), (1, .iload_n 1, 1), (2, .invokevirtual 72, 3), (5, .aload_n 0, 1), (6, .iload_n 2, 1), (7, .invokevirtual 72, 3), (10, .iconst 0, 1), (11, .istore 5, 2), (13, .iload 5, 2), (15, .aload_n 0, 1), (16, .getfield 21, 3), (19, .if_icmp .ge 63, 3), (22, .aload_n 0, 1), (23, .getfield 18, 3), (26, .iload 5, 2), (28, .iaload, 1), (29, .bipush 7, 2), (31, .if_icmp .ne 45, 3)],
  [(34, .aload_n 0, 1), (35, .getfield 9, 3), (38, .iload 5, 2), (40, .iaload, 1), (41, .iload_n 3, 1), (42, .if_icmp .lt 34, 3), (45, .aload_n 0, 1), (46, .getfield 9, 3), (49, .iload 5, 2), (51, .iaload, 1), (52, .iload_n 1, 1), (53, .if_icmp .lt 14, 3), (56, .aload_n 0, 1), (57, .getfield 9, 3), (60, .iload 5, 2), (62, .iaload, 1), (63, .iload_n 2, 1)],
  [(64, .if_icmp .lt 12, 3), (67, .aload_n 0, 1), (68, .getfield 18, 3), (71, .iload 5, 2), (73, .iload 4, 2), (75, .iastore, 1), (76, .iinc 5 1, 3), (79, .goto (-66), 3), (82, .return_, 1)]])
def tX4_cutAt : am_T := (4, yX4_cutAt, cX4_cutAt, 3, none, 1, false, [[(0, .iconst 0, 1), (1, .istore_n 2, 1), (2, .iload_n 2, 1), (3, .aload_n 0, 1), (4, .getfield 21, 3), (7, .if_icmp .ge 19, 3), (10, .aload_n 0, 1), (11, .getfield 15, 3), (14, .iload_n 2, 1), (15, .iaload, 1), (16, .iload_n 1, 1), (17, .if_icmp .gt 9, 3), (20, .iinc 2 1, 3), (23, .goto (-21), 3), (26, .iload_n 2, 1), (27, .aload_n 0, 1), (28, .getfield 21, 3), (31, .if_icmp .ge 112, 3)],
  [(34, .aload_n 0, 1), (35, .getfield 9, 3), (38, .iload_n 2, 1), (39, .iaload, 1), (40, .iload_n 1, 1), (41, .if_icmp .ge 102, 3), (44, .aload_n 0, 1), (45, .getfield 21, 3), (48, .sipush 805, 3), (51, .if_icmp .ge 92, 3), (54, .aload_n 0, 1), (55, .getfield 9, 3), (58, .iload_n 2, 1), (59, .aload_n 0, 1), (60, .getfield 9, 3), (63, .iload_n 2, 1)],
  [(64, .iconst 1, 1), (65, .iadd, 1), (66, .aload_n 0, 1), (67, .getfield 21, 3), (70, .iload_n 2, 1), (71, .isub, 1), (72, .invokestatic 81, 3), (75, .aload_n 0, 1), (76, .getfield 15, 3), (79, .iload_n 2, 1), (80, .aload_n 0, 1), (81, .getfield 15, 3), (84, .iload_n 2, 1), (85, .iconst 1, 1), (86, .iadd, 1), (87, .aload_n 0, 1), (88, .getfield 21, 3), (91, .iload_n 2, 1), (92, .isub, 1), (93, .invokestatic 81, 3)],
  [(96, .aload_n 0, 1), (97, .getfield 18, 3), (100, .iload_n 2, 1), (101, .aload_n 0, 1), (102, .getfield 18, 3), (105, .iload_n 2, 1), (106, .iconst 1, 1), (107, .iadd, 1), (108, .aload_n 0, 1), (109, .getfield 21, 3), (112, .iload_n 2, 1), (113, .isub, 1), (114, .invokestatic 81, 3), (117, .aload_n 0, 1), (118, .getfield 15, 3), (121, .iload_n 2, 1), (122, .iload_n 1, 1), (123, .iastore, 1), (124, .aload_n 0, 1), (125, .getfield 9, 3)],
  [(128, .iload_n 2, 1), (129, .iconst 1, 1), (130, .iadd, 1), (131, .iload_n 1, 1), (132, .iastore, 1), (133, .aload_n 0, 1), (134, .dup, 1), (135, .getfield 21, 3), (138, .iconst 1, 1), (139, .iadd, 1), (140, .putfield 21, 3), (143, .return_, 1)]])
def tX4_amountOf : am_T := (4, yX4_amountOf, cX4_amountOf, 5, (some .int), 2, false, [[(0, .iconst 0, 1), (1, .istore_n 3, 1), (2, .iconst 0, 1), (3, .istore 4, 2), (5, .iload 4, 2), (7, .aload_n 0, 1), (8, .getfield 21, 3), (11, .if_icmp .ge 49, 3), (14, .aload_n 0, 1), (15, .getfield 18, 3), (18, .iload 4, 2), (20, .iaload, 1), (21, .iload_n 1, 1), (22, .if_icmp .lt 32, 3), (25, .aload_n 0, 1), (26, .getfield 18, 3), (29, .iload 4, 2), (31, .iaload, 1)],
  [(32, .iload_n 2, 1), (33, .if_icmp .gt 21, 3), (36, .iload_n 3, 1), (37, .aload_n 0, 1), (38, .getfield 15, 3), (41, .iload 4, 2), (43, .iaload, 1), (44, .aload_n 0, 1), (45, .getfield 9, 3), (48, .iload 4, 2), (50, .iaload, 1), (51, .isub, 1), (52, .iadd, 1), (53, .istore_n 3, 1), (54, .iinc 4 1, 3), (57, .goto (-52), 3), (60, .iload_n 3, 1), (61, .ireturn, 1)]])
def tX4_turnBehind : am_T := (4, yX4_turnBehind, cX4_turnBehind, 5, none, 2, false, [[(0, .iconst 0, 1), (1, .iload_n 1, 1), (2, .invokestatic 76, 3), (5, .istore_n 3, 1), (6, .iconst 0, 1), (7, .istore 4, 2), (9, .iload 4, 2), (11, .aload_n 0, 1), (12, .getfield 21, 3), (15, .if_icmp .ge 91, 3), (18, .aload_n 0, 1), (19, .getfield 18, 3), (22, .iload 4, 2), (24, .iaload, 1), (25, .bipush 7, 2), (27, .if_icmp .ne 73, 3), (30, .iload_n 3, 1), (31, .ifCond .ne 14, 3)],
  [(34, .aload_n 0, 1), (35, .getfield 18, 3), (38, .iload 4, 2), (40, .iload_n 2, 1), (41, .iastore, 1), (42, .goto 58, 3), (45, .aload_n 0, 1), (46, .getfield 15, 3), (49, .iload 4, 2), (51, .iaload, 1), (52, .aload_n 0, 1), (53, .getfield 9, 3), (56, .iload 4, 2), (58, .iaload, 1), (59, .isub, 1), (60, .iload_n 3, 1), (61, .if_icmp .le 21, 3)],
  [(64, .aload_n 0, 1), (65, .aload_n 0, 1), (66, .getfield 9, 3), (69, .iload 4, 2), (71, .iaload, 1), (72, .iload_n 3, 1), (73, .iadd, 1), (74, .invokevirtual 72, 3), (77, .iconst 0, 1), (78, .istore_n 3, 1), (79, .goto 21, 3), (82, .iload_n 3, 1), (83, .aload_n 0, 1), (84, .getfield 15, 3), (87, .iload 4, 2), (89, .iaload, 1), (90, .aload_n 0, 1), (91, .getfield 9, 3), (94, .iload 4, 2)],
  [(96, .iaload, 1), (97, .isub, 1), (98, .isub, 1), (99, .istore_n 3, 1), (100, .iinc 4 1, 3), (103, .goto (-94), 3), (106, .return_, 1)]])
def tX8_payOfSheet : am_T := (8, yX8_payOfSheet, cX8_payOfSheet, 9, (some .long), 2, false, [[(0, .aload_n 0, 1), (1, .aload_n 1, 1), (2, .iload_n 2, 1), (3, .invokevirtual 195, 3), (6, .istore_n 3, 1), (7, .lconst 0, 1), (8, .lstore 4, 2), (10, .iconst 0, 1), (11, .istore 6, 2), (13, .iload 6, 2), (15, .aload_n 0, 1), (16, .getfield 48, 3), (19, .getfield 289, 3), (22, .if_icmp .ge 124, 3), (25, .aload_n 0, 1), (26, .getfield 48, 3), (29, .getfield 290, 3)],
  [(32, .iload 6, 2), (34, .iaload, 1), (35, .bipush 6, 2), (37, .if_icmp .lt 103, 3), (40, .sipush 10000, 3), (43, .aload_n 0, 1), (44, .getfield 48, 3), (47, .getfield 290, 3), (50, .iload 6, 2), (52, .iaload, 1), (53, .bipush 6, 2), (55, .if_icmp .ne 17, 3), (58, .aload_n 0, 1), (59, .getfield 21, 3), (62, .iload_n 3, 1), (63, .aaload, 1)],
  [(64, .getfield 105, 3), (67, .iconst 4, 1), (68, .iaload, 1), (69, .goto 4, 3), (72, .iconst 0, 1), (73, .iadd, 1), (74, .i2l, 1), (75, .lstore 7, 2), (77, .lload 4, 2), (79, .lload 7, 2), (81, .aload_n 0, 1), (82, .getfield 48, 3), (85, .getfield 293, 3), (88, .iload 6, 2), (90, .iaload, 1), (91, .aload_n 0, 1), (92, .getfield 48, 3), (95, .getfield 296, 3)],
  [(98, .iload 6, 2), (100, .iaload, 1), (101, .isub, 1), (102, .i2l, 1), (103, .lmul, 1), (104, .ladd, 1), (105, .lstore 4, 2), (107, .lload 4, 2), (109, .aload_n 0, 1), (110, .getfield 35, 3), (113, .iload_n 3, 1), (114, .aload_n 0, 1), (115, .getfield 48, 3), (118, .getfield 296, 3), (121, .iload 6, 2), (123, .iaload, 1), (124, .aload_n 0, 1), (125, .getfield 48, 3)],
  [(128, .getfield 293, 3), (131, .iload 6, 2), (133, .iaload, 1), (134, .invokevirtual 299, 3), (137, .ladd, 1), (138, .lstore 4, 2), (140, .iinc 6 1, 3), (143, .goto (-130), 3), (146, .lload 4, 2), (148, .aload_n 0, 1), (149, .getfield 28, 3), (152, .aload_n 1, 1), (153, .getfield 303, 3), (156, .iload_n 2, 1), (157, .invokevirtual 306, 3)],
  [(160, .i2l, 1), (161, .lmul, 1), (162, .invokestatic 309, 3), (165, .lreturn, 1)]])
def tX5_extraOver : am_T := (5, yX5_extraOver, cX5_extraOver, 11, (some .long), 3, false, [[(0, .lconst 0, 1), (1, .lstore 4, 2), (3, .iload_n 2, 1), (4, .istore 6, 2), (6, .iload_n 2, 1), (7, .istore 7, 2), (9, .iload 7, 2), (11, .iload_n 3, 1), (12, .if_icmp .ge 69, 3), (15, .iload 7, 2), (17, .sipush 1440, 3), (20, .irem, 1), (21, .istore 8, 2), (23, .iload_n 3, 1), (24, .iload 7, 2), (26, .iconst 1, 1), (27, .aload_n 0, 1), (28, .iload 8, 2), (30, .invokevirtual 38, 3)],
  [(33, .invokestatic 42, 3), (36, .iadd, 1), (37, .invokestatic 48, 3), (40, .istore 6, 2), (42, .aload_n 0, 1), (43, .aload_n 0, 1), (44, .aload_n 0, 1), (45, .iload_n 1, 1), (46, .iload 8, 2), (48, .invokevirtual 51, 3), (51, .invokevirtual 54, 3), (54, .invokevirtual 57, 3), (57, .i2l, 1), (58, .lstore 9, 2), (60, .lload 4, 2), (62, .lload 9, 2)],
  [(64, .iload 6, 2), (66, .iload 7, 2), (68, .isub, 1), (69, .i2l, 1), (70, .lmul, 1), (71, .ladd, 1), (72, .lstore 4, 2), (74, .iload 6, 2), (76, .istore 7, 2), (78, .goto (-69), 3), (81, .lload 4, 2), (83, .lreturn, 1)]])
def tX5_steadyFrom : am_T := (5, yX5_steadyFrom, cX5_steadyFrom, 4, (some .int), 1, false, [[(0, .sipush 1440, 3), (3, .istore_n 2, 1), (4, .iconst 0, 1), (5, .istore_n 3, 1), (6, .iload_n 3, 1), (7, .aload_n 0, 1), (8, .getfield 27, 3), (11, .if_icmp .ge 39, 3), (14, .iload_n 2, 1), (15, .aload_n 0, 1), (16, .getfield 15, 3), (19, .iload_n 3, 1), (20, .iaload, 1), (21, .iload_n 1, 1), (22, .invokestatic 60, 3), (25, .invokestatic 48, 3), (28, .istore_n 2, 1), (29, .iload_n 2, 1), (30, .aload_n 0, 1), (31, .getfield 18, 3)],
  [(34, .iload_n 3, 1), (35, .iaload, 1), (36, .iload_n 1, 1), (37, .invokestatic 60, 3), (40, .invokestatic 48, 3), (43, .istore_n 2, 1), (44, .iinc 3 1, 3), (47, .goto (-41), 3), (50, .iload_n 2, 1), (51, .ireturn, 1)]])
def tX5_wayTo : am_T := (5, yX5_wayTo, cX5_wayTo, 2, (some .int), 2, false, [[(0, .iload_n 0, 1), (1, .iload_n 1, 1), (2, .if_icmp .le 9, 3), (5, .iload_n 0, 1), (6, .iload_n 1, 1), (7, .isub, 1), (8, .goto 10, 3), (11, .iload_n 0, 1), (12, .iload_n 1, 1), (13, .isub, 1), (14, .sipush 1440, 3), (17, .iadd, 1), (18, .ireturn, 1)]])
def tX5_meeting : am_T := (5, yX5_meeting, cX5_meeting, 5, (some .int), 2, false, [[(0, .iconst 0, 1), (1, .istore_n 3, 1), (2, .iconst 0, 1), (3, .istore 4, 2), (5, .iload 4, 2), (7, .aload_n 0, 1), (8, .getfield 27, 3), (11, .if_icmp .ge 41, 3), (14, .aload_n 0, 1), (15, .getfield 9, 3), (18, .iload 4, 2), (20, .iaload, 1), (21, .iload_n 1, 1), (22, .ishr, 1), (23, .iconst 1, 1), (24, .iand, 1), (25, .iconst 1, 1), (26, .if_icmp .ne 20, 3), (29, .aload_n 0, 1), (30, .iload 4, 2)],
  [(32, .iload_n 2, 1), (33, .invokevirtual 31, 3), (36, .ifCond .eq 10, 3), (39, .iload_n 3, 1), (40, .iconst 1, 1), (41, .iload 4, 2), (43, .ishl, 1), (44, .ior, 1), (45, .istore_n 3, 1), (46, .iinc 4 1, 3), (49, .goto (-44), 3), (52, .iload_n 3, 1), (53, .ireturn, 1)]])
def tX5_spans : am_T := (5, yX5_spans, cX5_spans, 3, (some .boolean), 2, false, [[(0, .aload_n 0, 1), (1, .getfield 15, 3), (4, .iload_n 1, 1), (5, .iaload, 1), (6, .aload_n 0, 1), (7, .getfield 18, 3), (10, .iload_n 1, 1), (11, .iaload, 1), (12, .if_icmp .ge 29, 3), (15, .iload_n 2, 1), (16, .aload_n 0, 1), (17, .getfield 15, 3), (20, .iload_n 1, 1), (21, .iaload, 1), (22, .if_icmp .lt 17, 3), (25, .iload_n 2, 1), (26, .aload_n 0, 1), (27, .getfield 18, 3), (30, .iload_n 1, 1), (31, .iaload, 1)],
  [(32, .if_icmp .ge 7, 3), (35, .iconst 1, 1), (36, .goto 4, 3), (39, .iconst 0, 1), (40, .ireturn, 1), (41, .aload_n 0, 1), (42, .getfield 15, 3), (45, .iload_n 1, 1), (46, .iaload, 1), (47, .aload_n 0, 1), (48, .getfield 18, 3), (51, .iload_n 1, 1), (52, .iaload, 1), (53, .if_icmp .eq 23, 3), (56, .iload_n 2, 1), (57, .aload_n 0, 1), (58, .getfield 15, 3), (61, .iload_n 1, 1), (62, .iaload, 1), (63, .if_icmp .ge 13, 3)],
  [(66, .iload_n 2, 1), (67, .aload_n 0, 1), (68, .getfield 18, 3), (71, .iload_n 1, 1), (72, .iaload, 1), (73, .if_icmp .ge 7, 3), (76, .iconst 1, 1), (77, .goto 4, 3), (80, .iconst 0, 1), (81, .ireturn, 1)]])
def tX5_countingOf : am_T := (5, yX5_countingOf, cX5_countingOf, 4, (some .int), 1, false, [[(0, .iconst 0, 1), (1, .istore_n 2, 1), (2, .iconst 0, 1), (3, .istore_n 3, 1), (4, .iload_n 3, 1), (5, .aload_n 0, 1), (6, .getfield 27, 3), (9, .if_icmp .ge 40, 3), (12, .iload_n 1, 1), (13, .iload_n 3, 1), (14, .ishr, 1), (15, .iconst 1, 1), (16, .iand, 1), (17, .iconst 1, 1), (18, .if_icmp .ne 25, 3), (21, .aload_n 0, 1), (22, .iload_n 3, 1), (23, .iload_n 1, 1), (24, .aload_n 0, 1), (25, .getfield 24, 3), (28, .iload_n 3, 1), (29, .iaload, 1), (30, .iand, 1), (31, .invokevirtual 35, 3)],
  [(34, .ifCond .ne 9, 3), (37, .iload_n 2, 1), (38, .iconst 1, 1), (39, .iload_n 3, 1), (40, .ishl, 1), (41, .ior, 1), (42, .istore_n 2, 1), (43, .iinc 3 1, 3), (46, .goto (-42), 3), (49, .iload_n 2, 1), (50, .ireturn, 1)]])
def tX5_isBeaten : am_T := (5, yX5_isBeaten, cX5_isBeaten, 4, (some .boolean), 2, false, [[(0, .iconst 0, 1), (1, .istore_n 3, 1), (2, .iload_n 3, 1), (3, .aload_n 0, 1), (4, .getfield 27, 3), (7, .if_icmp .ge 55, 3), (10, .iload_n 2, 1), (11, .iload_n 3, 1), (12, .ishr, 1), (13, .iconst 1, 1), (14, .iand, 1), (15, .iconst 1, 1), (16, .if_icmp .ne 40, 3), (19, .aload_n 0, 1), (20, .getfield 21, 3), (23, .iload_n 3, 1), (24, .iaload, 1), (25, .aload_n 0, 1), (26, .getfield 21, 3), (29, .iload_n 1, 1), (30, .iaload, 1), (31, .if_icmp .gt 23, 3)],
  [(34, .aload_n 0, 1), (35, .getfield 21, 3), (38, .iload_n 3, 1), (39, .iaload, 1), (40, .aload_n 0, 1), (41, .getfield 21, 3), (44, .iload_n 1, 1), (45, .iaload, 1), (46, .if_icmp .ne 10, 3), (49, .iload_n 3, 1), (50, .iload_n 1, 1), (51, .if_icmp .ge 5, 3), (54, .iconst 1, 1), (55, .ireturn, 1), (56, .iinc 3 1, 3), (59, .goto (-57), 3), (62, .iconst 0, 1), (63, .ireturn, 1)]])
def tX5_extraOf : am_T := (5, yX5_extraOf, cX5_extraOf, 4, (some .int), 1, false, [[(0, .iconst 0, 1), (1, .istore_n 2, 1), (2, .iconst 0, 1), (3, .istore_n 3, 1), (4, .iload_n 3, 1), (5, .aload_n 0, 1), (6, .getfield 27, 3), (9, .if_icmp .ge 27, 3), (12, .iload_n 1, 1), (13, .iload_n 3, 1), (14, .ishr, 1), (15, .iconst 1, 1), (16, .iand, 1), (17, .iconst 1, 1), (18, .if_icmp .ne 12, 3), (21, .iload_n 2, 1), (22, .aload_n 0, 1), (23, .getfield 21, 3), (26, .iload_n 3, 1), (27, .iaload, 1), (28, .iadd, 1), (29, .istore_n 2, 1), (30, .iinc 3 1, 3)],
  [(33, .goto (-29), 3), (36, .iload_n 2, 1), (37, .ireturn, 1)]])
def tX2_at : am_T := (2, yX2_at, cX2_at, 6, (some .int), 2, false, [[(0, .iconst 0, 1), (1, .istore_n 3, 1), (2, .iconst 0, 1), (3, .istore 4, 2), (5, .iconst 0, 1), (6, .istore 5, 2), (8, .iload 5, 2), (10, .aload_n 0, 1), (11, .getfield 21, 3), (14, .if_icmp .ge 60, 3), (17, .aload_n 0, 1), (18, .getfield 9, 3), (21, .iload 5, 2), (23, .iaload, 1), (24, .iload_n 1, 1), (25, .if_icmp .ne 43, 3), (28, .aload_n 0, 1), (29, .getfield 15, 3)],
  [(32, .iload 5, 2), (34, .iaload, 1), (35, .iload_n 2, 1), (36, .if_icmp .gt 32, 3), (39, .aload_n 0, 1), (40, .getfield 15, 3), (43, .iload 5, 2), (45, .iaload, 1), (46, .iload 4, 2), (48, .if_icmp .lt 20, 3), (51, .aload_n 0, 1), (52, .getfield 15, 3), (55, .iload 5, 2), (57, .iaload, 1), (58, .istore 4, 2), (60, .aload_n 0, 1), (61, .getfield 18, 3)],
  [(64, .iload 5, 2), (66, .iaload, 1), (67, .istore_n 3, 1), (68, .iinc 5 1, 3), (71, .goto (-63), 3), (74, .iload_n 3, 1), (75, .ireturn, 1)]])
def tX8_toCents : am_T := (8, yX8_toCents, cX8_toCents, 7, (some .long), 1, false, [[(0, .lload_n 0, 1), (1, .ldc2_w 313, 3), (4, .ldiv, 1), (5, .lstore_n 2, 1), (6, .lload_n 0, 1), (7, .ldc2_w 313, 3), (10, .lrem, 1), (11, .ldc2_w 315, 3), (14, .lmul, 1), (15, .lstore 4, 2), (17, .lload 4, 2), (19, .ldc2_w 313, 3), (22, .lcmp, 1), (23, .ifCond .gt 22, 3), (26, .lload 4, 2), (28, .ldc2_w 313, 3), (31, .lcmp, 1)],
  [(32, .ifCond .ne 17, 3), (35, .lload_n 2, 1), (36, .ldc2_w 315, 3), (39, .lrem, 1), (40, .lconst 0, 1), (41, .lcmp, 1), (42, .ifCond .eq 7, 3), (45, .iconst 1, 1), (46, .goto 4, 3), (49, .iconst 0, 1), (50, .istore 6, 2), (52, .iload 6, 2), (54, .ifCond .eq 9, 3), (57, .lload_n 2, 1), (58, .lconst 1, 1), (59, .ladd, 1), (60, .goto 4, 3), (63, .lload_n 2, 1)],
  [(64, .lreturn, 1)]])
def tX1_insert : am_T := (1, yX1_insert, cX1_insert, 4, none, 2, false, [[(0, .aload_n 0, 1), (1, .getfield 21, 3), (4, .sipush 400, 3), (7, .if_icmp .ge 79, 3), (10, .aload_n 0, 1), (11, .iload_n 1, 1), (12, .invokevirtual 25, 3), (15, .istore_n 3, 1), (16, .aload_n 0, 1), (17, .getfield 9, 3), (20, .iload_n 3, 1), (21, .aload_n 0, 1), (22, .getfield 9, 3), (25, .iload_n 3, 1), (26, .iconst 1, 1), (27, .iadd, 1), (28, .aload_n 0, 1), (29, .getfield 21, 3)],
  [(32, .iload_n 3, 1), (33, .isub, 1), (34, .invokestatic 29, 3), (37, .aload_n 0, 1), (38, .getfield 15, 3), (41, .iload_n 3, 1), (42, .aload_n 0, 1), (43, .getfield 15, 3), (46, .iload_n 3, 1), (47, .iconst 1, 1), (48, .iadd, 1), (49, .aload_n 0, 1), (50, .getfield 21, 3), (53, .iload_n 3, 1), (54, .isub, 1), (55, .invokestatic 29, 3), (58, .aload_n 0, 1), (59, .getfield 9, 3), (62, .iload_n 3, 1), (63, .iload_n 1, 1)],
  [(64, .iastore, 1), (65, .aload_n 0, 1), (66, .getfield 15, 3), (69, .iload_n 3, 1), (70, .iload_n 2, 1), (71, .iastore, 1), (72, .aload_n 0, 1), (73, .dup, 1), (74, .getfield 21, 3), (77, .iconst 1, 1), (78, .iadd, 1), (79, .putfield 21, 3), (82, .aload_n 0, 1), (83, .invokevirtual 35, 3), (86, .return_, 1)]])
def tX1_pairUp : am_T := (1, yX1_pairUp, cX1_pairUp, 5, none, 0, false, [[(0, .iconst 0, 1), (1, .istore_n 1, 1), (2, .iconst 0, 1), (3, .istore_n 2, 1), (4, .iconst 0, 1), (5, .istore_n 3, 1), (6, .iload_n 3, 1), (7, .aload_n 0, 1), (8, .getfield 21, 3), (11, .if_icmp .ge 110, 3), (14, .iload_n 1, 1), (15, .ifCond .eq 24, 3), (18, .aload_n 0, 1), (19, .getfield 9, 3), (22, .iload_n 3, 1), (23, .iaload, 1), (24, .aload_n 0, 1), (25, .getfield 9, 3), (28, .iload_n 2, 1), (29, .iaload, 1), (30, .isub, 1), (31, .sipush 960, 3)],
  [(34, .if_icmp .le 5, 3), (37, .iconst 0, 1), (38, .istore_n 1, 1), (39, .iload_n 1, 1), (40, .aload_n 0, 1), (41, .getfield 15, 3), (44, .iload_n 3, 1), (45, .iaload, 1), (46, .invokestatic 42, 3), (49, .istore 4, 2), (51, .iload 4, 2), (53, .iload_n 1, 1), (54, .if_icmp .ne 13, 3), (57, .aload_n 0, 1), (58, .getfield 18, 3), (61, .iload_n 3, 1), (62, .iconst 0, 1), (63, .iastore, 1)],
  [(64, .goto 48, 3), (67, .iload_n 1, 1), (68, .ifCond .ne 15, 3), (71, .aload_n 0, 1), (72, .getfield 18, 3), (75, .iload_n 3, 1), (76, .iconst 2, 1), (77, .iastore, 1), (78, .iload_n 3, 1), (79, .istore_n 2, 1), (80, .goto 32, 3), (83, .iload 4, 2), (85, .ifCond .ne 20, 3), (88, .aload_n 0, 1), (89, .getfield 18, 3), (92, .iload_n 3, 1), (93, .iconst 3, 1), (94, .iastore, 1), (95, .aload_n 0, 1)],
  [(96, .getfield 18, 3), (99, .iload_n 2, 1), (100, .iconst 1, 1), (101, .iastore, 1), (102, .goto 10, 3), (105, .aload_n 0, 1), (106, .getfield 18, 3), (109, .iload_n 3, 1), (110, .iconst 4, 1), (111, .iastore, 1), (112, .iload 4, 2), (114, .istore_n 1, 1), (115, .iinc 3 1, 3), (118, .goto (-112), 3), (121, .return_, 1)]])
def tX1_nextState : am_T := (1, yX1_nextState, cX1_nextState, 2, (some .int), 2, false, [[(0, .iload_n 0, 1), (1, .ifCond .ne 13, 3), (4, .iload_n 1, 1), (5, .ifCond .ne 7, 3), (8, .iconst 1, 1), (9, .goto 4, 3), (12, .iconst 0, 1), (13, .ireturn, 1), (14, .iload_n 1, 1), (15, .iconst 1, 1), (16, .if_icmp .ne 5, 3), (19, .iconst 0, 1), (20, .ireturn, 1), (21, .iload_n 0, 1), (22, .iconst 1, 1), (23, .if_icmp .ne 14, 3), (26, .iload_n 1, 1), (27, .iconst 2, 1), (28, .if_icmp .ne 7, 3), (31, .iconst 2, 1)],
  [(32, .goto 4, 3), (35, .iconst 1, 1), (36, .ireturn, 1), (37, .iload_n 1, 1), (38, .iconst 3, 1), (39, .if_icmp .ne 7, 3), (42, .iconst 1, 1), (43, .goto 4, 3), (46, .iconst 2, 1), (47, .ireturn, 1)]])
def tX9_mark : am_T := (9, yX9_mark, cX9_mark, 5, (some .int), 4, false, [[(0, .aload_n 0, 1), (1, .iload_n 1, 1), (2, .iload_n 2, 1), (3, .iload_n 3, 1), (4, .iload 4, 2), (6, .iconst 0, 1), (7, .invokevirtual 255, 3), (10, .ireturn, 1)]])
def tX9_comes_r0 : List am_I := [(0, .aload_n 0, 1), (1, .iload_n 1, 1), (2, .invokevirtual 153, 3), (5, .ifCond .eq 10, 3), (8, .iload_n 2, 1), (9, .invokestatic 26, 3), (12, .ifCond .ne 5, 3), (15, .iconst (-1), 1), (16, .ireturn, 1), (17, .sipush 1440, 3), (20, .iload_n 2, 1), (21, .imul, 1), (22, .iload_n 3, 1), (23, .iadd, 1), (24, .istore 6, 2), (26, .iload_n 3, 1), (27, .iconst 0, 1), (28, .sipush 1439, 3), (31, .invokestatic 11, 3)]
def tX9_comes_r1 : List am_I := [(34, .ifCond .eq 40, 3), (37, .iload 4, 2), (39, .iconst 0, 1), (40, .iconst 3, 1), (41, .invokestatic 11, 3), (44, .ifCond .eq 30, 3), (47, .iload_n 2, 1), (48, .aload_n 0, 1), (49, .getfield 84, 3), (52, .iload_n 1, 1), (53, .iaload, 1), (54, .if_icmp .lt 20, 3), (57, .aload_n 0, 1), (58, .iload_n 1, 1), (59, .aload_n 0, 1), (60, .iload_n 1, 1), (61, .iload 6, 2), (63, .invokevirtual 237, 3)]
def tX9_comes_r2 : List am_I := [(66, .iload 6, 2), (68, .invokevirtual 240, 3), (71, .ifCond .eq 6, 3), (74, .bipush (-2), 2), (76, .ireturn, 1), (77, .iload_n 2, 1), (78, .invokestatic 243, 3), (81, .aload_n 0, 1), (82, .getfield 214, 3), (85, .if_icmp .ge 7, 3), (88, .iconst 1, 1), (89, .goto 4, 3), (92, .iconst 0, 1), (93, .iload 5, 2), (95, .if_icmp .ne 12, 3)]
def tX9_comes_r3 : List am_I := [(98, .aload_n 0, 1), (99, .getfield 214, 3), (102, .bipush 36, 2), (104, .if_icmp .ne 6, 3), (107, .bipush (-3), 2), (109, .ireturn, 1), (110, .aload_n 0, 1), (111, .getfield 96, 3), (114, .iload_n 1, 1), (115, .iaload, 1), (116, .sipush 400, 3), (119, .if_icmp .eq 13, 3), (122, .aload_n 0, 1), (123, .getfield 246, 3), (126, .sipush 1000, 3)]
def tX9_comes_r4 : List am_I := [(129, .if_icmp .ne 6, 3), (132, .bipush (-4), 2), (134, .ireturn, 1), (135, .aload_n 0, 1), (136, .iload_n 1, 1), (137, .ldc2_w 249, 3), (140, .invokevirtual 251, 3), (143, .aload_n 0, 1), (144, .iload_n 1, 1), (145, .iload 6, 2), (147, .invokevirtual 237, 3), (150, .istore 7, 2), (152, .aload_n 0, 1), (153, .getfield 96, 3), (156, .iload_n 1, 1), (157, .iaload, 1), (158, .istore 8, 2)]
def tX9_comes_r5 : List am_I := [(160, .iload 8, 2), (162, .iload 7, 2), (164, .if_icmp .le 65, 3), (167, .aload_n 0, 1), (168, .getfield 99, 3), (171, .sipush 400, 3), (174, .iload_n 1, 1), (175, .imul, 1), (176, .iload 8, 2), (178, .iadd, 1), (179, .aload_n 0, 1), (180, .getfield 99, 3), (183, .sipush 400, 3), (186, .iload_n 1, 1), (187, .imul, 1), (188, .iload 8, 2), (190, .iadd, 1), (191, .iconst 1, 1)]
def tX9_comes_r6 : List am_I := [(192, .isub, 1), (193, .iaload, 1), (194, .iastore, 1), (195, .aload_n 0, 1), (196, .getfield 102, 3), (199, .sipush 400, 3), (202, .iload_n 1, 1), (203, .imul, 1), (204, .iload 8, 2), (206, .iadd, 1), (207, .aload_n 0, 1), (208, .getfield 102, 3), (211, .sipush 400, 3), (214, .iload_n 1, 1), (215, .imul, 1), (216, .iload 8, 2), (218, .iadd, 1), (219, .iconst 1, 1), (220, .isub, 1), (221, .iaload, 1), (222, .iastore, 1), (223, .iinc 8 (-1), 3)]
def tX9_comes_r7 : List am_I := [(226, .goto (-66), 3), (229, .aload_n 0, 1), (230, .getfield 99, 3), (233, .sipush 400, 3), (236, .iload_n 1, 1), (237, .imul, 1), (238, .iload 7, 2), (240, .iadd, 1), (241, .iload 6, 2), (243, .iastore, 1), (244, .aload_n 0, 1), (245, .getfield 102, 3), (248, .sipush 400, 3), (251, .iload_n 1, 1), (252, .imul, 1), (253, .iload 7, 2), (255, .iadd, 1)]
def tX9_comes_r8 : List am_I := [(256, .iload 4, 2), (258, .iastore, 1), (259, .aload_n 0, 1), (260, .getfield 96, 3), (263, .iload_n 1, 1), (264, .dup2, 1), (265, .iaload, 1), (266, .iconst 1, 1), (267, .iadd, 1), (268, .iastore, 1), (269, .aload_n 0, 1), (270, .dup, 1), (271, .getfield 246, 3), (274, .iconst 1, 1), (275, .iadd, 1), (276, .putfield 246, 3), (279, .aload_n 0, 1), (280, .iload_n 1, 1), (281, .lconst 1, 1), (282, .invokevirtual 251, 3), (285, .aload_n 0, 1), (286, .getfield 96, 3)]
def tX9_comes_r9 : List am_I := [(289, .iload_n 1, 1), (290, .iaload, 1), (291, .ireturn, 1)]
def tX9_comes : am_T := (9, yX9_comes, cX9_comes, 9, (some .int), 5, false, [tX9_comes_r0, tX9_comes_r1, tX9_comes_r2, tX9_comes_r3, tX9_comes_r4, tX9_comes_r5, tX9_comes_r6, tX9_comes_r7, tX9_comes_r8, tX9_comes_r9])
def tX9_markAt : am_T := (9, yX9_markAt, cX9_markAt, 4, (some .int), 2, false, [[(0, .iconst 0, 1), (1, .istore_n 3, 1), (2, .iload_n 3, 1), (3, .aload_n 0, 1), (4, .getfield 96, 3), (7, .iload_n 1, 1), (8, .iaload, 1), (9, .if_icmp .ge 25, 3), (12, .aload_n 0, 1), (13, .getfield 99, 3), (16, .sipush 400, 3), (19, .iload_n 1, 1), (20, .imul, 1), (21, .iload_n 3, 1), (22, .iadd, 1), (23, .iaload, 1), (24, .iload_n 2, 1), (25, .if_icmp .ge 9, 3), (28, .iinc 3 1, 3), (31, .goto (-29), 3)],
  [(34, .iload_n 3, 1), (35, .ireturn, 1)]])
def tX9_isMark : am_T := (9, yX9_isMark, cX9_isMark, 4, (some .boolean), 3, false, [[(0, .iload_n 2, 1), (1, .aload_n 0, 1), (2, .getfield 96, 3), (5, .iload_n 1, 1), (6, .iaload, 1), (7, .if_icmp .ge 23, 3), (10, .aload_n 0, 1), (11, .getfield 99, 3), (14, .sipush 400, 3), (17, .iload_n 1, 1), (18, .imul, 1), (19, .iload_n 2, 1), (20, .iadd, 1), (21, .iaload, 1), (22, .iload_n 3, 1), (23, .if_icmp .ne 7, 3), (26, .iconst 1, 1), (27, .goto 4, 3), (30, .iconst 0, 1), (31, .ireturn, 1)]])
def tX9_monthOf : am_T := (9, yX9_monthOf, cX9_monthOf, 3, (some .int), 1, false, [[(0, .iconst 0, 1), (1, .istore_n 1, 1), (2, .iload_n 0, 1), (3, .istore_n 2, 1), (4, .iload_n 2, 1), (5, .iload_n 1, 1), (6, .invokestatic 7, 3), (9, .if_icmp .lt 16, 3), (12, .iload_n 2, 1), (13, .iload_n 1, 1), (14, .invokestatic 7, 3), (17, .isub, 1), (18, .istore_n 2, 1), (19, .iinc 1 1, 3), (22, .goto (-18), 3), (25, .iload_n 1, 1), (26, .ireturn, 1)]])
def tX9_length : am_T := (9, yX9_length, cX9_length, 2, (some .int), 1, false, [[(0, .iload_n 0, 1), (1, .bipush 12, 2), (3, .irem, 1), (4, .istore_n 1, 1), (5, .iload_n 1, 1), (6, .iconst 1, 1), (7, .if_icmp .ne 17, 3), (10, .iload_n 0, 1), (11, .bipush 25, 2), (13, .if_icmp .ne 8, 3), (16, .bipush 29, 2), (18, .goto 5, 3), (21, .bipush 28, 2), (23, .ireturn, 1), (24, .iload_n 1, 1), (25, .iconst 3, 1), (26, .if_icmp .eq 20, 3), (29, .iload_n 1, 1), (30, .iconst 5, 1), (31, .if_icmp .eq 15, 3)],
  [(34, .iload_n 1, 1), (35, .bipush 8, 2), (37, .if_icmp .eq 9, 3), (40, .iload_n 1, 1), (41, .bipush 10, 2), (43, .if_icmp .ne 8, 3), (46, .bipush 30, 2), (48, .goto 5, 3), (51, .bipush 31, 2), (53, .ireturn, 1)]])
def tX9_book : am_T := (9, yX9_book, cX9_book, 4, none, 2, false, [[(0, .aload_n 0, 1), (1, .getfield 214, 3), (4, .ifCond .ne 4, 3), (7, .return_, 1), (8, .aload_n 0, 1), (9, .iload_n 1, 1), (10, .invokevirtual 229, 3), (13, .aload_n 0, 1), (14, .iload_n 1, 1), (15, .iconst 0, 1), (16, .aload_n 0, 1), (17, .getfield 214, 3), (20, .invokestatic 217, 3), (23, .invokevirtual 223, 3), (26, .aload_n 0, 1), (27, .getfield 139, 3), (30, .bipush 36, 2)],
  [(32, .iload_n 1, 1), (33, .imul, 1), (34, .aload_n 0, 1), (35, .getfield 214, 3), (38, .iadd, 1), (39, .dup2, 1), (40, .laload, 1), (41, .lload_n 2, 1), (42, .aload_n 0, 1), (43, .getfield 197, 3), (46, .lmul, 1), (47, .ladd, 1), (48, .lastore, 1), (49, .aload_n 0, 1), (50, .getfield 142, 3), (53, .bipush 36, 2), (55, .iload_n 1, 1), (56, .imul, 1), (57, .aload_n 0, 1), (58, .getfield 214, 3), (61, .iadd, 1), (62, .dup2, 1), (63, .laload, 1)],
  [(64, .lload_n 2, 1), (65, .aload_n 0, 1), (66, .getfield 201, 3), (69, .lmul, 1), (70, .ladd, 1), (71, .lastore, 1), (72, .return_, 1)]])
def tX9_pair_r0 : List am_I := [(0, .aload_n 0, 1), (1, .iconst 0, 1), (2, .putfield 156, 3), (5, .iconst 0, 1), (6, .istore_n 2, 1), (7, .iconst 0, 1), (8, .istore_n 3, 1), (9, .iconst 0, 1), (10, .istore 4, 2), (12, .iload 4, 2), (14, .aload_n 0, 1), (15, .getfield 96, 3), (18, .iload_n 1, 1), (19, .iaload, 1), (20, .if_icmp .ge 271, 3), (23, .aload_n 0, 1), (24, .getfield 99, 3), (27, .sipush 400, 3), (30, .iload_n 1, 1), (31, .imul, 1)]
def tX9_pair_r1 : List am_I := [(32, .iload 4, 2), (34, .iadd, 1), (35, .iaload, 1), (36, .istore 5, 2), (38, .aload_n 0, 1), (39, .getfield 102, 3), (42, .sipush 400, 3), (45, .iload_n 1, 1), (46, .imul, 1), (47, .iload 4, 2), (49, .iadd, 1), (50, .iaload, 1), (51, .istore 6, 2), (53, .aload_n 0, 1), (54, .getfield 105, 3), (57, .iload 4, 2), (59, .iconst 0, 1), (60, .iastore, 1), (61, .iload_n 2, 1), (62, .ifCond .le 25, 3)]
def tX9_pair_r2 : List am_I := [(65, .iload 5, 2), (67, .aload_n 0, 1), (68, .getfield 108, 3), (71, .aload_n 0, 1), (72, .getfield 156, 3), (75, .iconst 1, 1), (76, .isub, 1), (77, .iaload, 1), (78, .isub, 1), (79, .sipush 960, 3), (82, .if_icmp .le 5, 3), (85, .iconst 0, 1), (86, .istore_n 2, 1), (87, .iload_n 2, 1), (88, .ifCond .ne 66, 3), (91, .iload 6, 2), (93, .ifCond .eq 6, 3)]
def tX9_pair_r3 : List am_I := [(96, .goto 189, 3), (99, .aload_n 0, 1), (100, .getfield 108, 3), (103, .aload_n 0, 1), (104, .getfield 156, 3), (107, .iload 5, 2), (109, .iastore, 1), (110, .aload_n 0, 1), (111, .getfield 114, 3), (114, .aload_n 0, 1), (115, .getfield 156, 3), (118, .iload 4, 2), (120, .iastore, 1), (121, .aload_n 0, 1), (122, .getfield 120, 3), (125, .aload_n 0, 1), (126, .getfield 156, 3)]
def tX9_pair_r4 : List am_I := [(129, .iconst 1, 1), (130, .bastore, 1), (131, .aload_n 0, 1), (132, .dup, 1), (133, .getfield 156, 3), (136, .iconst 1, 1), (137, .iadd, 1), (138, .putfield 156, 3), (141, .aload_n 0, 1), (142, .getfield 105, 3), (145, .iload 4, 2), (147, .iconst 2, 1), (148, .iastore, 1), (149, .iconst 1, 1), (150, .istore_n 2, 1), (151, .goto 134, 3), (154, .iload 6, 2), (156, .iconst 1, 1), (157, .if_icmp .ne 80, 3)]
def tX9_pair_r5 : List am_I := [(160, .aload_n 0, 1), (161, .getfield 111, 3), (164, .aload_n 0, 1), (165, .getfield 156, 3), (168, .iconst 1, 1), (169, .isub, 1), (170, .iload_n 2, 1), (171, .iconst 2, 1), (172, .if_icmp .ne 7, 3), (175, .iload_n 3, 1), (176, .goto 5, 3), (179, .iload 5, 2), (181, .iastore, 1), (182, .aload_n 0, 1), (183, .getfield 117, 3), (186, .aload_n 0, 1), (187, .getfield 156, 3), (190, .iconst 1, 1), (191, .isub, 1)]
def tX9_pair_r6 : List am_I := [(192, .iload 4, 2), (194, .iastore, 1), (195, .aload_n 0, 1), (196, .getfield 120, 3), (199, .aload_n 0, 1), (200, .getfield 156, 3), (203, .iconst 1, 1), (204, .isub, 1), (205, .iconst 0, 1), (206, .bastore, 1), (207, .aload_n 0, 1), (208, .getfield 105, 3), (211, .aload_n 0, 1), (212, .getfield 114, 3), (215, .aload_n 0, 1), (216, .getfield 156, 3), (219, .iconst 1, 1), (220, .isub, 1), (221, .iaload, 1), (222, .iconst 1, 1), (223, .iastore, 1)]
def tX9_pair_r7 : List am_I := [(224, .aload_n 0, 1), (225, .getfield 105, 3), (228, .iload 4, 2), (230, .iconst 3, 1), (231, .iastore, 1), (232, .iconst 0, 1), (233, .istore_n 2, 1), (234, .goto 51, 3), (237, .iload_n 2, 1), (238, .iconst 1, 1), (239, .if_icmp .ne 25, 3), (242, .iload 6, 2), (244, .iconst 2, 1), (245, .if_icmp .ne 19, 3), (248, .iload 5, 2), (250, .istore_n 3, 1), (251, .aload_n 0, 1), (252, .getfield 105, 3), (255, .iload 4, 2)]
def tX9_pair_r8 : List am_I := [(257, .iconst 4, 1), (258, .iastore, 1), (259, .iconst 2, 1), (260, .istore_n 2, 1), (261, .goto 24, 3), (264, .iload_n 2, 1), (265, .iconst 2, 1), (266, .if_icmp .ne 19, 3), (269, .iload 6, 2), (271, .iconst 3, 1), (272, .if_icmp .ne 13, 3), (275, .aload_n 0, 1), (276, .getfield 105, 3), (279, .iload 4, 2), (281, .iconst 4, 1), (282, .iastore, 1), (283, .iconst 1, 1), (284, .istore_n 2, 1), (285, .iinc 4 1, 3)]
def tX9_pair_r9 : List am_I := [(288, .goto (-276), 3), (291, .return_, 1)]
def tX9_pair : am_T := (9, yX9_pair, cX9_pair, 7, none, 1, false, [tX9_pair_r0, tX9_pair_r1, tX9_pair_r2, tX9_pair_r3, tX9_pair_r4, tX9_pair_r5, tX9_pair_r6, tX9_pair_r7, tX9_pair_r8, tX9_pair_r9])
def tX9_firstDay : am_T := (9, yX9_firstDay, cX9_firstDay, 3, (some .int), 1, false, [[(0, .iconst 0, 1), (1, .istore_n 1, 1), (2, .iconst 0, 1), (3, .istore_n 2, 1), (4, .iload_n 2, 1), (5, .iload_n 0, 1), (6, .if_icmp .ge 16, 3), (9, .iload_n 1, 1), (10, .iload_n 2, 1), (11, .invokestatic 7, 3), (14, .iadd, 1), (15, .istore_n 1, 1), (16, .iinc 2 1, 3), (19, .goto (-15), 3), (22, .iload_n 1, 1), (23, .ireturn, 1)]])
def tX9_sumDays : am_T := (9, yX9_sumDays, cX9_sumDays, 8, none, 3, false, [[(0, .aload_n 0, 1), (1, .lconst 0, 1), (2, .putfield 197, 3), (5, .aload_n 0, 1), (6, .lconst 0, 1), (7, .putfield 201, 3), (10, .iconst 0, 1), (11, .istore 4, 2), (13, .iload 4, 2), (15, .aload_n 0, 1), (16, .getfield 156, 3), (19, .if_icmp .ge 149, 3), (22, .aload_n 0, 1), (23, .getfield 108, 3), (26, .iload 4, 2), (28, .iaload, 1), (29, .sipush 1440, 3)],
  [(32, .idiv, 1), (33, .istore 5, 2), (35, .aload_n 0, 1), (36, .getfield 120, 3), (39, .iload 4, 2), (41, .baload, 1), (42, .ifCond .ne 120, 3), (45, .iload 5, 2), (47, .iload_n 2, 1), (48, .if_icmp .lt 114, 3), (51, .iload 5, 2), (53, .iload_n 3, 1), (54, .if_icmp .lt 6, 3), (57, .goto 105, 3), (60, .iconst 1, 1), (61, .istore 6, 2), (63, .iconst 0, 1)],
  [(64, .istore 7, 2), (66, .iload 7, 2), (68, .iload 4, 2), (70, .if_icmp .ge 47, 3), (73, .iload 6, 2), (75, .ifCond .eq 33, 3), (78, .aload_n 0, 1), (79, .getfield 120, 3), (82, .iload 7, 2), (84, .baload, 1), (85, .ifCond .ne 19, 3), (88, .aload_n 0, 1), (89, .getfield 108, 3), (92, .iload 7, 2), (94, .iaload, 1), (95, .sipush 1440, 3)],
  [(98, .idiv, 1), (99, .iload 5, 2), (101, .if_icmp .eq 7, 3), (104, .iconst 1, 1), (105, .goto 4, 3), (108, .iconst 0, 1), (109, .istore 6, 2), (111, .iinc 7 1, 3), (114, .goto (-48), 3), (117, .iload 6, 2), (119, .ifCond .ne 6, 3), (122, .goto 40, 3), (125, .aload_n 0, 1), (126, .iload_n 1, 1), (127, .iload 5, 2)],
  [(129, .invokevirtual 204, 3), (132, .aload_n 0, 1), (133, .dup, 1), (134, .getfield 197, 3), (137, .aload_n 0, 1), (138, .invokevirtual 207, 3), (141, .i2l, 1), (142, .ladd, 1), (143, .putfield 197, 3), (146, .aload_n 0, 1), (147, .dup, 1), (148, .getfield 201, 3), (151, .aload_n 0, 1), (152, .iload_n 1, 1), (153, .iload 5, 2), (155, .invokevirtual 210, 3), (158, .ladd, 1), (159, .putfield 201, 3)],
  [(162, .iinc 4 1, 3), (165, .goto (-152), 3), (168, .return_, 1)]])
def tX9_look_r0 : List am_I := [(0, .aload_n 0, 1), (1, .iconst 0, 1), (2, .sipush 2880, 3), (5, .iconst 0, 1), (6, .invokevirtual 159, 3), (9, .aload_n 0, 1), (10, .iconst 0, 1), (11, .putfield 163, 3), (14, .iconst 5, 1), (15, .aload_n 0, 1), (16, .aload_n 0, 1), (17, .getfield 81, 3), (20, .iload_n 1, 1), (21, .iaload, 1), (22, .iload_n 2, 1), (23, .invokevirtual 166, 3), (26, .imul, 1), (27, .istore_n 3, 1), (28, .iconst 0, 1), (29, .istore 4, 2), (31, .iconst 0, 1)]
def tX9_look_r1 : List am_I := [(32, .istore 5, 2), (34, .iload 5, 2), (36, .aload_n 0, 1), (37, .getfield 156, 3), (40, .if_icmp .ge 54, 3), (43, .aload_n 0, 1), (44, .getfield 120, 3), (47, .iload 5, 2), (49, .baload, 1), (50, .ifCond .ne 38, 3), (53, .aload_n 0, 1), (54, .getfield 108, 3), (57, .iload 5, 2), (59, .iaload, 1), (60, .sipush 1440, 3), (63, .idiv, 1)]
def tX9_look_r2 : List am_I := [(64, .iload_n 2, 1), (65, .if_icmp .eq 6, 3), (68, .goto 20, 3), (71, .iconst 1, 1), (72, .istore 4, 2), (74, .aload_n 0, 1), (75, .iload_n 1, 1), (76, .iload 5, 2), (78, .iload_n 2, 1), (79, .aload_n 0, 1), (80, .getfield 42, 3), (83, .iload_n 3, 1), (84, .iaload, 1), (85, .invokevirtual 170, 3), (88, .iinc 5 1, 3), (91, .goto (-57), 3), (94, .aload_n 0, 1), (95, .getfield 126, 3)]
def tX9_look_r3 : List am_I := [(98, .iconst 0, 1), (99, .iconst 0, 1), (100, .iastore, 1), (101, .iconst 0, 1), (102, .istore 5, 2), (104, .iload 5, 2), (106, .sipush 2880, 3), (109, .if_icmp .ge 46, 3), (112, .aload_n 0, 1), (113, .getfield 126, 3), (116, .iconst 0, 1), (117, .dup2, 1), (118, .iaload, 1), (119, .aload_n 0, 1), (120, .getfield 123, 3), (123, .iload 5, 2), (125, .iaload, 1), (126, .bipush 7, 2)]
def tX9_look_r4 : List am_I := [(128, .if_icmp .eq 14, 3), (131, .aload_n 0, 1), (132, .getfield 123, 3), (135, .iload 5, 2), (137, .iaload, 1), (138, .iconst 2, 1), (139, .if_icmp .ne 7, 3), (142, .iconst 1, 1), (143, .goto 4, 3), (146, .iconst 0, 1), (147, .iadd, 1), (148, .iastore, 1), (149, .iinc 5 1, 3), (152, .goto (-48), 3), (155, .aload_n 0, 1), (156, .getfield 126, 3), (159, .iconst 1, 1)]
def tX9_look_r5 : List am_I := [(160, .iload 4, 2), (162, .ifCond .eq 10, 3), (165, .aload_n 0, 1), (166, .invokevirtual 174, 3), (169, .goto 4, 3), (172, .iconst 0, 1), (173, .iastore, 1), (174, .aload_n 0, 1), (175, .getfield 45, 3), (178, .iload_n 3, 1), (179, .iconst 1, 1), (180, .iadd, 1), (181, .iaload, 1), (182, .ifCond .le 66, 3), (185, .iconst 0, 1), (186, .istore 5, 2), (188, .iload 5, 2), (190, .sipush 2880, 3)]
def tX9_look_r6 : List am_I := [(193, .if_icmp .ge 55, 3), (196, .aload_n 0, 1), (197, .getfield 123, 3), (200, .iload 5, 2), (202, .iaload, 1), (203, .bipush 7, 2), (205, .if_icmp .ne 37, 3), (208, .iload 5, 2), (210, .aload_n 0, 1), (211, .getfield 42, 3), (214, .iload_n 3, 1), (215, .iconst 1, 1), (216, .iadd, 1), (217, .iaload, 1), (218, .if_icmp .lt 16, 3), (221, .iload 5, 2), (223, .aload_n 0, 1)]
def tX9_look_r7 : List am_I := [(224, .getfield 45, 3), (227, .iload_n 3, 1), (228, .iconst 1, 1), (229, .iadd, 1), (230, .iaload, 1), (231, .if_icmp .lt 11, 3), (234, .aload_n 0, 1), (235, .getfield 123, 3), (238, .iload 5, 2), (240, .iconst 3, 1), (241, .iastore, 1), (242, .iinc 5 1, 3), (245, .goto (-57), 3), (248, .aload_n 0, 1), (249, .getfield 126, 3), (252, .iconst 2, 1), (253, .iload 4, 2), (255, .ifCond .eq 10, 3)]
def tX9_look_r8 : List am_I := [(258, .aload_n 0, 1), (259, .invokevirtual 174, 3), (262, .goto 4, 3), (265, .iconst 0, 1), (266, .iastore, 1), (267, .aload_n 0, 1), (268, .getfield 45, 3), (271, .iload_n 3, 1), (272, .iconst 2, 1), (273, .iadd, 1), (274, .iaload, 1), (275, .ifCond .le 51, 3), (278, .aload_n 0, 1), (279, .getfield 126, 3), (282, .iconst 2, 1), (283, .iaload, 1), (284, .aload_n 0, 1), (285, .getfield 42, 3)]
def tX9_look_r9 : List am_I := [(288, .iload_n 3, 1), (289, .iconst 2, 1), (290, .iadd, 1), (291, .iaload, 1), (292, .if_icmp .le 34, 3), (295, .aload_n 0, 1), (296, .getfield 163, 3), (299, .aload_n 0, 1), (300, .getfield 45, 3), (303, .iload_n 3, 1), (304, .iconst 2, 1), (305, .iadd, 1), (306, .iaload, 1), (307, .if_icmp .ge 19, 3), (310, .aload_n 0, 1), (311, .getfield 45, 3), (314, .iload_n 3, 1), (315, .iconst 2, 1), (316, .iadd, 1), (317, .iaload, 1), (318, .aload_n 0, 1), (319, .getfield 163, 3)]
def tX9_look_r10 : List am_I := [(322, .isub, 1), (323, .goto 4, 3), (326, .iconst 0, 1), (327, .istore 5, 2), (329, .sipush 2879, 3), (332, .istore 6, 2), (334, .iload 6, 2), (336, .ifCond .lt 40, 3), (339, .iload 5, 2), (341, .ifCond .le 35, 3), (344, .aload_n 0, 1), (345, .getfield 123, 3), (348, .iload 6, 2), (350, .iaload, 1), (351, .bipush 7, 2)]
def tX9_look_r11 : List am_I := [(353, .if_icmp .eq 6, 3), (356, .goto 14, 3), (359, .aload_n 0, 1), (360, .getfield 123, 3), (363, .iload 6, 2), (365, .iconst 4, 1), (366, .iastore, 1), (367, .iinc 5 (-1), 3), (370, .iinc 6 (-1), 3), (373, .goto (-39), 3), (376, .aload_n 0, 1), (377, .getfield 126, 3), (380, .iconst 3, 1), (381, .iload 4, 2), (383, .ifCond .eq 10, 3)]
def tX9_look_r12 : List am_I := [(386, .aload_n 0, 1), (387, .invokevirtual 174, 3), (390, .goto 4, 3), (393, .iconst 0, 1), (394, .iastore, 1), (395, .aload_n 0, 1), (396, .getfield 42, 3), (399, .iload_n 3, 1), (400, .iconst 3, 1), (401, .iadd, 1), (402, .iaload, 1), (403, .ifCond .le 16, 3), (406, .aload_n 0, 1), (407, .aload_n 0, 1), (408, .getfield 42, 3), (411, .iload_n 3, 1), (412, .iconst 3, 1), (413, .iadd, 1), (414, .iaload, 1), (415, .iconst 5, 1)]
def tX9_look_r13 : List am_I := [(416, .invokevirtual 178, 3), (419, .aload_n 0, 1), (420, .getfield 126, 3), (423, .iconst 4, 1), (424, .iload 4, 2), (426, .ifCond .eq 10, 3), (429, .aload_n 0, 1), (430, .invokevirtual 174, 3), (433, .goto 4, 3), (436, .iconst 0, 1), (437, .iastore, 1), (438, .aload_n 0, 1), (439, .getfield 42, 3), (442, .iload_n 3, 1), (443, .iconst 4, 1), (444, .iadd, 1), (445, .iaload, 1), (446, .ifCond .le 17, 3)]
def tX9_look_r14 : List am_I := [(449, .aload_n 0, 1), (450, .aload_n 0, 1), (451, .getfield 42, 3), (454, .iload_n 3, 1), (455, .iconst 4, 1), (456, .iadd, 1), (457, .iaload, 1), (458, .bipush 6, 2), (460, .invokevirtual 178, 3), (463, .return_, 1)]
def tX9_look : am_T := (9, yX9_look, cX9_look, 7, none, 2, false, [tX9_look_r0, tX9_look_r1, tX9_look_r2, tX9_look_r3, tX9_look_r4, tX9_look_r5, tX9_look_r6, tX9_look_r7, tX9_look_r8, tX9_look_r9, tX9_look_r10, tX9_look_r11, tX9_look_r12, tX9_look_r13, tX9_look_r14])
def tX9_fill : am_T := (9, yX9_fill, cX9_fill, 5, none, 3, false, [[(0, .iload_n 1, 1), (1, .istore 4, 2), (3, .iload 4, 2), (5, .iload_n 2, 1), (6, .if_icmp .ge 17, 3), (9, .aload_n 0, 1), (10, .getfield 123, 3), (13, .iload 4, 2), (15, .iload_n 3, 1), (16, .iastore, 1), (17, .iinc 4 1, 3), (20, .goto (-17), 3), (23, .return_, 1)]])
def tX9_kindOf : am_T := (9, yX9_kindOf, cX9_kindOf, 3, (some .int), 2, false, [[(0, .aload_n 0, 1), (1, .getfield 18, 3), (4, .bipush 8, 2), (6, .iload_n 1, 1), (7, .imul, 1), (8, .aload_n 0, 1), (9, .getfield 22, 3), (12, .iload_n 2, 1), (13, .baload, 1), (14, .ifCond .eq 8, 3), (17, .bipush 7, 2), (19, .goto 7, 3), (22, .iload_n 2, 1), (23, .bipush 7, 2), (25, .irem, 1), (26, .iadd, 1), (27, .iaload, 1), (28, .ireturn, 1)]])
def tX9_lay_r0 : List am_I := [(0, .sipush 1440, 3), (3, .iload_n 3, 1), (4, .imul, 1), (5, .istore 5, 2), (7, .iconst 0, 1), (8, .istore 6, 2), (10, .iconst 0, 1), (11, .istore 7, 2), (13, .aload_n 0, 1), (14, .getfield 108, 3), (17, .iload_n 2, 1), (18, .iaload, 1), (19, .iload 5, 2), (21, .isub, 1), (22, .istore 8, 2), (24, .iload 8, 2), (26, .iload 4, 2), (28, .iadd, 1), (29, .iconst 1, 1), (30, .isub, 1), (31, .iload 4, 2)]
def tX9_lay_r1 : List am_I := [(33, .idiv, 1), (34, .iload 4, 2), (36, .imul, 1), (37, .istore 9, 2), (39, .aload_n 0, 1), (40, .getfield 111, 3), (43, .iload_n 2, 1), (44, .iaload, 1), (45, .iload 5, 2), (47, .isub, 1), (48, .iload 4, 2), (50, .idiv, 1), (51, .iload 4, 2), (53, .imul, 1), (54, .istore 10, 2), (56, .aload_n 0, 1), (57, .getfield 114, 3), (60, .iload_n 2, 1), (61, .iaload, 1), (62, .istore 11, 2)]
def tX9_lay_r2 : List am_I := [(64, .iload 11, 2), (66, .aload_n 0, 1), (67, .getfield 117, 3), (70, .iload_n 2, 1), (71, .iaload, 1), (72, .if_icmp .gt 153, 3), (75, .aload_n 0, 1), (76, .getfield 105, 3), (79, .iload 11, 2), (81, .iaload, 1), (82, .ifCond .ne 6, 3), (85, .goto 134, 3), (88, .aload_n 0, 1), (89, .getfield 99, 3), (92, .sipush 400, 3), (95, .iload_n 1, 1)]
def tX9_lay_r3 : List am_I := [(96, .imul, 1), (97, .iload 11, 2), (99, .iadd, 1), (100, .iaload, 1), (101, .iload 5, 2), (103, .isub, 1), (104, .istore 12, 2), (106, .iload 7, 2), (108, .ifCond .eq 50, 3), (111, .iload 6, 2), (113, .istore 13, 2), (115, .iload 13, 2), (117, .iload 12, 2), (119, .if_icmp .ge 36, 3), (122, .aload_n 0, 1), (123, .getfield 123, 3), (126, .iload 13, 2)]
def tX9_lay_r4 : List am_I := [(128, .iload 13, 2), (130, .iload 9, 2), (132, .if_icmp .lt 10, 3), (135, .iload 13, 2), (137, .iload 10, 2), (139, .if_icmp .lt 7, 3), (142, .iconst 2, 1), (143, .goto 5, 3), (146, .bipush 7, 2), (148, .iastore, 1), (149, .iinc 13 1, 3), (152, .goto (-37), 3), (155, .goto 48, 3), (158, .iload 11, 2)]
def tX9_lay_r5 : List am_I := [(160, .aload_n 0, 1), (161, .getfield 114, 3), (164, .iload_n 2, 1), (165, .iaload, 1), (166, .if_icmp .le 37, 3), (169, .aload_n 0, 1), (170, .getfield 105, 3), (173, .iload 11, 2), (175, .iaload, 1), (176, .iconst 3, 1), (177, .if_icmp .eq 26, 3), (180, .aload_n 0, 1), (181, .iload 6, 2), (183, .iload 12, 2), (185, .iconst 1, 1), (186, .invokevirtual 159, 3), (189, .aload_n 0, 1), (190, .dup, 1), (191, .getfield 163, 3)]
def tX9_lay_r6 : List am_I := [(194, .iload 12, 2), (196, .iload 6, 2), (198, .isub, 1), (199, .iadd, 1), (200, .putfield 163, 3), (203, .iload 7, 2), (205, .ifCond .ne 7, 3), (208, .iconst 1, 1), (209, .goto 4, 3), (212, .iconst 0, 1), (213, .istore 7, 2), (215, .iload 12, 2), (217, .istore 6, 2), (219, .iinc 11 1, 3), (222, .goto (-158), 3)]
def tX9_lay_r7 : List am_I := [(225, .return_, 1)]
def tX9_lay : am_T := (9, yX9_lay, cX9_lay, 14, none, 4, false, [tX9_lay_r0, tX9_lay_r1, tX9_lay_r2, tX9_lay_r3, tX9_lay_r4, tX9_lay_r5, tX9_lay_r6, tX9_lay_r7])
def tX9_there : am_T := (9, yX9_there, cX9_there, 3, (some .int), 0, false, [[(0, .iconst 0, 1), (1, .istore_n 1, 1), (2, .iconst 0, 1), (3, .istore_n 2, 1), (4, .iload_n 2, 1), (5, .sipush 2880, 3), (8, .if_icmp .ge 28, 3), (11, .iload_n 1, 1), (12, .aload_n 0, 1), (13, .getfield 123, 3), (16, .iload_n 2, 1), (17, .iaload, 1), (18, .bipush 7, 2), (20, .if_icmp .ne 7, 3), (23, .iconst 1, 1), (24, .goto 4, 3), (27, .iconst 0, 1), (28, .iadd, 1), (29, .istore_n 1, 1), (30, .iinc 2 1, 3)],
  [(33, .goto (-29), 3), (36, .iload_n 1, 1), (37, .ireturn, 1)]])
def tX9_behind : am_T := (9, yX9_behind, cX9_behind, 5, none, 2, false, [[(0, .iconst 0, 1), (1, .istore_n 3, 1), (2, .iconst 0, 1), (3, .istore 4, 2), (5, .iload 4, 2), (7, .sipush 2880, 3), (10, .if_icmp .ge 40, 3), (13, .aload_n 0, 1), (14, .getfield 123, 3), (17, .iload 4, 2), (19, .iaload, 1), (20, .bipush 7, 2), (22, .if_icmp .eq 6, 3), (25, .goto 19, 3), (28, .iinc 3 1, 3), (31, .iload_n 3, 1)],
  [(32, .iload_n 1, 1), (33, .if_icmp .le 11, 3), (36, .aload_n 0, 1), (37, .getfield 123, 3), (40, .iload 4, 2), (42, .iload_n 2, 1), (43, .iastore, 1), (44, .iinc 4 1, 3), (47, .goto (-42), 3), (50, .return_, 1)]])
def tX9_paid : am_T := (9, yX9_paid, cX9_paid, 3, (some .int), 0, false, [[(0, .iconst 0, 1), (1, .istore_n 1, 1), (2, .iconst 0, 1), (3, .istore_n 2, 1), (4, .iload_n 2, 1), (5, .sipush 2880, 3), (8, .if_icmp .ge 28, 3), (11, .iload_n 1, 1), (12, .aload_n 0, 1), (13, .getfield 123, 3), (16, .iload_n 2, 1), (17, .iaload, 1), (18, .bipush 6, 2), (20, .if_icmp .lt 7, 3), (23, .iconst 1, 1), (24, .goto 4, 3), (27, .iconst 0, 1), (28, .iadd, 1), (29, .istore_n 1, 1), (30, .iinc 2 1, 3)],
  [(33, .goto (-29), 3), (36, .iload_n 1, 1), (37, .ireturn, 1)]])
def tX9_pay_r0 : List am_I := [(0, .aload_n 0, 1), (1, .aload_n 0, 1), (2, .getfield 81, 3), (5, .iload_n 1, 1), (6, .iaload, 1), (7, .iload_n 2, 1), (8, .invokevirtual 166, 3), (11, .istore_n 3, 1), (12, .lconst 0, 1), (13, .lstore 4, 2), (15, .iconst 0, 1), (16, .istore 6, 2), (18, .iload 6, 2), (20, .sipush 2880, 3), (23, .if_icmp .ge 110, 3), (26, .aload_n 0, 1), (27, .getfield 123, 3), (30, .iload 6, 2)]
def tX9_pay_r1 : List am_I := [(32, .iaload, 1), (33, .bipush 6, 2), (35, .if_icmp .ge 6, 3), (38, .goto 89, 3), (41, .sipush 10000, 3), (44, .aload_n 0, 1), (45, .getfield 123, 3), (48, .iload 6, 2), (50, .iaload, 1), (51, .bipush 6, 2), (53, .if_icmp .ne 16, 3), (56, .aload_n 0, 1), (57, .getfield 45, 3), (60, .iconst 5, 1), (61, .iload_n 3, 1), (62, .imul, 1), (63, .iconst 4, 1)]
def tX9_pay_r2 : List am_I := [(64, .iadd, 1), (65, .iaload, 1), (66, .goto 4, 3), (69, .iconst 0, 1), (70, .iadd, 1), (71, .istore 7, 2), (73, .iconst 0, 1), (74, .istore 8, 2), (76, .iload 8, 2), (78, .aload_n 0, 1), (79, .getfield 149, 3), (82, .if_icmp .ge 37, 3), (85, .iload 7, 2), (87, .aload_n 0, 1), (88, .iload 8, 2), (90, .iload_n 3, 1), (91, .iload 6, 2), (93, .invokevirtual 185, 3)]
def tX9_pay_r3 : List am_I := [(96, .ifCond .eq 13, 3), (99, .aload_n 0, 1), (100, .getfield 66, 3), (103, .iload 8, 2), (105, .iaload, 1), (106, .goto 4, 3), (109, .iconst 0, 1), (110, .iadd, 1), (111, .istore 7, 2), (113, .iinc 8 1, 3), (116, .goto (-40), 3), (119, .lload 4, 2), (121, .iload 7, 2), (123, .i2l, 1), (124, .ladd, 1), (125, .lstore 4, 2), (127, .iinc 6 1, 3)]
def tX9_pay_r4 : List am_I := [(130, .goto (-112), 3), (133, .lload 4, 2), (135, .aload_n 0, 1), (136, .aload_n 0, 1), (137, .getfield 81, 3), (140, .iload_n 1, 1), (141, .iaload, 1), (142, .iload_n 2, 1), (143, .invokevirtual 188, 3), (146, .i2l, 1), (147, .lmul, 1), (148, .lstore 4, 2), (150, .lload 4, 2), (152, .ldc2_w 191, 3), (155, .ldiv, 1), (156, .lstore 6, 2), (158, .lload 4, 2)]
def tX9_pay_r5 : List am_I := [(160, .ldc2_w 191, 3), (163, .lrem, 1), (164, .lstore 8, 2), (166, .lload 8, 2), (168, .ldc2_w 193, 3), (171, .lcmp, 1), (172, .ifCond .gt 23, 3), (175, .lload 8, 2), (177, .ldc2_w 193, 3), (180, .lcmp, 1), (181, .ifCond .ne 21, 3), (184, .lload 6, 2), (186, .ldc2_w 195, 3), (189, .lrem, 1), (190, .lconst 1, 1), (191, .lcmp, 1)]
def tX9_pay_r6 : List am_I := [(192, .ifCond .ne 10, 3), (195, .lload 6, 2), (197, .lconst 1, 1), (198, .ladd, 1), (199, .goto 5, 3), (202, .lload 6, 2), (204, .lreturn, 1)]
def tX9_pay : am_T := (9, yX9_pay, cX9_pay, 10, (some .long), 2, false, [tX9_pay_r0, tX9_pay_r1, tX9_pay_r2, tX9_pay_r3, tX9_pay_r4, tX9_pay_r5, tX9_pay_r6])
def tX9_countsAt : am_T := (9, yX9_countsAt, cX9_countsAt, 5, (some .boolean), 3, false, [[(0, .aload_n 0, 1), (1, .iload_n 1, 1), (2, .iload_n 2, 1), (3, .iload_n 3, 1), (4, .invokevirtual 182, 3), (7, .ifCond .ne 5, 3), (10, .iconst 0, 1), (11, .ireturn, 1), (12, .iconst 0, 1), (13, .istore 4, 2), (15, .iload 4, 2), (17, .aload_n 0, 1), (18, .getfield 149, 3), (21, .if_icmp .ge 78, 3), (24, .aload_n 0, 1), (25, .getfield 69, 3), (28, .bipush 12, 2), (30, .iload_n 1, 1), (31, .imul, 1)],
  [(32, .iload 4, 2), (34, .iadd, 1), (35, .baload, 1), (36, .ifCond .eq 57, 3), (39, .aload_n 0, 1), (40, .iload 4, 2), (42, .iload_n 2, 1), (43, .iload_n 3, 1), (44, .invokevirtual 182, 3), (47, .ifCond .ne 6, 3), (50, .goto 43, 3), (53, .aload_n 0, 1), (54, .getfield 66, 3), (57, .iload 4, 2), (59, .iaload, 1), (60, .aload_n 0, 1), (61, .getfield 66, 3)],
  [(64, .iload_n 1, 1), (65, .iaload, 1), (66, .if_icmp .gt 25, 3), (69, .aload_n 0, 1), (70, .getfield 66, 3), (73, .iload 4, 2), (75, .iaload, 1), (76, .aload_n 0, 1), (77, .getfield 66, 3), (80, .iload_n 1, 1), (81, .iaload, 1), (82, .if_icmp .ne 11, 3), (85, .iload 4, 2), (87, .iload_n 1, 1), (88, .if_icmp .ge 5, 3), (91, .iconst 0, 1), (92, .ireturn, 1), (93, .iinc 4 1, 3)],
  [(96, .goto (-81), 3), (99, .iconst 1, 1), (100, .ireturn, 1)]])
def tX9_meets : am_T := (9, yX9_meets, cX9_meets, 5, (some .boolean), 3, false, [[(0, .aload_n 0, 1), (1, .getfield 57, 3), (4, .iload_n 1, 1), (5, .iaload, 1), (6, .iload_n 2, 1), (7, .ishr, 1), (8, .iconst 1, 1), (9, .iand, 1), (10, .ifCond .ne 5, 3), (13, .iconst 0, 1), (14, .ireturn, 1), (15, .iload_n 3, 1), (16, .sipush 1440, 3), (19, .irem, 1), (20, .istore 4, 2), (22, .aload_n 0, 1), (23, .getfield 60, 3), (26, .iload_n 1, 1), (27, .iaload, 1), (28, .aload_n 0, 1), (29, .getfield 63, 3)],
  [(32, .iload_n 1, 1), (33, .iaload, 1), (34, .if_icmp .ge 31, 3), (37, .iload 4, 2), (39, .aload_n 0, 1), (40, .getfield 60, 3), (43, .iload_n 1, 1), (44, .iaload, 1), (45, .if_icmp .lt 18, 3), (48, .iload 4, 2), (50, .aload_n 0, 1), (51, .getfield 63, 3), (54, .iload_n 1, 1), (55, .iaload, 1), (56, .if_icmp .ge 7, 3), (59, .iconst 1, 1), (60, .goto 4, 3), (63, .iconst 0, 1)],
  [(64, .ireturn, 1), (65, .aload_n 0, 1), (66, .getfield 60, 3), (69, .iload_n 1, 1), (70, .iaload, 1), (71, .aload_n 0, 1), (72, .getfield 63, 3), (75, .iload_n 1, 1), (76, .iaload, 1), (77, .if_icmp .eq 25, 3), (80, .iload 4, 2), (82, .aload_n 0, 1), (83, .getfield 60, 3), (86, .iload_n 1, 1), (87, .iaload, 1), (88, .if_icmp .ge 14, 3), (91, .iload 4, 2), (93, .aload_n 0, 1), (94, .getfield 63, 3)],
  [(97, .iload_n 1, 1), (98, .iaload, 1), (99, .if_icmp .ge 7, 3), (102, .iconst 1, 1), (103, .goto 4, 3), (106, .iconst 0, 1), (107, .ireturn, 1)]])
def tX9_rateOf : am_T := (9, yX9_rateOf, cX9_rateOf, 5, (some .int), 2, false, [[(0, .iconst (-1), 1), (1, .istore_n 3, 1), (2, .iconst 0, 1), (3, .istore 4, 2), (5, .iload 4, 2), (7, .aload_n 0, 1), (8, .getfield 146, 3), (11, .if_icmp .ge 58, 3), (14, .aload_n 0, 1), (15, .getfield 48, 3), (18, .iload 4, 2), (20, .iaload, 1), (21, .iload_n 1, 1), (22, .if_icmp .ne 41, 3), (25, .aload_n 0, 1), (26, .getfield 51, 3), (29, .iload 4, 2), (31, .iaload, 1)],
  [(32, .iload_n 2, 1), (33, .if_icmp .le 6, 3), (36, .goto 27, 3), (39, .iload_n 3, 1), (40, .iconst (-1), 1), (41, .if_icmp .eq 19, 3), (44, .aload_n 0, 1), (45, .getfield 51, 3), (48, .iload 4, 2), (50, .iaload, 1), (51, .aload_n 0, 1), (52, .getfield 51, 3), (55, .iload_n 3, 1), (56, .iaload, 1), (57, .if_icmp .lt 6, 3), (60, .iload 4, 2), (62, .istore_n 3, 1), (63, .iinc 4 1, 3)],
  [(66, .goto (-61), 3), (69, .iload_n 3, 1), (70, .iconst (-1), 1), (71, .if_icmp .ne 7, 3), (74, .iconst 0, 1), (75, .goto 9, 3), (78, .aload_n 0, 1), (79, .getfield 54, 3), (82, .iload_n 3, 1), (83, .iaload, 1), (84, .ireturn, 1)]])
def tX8_late : am_T := (8, yX8_late, cX8_late, 5, (some .int), 4, false, [[(0, .aload_n 0, 1), (1, .iload_n 1, 1), (2, .iload_n 2, 1), (3, .iload_n 3, 1), (4, .iload 4, 2), (6, .iconst 1, 1), (7, .invokevirtual 151, 3), (10, .ireturn, 1)]])
def tX9_late : am_T := (9, yX9_late, cX9_late, 5, (some .int), 4, false, [[(0, .aload_n 0, 1), (1, .iload_n 1, 1), (2, .iload_n 2, 1), (3, .iload_n 3, 1), (4, .iload 4, 2), (6, .iconst 1, 1), (7, .invokevirtual 255, 3), (10, .ireturn, 1)]])
def tX8_unmark : am_T := (8, yX8_unmark, cX8_unmark, 6, (some .int), 3, false, [[(0, .aload_n 0, 1), (1, .iload_n 1, 1), (2, .invokevirtual 140, 3), (5, .astore 4, 2), (7, .aload 4, 2), (9, .ifnull 10, 3), (12, .iload_n 2, 1), (13, .invokestatic 67, 3), (16, .ifCond .ne 5, 3), (19, .iconst (-1), 1), (20, .ireturn, 1), (21, .iload_n 3, 1), (22, .invokestatic 116, 3), (25, .ifCond .ne 6, 3), (28, .bipush (-2), 2), (30, .ireturn, 1), (31, .iload_n 2, 1)],
  [(32, .iload_n 3, 1), (33, .invokestatic 155, 3), (36, .istore 5, 2), (38, .aload 4, 2), (40, .getfield 159, 3), (43, .iload 5, 2), (45, .invokevirtual 163, 3), (48, .ifCond .ne 6, 3), (51, .bipush (-2), 2), (53, .ireturn, 1), (54, .aload_n 0, 1), (55, .iload_n 2, 1), (56, .invokevirtual 168, 3), (59, .ifCond .eq 6, 3), (62, .bipush (-3), 2)],
  [(64, .ireturn, 1), (65, .aload_n 0, 1), (66, .aload 4, 2), (68, .iconst (-1), 1), (69, .invokevirtual 171, 3), (72, .aload 4, 2), (74, .getfield 159, 3), (77, .iload 5, 2), (79, .invokevirtual 175, 3), (82, .aload_n 0, 1), (83, .dup, 1), (84, .getfield 178, 3), (87, .iconst 1, 1), (88, .isub, 1), (89, .putfield 178, 3), (92, .aload_n 0, 1), (93, .aload 4, 2), (95, .iconst 1, 1)],
  [(96, .invokevirtual 171, 3), (99, .aload 4, 2), (101, .getfield 159, 3), (104, .getfield 181, 3), (107, .ireturn, 1)]])
def tX1_remove : am_T := (1, yX1_remove, cX1_remove, 3, none, 1, false, [[(0, .aload_n 0, 1), (1, .iload_n 1, 1), (2, .invokevirtual 38, 3), (5, .ifCond .eq 69, 3), (8, .aload_n 0, 1), (9, .iload_n 1, 1), (10, .invokevirtual 25, 3), (13, .istore_n 2, 1), (14, .aload_n 0, 1), (15, .getfield 9, 3), (18, .iload_n 2, 1), (19, .iconst 1, 1), (20, .iadd, 1), (21, .aload_n 0, 1), (22, .getfield 9, 3), (25, .iload_n 2, 1), (26, .aload_n 0, 1), (27, .getfield 21, 3), (30, .iload_n 2, 1), (31, .isub, 1)],
  [(32, .iconst 1, 1), (33, .isub, 1), (34, .invokestatic 29, 3), (37, .aload_n 0, 1), (38, .getfield 15, 3), (41, .iload_n 2, 1), (42, .iconst 1, 1), (43, .iadd, 1), (44, .aload_n 0, 1), (45, .getfield 15, 3), (48, .iload_n 2, 1), (49, .aload_n 0, 1), (50, .getfield 21, 3), (53, .iload_n 2, 1), (54, .isub, 1), (55, .iconst 1, 1), (56, .isub, 1), (57, .invokestatic 29, 3), (60, .aload_n 0, 1), (61, .dup, 1), (62, .getfield 21, 3)],
  [(65, .iconst 1, 1), (66, .isub, 1), (67, .putfield 21, 3), (70, .aload_n 0, 1), (71, .invokevirtual 35, 3), (74, .return_, 1)]])
def tX9_unmark_r0 : List am_I := [(0, .aload_n 0, 1), (1, .iload_n 1, 1), (2, .invokevirtual 153, 3), (5, .ifCond .eq 10, 3), (8, .iload_n 2, 1), (9, .invokestatic 26, 3), (12, .ifCond .ne 5, 3), (15, .iconst (-1), 1), (16, .ireturn, 1), (17, .sipush 1440, 3), (20, .iload_n 2, 1), (21, .imul, 1), (22, .iload_n 3, 1), (23, .iadd, 1), (24, .istore 4, 2), (26, .aload_n 0, 1), (27, .iload_n 1, 1), (28, .iload 4, 2), (30, .invokevirtual 237, 3)]
def tX9_unmark_r1 : List am_I := [(33, .istore 5, 2), (35, .iload_n 3, 1), (36, .iconst 0, 1), (37, .sipush 1439, 3), (40, .invokestatic 11, 3), (43, .ifCond .eq 15, 3), (46, .aload_n 0, 1), (47, .iload_n 1, 1), (48, .iload 5, 2), (50, .iload 4, 2), (52, .invokevirtual 240, 3), (55, .ifCond .ne 6, 3), (58, .bipush (-2), 2), (60, .ireturn, 1), (61, .iload_n 2, 1), (62, .invokestatic 243, 3)]
def tX9_unmark_r2 : List am_I := [(65, .aload_n 0, 1), (66, .getfield 214, 3), (69, .if_icmp .ge 6, 3), (72, .bipush (-3), 2), (74, .ireturn, 1), (75, .aload_n 0, 1), (76, .iload_n 1, 1), (77, .ldc2_w 249, 3), (80, .invokevirtual 251, 3), (83, .aload_n 0, 1), (84, .getfield 96, 3), (87, .iload_n 1, 1), (88, .dup2, 1), (89, .iaload, 1), (90, .iconst 1, 1), (91, .isub, 1), (92, .iastore, 1), (93, .aload_n 0, 1), (94, .dup, 1), (95, .getfield 246, 3)]
def tX9_unmark_r3 : List am_I := [(98, .iconst 1, 1), (99, .isub, 1), (100, .putfield 246, 3), (103, .iload 5, 2), (105, .istore 6, 2), (107, .iload 6, 2), (109, .aload_n 0, 1), (110, .getfield 96, 3), (113, .iload_n 1, 1), (114, .iaload, 1), (115, .if_icmp .ge 65, 3), (118, .aload_n 0, 1), (119, .getfield 99, 3), (122, .sipush 400, 3), (125, .iload_n 1, 1), (126, .imul, 1), (127, .iload 6, 2)]
def tX9_unmark_r4 : List am_I := [(129, .iadd, 1), (130, .aload_n 0, 1), (131, .getfield 99, 3), (134, .sipush 400, 3), (137, .iload_n 1, 1), (138, .imul, 1), (139, .iload 6, 2), (141, .iadd, 1), (142, .iconst 1, 1), (143, .iadd, 1), (144, .iaload, 1), (145, .iastore, 1), (146, .aload_n 0, 1), (147, .getfield 102, 3), (150, .sipush 400, 3), (153, .iload_n 1, 1), (154, .imul, 1), (155, .iload 6, 2), (157, .iadd, 1), (158, .aload_n 0, 1), (159, .getfield 102, 3)]
def tX9_unmark_r5 : List am_I := [(162, .sipush 400, 3), (165, .iload_n 1, 1), (166, .imul, 1), (167, .iload 6, 2), (169, .iadd, 1), (170, .iconst 1, 1), (171, .iadd, 1), (172, .iaload, 1), (173, .iastore, 1), (174, .iinc 6 1, 3), (177, .goto (-70), 3), (180, .aload_n 0, 1), (181, .iload_n 1, 1), (182, .lconst 1, 1), (183, .invokevirtual 251, 3), (186, .aload_n 0, 1), (187, .getfield 96, 3), (190, .iload_n 1, 1), (191, .iaload, 1)]
def tX9_unmark_r6 : List am_I := [(192, .ireturn, 1)]
def tX9_unmark : am_T := (9, yX9_unmark, cX9_unmark, 7, (some .int), 3, false, [tX9_unmark_r0, tX9_unmark_r1, tX9_unmark_r2, tX9_unmark_r3, tX9_unmark_r4, tX9_unmark_r5, tX9_unmark_r6])
def tX8_marked : am_T := (8, yX8_marked, cX8_marked, 5, (some .int), 3, false, [[(0, .aload_n 0, 1), (1, .iload_n 1, 1), (2, .invokevirtual 140, 3), (5, .astore 4, 2), (7, .aload 4, 2), (9, .ifnull 19, 3), (12, .iload_n 2, 1), (13, .ifCond .lt 15, 3), (16, .iload_n 2, 1), (17, .aload 4, 2), (19, .getfield 159, 3), (22, .getfield 181, 3), (25, .if_icmp .lt 5, 3), (28, .iconst (-1), 1), (29, .ireturn, 1), (30, .iload_n 3, 1), (31, .tableswitch 58 0 2 #[25, 36, 47], 25)],
  [(56, .aload 4, 2), (58, .getfield 159, 3), (61, .getfield 182, 3)],
  [(64, .iload_n 2, 1), (65, .iaload, 1), (66, .ireturn, 1), (67, .aload 4, 2), (69, .getfield 159, 3), (72, .getfield 185, 3), (75, .iload_n 2, 1), (76, .iaload, 1), (77, .ireturn, 1), (78, .aload 4, 2), (80, .getfield 159, 3), (83, .getfield 188, 3), (86, .iload_n 2, 1), (87, .iaload, 1), (88, .ireturn, 1), (89, .iconst (-1), 1), (90, .ireturn, 1)]])
def tX9_marked : am_T := (9, yX9_marked, cX9_marked, 4, (some .int), 3, false, [[(0, .aload_n 0, 1), (1, .iload_n 1, 1), (2, .invokevirtual 153, 3), (5, .ifCond .eq 19, 3), (8, .iload_n 2, 1), (9, .iconst 0, 1), (10, .aload_n 0, 1), (11, .getfield 96, 3), (14, .iload_n 1, 1), (15, .iaload, 1), (16, .iconst 1, 1), (17, .isub, 1), (18, .invokestatic 11, 3), (21, .ifCond .ne 5, 3), (24, .iconst (-1), 1), (25, .ireturn, 1), (26, .iload_n 3, 1), (27, .tableswitch 63 0 2 #[25, 38, 51], 25)],
  [(52, .aload_n 0, 1), (53, .getfield 99, 3), (56, .sipush 400, 3), (59, .iload_n 1, 1), (60, .imul, 1), (61, .iload_n 2, 1), (62, .iadd, 1), (63, .iaload, 1)],
  [(64, .ireturn, 1), (65, .aload_n 0, 1), (66, .getfield 102, 3), (69, .sipush 400, 3), (72, .iload_n 1, 1), (73, .imul, 1), (74, .iload_n 2, 1), (75, .iadd, 1), (76, .iaload, 1), (77, .ireturn, 1), (78, .aload_n 0, 1), (79, .iload_n 1, 1), (80, .invokevirtual 229, 3), (83, .aload_n 0, 1), (84, .getfield 105, 3), (87, .iload_n 2, 1), (88, .iaload, 1), (89, .ireturn, 1), (90, .iconst (-1), 1), (91, .ireturn, 1)]])
def tX8_day : am_T := (8, yX8_day, cX8_day, 5, (some .int), 3, false, [[(0, .aload_n 0, 1), (1, .iload_n 1, 1), (2, .invokevirtual 63, 3), (5, .astore 4, 2), (7, .aload 4, 2), (9, .ifnull 10, 3), (12, .iload_n 2, 1), (13, .invokestatic 67, 3), (16, .ifCond .ne 5, 3), (19, .iconst (-1), 1), (20, .ireturn, 1), (21, .iload_n 3, 1), (22, .tableswitch 54 0 2 #[26, 31, 46], 26)],
  [(48, .iload_n 2, 1), (49, .invokestatic 191, 3), (52, .ireturn, 1), (53, .aload_n 0, 1), (54, .getfield 9, 3), (57, .iload_n 2, 1), (58, .baload, 1), (59, .ifCond .eq 7, 3), (62, .iconst 1, 1), (63, .goto 4, 3)],
  [(66, .iconst 0, 1), (67, .ireturn, 1), (68, .aload_n 0, 1), (69, .aload 4, 2), (71, .iload_n 2, 1), (72, .invokevirtual 195, 3), (75, .ireturn, 1), (76, .iconst (-1), 1), (77, .ireturn, 1)]])
def tX9_day : am_T := (9, yX9_day, cX9_day, 4, (some .int), 3, false, [[(0, .iload_n 1, 1), (1, .invokestatic 33, 3), (4, .ifCond .eq 10, 3), (7, .iload_n 2, 1), (8, .invokestatic 26, 3), (11, .ifCond .ne 5, 3), (14, .iconst (-1), 1), (15, .ireturn, 1), (16, .iload_n 3, 1), (17, .tableswitch 54 0 2 #[27, 32, 47], 27)],
  [(44, .iload_n 2, 1), (45, .invokestatic 243, 3), (48, .ireturn, 1), (49, .aload_n 0, 1), (50, .getfield 22, 3), (53, .iload_n 2, 1), (54, .baload, 1), (55, .ifCond .eq 7, 3), (58, .iconst 1, 1), (59, .goto 4, 3), (62, .iconst 0, 1), (63, .ireturn, 1)],
  [(64, .aload_n 0, 1), (65, .iload_n 1, 1), (66, .iload_n 2, 1), (67, .invokevirtual 166, 3), (70, .ireturn, 1), (71, .iconst (-1), 1), (72, .ireturn, 1)]])
def tX8_shifts : am_T := (8, yX8_shifts, cX8_shifts, 5, (some .int), 3, false, [[(0, .aload_n 0, 1), (1, .iload_n 1, 1), (2, .invokevirtual 140, 3), (5, .astore 4, 2), (7, .aload 4, 2), (9, .ifnull 19, 3), (12, .iload_n 2, 1), (13, .invokestatic 67, 3), (16, .ifCond .eq 12, 3), (19, .iload_n 3, 1), (20, .iconst 0, 1), (21, .iconst 1, 1), (22, .invokestatic 81, 3), (25, .ifCond .ne 5, 3), (28, .iconst (-1), 1), (29, .ireturn, 1), (30, .aload 4, 2)],
  [(32, .getfield 159, 3), (35, .iload_n 3, 1), (36, .ifCond .ne 7, 3), (39, .iconst 1, 1), (40, .goto 4, 3), (43, .iconst 2, 1), (44, .iload_n 2, 1), (45, .iload_n 2, 1), (46, .iconst 1, 1), (47, .iadd, 1), (48, .invokevirtual 199, 3), (51, .ireturn, 1)]])
def tX1_amountOf : am_T := (1, yX1_amountOf, cX1_amountOf, 6, (some .int), 3, false, [[(0, .iconst 0, 1), (1, .istore 4, 2), (3, .aload_n 0, 1), (4, .iload_n 2, 1), (5, .iconst 0, 1), (6, .invokestatic 46, 3), (9, .invokevirtual 25, 3), (12, .istore 5, 2), (14, .iload 5, 2), (16, .aload_n 0, 1), (17, .getfield 21, 3), (20, .if_icmp .ge 33, 3), (23, .aload_n 0, 1), (24, .iload 5, 2), (26, .invokevirtual 49, 3), (29, .iload_n 3, 1), (30, .if_icmp .ge 23, 3)],
  [(33, .aload_n 0, 1), (34, .getfield 18, 3), (37, .iload 5, 2), (39, .iaload, 1), (40, .iload_n 1, 1), (41, .if_icmp .ne 6, 3), (44, .iinc 4 1, 3), (47, .iinc 5 1, 3), (50, .goto (-36), 3), (53, .iload 4, 2), (55, .ireturn, 1)]])
def tX9_shifts : am_T := (9, yX9_shifts, cX9_shifts, 6, (some .int), 3, false, [[(0, .aload_n 0, 1), (1, .iload_n 1, 1), (2, .invokevirtual 153, 3), (5, .ifCond .eq 19, 3), (8, .iload_n 2, 1), (9, .invokestatic 26, 3), (12, .ifCond .eq 12, 3), (15, .iload_n 3, 1), (16, .iconst 0, 1), (17, .iconst 1, 1), (18, .invokestatic 11, 3), (21, .ifCond .ne 5, 3), (24, .iconst (-1), 1), (25, .ireturn, 1), (26, .aload_n 0, 1), (27, .iload_n 1, 1), (28, .invokevirtual 229, 3), (31, .iconst 0, 1)],
  [(32, .istore 4, 2), (34, .iconst 0, 1), (35, .istore 5, 2), (37, .iload 5, 2), (39, .aload_n 0, 1), (40, .getfield 156, 3), (43, .if_icmp .ge 54, 3), (46, .iload 4, 2), (48, .aload_n 0, 1), (49, .getfield 108, 3), (52, .iload 5, 2), (54, .iaload, 1), (55, .sipush 1440, 3), (58, .idiv, 1), (59, .iload_n 2, 1), (60, .if_icmp .ne 27, 3), (63, .aload_n 0, 1)],
  [(64, .getfield 120, 3), (67, .iload 5, 2), (69, .baload, 1), (70, .iload_n 3, 1), (71, .iconst 1, 1), (72, .if_icmp .ne 7, 3), (75, .iconst 1, 1), (76, .goto 4, 3), (79, .iconst 0, 1), (80, .if_icmp .ne 7, 3), (83, .iconst 1, 1), (84, .goto 4, 3), (87, .iconst 0, 1), (88, .iadd, 1), (89, .istore 4, 2), (91, .iinc 5 1, 3), (94, .goto (-57), 3)],
  [(97, .iload 4, 2), (99, .ireturn, 1)]])
def tX8_minute : am_T := (8, yX8_minute, cX8_minute, 5, (some .int), 3, false, [[(0, .aload_n 0, 1), (1, .iload_n 1, 1), (2, .invokevirtual 140, 3), (5, .astore 4, 2), (7, .aload 4, 2), (9, .ifnull 21, 3), (12, .iload_n 2, 1), (13, .invokestatic 67, 3), (16, .ifCond .eq 14, 3), (19, .iload_n 3, 1), (20, .iconst 0, 1), (21, .sipush 2879, 3), (24, .invokestatic 81, 3), (27, .ifCond .ne 5, 3), (30, .iconst (-1), 1), (31, .ireturn, 1)],
  [(32, .aload_n 0, 1), (33, .aload 4, 2), (35, .iload_n 2, 1), (36, .invokevirtual 203, 3), (39, .aload_n 0, 1), (40, .getfield 48, 3), (43, .iload_n 3, 1), (44, .invokevirtual 206, 3), (47, .ireturn, 1)]])
def tX8_fillSheet : am_T := (8, yX8_fillSheet, cX8_fillSheet, 3, none, 2, false, [[(0, .aload_n 0, 1), (1, .getfield 48, 3), (4, .aload_n 1, 1), (5, .getfield 159, 3), (8, .aload_n 1, 1), (9, .getfield 159, 3), (12, .iload_n 2, 1), (13, .iconst 0, 1), (14, .invokestatic 155, 3), (17, .invokevirtual 279, 3), (20, .iload_n 2, 1), (21, .aload_n 0, 1), (22, .getfield 21, 3), (25, .aload_n 0, 1), (26, .aload_n 1, 1), (27, .getfield 211, 3), (30, .iload_n 2, 1), (31, .invokevirtual 195, 3)],
  [(34, .aaload, 1), (35, .invokevirtual 282, 3), (38, .return_, 1)]])
def tX4_classAt : am_T := (4, yX4_classAt, cX4_classAt, 3, (some .int), 1, false, [[(0, .iconst 0, 1), (1, .istore_n 2, 1), (2, .iload_n 2, 1), (3, .aload_n 0, 1), (4, .getfield 21, 3), (7, .if_icmp .ge 36, 3), (10, .iload_n 1, 1), (11, .aload_n 0, 1), (12, .getfield 9, 3), (15, .iload_n 2, 1), (16, .iaload, 1), (17, .if_icmp .lt 20, 3), (20, .iload_n 1, 1), (21, .aload_n 0, 1), (22, .getfield 15, 3), (25, .iload_n 2, 1), (26, .iaload, 1), (27, .if_icmp .ge 10, 3), (30, .aload_n 0, 1), (31, .getfield 18, 3)],
  [(34, .iload_n 2, 1), (35, .iaload, 1), (36, .ireturn, 1), (37, .iinc 2 1, 3), (40, .goto (-38), 3), (43, .iconst 0, 1), (44, .ireturn, 1)]])
def tX9_minute : am_T := (9, yX9_minute, cX9_minute, 4, (some .int), 3, false, [[(0, .iload_n 3, 1), (1, .iconst 0, 1), (2, .sipush 2879, 3), (5, .invokestatic 11, 3), (8, .ifCond .eq 12, 3), (11, .aload_n 0, 1), (12, .iload_n 1, 1), (13, .iload_n 2, 1), (14, .invokevirtual 259, 3), (17, .ifCond .ne 5, 3), (20, .iconst (-1), 1), (21, .ireturn, 1), (22, .aload_n 0, 1), (23, .getfield 123, 3), (26, .iload_n 3, 1), (27, .iaload, 1), (28, .ireturn, 1)]])
def tX9_looks : am_T := (9, yX9_looks, cX9_looks, 3, (some .boolean), 2, false, [[(0, .aload_n 0, 1), (1, .iload_n 1, 1), (2, .invokevirtual 153, 3), (5, .ifCond .eq 10, 3), (8, .iload_n 2, 1), (9, .invokestatic 26, 3), (12, .ifCond .ne 5, 3), (15, .iconst 0, 1), (16, .ireturn, 1), (17, .aload_n 0, 1), (18, .iload_n 1, 1), (19, .invokevirtual 229, 3), (22, .aload_n 0, 1), (23, .iload_n 1, 1), (24, .iload_n 2, 1), (25, .invokevirtual 204, 3), (28, .iconst 1, 1), (29, .ireturn, 1)]])
def tX8_minutes : am_T := (8, yX8_minutes, cX8_minutes, 5, (some .int), 3, false, [[(0, .aload_n 0, 1), (1, .iload_n 1, 1), (2, .invokevirtual 140, 3), (5, .astore 4, 2), (7, .aload 4, 2), (9, .ifnull 20, 3), (12, .iload_n 2, 1), (13, .invokestatic 67, 3), (16, .ifCond .eq 13, 3), (19, .iload_n 3, 1), (20, .iconst 0, 1), (21, .bipush 7, 2), (23, .invokestatic 81, 3), (26, .ifCond .ne 5, 3), (29, .iconst (-1), 1), (30, .ireturn, 1), (31, .aload_n 0, 1)],
  [(32, .aload 4, 2), (34, .iload_n 2, 1), (35, .invokevirtual 203, 3), (38, .iload_n 3, 1), (39, .ifCond .ne 17, 3), (42, .aload_n 0, 1), (43, .getfield 48, 3), (46, .bipush 6, 2), (48, .bipush 7, 2), (50, .invokevirtual 209, 3), (53, .goto 12, 3), (56, .aload_n 0, 1), (57, .getfield 48, 3), (60, .iload_n 3, 1), (61, .iload_n 3, 1), (62, .invokevirtual 209, 3)],
  [(65, .ireturn, 1)]])
def tX9_minutes : am_T := (9, yX9_minutes, cX9_minutes, 6, (some .int), 3, false, [[(0, .iload_n 3, 1), (1, .iconst 0, 1), (2, .bipush 7, 2), (4, .invokestatic 11, 3), (7, .ifCond .eq 12, 3), (10, .aload_n 0, 1), (11, .iload_n 1, 1), (12, .iload_n 2, 1), (13, .invokevirtual 259, 3), (16, .ifCond .ne 5, 3), (19, .iconst (-1), 1), (20, .ireturn, 1), (21, .iconst 0, 1), (22, .istore 4, 2), (24, .iconst 0, 1), (25, .istore 5, 2), (27, .iload 5, 2), (29, .sipush 2880, 3)],
  [(32, .if_icmp .ge 30, 3), (35, .iload 4, 2), (37, .aload_n 0, 1), (38, .getfield 123, 3), (41, .iload 5, 2), (43, .iaload, 1), (44, .iload_n 3, 1), (45, .if_icmp .ne 7, 3), (48, .iconst 1, 1), (49, .goto 4, 3), (52, .iconst 0, 1), (53, .iadd, 1), (54, .istore 4, 2), (56, .iinc 5 1, 3), (59, .goto (-32), 3), (62, .iload_n 3, 1), (63, .ifCond .ne 10, 3)],
  [(66, .aload_n 0, 1), (67, .invokevirtual 207, 3), (70, .goto 5, 3), (73, .iload 4, 2), (75, .ireturn, 1)]])
def tX8_why : am_T := (8, yX8_why, cX8_why, 5, (some .int), 3, false, [[(0, .aload_n 0, 1), (1, .iload_n 1, 1), (2, .invokevirtual 140, 3), (5, .astore 4, 2), (7, .aload 4, 2), (9, .ifnull 19, 3), (12, .iload_n 2, 1), (13, .invokestatic 67, 3), (16, .ifCond .eq 12, 3), (19, .iload_n 3, 1), (20, .iconst 0, 1), (21, .iconst 4, 1), (22, .invokestatic 81, 3), (25, .ifCond .ne 5, 3), (28, .iconst (-1), 1), (29, .ireturn, 1), (30, .aload_n 0, 1), (31, .aload 4, 2)],
  [(33, .iload_n 2, 1), (34, .invokevirtual 203, 3), (37, .aload_n 0, 1), (38, .getfield 48, 3), (41, .iconst 2, 1), (42, .iload_n 3, 1), (43, .iadd, 1), (44, .bipush 7, 2), (46, .invokevirtual 209, 3), (49, .ireturn, 1)]])
def tX9_why : am_T := (9, yX9_why, cX9_why, 4, (some .int), 3, false, [[(0, .iload_n 3, 1), (1, .iconst 0, 1), (2, .iconst 4, 1), (3, .invokestatic 11, 3), (6, .ifCond .eq 12, 3), (9, .aload_n 0, 1), (10, .iload_n 1, 1), (11, .iload_n 2, 1), (12, .invokevirtual 259, 3), (15, .ifCond .ne 5, 3), (18, .iconst (-1), 1), (19, .ireturn, 1), (20, .aload_n 0, 1), (21, .getfield 126, 3), (24, .iload_n 3, 1), (25, .iaload, 1), (26, .ireturn, 1)]])
def tX8_counts : am_T := (8, yX8_counts, cX8_counts, 9, (some .int), 5, false, [[(0, .aload_n 0, 1), (1, .iload_n 1, 1), (2, .invokevirtual 140, 3), (5, .astore 6, 2), (7, .aload 6, 2), (9, .ifnull 21, 3), (12, .iload_n 2, 1), (13, .invokestatic 67, 3), (16, .ifCond .eq 14, 3), (19, .iload_n 3, 1), (20, .iconst 0, 1), (21, .sipush 2879, 3), (24, .invokestatic 81, 3), (27, .ifCond .ne 5, 3), (30, .iconst (-1), 1), (31, .ireturn, 1)],
  [(32, .aload_n 0, 1), (33, .getfield 35, 3), (36, .iload 4, 2), (38, .invokevirtual 123, 3), (41, .ifCond .eq 13, 3), (44, .iload 5, 2), (46, .iconst 0, 1), (47, .iconst 1, 1), (48, .invokestatic 81, 3), (51, .ifCond .ne 5, 3), (54, .iconst (-1), 1), (55, .ireturn, 1), (56, .aload_n 0, 1), (57, .aload 6, 2), (59, .iload_n 2, 1), (60, .invokevirtual 203, 3), (63, .aload_n 0, 1)],
  [(64, .getfield 48, 3), (67, .iload_n 3, 1), (68, .invokevirtual 206, 3), (71, .bipush 6, 2), (73, .if_icmp .ge 5, 3), (76, .iconst 0, 1), (77, .ireturn, 1), (78, .aload_n 0, 1), (79, .getfield 35, 3), (82, .aload_n 0, 1), (83, .aload 6, 2), (85, .getfield 211, 3), (88, .iload_n 2, 1), (89, .invokevirtual 195, 3), (92, .iload_n 3, 1), (93, .sipush 1440, 3)],
  [(96, .irem, 1), (97, .invokevirtual 215, 3), (100, .istore 7, 2), (102, .iload 5, 2), (104, .iconst 1, 1), (105, .if_icmp .ne 8, 3), (108, .iload 7, 2), (110, .goto 12, 3), (113, .aload_n 0, 1), (114, .getfield 35, 3), (117, .iload 7, 2), (119, .invokevirtual 218, 3), (122, .istore 8, 2), (124, .iload 8, 2), (126, .iload 4, 2)],
  [(128, .ishr, 1), (129, .iconst 1, 1), (130, .iand, 1), (131, .ireturn, 1)]])
def tX9_counts : am_T := (9, yX9_counts, cX9_counts, 7, (some .int), 5, false, [[(0, .iload_n 3, 1), (1, .iconst 0, 1), (2, .sipush 2879, 3), (5, .invokestatic 11, 3), (8, .ifCond .eq 37, 3), (11, .iload 4, 2), (13, .iconst 0, 1), (14, .aload_n 0, 1), (15, .getfield 149, 3), (18, .iconst 1, 1), (19, .isub, 1), (20, .invokestatic 11, 3), (23, .ifCond .eq 22, 3), (26, .iload 5, 2), (28, .iconst 0, 1), (29, .iconst 1, 1), (30, .invokestatic 11, 3)],
  [(33, .ifCond .eq 12, 3), (36, .aload_n 0, 1), (37, .iload_n 1, 1), (38, .iload_n 2, 1), (39, .invokevirtual 259, 3), (42, .ifCond .ne 5, 3), (45, .iconst (-1), 1), (46, .ireturn, 1), (47, .aload_n 0, 1), (48, .getfield 123, 3), (51, .iload_n 3, 1), (52, .iaload, 1), (53, .bipush 6, 2), (55, .if_icmp .ge 5, 3), (58, .iconst 0, 1), (59, .ireturn, 1), (60, .aload_n 0, 1), (61, .aload_n 0, 1), (62, .getfield 81, 3)],
  [(65, .iload_n 1, 1), (66, .iaload, 1), (67, .iload_n 2, 1), (68, .invokevirtual 166, 3), (71, .istore 6, 2), (73, .iload 5, 2), (75, .ifCond .ne 18, 3), (78, .aload_n 0, 1), (79, .iload 4, 2), (81, .iload 6, 2), (83, .iload_n 3, 1), (84, .invokevirtual 185, 3), (87, .ifCond .eq 22, 3), (90, .goto 15, 3), (93, .aload_n 0, 1), (94, .iload 4, 2)],
  [(96, .iload 6, 2), (98, .iload_n 3, 1), (99, .invokevirtual 182, 3), (102, .ifCond .eq 7, 3), (105, .iconst 1, 1), (106, .goto 4, 3), (109, .iconst 0, 1), (110, .ireturn, 1)]])
def tX8_cents : am_T := (8, yX8_cents, cX8_cents, 4, (some .long), 2, false, [[(0, .aload_n 0, 1), (1, .iload_n 1, 1), (2, .invokevirtual 140, 3), (5, .astore_n 3, 1), (6, .aload_n 3, 1), (7, .ifnull 10, 3), (10, .iload_n 2, 1), (11, .invokestatic 67, 3), (14, .ifCond .ne 7, 3), (17, .ldc2_w 221, 3), (20, .lreturn, 1), (21, .aload_n 0, 1), (22, .aload_n 3, 1), (23, .iload_n 2, 1), (24, .invokevirtual 203, 3), (27, .aload_n 0, 1), (28, .aload_n 3, 1), (29, .getfield 211, 3)],
  [(32, .iload_n 2, 1), (33, .invokevirtual 223, 3), (36, .lreturn, 1)]])
def tX9_cents : am_T := (9, yX9_cents, cX9_cents, 3, (some .long), 2, false, [[(0, .aload_n 0, 1), (1, .iload_n 1, 1), (2, .iload_n 2, 1), (3, .invokevirtual 259, 3), (6, .ifCond .eq 12, 3), (9, .aload_n 0, 1), (10, .iload_n 1, 1), (11, .iload_n 2, 1), (12, .invokevirtual 210, 3), (15, .goto 6, 3), (18, .ldc2_w 249, 3), (21, .lreturn, 1)]])
def tX8_due : am_T := (8, yX8_due, cX8_due, 4, (some .int), 2, false, [[(0, .aload_n 0, 1), (1, .iload_n 1, 1), (2, .invokevirtual 140, 3), (5, .astore_n 3, 1), (6, .aload_n 3, 1), (7, .ifnull 10, 3), (10, .iload_n 2, 1), (11, .invokestatic 67, 3), (14, .ifCond .ne 5, 3), (17, .iconst (-1), 1), (18, .ireturn, 1), (19, .aload_n 0, 1), (20, .aload_n 3, 1), (21, .iload_n 2, 1), (22, .invokevirtual 227, 3), (25, .ireturn, 1)]])
def tX8_dueOf : am_T := (8, yX8_dueOf, cX8_dueOf, 3, (some .int), 2, false, [[(0, .aload_n 0, 1), (1, .getfield 9, 3), (4, .iload_n 2, 1), (5, .baload, 1), (6, .ifCond .ne 19, 3), (9, .iload_n 2, 1), (10, .aload_n 1, 1), (11, .getfield 255, 3), (14, .if_icmp .lt 11, 3), (17, .aload_n 1, 1), (18, .iload_n 2, 1), (19, .invokevirtual 258, 3), (22, .ifCond .eq 5, 3), (25, .iconst 0, 1), (26, .ireturn, 1), (27, .aload_n 1, 1), (28, .getfield 211, 3), (31, .getfield 130, 3)],
  [(34, .iload_n 2, 1), (35, .bipush 7, 2), (37, .irem, 1), (38, .iaload, 1), (39, .ireturn, 1)]])
def tX7_isAway : am_T := (7, yX7_isAway, cX7_isAway, 3, (some .boolean), 1, false, [[(0, .iconst 0, 1), (1, .istore_n 2, 1), (2, .iload_n 2, 1), (3, .aload_n 0, 1), (4, .getfield 38, 3), (7, .if_icmp .ge 31, 3), (10, .iload_n 1, 1), (11, .aload_n 0, 1), (12, .getfield 18, 3), (15, .iload_n 2, 1), (16, .iaload, 1), (17, .if_icmp .lt 15, 3), (20, .iload_n 1, 1), (21, .aload_n 0, 1), (22, .getfield 22, 3), (25, .iload_n 2, 1), (26, .iaload, 1), (27, .if_icmp .gt 5, 3), (30, .iconst 1, 1), (31, .ireturn, 1)],
  [(32, .iinc 2 1, 3), (35, .goto (-33), 3), (38, .iconst 0, 1), (39, .ireturn, 1)]])
def tX9_due : am_T := (9, yX9_due, cX9_due, 3, (some .int), 2, false, [[(0, .aload_n 0, 1), (1, .iload_n 1, 1), (2, .invokevirtual 153, 3), (5, .ifCond .eq 19, 3), (8, .iload_n 2, 1), (9, .invokestatic 26, 3), (12, .ifCond .eq 12, 3), (15, .aload_n 0, 1), (16, .iload_n 1, 1), (17, .iload_n 2, 1), (18, .invokevirtual 226, 3), (21, .goto 4, 3), (24, .iconst (-1), 1), (25, .ireturn, 1)]])
def tX9_dueOf : am_T := (9, yX9_dueOf, cX9_dueOf, 5, (some .int), 2, false, [[(0, .aload_n 0, 1), (1, .getfield 22, 3), (4, .iload_n 2, 1), (5, .baload, 1), (6, .ifCond .ne 13, 3), (9, .iload_n 2, 1), (10, .aload_n 0, 1), (11, .getfield 84, 3), (14, .iload_n 1, 1), (15, .iaload, 1), (16, .if_icmp .ge 7, 3), (19, .iconst 1, 1), (20, .goto 4, 3), (23, .iconst 0, 1), (24, .istore_n 3, 1), (25, .bipush 20, 2), (27, .iload_n 1, 1), (28, .imul, 1), (29, .istore 4, 2), (31, .iload 4, 2)],
  [(33, .bipush 20, 2), (35, .iload_n 1, 1), (36, .imul, 1), (37, .aload_n 0, 1), (38, .getfield 87, 3), (41, .iload_n 1, 1), (42, .iaload, 1), (43, .iadd, 1), (44, .if_icmp .ge 40, 3), (47, .iload_n 3, 1), (48, .ifCond .ne 24, 3), (51, .iload_n 2, 1), (52, .aload_n 0, 1), (53, .getfield 90, 3), (56, .iload 4, 2), (58, .iaload, 1), (59, .aload_n 0, 1), (60, .getfield 93, 3), (63, .iload 4, 2)],
  [(65, .iaload, 1), (66, .invokestatic 11, 3), (69, .ifCond .eq 7, 3), (72, .iconst 1, 1), (73, .goto 4, 3), (76, .iconst 0, 1), (77, .istore_n 3, 1), (78, .iinc 4 1, 3), (81, .goto (-50), 3), (84, .iload_n 3, 1), (85, .ifCond .eq 7, 3), (88, .iconst 0, 1), (89, .goto 22, 3), (92, .aload_n 0, 1), (93, .getfield 72, 3)],
  [(96, .bipush 7, 2), (98, .aload_n 0, 1), (99, .getfield 81, 3), (102, .iload_n 1, 1), (103, .iaload, 1), (104, .imul, 1), (105, .iload_n 2, 1), (106, .bipush 7, 2), (108, .irem, 1), (109, .iadd, 1), (110, .iaload, 1), (111, .ireturn, 1)]])
def tX8_close : am_T := (8, yX8_close, cX8_close, 2, (some .int), 0, false, [[(0, .aload_n 0, 1), (1, .getfield 231, 3), (4, .bipush 36, 2), (6, .if_icmp .lt 6, 3), (9, .bipush (-3), 2), (11, .ireturn, 1), (12, .iconst 0, 1), (13, .istore_n 1, 1), (14, .iload_n 1, 1), (15, .aload_n 0, 1), (16, .getfield 71, 3), (19, .if_icmp .ge 28, 3), (22, .aload_n 0, 1), (23, .getfield 41, 3), (26, .iload_n 1, 1), (27, .aaload, 1), (28, .aload_n 0, 1), (29, .getfield 231, 3)],
  [(32, .invokestatic 234, 3), (35, .ifCond .eq 6, 3), (38, .bipush (-3), 2), (40, .ireturn, 1), (41, .iinc 1 1, 3), (44, .goto (-30), 3), (47, .iconst 0, 1), (48, .istore_n 1, 1), (49, .iload_n 1, 1), (50, .aload_n 0, 1), (51, .getfield 71, 3), (54, .if_icmp .ge 23, 3), (57, .aload_n 0, 1), (58, .aload_n 0, 1), (59, .getfield 41, 3), (62, .iload_n 1, 1), (63, .aaload, 1)],
  [(64, .aload_n 0, 1), (65, .getfield 231, 3), (68, .invokevirtual 238, 3), (71, .iinc 1 1, 3), (74, .goto (-25), 3), (77, .aload_n 0, 1), (78, .dup, 1), (79, .getfield 231, 3), (82, .iconst 1, 1), (83, .iadd, 1), (84, .putfield 231, 3), (87, .aload_n 0, 1), (88, .getfield 231, 3), (91, .iconst 1, 1), (92, .isub, 1), (93, .ireturn, 1)]])
def tX8_hasGap : am_T := (8, yX8_hasGap, cX8_hasGap, 2, (some .boolean), 2, false, [[(0, .aload_n 0, 1), (1, .getfield 159, 3), (4, .iconst 2, 1), (5, .getstatic 252, 3), (8, .iload_n 1, 1), (9, .iaload, 1), (10, .getstatic 252, 3), (13, .iload_n 1, 1), (14, .iconst 1, 1), (15, .iadd, 1), (16, .iaload, 1), (17, .invokevirtual 199, 3), (20, .ifCond .le 7, 3), (23, .iconst 1, 1), (24, .goto 4, 3), (27, .iconst 0, 1), (28, .ireturn, 1)]])
def tX8_keepSayings : am_T := (8, yX8_keepSayings, cX8_keepSayings, 9, none, 2, false, [[(0, .aload_n 0, 1), (1, .aload_n 1, 1), (2, .iload_n 2, 1), (3, .iconst 0, 1), (4, .invokevirtual 248, 3), (7, .lstore_n 3, 1), (8, .aload_n 0, 1), (9, .aload_n 1, 1), (10, .iload_n 2, 1), (11, .iconst 1, 1), (12, .invokevirtual 248, 3), (15, .lstore 5, 2), (17, .aload_n 0, 1), (18, .aload_n 1, 1), (19, .iload_n 2, 1), (20, .invokevirtual 317, 3), (23, .lstore 7, 2), (25, .aload_n 1, 1), (26, .getfield 268, 3), (29, .iconst 0, 1), (30, .aaload, 1), (31, .iload_n 2, 1)],
  [(32, .lload_n 3, 1), (33, .lastore, 1), (34, .aload_n 1, 1), (35, .getfield 268, 3), (38, .iconst 1, 1), (39, .aaload, 1), (40, .iload_n 2, 1), (41, .lload 5, 2), (43, .lastore, 1), (44, .aload_n 1, 1), (45, .getfield 268, 3), (48, .iconst 2, 1), (49, .aaload, 1), (50, .iload_n 2, 1), (51, .aload_n 1, 1), (52, .getfield 211, 3), (55, .getfield 134, 3), (58, .i2l, 1), (59, .aload_n 1, 1), (60, .getfield 211, 3), (63, .getfield 137, 3)],
  [(66, .i2l, 1), (67, .lload 7, 2), (69, .invokestatic 321, 3), (72, .invokestatic 327, 3), (75, .lastore, 1), (76, .return_, 1)]])
def tX8_sayingOf : am_T := (8, yX8_sayingOf, cX8_sayingOf, 4, (some .long), 3, false, [[(0, .iload_n 2, 1), (1, .aload_n 0, 1), (2, .getfield 231, 3), (5, .if_icmp .lt 8, 3), (8, .iload_n 3, 1), (9, .iconst 3, 1), (10, .if_icmp .lt 12, 3), (13, .aload_n 1, 1), (14, .getfield 268, 3), (17, .iload_n 3, 1), (18, .aaload, 1), (19, .iload_n 2, 1), (20, .laload, 1), (21, .lreturn, 1), (22, .iload_n 3, 1), (23, .iconst 2, 1), (24, .if_icmp .ne 10, 3), (27, .aload_n 0, 1), (28, .aload_n 1, 1), (29, .iload_n 2, 1), (30, .invokevirtual 317, 3)],
  [(33, .lreturn, 1), (34, .aload_n 0, 1), (35, .aload_n 1, 1), (36, .getstatic 252, 3), (39, .iload_n 2, 1), (40, .iaload, 1), (41, .getstatic 252, 3), (44, .iload_n 2, 1), (45, .iconst 1, 1), (46, .iadd, 1), (47, .iaload, 1), (48, .invokevirtual 264, 3), (51, .iload_n 3, 1), (52, .ifCond .ne 22, 3), (55, .aload_n 0, 1), (56, .getfield 55, 3), (59, .getfield 272, 3), (62, .aload_n 1, 1), (63, .getfield 268, 3)],
  [(66, .iconst 3, 1), (67, .aaload, 1), (68, .iload_n 2, 1), (69, .laload, 1), (70, .ladd, 1), (71, .goto 19, 3), (74, .aload_n 0, 1), (75, .getfield 55, 3), (78, .getfield 276, 3), (81, .aload_n 1, 1), (82, .getfield 268, 3), (85, .iconst 4, 1), (86, .aaload, 1), (87, .iload_n 2, 1), (88, .laload, 1), (89, .ladd, 1), (90, .lreturn, 1)]])
def tX8_openFlex : am_T := (8, yX8_openFlex, cX8_openFlex, 8, (some .long), 2, false, [[(0, .aload_n 0, 1), (1, .getfield 231, 3), (4, .ifCond .le 19, 3), (7, .aload_n 1, 1), (8, .getfield 268, 3), (11, .iconst 2, 1), (12, .aaload, 1), (13, .aload_n 0, 1), (14, .getfield 231, 3), (17, .iconst 1, 1), (18, .isub, 1), (19, .laload, 1), (20, .goto 4, 3), (23, .lconst 0, 1), (24, .lstore_n 3, 1), (25, .aload_n 0, 1), (26, .getfield 231, 3), (29, .istore 5, 2), (31, .iload 5, 2)],
  [(33, .iload_n 2, 1), (34, .if_icmp .gt 21, 3), (37, .lload_n 3, 1), (38, .aload_n 1, 1), (39, .getfield 268, 3), (42, .iconst 3, 1), (43, .aaload, 1), (44, .iload 5, 2), (46, .laload, 1), (47, .ladd, 1), (48, .lstore_n 3, 1), (49, .iinc 5 1, 3), (52, .goto (-21), 3), (55, .getstatic 252, 3), (58, .aload_n 0, 1), (59, .getfield 231, 3), (62, .iaload, 1), (63, .istore 5, 2)],
  [(65, .getstatic 252, 3), (68, .iload_n 2, 1), (69, .iconst 1, 1), (70, .iadd, 1), (71, .iaload, 1), (72, .istore 6, 2), (74, .iload 5, 2), (76, .istore 7, 2), (78, .iload 7, 2), (80, .iload 6, 2), (82, .if_icmp .ge 20, 3), (85, .lload_n 3, 1), (86, .aload_n 0, 1), (87, .aload_n 1, 1), (88, .iload 7, 2), (90, .invokevirtual 227, 3), (93, .i2l, 1), (94, .lsub, 1), (95, .lstore_n 3, 1)],
  [(96, .iinc 7 1, 3), (99, .goto (-21), 3), (102, .aload_n 0, 1), (103, .aload_n 1, 1), (104, .iload 5, 2), (106, .iload 6, 2), (108, .invokevirtual 264, 3), (111, .lload_n 3, 1), (112, .aload_n 0, 1), (113, .getfield 55, 3), (116, .getfield 272, 3), (119, .ladd, 1), (120, .lreturn, 1)]])
def tX9_close_r0 : List am_I := [(0, .aload_n 0, 1), (1, .getfield 214, 3), (4, .bipush 36, 2), (6, .if_icmp .ne 6, 3), (9, .bipush (-3), 2), (11, .ireturn, 1), (12, .aload_n 0, 1), (13, .getfield 214, 3), (16, .invokestatic 217, 3), (19, .istore_n 1, 1), (20, .iload_n 1, 1), (21, .aload_n 0, 1), (22, .getfield 214, 3), (25, .invokestatic 7, 3), (28, .iadd, 1), (29, .istore_n 2, 1), (30, .iconst 0, 1), (31, .istore_n 3, 1)]
def tX9_close_r1 : List am_I := [(32, .iload_n 3, 1), (33, .aload_n 0, 1), (34, .getfield 15, 3), (37, .if_icmp .ge 66, 3), (40, .aload_n 0, 1), (41, .iload_n 3, 1), (42, .invokevirtual 229, 3), (45, .iconst 0, 1), (46, .istore 4, 2), (48, .iload 4, 2), (50, .aload_n 0, 1), (51, .getfield 156, 3), (54, .if_icmp .ge 43, 3), (57, .aload_n 0, 1), (58, .getfield 120, 3), (61, .iload 4, 2), (63, .baload, 1)]
def tX9_close_r2 : List am_I := [(64, .ifCond .eq 27, 3), (67, .aload_n 0, 1), (68, .getfield 108, 3), (71, .iload 4, 2), (73, .iaload, 1), (74, .sipush 1440, 3), (77, .idiv, 1), (78, .iload_n 1, 1), (79, .iload_n 2, 1), (80, .iconst 1, 1), (81, .isub, 1), (82, .invokestatic 11, 3), (85, .ifCond .eq 6, 3), (88, .bipush (-3), 2), (90, .ireturn, 1), (91, .iinc 4 1, 3), (94, .goto (-46), 3)]
def tX9_close_r3 : List am_I := [(97, .iinc 3 1, 3), (100, .goto (-68), 3), (103, .iconst 0, 1), (104, .istore_n 3, 1), (105, .iload_n 3, 1), (106, .aload_n 0, 1), (107, .getfield 15, 3), (110, .if_icmp .ge 133, 3), (113, .bipush 36, 2), (115, .iload_n 3, 1), (116, .imul, 1), (117, .aload_n 0, 1), (118, .getfield 214, 3), (121, .iadd, 1), (122, .istore 4, 2), (124, .aload_n 0, 1), (125, .getfield 129, 3)]
def tX9_close_r4 : List am_I := [(128, .iload 4, 2), (130, .aload_n 0, 1), (131, .iload_n 3, 1), (132, .aload_n 0, 1), (133, .getfield 214, 3), (136, .iconst 0, 1), (137, .invokevirtual 233, 3), (140, .lastore, 1), (141, .aload_n 0, 1), (142, .getfield 133, 3), (145, .iload 4, 2), (147, .aload_n 0, 1), (148, .iload_n 3, 1), (149, .aload_n 0, 1), (150, .getfield 214, 3), (153, .iconst 1, 1), (154, .invokevirtual 233, 3), (157, .lastore, 1), (158, .aload_n 0, 1), (159, .iload_n 3, 1)]
def tX9_close_r5 : List am_I := [(160, .aload_n 0, 1), (161, .getfield 214, 3), (164, .iconst 2, 1), (165, .invokevirtual 233, 3), (168, .lstore 5, 2), (170, .aload_n 0, 1), (171, .getfield 81, 3), (174, .iload_n 3, 1), (175, .iaload, 1), (176, .istore 7, 2), (178, .aload_n 0, 1), (179, .getfield 136, 3), (182, .iload 4, 2), (184, .lload 5, 2), (186, .aload_n 0, 1), (187, .getfield 75, 3), (190, .iload 7, 2)]
def tX9_close_r6 : List am_I := [(192, .iaload, 1), (193, .i2l, 1), (194, .lcmp, 1), (195, .ifCond .ge 14, 3), (198, .aload_n 0, 1), (199, .getfield 75, 3), (202, .iload 7, 2), (204, .iaload, 1), (205, .i2l, 1), (206, .goto 30, 3), (209, .lload 5, 2), (211, .aload_n 0, 1), (212, .getfield 78, 3), (215, .iload 7, 2), (217, .iaload, 1), (218, .i2l, 1), (219, .lcmp, 1), (220, .ifCond .le 14, 3), (223, .aload_n 0, 1)]
def tX9_close_r7 : List am_I := [(224, .getfield 78, 3), (227, .iload 7, 2), (229, .iaload, 1), (230, .i2l, 1), (231, .goto 5, 3), (234, .lload 5, 2), (236, .lastore, 1), (237, .iinc 3 1, 3), (240, .goto (-135), 3), (243, .aload_n 0, 1), (244, .dup, 1), (245, .getfield 214, 3), (248, .iconst 1, 1), (249, .iadd, 1), (250, .putfield 214, 3), (253, .aload_n 0, 1), (254, .getfield 214, 3)]
def tX9_close_r8 : List am_I := [(257, .iconst 1, 1), (258, .isub, 1), (259, .ireturn, 1)]
def tX9_close : am_T := (9, yX9_close, cX9_close, 8, (some .int), 0, false, [tX9_close_r0, tX9_close_r1, tX9_close_r2, tX9_close_r3, tX9_close_r4, tX9_close_r5, tX9_close_r6, tX9_close_r7, tX9_close_r8])
def tX9_says : am_T := (9, yX9_says, cX9_says, 5, (some .long), 3, false, [[(0, .bipush 36, 2), (2, .iload_n 1, 1), (3, .imul, 1), (4, .iload_n 2, 1), (5, .iadd, 1), (6, .istore 4, 2), (8, .iload_n 3, 1), (9, .iconst 3, 1), (10, .if_icmp .ne 11, 3), (13, .aload_n 0, 1), (14, .getfield 139, 3), (17, .iload 4, 2), (19, .laload, 1), (20, .lreturn, 1), (21, .iload_n 3, 1), (22, .iconst 4, 1), (23, .if_icmp .ne 11, 3), (26, .aload_n 0, 1), (27, .getfield 142, 3), (30, .iload 4, 2)],
  [(32, .laload, 1), (33, .lreturn, 1), (34, .iload_n 2, 1), (35, .aload_n 0, 1), (36, .getfield 214, 3), (39, .if_icmp .ge 40, 3), (42, .iload_n 3, 1), (43, .ifCond .ne 13, 3), (46, .aload_n 0, 1), (47, .getfield 129, 3), (50, .iload 4, 2), (52, .laload, 1), (53, .goto 25, 3), (56, .iload_n 3, 1), (57, .iconst 1, 1), (58, .if_icmp .ne 13, 3), (61, .aload_n 0, 1), (62, .getfield 133, 3)],
  [(65, .iload 4, 2), (67, .laload, 1), (68, .goto 10, 3), (71, .aload_n 0, 1), (72, .getfield 136, 3), (75, .iload 4, 2), (77, .laload, 1), (78, .lreturn, 1), (79, .aload_n 0, 1), (80, .iload_n 1, 1), (81, .invokevirtual 229, 3), (84, .iload_n 3, 1), (85, .iconst 2, 1), (86, .if_icmp .ne 10, 3), (89, .aload_n 0, 1), (90, .iload_n 1, 1), (91, .iload_n 2, 1), (92, .invokevirtual 220, 3), (95, .lreturn, 1)],
  [(96, .aload_n 0, 1), (97, .iload_n 1, 1), (98, .iload_n 2, 1), (99, .invokestatic 217, 3), (102, .iload_n 2, 1), (103, .invokestatic 217, 3), (106, .iload_n 2, 1), (107, .invokestatic 7, 3), (110, .iadd, 1), (111, .invokevirtual 223, 3), (114, .iload_n 3, 1), (115, .ifCond .ne 18, 3), (118, .aload_n 0, 1), (119, .getfield 197, 3), (122, .aload_n 0, 1), (123, .getfield 139, 3), (126, .iload 4, 2)],
  [(128, .laload, 1), (129, .ladd, 1), (130, .goto 15, 3), (133, .aload_n 0, 1), (134, .getfield 201, 3), (137, .aload_n 0, 1), (138, .getfield 142, 3), (141, .iload 4, 2), (143, .laload, 1), (144, .ladd, 1), (145, .lreturn, 1)]])
def tX9_flexOf : am_T := (9, yX9_flexOf, cX9_flexOf, 7, (some .long), 2, false, [[(0, .iload_n 2, 1), (1, .ifCond .ge 5, 3), (4, .lconst 0, 1), (5, .lreturn, 1), (6, .iload_n 2, 1), (7, .aload_n 0, 1), (8, .getfield 214, 3), (11, .if_icmp .ge 15, 3), (14, .aload_n 0, 1), (15, .getfield 136, 3), (18, .bipush 36, 2), (20, .iload_n 1, 1), (21, .imul, 1), (22, .iload_n 2, 1), (23, .iadd, 1), (24, .laload, 1), (25, .lreturn, 1), (26, .iload_n 2, 1), (27, .invokestatic 217, 3), (30, .istore_n 3, 1), (31, .aload_n 0, 1)],
  [(32, .iload_n 1, 1), (33, .iload_n 2, 1), (34, .iconst 1, 1), (35, .isub, 1), (36, .invokevirtual 220, 3), (39, .aload_n 0, 1), (40, .getfield 139, 3), (43, .bipush 36, 2), (45, .iload_n 1, 1), (46, .imul, 1), (47, .iload_n 2, 1), (48, .iadd, 1), (49, .laload, 1), (50, .ladd, 1), (51, .lstore 4, 2), (53, .aload_n 0, 1), (54, .iload_n 1, 1), (55, .iload_n 3, 1), (56, .iload_n 3, 1), (57, .iload_n 2, 1), (58, .invokestatic 7, 3), (61, .iadd, 1), (62, .invokevirtual 223, 3)],
  [(65, .lload 4, 2), (67, .aload_n 0, 1), (68, .getfield 197, 3), (71, .ladd, 1), (72, .lstore 4, 2), (74, .iload_n 3, 1), (75, .istore 6, 2), (77, .iload 6, 2), (79, .iload_n 3, 1), (80, .iload_n 2, 1), (81, .invokestatic 7, 3), (84, .iadd, 1), (85, .if_icmp .ge 22, 3), (88, .lload 4, 2), (90, .aload_n 0, 1), (91, .iload_n 1, 1), (92, .iload 6, 2), (94, .invokevirtual 226, 3)],
  [(97, .i2l, 1), (98, .lsub, 1), (99, .lstore 4, 2), (101, .iinc 6 1, 3), (104, .goto (-27), 3), (107, .lload 4, 2), (109, .lreturn, 1)]])
def tX8_open : am_T := (8, yX8_open, cX8_open, 1, (some .int), 0, false, [[(0, .aload_n 0, 1), (1, .getfield 231, 3), (4, .ireturn, 1)]])
def tX9_open : am_T := (9, yX9_open, cX9_open, 1, (some .int), 0, false, [[(0, .aload_n 0, 1), (1, .getfield 214, 3), (4, .ireturn, 1)]])
def tX8_month : am_T := (8, yX8_month, cX8_month, 5, (some .long), 3, false, [[(0, .aload_n 0, 1), (1, .iload_n 1, 1), (2, .invokevirtual 140, 3), (5, .astore 4, 2), (7, .aload 4, 2), (9, .ifnull 19, 3), (12, .iload_n 2, 1), (13, .invokestatic 241, 3), (16, .ifCond .eq 12, 3), (19, .iload_n 3, 1), (20, .iconst 0, 1), (21, .iconst 4, 1), (22, .invokestatic 81, 3), (25, .ifCond .ne 7, 3), (28, .ldc2_w 246, 3), (31, .lreturn, 1)],
  [(32, .aload_n 0, 1), (33, .aload 4, 2), (35, .iload_n 2, 1), (36, .iload_n 3, 1), (37, .invokevirtual 248, 3), (40, .lreturn, 1)]])
def tX8_isMonth : am_T := (8, yX8_isMonth, cX8_isMonth, 1, (some .boolean), 1, false, [[(0, .iload_n 0, 1), (1, .iconst 0, 1), (2, .bipush 35, 2), (4, .invokestatic 81, 3), (7, .ireturn, 1)]])
def tX9_month : am_T := (9, yX9_month, cX9_month, 4, (some .long), 3, false, [[(0, .aload_n 0, 1), (1, .iload_n 1, 1), (2, .invokevirtual 153, 3), (5, .ifCond .eq 22, 3), (8, .iload_n 2, 1), (9, .iconst 0, 1), (10, .bipush 35, 2), (12, .invokestatic 11, 3), (15, .ifCond .eq 12, 3), (18, .iload_n 3, 1), (19, .iconst 0, 1), (20, .iconst 4, 1), (21, .invokestatic 11, 3), (24, .ifCond .ne 7, 3), (27, .ldc2_w 265, 3), (30, .lreturn, 1), (31, .aload_n 0, 1)],
  [(32, .iload_n 1, 1), (33, .iload_n 2, 1), (34, .iload_n 3, 1), (35, .invokevirtual 233, 3), (38, .lreturn, 1)]])
def tX8_sum : am_T := (8, yX8_sum, cX8_sum, 8, (some .long), 3, false, [[(0, .aload_n 0, 1), (1, .iload_n 1, 1), (2, .invokevirtual 63, 3), (5, .astore 4, 2), (7, .aload 4, 2), (9, .ifnull 19, 3), (12, .iload_n 2, 1), (13, .invokestatic 241, 3), (16, .ifCond .eq 12, 3), (19, .iload_n 3, 1), (20, .iconst 0, 1), (21, .iconst 1, 1), (22, .invokestatic 81, 3), (25, .ifCond .ne 7, 3), (28, .ldc2_w 246, 3), (31, .lreturn, 1)],
  [(32, .lconst 0, 1), (33, .lstore 5, 2), (35, .iconst 0, 1), (36, .istore 7, 2), (38, .iload 7, 2), (40, .aload_n 0, 1), (41, .getfield 71, 3), (44, .if_icmp .ge 42, 3), (47, .aload_n 0, 1), (48, .getfield 41, 3), (51, .iload 7, 2), (53, .aaload, 1), (54, .getfield 211, 3), (57, .aload 4, 2), (59, .if_acmp .ne 21, 3), (62, .lload 5, 2)],
  [(64, .aload_n 0, 1), (65, .aload_n 0, 1), (66, .getfield 41, 3), (69, .iload 7, 2), (71, .aaload, 1), (72, .iload_n 2, 1), (73, .iload_n 3, 1), (74, .invokevirtual 248, 3), (77, .ladd, 1), (78, .lstore 5, 2), (80, .iinc 7 1, 3), (83, .goto (-45), 3), (86, .lload 5, 2), (88, .lreturn, 1)]])
def tX9_sum : am_T := (9, yX9_sum, cX9_sum, 7, (some .long), 3, false, [[(0, .iload_n 1, 1), (1, .invokestatic 33, 3), (4, .ifCond .eq 22, 3), (7, .iload_n 2, 1), (8, .iconst 0, 1), (9, .bipush 35, 2), (11, .invokestatic 11, 3), (14, .ifCond .eq 12, 3), (17, .iload_n 3, 1), (18, .iconst 0, 1), (19, .iconst 1, 1), (20, .invokestatic 11, 3), (23, .ifCond .ne 7, 3), (26, .ldc2_w 265, 3), (29, .lreturn, 1), (30, .lconst 0, 1), (31, .lstore 4, 2)],
  [(33, .iconst 0, 1), (34, .istore 6, 2), (36, .iload 6, 2), (38, .aload_n 0, 1), (39, .getfield 15, 3), (42, .if_icmp .ge 37, 3), (45, .lload 4, 2), (47, .aload_n 0, 1), (48, .getfield 81, 3), (51, .iload 6, 2), (53, .iaload, 1), (54, .iload_n 1, 1), (55, .if_icmp .ne 14, 3), (58, .aload_n 0, 1), (59, .iload 6, 2), (61, .iload_n 2, 1), (62, .iload_n 3, 1), (63, .invokevirtual 233, 3)],
  [(66, .goto 4, 3), (69, .lconst 0, 1), (70, .ladd, 1), (71, .lstore 4, 2), (73, .iinc 6 1, 3), (76, .goto (-40), 3), (79, .lload 4, 2), (81, .lreturn, 1)]])
def tX8_count : am_T := (8, yX8_count, cX8_count, 2, (some .int), 1, false, [[(0, .iload_n 1, 1), (1, .tableswitch 66 0 4 #[35, 40, 45, 53, 61], 35)],
  [(36, .aload_n 0, 1), (37, .getfield 71, 3), (40, .ireturn, 1), (41, .aload_n 0, 1), (42, .getfield 78, 3), (45, .ireturn, 1), (46, .aload_n 0, 1), (47, .getfield 28, 3), (50, .getfield 109, 3), (53, .ireturn, 1), (54, .aload_n 0, 1), (55, .getfield 35, 3), (58, .getfield 119, 3), (61, .ireturn, 1), (62, .aload_n 0, 1), (63, .getfield 178, 3)],
  [(66, .ireturn, 1), (67, .iconst (-1), 1), (68, .ireturn, 1)]])
def tX9_count : am_T := (9, yX9_count, cX9_count, 2, (some .int), 1, false, [[(0, .iload_n 1, 1), (1, .tableswitch 60 0 4 #[35, 40, 45, 50, 55], 35)],
  [(36, .aload_n 0, 1), (37, .getfield 15, 3), (40, .ireturn, 1), (41, .aload_n 0, 1), (42, .getfield 30, 3), (45, .ireturn, 1), (46, .aload_n 0, 1), (47, .getfield 146, 3), (50, .ireturn, 1), (51, .aload_n 0, 1), (52, .getfield 149, 3), (55, .ireturn, 1), (56, .aload_n 0, 1), (57, .getfield 246, 3), (60, .ireturn, 1), (61, .iconst (-1), 1), (62, .ireturn, 1)]])
def tL_law_r0 : List am_I := [(0, .new 7, 3), (3, .dup, 1), (4, .invokespecial 9, 3), (7, .astore_n 1, 1), (8, .new 10, 3), (11, .dup, 1), (12, .invokespecial 12, 3), (15, .astore_n 2, 1), (16, .iconst 0, 1), (17, .istore_n 3, 1), (18, .iload_n 3, 1), (19, .aload_n 0, 1), (20, .arraylength, 1), (21, .bipush 6, 2), (23, .isub, 1), (24, .if_icmp .gt 1222, 3), (27, .aload_n 0, 1), (28, .iload_n 3, 1), (29, .iaload, 1), (30, .bipush 31, 2)]
def tL_law_r1 : List am_I := [(32, .iand, 1), (33, .tableswitch 1207 0 26 #[123, 156, 179, 222, 275, 318, 371, 404, 447, 490, 533, 586, 639, 682, 725, 768, 811, 854, 897, 940, 1003, 1037, 1070, 1083, 1096, 1140, 1184], 123)]
def tL_law_r2 : List am_I := []
def tL_law_r3 : List am_I := []
def tL_law_r4 : List am_I := [(156, .aload_n 1, 1), (157, .aload_n 0, 1), (158, .iload_n 3, 1), (159, .iconst 1, 1)]
def tL_law_r5 : List am_I := [(160, .iadd, 1), (161, .iaload, 1), (162, .aload_n 0, 1), (163, .iload_n 3, 1), (164, .iconst 2, 1), (165, .iadd, 1), (166, .iaload, 1), (167, .invokevirtual 13, 3), (170, .aload_n 2, 1), (171, .aload_n 0, 1), (172, .iload_n 3, 1), (173, .iconst 1, 1), (174, .iadd, 1), (175, .iaload, 1), (176, .aload_n 0, 1), (177, .iload_n 3, 1), (178, .iconst 2, 1), (179, .iadd, 1), (180, .iaload, 1), (181, .invokevirtual 17, 3), (184, .if_icmp .eq 1056, 3), (187, .iconst 0, 1), (188, .ireturn, 1), (189, .aload_n 1, 1), (190, .aload_n 0, 1), (191, .iload_n 3, 1)]
def tL_law_r6 : List am_I := [(192, .iconst 1, 1), (193, .iadd, 1), (194, .iaload, 1), (195, .invokevirtual 18, 3), (198, .aload_n 2, 1), (199, .aload_n 0, 1), (200, .iload_n 3, 1), (201, .iconst 1, 1), (202, .iadd, 1), (203, .iaload, 1), (204, .invokevirtual 22, 3), (207, .if_icmp .eq 1033, 3), (210, .iconst 0, 1), (211, .ireturn, 1), (212, .aload_n 1, 1), (213, .aload_n 0, 1), (214, .iload_n 3, 1), (215, .iconst 1, 1), (216, .iadd, 1), (217, .iaload, 1), (218, .aload_n 0, 1), (219, .iload_n 3, 1), (220, .iconst 2, 1), (221, .iadd, 1), (222, .iaload, 1), (223, .aload_n 0, 1)]
def tL_law_r7 : List am_I := [(224, .iload_n 3, 1), (225, .iconst 3, 1), (226, .iadd, 1), (227, .iaload, 1), (228, .invokevirtual 23, 3), (231, .aload_n 2, 1), (232, .aload_n 0, 1), (233, .iload_n 3, 1), (234, .iconst 1, 1), (235, .iadd, 1), (236, .iaload, 1), (237, .aload_n 0, 1), (238, .iload_n 3, 1), (239, .iconst 2, 1), (240, .iadd, 1), (241, .iaload, 1), (242, .aload_n 0, 1), (243, .iload_n 3, 1), (244, .iconst 3, 1), (245, .iadd, 1), (246, .iaload, 1), (247, .invokevirtual 27, 3), (250, .if_icmp .eq 990, 3), (253, .iconst 0, 1), (254, .ireturn, 1), (255, .aload_n 1, 1)]
def tL_law_r8 : List am_I := [(256, .aload_n 0, 1), (257, .iload_n 3, 1), (258, .iconst 1, 1), (259, .iadd, 1), (260, .iaload, 1), (261, .aload_n 0, 1), (262, .iload_n 3, 1), (263, .iconst 2, 1), (264, .iadd, 1), (265, .iaload, 1), (266, .aload_n 0, 1), (267, .iload_n 3, 1), (268, .iconst 3, 1), (269, .iadd, 1), (270, .iaload, 1), (271, .aload_n 0, 1), (272, .iload_n 3, 1), (273, .iconst 4, 1), (274, .iadd, 1), (275, .iaload, 1), (276, .invokevirtual 28, 3), (279, .aload_n 2, 1), (280, .aload_n 0, 1), (281, .iload_n 3, 1), (282, .iconst 1, 1), (283, .iadd, 1), (284, .iaload, 1), (285, .aload_n 0, 1), (286, .iload_n 3, 1), (287, .iconst 2, 1)]
def tL_law_r9 : List am_I := [(288, .iadd, 1), (289, .iaload, 1), (290, .aload_n 0, 1), (291, .iload_n 3, 1), (292, .iconst 3, 1), (293, .iadd, 1), (294, .iaload, 1), (295, .aload_n 0, 1), (296, .iload_n 3, 1), (297, .iconst 4, 1), (298, .iadd, 1), (299, .iaload, 1), (300, .invokevirtual 32, 3), (303, .if_icmp .eq 937, 3), (306, .iconst 0, 1), (307, .ireturn, 1), (308, .aload_n 1, 1), (309, .aload_n 0, 1), (310, .iload_n 3, 1), (311, .iconst 1, 1), (312, .iadd, 1), (313, .iaload, 1), (314, .aload_n 0, 1), (315, .iload_n 3, 1), (316, .iconst 2, 1), (317, .iadd, 1), (318, .iaload, 1), (319, .aload_n 0, 1)]
def tL_law_r10 : List am_I := [(320, .iload_n 3, 1), (321, .iconst 3, 1), (322, .iadd, 1), (323, .iaload, 1), (324, .invokevirtual 33, 3), (327, .aload_n 2, 1), (328, .aload_n 0, 1), (329, .iload_n 3, 1), (330, .iconst 1, 1), (331, .iadd, 1), (332, .iaload, 1), (333, .aload_n 0, 1), (334, .iload_n 3, 1), (335, .iconst 2, 1), (336, .iadd, 1), (337, .iaload, 1), (338, .aload_n 0, 1), (339, .iload_n 3, 1), (340, .iconst 3, 1), (341, .iadd, 1), (342, .iaload, 1), (343, .invokevirtual 36, 3), (346, .if_icmp .eq 894, 3), (349, .iconst 0, 1), (350, .ireturn, 1), (351, .aload_n 1, 1)]
def tL_law_r11 : List am_I := [(352, .aload_n 0, 1), (353, .iload_n 3, 1), (354, .iconst 1, 1), (355, .iadd, 1), (356, .iaload, 1), (357, .aload_n 0, 1), (358, .iload_n 3, 1), (359, .iconst 2, 1), (360, .iadd, 1), (361, .iaload, 1), (362, .aload_n 0, 1), (363, .iload_n 3, 1), (364, .iconst 3, 1), (365, .iadd, 1), (366, .iaload, 1), (367, .aload_n 0, 1), (368, .iload_n 3, 1), (369, .iconst 4, 1), (370, .iadd, 1), (371, .iaload, 1), (372, .invokevirtual 37, 3), (375, .aload_n 2, 1), (376, .aload_n 0, 1), (377, .iload_n 3, 1), (378, .iconst 1, 1), (379, .iadd, 1), (380, .iaload, 1), (381, .aload_n 0, 1), (382, .iload_n 3, 1), (383, .iconst 2, 1)]
def tL_law_r12 : List am_I := [(384, .iadd, 1), (385, .iaload, 1), (386, .aload_n 0, 1), (387, .iload_n 3, 1), (388, .iconst 3, 1), (389, .iadd, 1), (390, .iaload, 1), (391, .aload_n 0, 1), (392, .iload_n 3, 1), (393, .iconst 4, 1), (394, .iadd, 1), (395, .iaload, 1), (396, .invokevirtual 40, 3), (399, .if_icmp .eq 841, 3), (402, .iconst 0, 1), (403, .ireturn, 1), (404, .aload_n 1, 1), (405, .aload_n 0, 1), (406, .iload_n 3, 1), (407, .iconst 1, 1), (408, .iadd, 1), (409, .iaload, 1), (410, .aload_n 0, 1), (411, .iload_n 3, 1), (412, .iconst 2, 1), (413, .iadd, 1), (414, .iaload, 1), (415, .invokevirtual 41, 3)]
def tL_law_r13 : List am_I := [(418, .aload_n 2, 1), (419, .aload_n 0, 1), (420, .iload_n 3, 1), (421, .iconst 1, 1), (422, .iadd, 1), (423, .iaload, 1), (424, .aload_n 0, 1), (425, .iload_n 3, 1), (426, .iconst 2, 1), (427, .iadd, 1), (428, .iaload, 1), (429, .invokevirtual 44, 3), (432, .if_icmp .eq 808, 3), (435, .iconst 0, 1), (436, .ireturn, 1), (437, .aload_n 1, 1), (438, .aload_n 0, 1), (439, .iload_n 3, 1), (440, .iconst 1, 1), (441, .iadd, 1), (442, .iaload, 1), (443, .aload_n 0, 1), (444, .iload_n 3, 1), (445, .iconst 2, 1), (446, .iadd, 1), (447, .iaload, 1)]
def tL_law_r14 : List am_I := [(448, .aload_n 0, 1), (449, .iload_n 3, 1), (450, .iconst 3, 1), (451, .iadd, 1), (452, .iaload, 1), (453, .invokevirtual 45, 3), (456, .aload_n 2, 1), (457, .aload_n 0, 1), (458, .iload_n 3, 1), (459, .iconst 1, 1), (460, .iadd, 1), (461, .iaload, 1), (462, .aload_n 0, 1), (463, .iload_n 3, 1), (464, .iconst 2, 1), (465, .iadd, 1), (466, .iaload, 1), (467, .aload_n 0, 1), (468, .iload_n 3, 1), (469, .iconst 3, 1), (470, .iadd, 1), (471, .iaload, 1), (472, .invokevirtual 48, 3), (475, .if_icmp .eq 765, 3), (478, .iconst 0, 1), (479, .ireturn, 1)]
def tL_law_r15 : List am_I := [(480, .aload_n 1, 1), (481, .aload_n 0, 1), (482, .iload_n 3, 1), (483, .iconst 1, 1), (484, .iadd, 1), (485, .iaload, 1), (486, .aload_n 0, 1), (487, .iload_n 3, 1), (488, .iconst 2, 1), (489, .iadd, 1), (490, .iaload, 1), (491, .aload_n 0, 1), (492, .iload_n 3, 1), (493, .iconst 3, 1), (494, .iadd, 1), (495, .iaload, 1), (496, .invokevirtual 49, 3), (499, .aload_n 2, 1), (500, .aload_n 0, 1), (501, .iload_n 3, 1), (502, .iconst 1, 1), (503, .iadd, 1), (504, .iaload, 1), (505, .aload_n 0, 1), (506, .iload_n 3, 1), (507, .iconst 2, 1), (508, .iadd, 1), (509, .iaload, 1), (510, .aload_n 0, 1), (511, .iload_n 3, 1)]
def tL_law_r16 : List am_I := [(512, .iconst 3, 1), (513, .iadd, 1), (514, .iaload, 1), (515, .invokevirtual 52, 3), (518, .if_icmp .eq 722, 3), (521, .iconst 0, 1), (522, .ireturn, 1), (523, .aload_n 1, 1), (524, .aload_n 0, 1), (525, .iload_n 3, 1), (526, .iconst 1, 1), (527, .iadd, 1), (528, .iaload, 1), (529, .aload_n 0, 1), (530, .iload_n 3, 1), (531, .iconst 2, 1), (532, .iadd, 1), (533, .iaload, 1), (534, .aload_n 0, 1), (535, .iload_n 3, 1), (536, .iconst 3, 1), (537, .iadd, 1), (538, .iaload, 1), (539, .invokevirtual 53, 3), (542, .aload_n 2, 1), (543, .aload_n 0, 1)]
def tL_law_r17 : List am_I := [(544, .iload_n 3, 1), (545, .iconst 1, 1), (546, .iadd, 1), (547, .iaload, 1), (548, .aload_n 0, 1), (549, .iload_n 3, 1), (550, .iconst 2, 1), (551, .iadd, 1), (552, .iaload, 1), (553, .aload_n 0, 1), (554, .iload_n 3, 1), (555, .iconst 3, 1), (556, .iadd, 1), (557, .iaload, 1), (558, .invokevirtual 56, 3), (561, .if_icmp .eq 679, 3), (564, .iconst 0, 1), (565, .ireturn, 1), (566, .aload_n 1, 1), (567, .aload_n 0, 1), (568, .iload_n 3, 1), (569, .iconst 1, 1), (570, .iadd, 1), (571, .iaload, 1), (572, .aload_n 0, 1), (573, .iload_n 3, 1), (574, .iconst 2, 1), (575, .iadd, 1)]
def tL_law_r18 : List am_I := [(576, .iaload, 1), (577, .aload_n 0, 1), (578, .iload_n 3, 1), (579, .iconst 3, 1), (580, .iadd, 1), (581, .iaload, 1), (582, .aload_n 0, 1), (583, .iload_n 3, 1), (584, .iconst 4, 1), (585, .iadd, 1), (586, .iaload, 1), (587, .invokevirtual 57, 3), (590, .aload_n 2, 1), (591, .aload_n 0, 1), (592, .iload_n 3, 1), (593, .iconst 1, 1), (594, .iadd, 1), (595, .iaload, 1), (596, .aload_n 0, 1), (597, .iload_n 3, 1), (598, .iconst 2, 1), (599, .iadd, 1), (600, .iaload, 1), (601, .aload_n 0, 1), (602, .iload_n 3, 1), (603, .iconst 3, 1), (604, .iadd, 1), (605, .iaload, 1), (606, .aload_n 0, 1), (607, .iload_n 3, 1)]
def tL_law_r19 : List am_I := [(608, .iconst 4, 1), (609, .iadd, 1), (610, .iaload, 1), (611, .invokevirtual 60, 3), (614, .if_icmp .eq 626, 3), (617, .iconst 0, 1), (618, .ireturn, 1), (619, .aload_n 1, 1), (620, .aload_n 0, 1), (621, .iload_n 3, 1), (622, .iconst 1, 1), (623, .iadd, 1), (624, .iaload, 1), (625, .aload_n 0, 1), (626, .iload_n 3, 1), (627, .iconst 2, 1), (628, .iadd, 1), (629, .iaload, 1), (630, .aload_n 0, 1), (631, .iload_n 3, 1), (632, .iconst 3, 1), (633, .iadd, 1), (634, .iaload, 1), (635, .aload_n 0, 1), (636, .iload_n 3, 1), (637, .iconst 4, 1), (638, .iadd, 1), (639, .iaload, 1)]
def tL_law_r20 : List am_I := [(640, .invokevirtual 61, 3), (643, .aload_n 2, 1), (644, .aload_n 0, 1), (645, .iload_n 3, 1), (646, .iconst 1, 1), (647, .iadd, 1), (648, .iaload, 1), (649, .aload_n 0, 1), (650, .iload_n 3, 1), (651, .iconst 2, 1), (652, .iadd, 1), (653, .iaload, 1), (654, .aload_n 0, 1), (655, .iload_n 3, 1), (656, .iconst 3, 1), (657, .iadd, 1), (658, .iaload, 1), (659, .aload_n 0, 1), (660, .iload_n 3, 1), (661, .iconst 4, 1), (662, .iadd, 1), (663, .iaload, 1), (664, .invokevirtual 64, 3), (667, .if_icmp .eq 573, 3), (670, .iconst 0, 1), (671, .ireturn, 1)]
def tL_law_r21 : List am_I := [(672, .aload_n 1, 1), (673, .aload_n 0, 1), (674, .iload_n 3, 1), (675, .iconst 1, 1), (676, .iadd, 1), (677, .iaload, 1), (678, .aload_n 0, 1), (679, .iload_n 3, 1), (680, .iconst 2, 1), (681, .iadd, 1), (682, .iaload, 1), (683, .aload_n 0, 1), (684, .iload_n 3, 1), (685, .iconst 3, 1), (686, .iadd, 1), (687, .iaload, 1), (688, .invokevirtual 65, 3), (691, .aload_n 2, 1), (692, .aload_n 0, 1), (693, .iload_n 3, 1), (694, .iconst 1, 1), (695, .iadd, 1), (696, .iaload, 1), (697, .aload_n 0, 1), (698, .iload_n 3, 1), (699, .iconst 2, 1), (700, .iadd, 1), (701, .iaload, 1), (702, .aload_n 0, 1), (703, .iload_n 3, 1)]
def tL_law_r22 : List am_I := [(704, .iconst 3, 1), (705, .iadd, 1), (706, .iaload, 1), (707, .invokevirtual 68, 3), (710, .if_icmp .eq 530, 3), (713, .iconst 0, 1), (714, .ireturn, 1), (715, .aload_n 1, 1), (716, .aload_n 0, 1), (717, .iload_n 3, 1), (718, .iconst 1, 1), (719, .iadd, 1), (720, .iaload, 1), (721, .aload_n 0, 1), (722, .iload_n 3, 1), (723, .iconst 2, 1), (724, .iadd, 1), (725, .iaload, 1), (726, .aload_n 0, 1), (727, .iload_n 3, 1), (728, .iconst 3, 1), (729, .iadd, 1), (730, .iaload, 1), (731, .invokevirtual 69, 3), (734, .aload_n 2, 1), (735, .aload_n 0, 1)]
def tL_law_r23 : List am_I := [(736, .iload_n 3, 1), (737, .iconst 1, 1), (738, .iadd, 1), (739, .iaload, 1), (740, .aload_n 0, 1), (741, .iload_n 3, 1), (742, .iconst 2, 1), (743, .iadd, 1), (744, .iaload, 1), (745, .aload_n 0, 1), (746, .iload_n 3, 1), (747, .iconst 3, 1), (748, .iadd, 1), (749, .iaload, 1), (750, .invokevirtual 72, 3), (753, .if_icmp .eq 487, 3), (756, .iconst 0, 1), (757, .ireturn, 1), (758, .aload_n 1, 1), (759, .aload_n 0, 1), (760, .iload_n 3, 1), (761, .iconst 1, 1), (762, .iadd, 1), (763, .iaload, 1), (764, .aload_n 0, 1), (765, .iload_n 3, 1), (766, .iconst 2, 1), (767, .iadd, 1)]
def tL_law_r24 : List am_I := [(768, .iaload, 1), (769, .aload_n 0, 1), (770, .iload_n 3, 1), (771, .iconst 3, 1), (772, .iadd, 1), (773, .iaload, 1), (774, .invokevirtual 73, 3), (777, .aload_n 2, 1), (778, .aload_n 0, 1), (779, .iload_n 3, 1), (780, .iconst 1, 1), (781, .iadd, 1), (782, .iaload, 1), (783, .aload_n 0, 1), (784, .iload_n 3, 1), (785, .iconst 2, 1), (786, .iadd, 1), (787, .iaload, 1), (788, .aload_n 0, 1), (789, .iload_n 3, 1), (790, .iconst 3, 1), (791, .iadd, 1), (792, .iaload, 1), (793, .invokevirtual 76, 3), (796, .if_icmp .eq 444, 3), (799, .iconst 0, 1)]
def tL_law_r25 : List am_I := [(800, .ireturn, 1), (801, .aload_n 1, 1), (802, .aload_n 0, 1), (803, .iload_n 3, 1), (804, .iconst 1, 1), (805, .iadd, 1), (806, .iaload, 1), (807, .aload_n 0, 1), (808, .iload_n 3, 1), (809, .iconst 2, 1), (810, .iadd, 1), (811, .iaload, 1), (812, .aload_n 0, 1), (813, .iload_n 3, 1), (814, .iconst 3, 1), (815, .iadd, 1), (816, .iaload, 1), (817, .invokevirtual 77, 3), (820, .aload_n 2, 1), (821, .aload_n 0, 1), (822, .iload_n 3, 1), (823, .iconst 1, 1), (824, .iadd, 1), (825, .iaload, 1), (826, .aload_n 0, 1), (827, .iload_n 3, 1), (828, .iconst 2, 1), (829, .iadd, 1), (830, .iaload, 1), (831, .aload_n 0, 1)]
def tL_law_r26 : List am_I := [(832, .iload_n 3, 1), (833, .iconst 3, 1), (834, .iadd, 1), (835, .iaload, 1), (836, .invokevirtual 80, 3), (839, .if_icmp .eq 401, 3), (842, .iconst 0, 1), (843, .ireturn, 1), (844, .aload_n 1, 1), (845, .aload_n 0, 1), (846, .iload_n 3, 1), (847, .iconst 1, 1), (848, .iadd, 1), (849, .iaload, 1), (850, .aload_n 0, 1), (851, .iload_n 3, 1), (852, .iconst 2, 1), (853, .iadd, 1), (854, .iaload, 1), (855, .aload_n 0, 1), (856, .iload_n 3, 1), (857, .iconst 3, 1), (858, .iadd, 1), (859, .iaload, 1), (860, .invokevirtual 81, 3), (863, .aload_n 2, 1)]
def tL_law_r27 : List am_I := [(864, .aload_n 0, 1), (865, .iload_n 3, 1), (866, .iconst 1, 1), (867, .iadd, 1), (868, .iaload, 1), (869, .aload_n 0, 1), (870, .iload_n 3, 1), (871, .iconst 2, 1), (872, .iadd, 1), (873, .iaload, 1), (874, .aload_n 0, 1), (875, .iload_n 3, 1), (876, .iconst 3, 1), (877, .iadd, 1), (878, .iaload, 1), (879, .invokevirtual 84, 3), (882, .if_icmp .eq 358, 3), (885, .iconst 0, 1), (886, .ireturn, 1), (887, .aload_n 1, 1), (888, .aload_n 0, 1), (889, .iload_n 3, 1), (890, .iconst 1, 1), (891, .iadd, 1), (892, .iaload, 1), (893, .aload_n 0, 1), (894, .iload_n 3, 1), (895, .iconst 2, 1)]
def tL_law_r28 : List am_I := [(896, .iadd, 1), (897, .iaload, 1), (898, .aload_n 0, 1), (899, .iload_n 3, 1), (900, .iconst 3, 1), (901, .iadd, 1), (902, .iaload, 1), (903, .invokevirtual 85, 3), (906, .aload_n 2, 1), (907, .aload_n 0, 1), (908, .iload_n 3, 1), (909, .iconst 1, 1), (910, .iadd, 1), (911, .iaload, 1), (912, .aload_n 0, 1), (913, .iload_n 3, 1), (914, .iconst 2, 1), (915, .iadd, 1), (916, .iaload, 1), (917, .aload_n 0, 1), (918, .iload_n 3, 1), (919, .iconst 3, 1), (920, .iadd, 1), (921, .iaload, 1), (922, .invokevirtual 88, 3), (925, .if_icmp .eq 315, 3)]
def tL_law_r29 : List am_I := [(928, .iconst 0, 1), (929, .ireturn, 1), (930, .aload_n 1, 1), (931, .aload_n 0, 1), (932, .iload_n 3, 1), (933, .iconst 1, 1), (934, .iadd, 1), (935, .iaload, 1), (936, .aload_n 0, 1), (937, .iload_n 3, 1), (938, .iconst 2, 1), (939, .iadd, 1), (940, .iaload, 1), (941, .aload_n 0, 1), (942, .iload_n 3, 1), (943, .iconst 3, 1), (944, .iadd, 1), (945, .iaload, 1), (946, .invokevirtual 89, 3), (949, .aload_n 2, 1), (950, .aload_n 0, 1), (951, .iload_n 3, 1), (952, .iconst 1, 1), (953, .iadd, 1), (954, .iaload, 1), (955, .aload_n 0, 1), (956, .iload_n 3, 1), (957, .iconst 2, 1), (958, .iadd, 1), (959, .iaload, 1)]
def tL_law_r30 : List am_I := [(960, .aload_n 0, 1), (961, .iload_n 3, 1), (962, .iconst 3, 1), (963, .iadd, 1), (964, .iaload, 1), (965, .invokevirtual 92, 3), (968, .if_icmp .eq 272, 3), (971, .iconst 0, 1), (972, .ireturn, 1), (973, .aload_n 1, 1), (974, .aload_n 0, 1), (975, .iload_n 3, 1), (976, .iconst 1, 1), (977, .iadd, 1), (978, .iaload, 1), (979, .aload_n 0, 1), (980, .iload_n 3, 1), (981, .iconst 2, 1), (982, .iadd, 1), (983, .iaload, 1), (984, .aload_n 0, 1), (985, .iload_n 3, 1), (986, .iconst 3, 1), (987, .iadd, 1), (988, .iaload, 1), (989, .aload_n 0, 1), (990, .iload_n 3, 1), (991, .iconst 4, 1)]
def tL_law_r31 : List am_I := [(992, .iadd, 1), (993, .iaload, 1), (994, .aload_n 0, 1), (995, .iload_n 3, 1), (996, .iconst 5, 1), (997, .iadd, 1), (998, .iaload, 1), (999, .invokevirtual 93, 3), (1002, .aload_n 2, 1), (1003, .aload_n 0, 1), (1004, .iload_n 3, 1), (1005, .iconst 1, 1), (1006, .iadd, 1), (1007, .iaload, 1), (1008, .aload_n 0, 1), (1009, .iload_n 3, 1), (1010, .iconst 2, 1), (1011, .iadd, 1), (1012, .iaload, 1), (1013, .aload_n 0, 1), (1014, .iload_n 3, 1), (1015, .iconst 3, 1), (1016, .iadd, 1), (1017, .iaload, 1), (1018, .aload_n 0, 1), (1019, .iload_n 3, 1), (1020, .iconst 4, 1), (1021, .iadd, 1), (1022, .iaload, 1), (1023, .aload_n 0, 1)]
def tL_law_r32 : List am_I := [(1024, .iload_n 3, 1), (1025, .iconst 5, 1), (1026, .iadd, 1), (1027, .iaload, 1), (1028, .invokevirtual 97, 3), (1031, .if_icmp .eq 209, 3), (1034, .iconst 0, 1), (1035, .ireturn, 1), (1036, .aload_n 1, 1), (1037, .aload_n 0, 1), (1038, .iload_n 3, 1), (1039, .iconst 1, 1), (1040, .iadd, 1), (1041, .iaload, 1), (1042, .aload_n 0, 1), (1043, .iload_n 3, 1), (1044, .iconst 2, 1), (1045, .iadd, 1), (1046, .iaload, 1), (1047, .invokevirtual 98, 3), (1050, .aload_n 2, 1), (1051, .aload_n 0, 1), (1052, .iload_n 3, 1), (1053, .iconst 1, 1), (1054, .iadd, 1), (1055, .iaload, 1)]
def tL_law_r33 : List am_I := [(1056, .aload_n 0, 1), (1057, .iload_n 3, 1), (1058, .iconst 2, 1), (1059, .iadd, 1), (1060, .iaload, 1), (1061, .invokevirtual 102, 3), (1064, .lcmp, 1), (1065, .ifCond .eq 175, 3), (1068, .iconst 0, 1), (1069, .ireturn, 1), (1070, .aload_n 1, 1), (1071, .aload_n 0, 1), (1072, .iload_n 3, 1), (1073, .iconst 1, 1), (1074, .iadd, 1), (1075, .iaload, 1), (1076, .aload_n 0, 1), (1077, .iload_n 3, 1), (1078, .iconst 2, 1), (1079, .iadd, 1), (1080, .iaload, 1), (1081, .invokevirtual 103, 3), (1084, .aload_n 2, 1), (1085, .aload_n 0, 1), (1086, .iload_n 3, 1), (1087, .iconst 1, 1)]
def tL_law_r34 : List am_I := [(1088, .iadd, 1), (1089, .iaload, 1), (1090, .aload_n 0, 1), (1091, .iload_n 3, 1), (1092, .iconst 2, 1), (1093, .iadd, 1), (1094, .iaload, 1), (1095, .invokevirtual 106, 3), (1098, .if_icmp .eq 142, 3), (1101, .iconst 0, 1), (1102, .ireturn, 1), (1103, .aload_n 1, 1), (1104, .invokevirtual 107, 3), (1107, .aload_n 2, 1), (1108, .invokevirtual 111, 3), (1111, .if_icmp .eq 129, 3), (1114, .iconst 0, 1), (1115, .ireturn, 1), (1116, .aload_n 1, 1), (1117, .invokevirtual 112, 3)]
def tL_law_r35 : List am_I := [(1120, .aload_n 2, 1), (1121, .invokevirtual 115, 3), (1124, .if_icmp .eq 116, 3), (1127, .iconst 0, 1), (1128, .ireturn, 1), (1129, .aload_n 1, 1), (1130, .aload_n 0, 1), (1131, .iload_n 3, 1), (1132, .iconst 1, 1), (1133, .iadd, 1), (1134, .iaload, 1), (1135, .aload_n 0, 1), (1136, .iload_n 3, 1), (1137, .iconst 2, 1), (1138, .iadd, 1), (1139, .iaload, 1), (1140, .aload_n 0, 1), (1141, .iload_n 3, 1), (1142, .iconst 3, 1), (1143, .iadd, 1), (1144, .iaload, 1), (1145, .invokevirtual 116, 3), (1148, .aload_n 2, 1), (1149, .aload_n 0, 1), (1150, .iload_n 3, 1), (1151, .iconst 1, 1)]
def tL_law_r36 : List am_I := [(1152, .iadd, 1), (1153, .iaload, 1), (1154, .aload_n 0, 1), (1155, .iload_n 3, 1), (1156, .iconst 2, 1), (1157, .iadd, 1), (1158, .iaload, 1), (1159, .aload_n 0, 1), (1160, .iload_n 3, 1), (1161, .iconst 3, 1), (1162, .iadd, 1), (1163, .iaload, 1), (1164, .invokevirtual 120, 3), (1167, .lcmp, 1), (1168, .ifCond .eq 72, 3), (1171, .iconst 0, 1), (1172, .ireturn, 1), (1173, .aload_n 1, 1), (1174, .aload_n 0, 1), (1175, .iload_n 3, 1), (1176, .iconst 1, 1), (1177, .iadd, 1), (1178, .iaload, 1), (1179, .aload_n 0, 1), (1180, .iload_n 3, 1), (1181, .iconst 2, 1), (1182, .iadd, 1), (1183, .iaload, 1)]
def tL_law_r37 : List am_I := [(1184, .aload_n 0, 1), (1185, .iload_n 3, 1), (1186, .iconst 3, 1), (1187, .iadd, 1), (1188, .iaload, 1), (1189, .invokevirtual 121, 3), (1192, .aload_n 2, 1), (1193, .aload_n 0, 1), (1194, .iload_n 3, 1), (1195, .iconst 1, 1), (1196, .iadd, 1), (1197, .iaload, 1), (1198, .aload_n 0, 1), (1199, .iload_n 3, 1), (1200, .iconst 2, 1), (1201, .iadd, 1), (1202, .iaload, 1), (1203, .aload_n 0, 1), (1204, .iload_n 3, 1), (1205, .iconst 3, 1), (1206, .iadd, 1), (1207, .iaload, 1), (1208, .invokevirtual 124, 3), (1211, .lcmp, 1), (1212, .ifCond .eq 28, 3), (1215, .iconst 0, 1)]
def tL_law_r38 : List am_I := [(1216, .ireturn, 1), (1217, .aload_n 1, 1), (1218, .aload_n 0, 1), (1219, .iload_n 3, 1), (1220, .iconst 1, 1), (1221, .iadd, 1), (1222, .iaload, 1), (1223, .invokevirtual 125, 3), (1226, .aload_n 2, 1), (1227, .aload_n 0, 1), (1228, .iload_n 3, 1), (1229, .iconst 1, 1), (1230, .iadd, 1), (1231, .iaload, 1), (1232, .invokevirtual 128, 3), (1235, .if_icmp .eq 5, 3), (1238, .iconst 0, 1), (1239, .ireturn, 1), (1240, .iinc 3 6, 3), (1243, .goto (-1225), 3), (1246, .iconst 1, 1), (1247, .ireturn, 1)]
def tL_law : am_T := (10, yL_law, code, 4, some .boolean, 1, false, [tL_law_r0, tL_law_r1, tL_law_r2, tL_law_r3, tL_law_r4, tL_law_r5, tL_law_r6, tL_law_r7, tL_law_r8, tL_law_r9, tL_law_r10, tL_law_r11, tL_law_r12, tL_law_r13, tL_law_r14, tL_law_r15, tL_law_r16, tL_law_r17, tL_law_r18, tL_law_r19, tL_law_r20, tL_law_r21, tL_law_r22, tL_law_r23, tL_law_r24, tL_law_r25, tL_law_r26, tL_law_r27, tL_law_r28, tL_law_r29, tL_law_r30, tL_law_r31, tL_law_r32, tL_law_r33, tL_law_r34, tL_law_r35, tL_law_r36, tL_law_r37, tL_law_r38])
end
section
/-- the words of the tables that every method keeps -/
def am_ws : List Cond := lw_tbl.filter goodWord
theorem am_ws_in : ∀ w ∈ am_ws, w ∈ lw_tbl := fun _ h => (List.mem_filter.mp h).1
theorem am_ws_good : ∀ w ∈ am_ws, goodWord w = true := fun _ h => (List.mem_filter.mp h).2
theorem am_mem {w : Cond} (i : Nat) (h : lw_tbl[i]? = some w) (hg : goodWord w = true) : w ∈ am_ws := List.mem_filter.mpr ⟨List.mem_of_getElem? h, hg⟩
def am_ok (τ : am_T) : Prop := am_dec τ = true ∧ Cond.code τ.2.1 τ.2.2.1 τ.2.2.2.1 τ.2.2.2.2.1 ∈ am_ws ∧ plainName τ.2.1.cls = true ∧ τ.2.1.cls = am_R τ.1 ∧ (τ.2.2.2.2.2.2.1 = true → τ.2.1.name = "<init>") ∧ (parseMethodDescriptor τ.2.1.desc).map (fun d => d.parameters.length) = some τ.2.2.2.2.2.1 ∧ τ.2.2.2.1 ≤ 40 ∧ (τ.2.1.cls ≠ "java/lang/invoke/MethodHandle" ∧ τ.2.1.cls ≠ "java/lang/invoke/VarHandle")
set_option maxRecDepth 100000 in
theorem tX8_init_d : am_dec tX8_init = true := by decide +kernel
set_option maxRecDepth 100000 in
theorem tX8_init_k : am_ok tX8_init := ⟨tX8_init_d, am_mem 53 (by decide +kernel) rfl, by decide +kernel, rfl, by decide +kernel, by decide +kernel, by decide, by decide +kernel, by decide +kernel⟩
set_option maxRecDepth 100000 in
theorem tX2_init_d : am_dec tX2_init = true := by decide +kernel
set_option maxRecDepth 100000 in
theorem tX2_init_k : am_ok tX2_init := ⟨tX2_init_d, am_mem 65 (by decide +kernel) rfl, by decide +kernel, rfl, by decide +kernel, by decide +kernel, by decide, by decide +kernel, by decide +kernel⟩
set_option maxRecDepth 100000 in
theorem tX5_init_d : am_dec tX5_init = true := by decide +kernel
set_option maxRecDepth 100000 in
theorem tX5_init_k : am_ok tX5_init := ⟨tX5_init_d, am_mem 87 (by decide +kernel) rfl, by decide +kernel, rfl, by decide +kernel, by decide +kernel, by decide, by decide +kernel, by decide +kernel⟩
set_option maxRecDepth 100000 in
theorem tX4_init_d : am_dec tX4_init = true := by decide +kernel
set_option maxRecDepth 100000 in
theorem tX4_init_k : am_ok tX4_init := ⟨tX4_init_d, am_mem 115 (by decide +kernel) rfl, by decide +kernel, rfl, by decide +kernel, by decide +kernel, by decide, by decide +kernel, by decide +kernel⟩
set_option maxRecDepth 100000 in
theorem tX6_init_d : am_dec tX6_init = true := by decide +kernel
set_option maxRecDepth 100000 in
theorem tX6_init_k : am_ok tX6_init := ⟨tX6_init_d, am_mem 138 (by decide +kernel) rfl, by decide +kernel, rfl, by decide +kernel, by decide +kernel, by decide, by decide +kernel, by decide +kernel⟩
set_option maxRecDepth 100000 in
theorem tX0_init_d : am_dec tX0_init = true := by decide +kernel
set_option maxRecDepth 100000 in
theorem tX0_init_k : am_ok tX0_init := ⟨tX0_init_d, am_mem 150 (by decide +kernel) rfl, by decide +kernel, rfl, by decide +kernel, by decide +kernel, by decide, by decide +kernel, by decide +kernel⟩
set_option maxRecDepth 100000 in
theorem tX3_init_d : am_dec tX3_init = true := by decide +kernel
set_option maxRecDepth 100000 in
theorem tX3_init_k : am_ok tX3_init := ⟨tX3_init_d, am_mem 174 (by decide +kernel) rfl, by decide +kernel, rfl, by decide +kernel, by decide +kernel, by decide, by decide +kernel, by decide +kernel⟩
set_option maxRecDepth 100000 in
theorem tX9_init_d0 : am_decR cX9_init tX9_init_r0 = true := by decide +kernel
set_option maxRecDepth 100000 in
theorem tX9_init_d1 : am_decR cX9_init tX9_init_r1 = true := by decide +kernel
set_option maxRecDepth 100000 in
theorem tX9_init_d2 : am_decR cX9_init tX9_init_r2 = true := by decide +kernel
set_option maxRecDepth 100000 in
theorem tX9_init_d3 : am_decR cX9_init tX9_init_r3 = true := by decide +kernel
set_option maxRecDepth 100000 in
theorem tX9_init_d4 : am_decR cX9_init tX9_init_r4 = true := by decide +kernel
set_option maxRecDepth 100000 in
theorem tX9_init_d5 : am_decR cX9_init tX9_init_r5 = true := by decide +kernel
set_option maxRecDepth 100000 in
theorem tX9_init_d6 : am_decR cX9_init tX9_init_r6 = true := by decide +kernel
set_option maxRecDepth 100000 in
theorem tX9_init_d7 : am_decR cX9_init tX9_init_r7 = true := by decide +kernel
set_option maxRecDepth 100000 in
theorem tX9_init_d8 : am_decR cX9_init tX9_init_r8 = true := by decide +kernel
set_option maxRecDepth 100000 in
theorem tX9_init_d9 : am_decR cX9_init tX9_init_r9 = true := by decide +kernel
set_option maxRecDepth 100000 in
theorem tX9_init_d10 : am_decR cX9_init tX9_init_r10 = true := by decide +kernel
theorem tX9_init_d : am_dec tX9_init = true := am_decC tX9_init_d0 (am_decC tX9_init_d1 (am_decC tX9_init_d2 (am_decC tX9_init_d3 (am_decC tX9_init_d4 (am_decC tX9_init_d5 (am_decC tX9_init_d6 (am_decC tX9_init_d7 (am_decC tX9_init_d8 (am_decC tX9_init_d9 (am_decC tX9_init_d10 (rfl)))))))))))
set_option maxRecDepth 100000 in
theorem tX9_init_k : am_ok tX9_init := ⟨tX9_init_d, am_mem 664 (by decide +kernel) rfl, by decide +kernel, rfl, by decide +kernel, by decide +kernel, by decide, by decide +kernel, by decide +kernel⟩
set_option maxRecDepth 100000 in
theorem tX8_worker_d : am_dec tX8_worker = true := by decide +kernel
set_option maxRecDepth 100000 in
theorem tX8_worker_k : am_ok tX8_worker := ⟨tX8_worker_d, am_mem 227 (by decide +kernel) rfl, by decide +kernel, rfl, by decide +kernel, by decide +kernel, by decide, by decide +kernel, by decide +kernel⟩
set_option maxRecDepth 100000 in
theorem tX8_findGroup_d : am_dec tX8_findGroup = true := by decide +kernel
set_option maxRecDepth 100000 in
theorem tX8_findGroup_k : am_ok tX8_findGroup := ⟨tX8_findGroup_d, am_mem 231 (by decide +kernel) rfl, by decide +kernel, rfl, by decide +kernel, by decide +kernel, by decide, by decide +kernel, by decide +kernel⟩
set_option maxRecDepth 100000 in
theorem tX8_isWithin_d : am_dec tX8_isWithin = true := by decide +kernel
set_option maxRecDepth 100000 in
theorem tX8_isWithin_k : am_ok tX8_isWithin := ⟨tX8_isWithin_d, am_mem 234 (by decide +kernel) rfl, by decide +kernel, rfl, by decide +kernel, by decide +kernel, by decide, by decide +kernel, by decide +kernel⟩
set_option maxRecDepth 100000 in
theorem tX8_isDay_d : am_dec tX8_isDay = true := by decide +kernel
set_option maxRecDepth 100000 in
theorem tX8_isDay_k : am_ok tX8_isDay := ⟨tX8_isDay_d, am_mem 237 (by decide +kernel) rfl, by decide +kernel, rfl, by decide +kernel, by decide +kernel, by decide, by decide +kernel, by decide +kernel⟩
set_option maxRecDepth 100000 in
theorem tX7_init_d : am_dec tX7_init = true := by decide +kernel
set_option maxRecDepth 100000 in
theorem tX7_init_k : am_ok tX7_init := ⟨tX7_init_d, am_mem 241 (by decide +kernel) rfl, by decide +kernel, rfl, by decide +kernel, by decide +kernel, by decide, by decide +kernel, by decide +kernel⟩
set_option maxRecDepth 100000 in
theorem tX1_init_d : am_dec tX1_init = true := by decide +kernel
set_option maxRecDepth 100000 in
theorem tX1_init_k : am_ok tX1_init := ⟨tX1_init_d, am_mem 247 (by decide +kernel) rfl, by decide +kernel, rfl, by decide +kernel, by decide +kernel, by decide, by decide +kernel, by decide +kernel⟩
set_option maxRecDepth 100000 in
theorem tX9_worker_d : am_dec tX9_worker = true := by decide +kernel
set_option maxRecDepth 100000 in
theorem tX9_worker_k : am_ok tX9_worker := ⟨tX9_worker_d, am_mem 836 (by decide +kernel) rfl, by decide +kernel, rfl, by decide +kernel, by decide +kernel, by decide, by decide +kernel, by decide +kernel⟩
set_option maxRecDepth 100000 in
theorem tX9_isGroup_d : am_dec tX9_isGroup = true := by decide +kernel
set_option maxRecDepth 100000 in
theorem tX9_isGroup_k : am_ok tX9_isGroup := ⟨tX9_isGroup_d, am_mem 659 (by decide +kernel) rfl, by decide +kernel, rfl, by decide +kernel, by decide +kernel, by decide, by decide +kernel, by decide +kernel⟩
set_option maxRecDepth 100000 in
theorem tX9_in_d : am_dec tX9_in = true := by decide +kernel
set_option maxRecDepth 100000 in
theorem tX9_in_k : am_ok tX9_in := ⟨tX9_in_d, am_mem 652 (by decide +kernel) rfl, by decide +kernel, rfl, by decide +kernel, by decide +kernel, by decide, by decide +kernel, by decide +kernel⟩
set_option maxRecDepth 100000 in
theorem tX9_isDay_d : am_dec tX9_isDay = true := by decide +kernel
set_option maxRecDepth 100000 in
theorem tX9_isDay_k : am_ok tX9_isDay := ⟨tX9_isDay_d, am_mem 649 (by decide +kernel) rfl, by decide +kernel, rfl, by decide +kernel, by decide +kernel, by decide, by decide +kernel, by decide +kernel⟩
set_option maxRecDepth 100000 in
theorem tX8_feast_d : am_dec tX8_feast = true := by decide +kernel
set_option maxRecDepth 100000 in
theorem tX8_feast_k : am_ok tX8_feast := ⟨tX8_feast_d, am_mem 302 (by decide +kernel) rfl, by decide +kernel, rfl, by decide +kernel, by decide +kernel, by decide, by decide +kernel, by decide +kernel⟩
set_option maxRecDepth 100000 in
theorem tX9_feast_d : am_dec tX9_feast = true := by decide +kernel
set_option maxRecDepth 100000 in
theorem tX9_feast_k : am_ok tX9_feast := ⟨tX9_feast_d, am_mem 646 (by decide +kernel) rfl, by decide +kernel, rfl, by decide +kernel, by decide +kernel, by decide, by decide +kernel, by decide +kernel⟩
set_option maxRecDepth 100000 in
theorem tX8_kind_d : am_dec tX8_kind = true := by decide +kernel
set_option maxRecDepth 100000 in
theorem tX8_kind_k : am_ok tX8_kind := ⟨tX8_kind_d, am_mem 306 (by decide +kernel) rfl, by decide +kernel, rfl, by decide +kernel, by decide +kernel, by decide, by decide +kernel, by decide +kernel⟩
set_option maxRecDepth 100000 in
theorem tX9_kind_d : am_dec tX9_kind = true := by decide +kernel
set_option maxRecDepth 100000 in
theorem tX9_kind_k : am_ok tX9_kind := ⟨tX9_kind_d, am_mem 656 (by decide +kernel) rfl, by decide +kernel, rfl, by decide +kernel, by decide +kernel, by decide, by decide +kernel, by decide +kernel⟩
set_option maxRecDepth 100000 in
theorem tX8_rule_d : am_dec tX8_rule = true := by decide +kernel
set_option maxRecDepth 100000 in
theorem tX8_rule_k : am_ok tX8_rule := ⟨tX8_rule_d, am_mem 310 (by decide +kernel) rfl, by decide +kernel, rfl, by decide +kernel, by decide +kernel, by decide, by decide +kernel, by decide +kernel⟩
set_option maxRecDepth 100000 in
theorem tX8_findRules_d : am_dec tX8_findRules = true := by decide +kernel
set_option maxRecDepth 100000 in
theorem tX8_findRules_k : am_ok tX8_findRules := ⟨tX8_findRules_d, am_mem 314 (by decide +kernel) rfl, by decide +kernel, rfl, by decide +kernel, by decide +kernel, by decide, by decide +kernel, by decide +kernel⟩
set_option maxRecDepth 100000 in
theorem tX8_isRoundStep_d : am_dec tX8_isRoundStep = true := by decide +kernel
set_option maxRecDepth 100000 in
theorem tX8_isRoundStep_k : am_ok tX8_isRoundStep := ⟨tX8_isRoundStep_d, am_mem 321 (by decide +kernel) rfl, by decide +kernel, rfl, by decide +kernel, by decide +kernel, by decide, by decide +kernel, by decide +kernel⟩
set_option maxRecDepth 100000 in
theorem tX9_rule_d : am_dec tX9_rule = true := by decide +kernel
set_option maxRecDepth 100000 in
theorem tX9_rule_k : am_ok tX9_rule := ⟨tX9_rule_d, am_mem 810 (by decide +kernel) rfl, by decide +kernel, rfl, by decide +kernel, by decide +kernel, by decide, by decide +kernel, by decide +kernel⟩
set_option maxRecDepth 100000 in
theorem tX8_rate_d : am_dec tX8_rate = true := by decide +kernel
set_option maxRecDepth 100000 in
theorem tX8_rate_k : am_ok tX8_rate := ⟨tX8_rate_d, am_mem 325 (by decide +kernel) rfl, by decide +kernel, rfl, by decide +kernel, by decide +kernel, by decide, by decide +kernel, by decide +kernel⟩
set_option maxRecDepth 100000 in
theorem tX2_add_d : am_dec tX2_add = true := by decide +kernel
set_option maxRecDepth 100000 in
theorem tX2_add_k : am_ok tX2_add := ⟨tX2_add_d, am_mem 330 (by decide +kernel) rfl, by decide +kernel, rfl, by decide +kernel, by decide +kernel, by decide, by decide +kernel, by decide +kernel⟩
set_option maxRecDepth 100000 in
theorem tX9_rate_d : am_dec tX9_rate = true := by decide +kernel
set_option maxRecDepth 100000 in
theorem tX9_rate_k : am_ok tX9_rate := ⟨tX9_rate_d, am_mem 814 (by decide +kernel) rfl, by decide +kernel, rfl, by decide +kernel, by decide +kernel, by decide, by decide +kernel, by decide +kernel⟩
set_option maxRecDepth 100000 in
theorem tX8_surcharge_d : am_dec tX8_surcharge = true := by decide +kernel
set_option maxRecDepth 100000 in
theorem tX8_surcharge_k : am_ok tX8_surcharge := ⟨tX8_surcharge_d, am_mem 334 (by decide +kernel) rfl, by decide +kernel, rfl, by decide +kernel, by decide +kernel, by decide, by decide +kernel, by decide +kernel⟩
set_option maxRecDepth 100000 in
theorem tX8_isMinuteOfDay_d : am_dec tX8_isMinuteOfDay = true := by decide +kernel
set_option maxRecDepth 100000 in
theorem tX8_isMinuteOfDay_k : am_ok tX8_isMinuteOfDay := ⟨tX8_isMinuteOfDay_d, am_mem 337 (by decide +kernel) rfl, by decide +kernel, rfl, by decide +kernel, by decide +kernel, by decide, by decide +kernel, by decide +kernel⟩
set_option maxRecDepth 100000 in
theorem tX5_add_d : am_dec tX5_add = true := by decide +kernel
set_option maxRecDepth 100000 in
theorem tX5_add_k : am_ok tX5_add := ⟨tX5_add_d, am_mem 341 (by decide +kernel) rfl, by decide +kernel, rfl, by decide +kernel, by decide +kernel, by decide, by decide +kernel, by decide +kernel⟩
set_option maxRecDepth 100000 in
theorem tX9_surcharge_d : am_dec tX9_surcharge = true := by decide +kernel
set_option maxRecDepth 100000 in
theorem tX9_surcharge_k : am_ok tX9_surcharge := ⟨tX9_surcharge_d, am_mem 819 (by decide +kernel) rfl, by decide +kernel, rfl, by decide +kernel, by decide +kernel, by decide, by decide +kernel, by decide +kernel⟩
set_option maxRecDepth 100000 in
theorem tX8_exclude_d : am_dec tX8_exclude = true := by decide +kernel
set_option maxRecDepth 100000 in
theorem tX8_exclude_k : am_ok tX8_exclude := ⟨tX8_exclude_d, am_mem 345 (by decide +kernel) rfl, by decide +kernel, rfl, by decide +kernel, by decide +kernel, by decide, by decide +kernel, by decide +kernel⟩
set_option maxRecDepth 100000 in
theorem tX5_has_d : am_dec tX5_has = true := by decide +kernel
set_option maxRecDepth 100000 in
theorem tX5_has_k : am_ok tX5_has := ⟨tX5_has_d, am_mem 349 (by decide +kernel) rfl, by decide +kernel, rfl, by decide +kernel, by decide +kernel, by decide, by decide +kernel, by decide +kernel⟩
set_option maxRecDepth 100000 in
theorem tX5_setApart_d : am_dec tX5_setApart = true := by decide +kernel
set_option maxRecDepth 100000 in
theorem tX5_setApart_k : am_ok tX5_setApart := ⟨tX5_setApart_d, am_mem 353 (by decide +kernel) rfl, by decide +kernel, rfl, by decide +kernel, by decide +kernel, by decide, by decide +kernel, by decide +kernel⟩
set_option maxRecDepth 100000 in
theorem tX9_exclude_d : am_dec tX9_exclude = true := by decide +kernel
set_option maxRecDepth 100000 in
theorem tX9_exclude_k : am_ok tX9_exclude := ⟨tX9_exclude_d, am_mem 823 (by decide +kernel) rfl, by decide +kernel, rfl, by decide +kernel, by decide +kernel, by decide, by decide +kernel, by decide +kernel⟩
set_option maxRecDepth 100000 in
theorem tX8_target_d : am_dec tX8_target = true := by decide +kernel
set_option maxRecDepth 100000 in
theorem tX8_target_k : am_ok tX8_target := ⟨tX8_target_d, am_mem 357 (by decide +kernel) rfl, by decide +kernel, rfl, by decide +kernel, by decide +kernel, by decide, by decide +kernel, by decide +kernel⟩
set_option maxRecDepth 100000 in
theorem tX9_target_d : am_dec tX9_target = true := by decide +kernel
set_option maxRecDepth 100000 in
theorem tX9_target_k : am_ok tX9_target := ⟨tX9_target_d, am_mem 827 (by decide +kernel) rfl, by decide +kernel, rfl, by decide +kernel, by decide +kernel, by decide, by decide +kernel, by decide +kernel⟩
set_option maxRecDepth 100000 in
theorem tX8_limits_d : am_dec tX8_limits = true := by decide +kernel
set_option maxRecDepth 100000 in
theorem tX8_limits_k : am_ok tX8_limits := ⟨tX8_limits_d, am_mem 361 (by decide +kernel) rfl, by decide +kernel, rfl, by decide +kernel, by decide +kernel, by decide, by decide +kernel, by decide +kernel⟩
set_option maxRecDepth 100000 in
theorem tX9_limits_d : am_dec tX9_limits = true := by decide +kernel
set_option maxRecDepth 100000 in
theorem tX9_limits_k : am_ok tX9_limits := ⟨tX9_limits_d, am_mem 831 (by decide +kernel) rfl, by decide +kernel, rfl, by decide +kernel, by decide +kernel, by decide, by decide +kernel, by decide +kernel⟩
set_option maxRecDepth 100000 in
theorem tX8_absent_d : am_dec tX8_absent = true := by decide +kernel
set_option maxRecDepth 100000 in
theorem tX8_absent_k : am_ok tX8_absent := ⟨tX8_absent_d, am_mem 366 (by decide +kernel) rfl, by decide +kernel, rfl, by decide +kernel, by decide +kernel, by decide, by decide +kernel, by decide +kernel⟩
set_option maxRecDepth 100000 in
theorem tX8_findWorker_d : am_dec tX8_findWorker = true := by decide +kernel
set_option maxRecDepth 100000 in
theorem tX8_findWorker_k : am_ok tX8_findWorker := ⟨tX8_findWorker_d, am_mem 370 (by decide +kernel) rfl, by decide +kernel, rfl, by decide +kernel, by decide +kernel, by decide, by decide +kernel, by decide +kernel⟩
set_option maxRecDepth 100000 in
theorem tX7_addAbsence_d : am_dec tX7_addAbsence = true := by decide +kernel
set_option maxRecDepth 100000 in
theorem tX7_addAbsence_k : am_ok tX7_addAbsence := ⟨tX7_addAbsence_d, am_mem 374 (by decide +kernel) rfl, by decide +kernel, rfl, by decide +kernel, by decide +kernel, by decide, by decide +kernel, by decide +kernel⟩
set_option maxRecDepth 100000 in
theorem tX9_absent_d : am_dec tX9_absent = true := by decide +kernel
set_option maxRecDepth 100000 in
theorem tX9_absent_k : am_ok tX9_absent := ⟨tX9_absent_d, am_mem 840 (by decide +kernel) rfl, by decide +kernel, rfl, by decide +kernel, by decide +kernel, by decide, by decide +kernel, by decide +kernel⟩
set_option maxRecDepth 100000 in
theorem tX9_isWorker_d : am_dec tX9_isWorker = true := by decide +kernel
set_option maxRecDepth 100000 in
theorem tX9_isWorker_k : am_ok tX9_isWorker := ⟨tX9_isWorker_d, am_mem 844 (by decide +kernel) rfl, by decide +kernel, rfl, by decide +kernel, by decide +kernel, by decide, by decide +kernel, by decide +kernel⟩
set_option maxRecDepth 100000 in
theorem tX8_mark_d : am_dec tX8_mark = true := by decide +kernel
set_option maxRecDepth 100000 in
theorem tX8_mark_k : am_ok tX8_mark := ⟨tX8_mark_d, am_mem 378 (by decide +kernel) rfl, by decide +kernel, rfl, by decide +kernel, by decide +kernel, by decide, by decide +kernel, by decide +kernel⟩
set_option maxRecDepth 100000 in
theorem tX8_enter_d : am_dec tX8_enter = true := by decide +kernel
set_option maxRecDepth 100000 in
theorem tX8_enter_k : am_ok tX8_enter := ⟨tX8_enter_d, am_mem 382 (by decide +kernel) rfl, by decide +kernel, rfl, by decide +kernel, by decide +kernel, by decide, by decide +kernel, by decide +kernel⟩
set_option maxRecDepth 100000 in
theorem tX8_timeOf_d : am_dec tX8_timeOf = true := by decide +kernel
set_option maxRecDepth 100000 in
theorem tX8_timeOf_k : am_ok tX8_timeOf := ⟨tX8_timeOf_d, am_mem 385 (by decide +kernel) rfl, by decide +kernel, rfl, by decide +kernel, by decide +kernel, by decide, by decide +kernel, by decide +kernel⟩
set_option maxRecDepth 100000 in
theorem tX1_standsAt_d : am_dec tX1_standsAt = true := by decide +kernel
set_option maxRecDepth 100000 in
theorem tX1_standsAt_k : am_ok tX1_standsAt := ⟨tX1_standsAt_d, am_mem 389 (by decide +kernel) rfl, by decide +kernel, rfl, by decide +kernel, by decide +kernel, by decide, by decide +kernel, by decide +kernel⟩
set_option maxRecDepth 100000 in
theorem tX1_placeOf_d : am_dec tX1_placeOf = true := by decide +kernel
set_option maxRecDepth 100000 in
theorem tX1_placeOf_k : am_ok tX1_placeOf := ⟨tX1_placeOf_d, am_mem 393 (by decide +kernel) rfl, by decide +kernel, rfl, by decide +kernel, by decide +kernel, by decide, by decide +kernel, by decide +kernel⟩
set_option maxRecDepth 100000 in
theorem tX8_isClosed_d : am_dec tX8_isClosed = true := by decide +kernel
set_option maxRecDepth 100000 in
theorem tX8_isClosed_k : am_ok tX8_isClosed := ⟨tX8_isClosed_d, am_mem 397 (by decide +kernel) rfl, by decide +kernel, rfl, by decide +kernel, by decide +kernel, by decide, by decide +kernel, by decide +kernel⟩
set_option maxRecDepth 100000 in
theorem tX8_monthOf_d : am_dec tX8_monthOf = true := by decide +kernel
set_option maxRecDepth 100000 in
theorem tX8_monthOf_k : am_ok tX8_monthOf := ⟨tX8_monthOf_d, am_mem 400 (by decide +kernel) rfl, by decide +kernel, rfl, by decide +kernel, by decide +kernel, by decide, by decide +kernel, by decide +kernel⟩
set_option maxRecDepth 100000 in
theorem tX8_bookClosedDays_d : am_dec tX8_bookClosedDays = true := by decide +kernel
set_option maxRecDepth 100000 in
theorem tX8_bookClosedDays_k : am_ok tX8_bookClosedDays := ⟨tX8_bookClosedDays_d, am_mem 406 (by decide +kernel) rfl, by decide +kernel, rfl, by decide +kernel, by decide +kernel, by decide, by decide +kernel, by decide +kernel⟩
set_option maxRecDepth 100000 in
theorem tX8_tallyDays_d : am_dec tX8_tallyDays = true := by decide +kernel
set_option maxRecDepth 100000 in
theorem tX8_tallyDays_k : am_ok tX8_tallyDays := ⟨tX8_tallyDays_d, am_mem 410 (by decide +kernel) rfl, by decide +kernel, rfl, by decide +kernel, by decide +kernel, by decide, by decide +kernel, by decide +kernel⟩
set_option maxRecDepth 100000 in
theorem tX1_dayOf_d : am_dec tX1_dayOf = true := by decide +kernel
set_option maxRecDepth 100000 in
theorem tX1_dayOf_k : am_ok tX1_dayOf := ⟨tX1_dayOf_d, am_mem 415 (by decide +kernel) rfl, by decide +kernel, rfl, by decide +kernel, by decide +kernel, by decide, by decide +kernel, by decide +kernel⟩
set_option maxRecDepth 100000 in
theorem tX8_kindOf_d : am_dec tX8_kindOf = true := by decide +kernel
set_option maxRecDepth 100000 in
theorem tX8_kindOf_k : am_ok tX8_kindOf := ⟨tX8_kindOf_d, am_mem 419 (by decide +kernel) rfl, by decide +kernel, rfl, by decide +kernel, by decide +kernel, by decide, by decide +kernel, by decide +kernel⟩
set_option maxRecDepth 100000 in
theorem tX4_fill_d0 : am_decR cX4_fill tX4_fill_r0 = true := by decide +kernel
set_option maxRecDepth 100000 in
theorem tX4_fill_d1 : am_decR cX4_fill tX4_fill_r1 = true := by decide +kernel
set_option maxRecDepth 100000 in
theorem tX4_fill_d2 : am_decR cX4_fill tX4_fill_r2 = true := by decide +kernel
set_option maxRecDepth 100000 in
theorem tX4_fill_d3 : am_decR cX4_fill tX4_fill_r3 = true := by decide +kernel
set_option maxRecDepth 100000 in
theorem tX4_fill_d4 : am_decR cX4_fill tX4_fill_r4 = true := by decide +kernel
set_option maxRecDepth 100000 in
theorem tX4_fill_d5 : am_decR cX4_fill tX4_fill_r5 = true := by decide +kernel
set_option maxRecDepth 100000 in
theorem tX4_fill_d6 : am_decR cX4_fill tX4_fill_r6 = true := by decide +kernel
theorem tX4_fill_d : am_dec tX4_fill = true := am_decC tX4_fill_d0 (am_decC tX4_fill_d1 (am_decC tX4_fill_d2 (am_decC tX4_fill_d3 (am_decC tX4_fill_d4 (am_decC tX4_fill_d5 (am_decC tX4_fill_d6 (rfl)))))))
set_option maxRecDepth 100000 in
theorem tX4_fill_k : am_ok tX4_fill := ⟨tX4_fill_d, am_mem 423 (by decide +kernel) rfl, by decide +kernel, rfl, by decide +kernel, by decide +kernel, by decide, by decide +kernel, by decide +kernel⟩
set_option maxRecDepth 100000 in
theorem tX4_layShift_d : am_dec tX4_layShift = true := by decide +kernel
set_option maxRecDepth 100000 in
theorem tX4_layShift_k : am_ok tX4_layShift := ⟨tX4_layShift_d, am_mem 428 (by decide +kernel) rfl, by decide +kernel, rfl, by decide +kernel, by decide +kernel, by decide, by decide +kernel, by decide +kernel⟩
set_option maxRecDepth 100000 in
theorem tX1_endOf_d : am_dec tX1_endOf = true := by decide +kernel
set_option maxRecDepth 100000 in
theorem tX1_endOf_k : am_ok tX1_endOf := ⟨tX1_endOf_d, am_mem 432 (by decide +kernel) rfl, by decide +kernel, rfl, by decide +kernel, by decide +kernel, by decide, by decide +kernel, by decide +kernel⟩
set_option maxRecDepth 100000 in
theorem tX4_add_d : am_dec tX4_add = true := by decide +kernel
set_option maxRecDepth 100000 in
theorem tX4_add_k : am_ok tX4_add := ⟨tX4_add_d, am_mem 436 (by decide +kernel) rfl, by decide +kernel, rfl, by decide +kernel, by decide +kernel, by decide, by decide +kernel, by decide +kernel⟩
set_option maxRecDepth 100000 in
theorem tX4_applyRound_d : am_dec tX4_applyRound = true := by decide +kernel
set_option maxRecDepth 100000 in
theorem tX4_applyRound_k : am_ok tX4_applyRound := ⟨tX4_applyRound_d, am_mem 440 (by decide +kernel) rfl, by decide +kernel, rfl, by decide +kernel, by decide +kernel, by decide, by decide +kernel, by decide +kernel⟩
set_option maxRecDepth 100000 in
theorem tX4_takeOutside_d : am_dec tX4_takeOutside = true := by decide +kernel
set_option maxRecDepth 100000 in
theorem tX4_takeOutside_k : am_ok tX4_takeOutside := ⟨tX4_takeOutside_d, am_mem 444 (by decide +kernel) rfl, by decide +kernel, rfl, by decide +kernel, by decide +kernel, by decide, by decide +kernel, by decide +kernel⟩
set_option maxRecDepth 100000 in
theorem tX4_cutAt_d : am_dec tX4_cutAt = true := by decide +kernel
set_option maxRecDepth 100000 in
theorem tX4_cutAt_k : am_ok tX4_cutAt := ⟨tX4_cutAt_d, am_mem 448 (by decide +kernel) rfl, by decide +kernel, rfl, by decide +kernel, by decide +kernel, by decide, by decide +kernel, by decide +kernel⟩
set_option maxRecDepth 100000 in
theorem tX4_amountOf_d : am_dec tX4_amountOf = true := by decide +kernel
set_option maxRecDepth 100000 in
theorem tX4_amountOf_k : am_ok tX4_amountOf := ⟨tX4_amountOf_d, am_mem 455 (by decide +kernel) rfl, by decide +kernel, rfl, by decide +kernel, by decide +kernel, by decide, by decide +kernel, by decide +kernel⟩
set_option maxRecDepth 100000 in
theorem tX4_turnBehind_d : am_dec tX4_turnBehind = true := by decide +kernel
set_option maxRecDepth 100000 in
theorem tX4_turnBehind_k : am_ok tX4_turnBehind := ⟨tX4_turnBehind_d, am_mem 459 (by decide +kernel) rfl, by decide +kernel, rfl, by decide +kernel, by decide +kernel, by decide, by decide +kernel, by decide +kernel⟩
set_option maxRecDepth 100000 in
theorem tX8_payOfSheet_d : am_dec tX8_payOfSheet = true := by decide +kernel
set_option maxRecDepth 100000 in
theorem tX8_payOfSheet_k : am_ok tX8_payOfSheet := ⟨tX8_payOfSheet_d, am_mem 467 (by decide +kernel) rfl, by decide +kernel, rfl, by decide +kernel, by decide +kernel, by decide, by decide +kernel, by decide +kernel⟩
set_option maxRecDepth 100000 in
theorem tX5_extraOver_d : am_dec tX5_extraOver = true := by decide +kernel
set_option maxRecDepth 100000 in
theorem tX5_extraOver_k : am_ok tX5_extraOver := ⟨tX5_extraOver_d, am_mem 471 (by decide +kernel) rfl, by decide +kernel, rfl, by decide +kernel, by decide +kernel, by decide, by decide +kernel, by decide +kernel⟩
set_option maxRecDepth 100000 in
theorem tX5_steadyFrom_d : am_dec tX5_steadyFrom = true := by decide +kernel
set_option maxRecDepth 100000 in
theorem tX5_steadyFrom_k : am_ok tX5_steadyFrom := ⟨tX5_steadyFrom_d, am_mem 475 (by decide +kernel) rfl, by decide +kernel, rfl, by decide +kernel, by decide +kernel, by decide, by decide +kernel, by decide +kernel⟩
set_option maxRecDepth 100000 in
theorem tX5_wayTo_d : am_dec tX5_wayTo = true := by decide +kernel
set_option maxRecDepth 100000 in
theorem tX5_wayTo_k : am_ok tX5_wayTo := ⟨tX5_wayTo_d, am_mem 478 (by decide +kernel) rfl, by decide +kernel, rfl, by decide +kernel, by decide +kernel, by decide, by decide +kernel, by decide +kernel⟩
set_option maxRecDepth 100000 in
theorem tX5_meeting_d : am_dec tX5_meeting = true := by decide +kernel
set_option maxRecDepth 100000 in
theorem tX5_meeting_k : am_ok tX5_meeting := ⟨tX5_meeting_d, am_mem 486 (by decide +kernel) rfl, by decide +kernel, rfl, by decide +kernel, by decide +kernel, by decide, by decide +kernel, by decide +kernel⟩
set_option maxRecDepth 100000 in
theorem tX5_spans_d : am_dec tX5_spans = true := by decide +kernel
set_option maxRecDepth 100000 in
theorem tX5_spans_k : am_ok tX5_spans := ⟨tX5_spans_d, am_mem 490 (by decide +kernel) rfl, by decide +kernel, rfl, by decide +kernel, by decide +kernel, by decide, by decide +kernel, by decide +kernel⟩
set_option maxRecDepth 100000 in
theorem tX5_countingOf_d : am_dec tX5_countingOf = true := by decide +kernel
set_option maxRecDepth 100000 in
theorem tX5_countingOf_k : am_ok tX5_countingOf := ⟨tX5_countingOf_d, am_mem 494 (by decide +kernel) rfl, by decide +kernel, rfl, by decide +kernel, by decide +kernel, by decide, by decide +kernel, by decide +kernel⟩
set_option maxRecDepth 100000 in
theorem tX5_isBeaten_d : am_dec tX5_isBeaten = true := by decide +kernel
set_option maxRecDepth 100000 in
theorem tX5_isBeaten_k : am_ok tX5_isBeaten := ⟨tX5_isBeaten_d, am_mem 498 (by decide +kernel) rfl, by decide +kernel, rfl, by decide +kernel, by decide +kernel, by decide, by decide +kernel, by decide +kernel⟩
set_option maxRecDepth 100000 in
theorem tX5_extraOf_d : am_dec tX5_extraOf = true := by decide +kernel
set_option maxRecDepth 100000 in
theorem tX5_extraOf_k : am_ok tX5_extraOf := ⟨tX5_extraOf_d, am_mem 502 (by decide +kernel) rfl, by decide +kernel, rfl, by decide +kernel, by decide +kernel, by decide, by decide +kernel, by decide +kernel⟩
set_option maxRecDepth 100000 in
theorem tX2_at_d : am_dec tX2_at = true := by decide +kernel
set_option maxRecDepth 100000 in
theorem tX2_at_k : am_ok tX2_at := ⟨tX2_at_d, am_mem 506 (by decide +kernel) rfl, by decide +kernel, rfl, by decide +kernel, by decide +kernel, by decide, by decide +kernel, by decide +kernel⟩
set_option maxRecDepth 100000 in
theorem tX8_toCents_d : am_dec tX8_toCents = true := by decide +kernel
set_option maxRecDepth 100000 in
theorem tX8_toCents_k : am_ok tX8_toCents := ⟨tX8_toCents_d, am_mem 509 (by decide +kernel) rfl, by decide +kernel, rfl, by decide +kernel, by decide +kernel, by decide, by decide +kernel, by decide +kernel⟩
set_option maxRecDepth 100000 in
theorem tX1_insert_d : am_dec tX1_insert = true := by decide +kernel
set_option maxRecDepth 100000 in
theorem tX1_insert_k : am_ok tX1_insert := ⟨tX1_insert_d, am_mem 515 (by decide +kernel) rfl, by decide +kernel, rfl, by decide +kernel, by decide +kernel, by decide, by decide +kernel, by decide +kernel⟩
set_option maxRecDepth 100000 in
theorem tX1_pairUp_d : am_dec tX1_pairUp = true := by decide +kernel
set_option maxRecDepth 100000 in
theorem tX1_pairUp_k : am_ok tX1_pairUp := ⟨tX1_pairUp_d, am_mem 520 (by decide +kernel) rfl, by decide +kernel, rfl, by decide +kernel, by decide +kernel, by decide, by decide +kernel, by decide +kernel⟩
set_option maxRecDepth 100000 in
theorem tX1_nextState_d : am_dec tX1_nextState = true := by decide +kernel
set_option maxRecDepth 100000 in
theorem tX1_nextState_k : am_ok tX1_nextState := ⟨tX1_nextState_d, am_mem 523 (by decide +kernel) rfl, by decide +kernel, rfl, by decide +kernel, by decide +kernel, by decide, by decide +kernel, by decide +kernel⟩
set_option maxRecDepth 100000 in
theorem tX9_mark_d : am_dec tX9_mark = true := by decide +kernel
set_option maxRecDepth 100000 in
theorem tX9_mark_k : am_ok tX9_mark := ⟨tX9_mark_d, am_mem 929 (by decide +kernel) rfl, by decide +kernel, rfl, by decide +kernel, by decide +kernel, by decide, by decide +kernel, by decide +kernel⟩
set_option maxRecDepth 100000 in
theorem tX9_comes_d0 : am_decR cX9_comes tX9_comes_r0 = true := by decide +kernel
set_option maxRecDepth 100000 in
theorem tX9_comes_d1 : am_decR cX9_comes tX9_comes_r1 = true := by decide +kernel
set_option maxRecDepth 100000 in
theorem tX9_comes_d2 : am_decR cX9_comes tX9_comes_r2 = true := by decide +kernel
set_option maxRecDepth 100000 in
theorem tX9_comes_d3 : am_decR cX9_comes tX9_comes_r3 = true := by decide +kernel
set_option maxRecDepth 100000 in
theorem tX9_comes_d4 : am_decR cX9_comes tX9_comes_r4 = true := by decide +kernel
set_option maxRecDepth 100000 in
theorem tX9_comes_d5 : am_decR cX9_comes tX9_comes_r5 = true := by decide +kernel
set_option maxRecDepth 100000 in
theorem tX9_comes_d6 : am_decR cX9_comes tX9_comes_r6 = true := by decide +kernel
set_option maxRecDepth 100000 in
theorem tX9_comes_d7 : am_decR cX9_comes tX9_comes_r7 = true := by decide +kernel
set_option maxRecDepth 100000 in
theorem tX9_comes_d8 : am_decR cX9_comes tX9_comes_r8 = true := by decide +kernel
set_option maxRecDepth 100000 in
theorem tX9_comes_d9 : am_decR cX9_comes tX9_comes_r9 = true := by decide +kernel
theorem tX9_comes_d : am_dec tX9_comes = true := am_decC tX9_comes_d0 (am_decC tX9_comes_d1 (am_decC tX9_comes_d2 (am_decC tX9_comes_d3 (am_decC tX9_comes_d4 (am_decC tX9_comes_d5 (am_decC tX9_comes_d6 (am_decC tX9_comes_d7 (am_decC tX9_comes_d8 (am_decC tX9_comes_d9 (rfl))))))))))
set_option maxRecDepth 100000 in
theorem tX9_comes_k : am_ok tX9_comes := ⟨tX9_comes_d, am_mem 933 (by decide +kernel) rfl, by decide +kernel, rfl, by decide +kernel, by decide +kernel, by decide, by decide +kernel, by decide +kernel⟩
set_option maxRecDepth 100000 in
theorem tX9_markAt_d : am_dec tX9_markAt = true := by decide +kernel
set_option maxRecDepth 100000 in
theorem tX9_markAt_k : am_ok tX9_markAt := ⟨tX9_markAt_d, am_mem 937 (by decide +kernel) rfl, by decide +kernel, rfl, by decide +kernel, by decide +kernel, by decide, by decide +kernel, by decide +kernel⟩
set_option maxRecDepth 100000 in
theorem tX9_isMark_d : am_dec tX9_isMark = true := by decide +kernel
set_option maxRecDepth 100000 in
theorem tX9_isMark_k : am_ok tX9_isMark := ⟨tX9_isMark_d, am_mem 941 (by decide +kernel) rfl, by decide +kernel, rfl, by decide +kernel, by decide +kernel, by decide, by decide +kernel, by decide +kernel⟩
set_option maxRecDepth 100000 in
theorem tX9_monthOf_d : am_dec tX9_monthOf = true := by decide +kernel
set_option maxRecDepth 100000 in
theorem tX9_monthOf_k : am_ok tX9_monthOf := ⟨tX9_monthOf_d, am_mem 944 (by decide +kernel) rfl, by decide +kernel, rfl, by decide +kernel, by decide +kernel, by decide, by decide +kernel, by decide +kernel⟩
set_option maxRecDepth 100000 in
theorem tX9_length_d : am_dec tX9_length = true := by decide +kernel
set_option maxRecDepth 100000 in
theorem tX9_length_k : am_ok tX9_length := ⟨tX9_length_d, am_mem 854 (by decide +kernel) rfl, by decide +kernel, rfl, by decide +kernel, by decide +kernel, by decide, by decide +kernel, by decide +kernel⟩
set_option maxRecDepth 100000 in
theorem tX9_book_d : am_dec tX9_book = true := by decide +kernel
set_option maxRecDepth 100000 in
theorem tX9_book_k : am_ok tX9_book := ⟨tX9_book_d, am_mem 949 (by decide +kernel) rfl, by decide +kernel, rfl, by decide +kernel, by decide +kernel, by decide, by decide +kernel, by decide +kernel⟩
set_option maxRecDepth 100000 in
theorem tX9_pair_d0 : am_decR cX9_pair tX9_pair_r0 = true := by decide +kernel
set_option maxRecDepth 100000 in
theorem tX9_pair_d1 : am_decR cX9_pair tX9_pair_r1 = true := by decide +kernel
set_option maxRecDepth 100000 in
theorem tX9_pair_d2 : am_decR cX9_pair tX9_pair_r2 = true := by decide +kernel
set_option maxRecDepth 100000 in
theorem tX9_pair_d3 : am_decR cX9_pair tX9_pair_r3 = true := by decide +kernel
set_option maxRecDepth 100000 in
theorem tX9_pair_d4 : am_decR cX9_pair tX9_pair_r4 = true := by decide +kernel
set_option maxRecDepth 100000 in
theorem tX9_pair_d5 : am_decR cX9_pair tX9_pair_r5 = true := by decide +kernel
set_option maxRecDepth 100000 in
theorem tX9_pair_d6 : am_decR cX9_pair tX9_pair_r6 = true := by decide +kernel
set_option maxRecDepth 100000 in
theorem tX9_pair_d7 : am_decR cX9_pair tX9_pair_r7 = true := by decide +kernel
set_option maxRecDepth 100000 in
theorem tX9_pair_d8 : am_decR cX9_pair tX9_pair_r8 = true := by decide +kernel
set_option maxRecDepth 100000 in
theorem tX9_pair_d9 : am_decR cX9_pair tX9_pair_r9 = true := by decide +kernel
theorem tX9_pair_d : am_dec tX9_pair = true := am_decC tX9_pair_d0 (am_decC tX9_pair_d1 (am_decC tX9_pair_d2 (am_decC tX9_pair_d3 (am_decC tX9_pair_d4 (am_decC tX9_pair_d5 (am_decC tX9_pair_d6 (am_decC tX9_pair_d7 (am_decC tX9_pair_d8 (am_decC tX9_pair_d9 (rfl))))))))))
set_option maxRecDepth 100000 in
theorem tX9_pair_k : am_ok tX9_pair := ⟨tX9_pair_d, am_mem 858 (by decide +kernel) rfl, by decide +kernel, rfl, by decide +kernel, by decide +kernel, by decide, by decide +kernel, by decide +kernel⟩
set_option maxRecDepth 100000 in
theorem tX9_firstDay_d : am_dec tX9_firstDay = true := by decide +kernel
set_option maxRecDepth 100000 in
theorem tX9_firstDay_k : am_ok tX9_firstDay := ⟨tX9_firstDay_d, am_mem 851 (by decide +kernel) rfl, by decide +kernel, rfl, by decide +kernel, by decide +kernel, by decide, by decide +kernel, by decide +kernel⟩
set_option maxRecDepth 100000 in
theorem tX9_sumDays_d : am_dec tX9_sumDays = true := by decide +kernel
set_option maxRecDepth 100000 in
theorem tX9_sumDays_k : am_ok tX9_sumDays := ⟨tX9_sumDays_d, am_mem 870 (by decide +kernel) rfl, by decide +kernel, rfl, by decide +kernel, by decide +kernel, by decide, by decide +kernel, by decide +kernel⟩
set_option maxRecDepth 100000 in
theorem tX9_look_d0 : am_decR cX9_look tX9_look_r0 = true := by decide +kernel
set_option maxRecDepth 100000 in
theorem tX9_look_d1 : am_decR cX9_look tX9_look_r1 = true := by decide +kernel
set_option maxRecDepth 100000 in
theorem tX9_look_d2 : am_decR cX9_look tX9_look_r2 = true := by decide +kernel
set_option maxRecDepth 100000 in
theorem tX9_look_d3 : am_decR cX9_look tX9_look_r3 = true := by decide +kernel
set_option maxRecDepth 100000 in
theorem tX9_look_d4 : am_decR cX9_look tX9_look_r4 = true := by decide +kernel
set_option maxRecDepth 100000 in
theorem tX9_look_d5 : am_decR cX9_look tX9_look_r5 = true := by decide +kernel
set_option maxRecDepth 100000 in
theorem tX9_look_d6 : am_decR cX9_look tX9_look_r6 = true := by decide +kernel
set_option maxRecDepth 100000 in
theorem tX9_look_d7 : am_decR cX9_look tX9_look_r7 = true := by decide +kernel
set_option maxRecDepth 100000 in
theorem tX9_look_d8 : am_decR cX9_look tX9_look_r8 = true := by decide +kernel
set_option maxRecDepth 100000 in
theorem tX9_look_d9 : am_decR cX9_look tX9_look_r9 = true := by decide +kernel
set_option maxRecDepth 100000 in
theorem tX9_look_d10 : am_decR cX9_look tX9_look_r10 = true := by decide +kernel
set_option maxRecDepth 100000 in
theorem tX9_look_d11 : am_decR cX9_look tX9_look_r11 = true := by decide +kernel
set_option maxRecDepth 100000 in
theorem tX9_look_d12 : am_decR cX9_look tX9_look_r12 = true := by decide +kernel
set_option maxRecDepth 100000 in
theorem tX9_look_d13 : am_decR cX9_look tX9_look_r13 = true := by decide +kernel
set_option maxRecDepth 100000 in
theorem tX9_look_d14 : am_decR cX9_look tX9_look_r14 = true := by decide +kernel
theorem tX9_look_d : am_dec tX9_look = true := am_decC tX9_look_d0 (am_decC tX9_look_d1 (am_decC tX9_look_d2 (am_decC tX9_look_d3 (am_decC tX9_look_d4 (am_decC tX9_look_d5 (am_decC tX9_look_d6 (am_decC tX9_look_d7 (am_decC tX9_look_d8 (am_decC tX9_look_d9 (am_decC tX9_look_d10 (am_decC tX9_look_d11 (am_decC tX9_look_d12 (am_decC tX9_look_d13 (am_decC tX9_look_d14 (rfl)))))))))))))))
set_option maxRecDepth 100000 in
theorem tX9_look_k : am_ok tX9_look := ⟨tX9_look_d, am_mem 874 (by decide +kernel) rfl, by decide +kernel, rfl, by decide +kernel, by decide +kernel, by decide, by decide +kernel, by decide +kernel⟩
set_option maxRecDepth 100000 in
theorem tX9_fill_d : am_dec tX9_fill = true := by decide +kernel
set_option maxRecDepth 100000 in
theorem tX9_fill_k : am_ok tX9_fill := ⟨tX9_fill_d, am_mem 878 (by decide +kernel) rfl, by decide +kernel, rfl, by decide +kernel, by decide +kernel, by decide, by decide +kernel, by decide +kernel⟩
set_option maxRecDepth 100000 in
theorem tX9_kindOf_d : am_dec tX9_kindOf = true := by decide +kernel
set_option maxRecDepth 100000 in
theorem tX9_kindOf_k : am_ok tX9_kindOf := ⟨tX9_kindOf_d, am_mem 882 (by decide +kernel) rfl, by decide +kernel, rfl, by decide +kernel, by decide +kernel, by decide, by decide +kernel, by decide +kernel⟩
set_option maxRecDepth 100000 in
theorem tX9_lay_d0 : am_decR cX9_lay tX9_lay_r0 = true := by decide +kernel
set_option maxRecDepth 100000 in
theorem tX9_lay_d1 : am_decR cX9_lay tX9_lay_r1 = true := by decide +kernel
set_option maxRecDepth 100000 in
theorem tX9_lay_d2 : am_decR cX9_lay tX9_lay_r2 = true := by decide +kernel
set_option maxRecDepth 100000 in
theorem tX9_lay_d3 : am_decR cX9_lay tX9_lay_r3 = true := by decide +kernel
set_option maxRecDepth 100000 in
theorem tX9_lay_d4 : am_decR cX9_lay tX9_lay_r4 = true := by decide +kernel
set_option maxRecDepth 100000 in
theorem tX9_lay_d5 : am_decR cX9_lay tX9_lay_r5 = true := by decide +kernel
set_option maxRecDepth 100000 in
theorem tX9_lay_d6 : am_decR cX9_lay tX9_lay_r6 = true := by decide +kernel
set_option maxRecDepth 100000 in
theorem tX9_lay_d7 : am_decR cX9_lay tX9_lay_r7 = true := by decide +kernel
theorem tX9_lay_d : am_dec tX9_lay = true := am_decC tX9_lay_d0 (am_decC tX9_lay_d1 (am_decC tX9_lay_d2 (am_decC tX9_lay_d3 (am_decC tX9_lay_d4 (am_decC tX9_lay_d5 (am_decC tX9_lay_d6 (am_decC tX9_lay_d7 (rfl))))))))
set_option maxRecDepth 100000 in
theorem tX9_lay_k : am_ok tX9_lay := ⟨tX9_lay_d, am_mem 886 (by decide +kernel) rfl, by decide +kernel, rfl, by decide +kernel, by decide +kernel, by decide, by decide +kernel, by decide +kernel⟩
set_option maxRecDepth 100000 in
theorem tX9_there_d : am_dec tX9_there = true := by decide +kernel
set_option maxRecDepth 100000 in
theorem tX9_there_k : am_ok tX9_there := ⟨tX9_there_d, am_mem 890 (by decide +kernel) rfl, by decide +kernel, rfl, by decide +kernel, by decide +kernel, by decide, by decide +kernel, by decide +kernel⟩
set_option maxRecDepth 100000 in
theorem tX9_behind_d : am_dec tX9_behind = true := by decide +kernel
set_option maxRecDepth 100000 in
theorem tX9_behind_k : am_ok tX9_behind := ⟨tX9_behind_d, am_mem 894 (by decide +kernel) rfl, by decide +kernel, rfl, by decide +kernel, by decide +kernel, by decide, by decide +kernel, by decide +kernel⟩
set_option maxRecDepth 100000 in
theorem tX9_paid_d : am_dec tX9_paid = true := by decide +kernel
set_option maxRecDepth 100000 in
theorem tX9_paid_k : am_ok tX9_paid := ⟨tX9_paid_d, am_mem 898 (by decide +kernel) rfl, by decide +kernel, rfl, by decide +kernel, by decide +kernel, by decide, by decide +kernel, by decide +kernel⟩
set_option maxRecDepth 100000 in
theorem tX9_pay_d0 : am_decR cX9_pay tX9_pay_r0 = true := by decide +kernel
set_option maxRecDepth 100000 in
theorem tX9_pay_d1 : am_decR cX9_pay tX9_pay_r1 = true := by decide +kernel
set_option maxRecDepth 100000 in
theorem tX9_pay_d2 : am_decR cX9_pay tX9_pay_r2 = true := by decide +kernel
set_option maxRecDepth 100000 in
theorem tX9_pay_d3 : am_decR cX9_pay tX9_pay_r3 = true := by decide +kernel
set_option maxRecDepth 100000 in
theorem tX9_pay_d4 : am_decR cX9_pay tX9_pay_r4 = true := by decide +kernel
set_option maxRecDepth 100000 in
theorem tX9_pay_d5 : am_decR cX9_pay tX9_pay_r5 = true := by decide +kernel
set_option maxRecDepth 100000 in
theorem tX9_pay_d6 : am_decR cX9_pay tX9_pay_r6 = true := by decide +kernel
theorem tX9_pay_d : am_dec tX9_pay = true := am_decC tX9_pay_d0 (am_decC tX9_pay_d1 (am_decC tX9_pay_d2 (am_decC tX9_pay_d3 (am_decC tX9_pay_d4 (am_decC tX9_pay_d5 (am_decC tX9_pay_d6 (rfl)))))))
set_option maxRecDepth 100000 in
theorem tX9_pay_k : am_ok tX9_pay := ⟨tX9_pay_d, am_mem 902 (by decide +kernel) rfl, by decide +kernel, rfl, by decide +kernel, by decide +kernel, by decide, by decide +kernel, by decide +kernel⟩
set_option maxRecDepth 100000 in
theorem tX9_countsAt_d : am_dec tX9_countsAt = true := by decide +kernel
set_option maxRecDepth 100000 in
theorem tX9_countsAt_k : am_ok tX9_countsAt := ⟨tX9_countsAt_d, am_mem 906 (by decide +kernel) rfl, by decide +kernel, rfl, by decide +kernel, by decide +kernel, by decide, by decide +kernel, by decide +kernel⟩
set_option maxRecDepth 100000 in
theorem tX9_meets_d : am_dec tX9_meets = true := by decide +kernel
set_option maxRecDepth 100000 in
theorem tX9_meets_k : am_ok tX9_meets := ⟨tX9_meets_d, am_mem 910 (by decide +kernel) rfl, by decide +kernel, rfl, by decide +kernel, by decide +kernel, by decide, by decide +kernel, by decide +kernel⟩
set_option maxRecDepth 100000 in
theorem tX9_rateOf_d : am_dec tX9_rateOf = true := by decide +kernel
set_option maxRecDepth 100000 in
theorem tX9_rateOf_k : am_ok tX9_rateOf := ⟨tX9_rateOf_d, am_mem 914 (by decide +kernel) rfl, by decide +kernel, rfl, by decide +kernel, by decide +kernel, by decide, by decide +kernel, by decide +kernel⟩
set_option maxRecDepth 100000 in
theorem tX8_late_d : am_dec tX8_late = true := by decide +kernel
set_option maxRecDepth 100000 in
theorem tX8_late_k : am_ok tX8_late := ⟨tX8_late_d, am_mem 527 (by decide +kernel) rfl, by decide +kernel, rfl, by decide +kernel, by decide +kernel, by decide, by decide +kernel, by decide +kernel⟩
set_option maxRecDepth 100000 in
theorem tX9_late_d : am_dec tX9_late = true := by decide +kernel
set_option maxRecDepth 100000 in
theorem tX9_late_k : am_ok tX9_late := ⟨tX9_late_d, am_mem 953 (by decide +kernel) rfl, by decide +kernel, rfl, by decide +kernel, by decide +kernel, by decide, by decide +kernel, by decide +kernel⟩
set_option maxRecDepth 100000 in
theorem tX8_unmark_d : am_dec tX8_unmark = true := by decide +kernel
set_option maxRecDepth 100000 in
theorem tX8_unmark_k : am_ok tX8_unmark := ⟨tX8_unmark_d, am_mem 531 (by decide +kernel) rfl, by decide +kernel, rfl, by decide +kernel, by decide +kernel, by decide, by decide +kernel, by decide +kernel⟩
set_option maxRecDepth 100000 in
theorem tX1_remove_d : am_dec tX1_remove = true := by decide +kernel
set_option maxRecDepth 100000 in
theorem tX1_remove_k : am_ok tX1_remove := ⟨tX1_remove_d, am_mem 535 (by decide +kernel) rfl, by decide +kernel, rfl, by decide +kernel, by decide +kernel, by decide, by decide +kernel, by decide +kernel⟩
set_option maxRecDepth 100000 in
theorem tX9_unmark_d0 : am_decR cX9_unmark tX9_unmark_r0 = true := by decide +kernel
set_option maxRecDepth 100000 in
theorem tX9_unmark_d1 : am_decR cX9_unmark tX9_unmark_r1 = true := by decide +kernel
set_option maxRecDepth 100000 in
theorem tX9_unmark_d2 : am_decR cX9_unmark tX9_unmark_r2 = true := by decide +kernel
set_option maxRecDepth 100000 in
theorem tX9_unmark_d3 : am_decR cX9_unmark tX9_unmark_r3 = true := by decide +kernel
set_option maxRecDepth 100000 in
theorem tX9_unmark_d4 : am_decR cX9_unmark tX9_unmark_r4 = true := by decide +kernel
set_option maxRecDepth 100000 in
theorem tX9_unmark_d5 : am_decR cX9_unmark tX9_unmark_r5 = true := by decide +kernel
set_option maxRecDepth 100000 in
theorem tX9_unmark_d6 : am_decR cX9_unmark tX9_unmark_r6 = true := by decide +kernel
theorem tX9_unmark_d : am_dec tX9_unmark = true := am_decC tX9_unmark_d0 (am_decC tX9_unmark_d1 (am_decC tX9_unmark_d2 (am_decC tX9_unmark_d3 (am_decC tX9_unmark_d4 (am_decC tX9_unmark_d5 (am_decC tX9_unmark_d6 (rfl)))))))
set_option maxRecDepth 100000 in
theorem tX9_unmark_k : am_ok tX9_unmark := ⟨tX9_unmark_d, am_mem 957 (by decide +kernel) rfl, by decide +kernel, rfl, by decide +kernel, by decide +kernel, by decide, by decide +kernel, by decide +kernel⟩
set_option maxRecDepth 100000 in
theorem tX8_marked_d : am_dec tX8_marked = true := by decide +kernel
set_option maxRecDepth 100000 in
theorem tX8_marked_k : am_ok tX8_marked := ⟨tX8_marked_d, am_mem 540 (by decide +kernel) rfl, by decide +kernel, rfl, by decide +kernel, by decide +kernel, by decide, by decide +kernel, by decide +kernel⟩
set_option maxRecDepth 100000 in
theorem tX9_marked_d : am_dec tX9_marked = true := by decide +kernel
set_option maxRecDepth 100000 in
theorem tX9_marked_k : am_ok tX9_marked := ⟨tX9_marked_d, am_mem 961 (by decide +kernel) rfl, by decide +kernel, rfl, by decide +kernel, by decide +kernel, by decide, by decide +kernel, by decide +kernel⟩
set_option maxRecDepth 100000 in
theorem tX8_day_d : am_dec tX8_day = true := by decide +kernel
set_option maxRecDepth 100000 in
theorem tX8_day_k : am_ok tX8_day := ⟨tX8_day_d, am_mem 544 (by decide +kernel) rfl, by decide +kernel, rfl, by decide +kernel, by decide +kernel, by decide, by decide +kernel, by decide +kernel⟩
set_option maxRecDepth 100000 in
theorem tX9_day_d : am_dec tX9_day = true := by decide +kernel
set_option maxRecDepth 100000 in
theorem tX9_day_k : am_ok tX9_day := ⟨tX9_day_d, am_mem 965 (by decide +kernel) rfl, by decide +kernel, rfl, by decide +kernel, by decide +kernel, by decide, by decide +kernel, by decide +kernel⟩
set_option maxRecDepth 100000 in
theorem tX8_shifts_d : am_dec tX8_shifts = true := by decide +kernel
set_option maxRecDepth 100000 in
theorem tX8_shifts_k : am_ok tX8_shifts := ⟨tX8_shifts_d, am_mem 548 (by decide +kernel) rfl, by decide +kernel, rfl, by decide +kernel, by decide +kernel, by decide, by decide +kernel, by decide +kernel⟩
set_option maxRecDepth 100000 in
theorem tX1_amountOf_d : am_dec tX1_amountOf = true := by decide +kernel
set_option maxRecDepth 100000 in
theorem tX1_amountOf_k : am_ok tX1_amountOf := ⟨tX1_amountOf_d, am_mem 552 (by decide +kernel) rfl, by decide +kernel, rfl, by decide +kernel, by decide +kernel, by decide, by decide +kernel, by decide +kernel⟩
set_option maxRecDepth 100000 in
theorem tX9_shifts_d : am_dec tX9_shifts = true := by decide +kernel
set_option maxRecDepth 100000 in
theorem tX9_shifts_k : am_ok tX9_shifts := ⟨tX9_shifts_d, am_mem 969 (by decide +kernel) rfl, by decide +kernel, rfl, by decide +kernel, by decide +kernel, by decide, by decide +kernel, by decide +kernel⟩
set_option maxRecDepth 100000 in
theorem tX8_minute_d : am_dec tX8_minute = true := by decide +kernel
set_option maxRecDepth 100000 in
theorem tX8_minute_k : am_ok tX8_minute := ⟨tX8_minute_d, am_mem 558 (by decide +kernel) rfl, by decide +kernel, rfl, by decide +kernel, by decide +kernel, by decide, by decide +kernel, by decide +kernel⟩
set_option maxRecDepth 100000 in
theorem tX8_fillSheet_d : am_dec tX8_fillSheet = true := by decide +kernel
set_option maxRecDepth 100000 in
theorem tX8_fillSheet_k : am_ok tX8_fillSheet := ⟨tX8_fillSheet_d, am_mem 562 (by decide +kernel) rfl, by decide +kernel, rfl, by decide +kernel, by decide +kernel, by decide, by decide +kernel, by decide +kernel⟩
set_option maxRecDepth 100000 in
theorem tX4_classAt_d : am_dec tX4_classAt = true := by decide +kernel
set_option maxRecDepth 100000 in
theorem tX4_classAt_k : am_ok tX4_classAt := ⟨tX4_classAt_d, am_mem 566 (by decide +kernel) rfl, by decide +kernel, rfl, by decide +kernel, by decide +kernel, by decide, by decide +kernel, by decide +kernel⟩
set_option maxRecDepth 100000 in
theorem tX9_minute_d : am_dec tX9_minute = true := by decide +kernel
set_option maxRecDepth 100000 in
theorem tX9_minute_k : am_ok tX9_minute := ⟨tX9_minute_d, am_mem 973 (by decide +kernel) rfl, by decide +kernel, rfl, by decide +kernel, by decide +kernel, by decide, by decide +kernel, by decide +kernel⟩
set_option maxRecDepth 100000 in
theorem tX9_looks_d : am_dec tX9_looks = true := by decide +kernel
set_option maxRecDepth 100000 in
theorem tX9_looks_k : am_ok tX9_looks := ⟨tX9_looks_d, am_mem 977 (by decide +kernel) rfl, by decide +kernel, rfl, by decide +kernel, by decide +kernel, by decide, by decide +kernel, by decide +kernel⟩
set_option maxRecDepth 100000 in
theorem tX8_minutes_d : am_dec tX8_minutes = true := by decide +kernel
set_option maxRecDepth 100000 in
theorem tX8_minutes_k : am_ok tX8_minutes := ⟨tX8_minutes_d, am_mem 570 (by decide +kernel) rfl, by decide +kernel, rfl, by decide +kernel, by decide +kernel, by decide, by decide +kernel, by decide +kernel⟩
set_option maxRecDepth 100000 in
theorem tX9_minutes_d : am_dec tX9_minutes = true := by decide +kernel
set_option maxRecDepth 100000 in
theorem tX9_minutes_k : am_ok tX9_minutes := ⟨tX9_minutes_d, am_mem 981 (by decide +kernel) rfl, by decide +kernel, rfl, by decide +kernel, by decide +kernel, by decide, by decide +kernel, by decide +kernel⟩
set_option maxRecDepth 100000 in
theorem tX8_why_d : am_dec tX8_why = true := by decide +kernel
set_option maxRecDepth 100000 in
theorem tX8_why_k : am_ok tX8_why := ⟨tX8_why_d, am_mem 574 (by decide +kernel) rfl, by decide +kernel, rfl, by decide +kernel, by decide +kernel, by decide, by decide +kernel, by decide +kernel⟩
set_option maxRecDepth 100000 in
theorem tX9_why_d : am_dec tX9_why = true := by decide +kernel
set_option maxRecDepth 100000 in
theorem tX9_why_k : am_ok tX9_why := ⟨tX9_why_d, am_mem 985 (by decide +kernel) rfl, by decide +kernel, rfl, by decide +kernel, by decide +kernel, by decide, by decide +kernel, by decide +kernel⟩
set_option maxRecDepth 100000 in
theorem tX8_counts_d : am_dec tX8_counts = true := by decide +kernel
set_option maxRecDepth 100000 in
theorem tX8_counts_k : am_ok tX8_counts := ⟨tX8_counts_d, am_mem 578 (by decide +kernel) rfl, by decide +kernel, rfl, by decide +kernel, by decide +kernel, by decide, by decide +kernel, by decide +kernel⟩
set_option maxRecDepth 100000 in
theorem tX9_counts_d : am_dec tX9_counts = true := by decide +kernel
set_option maxRecDepth 100000 in
theorem tX9_counts_k : am_ok tX9_counts := ⟨tX9_counts_d, am_mem 989 (by decide +kernel) rfl, by decide +kernel, rfl, by decide +kernel, by decide +kernel, by decide, by decide +kernel, by decide +kernel⟩
set_option maxRecDepth 100000 in
theorem tX8_cents_d : am_dec tX8_cents = true := by decide +kernel
set_option maxRecDepth 100000 in
theorem tX8_cents_k : am_ok tX8_cents := ⟨tX8_cents_d, am_mem 584 (by decide +kernel) rfl, by decide +kernel, rfl, by decide +kernel, by decide +kernel, by decide, by decide +kernel, by decide +kernel⟩
set_option maxRecDepth 100000 in
theorem tX9_cents_d : am_dec tX9_cents = true := by decide +kernel
set_option maxRecDepth 100000 in
theorem tX9_cents_k : am_ok tX9_cents := ⟨tX9_cents_d, am_mem 993 (by decide +kernel) rfl, by decide +kernel, rfl, by decide +kernel, by decide +kernel, by decide, by decide +kernel, by decide +kernel⟩
set_option maxRecDepth 100000 in
theorem tX8_due_d : am_dec tX8_due = true := by decide +kernel
set_option maxRecDepth 100000 in
theorem tX8_due_k : am_ok tX8_due := ⟨tX8_due_d, am_mem 589 (by decide +kernel) rfl, by decide +kernel, rfl, by decide +kernel, by decide +kernel, by decide, by decide +kernel, by decide +kernel⟩
set_option maxRecDepth 100000 in
theorem tX8_dueOf_d : am_dec tX8_dueOf = true := by decide +kernel
set_option maxRecDepth 100000 in
theorem tX8_dueOf_k : am_ok tX8_dueOf := ⟨tX8_dueOf_d, am_mem 593 (by decide +kernel) rfl, by decide +kernel, rfl, by decide +kernel, by decide +kernel, by decide, by decide +kernel, by decide +kernel⟩
set_option maxRecDepth 100000 in
theorem tX7_isAway_d : am_dec tX7_isAway = true := by decide +kernel
set_option maxRecDepth 100000 in
theorem tX7_isAway_k : am_ok tX7_isAway := ⟨tX7_isAway_d, am_mem 597 (by decide +kernel) rfl, by decide +kernel, rfl, by decide +kernel, by decide +kernel, by decide, by decide +kernel, by decide +kernel⟩
set_option maxRecDepth 100000 in
theorem tX9_due_d : am_dec tX9_due = true := by decide +kernel
set_option maxRecDepth 100000 in
theorem tX9_due_k : am_ok tX9_due := ⟨tX9_due_d, am_mem 997 (by decide +kernel) rfl, by decide +kernel, rfl, by decide +kernel, by decide +kernel, by decide, by decide +kernel, by decide +kernel⟩
set_option maxRecDepth 100000 in
theorem tX9_dueOf_d : am_dec tX9_dueOf = true := by decide +kernel
set_option maxRecDepth 100000 in
theorem tX9_dueOf_k : am_ok tX9_dueOf := ⟨tX9_dueOf_d, am_mem 921 (by decide +kernel) rfl, by decide +kernel, rfl, by decide +kernel, by decide +kernel, by decide, by decide +kernel, by decide +kernel⟩
set_option maxRecDepth 100000 in
theorem tX8_close_d : am_dec tX8_close = true := by decide +kernel
set_option maxRecDepth 100000 in
theorem tX8_close_k : am_ok tX8_close := ⟨tX8_close_d, am_mem 601 (by decide +kernel) rfl, by decide +kernel, rfl, by decide +kernel, by decide +kernel, by decide, by decide +kernel, by decide +kernel⟩
set_option maxRecDepth 100000 in
theorem tX8_hasGap_d : am_dec tX8_hasGap = true := by decide +kernel
set_option maxRecDepth 100000 in
theorem tX8_hasGap_k : am_ok tX8_hasGap := ⟨tX8_hasGap_d, am_mem 604 (by decide +kernel) rfl, by decide +kernel, rfl, by decide +kernel, by decide +kernel, by decide, by decide +kernel, by decide +kernel⟩
set_option maxRecDepth 100000 in
theorem tX8_keepSayings_d : am_dec tX8_keepSayings = true := by decide +kernel
set_option maxRecDepth 100000 in
theorem tX8_keepSayings_k : am_ok tX8_keepSayings := ⟨tX8_keepSayings_d, am_mem 608 (by decide +kernel) rfl, by decide +kernel, rfl, by decide +kernel, by decide +kernel, by decide, by decide +kernel, by decide +kernel⟩
set_option maxRecDepth 100000 in
theorem tX8_sayingOf_d : am_dec tX8_sayingOf = true := by decide +kernel
set_option maxRecDepth 100000 in
theorem tX8_sayingOf_k : am_ok tX8_sayingOf := ⟨tX8_sayingOf_d, am_mem 612 (by decide +kernel) rfl, by decide +kernel, rfl, by decide +kernel, by decide +kernel, by decide, by decide +kernel, by decide +kernel⟩
set_option maxRecDepth 100000 in
theorem tX8_openFlex_d : am_dec tX8_openFlex = true := by decide +kernel
set_option maxRecDepth 100000 in
theorem tX8_openFlex_k : am_ok tX8_openFlex := ⟨tX8_openFlex_d, am_mem 616 (by decide +kernel) rfl, by decide +kernel, rfl, by decide +kernel, by decide +kernel, by decide, by decide +kernel, by decide +kernel⟩
set_option maxRecDepth 100000 in
theorem tX9_close_d0 : am_decR cX9_close tX9_close_r0 = true := by decide +kernel
set_option maxRecDepth 100000 in
theorem tX9_close_d1 : am_decR cX9_close tX9_close_r1 = true := by decide +kernel
set_option maxRecDepth 100000 in
theorem tX9_close_d2 : am_decR cX9_close tX9_close_r2 = true := by decide +kernel
set_option maxRecDepth 100000 in
theorem tX9_close_d3 : am_decR cX9_close tX9_close_r3 = true := by decide +kernel
set_option maxRecDepth 100000 in
theorem tX9_close_d4 : am_decR cX9_close tX9_close_r4 = true := by decide +kernel
set_option maxRecDepth 100000 in
theorem tX9_close_d5 : am_decR cX9_close tX9_close_r5 = true := by decide +kernel
set_option maxRecDepth 100000 in
theorem tX9_close_d6 : am_decR cX9_close tX9_close_r6 = true := by decide +kernel
set_option maxRecDepth 100000 in
theorem tX9_close_d7 : am_decR cX9_close tX9_close_r7 = true := by decide +kernel
set_option maxRecDepth 100000 in
theorem tX9_close_d8 : am_decR cX9_close tX9_close_r8 = true := by decide +kernel
theorem tX9_close_d : am_dec tX9_close = true := am_decC tX9_close_d0 (am_decC tX9_close_d1 (am_decC tX9_close_d2 (am_decC tX9_close_d3 (am_decC tX9_close_d4 (am_decC tX9_close_d5 (am_decC tX9_close_d6 (am_decC tX9_close_d7 (am_decC tX9_close_d8 (rfl)))))))))
set_option maxRecDepth 100000 in
theorem tX9_close_k : am_ok tX9_close := ⟨tX9_close_d, am_mem 848 (by decide +kernel) rfl, by decide +kernel, rfl, by decide +kernel, by decide +kernel, by decide, by decide +kernel, by decide +kernel⟩
set_option maxRecDepth 100000 in
theorem tX9_says_d : am_dec tX9_says = true := by decide +kernel
set_option maxRecDepth 100000 in
theorem tX9_says_k : am_ok tX9_says := ⟨tX9_says_d, am_mem 862 (by decide +kernel) rfl, by decide +kernel, rfl, by decide +kernel, by decide +kernel, by decide, by decide +kernel, by decide +kernel⟩
set_option maxRecDepth 100000 in
theorem tX9_flexOf_d : am_dec tX9_flexOf = true := by decide +kernel
set_option maxRecDepth 100000 in
theorem tX9_flexOf_k : am_ok tX9_flexOf := ⟨tX9_flexOf_d, am_mem 866 (by decide +kernel) rfl, by decide +kernel, rfl, by decide +kernel, by decide +kernel, by decide, by decide +kernel, by decide +kernel⟩
set_option maxRecDepth 100000 in
theorem tX8_open_d : am_dec tX8_open = true := by decide +kernel
set_option maxRecDepth 100000 in
theorem tX8_open_k : am_ok tX8_open := ⟨tX8_open_d, am_mem 626 (by decide +kernel) rfl, by decide +kernel, rfl, by decide +kernel, by decide +kernel, by decide, by decide +kernel, by decide +kernel⟩
set_option maxRecDepth 100000 in
theorem tX9_open_d : am_dec tX9_open = true := by decide +kernel
set_option maxRecDepth 100000 in
theorem tX9_open_k : am_ok tX9_open := ⟨tX9_open_d, am_mem 925 (by decide +kernel) rfl, by decide +kernel, rfl, by decide +kernel, by decide +kernel, by decide, by decide +kernel, by decide +kernel⟩
set_option maxRecDepth 100000 in
theorem tX8_month_d : am_dec tX8_month = true := by decide +kernel
set_option maxRecDepth 100000 in
theorem tX8_month_k : am_ok tX8_month := ⟨tX8_month_d, am_mem 630 (by decide +kernel) rfl, by decide +kernel, rfl, by decide +kernel, by decide +kernel, by decide, by decide +kernel, by decide +kernel⟩
set_option maxRecDepth 100000 in
theorem tX8_isMonth_d : am_dec tX8_isMonth = true := by decide +kernel
set_option maxRecDepth 100000 in
theorem tX8_isMonth_k : am_ok tX8_isMonth := ⟨tX8_isMonth_d, am_mem 633 (by decide +kernel) rfl, by decide +kernel, rfl, by decide +kernel, by decide +kernel, by decide, by decide +kernel, by decide +kernel⟩
set_option maxRecDepth 100000 in
theorem tX9_month_d : am_dec tX9_month = true := by decide +kernel
set_option maxRecDepth 100000 in
theorem tX9_month_k : am_ok tX9_month := ⟨tX9_month_d, am_mem 1001 (by decide +kernel) rfl, by decide +kernel, rfl, by decide +kernel, by decide +kernel, by decide, by decide +kernel, by decide +kernel⟩
set_option maxRecDepth 100000 in
theorem tX8_sum_d : am_dec tX8_sum = true := by decide +kernel
set_option maxRecDepth 100000 in
theorem tX8_sum_k : am_ok tX8_sum := ⟨tX8_sum_d, am_mem 638 (by decide +kernel) rfl, by decide +kernel, rfl, by decide +kernel, by decide +kernel, by decide, by decide +kernel, by decide +kernel⟩
set_option maxRecDepth 100000 in
theorem tX9_sum_d : am_dec tX9_sum = true := by decide +kernel
set_option maxRecDepth 100000 in
theorem tX9_sum_k : am_ok tX9_sum := ⟨tX9_sum_d, am_mem 1006 (by decide +kernel) rfl, by decide +kernel, rfl, by decide +kernel, by decide +kernel, by decide, by decide +kernel, by decide +kernel⟩
set_option maxRecDepth 100000 in
theorem tX8_count_d : am_dec tX8_count = true := by decide +kernel
set_option maxRecDepth 100000 in
theorem tX8_count_k : am_ok tX8_count := ⟨tX8_count_d, am_mem 642 (by decide +kernel) rfl, by decide +kernel, rfl, by decide +kernel, by decide +kernel, by decide, by decide +kernel, by decide +kernel⟩
set_option maxRecDepth 100000 in
theorem tX9_count_d : am_dec tX9_count = true := by decide +kernel
set_option maxRecDepth 100000 in
theorem tX9_count_k : am_ok tX9_count := ⟨tX9_count_d, am_mem 1010 (by decide +kernel) rfl, by decide +kernel, rfl, by decide +kernel, by decide +kernel, by decide, by decide +kernel, by decide +kernel⟩
set_option maxRecDepth 100000 in
theorem tL_law_d0 : am_decR code tL_law_r0 = true := by decide +kernel
set_option maxRecDepth 100000 in
theorem tL_law_d1 : am_decR code tL_law_r1 = true := by decide +kernel
set_option maxRecDepth 100000 in
theorem tL_law_d2 : am_decR code tL_law_r2 = true := by decide +kernel
set_option maxRecDepth 100000 in
theorem tL_law_d3 : am_decR code tL_law_r3 = true := by decide +kernel
set_option maxRecDepth 100000 in
theorem tL_law_d4 : am_decR code tL_law_r4 = true := by decide +kernel
set_option maxRecDepth 100000 in
theorem tL_law_d5 : am_decR code tL_law_r5 = true := by decide +kernel
set_option maxRecDepth 100000 in
theorem tL_law_d6 : am_decR code tL_law_r6 = true := by decide +kernel
set_option maxRecDepth 100000 in
theorem tL_law_d7 : am_decR code tL_law_r7 = true := by decide +kernel
set_option maxRecDepth 100000 in
theorem tL_law_d8 : am_decR code tL_law_r8 = true := by decide +kernel
set_option maxRecDepth 100000 in
theorem tL_law_d9 : am_decR code tL_law_r9 = true := by decide +kernel
set_option maxRecDepth 100000 in
theorem tL_law_d10 : am_decR code tL_law_r10 = true := by decide +kernel
set_option maxRecDepth 100000 in
theorem tL_law_d11 : am_decR code tL_law_r11 = true := by decide +kernel
set_option maxRecDepth 100000 in
theorem tL_law_d12 : am_decR code tL_law_r12 = true := by decide +kernel
set_option maxRecDepth 100000 in
theorem tL_law_d13 : am_decR code tL_law_r13 = true := by decide +kernel
set_option maxRecDepth 100000 in
theorem tL_law_d14 : am_decR code tL_law_r14 = true := by decide +kernel
set_option maxRecDepth 100000 in
theorem tL_law_d15 : am_decR code tL_law_r15 = true := by decide +kernel
set_option maxRecDepth 100000 in
theorem tL_law_d16 : am_decR code tL_law_r16 = true := by decide +kernel
set_option maxRecDepth 100000 in
theorem tL_law_d17 : am_decR code tL_law_r17 = true := by decide +kernel
set_option maxRecDepth 100000 in
theorem tL_law_d18 : am_decR code tL_law_r18 = true := by decide +kernel
set_option maxRecDepth 100000 in
theorem tL_law_d19 : am_decR code tL_law_r19 = true := by decide +kernel
set_option maxRecDepth 100000 in
theorem tL_law_d20 : am_decR code tL_law_r20 = true := by decide +kernel
set_option maxRecDepth 100000 in
theorem tL_law_d21 : am_decR code tL_law_r21 = true := by decide +kernel
set_option maxRecDepth 100000 in
theorem tL_law_d22 : am_decR code tL_law_r22 = true := by decide +kernel
set_option maxRecDepth 100000 in
theorem tL_law_d23 : am_decR code tL_law_r23 = true := by decide +kernel
set_option maxRecDepth 100000 in
theorem tL_law_d24 : am_decR code tL_law_r24 = true := by decide +kernel
set_option maxRecDepth 100000 in
theorem tL_law_d25 : am_decR code tL_law_r25 = true := by decide +kernel
set_option maxRecDepth 100000 in
theorem tL_law_d26 : am_decR code tL_law_r26 = true := by decide +kernel
set_option maxRecDepth 100000 in
theorem tL_law_d27 : am_decR code tL_law_r27 = true := by decide +kernel
set_option maxRecDepth 100000 in
theorem tL_law_d28 : am_decR code tL_law_r28 = true := by decide +kernel
set_option maxRecDepth 100000 in
theorem tL_law_d29 : am_decR code tL_law_r29 = true := by decide +kernel
set_option maxRecDepth 100000 in
theorem tL_law_d30 : am_decR code tL_law_r30 = true := by decide +kernel
set_option maxRecDepth 100000 in
theorem tL_law_d31 : am_decR code tL_law_r31 = true := by decide +kernel
set_option maxRecDepth 100000 in
theorem tL_law_d32 : am_decR code tL_law_r32 = true := by decide +kernel
set_option maxRecDepth 100000 in
theorem tL_law_d33 : am_decR code tL_law_r33 = true := by decide +kernel
set_option maxRecDepth 100000 in
theorem tL_law_d34 : am_decR code tL_law_r34 = true := by decide +kernel
set_option maxRecDepth 100000 in
theorem tL_law_d35 : am_decR code tL_law_r35 = true := by decide +kernel
set_option maxRecDepth 100000 in
theorem tL_law_d36 : am_decR code tL_law_r36 = true := by decide +kernel
set_option maxRecDepth 100000 in
theorem tL_law_d37 : am_decR code tL_law_r37 = true := by decide +kernel
set_option maxRecDepth 100000 in
theorem tL_law_d38 : am_decR code tL_law_r38 = true := by decide +kernel
theorem tL_law_d : am_dec tL_law = true := am_decC tL_law_d0 (am_decC tL_law_d1 (am_decC tL_law_d2 (am_decC tL_law_d3 (am_decC tL_law_d4 (am_decC tL_law_d5 (am_decC tL_law_d6 (am_decC tL_law_d7 (am_decC tL_law_d8 (am_decC tL_law_d9 (am_decC tL_law_d10 (am_decC tL_law_d11 (am_decC tL_law_d12 (am_decC tL_law_d13 (am_decC tL_law_d14 (am_decC tL_law_d15 (am_decC tL_law_d16 (am_decC tL_law_d17 (am_decC tL_law_d18 (am_decC tL_law_d19 (am_decC tL_law_d20 (am_decC tL_law_d21 (am_decC tL_law_d22 (am_decC tL_law_d23 (am_decC tL_law_d24 (am_decC tL_law_d25 (am_decC tL_law_d26 (am_decC tL_law_d27 (am_decC tL_law_d28 (am_decC tL_law_d29 (am_decC tL_law_d30 (am_decC tL_law_d31 (am_decC tL_law_d32 (am_decC tL_law_d33 (am_decC tL_law_d34 (am_decC tL_law_d35 (am_decC tL_law_d36 (am_decC tL_law_d37 (am_decC tL_law_d38 (rfl)))))))))))))))))))))))))))))))))))))))
end
section
def am_lk {α : Type} (i : Nat) : List (Nat × α) → Option α
  | [] => none
  | q :: l => bif Nat.beq q.1 i then some q.2 else am_lk i l
theorem am_lk_mem {α : Type} {i : Nat} {x : α} : ∀ {l : List (Nat × α)}, am_lk i l = some x → (i, x) ∈ l
  | [], h => by cases h
  | q :: l, h => by
    unfold am_lk at h
    cases hb : Nat.beq q.1 i with
    | true =>
      rw [hb] at h
      have e1 : q.1 = i := Nat.eq_of_beq_eq_true hb
      have e2 : q.2 = x := Option.some.inj h
      rw [← e1, ← e2]
      exact List.mem_cons_self
    | false =>
      rw [hb] at h
      exact List.mem_cons_of_mem _ (am_lk_mem h)
theorem am_lk_all {α : Type} {P : Nat → Nat → α → Prop} {T : List (List (Nat × α))} (h : ∀ o r, T[o]? = some r → ∀ q ∈ r, P o q.1 q.2) {o i : Nat} {x : α} (e : am_lk i (T.getD o []) = some x) : P o i x := by
  rw [List.getD_eq_getElem?_getD] at e
  cases hg : T[o]? with
  | none => rw [hg] at e; cases e
  | some r =>
    rw [hg] at e
    exact h o r hg _ (am_lk_mem e)
theorem am_11 {α : Type} {P : Nat → List α → Prop} {a0 a1 a2 a3 a4 a5 a6 a7 a8 a9 a10 : List α} (h0 : P 0 a0) (h1 : P 1 a1) (h2 : P 2 a2) (h3 : P 3 a3) (h4 : P 4 a4) (h5 : P 5 a5) (h6 : P 6 a6) (h7 : P 7 a7) (h8 : P 8 a8) (h9 : P 9 a9) (h10 : P 10 a10) : ∀ o r, [a0, a1, a2, a3, a4, a5, a6, a7, a8, a9, a10][o]? = some r → P o r
  | 0, _, h => by cases h; exact h0
  | 1, _, h => by cases h; exact h1
  | 2, _, h => by cases h; exact h2
  | 3, _, h => by cases h; exact h3
  | 4, _, h => by cases h; exact h4
  | 5, _, h => by cases h; exact h5
  | 6, _, h => by cases h; exact h6
  | 7, _, h => by cases h; exact h7
  | 8, _, h => by cases h; exact h8
  | 9, _, h => by cases h; exact h9
  | 10, _, h => by cases h; exact h10
  | n + 11, _, h => by simp at h
def am_Cn (ci : Nat) : vw_C := vwCl.getD ci (RX0, TX0, 5)
/-- 0 int, 1 long, 2 reference -/
def am_fkT : List (List Nat) := [[0, 2, 2, 0, 0], [2, 2, 2, 0], [2, 2, 2, 0], [2, 2], [2, 2, 2, 0], [2, 2, 2, 2, 2, 0], [1, 1], [2, 0, 2, 2, 2, 0, 2], [2, 0, 2, 2, 2, 2, 2, 0, 0, 0, 2, 2], [0, 2, 0, 2, 2, 2, 2, 2, 2, 0, 2, 2, 2, 2, 2, 0, 2, 2, 2, 0, 2, 2, 2, 2, 2, 2, 0, 2, 2, 2, 0, 2, 2, 2, 2, 2, 2, 2, 0, 0, 2, 2, 2, 2, 2, 1, 1]]
def am_fk (ci k : Nat) : Option Nat := (am_fkT.getD ci [])[k]?
def am_fnT : List (List Bool) := [[true, true, true, false, false], [true, true, true, false], [true, true, true, false], [true, true], [true, true, true, false], [true, true, true, true, true, false], [false, false], [true, true, true, true, true, false, true], [true, false, true, true, true, true, true, false, false, false, true, true], [false, true, false, true, true, true, true, true, true, false, true, true, true, true, true, false, true, true, true, false, true, true, true, true, true, true, false, true, true, true, false, true, true, true, true, true, true, true, false, false, true, true, true, true, true, false, false]]
def am_fn (ci k : Nat) : Bool := (am_fnT.getD ci []).getD k true
def am_fl_0 : List (Nat × Nat × Nat) := [(9, 0, 1), (15, 0, 2), (18, 0, 0)]
def am_fl_1 : List (Nat × Nat × Nat) := [(9, 1, 0), (15, 1, 1), (18, 1, 2), (21, 1, 3)]
def am_fl_2 : List (Nat × Nat × Nat) := [(9, 2, 0), (15, 2, 1), (18, 2, 2), (21, 2, 3)]
def am_fl_3 : List (Nat × Nat × Nat) := [(9, 3, 0), (15, 3, 1)]
def am_fl_4 : List (Nat × Nat × Nat) := [(9, 4, 0), (15, 4, 1), (18, 4, 2), (21, 4, 3), (29, 1, 3), (32, 1, 0), (35, 1, 2), (42, 3, 0), (51, 3, 1)]
def am_fl_5 : List (Nat × Nat × Nat) := [(9, 5, 0), (15, 5, 1), (18, 5, 2), (21, 5, 3), (24, 5, 4), (27, 5, 5)]
def am_fl_6 : List (Nat × Nat × Nat) := []
def am_fl_7 : List (Nat × Nat × Nat) := [(12, 7, 2), (18, 7, 3), (22, 7, 4), (27, 7, 6), (30, 7, 0), (34, 7, 1), (38, 7, 5)]
def am_fl_8 : List (Nat × Nat × Nat) := [(9, 8, 0), (15, 8, 2), (21, 8, 3), (28, 8, 4), (35, 8, 5), (41, 8, 6), (48, 8, 10), (55, 8, 11), (71, 8, 7), (78, 8, 1), (85, 0, 1), (102, 3, 0), (105, 3, 1), (109, 2, 3), (119, 5, 5), (130, 0, 2), (134, 0, 3), (137, 0, 4), (144, 7, 5), (159, 7, 2), (178, 8, 8), (181, 1, 3), (182, 1, 0), (185, 1, 1), (188, 1, 2), (211, 7, 0), (231, 8, 9), (255, 7, 1), (268, 7, 6), (272, 6, 0), (276, 6, 1), (289, 4, 3), (290, 4, 2), (293, 4, 1), (296, 4, 0), (303, 0, 0)]
def am_fl_9 : List (Nat × Nat × Nat) := [(15, 9, 19), (18, 9, 3), (22, 9, 1), (30, 9, 2), (42, 9, 4), (45, 9, 5), (48, 9, 6), (51, 9, 7), (54, 9, 8), (57, 9, 10), (60, 9, 11), (63, 9, 12), (66, 9, 13), (69, 9, 14), (72, 9, 16), (75, 9, 17), (78, 9, 18), (81, 9, 20), (84, 9, 21), (87, 9, 22), (90, 9, 23), (93, 9, 24), (96, 9, 25), (99, 9, 27), (102, 9, 28), (105, 9, 29), (108, 9, 31), (111, 9, 32), (114, 9, 33), (117, 9, 34), (120, 9, 35), (123, 9, 36), (126, 9, 37), (129, 9, 40), (133, 9, 41), (136, 9, 42), (139, 9, 43), (142, 9, 44), (146, 9, 9), (149, 9, 15), (156, 9, 30), (163, 9, 38), (197, 9, 45), (201, 9, 46), (214, 9, 39), (246, 9, 26)]
def am_fl_10 : List (Nat × Nat × Nat) := []
def am_fl (o i : Nat) : Option (Nat × Nat) := am_lk i ([am_fl_0, am_fl_1, am_fl_2, am_fl_3, am_fl_4, am_fl_5, am_fl_6, am_fl_7, am_fl_8, am_fl_9, am_fl_10].getD o [])
def am_flP (o i : Nat) (x : Nat × Nat) : Prop := Cond.fieldLink (am_R o) i ((am_Cn x.1).2.1 x.2).1 ((am_Cn x.1).2.1 x.2).2.1 ((am_Cn x.1).2.1 x.2).2.2.1 ∈ am_ws ∧ x.2 < (am_Cn x.1).2.2 ∧ x.1 < 10
set_option maxRecDepth 100000 in
theorem am_fl_a0 : ∀ q ∈ am_fl_0, am_flP 0 q.1 q.2 := List.forall_mem_cons.mpr ⟨⟨am_mem 154 (by decide +kernel) rfl, by decide, by decide⟩, List.forall_mem_cons.mpr ⟨⟨am_mem 156 (by decide +kernel) rfl, by decide, by decide⟩, List.forall_mem_cons.mpr ⟨⟨am_mem 152 (by decide +kernel) rfl, by decide, by decide⟩, fun _ h => absurd h List.not_mem_nil⟩⟩⟩
set_option maxRecDepth 100000 in
theorem am_fl_a1 : ∀ q ∈ am_fl_1, am_flP 1 q.1 q.2 := List.forall_mem_cons.mpr ⟨⟨am_mem 249 (by decide +kernel) rfl, by decide, by decide⟩, List.forall_mem_cons.mpr ⟨⟨am_mem 252 (by decide +kernel) rfl, by decide, by decide⟩, List.forall_mem_cons.mpr ⟨⟨am_mem 254 (by decide +kernel) rfl, by decide, by decide⟩, List.forall_mem_cons.mpr ⟨⟨am_mem 257 (by decide +kernel) rfl, by decide, by decide⟩, fun _ h => absurd h List.not_mem_nil⟩⟩⟩⟩
set_option maxRecDepth 100000 in
theorem am_fl_a2 : ∀ q ∈ am_fl_2, am_flP 2 q.1 q.2 := List.forall_mem_cons.mpr ⟨⟨am_mem 67 (by decide +kernel) rfl, by decide, by decide⟩, List.forall_mem_cons.mpr ⟨⟨am_mem 68 (by decide +kernel) rfl, by decide, by decide⟩, List.forall_mem_cons.mpr ⟨⟨am_mem 69 (by decide +kernel) rfl, by decide, by decide⟩, List.forall_mem_cons.mpr ⟨⟨am_mem 70 (by decide +kernel) rfl, by decide, by decide⟩, fun _ h => absurd h List.not_mem_nil⟩⟩⟩⟩
set_option maxRecDepth 100000 in
theorem am_fl_a3 : ∀ q ∈ am_fl_3, am_flP 3 q.1 q.2 := List.forall_mem_cons.mpr ⟨⟨am_mem 176 (by decide +kernel) rfl, by decide, by decide⟩, List.forall_mem_cons.mpr ⟨⟨am_mem 179 (by decide +kernel) rfl, by decide, by decide⟩, fun _ h => absurd h List.not_mem_nil⟩⟩
set_option maxRecDepth 100000 in
theorem am_fl_a4 : ∀ q ∈ am_fl_4, am_flP 4 q.1 q.2 := List.forall_mem_cons.mpr ⟨⟨am_mem 117 (by decide +kernel) rfl, by decide, by decide⟩, List.forall_mem_cons.mpr ⟨⟨am_mem 119 (by decide +kernel) rfl, by decide, by decide⟩, List.forall_mem_cons.mpr ⟨⟨am_mem 121 (by decide +kernel) rfl, by decide, by decide⟩, List.forall_mem_cons.mpr ⟨⟨am_mem 123 (by decide +kernel) rfl, by decide, by decide⟩, List.forall_mem_cons.mpr ⟨⟨am_mem 258 (by decide +kernel) rfl, by decide, by decide⟩, List.forall_mem_cons.mpr ⟨⟨am_mem 250 (by decide +kernel) rfl, by decide, by decide⟩, List.forall_mem_cons.mpr ⟨⟨am_mem 255 (by decide +kernel) rfl, by decide, by decide⟩, List.forall_mem_cons.mpr ⟨⟨am_mem 177 (by decide +kernel) rfl, by decide, by decide⟩, List.forall_mem_cons.mpr ⟨⟨am_mem 180 (by decide +kernel) rfl, by decide, by decide⟩, fun _ h => absurd h List.not_mem_nil⟩⟩⟩⟩⟩⟩⟩⟩⟩
set_option maxRecDepth 100000 in
theorem am_fl_a5 : ∀ q ∈ am_fl_5, am_flP 5 q.1 q.2 := List.forall_mem_cons.mpr ⟨⟨am_mem 89 (by decide +kernel) rfl, by decide, by decide⟩, List.forall_mem_cons.mpr ⟨⟨am_mem 90 (by decide +kernel) rfl, by decide, by decide⟩, List.forall_mem_cons.mpr ⟨⟨am_mem 91 (by decide +kernel) rfl, by decide, by decide⟩, List.forall_mem_cons.mpr ⟨⟨am_mem 92 (by decide +kernel) rfl, by decide, by decide⟩, List.forall_mem_cons.mpr ⟨⟨am_mem 93 (by decide +kernel) rfl, by decide, by decide⟩, List.forall_mem_cons.mpr ⟨⟨am_mem 94 (by decide +kernel) rfl, by decide, by decide⟩, fun _ h => absurd h List.not_mem_nil⟩⟩⟩⟩⟩⟩
set_option maxRecDepth 100000 in
theorem am_fl_a6 : ∀ q ∈ am_fl_6, am_flP 6 q.1 q.2 := fun _ h => absurd h List.not_mem_nil
set_option maxRecDepth 100000 in
theorem am_fl_a7 : ∀ q ∈ am_fl_7, am_flP 7 q.1 q.2 := List.forall_mem_cons.mpr ⟨⟨am_mem 275 (by decide +kernel) rfl, by decide, by decide⟩, List.forall_mem_cons.mpr ⟨⟨am_mem 277 (by decide +kernel) rfl, by decide, by decide⟩, List.forall_mem_cons.mpr ⟨⟨am_mem 278 (by decide +kernel) rfl, by decide, by decide⟩, List.forall_mem_cons.mpr ⟨⟨am_mem 281 (by decide +kernel) rfl, by decide, by decide⟩, List.forall_mem_cons.mpr ⟨⟨am_mem 271 (by decide +kernel) rfl, by decide, by decide⟩, List.forall_mem_cons.mpr ⟨⟨am_mem 273 (by decide +kernel) rfl, by decide, by decide⟩, List.forall_mem_cons.mpr ⟨⟨am_mem 279 (by decide +kernel) rfl, by decide, by decide⟩, fun _ h => absurd h List.not_mem_nil⟩⟩⟩⟩⟩⟩⟩
set_option maxRecDepth 100000 in
theorem am_fl_a8 : ∀ q ∈ am_fl_8, am_flP 8 q.1 q.2 := List.forall_mem_cons.mpr ⟨⟨am_mem 187 (by decide +kernel) rfl, by decide, by decide⟩, List.forall_mem_cons.mpr ⟨⟨am_mem 189 (by decide +kernel) rfl, by decide, by decide⟩, List.forall_mem_cons.mpr ⟨⟨am_mem 190 (by decide +kernel) rfl, by decide, by decide⟩, List.forall_mem_cons.mpr ⟨⟨am_mem 191 (by decide +kernel) rfl, by decide, by decide⟩, List.forall_mem_cons.mpr ⟨⟨am_mem 192 (by decide +kernel) rfl, by decide, by decide⟩, List.forall_mem_cons.mpr ⟨⟨am_mem 193 (by decide +kernel) rfl, by decide, by decide⟩, List.forall_mem_cons.mpr ⟨⟨am_mem 197 (by decide +kernel) rfl, by decide, by decide⟩, List.forall_mem_cons.mpr ⟨⟨am_mem 198 (by decide +kernel) rfl, by decide, by decide⟩, List.forall_mem_cons.mpr ⟨⟨am_mem 194 (by decide +kernel) rfl, by decide, by decide⟩, List.forall_mem_cons.mpr ⟨⟨am_mem 188 (by decide +kernel) rfl, by decide, by decide⟩, List.forall_mem_cons.mpr ⟨⟨am_mem 155 (by decide +kernel) rfl, by decide, by decide⟩, List.forall_mem_cons.mpr ⟨⟨am_mem 178 (by decide +kernel) rfl, by decide, by decide⟩, List.forall_mem_cons.mpr ⟨⟨am_mem 181 (by decide +kernel) rfl, by decide, by decide⟩, List.forall_mem_cons.mpr ⟨⟨am_mem 71 (by decide +kernel) rfl, by decide, by decide⟩, List.forall_mem_cons.mpr ⟨⟨am_mem 95 (by decide +kernel) rfl, by decide, by decide⟩, List.forall_mem_cons.mpr ⟨⟨am_mem 157 (by decide +kernel) rfl, by decide, by decide⟩, List.forall_mem_cons.mpr ⟨⟨am_mem 158 (by decide +kernel) rfl, by decide, by decide⟩, List.forall_mem_cons.mpr ⟨⟨am_mem 159 (by decide +kernel) rfl, by decide, by decide⟩, List.forall_mem_cons.mpr ⟨⟨am_mem 280 (by decide +kernel) rfl, by decide, by decide⟩, List.forall_mem_cons.mpr ⟨⟨am_mem 276 (by decide +kernel) rfl, by decide, by decide⟩, List.forall_mem_cons.mpr ⟨⟨am_mem 195 (by decide +kernel) rfl, by decide, by decide⟩, List.forall_mem_cons.mpr ⟨⟨am_mem 259 (by decide +kernel) rfl, by decide, by decide⟩, List.forall_mem_cons.mpr ⟨⟨am_mem 251 (by decide +kernel) rfl, by decide, by decide⟩, List.forall_mem_cons.mpr ⟨⟨am_mem 253 (by decide +kernel) rfl, by decide, by decide⟩, List.forall_mem_cons.mpr ⟨⟨am_mem 256 (by decide +kernel) rfl, by decide, by decide⟩, List.forall_mem_cons.mpr ⟨⟨am_mem 272 (by decide +kernel) rfl, by decide, by decide⟩, List.forall_mem_cons.mpr ⟨⟨am_mem 196 (by decide +kernel) rfl, by decide, by decide⟩, List.forall_mem_cons.mpr ⟨⟨am_mem 274 (by decide +kernel) rfl, by decide, by decide⟩, List.forall_mem_cons.mpr ⟨⟨am_mem 282 (by decide +kernel) rfl, by decide, by decide⟩, List.forall_mem_cons.mpr ⟨⟨am_mem 140 (by decide +kernel) rfl, by decide, by decide⟩, List.forall_mem_cons.mpr ⟨⟨am_mem 141 (by decide +kernel) rfl, by decide, by decide⟩, List.forall_mem_cons.mpr ⟨⟨am_mem 124 (by decide +kernel) rfl, by decide, by decide⟩, List.forall_mem_cons.mpr ⟨⟨am_mem 122 (by decide +kernel) rfl, by decide, by decide⟩, List.forall_mem_cons.mpr ⟨⟨am_mem 120 (by decide +kernel) rfl, by decide, by decide⟩, List.forall_mem_cons.mpr ⟨⟨am_mem 118 (by decide +kernel) rfl, by decide, by decide⟩, List.forall_mem_cons.mpr ⟨⟨am_mem 153 (by decide +kernel) rfl, by decide, by decide⟩, fun _ h => absurd h List.not_mem_nil⟩⟩⟩⟩⟩⟩⟩⟩⟩⟩⟩⟩⟩⟩⟩⟩⟩⟩⟩⟩⟩⟩⟩⟩⟩⟩⟩⟩⟩⟩⟩⟩⟩⟩⟩⟩
set_option maxRecDepth 100000 in
theorem am_fl_a9 : ∀ q ∈ am_fl_9, am_flP 9 q.1 q.2 := List.forall_mem_cons.mpr ⟨⟨am_mem 684 (by decide +kernel) rfl, by decide, by decide⟩, List.forall_mem_cons.mpr ⟨⟨am_mem 668 (by decide +kernel) rfl, by decide, by decide⟩, List.forall_mem_cons.mpr ⟨⟨am_mem 666 (by decide +kernel) rfl, by decide, by decide⟩, List.forall_mem_cons.mpr ⟨⟨am_mem 667 (by decide +kernel) rfl, by decide, by decide⟩, List.forall_mem_cons.mpr ⟨⟨am_mem 669 (by decide +kernel) rfl, by decide, by decide⟩, List.forall_mem_cons.mpr ⟨⟨am_mem 670 (by decide +kernel) rfl, by decide, by decide⟩, List.forall_mem_cons.mpr ⟨⟨am_mem 671 (by decide +kernel) rfl, by decide, by decide⟩, List.forall_mem_cons.mpr ⟨⟨am_mem 672 (by decide +kernel) rfl, by decide, by decide⟩, List.forall_mem_cons.mpr ⟨⟨am_mem 673 (by decide +kernel) rfl, by decide, by decide⟩, List.forall_mem_cons.mpr ⟨⟨am_mem 675 (by decide +kernel) rfl, by decide, by decide⟩, List.forall_mem_cons.mpr ⟨⟨am_mem 676 (by decide +kernel) rfl, by decide, by decide⟩, List.forall_mem_cons.mpr ⟨⟨am_mem 677 (by decide +kernel) rfl, by decide, by decide⟩, List.forall_mem_cons.mpr ⟨⟨am_mem 678 (by decide +kernel) rfl, by decide, by decide⟩, List.forall_mem_cons.mpr ⟨⟨am_mem 679 (by decide +kernel) rfl, by decide, by decide⟩, List.forall_mem_cons.mpr ⟨⟨am_mem 681 (by decide +kernel) rfl, by decide, by decide⟩, List.forall_mem_cons.mpr ⟨⟨am_mem 682 (by decide +kernel) rfl, by decide, by decide⟩, List.forall_mem_cons.mpr ⟨⟨am_mem 683 (by decide +kernel) rfl, by decide, by decide⟩, List.forall_mem_cons.mpr ⟨⟨am_mem 685 (by decide +kernel) rfl, by decide, by decide⟩, List.forall_mem_cons.mpr ⟨⟨am_mem 686 (by decide +kernel) rfl, by decide, by decide⟩, List.forall_mem_cons.mpr ⟨⟨am_mem 687 (by decide +kernel) rfl, by decide, by decide⟩, List.forall_mem_cons.mpr ⟨⟨am_mem 688 (by decide +kernel) rfl, by decide, by decide⟩, List.forall_mem_cons.mpr ⟨⟨am_mem 689 (by decide +kernel) rfl, by decide, by decide⟩, List.forall_mem_cons.mpr ⟨⟨am_mem 690 (by decide +kernel) rfl, by decide, by decide⟩, List.forall_mem_cons.mpr ⟨⟨am_mem 692 (by decide +kernel) rfl, by decide, by decide⟩, List.forall_mem_cons.mpr ⟨⟨am_mem 693 (by decide +kernel) rfl, by decide, by decide⟩, List.forall_mem_cons.mpr ⟨⟨am_mem 694 (by decide +kernel) rfl, by decide, by decide⟩, List.forall_mem_cons.mpr ⟨⟨am_mem 696 (by decide +kernel) rfl, by decide, by decide⟩, List.forall_mem_cons.mpr ⟨⟨am_mem 697 (by decide +kernel) rfl, by decide, by decide⟩, List.forall_mem_cons.mpr ⟨⟨am_mem 698 (by decide +kernel) rfl, by decide, by decide⟩, List.forall_mem_cons.mpr ⟨⟨am_mem 699 (by decide +kernel) rfl, by decide, by decide⟩, List.forall_mem_cons.mpr ⟨⟨am_mem 700 (by decide +kernel) rfl, by decide, by decide⟩, List.forall_mem_cons.mpr ⟨⟨am_mem 701 (by decide +kernel) rfl, by decide, by decide⟩, List.forall_mem_cons.mpr ⟨⟨am_mem 702 (by decide +kernel) rfl, by decide, by decide⟩, List.forall_mem_cons.mpr ⟨⟨am_mem 705 (by decide +kernel) rfl, by decide, by decide⟩, List.forall_mem_cons.mpr ⟨⟨am_mem 706 (by decide +kernel) rfl, by decide, by decide⟩, List.forall_mem_cons.mpr ⟨⟨am_mem 707 (by decide +kernel) rfl, by decide, by decide⟩, List.forall_mem_cons.mpr ⟨⟨am_mem 708 (by decide +kernel) rfl, by decide, by decide⟩, List.forall_mem_cons.mpr ⟨⟨am_mem 709 (by decide +kernel) rfl, by decide, by decide⟩, List.forall_mem_cons.mpr ⟨⟨am_mem 674 (by decide +kernel) rfl, by decide, by decide⟩, List.forall_mem_cons.mpr ⟨⟨am_mem 680 (by decide +kernel) rfl, by decide, by decide⟩, List.forall_mem_cons.mpr ⟨⟨am_mem 695 (by decide +kernel) rfl, by decide, by decide⟩, List.forall_mem_cons.mpr ⟨⟨am_mem 703 (by decide +kernel) rfl, by decide, by decide⟩, List.forall_mem_cons.mpr ⟨⟨am_mem 710 (by decide +kernel) rfl, by decide, by decide⟩, List.forall_mem_cons.mpr ⟨⟨am_mem 711 (by decide +kernel) rfl, by decide, by decide⟩, List.forall_mem_cons.mpr ⟨⟨am_mem 704 (by decide +kernel) rfl, by decide, by decide⟩, List.forall_mem_cons.mpr ⟨⟨am_mem 691 (by decide +kernel) rfl, by decide, by decide⟩, fun _ h => absurd h List.not_mem_nil⟩⟩⟩⟩⟩⟩⟩⟩⟩⟩⟩⟩⟩⟩⟩⟩⟩⟩⟩⟩⟩⟩⟩⟩⟩⟩⟩⟩⟩⟩⟩⟩⟩⟩⟩⟩⟩⟩⟩⟩⟩⟩⟩⟩⟩⟩
set_option maxRecDepth 100000 in
theorem am_fl_a10 : ∀ q ∈ am_fl_10, am_flP 10 q.1 q.2 := fun _ h => absurd h List.not_mem_nil
theorem am_fl_ok {o i : Nat} {x} (h : am_fl o i = some x) : am_flP o i x := am_lk_all (am_11 (P := fun o (r : List (Nat × (Nat × Nat))) => ∀ q ∈ r, am_flP o q.1 q.2) am_fl_a0 am_fl_a1 am_fl_a2 am_fl_a3 am_fl_a4 am_fl_a5 am_fl_a6 am_fl_a7 am_fl_a8 am_fl_a9 am_fl_a10) h
def am_sc_0 : List (Nat × Nat) := []
def am_sc_1 : List (Nat × Nat) := []
def am_sc_2 : List (Nat × Nat) := []
def am_sc_3 : List (Nat × Nat) := []
def am_sc_4 : List (Nat × Nat) := []
def am_sc_5 : List (Nat × Nat) := []
def am_sc_6 : List (Nat × Nat) := []
def am_sc_7 : List (Nat × Nat) := []
def am_sc_8 : List (Nat × Nat) := [(93, 1), (96, 2), (252, 3)]
def am_sc_9 : List (Nat × Nat) := []
def am_sc_10 : List (Nat × Nat) := []
def am_sc (o i : Nat) : Option (Nat) := am_lk i ([am_sc_0, am_sc_1, am_sc_2, am_sc_3, am_sc_4, am_sc_5, am_sc_6, am_sc_7, am_sc_8, am_sc_9, am_sc_10].getD o [])
def am_snm (e : Nat) : String := ["", "HIGHEST_A", "HIGHEST_B", "MONTH_STARTS"].getD e ""
def am_scP (o i : Nat) (e : Nat) : Prop := Cond.fieldLink (am_R o) i "ShiftLedger" (am_snm e) "[I" ∈ am_ws ∧ 0 < e ∧ e < 4
set_option maxRecDepth 100000 in
theorem am_sc_a0 : ∀ q ∈ am_sc_0, am_scP 0 q.1 q.2 := fun _ h => absurd h List.not_mem_nil
set_option maxRecDepth 100000 in
theorem am_sc_a1 : ∀ q ∈ am_sc_1, am_scP 1 q.1 q.2 := fun _ h => absurd h List.not_mem_nil
set_option maxRecDepth 100000 in
theorem am_sc_a2 : ∀ q ∈ am_sc_2, am_scP 2 q.1 q.2 := fun _ h => absurd h List.not_mem_nil
set_option maxRecDepth 100000 in
theorem am_sc_a3 : ∀ q ∈ am_sc_3, am_scP 3 q.1 q.2 := fun _ h => absurd h List.not_mem_nil
set_option maxRecDepth 100000 in
theorem am_sc_a4 : ∀ q ∈ am_sc_4, am_scP 4 q.1 q.2 := fun _ h => absurd h List.not_mem_nil
set_option maxRecDepth 100000 in
theorem am_sc_a5 : ∀ q ∈ am_sc_5, am_scP 5 q.1 q.2 := fun _ h => absurd h List.not_mem_nil
set_option maxRecDepth 100000 in
theorem am_sc_a6 : ∀ q ∈ am_sc_6, am_scP 6 q.1 q.2 := fun _ h => absurd h List.not_mem_nil
set_option maxRecDepth 100000 in
theorem am_sc_a7 : ∀ q ∈ am_sc_7, am_scP 7 q.1 q.2 := fun _ h => absurd h List.not_mem_nil
set_option maxRecDepth 100000 in
theorem am_sc_a8 : ∀ q ∈ am_sc_8, am_scP 8 q.1 q.2 := List.forall_mem_cons.mpr ⟨⟨am_mem 315 (by decide +kernel) rfl, by decide, by decide⟩, List.forall_mem_cons.mpr ⟨⟨am_mem 317 (by decide +kernel) rfl, by decide, by decide⟩, List.forall_mem_cons.mpr ⟨⟨am_mem 401 (by decide +kernel) rfl, by decide, by decide⟩, fun _ h => absurd h List.not_mem_nil⟩⟩⟩
set_option maxRecDepth 100000 in
theorem am_sc_a9 : ∀ q ∈ am_sc_9, am_scP 9 q.1 q.2 := fun _ h => absurd h List.not_mem_nil
set_option maxRecDepth 100000 in
theorem am_sc_a10 : ∀ q ∈ am_sc_10, am_scP 10 q.1 q.2 := fun _ h => absurd h List.not_mem_nil
theorem am_sc_ok {o i : Nat} {x} (h : am_sc o i = some x) : am_scP o i x := am_lk_all (am_11 (P := fun o (r : List (Nat × (Nat))) => ∀ q ∈ r, am_scP o q.1 q.2) am_sc_a0 am_sc_a1 am_sc_a2 am_sc_a3 am_sc_a4 am_sc_a5 am_sc_a6 am_sc_a7 am_sc_a8 am_sc_a9 am_sc_a10) h
def am_nc_0 : List (Nat × Nat) := []
def am_nc_1 : List (Nat × Nat) := []
def am_nc_2 : List (Nat × Nat) := []
def am_nc_3 : List (Nat × Nat) := []
def am_nc_4 : List (Nat × Nat) := []
def am_nc_5 : List (Nat × Nat) := []
def am_nc_6 : List (Nat × Nat) := []
def am_nc_7 : List (Nat × Nat) := [(9, 1)]
def am_nc_8 : List (Nat × Nat) := [(13, 0), (19, 3), (25, 2), (32, 5), (39, 7), (45, 4), (52, 6)]
def am_nc_9 : List (Nat × Nat) := []
def am_nc_10 : List (Nat × Nat) := [(7, 8), (10, 9)]
def am_nc (o i : Nat) : Option (Nat) := am_lk i ([am_nc_0, am_nc_1, am_nc_2, am_nc_3, am_nc_4, am_nc_5, am_nc_6, am_nc_7, am_nc_8, am_nc_9, am_nc_10].getD o [])
def am_ncP (o i : Nat) (ci : Nat) : Prop := Cond.classLink (am_R o) i (am_R ci) ∈ am_ws ∧ Cond.instantiable (am_R ci) (am_Cn ci).2.2 ∈ am_ws ∧ Cond.initialized (am_R ci) ∈ am_ws ∧ ci < 10
set_option maxRecDepth 100000 in
theorem am_nc_a0 : ∀ q ∈ am_nc_0, am_ncP 0 q.1 q.2 := fun _ h => absurd h List.not_mem_nil
set_option maxRecDepth 100000 in
theorem am_nc_a1 : ∀ q ∈ am_nc_1, am_ncP 1 q.1 q.2 := fun _ h => absurd h List.not_mem_nil
set_option maxRecDepth 100000 in
theorem am_nc_a2 : ∀ q ∈ am_nc_2, am_ncP 2 q.1 q.2 := fun _ h => absurd h List.not_mem_nil
set_option maxRecDepth 100000 in
theorem am_nc_a3 : ∀ q ∈ am_nc_3, am_ncP 3 q.1 q.2 := fun _ h => absurd h List.not_mem_nil
set_option maxRecDepth 100000 in
theorem am_nc_a4 : ∀ q ∈ am_nc_4, am_ncP 4 q.1 q.2 := fun _ h => absurd h List.not_mem_nil
set_option maxRecDepth 100000 in
theorem am_nc_a5 : ∀ q ∈ am_nc_5, am_ncP 5 q.1 q.2 := fun _ h => absurd h List.not_mem_nil
set_option maxRecDepth 100000 in
theorem am_nc_a6 : ∀ q ∈ am_nc_6, am_ncP 6 q.1 q.2 := fun _ h => absurd h List.not_mem_nil
set_option maxRecDepth 100000 in
theorem am_nc_a7 : ∀ q ∈ am_nc_7, am_ncP 7 q.1 q.2 := List.forall_mem_cons.mpr ⟨⟨am_mem 243 (by decide +kernel) rfl, am_mem 244 (by decide +kernel) rfl, am_mem 46 (by decide +kernel) rfl, by decide⟩, fun _ h => absurd h List.not_mem_nil⟩
set_option maxRecDepth 100000 in
theorem am_nc_a8 : ∀ q ∈ am_nc_8, am_ncP 8 q.1 q.2 := List.forall_mem_cons.mpr ⟨⟨am_mem 57 (by decide +kernel) rfl, am_mem 147 (by decide +kernel) rfl, am_mem 42 (by decide +kernel) rfl, by decide⟩, List.forall_mem_cons.mpr ⟨⟨am_mem 59 (by decide +kernel) rfl, am_mem 171 (by decide +kernel) rfl, am_mem 43 (by decide +kernel) rfl, by decide⟩, List.forall_mem_cons.mpr ⟨⟨am_mem 61 (by decide +kernel) rfl, am_mem 62 (by decide +kernel) rfl, am_mem 38 (by decide +kernel) rfl, by decide⟩, List.forall_mem_cons.mpr ⟨⟨am_mem 83 (by decide +kernel) rfl, am_mem 84 (by decide +kernel) rfl, am_mem 39 (by decide +kernel) rfl, by decide⟩, List.forall_mem_cons.mpr ⟨⟨am_mem 109 (by decide +kernel) rfl, am_mem 238 (by decide +kernel) rfl, am_mem 45 (by decide +kernel) rfl, by decide⟩, List.forall_mem_cons.mpr ⟨⟨am_mem 111 (by decide +kernel) rfl, am_mem 112 (by decide +kernel) rfl, am_mem 40 (by decide +kernel) rfl, by decide⟩, List.forall_mem_cons.mpr ⟨⟨am_mem 134 (by decide +kernel) rfl, am_mem 135 (by decide +kernel) rfl, am_mem 41 (by decide +kernel) rfl, by decide⟩, fun _ h => absurd h List.not_mem_nil⟩⟩⟩⟩⟩⟩⟩
set_option maxRecDepth 100000 in
theorem am_nc_a9 : ∀ q ∈ am_nc_9, am_ncP 9 q.1 q.2 := fun _ h => absurd h List.not_mem_nil
set_option maxRecDepth 100000 in
theorem am_nc_a10 : ∀ q ∈ am_nc_10, am_ncP 10 q.1 q.2 := List.forall_mem_cons.mpr ⟨⟨am_mem 49 (by decide +kernel) rfl, am_mem 50 (by decide +kernel) rfl, am_mem 37 (by decide +kernel) rfl, by decide⟩, List.forall_mem_cons.mpr ⟨⟨am_mem 660 (by decide +kernel) rfl, am_mem 661 (by decide +kernel) rfl, am_mem 44 (by decide +kernel) rfl, by decide⟩, fun _ h => absurd h List.not_mem_nil⟩⟩
theorem am_nc_ok {o i : Nat} {x} (h : am_nc o i = some x) : am_ncP o i x := am_lk_all (am_11 (P := fun o (r : List (Nat × (Nat))) => ∀ q ∈ r, am_ncP o q.1 q.2) am_nc_a0 am_nc_a1 am_nc_a2 am_nc_a3 am_nc_a4 am_nc_a5 am_nc_a6 am_nc_a7 am_nc_a8 am_nc_a9 am_nc_a10) h
def am_k1_0 : List (Nat × Int32) := []
def am_k1_1 : List (Nat × Int32) := []
def am_k1_2 : List (Nat × Int32) := []
def am_k1_3 : List (Nat × Int32) := []
def am_k1_4 : List (Nat × Int32) := []
def am_k1_5 : List (Nat × Int32) := []
def am_k1_6 : List (Nat × Int32) := []
def am_k1_7 : List (Nat × Int32) := []
def am_k1_8 : List (Nat × Int32) := [(108, (100000 : Int32)), (133, (-100000 : Int32))]
def am_k1_9 : List (Nat × Int32) := [(145, (100000 : Int32)), (152, (-100000 : Int32))]
def am_k1_10 : List (Nat × Int32) := []
def am_k1 (o i : Nat) : Option (Int32) := am_lk i ([am_k1_0, am_k1_1, am_k1_2, am_k1_3, am_k1_4, am_k1_5, am_k1_6, am_k1_7, am_k1_8, am_k1_9, am_k1_10].getD o [])
def am_k1P (o i : Nat) (v : Int32) : Prop := Cond.constant (am_R o) i v ∈ am_ws
set_option maxRecDepth 100000 in
theorem am_k1_a0 : ∀ q ∈ am_k1_0, am_k1P 0 q.1 q.2 := fun _ h => absurd h List.not_mem_nil
set_option maxRecDepth 100000 in
theorem am_k1_a1 : ∀ q ∈ am_k1_1, am_k1P 1 q.1 q.2 := fun _ h => absurd h List.not_mem_nil
set_option maxRecDepth 100000 in
theorem am_k1_a2 : ∀ q ∈ am_k1_2, am_k1P 2 q.1 q.2 := fun _ h => absurd h List.not_mem_nil
set_option maxRecDepth 100000 in
theorem am_k1_a3 : ∀ q ∈ am_k1_3, am_k1P 3 q.1 q.2 := fun _ h => absurd h List.not_mem_nil
set_option maxRecDepth 100000 in
theorem am_k1_a4 : ∀ q ∈ am_k1_4, am_k1P 4 q.1 q.2 := fun _ h => absurd h List.not_mem_nil
set_option maxRecDepth 100000 in
theorem am_k1_a5 : ∀ q ∈ am_k1_5, am_k1P 5 q.1 q.2 := fun _ h => absurd h List.not_mem_nil
set_option maxRecDepth 100000 in
theorem am_k1_a6 : ∀ q ∈ am_k1_6, am_k1P 6 q.1 q.2 := fun _ h => absurd h List.not_mem_nil
set_option maxRecDepth 100000 in
theorem am_k1_a7 : ∀ q ∈ am_k1_7, am_k1P 7 q.1 q.2 := fun _ h => absurd h List.not_mem_nil
set_option maxRecDepth 100000 in
theorem am_k1_a8 : ∀ q ∈ am_k1_8, am_k1P 8 q.1 q.2 := List.forall_mem_cons.mpr ⟨am_mem 326 (by decide +kernel) rfl, List.forall_mem_cons.mpr ⟨am_mem 362 (by decide +kernel) rfl, fun _ h => absurd h List.not_mem_nil⟩⟩
set_option maxRecDepth 100000 in
theorem am_k1_a9 : ∀ q ∈ am_k1_9, am_k1P 9 q.1 q.2 := List.forall_mem_cons.mpr ⟨am_mem 815 (by decide +kernel) rfl, List.forall_mem_cons.mpr ⟨am_mem 832 (by decide +kernel) rfl, fun _ h => absurd h List.not_mem_nil⟩⟩
set_option maxRecDepth 100000 in
theorem am_k1_a10 : ∀ q ∈ am_k1_10, am_k1P 10 q.1 q.2 := fun _ h => absurd h List.not_mem_nil
theorem am_k1_ok {o i : Nat} {x} (h : am_k1 o i = some x) : am_k1P o i x := am_lk_all (am_11 (P := fun o (r : List (Nat × (Int32))) => ∀ q ∈ r, am_k1P o q.1 q.2) am_k1_a0 am_k1_a1 am_k1_a2 am_k1_a3 am_k1_a4 am_k1_a5 am_k1_a6 am_k1_a7 am_k1_a8 am_k1_a9 am_k1_a10) h
def am_k2_0 : List (Nat × Int64) := []
def am_k2_1 : List (Nat × Int64) := []
def am_k2_2 : List (Nat × Int64) := []
def am_k2_3 : List (Nat × Int64) := []
def am_k2_4 : List (Nat × Int64) := []
def am_k2_5 : List (Nat × Int64) := []
def am_k2_6 : List (Nat × Int64) := []
def am_k2_7 : List (Nat × Int64) := []
def am_k2_8 : List (Nat × Int64) := [(221, (-1 : Int64)), (246, (-9223372036854775808 : Int64)), (313, (600000 : Int64)), (315, (2 : Int64))]
def am_k2_9 : List (Nat × Int64) := [(191, (600000 : Int64)), (193, (300000 : Int64)), (195, (2 : Int64)), (249, (-1 : Int64)), (265, (-9223372036854775808 : Int64))]
def am_k2_10 : List (Nat × Int64) := []
def am_k2 (o i : Nat) : Option (Int64) := am_lk i ([am_k2_0, am_k2_1, am_k2_2, am_k2_3, am_k2_4, am_k2_5, am_k2_6, am_k2_7, am_k2_8, am_k2_9, am_k2_10].getD o [])
def am_k2P (o i : Nat) (v : Int64) : Prop := Cond.constantLong (am_R o) i v ∈ am_ws
set_option maxRecDepth 100000 in
theorem am_k2_a0 : ∀ q ∈ am_k2_0, am_k2P 0 q.1 q.2 := fun _ h => absurd h List.not_mem_nil
set_option maxRecDepth 100000 in
theorem am_k2_a1 : ∀ q ∈ am_k2_1, am_k2P 1 q.1 q.2 := fun _ h => absurd h List.not_mem_nil
set_option maxRecDepth 100000 in
theorem am_k2_a2 : ∀ q ∈ am_k2_2, am_k2P 2 q.1 q.2 := fun _ h => absurd h List.not_mem_nil
set_option maxRecDepth 100000 in
theorem am_k2_a3 : ∀ q ∈ am_k2_3, am_k2P 3 q.1 q.2 := fun _ h => absurd h List.not_mem_nil
set_option maxRecDepth 100000 in
theorem am_k2_a4 : ∀ q ∈ am_k2_4, am_k2P 4 q.1 q.2 := fun _ h => absurd h List.not_mem_nil
set_option maxRecDepth 100000 in
theorem am_k2_a5 : ∀ q ∈ am_k2_5, am_k2P 5 q.1 q.2 := fun _ h => absurd h List.not_mem_nil
set_option maxRecDepth 100000 in
theorem am_k2_a6 : ∀ q ∈ am_k2_6, am_k2P 6 q.1 q.2 := fun _ h => absurd h List.not_mem_nil
set_option maxRecDepth 100000 in
theorem am_k2_a7 : ∀ q ∈ am_k2_7, am_k2P 7 q.1 q.2 := fun _ h => absurd h List.not_mem_nil
set_option maxRecDepth 100000 in
theorem am_k2_a8 : ∀ q ∈ am_k2_8, am_k2P 8 q.1 q.2 := List.forall_mem_cons.mpr ⟨am_mem 585 (by decide +kernel) rfl, List.forall_mem_cons.mpr ⟨am_mem 634 (by decide +kernel) rfl, List.forall_mem_cons.mpr ⟨am_mem 510 (by decide +kernel) rfl, List.forall_mem_cons.mpr ⟨am_mem 511 (by decide +kernel) rfl, fun _ h => absurd h List.not_mem_nil⟩⟩⟩⟩
set_option maxRecDepth 100000 in
theorem am_k2_a9 : ∀ q ∈ am_k2_9, am_k2P 9 q.1 q.2 := List.forall_mem_cons.mpr ⟨am_mem 915 (by decide +kernel) rfl, List.forall_mem_cons.mpr ⟨am_mem 916 (by decide +kernel) rfl, List.forall_mem_cons.mpr ⟨am_mem 917 (by decide +kernel) rfl, List.forall_mem_cons.mpr ⟨am_mem 945 (by decide +kernel) rfl, List.forall_mem_cons.mpr ⟨am_mem 1002 (by decide +kernel) rfl, fun _ h => absurd h List.not_mem_nil⟩⟩⟩⟩⟩
set_option maxRecDepth 100000 in
theorem am_k2_a10 : ∀ q ∈ am_k2_10, am_k2P 10 q.1 q.2 := fun _ h => absurd h List.not_mem_nil
theorem am_k2_ok {o i : Nat} {x} (h : am_k2 o i = some x) : am_k2P o i x := am_lk_all (am_11 (P := fun o (r : List (Nat × (Int64))) => ∀ q ∈ r, am_k2P o q.1 q.2) am_k2_a0 am_k2_a1 am_k2_a2 am_k2_a3 am_k2_a4 am_k2_a5 am_k2_a6 am_k2_a7 am_k2_a8 am_k2_a9 am_k2_a10) h
def am_bi_0 : List (Nat × Nat) := [(3, 0)]
def am_bi_1 : List (Nat × Nat) := [(3, 0), (29, 5)]
def am_bi_2 : List (Nat × Nat) := [(3, 0)]
def am_bi_3 : List (Nat × Nat) := [(3, 0)]
def am_bi_4 : List (Nat × Nat) := [(3, 0), (76, 1), (81, 5)]
def am_bi_5 : List (Nat × Nat) := [(3, 0), (42, 1), (48, 2)]
def am_bi_6 : List (Nat × Nat) := [(1, 0)]
def am_bi_7 : List (Nat × Nat) := [(3, 0)]
def am_bi_8 : List (Nat × Nat) := [(3, 0), (321, 4), (327, 3)]
def am_bi_9 : List (Nat × Nat) := [(36, 0)]
def am_bi_10 : List (Nat × Nat) := []
def am_bi (o i : Nat) : Option (Nat) := am_lk i ([am_bi_0, am_bi_1, am_bi_2, am_bi_3, am_bi_4, am_bi_5, am_bi_6, am_bi_7, am_bi_8, am_bi_9, am_bi_10].getD o [])
def am_bin (b : Nat) : MethodName := [objectInit, Lib.Math.max.name, Lib.Math.min.name, Lib.MathLoose.max_long.x, Lib.MathLoose.min_long.x, arraycopyName].getD b objectInit
def am_biP (o i : Nat) (b : Nat) : Prop := Cond.methodLink (am_R o) i (am_bin b) ∈ am_ws
set_option maxRecDepth 100000 in
theorem am_bi_a0 : ∀ q ∈ am_bi_0, am_biP 0 q.1 q.2 := List.forall_mem_cons.mpr ⟨am_mem 151 (by decide +kernel) rfl, fun _ h => absurd h List.not_mem_nil⟩
set_option maxRecDepth 100000 in
theorem am_bi_a1 : ∀ q ∈ am_bi_1, am_biP 1 q.1 q.2 := List.forall_mem_cons.mpr ⟨am_mem 248 (by decide +kernel) rfl, List.forall_mem_cons.mpr ⟨am_mem 516 (by decide +kernel) rfl, fun _ h => absurd h List.not_mem_nil⟩⟩
set_option maxRecDepth 100000 in
theorem am_bi_a2 : ∀ q ∈ am_bi_2, am_biP 2 q.1 q.2 := List.forall_mem_cons.mpr ⟨am_mem 66 (by decide +kernel) rfl, fun _ h => absurd h List.not_mem_nil⟩
set_option maxRecDepth 100000 in
theorem am_bi_a3 : ∀ q ∈ am_bi_3, am_biP 3 q.1 q.2 := List.forall_mem_cons.mpr ⟨am_mem 175 (by decide +kernel) rfl, fun _ h => absurd h List.not_mem_nil⟩
set_option maxRecDepth 100000 in
theorem am_bi_a4 : ∀ q ∈ am_bi_4, am_biP 4 q.1 q.2 := List.forall_mem_cons.mpr ⟨am_mem 116 (by decide +kernel) rfl, List.forall_mem_cons.mpr ⟨am_mem 460 (by decide +kernel) rfl, List.forall_mem_cons.mpr ⟨am_mem 449 (by decide +kernel) rfl, fun _ h => absurd h List.not_mem_nil⟩⟩⟩
set_option maxRecDepth 100000 in
theorem am_bi_a5 : ∀ q ∈ am_bi_5, am_biP 5 q.1 q.2 := List.forall_mem_cons.mpr ⟨am_mem 88 (by decide +kernel) rfl, List.forall_mem_cons.mpr ⟨am_mem 482 (by decide +kernel) rfl, List.forall_mem_cons.mpr ⟨am_mem 479 (by decide +kernel) rfl, fun _ h => absurd h List.not_mem_nil⟩⟩⟩
set_option maxRecDepth 100000 in
theorem am_bi_a6 : ∀ q ∈ am_bi_6, am_biP 6 q.1 q.2 := List.forall_mem_cons.mpr ⟨am_mem 139 (by decide +kernel) rfl, fun _ h => absurd h List.not_mem_nil⟩
set_option maxRecDepth 100000 in
theorem am_bi_a7 : ∀ q ∈ am_bi_7, am_biP 7 q.1 q.2 := List.forall_mem_cons.mpr ⟨am_mem 242 (by decide +kernel) rfl, fun _ h => absurd h List.not_mem_nil⟩
set_option maxRecDepth 100000 in
theorem am_bi_a8 : ∀ q ∈ am_bi_8, am_biP 8 q.1 q.2 := List.forall_mem_cons.mpr ⟨am_mem 54 (by decide +kernel) rfl, List.forall_mem_cons.mpr ⟨am_mem 617 (by decide +kernel) rfl, List.forall_mem_cons.mpr ⟨am_mem 620 (by decide +kernel) rfl, fun _ h => absurd h List.not_mem_nil⟩⟩⟩
set_option maxRecDepth 100000 in
theorem am_bi_a9 : ∀ q ∈ am_bi_9, am_biP 9 q.1 q.2 := List.forall_mem_cons.mpr ⟨am_mem 665 (by decide +kernel) rfl, fun _ h => absurd h List.not_mem_nil⟩
set_option maxRecDepth 100000 in
theorem am_bi_a10 : ∀ q ∈ am_bi_10, am_biP 10 q.1 q.2 := fun _ h => absurd h List.not_mem_nil
theorem am_bi_ok {o i : Nat} {x} (h : am_bi o i = some x) : am_biP o i x := am_lk_all (am_11 (P := fun o (r : List (Nat × (Nat))) => ∀ q ∈ r, am_biP o q.1 q.2) am_bi_a0 am_bi_a1 am_bi_a2 am_bi_a3 am_bi_a4 am_bi_a5 am_bi_a6 am_bi_a7 am_bi_a8 am_bi_a9 am_bi_a10) h
def am_cv_0 : List (Nat × Nat × am_T) := []
def am_cv_1 : List (Nat × Nat × am_T) := [(25, 0, tX1_placeOf), (35, 0, tX1_pairUp), (38, 0, tX1_standsAt), (42, 3, tX1_nextState), (46, 4, tX8_timeOf), (49, 0, tX1_dayOf)]
def am_cv_2 : List (Nat × Nat × am_T) := []
def am_cv_3 : List (Nat × Nat × am_T) := []
def am_cv_4 : List (Nat × Nat × am_T) := [(25, 4, tX8_timeOf), (38, 0, tX4_layShift), (47, 0, tX4_applyRound), (54, 0, tX4_takeOutside), (58, 0, tX4_amountOf), (61, 0, tX4_turnBehind), (64, 0, tX1_endOf), (68, 0, tX4_add), (72, 0, tX4_cutAt)]
def am_cv_5 : List (Nat × Nat × am_T) := [(31, 0, tX5_spans), (35, 0, tX5_isBeaten), (38, 0, tX5_steadyFrom), (51, 0, tX5_meeting), (54, 0, tX5_countingOf), (57, 0, tX5_extraOf), (60, 3, tX5_wayTo)]
def am_cv_6 : List (Nat × Nat × am_T) := []
def am_cv_7 : List (Nat × Nat × am_T) := [(11, 2, tX1_init)]
def am_cv_8 : List (Nat × Nat × am_T) := [(27, 2, tX2_init), (34, 2, tX5_init), (47, 2, tX4_init), (54, 2, tX6_init), (59, 1, tX0_init), (62, 1, tX3_init), (63, 0, tX8_findGroup), (67, 3, tX8_isDay), (75, 1, tX7_init), (81, 3, tX8_isWithin), (89, 0, tX8_findRules), (99, 3, tX8_isRoundStep), (112, 0, tX2_add), (116, 3, tX8_isMinuteOfDay), (120, 0, tX5_add), (123, 0, tX5_has), (126, 0, tX5_setApart), (140, 0, tX8_findWorker), (147, 0, tX7_addAbsence), (151, 0, tX8_enter), (155, 3, tX8_timeOf), (163, 0, tX1_standsAt), (168, 0, tX8_isClosed), (171, 0, tX8_bookClosedDays), (175, 0, tX1_remove), (191, 3, tX8_monthOf), (195, 0, tX8_kindOf), (199, 0, tX1_amountOf), (203, 0, tX8_fillSheet), (206, 0, tX4_classAt), (209, 0, tX4_amountOf), (215, 0, tX5_meeting), (218, 0, tX5_countingOf), (223, 0, tX8_payOfSheet), (227, 0, tX8_dueOf), (234, 3, tX8_hasGap), (238, 0, tX8_keepSayings), (241, 3, tX8_isMonth), (248, 0, tX8_sayingOf), (258, 0, tX7_isAway), (261, 0, tX1_insert), (264, 0, tX8_tallyDays), (279, 0, tX1_placeOf), (282, 0, tX4_fill), (286, 0, tX1_dayOf), (299, 0, tX5_extraOver), (306, 0, tX2_at), (309, 3, tX8_toCents), (317, 0, tX8_openFlex)]
def am_cv_9 : List (Nat × Nat × am_T) := [(7, 3, tX9_length), (11, 3, tX9_in), (26, 3, tX9_isDay), (33, 3, tX9_isGroup), (153, 0, tX9_isWorker), (159, 0, tX9_fill), (166, 0, tX9_kindOf), (170, 0, tX9_lay), (174, 0, tX9_there), (178, 0, tX9_behind), (182, 0, tX9_meets), (185, 0, tX9_countsAt), (188, 0, tX9_rateOf), (204, 0, tX9_look), (207, 0, tX9_paid), (210, 0, tX9_pay), (217, 3, tX9_firstDay), (220, 0, tX9_flexOf), (223, 0, tX9_sumDays), (226, 0, tX9_dueOf), (229, 0, tX9_pair), (233, 0, tX9_says), (237, 0, tX9_markAt), (240, 0, tX9_isMark), (243, 3, tX9_monthOf), (251, 0, tX9_book), (255, 0, tX9_comes), (259, 0, tX9_looks)]
def am_cv_10 : List (Nat × Nat × am_T) := [(9, 1, tX8_init), (12, 1, tX9_init), (13, 0, tX8_worker), (17, 0, tX9_worker), (18, 0, tX8_feast), (22, 0, tX9_feast), (23, 0, tX8_kind), (27, 0, tX9_kind), (28, 0, tX8_rule), (32, 0, tX9_rule), (33, 0, tX8_rate), (36, 0, tX9_rate), (37, 0, tX8_surcharge), (40, 0, tX9_surcharge), (41, 0, tX8_exclude), (44, 0, tX9_exclude), (45, 0, tX8_target), (48, 0, tX9_target), (49, 0, tX8_limits), (52, 0, tX9_limits), (53, 0, tX8_absent), (56, 0, tX9_absent), (57, 0, tX8_mark), (60, 0, tX9_mark), (61, 0, tX8_late), (64, 0, tX9_late), (65, 0, tX8_unmark), (68, 0, tX9_unmark), (69, 0, tX8_marked), (72, 0, tX9_marked), (73, 0, tX8_day), (76, 0, tX9_day), (77, 0, tX8_shifts), (80, 0, tX9_shifts), (81, 0, tX8_minute), (84, 0, tX9_minute), (85, 0, tX8_minutes), (88, 0, tX9_minutes), (89, 0, tX8_why), (92, 0, tX9_why), (93, 0, tX8_counts), (97, 0, tX9_counts), (98, 0, tX8_cents), (102, 0, tX9_cents), (103, 0, tX8_due), (106, 0, tX9_due), (107, 0, tX8_close), (111, 0, tX9_close), (112, 0, tX8_open), (115, 0, tX9_open), (116, 0, tX8_month), (120, 0, tX9_month), (121, 0, tX8_sum), (124, 0, tX9_sum), (125, 0, tX8_count), (128, 0, tX9_count)]
def am_cv (o i : Nat) : Option (Nat × am_T) := am_lk i ([am_cv_0, am_cv_1, am_cv_2, am_cv_3, am_cv_4, am_cv_5, am_cv_6, am_cv_7, am_cv_8, am_cv_9, am_cv_10].getD o [])
def am_nestL : List (String × Nat × MethodName × String) := [(RX8, 27, yX2_init, RX8), (RX8, 34, yX5_init, RX8), (RX8, 47, yX4_init, RX8), (RX8, 54, yX6_init, RX8), (RX7, 11, yX1_init, RX8), (RX4, 25, yX8_timeOf, RX8), (RX1, 46, yX8_timeOf, RX8)]
def am_cws (o i : Nat) (k : Nat) (y : MethodName) : List Cond := match k with
  | 0 => [.methodLink (am_R o) i y, .instanceMethod y, .selects y.cls y y, .initialized y.cls]
  | 1 => [.methodLink (am_R o) i y, .instanceMethod y, .initialized y.cls]
  | 2 => [.instanceMethod y, .initialized y.cls]
  | 3 => [.methodLink (am_R o) i y, .static y, .initialized y.cls]
  | _ => [.static y, .initialized y.cls]
def am_cvP (o i : Nat) (x : Nat × am_T) : Prop := am_ok x.2 ∧ (∀ w ∈ am_cws o i x.1 x.2.2.1, w ∈ am_ws) ∧ (x.1 = 2 ∨ x.1 = 4 → (am_R o, i, x.2.2.1, RX8) ∈ am_nestL) ∧ (x.1 = 1 ∨ x.1 = 2 → x.2.2.2.2.2.2.2.1 = true ∧ x.2.2.2.2.2.1 = none)
set_option maxRecDepth 100000 in
theorem am_cv_a0 : ∀ q ∈ am_cv_0, am_cvP 0 q.1 q.2 := fun _ h => absurd h List.not_mem_nil
set_option maxRecDepth 100000 in
theorem am_cv_a1 : ∀ q ∈ am_cv_1, am_cvP 1 q.1 q.2 := List.forall_mem_cons.mpr ⟨⟨tX1_placeOf_k, List.forall_mem_cons.mpr ⟨am_mem 390 (by decide +kernel) rfl, List.forall_mem_cons.mpr ⟨am_mem 391 (by decide +kernel) rfl, List.forall_mem_cons.mpr ⟨am_mem 392 (by decide +kernel) rfl, List.forall_mem_cons.mpr ⟨am_mem 46 (by decide +kernel) rfl, fun _ h => absurd h List.not_mem_nil⟩⟩⟩⟩, fun h => absurd h (by decide), fun h => absurd h (by decide)⟩, List.forall_mem_cons.mpr ⟨⟨tX1_pairUp_k, List.forall_mem_cons.mpr ⟨am_mem 517 (by decide +kernel) rfl, List.forall_mem_cons.mpr ⟨am_mem 518 (by decide +kernel) rfl, List.forall_mem_cons.mpr ⟨am_mem 519 (by decide +kernel) rfl, List.forall_mem_cons.mpr ⟨am_mem 46 (by decide +kernel) rfl, fun _ h => absurd h List.not_mem_nil⟩⟩⟩⟩, fun h => absurd h (by decide), fun h => absurd h (by decide)⟩, List.forall_mem_cons.mpr ⟨⟨tX1_standsAt_k, List.forall_mem_cons.mpr ⟨am_mem 536 (by decide +kernel) rfl, List.forall_mem_cons.mpr ⟨am_mem 387 (by decide +kernel) rfl, List.forall_mem_cons.mpr ⟨am_mem 388 (by decide +kernel) rfl, List.forall_mem_cons.mpr ⟨am_mem 46 (by decide +kernel) rfl, fun _ h => absurd h List.not_mem_nil⟩⟩⟩⟩, fun h => absurd h (by decide), fun h => absurd h (by decide)⟩, List.forall_mem_cons.mpr ⟨⟨tX1_nextState_k, List.forall_mem_cons.mpr ⟨am_mem 521 (by decide +kernel) rfl, List.forall_mem_cons.mpr ⟨am_mem 522 (by decide +kernel) rfl, List.forall_mem_cons.mpr ⟨am_mem 46 (by decide +kernel) rfl, fun _ h => absurd h List.not_mem_nil⟩⟩⟩, fun h => absurd h (by decide), fun h => absurd h (by decide)⟩, List.forall_mem_cons.mpr ⟨⟨tX8_timeOf_k, List.forall_mem_cons.mpr ⟨am_mem 384 (by decide +kernel) rfl, List.forall_mem_cons.mpr ⟨am_mem 37 (by decide +kernel) rfl, fun _ h => absurd h List.not_mem_nil⟩⟩, fun _ => List.mem_of_getElem? (i := 6) rfl, fun h => absurd h (by decide)⟩, List.forall_mem_cons.mpr ⟨⟨tX1_dayOf_k, List.forall_mem_cons.mpr ⟨am_mem 554 (by decide +kernel) rfl, List.forall_mem_cons.mpr ⟨am_mem 413 (by decide +kernel) rfl, List.forall_mem_cons.mpr ⟨am_mem 414 (by decide +kernel) rfl, List.forall_mem_cons.mpr ⟨am_mem 46 (by decide +kernel) rfl, fun _ h => absurd h List.not_mem_nil⟩⟩⟩⟩, fun h => absurd h (by decide), fun h => absurd h (by decide)⟩, fun _ h => absurd h List.not_mem_nil⟩⟩⟩⟩⟩⟩
set_option maxRecDepth 100000 in
theorem am_cv_a2 : ∀ q ∈ am_cv_2, am_cvP 2 q.1 q.2 := fun _ h => absurd h List.not_mem_nil
set_option maxRecDepth 100000 in
theorem am_cv_a3 : ∀ q ∈ am_cv_3, am_cvP 3 q.1 q.2 := fun _ h => absurd h List.not_mem_nil
set_option maxRecDepth 100000 in
theorem am_cv_a4 : ∀ q ∈ am_cv_4, am_cvP 4 q.1 q.2 := List.forall_mem_cons.mpr ⟨⟨tX8_timeOf_k, List.forall_mem_cons.mpr ⟨am_mem 384 (by decide +kernel) rfl, List.forall_mem_cons.mpr ⟨am_mem 37 (by decide +kernel) rfl, fun _ h => absurd h List.not_mem_nil⟩⟩, fun _ => List.mem_of_getElem? (i := 5) rfl, fun h => absurd h (by decide)⟩, List.forall_mem_cons.mpr ⟨⟨tX4_layShift_k, List.forall_mem_cons.mpr ⟨am_mem 425 (by decide +kernel) rfl, List.forall_mem_cons.mpr ⟨am_mem 426 (by decide +kernel) rfl, List.forall_mem_cons.mpr ⟨am_mem 427 (by decide +kernel) rfl, List.forall_mem_cons.mpr ⟨am_mem 40 (by decide +kernel) rfl, fun _ h => absurd h List.not_mem_nil⟩⟩⟩⟩, fun h => absurd h (by decide), fun h => absurd h (by decide)⟩, List.forall_mem_cons.mpr ⟨⟨tX4_applyRound_k, List.forall_mem_cons.mpr ⟨am_mem 437 (by decide +kernel) rfl, List.forall_mem_cons.mpr ⟨am_mem 438 (by decide +kernel) rfl, List.forall_mem_cons.mpr ⟨am_mem 439 (by decide +kernel) rfl, List.forall_mem_cons.mpr ⟨am_mem 40 (by decide +kernel) rfl, fun _ h => absurd h List.not_mem_nil⟩⟩⟩⟩, fun h => absurd h (by decide), fun h => absurd h (by decide)⟩, List.forall_mem_cons.mpr ⟨⟨tX4_takeOutside_k, List.forall_mem_cons.mpr ⟨am_mem 441 (by decide +kernel) rfl, List.forall_mem_cons.mpr ⟨am_mem 442 (by decide +kernel) rfl, List.forall_mem_cons.mpr ⟨am_mem 443 (by decide +kernel) rfl, List.forall_mem_cons.mpr ⟨am_mem 40 (by decide +kernel) rfl, fun _ h => absurd h List.not_mem_nil⟩⟩⟩⟩, fun h => absurd h (by decide), fun h => absurd h (by decide)⟩, List.forall_mem_cons.mpr ⟨⟨tX4_amountOf_k, List.forall_mem_cons.mpr ⟨am_mem 452 (by decide +kernel) rfl, List.forall_mem_cons.mpr ⟨am_mem 453 (by decide +kernel) rfl, List.forall_mem_cons.mpr ⟨am_mem 454 (by decide +kernel) rfl, List.forall_mem_cons.mpr ⟨am_mem 40 (by decide +kernel) rfl, fun _ h => absurd h List.not_mem_nil⟩⟩⟩⟩, fun h => absurd h (by decide), fun h => absurd h (by decide)⟩, List.forall_mem_cons.mpr ⟨⟨tX4_turnBehind_k, List.forall_mem_cons.mpr ⟨am_mem 456 (by decide +kernel) rfl, List.forall_mem_cons.mpr ⟨am_mem 457 (by decide +kernel) rfl, List.forall_mem_cons.mpr ⟨am_mem 458 (by decide +kernel) rfl, List.forall_mem_cons.mpr ⟨am_mem 40 (by decide +kernel) rfl, fun _ h => absurd h List.not_mem_nil⟩⟩⟩⟩, fun h => absurd h (by decide), fun h => absurd h (by decide)⟩, List.forall_mem_cons.mpr ⟨⟨tX1_endOf_k, List.forall_mem_cons.mpr ⟨am_mem 429 (by decide +kernel) rfl, List.forall_mem_cons.mpr ⟨am_mem 430 (by decide +kernel) rfl, List.forall_mem_cons.mpr ⟨am_mem 431 (by decide +kernel) rfl, List.forall_mem_cons.mpr ⟨am_mem 46 (by decide +kernel) rfl, fun _ h => absurd h List.not_mem_nil⟩⟩⟩⟩, fun h => absurd h (by decide), fun h => absurd h (by decide)⟩, List.forall_mem_cons.mpr ⟨⟨tX4_add_k, List.forall_mem_cons.mpr ⟨am_mem 433 (by decide +kernel) rfl, List.forall_mem_cons.mpr ⟨am_mem 434 (by decide +kernel) rfl, List.forall_mem_cons.mpr ⟨am_mem 435 (by decide +kernel) rfl, List.forall_mem_cons.mpr ⟨am_mem 40 (by decide +kernel) rfl, fun _ h => absurd h List.not_mem_nil⟩⟩⟩⟩, fun h => absurd h (by decide), fun h => absurd h (by decide)⟩, List.forall_mem_cons.mpr ⟨⟨tX4_cutAt_k, List.forall_mem_cons.mpr ⟨am_mem 445 (by decide +kernel) rfl, List.forall_mem_cons.mpr ⟨am_mem 446 (by decide +kernel) rfl, List.forall_mem_cons.mpr ⟨am_mem 447 (by decide +kernel) rfl, List.forall_mem_cons.mpr ⟨am_mem 40 (by decide +kernel) rfl, fun _ h => absurd h List.not_mem_nil⟩⟩⟩⟩, fun h => absurd h (by decide), fun h => absurd h (by decide)⟩, fun _ h => absurd h List.not_mem_nil⟩⟩⟩⟩⟩⟩⟩⟩⟩
set_option maxRecDepth 100000 in
theorem am_cv_a5 : ∀ q ∈ am_cv_5, am_cvP 5 q.1 q.2 := List.forall_mem_cons.mpr ⟨⟨tX5_spans_k, List.forall_mem_cons.mpr ⟨am_mem 487 (by decide +kernel) rfl, List.forall_mem_cons.mpr ⟨am_mem 488 (by decide +kernel) rfl, List.forall_mem_cons.mpr ⟨am_mem 489 (by decide +kernel) rfl, List.forall_mem_cons.mpr ⟨am_mem 39 (by decide +kernel) rfl, fun _ h => absurd h List.not_mem_nil⟩⟩⟩⟩, fun h => absurd h (by decide), fun h => absurd h (by decide)⟩, List.forall_mem_cons.mpr ⟨⟨tX5_isBeaten_k, List.forall_mem_cons.mpr ⟨am_mem 495 (by decide +kernel) rfl, List.forall_mem_cons.mpr ⟨am_mem 496 (by decide +kernel) rfl, List.forall_mem_cons.mpr ⟨am_mem 497 (by decide +kernel) rfl, List.forall_mem_cons.mpr ⟨am_mem 39 (by decide +kernel) rfl, fun _ h => absurd h List.not_mem_nil⟩⟩⟩⟩, fun h => absurd h (by decide), fun h => absurd h (by decide)⟩, List.forall_mem_cons.mpr ⟨⟨tX5_steadyFrom_k, List.forall_mem_cons.mpr ⟨am_mem 472 (by decide +kernel) rfl, List.forall_mem_cons.mpr ⟨am_mem 473 (by decide +kernel) rfl, List.forall_mem_cons.mpr ⟨am_mem 474 (by decide +kernel) rfl, List.forall_mem_cons.mpr ⟨am_mem 39 (by decide +kernel) rfl, fun _ h => absurd h List.not_mem_nil⟩⟩⟩⟩, fun h => absurd h (by decide), fun h => absurd h (by decide)⟩, List.forall_mem_cons.mpr ⟨⟨tX5_meeting_k, List.forall_mem_cons.mpr ⟨am_mem 483 (by decide +kernel) rfl, List.forall_mem_cons.mpr ⟨am_mem 484 (by decide +kernel) rfl, List.forall_mem_cons.mpr ⟨am_mem 485 (by decide +kernel) rfl, List.forall_mem_cons.mpr ⟨am_mem 39 (by decide +kernel) rfl, fun _ h => absurd h List.not_mem_nil⟩⟩⟩⟩, fun h => absurd h (by decide), fun h => absurd h (by decide)⟩, List.forall_mem_cons.mpr ⟨⟨tX5_countingOf_k, List.forall_mem_cons.mpr ⟨am_mem 491 (by decide +kernel) rfl, List.forall_mem_cons.mpr ⟨am_mem 492 (by decide +kernel) rfl, List.forall_mem_cons.mpr ⟨am_mem 493 (by decide +kernel) rfl, List.forall_mem_cons.mpr ⟨am_mem 39 (by decide +kernel) rfl, fun _ h => absurd h List.not_mem_nil⟩⟩⟩⟩, fun h => absurd h (by decide), fun h => absurd h (by decide)⟩, List.forall_mem_cons.mpr ⟨⟨tX5_extraOf_k, List.forall_mem_cons.mpr ⟨am_mem 499 (by decide +kernel) rfl, List.forall_mem_cons.mpr ⟨am_mem 500 (by decide +kernel) rfl, List.forall_mem_cons.mpr ⟨am_mem 501 (by decide +kernel) rfl, List.forall_mem_cons.mpr ⟨am_mem 39 (by decide +kernel) rfl, fun _ h => absurd h List.not_mem_nil⟩⟩⟩⟩, fun h => absurd h (by decide), fun h => absurd h (by decide)⟩, List.forall_mem_cons.mpr ⟨⟨tX5_wayTo_k, List.forall_mem_cons.mpr ⟨am_mem 476 (by decide +kernel) rfl, List.forall_mem_cons.mpr ⟨am_mem 477 (by decide +kernel) rfl, List.forall_mem_cons.mpr ⟨am_mem 39 (by decide +kernel) rfl, fun _ h => absurd h List.not_mem_nil⟩⟩⟩, fun h => absurd h (by decide), fun h => absurd h (by decide)⟩, fun _ h => absurd h List.not_mem_nil⟩⟩⟩⟩⟩⟩⟩
set_option maxRecDepth 100000 in
theorem am_cv_a6 : ∀ q ∈ am_cv_6, am_cvP 6 q.1 q.2 := fun _ h => absurd h List.not_mem_nil
set_option maxRecDepth 100000 in
theorem am_cv_a7 : ∀ q ∈ am_cv_7, am_cvP 7 q.1 q.2 := List.forall_mem_cons.mpr ⟨⟨tX1_init_k, List.forall_mem_cons.mpr ⟨am_mem 246 (by decide +kernel) rfl, List.forall_mem_cons.mpr ⟨am_mem 46 (by decide +kernel) rfl, fun _ h => absurd h List.not_mem_nil⟩⟩, fun _ => List.mem_of_getElem? (i := 4) rfl, fun _ => ⟨rfl, rfl⟩⟩, fun _ h => absurd h List.not_mem_nil⟩
set_option maxRecDepth 100000 in
theorem am_cv_a8 : ∀ q ∈ am_cv_8, am_cvP 8 q.1 q.2 := List.forall_mem_cons.mpr ⟨⟨tX2_init_k, List.forall_mem_cons.mpr ⟨am_mem 64 (by decide +kernel) rfl, List.forall_mem_cons.mpr ⟨am_mem 38 (by decide +kernel) rfl, fun _ h => absurd h List.not_mem_nil⟩⟩, fun _ => List.mem_of_getElem? (i := 0) rfl, fun _ => ⟨rfl, rfl⟩⟩, List.forall_mem_cons.mpr ⟨⟨tX5_init_k, List.forall_mem_cons.mpr ⟨am_mem 86 (by decide +kernel) rfl, List.forall_mem_cons.mpr ⟨am_mem 39 (by decide +kernel) rfl, fun _ h => absurd h List.not_mem_nil⟩⟩, fun _ => List.mem_of_getElem? (i := 1) rfl, fun _ => ⟨rfl, rfl⟩⟩, List.forall_mem_cons.mpr ⟨⟨tX4_init_k, List.forall_mem_cons.mpr ⟨am_mem 114 (by decide +kernel) rfl, List.forall_mem_cons.mpr ⟨am_mem 40 (by decide +kernel) rfl, fun _ h => absurd h List.not_mem_nil⟩⟩, fun _ => List.mem_of_getElem? (i := 2) rfl, fun _ => ⟨rfl, rfl⟩⟩, List.forall_mem_cons.mpr ⟨⟨tX6_init_k, List.forall_mem_cons.mpr ⟨am_mem 137 (by decide +kernel) rfl, List.forall_mem_cons.mpr ⟨am_mem 41 (by decide +kernel) rfl, fun _ h => absurd h List.not_mem_nil⟩⟩, fun _ => List.mem_of_getElem? (i := 3) rfl, fun _ => ⟨rfl, rfl⟩⟩, List.forall_mem_cons.mpr ⟨⟨tX0_init_k, List.forall_mem_cons.mpr ⟨am_mem 148 (by decide +kernel) rfl, List.forall_mem_cons.mpr ⟨am_mem 149 (by decide +kernel) rfl, List.forall_mem_cons.mpr ⟨am_mem 42 (by decide +kernel) rfl, fun _ h => absurd h List.not_mem_nil⟩⟩⟩, fun h => absurd h (by decide), fun _ => ⟨rfl, rfl⟩⟩, List.forall_mem_cons.mpr ⟨⟨tX3_init_k, List.forall_mem_cons.mpr ⟨am_mem 172 (by decide +kernel) rfl, List.forall_mem_cons.mpr ⟨am_mem 173 (by decide +kernel) rfl, List.forall_mem_cons.mpr ⟨am_mem 43 (by decide +kernel) rfl, fun _ h => absurd h List.not_mem_nil⟩⟩⟩, fun h => absurd h (by decide), fun _ => ⟨rfl, rfl⟩⟩, List.forall_mem_cons.mpr ⟨⟨tX8_findGroup_k, List.forall_mem_cons.mpr ⟨am_mem 228 (by decide +kernel) rfl, List.forall_mem_cons.mpr ⟨am_mem 230 (by decide +kernel) rfl, List.forall_mem_cons.mpr ⟨am_mem 0 (by decide +kernel) rfl, List.forall_mem_cons.mpr ⟨am_mem 37 (by decide +kernel) rfl, fun _ h => absurd h List.not_mem_nil⟩⟩⟩⟩, fun h => absurd h (by decide), fun h => absurd h (by decide)⟩, List.forall_mem_cons.mpr ⟨⟨tX8_isDay_k, List.forall_mem_cons.mpr ⟨am_mem 235 (by decide +kernel) rfl, List.forall_mem_cons.mpr ⟨am_mem 236 (by decide +kernel) rfl, List.forall_mem_cons.mpr ⟨am_mem 37 (by decide +kernel) rfl, fun _ h => absurd h List.not_mem_nil⟩⟩⟩, fun h => absurd h (by decide), fun h => absurd h (by decide)⟩, List.forall_mem_cons.mpr ⟨⟨tX7_init_k, List.forall_mem_cons.mpr ⟨am_mem 239 (by decide +kernel) rfl, List.forall_mem_cons.mpr ⟨am_mem 240 (by decide +kernel) rfl, List.forall_mem_cons.mpr ⟨am_mem 45 (by decide +kernel) rfl, fun _ h => absurd h List.not_mem_nil⟩⟩⟩, fun h => absurd h (by decide), fun _ => ⟨rfl, rfl⟩⟩, List.forall_mem_cons.mpr ⟨⟨tX8_isWithin_k, List.forall_mem_cons.mpr ⟨am_mem 232 (by decide +kernel) rfl, List.forall_mem_cons.mpr ⟨am_mem 233 (by decide +kernel) rfl, List.forall_mem_cons.mpr ⟨am_mem 37 (by decide +kernel) rfl, fun _ h => absurd h List.not_mem_nil⟩⟩⟩, fun h => absurd h (by decide), fun h => absurd h (by decide)⟩, List.forall_mem_cons.mpr ⟨⟨tX8_findRules_k, List.forall_mem_cons.mpr ⟨am_mem 311 (by decide +kernel) rfl, List.forall_mem_cons.mpr ⟨am_mem 313 (by decide +kernel) rfl, List.forall_mem_cons.mpr ⟨am_mem 1 (by decide +kernel) rfl, List.forall_mem_cons.mpr ⟨am_mem 37 (by decide +kernel) rfl, fun _ h => absurd h List.not_mem_nil⟩⟩⟩⟩, fun h => absurd h (by decide), fun h => absurd h (by decide)⟩, List.forall_mem_cons.mpr ⟨⟨tX8_isRoundStep_k, List.forall_mem_cons.mpr ⟨am_mem 319 (by decide +kernel) rfl, List.forall_mem_cons.mpr ⟨am_mem 320 (by decide +kernel) rfl, List.forall_mem_cons.mpr ⟨am_mem 37 (by decide +kernel) rfl, fun _ h => absurd h List.not_mem_nil⟩⟩⟩, fun h => absurd h (by decide), fun h => absurd h (by decide)⟩, List.forall_mem_cons.mpr ⟨⟨tX2_add_k, List.forall_mem_cons.mpr ⟨am_mem 327 (by decide +kernel) rfl, List.forall_mem_cons.mpr ⟨am_mem 328 (by decide +kernel) rfl, List.forall_mem_cons.mpr ⟨am_mem 329 (by decide +kernel) rfl, List.forall_mem_cons.mpr ⟨am_mem 38 (by decide +kernel) rfl, fun _ h => absurd h List.not_mem_nil⟩⟩⟩⟩, fun h => absurd h (by decide), fun h => absurd h (by decide)⟩, List.forall_mem_cons.mpr ⟨⟨tX8_isMinuteOfDay_k, List.forall_mem_cons.mpr ⟨am_mem 335 (by decide +kernel) rfl, List.forall_mem_cons.mpr ⟨am_mem 336 (by decide +kernel) rfl, List.forall_mem_cons.mpr ⟨am_mem 37 (by decide +kernel) rfl, fun _ h => absurd h List.not_mem_nil⟩⟩⟩, fun h => absurd h (by decide), fun h => absurd h (by decide)⟩, List.forall_mem_cons.mpr ⟨⟨tX5_add_k, List.forall_mem_cons.mpr ⟨am_mem 338 (by decide +kernel) rfl, List.forall_mem_cons.mpr ⟨am_mem 339 (by decide +kernel) rfl, List.forall_mem_cons.mpr ⟨am_mem 340 (by decide +kernel) rfl, List.forall_mem_cons.mpr ⟨am_mem 39 (by decide +kernel) rfl, fun _ h => absurd h List.not_mem_nil⟩⟩⟩⟩, fun h => absurd h (by decide), fun h => absurd h (by decide)⟩, List.forall_mem_cons.mpr ⟨⟨tX5_has_k, List.forall_mem_cons.mpr ⟨am_mem 346 (by decide +kernel) rfl, List.forall_mem_cons.mpr ⟨am_mem 347 (by decide +kernel) rfl, List.forall_mem_cons.mpr ⟨am_mem 348 (by decide +kernel) rfl, List.forall_mem_cons.mpr ⟨am_mem 39 (by decide +kernel) rfl, fun _ h => absurd h List.not_mem_nil⟩⟩⟩⟩, fun h => absurd h (by decide), fun h => absurd h (by decide)⟩, List.forall_mem_cons.mpr ⟨⟨tX5_setApart_k, List.forall_mem_cons.mpr ⟨am_mem 350 (by decide +kernel) rfl, List.forall_mem_cons.mpr ⟨am_mem 351 (by decide +kernel) rfl, List.forall_mem_cons.mpr ⟨am_mem 352 (by decide +kernel) rfl, List.forall_mem_cons.mpr ⟨am_mem 39 (by decide +kernel) rfl, fun _ h => absurd h List.not_mem_nil⟩⟩⟩⟩, fun h => absurd h (by decide), fun h => absurd h (by decide)⟩, List.forall_mem_cons.mpr ⟨⟨tX8_findWorker_k, List.forall_mem_cons.mpr ⟨am_mem 367 (by decide +kernel) rfl, List.forall_mem_cons.mpr ⟨am_mem 369 (by decide +kernel) rfl, List.forall_mem_cons.mpr ⟨am_mem 2 (by decide +kernel) rfl, List.forall_mem_cons.mpr ⟨am_mem 37 (by decide +kernel) rfl, fun _ h => absurd h List.not_mem_nil⟩⟩⟩⟩, fun h => absurd h (by decide), fun h => absurd h (by decide)⟩, List.forall_mem_cons.mpr ⟨⟨tX7_addAbsence_k, List.forall_mem_cons.mpr ⟨am_mem 371 (by decide +kernel) rfl, List.forall_mem_cons.mpr ⟨am_mem 372 (by decide +kernel) rfl, List.forall_mem_cons.mpr ⟨am_mem 373 (by decide +kernel) rfl, List.forall_mem_cons.mpr ⟨am_mem 45 (by decide +kernel) rfl, fun _ h => absurd h List.not_mem_nil⟩⟩⟩⟩, fun h => absurd h (by decide), fun h => absurd h (by decide)⟩, List.forall_mem_cons.mpr ⟨⟨tX8_enter_k, List.forall_mem_cons.mpr ⟨am_mem 379 (by decide +kernel) rfl, List.forall_mem_cons.mpr ⟨am_mem 381 (by decide +kernel) rfl, List.forall_mem_cons.mpr ⟨am_mem 3 (by decide +kernel) rfl, List.forall_mem_cons.mpr ⟨am_mem 37 (by decide +kernel) rfl, fun _ h => absurd h List.not_mem_nil⟩⟩⟩⟩, fun h => absurd h (by decide), fun h => absurd h (by decide)⟩, List.forall_mem_cons.mpr ⟨⟨tX8_timeOf_k, List.forall_mem_cons.mpr ⟨am_mem 383 (by decide +kernel) rfl, List.forall_mem_cons.mpr ⟨am_mem 384 (by decide +kernel) rfl, List.forall_mem_cons.mpr ⟨am_mem 37 (by decide +kernel) rfl, fun _ h => absurd h List.not_mem_nil⟩⟩⟩, fun h => absurd h (by decide), fun h => absurd h (by decide)⟩, List.forall_mem_cons.mpr ⟨⟨tX1_standsAt_k, List.forall_mem_cons.mpr ⟨am_mem 386 (by decide +kernel) rfl, List.forall_mem_cons.mpr ⟨am_mem 387 (by decide +kernel) rfl, List.forall_mem_cons.mpr ⟨am_mem 388 (by decide +kernel) rfl, List.forall_mem_cons.mpr ⟨am_mem 46 (by decide +kernel) rfl, fun _ h => absurd h List.not_mem_nil⟩⟩⟩⟩, fun h => absurd h (by decide), fun h => absurd h (by decide)⟩, List.forall_mem_cons.mpr ⟨⟨tX8_isClosed_k, List.forall_mem_cons.mpr ⟨am_mem 394 (by decide +kernel) rfl, List.forall_mem_cons.mpr ⟨am_mem 396 (by decide +kernel) rfl, List.forall_mem_cons.mpr ⟨am_mem 4 (by decide +kernel) rfl, List.forall_mem_cons.mpr ⟨am_mem 37 (by decide +kernel) rfl, fun _ h => absurd h List.not_mem_nil⟩⟩⟩⟩, fun h => absurd h (by decide), fun h => absurd h (by decide)⟩, List.forall_mem_cons.mpr ⟨⟨tX8_bookClosedDays_k, List.forall_mem_cons.mpr ⟨am_mem 403 (by decide +kernel) rfl, List.forall_mem_cons.mpr ⟨am_mem 405 (by decide +kernel) rfl, List.forall_mem_cons.mpr ⟨am_mem 5 (by decide +kernel) rfl, List.forall_mem_cons.mpr ⟨am_mem 37 (by decide +kernel) rfl, fun _ h => absurd h List.not_mem_nil⟩⟩⟩⟩, fun h => absurd h (by decide), fun h => absurd h (by decide)⟩, List.forall_mem_cons.mpr ⟨⟨tX1_remove_k, List.forall_mem_cons.mpr ⟨am_mem 532 (by decide +kernel) rfl, List.forall_mem_cons.mpr ⟨am_mem 533 (by decide +kernel) rfl, List.forall_mem_cons.mpr ⟨am_mem 534 (by decide +kernel) rfl, List.forall_mem_cons.mpr ⟨am_mem 46 (by decide +kernel) rfl, fun _ h => absurd h List.not_mem_nil⟩⟩⟩⟩, fun h => absurd h (by decide), fun h => absurd h (by decide)⟩, List.forall_mem_cons.mpr ⟨⟨tX8_monthOf_k, List.forall_mem_cons.mpr ⟨am_mem 398 (by decide +kernel) rfl, List.forall_mem_cons.mpr ⟨am_mem 399 (by decide +kernel) rfl, List.forall_mem_cons.mpr ⟨am_mem 37 (by decide +kernel) rfl, fun _ h => absurd h List.not_mem_nil⟩⟩⟩, fun h => absurd h (by decide), fun h => absurd h (by decide)⟩, List.forall_mem_cons.mpr ⟨⟨tX8_kindOf_k, List.forall_mem_cons.mpr ⟨am_mem 416 (by decide +kernel) rfl, List.forall_mem_cons.mpr ⟨am_mem 418 (by decide +kernel) rfl, List.forall_mem_cons.mpr ⟨am_mem 7 (by decide +kernel) rfl, List.forall_mem_cons.mpr ⟨am_mem 37 (by decide +kernel) rfl, fun _ h => absurd h List.not_mem_nil⟩⟩⟩⟩, fun h => absurd h (by decide), fun h => absurd h (by decide)⟩, List.forall_mem_cons.mpr ⟨⟨tX1_amountOf_k, List.forall_mem_cons.mpr ⟨am_mem 549 (by decide +kernel) rfl, List.forall_mem_cons.mpr ⟨am_mem 550 (by decide +kernel) rfl, List.forall_mem_cons.mpr ⟨am_mem 551 (by decide +kernel) rfl, List.forall_mem_cons.mpr ⟨am_mem 46 (by decide +kernel) rfl, fun _ h => absurd h List.not_mem_nil⟩⟩⟩⟩, fun h => absurd h (by decide), fun h => absurd h (by decide)⟩, List.forall_mem_cons.mpr ⟨⟨tX8_fillSheet_k, List.forall_mem_cons.mpr ⟨am_mem 559 (by decide +kernel) rfl, List.forall_mem_cons.mpr ⟨am_mem 561 (by decide +kernel) rfl, List.forall_mem_cons.mpr ⟨am_mem 9 (by decide +kernel) rfl, List.forall_mem_cons.mpr ⟨am_mem 37 (by decide +kernel) rfl, fun _ h => absurd h List.not_mem_nil⟩⟩⟩⟩, fun h => absurd h (by decide), fun h => absurd h (by decide)⟩, List.forall_mem_cons.mpr ⟨⟨tX4_classAt_k, List.forall_mem_cons.mpr ⟨am_mem 563 (by decide +kernel) rfl, List.forall_mem_cons.mpr ⟨am_mem 564 (by decide +kernel) rfl, List.forall_mem_cons.mpr ⟨am_mem 565 (by decide +kernel) rfl, List.forall_mem_cons.mpr ⟨am_mem 40 (by decide +kernel) rfl, fun _ h => absurd h List.not_mem_nil⟩⟩⟩⟩, fun h => absurd h (by decide), fun h => absurd h (by decide)⟩, List.forall_mem_cons.mpr ⟨⟨tX4_amountOf_k, List.forall_mem_cons.mpr ⟨am_mem 463 (by decide +kernel) rfl, List.forall_mem_cons.mpr ⟨am_mem 453 (by decide +kernel) rfl, List.forall_mem_cons.mpr ⟨am_mem 454 (by decide +kernel) rfl, List.forall_mem_cons.mpr ⟨am_mem 40 (by decide +kernel) rfl, fun _ h => absurd h List.not_mem_nil⟩⟩⟩⟩, fun h => absurd h (by decide), fun h => absurd h (by decide)⟩, List.forall_mem_cons.mpr ⟨⟨tX5_meeting_k, List.forall_mem_cons.mpr ⟨am_mem 579 (by decide +kernel) rfl, List.forall_mem_cons.mpr ⟨am_mem 484 (by decide +kernel) rfl, List.forall_mem_cons.mpr ⟨am_mem 485 (by decide +kernel) rfl, List.forall_mem_cons.mpr ⟨am_mem 39 (by decide +kernel) rfl, fun _ h => absurd h List.not_mem_nil⟩⟩⟩⟩, fun h => absurd h (by decide), fun h => absurd h (by decide)⟩, List.forall_mem_cons.mpr ⟨⟨tX5_countingOf_k, List.forall_mem_cons.mpr ⟨am_mem 580 (by decide +kernel) rfl, List.forall_mem_cons.mpr ⟨am_mem 492 (by decide +kernel) rfl, List.forall_mem_cons.mpr ⟨am_mem 493 (by decide +kernel) rfl, List.forall_mem_cons.mpr ⟨am_mem 39 (by decide +kernel) rfl, fun _ h => absurd h List.not_mem_nil⟩⟩⟩⟩, fun h => absurd h (by decide), fun h => absurd h (by decide)⟩, List.forall_mem_cons.mpr ⟨⟨tX8_payOfSheet_k, List.forall_mem_cons.mpr ⟨am_mem 464 (by decide +kernel) rfl, List.forall_mem_cons.mpr ⟨am_mem 466 (by decide +kernel) rfl, List.forall_mem_cons.mpr ⟨am_mem 8 (by decide +kernel) rfl, List.forall_mem_cons.mpr ⟨am_mem 37 (by decide +kernel) rfl, fun _ h => absurd h List.not_mem_nil⟩⟩⟩⟩, fun h => absurd h (by decide), fun h => absurd h (by decide)⟩, List.forall_mem_cons.mpr ⟨⟨tX8_dueOf_k, List.forall_mem_cons.mpr ⟨am_mem 590 (by decide +kernel) rfl, List.forall_mem_cons.mpr ⟨am_mem 592 (by decide +kernel) rfl, List.forall_mem_cons.mpr ⟨am_mem 10 (by decide +kernel) rfl, List.forall_mem_cons.mpr ⟨am_mem 37 (by decide +kernel) rfl, fun _ h => absurd h List.not_mem_nil⟩⟩⟩⟩, fun h => absurd h (by decide), fun h => absurd h (by decide)⟩, List.forall_mem_cons.mpr ⟨⟨tX8_hasGap_k, List.forall_mem_cons.mpr ⟨am_mem 602 (by decide +kernel) rfl, List.forall_mem_cons.mpr ⟨am_mem 603 (by decide +kernel) rfl, List.forall_mem_cons.mpr ⟨am_mem 37 (by decide +kernel) rfl, fun _ h => absurd h List.not_mem_nil⟩⟩⟩, fun h => absurd h (by decide), fun h => absurd h (by decide)⟩, List.forall_mem_cons.mpr ⟨⟨tX8_keepSayings_k, List.forall_mem_cons.mpr ⟨am_mem 605 (by decide +kernel) rfl, List.forall_mem_cons.mpr ⟨am_mem 607 (by decide +kernel) rfl, List.forall_mem_cons.mpr ⟨am_mem 11 (by decide +kernel) rfl, List.forall_mem_cons.mpr ⟨am_mem 37 (by decide +kernel) rfl, fun _ h => absurd h List.not_mem_nil⟩⟩⟩⟩, fun h => absurd h (by decide), fun h => absurd h (by decide)⟩, List.forall_mem_cons.mpr ⟨⟨tX8_isMonth_k, List.forall_mem_cons.mpr ⟨am_mem 631 (by decide +kernel) rfl, List.forall_mem_cons.mpr ⟨am_mem 632 (by decide +kernel) rfl, List.forall_mem_cons.mpr ⟨am_mem 37 (by decide +kernel) rfl, fun _ h => absurd h List.not_mem_nil⟩⟩⟩, fun h => absurd h (by decide), fun h => absurd h (by decide)⟩, List.forall_mem_cons.mpr ⟨⟨tX8_sayingOf_k, List.forall_mem_cons.mpr ⟨am_mem 609 (by decide +kernel) rfl, List.forall_mem_cons.mpr ⟨am_mem 611 (by decide +kernel) rfl, List.forall_mem_cons.mpr ⟨am_mem 12 (by decide +kernel) rfl, List.forall_mem_cons.mpr ⟨am_mem 37 (by decide +kernel) rfl, fun _ h => absurd h List.not_mem_nil⟩⟩⟩⟩, fun h => absurd h (by decide), fun h => absurd h (by decide)⟩, List.forall_mem_cons.mpr ⟨⟨tX7_isAway_k, List.forall_mem_cons.mpr ⟨am_mem 594 (by decide +kernel) rfl, List.forall_mem_cons.mpr ⟨am_mem 595 (by decide +kernel) rfl, List.forall_mem_cons.mpr ⟨am_mem 596 (by decide +kernel) rfl, List.forall_mem_cons.mpr ⟨am_mem 45 (by decide +kernel) rfl, fun _ h => absurd h List.not_mem_nil⟩⟩⟩⟩, fun h => absurd h (by decide), fun h => absurd h (by decide)⟩, List.forall_mem_cons.mpr ⟨⟨tX1_insert_k, List.forall_mem_cons.mpr ⟨am_mem 512 (by decide +kernel) rfl, List.forall_mem_cons.mpr ⟨am_mem 513 (by decide +kernel) rfl, List.forall_mem_cons.mpr ⟨am_mem 514 (by decide +kernel) rfl, List.forall_mem_cons.mpr ⟨am_mem 46 (by decide +kernel) rfl, fun _ h => absurd h List.not_mem_nil⟩⟩⟩⟩, fun h => absurd h (by decide), fun h => absurd h (by decide)⟩, List.forall_mem_cons.mpr ⟨⟨tX8_tallyDays_k, List.forall_mem_cons.mpr ⟨am_mem 407 (by decide +kernel) rfl, List.forall_mem_cons.mpr ⟨am_mem 409 (by decide +kernel) rfl, List.forall_mem_cons.mpr ⟨am_mem 6 (by decide +kernel) rfl, List.forall_mem_cons.mpr ⟨am_mem 37 (by decide +kernel) rfl, fun _ h => absurd h List.not_mem_nil⟩⟩⟩⟩, fun h => absurd h (by decide), fun h => absurd h (by decide)⟩, List.forall_mem_cons.mpr ⟨⟨tX1_placeOf_k, List.forall_mem_cons.mpr ⟨am_mem 411 (by decide +kernel) rfl, List.forall_mem_cons.mpr ⟨am_mem 391 (by decide +kernel) rfl, List.forall_mem_cons.mpr ⟨am_mem 392 (by decide +kernel) rfl, List.forall_mem_cons.mpr ⟨am_mem 46 (by decide +kernel) rfl, fun _ h => absurd h List.not_mem_nil⟩⟩⟩⟩, fun h => absurd h (by decide), fun h => absurd h (by decide)⟩, List.forall_mem_cons.mpr ⟨⟨tX4_fill_k, List.forall_mem_cons.mpr ⟨am_mem 420 (by decide +kernel) rfl, List.forall_mem_cons.mpr ⟨am_mem 421 (by decide +kernel) rfl, List.forall_mem_cons.mpr ⟨am_mem 422 (by decide +kernel) rfl, List.forall_mem_cons.mpr ⟨am_mem 40 (by decide +kernel) rfl, fun _ h => absurd h List.not_mem_nil⟩⟩⟩⟩, fun h => absurd h (by decide), fun h => absurd h (by decide)⟩, List.forall_mem_cons.mpr ⟨⟨tX1_dayOf_k, List.forall_mem_cons.mpr ⟨am_mem 412 (by decide +kernel) rfl, List.forall_mem_cons.mpr ⟨am_mem 413 (by decide +kernel) rfl, List.forall_mem_cons.mpr ⟨am_mem 414 (by decide +kernel) rfl, List.forall_mem_cons.mpr ⟨am_mem 46 (by decide +kernel) rfl, fun _ h => absurd h List.not_mem_nil⟩⟩⟩⟩, fun h => absurd h (by decide), fun h => absurd h (by decide)⟩, List.forall_mem_cons.mpr ⟨⟨tX5_extraOver_k, List.forall_mem_cons.mpr ⟨am_mem 468 (by decide +kernel) rfl, List.forall_mem_cons.mpr ⟨am_mem 469 (by decide +kernel) rfl, List.forall_mem_cons.mpr ⟨am_mem 470 (by decide +kernel) rfl, List.forall_mem_cons.mpr ⟨am_mem 39 (by decide +kernel) rfl, fun _ h => absurd h List.not_mem_nil⟩⟩⟩⟩, fun h => absurd h (by decide), fun h => absurd h (by decide)⟩, List.forall_mem_cons.mpr ⟨⟨tX2_at_k, List.forall_mem_cons.mpr ⟨am_mem 503 (by decide +kernel) rfl, List.forall_mem_cons.mpr ⟨am_mem 504 (by decide +kernel) rfl, List.forall_mem_cons.mpr ⟨am_mem 505 (by decide +kernel) rfl, List.forall_mem_cons.mpr ⟨am_mem 38 (by decide +kernel) rfl, fun _ h => absurd h List.not_mem_nil⟩⟩⟩⟩, fun h => absurd h (by decide), fun h => absurd h (by decide)⟩, List.forall_mem_cons.mpr ⟨⟨tX8_toCents_k, List.forall_mem_cons.mpr ⟨am_mem 507 (by decide +kernel) rfl, List.forall_mem_cons.mpr ⟨am_mem 508 (by decide +kernel) rfl, List.forall_mem_cons.mpr ⟨am_mem 37 (by decide +kernel) rfl, fun _ h => absurd h List.not_mem_nil⟩⟩⟩, fun h => absurd h (by decide), fun h => absurd h (by decide)⟩, List.forall_mem_cons.mpr ⟨⟨tX8_openFlex_k, List.forall_mem_cons.mpr ⟨am_mem 613 (by decide +kernel) rfl, List.forall_mem_cons.mpr ⟨am_mem 615 (by decide +kernel) rfl, List.forall_mem_cons.mpr ⟨am_mem 13 (by decide +kernel) rfl, List.forall_mem_cons.mpr ⟨am_mem 37 (by decide +kernel) rfl, fun _ h => absurd h List.not_mem_nil⟩⟩⟩⟩, fun h => absurd h (by decide), fun h => absurd h (by decide)⟩, fun _ h => absurd h List.not_mem_nil⟩⟩⟩⟩⟩⟩⟩⟩⟩⟩⟩⟩⟩⟩⟩⟩⟩⟩⟩⟩⟩⟩⟩⟩⟩⟩⟩⟩⟩⟩⟩⟩⟩⟩⟩⟩⟩⟩⟩⟩⟩⟩⟩⟩⟩⟩⟩⟩⟩
set_option maxRecDepth 100000 in
theorem am_cv_a9 : ∀ q ∈ am_cv_9, am_cvP 9 q.1 q.2 := List.forall_mem_cons.mpr ⟨⟨tX9_length_k, List.forall_mem_cons.mpr ⟨am_mem 852 (by decide +kernel) rfl, List.forall_mem_cons.mpr ⟨am_mem 853 (by decide +kernel) rfl, List.forall_mem_cons.mpr ⟨am_mem 44 (by decide +kernel) rfl, fun _ h => absurd h List.not_mem_nil⟩⟩⟩, fun h => absurd h (by decide), fun h => absurd h (by decide)⟩, List.forall_mem_cons.mpr ⟨⟨tX9_in_k, List.forall_mem_cons.mpr ⟨am_mem 650 (by decide +kernel) rfl, List.forall_mem_cons.mpr ⟨am_mem 651 (by decide +kernel) rfl, List.forall_mem_cons.mpr ⟨am_mem 44 (by decide +kernel) rfl, fun _ h => absurd h List.not_mem_nil⟩⟩⟩, fun h => absurd h (by decide), fun h => absurd h (by decide)⟩, List.forall_mem_cons.mpr ⟨⟨tX9_isDay_k, List.forall_mem_cons.mpr ⟨am_mem 647 (by decide +kernel) rfl, List.forall_mem_cons.mpr ⟨am_mem 648 (by decide +kernel) rfl, List.forall_mem_cons.mpr ⟨am_mem 44 (by decide +kernel) rfl, fun _ h => absurd h List.not_mem_nil⟩⟩⟩, fun h => absurd h (by decide), fun h => absurd h (by decide)⟩, List.forall_mem_cons.mpr ⟨⟨tX9_isGroup_k, List.forall_mem_cons.mpr ⟨am_mem 657 (by decide +kernel) rfl, List.forall_mem_cons.mpr ⟨am_mem 658 (by decide +kernel) rfl, List.forall_mem_cons.mpr ⟨am_mem 44 (by decide +kernel) rfl, fun _ h => absurd h List.not_mem_nil⟩⟩⟩, fun h => absurd h (by decide), fun h => absurd h (by decide)⟩, List.forall_mem_cons.mpr ⟨⟨tX9_isWorker_k, List.forall_mem_cons.mpr ⟨am_mem 841 (by decide +kernel) rfl, List.forall_mem_cons.mpr ⟨am_mem 843 (by decide +kernel) rfl, List.forall_mem_cons.mpr ⟨am_mem 14 (by decide +kernel) rfl, List.forall_mem_cons.mpr ⟨am_mem 44 (by decide +kernel) rfl, fun _ h => absurd h List.not_mem_nil⟩⟩⟩⟩, fun h => absurd h (by decide), fun h => absurd h (by decide)⟩, List.forall_mem_cons.mpr ⟨⟨tX9_fill_k, List.forall_mem_cons.mpr ⟨am_mem 875 (by decide +kernel) rfl, List.forall_mem_cons.mpr ⟨am_mem 877 (by decide +kernel) rfl, List.forall_mem_cons.mpr ⟨am_mem 20 (by decide +kernel) rfl, List.forall_mem_cons.mpr ⟨am_mem 44 (by decide +kernel) rfl, fun _ h => absurd h List.not_mem_nil⟩⟩⟩⟩, fun h => absurd h (by decide), fun h => absurd h (by decide)⟩, List.forall_mem_cons.mpr ⟨⟨tX9_kindOf_k, List.forall_mem_cons.mpr ⟨am_mem 879 (by decide +kernel) rfl, List.forall_mem_cons.mpr ⟨am_mem 881 (by decide +kernel) rfl, List.forall_mem_cons.mpr ⟨am_mem 21 (by decide +kernel) rfl, List.forall_mem_cons.mpr ⟨am_mem 44 (by decide +kernel) rfl, fun _ h => absurd h List.not_mem_nil⟩⟩⟩⟩, fun h => absurd h (by decide), fun h => absurd h (by decide)⟩, List.forall_mem_cons.mpr ⟨⟨tX9_lay_k, List.forall_mem_cons.mpr ⟨am_mem 883 (by decide +kernel) rfl, List.forall_mem_cons.mpr ⟨am_mem 885 (by decide +kernel) rfl, List.forall_mem_cons.mpr ⟨am_mem 22 (by decide +kernel) rfl, List.forall_mem_cons.mpr ⟨am_mem 44 (by decide +kernel) rfl, fun _ h => absurd h List.not_mem_nil⟩⟩⟩⟩, fun h => absurd h (by decide), fun h => absurd h (by decide)⟩, List.forall_mem_cons.mpr ⟨⟨tX9_there_k, List.forall_mem_cons.mpr ⟨am_mem 887 (by decide +kernel) rfl, List.forall_mem_cons.mpr ⟨am_mem 889 (by decide +kernel) rfl, List.forall_mem_cons.mpr ⟨am_mem 23 (by decide +kernel) rfl, List.forall_mem_cons.mpr ⟨am_mem 44 (by decide +kernel) rfl, fun _ h => absurd h List.not_mem_nil⟩⟩⟩⟩, fun h => absurd h (by decide), fun h => absurd h (by decide)⟩, List.forall_mem_cons.mpr ⟨⟨tX9_behind_k, List.forall_mem_cons.mpr ⟨am_mem 891 (by decide +kernel) rfl, List.forall_mem_cons.mpr ⟨am_mem 893 (by decide +kernel) rfl, List.forall_mem_cons.mpr ⟨am_mem 24 (by decide +kernel) rfl, List.forall_mem_cons.mpr ⟨am_mem 44 (by decide +kernel) rfl, fun _ h => absurd h List.not_mem_nil⟩⟩⟩⟩, fun h => absurd h (by decide), fun h => absurd h (by decide)⟩, List.forall_mem_cons.mpr ⟨⟨tX9_meets_k, List.forall_mem_cons.mpr ⟨am_mem 907 (by decide +kernel) rfl, List.forall_mem_cons.mpr ⟨am_mem 909 (by decide +kernel) rfl, List.forall_mem_cons.mpr ⟨am_mem 28 (by decide +kernel) rfl, List.forall_mem_cons.mpr ⟨am_mem 44 (by decide +kernel) rfl, fun _ h => absurd h List.not_mem_nil⟩⟩⟩⟩, fun h => absurd h (by decide), fun h => absurd h (by decide)⟩, List.forall_mem_cons.mpr ⟨⟨tX9_countsAt_k, List.forall_mem_cons.mpr ⟨am_mem 903 (by decide +kernel) rfl, List.forall_mem_cons.mpr ⟨am_mem 905 (by decide +kernel) rfl, List.forall_mem_cons.mpr ⟨am_mem 27 (by decide +kernel) rfl, List.forall_mem_cons.mpr ⟨am_mem 44 (by decide +kernel) rfl, fun _ h => absurd h List.not_mem_nil⟩⟩⟩⟩, fun h => absurd h (by decide), fun h => absurd h (by decide)⟩, List.forall_mem_cons.mpr ⟨⟨tX9_rateOf_k, List.forall_mem_cons.mpr ⟨am_mem 911 (by decide +kernel) rfl, List.forall_mem_cons.mpr ⟨am_mem 913 (by decide +kernel) rfl, List.forall_mem_cons.mpr ⟨am_mem 29 (by decide +kernel) rfl, List.forall_mem_cons.mpr ⟨am_mem 44 (by decide +kernel) rfl, fun _ h => absurd h List.not_mem_nil⟩⟩⟩⟩, fun h => absurd h (by decide), fun h => absurd h (by decide)⟩, List.forall_mem_cons.mpr ⟨⟨tX9_look_k, List.forall_mem_cons.mpr ⟨am_mem 871 (by decide +kernel) rfl, List.forall_mem_cons.mpr ⟨am_mem 873 (by decide +kernel) rfl, List.forall_mem_cons.mpr ⟨am_mem 19 (by decide +kernel) rfl, List.forall_mem_cons.mpr ⟨am_mem 44 (by decide +kernel) rfl, fun _ h => absurd h List.not_mem_nil⟩⟩⟩⟩, fun h => absurd h (by decide), fun h => absurd h (by decide)⟩, List.forall_mem_cons.mpr ⟨⟨tX9_paid_k, List.forall_mem_cons.mpr ⟨am_mem 895 (by decide +kernel) rfl, List.forall_mem_cons.mpr ⟨am_mem 897 (by decide +kernel) rfl, List.forall_mem_cons.mpr ⟨am_mem 25 (by decide +kernel) rfl, List.forall_mem_cons.mpr ⟨am_mem 44 (by decide +kernel) rfl, fun _ h => absurd h List.not_mem_nil⟩⟩⟩⟩, fun h => absurd h (by decide), fun h => absurd h (by decide)⟩, List.forall_mem_cons.mpr ⟨⟨tX9_pay_k, List.forall_mem_cons.mpr ⟨am_mem 899 (by decide +kernel) rfl, List.forall_mem_cons.mpr ⟨am_mem 901 (by decide +kernel) rfl, List.forall_mem_cons.mpr ⟨am_mem 26 (by decide +kernel) rfl, List.forall_mem_cons.mpr ⟨am_mem 44 (by decide +kernel) rfl, fun _ h => absurd h List.not_mem_nil⟩⟩⟩⟩, fun h => absurd h (by decide), fun h => absurd h (by decide)⟩, List.forall_mem_cons.mpr ⟨⟨tX9_firstDay_k, List.forall_mem_cons.mpr ⟨am_mem 849 (by decide +kernel) rfl, List.forall_mem_cons.mpr ⟨am_mem 850 (by decide +kernel) rfl, List.forall_mem_cons.mpr ⟨am_mem 44 (by decide +kernel) rfl, fun _ h => absurd h List.not_mem_nil⟩⟩⟩, fun h => absurd h (by decide), fun h => absurd h (by decide)⟩, List.forall_mem_cons.mpr ⟨⟨tX9_flexOf_k, List.forall_mem_cons.mpr ⟨am_mem 863 (by decide +kernel) rfl, List.forall_mem_cons.mpr ⟨am_mem 865 (by decide +kernel) rfl, List.forall_mem_cons.mpr ⟨am_mem 17 (by decide +kernel) rfl, List.forall_mem_cons.mpr ⟨am_mem 44 (by decide +kernel) rfl, fun _ h => absurd h List.not_mem_nil⟩⟩⟩⟩, fun h => absurd h (by decide), fun h => absurd h (by decide)⟩, List.forall_mem_cons.mpr ⟨⟨tX9_sumDays_k, List.forall_mem_cons.mpr ⟨am_mem 867 (by decide +kernel) rfl, List.forall_mem_cons.mpr ⟨am_mem 869 (by decide +kernel) rfl, List.forall_mem_cons.mpr ⟨am_mem 18 (by decide +kernel) rfl, List.forall_mem_cons.mpr ⟨am_mem 44 (by decide +kernel) rfl, fun _ h => absurd h List.not_mem_nil⟩⟩⟩⟩, fun h => absurd h (by decide), fun h => absurd h (by decide)⟩, List.forall_mem_cons.mpr ⟨⟨tX9_dueOf_k, List.forall_mem_cons.mpr ⟨am_mem 918 (by decide +kernel) rfl, List.forall_mem_cons.mpr ⟨am_mem 920 (by decide +kernel) rfl, List.forall_mem_cons.mpr ⟨am_mem 30 (by decide +kernel) rfl, List.forall_mem_cons.mpr ⟨am_mem 44 (by decide +kernel) rfl, fun _ h => absurd h List.not_mem_nil⟩⟩⟩⟩, fun h => absurd h (by decide), fun h => absurd h (by decide)⟩, List.forall_mem_cons.mpr ⟨⟨tX9_pair_k, List.forall_mem_cons.mpr ⟨am_mem 855 (by decide +kernel) rfl, List.forall_mem_cons.mpr ⟨am_mem 857 (by decide +kernel) rfl, List.forall_mem_cons.mpr ⟨am_mem 15 (by decide +kernel) rfl, List.forall_mem_cons.mpr ⟨am_mem 44 (by decide +kernel) rfl, fun _ h => absurd h List.not_mem_nil⟩⟩⟩⟩, fun h => absurd h (by decide), fun h => absurd h (by decide)⟩, List.forall_mem_cons.mpr ⟨⟨tX9_says_k, List.forall_mem_cons.mpr ⟨am_mem 859 (by decide +kernel) rfl, List.forall_mem_cons.mpr ⟨am_mem 861 (by decide +kernel) rfl, List.forall_mem_cons.mpr ⟨am_mem 16 (by decide +kernel) rfl, List.forall_mem_cons.mpr ⟨am_mem 44 (by decide +kernel) rfl, fun _ h => absurd h List.not_mem_nil⟩⟩⟩⟩, fun h => absurd h (by decide), fun h => absurd h (by decide)⟩, List.forall_mem_cons.mpr ⟨⟨tX9_markAt_k, List.forall_mem_cons.mpr ⟨am_mem 934 (by decide +kernel) rfl, List.forall_mem_cons.mpr ⟨am_mem 936 (by decide +kernel) rfl, List.forall_mem_cons.mpr ⟨am_mem 32 (by decide +kernel) rfl, List.forall_mem_cons.mpr ⟨am_mem 44 (by decide +kernel) rfl, fun _ h => absurd h List.not_mem_nil⟩⟩⟩⟩, fun h => absurd h (by decide), fun h => absurd h (by decide)⟩, List.forall_mem_cons.mpr ⟨⟨tX9_isMark_k, List.forall_mem_cons.mpr ⟨am_mem 938 (by decide +kernel) rfl, List.forall_mem_cons.mpr ⟨am_mem 940 (by decide +kernel) rfl, List.forall_mem_cons.mpr ⟨am_mem 33 (by decide +kernel) rfl, List.forall_mem_cons.mpr ⟨am_mem 44 (by decide +kernel) rfl, fun _ h => absurd h List.not_mem_nil⟩⟩⟩⟩, fun h => absurd h (by decide), fun h => absurd h (by decide)⟩, List.forall_mem_cons.mpr ⟨⟨tX9_monthOf_k, List.forall_mem_cons.mpr ⟨am_mem 942 (by decide +kernel) rfl, List.forall_mem_cons.mpr ⟨am_mem 943 (by decide +kernel) rfl, List.forall_mem_cons.mpr ⟨am_mem 44 (by decide +kernel) rfl, fun _ h => absurd h List.not_mem_nil⟩⟩⟩, fun h => absurd h (by decide), fun h => absurd h (by decide)⟩, List.forall_mem_cons.mpr ⟨⟨tX9_book_k, List.forall_mem_cons.mpr ⟨am_mem 946 (by decide +kernel) rfl, List.forall_mem_cons.mpr ⟨am_mem 948 (by decide +kernel) rfl, List.forall_mem_cons.mpr ⟨am_mem 34 (by decide +kernel) rfl, List.forall_mem_cons.mpr ⟨am_mem 44 (by decide +kernel) rfl, fun _ h => absurd h List.not_mem_nil⟩⟩⟩⟩, fun h => absurd h (by decide), fun h => absurd h (by decide)⟩, List.forall_mem_cons.mpr ⟨⟨tX9_comes_k, List.forall_mem_cons.mpr ⟨am_mem 930 (by decide +kernel) rfl, List.forall_mem_cons.mpr ⟨am_mem 932 (by decide +kernel) rfl, List.forall_mem_cons.mpr ⟨am_mem 31 (by decide +kernel) rfl, List.forall_mem_cons.mpr ⟨am_mem 44 (by decide +kernel) rfl, fun _ h => absurd h List.not_mem_nil⟩⟩⟩⟩, fun h => absurd h (by decide), fun h => absurd h (by decide)⟩, List.forall_mem_cons.mpr ⟨⟨tX9_looks_k, List.forall_mem_cons.mpr ⟨am_mem 974 (by decide +kernel) rfl, List.forall_mem_cons.mpr ⟨am_mem 976 (by decide +kernel) rfl, List.forall_mem_cons.mpr ⟨am_mem 35 (by decide +kernel) rfl, List.forall_mem_cons.mpr ⟨am_mem 44 (by decide +kernel) rfl, fun _ h => absurd h List.not_mem_nil⟩⟩⟩⟩, fun h => absurd h (by decide), fun h => absurd h (by decide)⟩, fun _ h => absurd h List.not_mem_nil⟩⟩⟩⟩⟩⟩⟩⟩⟩⟩⟩⟩⟩⟩⟩⟩⟩⟩⟩⟩⟩⟩⟩⟩⟩⟩⟩⟩
set_option maxRecDepth 100000 in
theorem am_cv_a10 : ∀ q ∈ am_cv_10, am_cvP 10 q.1 q.2 := List.forall_mem_cons.mpr ⟨⟨tX8_init_k, List.forall_mem_cons.mpr ⟨am_mem 51 (by decide +kernel) rfl, List.forall_mem_cons.mpr ⟨am_mem 52 (by decide +kernel) rfl, List.forall_mem_cons.mpr ⟨am_mem 37 (by decide +kernel) rfl, fun _ h => absurd h List.not_mem_nil⟩⟩⟩, fun h => absurd h (by decide), fun _ => ⟨rfl, rfl⟩⟩, List.forall_mem_cons.mpr ⟨⟨tX9_init_k, List.forall_mem_cons.mpr ⟨am_mem 662 (by decide +kernel) rfl, List.forall_mem_cons.mpr ⟨am_mem 663 (by decide +kernel) rfl, List.forall_mem_cons.mpr ⟨am_mem 44 (by decide +kernel) rfl, fun _ h => absurd h List.not_mem_nil⟩⟩⟩, fun h => absurd h (by decide), fun _ => ⟨rfl, rfl⟩⟩, List.forall_mem_cons.mpr ⟨⟨tX8_worker_k, List.forall_mem_cons.mpr ⟨am_mem 224 (by decide +kernel) rfl, List.forall_mem_cons.mpr ⟨am_mem 225 (by decide +kernel) rfl, List.forall_mem_cons.mpr ⟨am_mem 226 (by decide +kernel) rfl, List.forall_mem_cons.mpr ⟨am_mem 37 (by decide +kernel) rfl, fun _ h => absurd h List.not_mem_nil⟩⟩⟩⟩, fun h => absurd h (by decide), fun h => absurd h (by decide)⟩, List.forall_mem_cons.mpr ⟨⟨tX9_worker_k, List.forall_mem_cons.mpr ⟨am_mem 833 (by decide +kernel) rfl, List.forall_mem_cons.mpr ⟨am_mem 834 (by decide +kernel) rfl, List.forall_mem_cons.mpr ⟨am_mem 835 (by decide +kernel) rfl, List.forall_mem_cons.mpr ⟨am_mem 44 (by decide +kernel) rfl, fun _ h => absurd h List.not_mem_nil⟩⟩⟩⟩, fun h => absurd h (by decide), fun h => absurd h (by decide)⟩, List.forall_mem_cons.mpr ⟨⟨tX8_feast_k, List.forall_mem_cons.mpr ⟨am_mem 299 (by decide +kernel) rfl, List.forall_mem_cons.mpr ⟨am_mem 300 (by decide +kernel) rfl, List.forall_mem_cons.mpr ⟨am_mem 301 (by decide +kernel) rfl, List.forall_mem_cons.mpr ⟨am_mem 37 (by decide +kernel) rfl, fun _ h => absurd h List.not_mem_nil⟩⟩⟩⟩, fun h => absurd h (by decide), fun h => absurd h (by decide)⟩, List.forall_mem_cons.mpr ⟨⟨tX9_feast_k, List.forall_mem_cons.mpr ⟨am_mem 643 (by decide +kernel) rfl, List.forall_mem_cons.mpr ⟨am_mem 644 (by decide +kernel) rfl, List.forall_mem_cons.mpr ⟨am_mem 645 (by decide +kernel) rfl, List.forall_mem_cons.mpr ⟨am_mem 44 (by decide +kernel) rfl, fun _ h => absurd h List.not_mem_nil⟩⟩⟩⟩, fun h => absurd h (by decide), fun h => absurd h (by decide)⟩, List.forall_mem_cons.mpr ⟨⟨tX8_kind_k, List.forall_mem_cons.mpr ⟨am_mem 303 (by decide +kernel) rfl, List.forall_mem_cons.mpr ⟨am_mem 304 (by decide +kernel) rfl, List.forall_mem_cons.mpr ⟨am_mem 305 (by decide +kernel) rfl, List.forall_mem_cons.mpr ⟨am_mem 37 (by decide +kernel) rfl, fun _ h => absurd h List.not_mem_nil⟩⟩⟩⟩, fun h => absurd h (by decide), fun h => absurd h (by decide)⟩, List.forall_mem_cons.mpr ⟨⟨tX9_kind_k, List.forall_mem_cons.mpr ⟨am_mem 653 (by decide +kernel) rfl, List.forall_mem_cons.mpr ⟨am_mem 654 (by decide +kernel) rfl, List.forall_mem_cons.mpr ⟨am_mem 655 (by decide +kernel) rfl, List.forall_mem_cons.mpr ⟨am_mem 44 (by decide +kernel) rfl, fun _ h => absurd h List.not_mem_nil⟩⟩⟩⟩, fun h => absurd h (by decide), fun h => absurd h (by decide)⟩, List.forall_mem_cons.mpr ⟨⟨tX8_rule_k, List.forall_mem_cons.mpr ⟨am_mem 307 (by decide +kernel) rfl, List.forall_mem_cons.mpr ⟨am_mem 308 (by decide +kernel) rfl, List.forall_mem_cons.mpr ⟨am_mem 309 (by decide +kernel) rfl, List.forall_mem_cons.mpr ⟨am_mem 37 (by decide +kernel) rfl, fun _ h => absurd h List.not_mem_nil⟩⟩⟩⟩, fun h => absurd h (by decide), fun h => absurd h (by decide)⟩, List.forall_mem_cons.mpr ⟨⟨tX9_rule_k, List.forall_mem_cons.mpr ⟨am_mem 807 (by decide +kernel) rfl, List.forall_mem_cons.mpr ⟨am_mem 808 (by decide +kernel) rfl, List.forall_mem_cons.mpr ⟨am_mem 809 (by decide +kernel) rfl, List.forall_mem_cons.mpr ⟨am_mem 44 (by decide +kernel) rfl, fun _ h => absurd h List.not_mem_nil⟩⟩⟩⟩, fun h => absurd h (by decide), fun h => absurd h (by decide)⟩, List.forall_mem_cons.mpr ⟨⟨tX8_rate_k, List.forall_mem_cons.mpr ⟨am_mem 322 (by decide +kernel) rfl, List.forall_mem_cons.mpr ⟨am_mem 323 (by decide +kernel) rfl, List.forall_mem_cons.mpr ⟨am_mem 324 (by decide +kernel) rfl, List.forall_mem_cons.mpr ⟨am_mem 37 (by decide +kernel) rfl, fun _ h => absurd h List.not_mem_nil⟩⟩⟩⟩, fun h => absurd h (by decide), fun h => absurd h (by decide)⟩, List.forall_mem_cons.mpr ⟨⟨tX9_rate_k, List.forall_mem_cons.mpr ⟨am_mem 811 (by decide +kernel) rfl, List.forall_mem_cons.mpr ⟨am_mem 812 (by decide +kernel) rfl, List.forall_mem_cons.mpr ⟨am_mem 813 (by decide +kernel) rfl, List.forall_mem_cons.mpr ⟨am_mem 44 (by decide +kernel) rfl, fun _ h => absurd h List.not_mem_nil⟩⟩⟩⟩, fun h => absurd h (by decide), fun h => absurd h (by decide)⟩, List.forall_mem_cons.mpr ⟨⟨tX8_surcharge_k, List.forall_mem_cons.mpr ⟨am_mem 331 (by decide +kernel) rfl, List.forall_mem_cons.mpr ⟨am_mem 332 (by decide +kernel) rfl, List.forall_mem_cons.mpr ⟨am_mem 333 (by decide +kernel) rfl, List.forall_mem_cons.mpr ⟨am_mem 37 (by decide +kernel) rfl, fun _ h => absurd h List.not_mem_nil⟩⟩⟩⟩, fun h => absurd h (by decide), fun h => absurd h (by decide)⟩, List.forall_mem_cons.mpr ⟨⟨tX9_surcharge_k, List.forall_mem_cons.mpr ⟨am_mem 816 (by decide +kernel) rfl, List.forall_mem_cons.mpr ⟨am_mem 817 (by decide +kernel) rfl, List.forall_mem_cons.mpr ⟨am_mem 818 (by decide +kernel) rfl, List.forall_mem_cons.mpr ⟨am_mem 44 (by decide +kernel) rfl, fun _ h => absurd h List.not_mem_nil⟩⟩⟩⟩, fun h => absurd h (by decide), fun h => absurd h (by decide)⟩, List.forall_mem_cons.mpr ⟨⟨tX8_exclude_k, List.forall_mem_cons.mpr ⟨am_mem 342 (by decide +kernel) rfl, List.forall_mem_cons.mpr ⟨am_mem 343 (by decide +kernel) rfl, List.forall_mem_cons.mpr ⟨am_mem 344 (by decide +kernel) rfl, List.forall_mem_cons.mpr ⟨am_mem 37 (by decide +kernel) rfl, fun _ h => absurd h List.not_mem_nil⟩⟩⟩⟩, fun h => absurd h (by decide), fun h => absurd h (by decide)⟩, List.forall_mem_cons.mpr ⟨⟨tX9_exclude_k, List.forall_mem_cons.mpr ⟨am_mem 820 (by decide +kernel) rfl, List.forall_mem_cons.mpr ⟨am_mem 821 (by decide +kernel) rfl, List.forall_mem_cons.mpr ⟨am_mem 822 (by decide +kernel) rfl, List.forall_mem_cons.mpr ⟨am_mem 44 (by decide +kernel) rfl, fun _ h => absurd h List.not_mem_nil⟩⟩⟩⟩, fun h => absurd h (by decide), fun h => absurd h (by decide)⟩, List.forall_mem_cons.mpr ⟨⟨tX8_target_k, List.forall_mem_cons.mpr ⟨am_mem 354 (by decide +kernel) rfl, List.forall_mem_cons.mpr ⟨am_mem 355 (by decide +kernel) rfl, List.forall_mem_cons.mpr ⟨am_mem 356 (by decide +kernel) rfl, List.forall_mem_cons.mpr ⟨am_mem 37 (by decide +kernel) rfl, fun _ h => absurd h List.not_mem_nil⟩⟩⟩⟩, fun h => absurd h (by decide), fun h => absurd h (by decide)⟩, List.forall_mem_cons.mpr ⟨⟨tX9_target_k, List.forall_mem_cons.mpr ⟨am_mem 824 (by decide +kernel) rfl, List.forall_mem_cons.mpr ⟨am_mem 825 (by decide +kernel) rfl, List.forall_mem_cons.mpr ⟨am_mem 826 (by decide +kernel) rfl, List.forall_mem_cons.mpr ⟨am_mem 44 (by decide +kernel) rfl, fun _ h => absurd h List.not_mem_nil⟩⟩⟩⟩, fun h => absurd h (by decide), fun h => absurd h (by decide)⟩, List.forall_mem_cons.mpr ⟨⟨tX8_limits_k, List.forall_mem_cons.mpr ⟨am_mem 358 (by decide +kernel) rfl, List.forall_mem_cons.mpr ⟨am_mem 359 (by decide +kernel) rfl, List.forall_mem_cons.mpr ⟨am_mem 360 (by decide +kernel) rfl, List.forall_mem_cons.mpr ⟨am_mem 37 (by decide +kernel) rfl, fun _ h => absurd h List.not_mem_nil⟩⟩⟩⟩, fun h => absurd h (by decide), fun h => absurd h (by decide)⟩, List.forall_mem_cons.mpr ⟨⟨tX9_limits_k, List.forall_mem_cons.mpr ⟨am_mem 828 (by decide +kernel) rfl, List.forall_mem_cons.mpr ⟨am_mem 829 (by decide +kernel) rfl, List.forall_mem_cons.mpr ⟨am_mem 830 (by decide +kernel) rfl, List.forall_mem_cons.mpr ⟨am_mem 44 (by decide +kernel) rfl, fun _ h => absurd h List.not_mem_nil⟩⟩⟩⟩, fun h => absurd h (by decide), fun h => absurd h (by decide)⟩, List.forall_mem_cons.mpr ⟨⟨tX8_absent_k, List.forall_mem_cons.mpr ⟨am_mem 363 (by decide +kernel) rfl, List.forall_mem_cons.mpr ⟨am_mem 364 (by decide +kernel) rfl, List.forall_mem_cons.mpr ⟨am_mem 365 (by decide +kernel) rfl, List.forall_mem_cons.mpr ⟨am_mem 37 (by decide +kernel) rfl, fun _ h => absurd h List.not_mem_nil⟩⟩⟩⟩, fun h => absurd h (by decide), fun h => absurd h (by decide)⟩, List.forall_mem_cons.mpr ⟨⟨tX9_absent_k, List.forall_mem_cons.mpr ⟨am_mem 837 (by decide +kernel) rfl, List.forall_mem_cons.mpr ⟨am_mem 838 (by decide +kernel) rfl, List.forall_mem_cons.mpr ⟨am_mem 839 (by decide +kernel) rfl, List.forall_mem_cons.mpr ⟨am_mem 44 (by decide +kernel) rfl, fun _ h => absurd h List.not_mem_nil⟩⟩⟩⟩, fun h => absurd h (by decide), fun h => absurd h (by decide)⟩, List.forall_mem_cons.mpr ⟨⟨tX8_mark_k, List.forall_mem_cons.mpr ⟨am_mem 375 (by decide +kernel) rfl, List.forall_mem_cons.mpr ⟨am_mem 376 (by decide +kernel) rfl, List.forall_mem_cons.mpr ⟨am_mem 377 (by decide +kernel) rfl, List.forall_mem_cons.mpr ⟨am_mem 37 (by decide +kernel) rfl, fun _ h => absurd h List.not_mem_nil⟩⟩⟩⟩, fun h => absurd h (by decide), fun h => absurd h (by decide)⟩, List.forall_mem_cons.mpr ⟨⟨tX9_mark_k, List.forall_mem_cons.mpr ⟨am_mem 926 (by decide +kernel) rfl, List.forall_mem_cons.mpr ⟨am_mem 927 (by decide +kernel) rfl, List.forall_mem_cons.mpr ⟨am_mem 928 (by decide +kernel) rfl, List.forall_mem_cons.mpr ⟨am_mem 44 (by decide +kernel) rfl, fun _ h => absurd h List.not_mem_nil⟩⟩⟩⟩, fun h => absurd h (by decide), fun h => absurd h (by decide)⟩, List.forall_mem_cons.mpr ⟨⟨tX8_late_k, List.forall_mem_cons.mpr ⟨am_mem 524 (by decide +kernel) rfl, List.forall_mem_cons.mpr ⟨am_mem 525 (by decide +kernel) rfl, List.forall_mem_cons.mpr ⟨am_mem 526 (by decide +kernel) rfl, List.forall_mem_cons.mpr ⟨am_mem 37 (by decide +kernel) rfl, fun _ h => absurd h List.not_mem_nil⟩⟩⟩⟩, fun h => absurd h (by decide), fun h => absurd h (by decide)⟩, List.forall_mem_cons.mpr ⟨⟨tX9_late_k, List.forall_mem_cons.mpr ⟨am_mem 950 (by decide +kernel) rfl, List.forall_mem_cons.mpr ⟨am_mem 951 (by decide +kernel) rfl, List.forall_mem_cons.mpr ⟨am_mem 952 (by decide +kernel) rfl, List.forall_mem_cons.mpr ⟨am_mem 44 (by decide +kernel) rfl, fun _ h => absurd h List.not_mem_nil⟩⟩⟩⟩, fun h => absurd h (by decide), fun h => absurd h (by decide)⟩, List.forall_mem_cons.mpr ⟨⟨tX8_unmark_k, List.forall_mem_cons.mpr ⟨am_mem 528 (by decide +kernel) rfl, List.forall_mem_cons.mpr ⟨am_mem 529 (by decide +kernel) rfl, List.forall_mem_cons.mpr ⟨am_mem 530 (by decide +kernel) rfl, List.forall_mem_cons.mpr ⟨am_mem 37 (by decide +kernel) rfl, fun _ h => absurd h List.not_mem_nil⟩⟩⟩⟩, fun h => absurd h (by decide), fun h => absurd h (by decide)⟩, List.forall_mem_cons.mpr ⟨⟨tX9_unmark_k, List.forall_mem_cons.mpr ⟨am_mem 954 (by decide +kernel) rfl, List.forall_mem_cons.mpr ⟨am_mem 955 (by decide +kernel) rfl, List.forall_mem_cons.mpr ⟨am_mem 956 (by decide +kernel) rfl, List.forall_mem_cons.mpr ⟨am_mem 44 (by decide +kernel) rfl, fun _ h => absurd h List.not_mem_nil⟩⟩⟩⟩, fun h => absurd h (by decide), fun h => absurd h (by decide)⟩, List.forall_mem_cons.mpr ⟨⟨tX8_marked_k, List.forall_mem_cons.mpr ⟨am_mem 537 (by decide +kernel) rfl, List.forall_mem_cons.mpr ⟨am_mem 538 (by decide +kernel) rfl, List.forall_mem_cons.mpr ⟨am_mem 539 (by decide +kernel) rfl, List.forall_mem_cons.mpr ⟨am_mem 37 (by decide +kernel) rfl, fun _ h => absurd h List.not_mem_nil⟩⟩⟩⟩, fun h => absurd h (by decide), fun h => absurd h (by decide)⟩, List.forall_mem_cons.mpr ⟨⟨tX9_marked_k, List.forall_mem_cons.mpr ⟨am_mem 958 (by decide +kernel) rfl, List.forall_mem_cons.mpr ⟨am_mem 959 (by decide +kernel) rfl, List.forall_mem_cons.mpr ⟨am_mem 960 (by decide +kernel) rfl, List.forall_mem_cons.mpr ⟨am_mem 44 (by decide +kernel) rfl, fun _ h => absurd h List.not_mem_nil⟩⟩⟩⟩, fun h => absurd h (by decide), fun h => absurd h (by decide)⟩, List.forall_mem_cons.mpr ⟨⟨tX8_day_k, List.forall_mem_cons.mpr ⟨am_mem 541 (by decide +kernel) rfl, List.forall_mem_cons.mpr ⟨am_mem 542 (by decide +kernel) rfl, List.forall_mem_cons.mpr ⟨am_mem 543 (by decide +kernel) rfl, List.forall_mem_cons.mpr ⟨am_mem 37 (by decide +kernel) rfl, fun _ h => absurd h List.not_mem_nil⟩⟩⟩⟩, fun h => absurd h (by decide), fun h => absurd h (by decide)⟩, List.forall_mem_cons.mpr ⟨⟨tX9_day_k, List.forall_mem_cons.mpr ⟨am_mem 962 (by decide +kernel) rfl, List.forall_mem_cons.mpr ⟨am_mem 963 (by decide +kernel) rfl, List.forall_mem_cons.mpr ⟨am_mem 964 (by decide +kernel) rfl, List.forall_mem_cons.mpr ⟨am_mem 44 (by decide +kernel) rfl, fun _ h => absurd h List.not_mem_nil⟩⟩⟩⟩, fun h => absurd h (by decide), fun h => absurd h (by decide)⟩, List.forall_mem_cons.mpr ⟨⟨tX8_shifts_k, List.forall_mem_cons.mpr ⟨am_mem 545 (by decide +kernel) rfl, List.forall_mem_cons.mpr ⟨am_mem 546 (by decide +kernel) rfl, List.forall_mem_cons.mpr ⟨am_mem 547 (by decide +kernel) rfl, List.forall_mem_cons.mpr ⟨am_mem 37 (by decide +kernel) rfl, fun _ h => absurd h List.not_mem_nil⟩⟩⟩⟩, fun h => absurd h (by decide), fun h => absurd h (by decide)⟩, List.forall_mem_cons.mpr ⟨⟨tX9_shifts_k, List.forall_mem_cons.mpr ⟨am_mem 966 (by decide +kernel) rfl, List.forall_mem_cons.mpr ⟨am_mem 967 (by decide +kernel) rfl, List.forall_mem_cons.mpr ⟨am_mem 968 (by decide +kernel) rfl, List.forall_mem_cons.mpr ⟨am_mem 44 (by decide +kernel) rfl, fun _ h => absurd h List.not_mem_nil⟩⟩⟩⟩, fun h => absurd h (by decide), fun h => absurd h (by decide)⟩, List.forall_mem_cons.mpr ⟨⟨tX8_minute_k, List.forall_mem_cons.mpr ⟨am_mem 555 (by decide +kernel) rfl, List.forall_mem_cons.mpr ⟨am_mem 556 (by decide +kernel) rfl, List.forall_mem_cons.mpr ⟨am_mem 557 (by decide +kernel) rfl, List.forall_mem_cons.mpr ⟨am_mem 37 (by decide +kernel) rfl, fun _ h => absurd h List.not_mem_nil⟩⟩⟩⟩, fun h => absurd h (by decide), fun h => absurd h (by decide)⟩, List.forall_mem_cons.mpr ⟨⟨tX9_minute_k, List.forall_mem_cons.mpr ⟨am_mem 970 (by decide +kernel) rfl, List.forall_mem_cons.mpr ⟨am_mem 971 (by decide +kernel) rfl, List.forall_mem_cons.mpr ⟨am_mem 972 (by decide +kernel) rfl, List.forall_mem_cons.mpr ⟨am_mem 44 (by decide +kernel) rfl, fun _ h => absurd h List.not_mem_nil⟩⟩⟩⟩, fun h => absurd h (by decide), fun h => absurd h (by decide)⟩, List.forall_mem_cons.mpr ⟨⟨tX8_minutes_k, List.forall_mem_cons.mpr ⟨am_mem 567 (by decide +kernel) rfl, List.forall_mem_cons.mpr ⟨am_mem 568 (by decide +kernel) rfl, List.forall_mem_cons.mpr ⟨am_mem 569 (by decide +kernel) rfl, List.forall_mem_cons.mpr ⟨am_mem 37 (by decide +kernel) rfl, fun _ h => absurd h List.not_mem_nil⟩⟩⟩⟩, fun h => absurd h (by decide), fun h => absurd h (by decide)⟩, List.forall_mem_cons.mpr ⟨⟨tX9_minutes_k, List.forall_mem_cons.mpr ⟨am_mem 978 (by decide +kernel) rfl, List.forall_mem_cons.mpr ⟨am_mem 979 (by decide +kernel) rfl, List.forall_mem_cons.mpr ⟨am_mem 980 (by decide +kernel) rfl, List.forall_mem_cons.mpr ⟨am_mem 44 (by decide +kernel) rfl, fun _ h => absurd h List.not_mem_nil⟩⟩⟩⟩, fun h => absurd h (by decide), fun h => absurd h (by decide)⟩, List.forall_mem_cons.mpr ⟨⟨tX8_why_k, List.forall_mem_cons.mpr ⟨am_mem 571 (by decide +kernel) rfl, List.forall_mem_cons.mpr ⟨am_mem 572 (by decide +kernel) rfl, List.forall_mem_cons.mpr ⟨am_mem 573 (by decide +kernel) rfl, List.forall_mem_cons.mpr ⟨am_mem 37 (by decide +kernel) rfl, fun _ h => absurd h List.not_mem_nil⟩⟩⟩⟩, fun h => absurd h (by decide), fun h => absurd h (by decide)⟩, List.forall_mem_cons.mpr ⟨⟨tX9_why_k, List.forall_mem_cons.mpr ⟨am_mem 982 (by decide +kernel) rfl, List.forall_mem_cons.mpr ⟨am_mem 983 (by decide +kernel) rfl, List.forall_mem_cons.mpr ⟨am_mem 984 (by decide +kernel) rfl, List.forall_mem_cons.mpr ⟨am_mem 44 (by decide +kernel) rfl, fun _ h => absurd h List.not_mem_nil⟩⟩⟩⟩, fun h => absurd h (by decide), fun h => absurd h (by decide)⟩, List.forall_mem_cons.mpr ⟨⟨tX8_counts_k, List.forall_mem_cons.mpr ⟨am_mem 575 (by decide +kernel) rfl, List.forall_mem_cons.mpr ⟨am_mem 576 (by decide +kernel) rfl, List.forall_mem_cons.mpr ⟨am_mem 577 (by decide +kernel) rfl, List.forall_mem_cons.mpr ⟨am_mem 37 (by decide +kernel) rfl, fun _ h => absurd h List.not_mem_nil⟩⟩⟩⟩, fun h => absurd h (by decide), fun h => absurd h (by decide)⟩, List.forall_mem_cons.mpr ⟨⟨tX9_counts_k, List.forall_mem_cons.mpr ⟨am_mem 986 (by decide +kernel) rfl, List.forall_mem_cons.mpr ⟨am_mem 987 (by decide +kernel) rfl, List.forall_mem_cons.mpr ⟨am_mem 988 (by decide +kernel) rfl, List.forall_mem_cons.mpr ⟨am_mem 44 (by decide +kernel) rfl, fun _ h => absurd h List.not_mem_nil⟩⟩⟩⟩, fun h => absurd h (by decide), fun h => absurd h (by decide)⟩, List.forall_mem_cons.mpr ⟨⟨tX8_cents_k, List.forall_mem_cons.mpr ⟨am_mem 581 (by decide +kernel) rfl, List.forall_mem_cons.mpr ⟨am_mem 582 (by decide +kernel) rfl, List.forall_mem_cons.mpr ⟨am_mem 583 (by decide +kernel) rfl, List.forall_mem_cons.mpr ⟨am_mem 37 (by decide +kernel) rfl, fun _ h => absurd h List.not_mem_nil⟩⟩⟩⟩, fun h => absurd h (by decide), fun h => absurd h (by decide)⟩, List.forall_mem_cons.mpr ⟨⟨tX9_cents_k, List.forall_mem_cons.mpr ⟨am_mem 990 (by decide +kernel) rfl, List.forall_mem_cons.mpr ⟨am_mem 991 (by decide +kernel) rfl, List.forall_mem_cons.mpr ⟨am_mem 992 (by decide +kernel) rfl, List.forall_mem_cons.mpr ⟨am_mem 44 (by decide +kernel) rfl, fun _ h => absurd h List.not_mem_nil⟩⟩⟩⟩, fun h => absurd h (by decide), fun h => absurd h (by decide)⟩, List.forall_mem_cons.mpr ⟨⟨tX8_due_k, List.forall_mem_cons.mpr ⟨am_mem 586 (by decide +kernel) rfl, List.forall_mem_cons.mpr ⟨am_mem 587 (by decide +kernel) rfl, List.forall_mem_cons.mpr ⟨am_mem 588 (by decide +kernel) rfl, List.forall_mem_cons.mpr ⟨am_mem 37 (by decide +kernel) rfl, fun _ h => absurd h List.not_mem_nil⟩⟩⟩⟩, fun h => absurd h (by decide), fun h => absurd h (by decide)⟩, List.forall_mem_cons.mpr ⟨⟨tX9_due_k, List.forall_mem_cons.mpr ⟨am_mem 994 (by decide +kernel) rfl, List.forall_mem_cons.mpr ⟨am_mem 995 (by decide +kernel) rfl, List.forall_mem_cons.mpr ⟨am_mem 996 (by decide +kernel) rfl, List.forall_mem_cons.mpr ⟨am_mem 44 (by decide +kernel) rfl, fun _ h => absurd h List.not_mem_nil⟩⟩⟩⟩, fun h => absurd h (by decide), fun h => absurd h (by decide)⟩, List.forall_mem_cons.mpr ⟨⟨tX8_close_k, List.forall_mem_cons.mpr ⟨am_mem 598 (by decide +kernel) rfl, List.forall_mem_cons.mpr ⟨am_mem 599 (by decide +kernel) rfl, List.forall_mem_cons.mpr ⟨am_mem 600 (by decide +kernel) rfl, List.forall_mem_cons.mpr ⟨am_mem 37 (by decide +kernel) rfl, fun _ h => absurd h List.not_mem_nil⟩⟩⟩⟩, fun h => absurd h (by decide), fun h => absurd h (by decide)⟩, List.forall_mem_cons.mpr ⟨⟨tX9_close_k, List.forall_mem_cons.mpr ⟨am_mem 845 (by decide +kernel) rfl, List.forall_mem_cons.mpr ⟨am_mem 846 (by decide +kernel) rfl, List.forall_mem_cons.mpr ⟨am_mem 847 (by decide +kernel) rfl, List.forall_mem_cons.mpr ⟨am_mem 44 (by decide +kernel) rfl, fun _ h => absurd h List.not_mem_nil⟩⟩⟩⟩, fun h => absurd h (by decide), fun h => absurd h (by decide)⟩, List.forall_mem_cons.mpr ⟨⟨tX8_open_k, List.forall_mem_cons.mpr ⟨am_mem 623 (by decide +kernel) rfl, List.forall_mem_cons.mpr ⟨am_mem 624 (by decide +kernel) rfl, List.forall_mem_cons.mpr ⟨am_mem 625 (by decide +kernel) rfl, List.forall_mem_cons.mpr ⟨am_mem 37 (by decide +kernel) rfl, fun _ h => absurd h List.not_mem_nil⟩⟩⟩⟩, fun h => absurd h (by decide), fun h => absurd h (by decide)⟩, List.forall_mem_cons.mpr ⟨⟨tX9_open_k, List.forall_mem_cons.mpr ⟨am_mem 922 (by decide +kernel) rfl, List.forall_mem_cons.mpr ⟨am_mem 923 (by decide +kernel) rfl, List.forall_mem_cons.mpr ⟨am_mem 924 (by decide +kernel) rfl, List.forall_mem_cons.mpr ⟨am_mem 44 (by decide +kernel) rfl, fun _ h => absurd h List.not_mem_nil⟩⟩⟩⟩, fun h => absurd h (by decide), fun h => absurd h (by decide)⟩, List.forall_mem_cons.mpr ⟨⟨tX8_month_k, List.forall_mem_cons.mpr ⟨am_mem 627 (by decide +kernel) rfl, List.forall_mem_cons.mpr ⟨am_mem 628 (by decide +kernel) rfl, List.forall_mem_cons.mpr ⟨am_mem 629 (by decide +kernel) rfl, List.forall_mem_cons.mpr ⟨am_mem 37 (by decide +kernel) rfl, fun _ h => absurd h List.not_mem_nil⟩⟩⟩⟩, fun h => absurd h (by decide), fun h => absurd h (by decide)⟩, List.forall_mem_cons.mpr ⟨⟨tX9_month_k, List.forall_mem_cons.mpr ⟨am_mem 998 (by decide +kernel) rfl, List.forall_mem_cons.mpr ⟨am_mem 999 (by decide +kernel) rfl, List.forall_mem_cons.mpr ⟨am_mem 1000 (by decide +kernel) rfl, List.forall_mem_cons.mpr ⟨am_mem 44 (by decide +kernel) rfl, fun _ h => absurd h List.not_mem_nil⟩⟩⟩⟩, fun h => absurd h (by decide), fun h => absurd h (by decide)⟩, List.forall_mem_cons.mpr ⟨⟨tX8_sum_k, List.forall_mem_cons.mpr ⟨am_mem 635 (by decide +kernel) rfl, List.forall_mem_cons.mpr ⟨am_mem 636 (by decide +kernel) rfl, List.forall_mem_cons.mpr ⟨am_mem 637 (by decide +kernel) rfl, List.forall_mem_cons.mpr ⟨am_mem 37 (by decide +kernel) rfl, fun _ h => absurd h List.not_mem_nil⟩⟩⟩⟩, fun h => absurd h (by decide), fun h => absurd h (by decide)⟩, List.forall_mem_cons.mpr ⟨⟨tX9_sum_k, List.forall_mem_cons.mpr ⟨am_mem 1003 (by decide +kernel) rfl, List.forall_mem_cons.mpr ⟨am_mem 1004 (by decide +kernel) rfl, List.forall_mem_cons.mpr ⟨am_mem 1005 (by decide +kernel) rfl, List.forall_mem_cons.mpr ⟨am_mem 44 (by decide +kernel) rfl, fun _ h => absurd h List.not_mem_nil⟩⟩⟩⟩, fun h => absurd h (by decide), fun h => absurd h (by decide)⟩, List.forall_mem_cons.mpr ⟨⟨tX8_count_k, List.forall_mem_cons.mpr ⟨am_mem 639 (by decide +kernel) rfl, List.forall_mem_cons.mpr ⟨am_mem 640 (by decide +kernel) rfl, List.forall_mem_cons.mpr ⟨am_mem 641 (by decide +kernel) rfl, List.forall_mem_cons.mpr ⟨am_mem 37 (by decide +kernel) rfl, fun _ h => absurd h List.not_mem_nil⟩⟩⟩⟩, fun h => absurd h (by decide), fun h => absurd h (by decide)⟩, List.forall_mem_cons.mpr ⟨⟨tX9_count_k, List.forall_mem_cons.mpr ⟨am_mem 1007 (by decide +kernel) rfl, List.forall_mem_cons.mpr ⟨am_mem 1008 (by decide +kernel) rfl, List.forall_mem_cons.mpr ⟨am_mem 1009 (by decide +kernel) rfl, List.forall_mem_cons.mpr ⟨am_mem 44 (by decide +kernel) rfl, fun _ h => absurd h List.not_mem_nil⟩⟩⟩⟩, fun h => absurd h (by decide), fun h => absurd h (by decide)⟩, fun _ h => absurd h List.not_mem_nil⟩⟩⟩⟩⟩⟩⟩⟩⟩⟩⟩⟩⟩⟩⟩⟩⟩⟩⟩⟩⟩⟩⟩⟩⟩⟩⟩⟩⟩⟩⟩⟩⟩⟩⟩⟩⟩⟩⟩⟩⟩⟩⟩⟩⟩⟩⟩⟩⟩⟩⟩⟩⟩⟩⟩⟩
theorem am_cv_ok {o i : Nat} {x} (h : am_cv o i = some x) : am_cvP o i x := am_lk_all (am_11 (P := fun o (r : List (Nat × (Nat × am_T))) => ∀ q ∈ r, am_cvP o q.1 q.2) am_cv_a0 am_cv_a1 am_cv_a2 am_cv_a3 am_cv_a4 am_cv_a5 am_cv_a6 am_cv_a7 am_cv_a8 am_cv_a9 am_cv_a10) h
set_option maxRecDepth 100000 in
theorem am_lay0 : ∀ w ∈ u_ws RX0 TX0 5, w ∈ am_ws := fun w h => by
  obtain ⟨h1, h2⟩ := goodIn_r (big := lw_tbl) (u_ws RX0 TX0 5) [160, 162, 164, 166, 168] (by decide +kernel) (by decide +kernel) w h
  exact List.mem_filter.mpr ⟨h1, List.all_eq_true.mp (show (u_ws RX0 TX0 5).all goodWord = true by decide +kernel) w h⟩
set_option maxRecDepth 100000 in
theorem am_lay1 : ∀ w ∈ u_ws RX1 TX1 4, w ∈ am_ws := fun w h => by
  obtain ⟨h1, h2⟩ := goodIn_r (big := lw_tbl) (u_ws RX1 TX1 4) [260, 262, 264, 266] (by decide +kernel) (by decide +kernel) w h
  exact List.mem_filter.mpr ⟨h1, List.all_eq_true.mp (show (u_ws RX1 TX1 4).all goodWord = true by decide +kernel) w h⟩
set_option maxRecDepth 100000 in
theorem am_lay2 : ∀ w ∈ u_ws RX2 TX2 4, w ∈ am_ws := fun w h => by
  obtain ⟨h1, h2⟩ := goodIn_r (big := lw_tbl) (u_ws RX2 TX2 4) [72, 74, 76, 78] (by decide +kernel) (by decide +kernel) w h
  exact List.mem_filter.mpr ⟨h1, List.all_eq_true.mp (show (u_ws RX2 TX2 4).all goodWord = true by decide +kernel) w h⟩
set_option maxRecDepth 100000 in
theorem am_lay3 : ∀ w ∈ u_ws RX3 TX3 2, w ∈ am_ws := fun w h => by
  obtain ⟨h1, h2⟩ := goodIn_r (big := lw_tbl) (u_ws RX3 TX3 2) [182, 184] (by decide +kernel) (by decide +kernel) w h
  exact List.mem_filter.mpr ⟨h1, List.all_eq_true.mp (show (u_ws RX3 TX3 2).all goodWord = true by decide +kernel) w h⟩
set_option maxRecDepth 100000 in
theorem am_lay4 : ∀ w ∈ u_ws RX4 TX4 4, w ∈ am_ws := fun w h => by
  obtain ⟨h1, h2⟩ := goodIn_r (big := lw_tbl) (u_ws RX4 TX4 4) [125, 127, 129, 131] (by decide +kernel) (by decide +kernel) w h
  exact List.mem_filter.mpr ⟨h1, List.all_eq_true.mp (show (u_ws RX4 TX4 4).all goodWord = true by decide +kernel) w h⟩
set_option maxRecDepth 100000 in
theorem am_lay5 : ∀ w ∈ u_ws RX5 TX5 6, w ∈ am_ws := fun w h => by
  obtain ⟨h1, h2⟩ := goodIn_r (big := lw_tbl) (u_ws RX5 TX5 6) [96, 98, 100, 102, 104, 106] (by decide +kernel) (by decide +kernel) w h
  exact List.mem_filter.mpr ⟨h1, List.all_eq_true.mp (show (u_ws RX5 TX5 6).all goodWord = true by decide +kernel) w h⟩
set_option maxRecDepth 100000 in
theorem am_lay6 : ∀ w ∈ u_ws RX6 TX6 2, w ∈ am_ws := fun w h => by
  obtain ⟨h1, h2⟩ := goodIn_r (big := lw_tbl) (u_ws RX6 TX6 2) [142, 144] (by decide +kernel) (by decide +kernel) w h
  exact List.mem_filter.mpr ⟨h1, List.all_eq_true.mp (show (u_ws RX6 TX6 2).all goodWord = true by decide +kernel) w h⟩
set_option maxRecDepth 100000 in
theorem am_lay7 : ∀ w ∈ u_ws RX7 TX7 7, w ∈ am_ws := fun w h => by
  obtain ⟨h1, h2⟩ := goodIn_r (big := lw_tbl) (u_ws RX7 TX7 7) [283, 285, 287, 289, 291, 293, 295] (by decide +kernel) (by decide +kernel) w h
  exact List.mem_filter.mpr ⟨h1, List.all_eq_true.mp (show (u_ws RX7 TX7 7).all goodWord = true by decide +kernel) w h⟩
set_option maxRecDepth 100000 in
theorem am_lay8 : ∀ w ∈ u_ws RX8 TX8 12, w ∈ am_ws := fun w h => by
  obtain ⟨h1, h2⟩ := goodIn_r (big := lw_tbl) (u_ws RX8 TX8 12) [199, 201, 203, 205, 207, 209, 211, 213, 215, 217, 219, 221] (by decide +kernel) (by decide +kernel) w h
  exact List.mem_filter.mpr ⟨h1, List.all_eq_true.mp (show (u_ws RX8 TX8 12).all goodWord = true by decide +kernel) w h⟩
set_option maxRecDepth 100000 in
theorem am_lay9 : ∀ w ∈ u_ws RX9 TX9 47, w ∈ am_ws := fun w h => by
  obtain ⟨h1, h2⟩ := goodIn_r (big := lw_tbl) (u_ws RX9 TX9 47) [712, 714, 716, 718, 720, 722, 724, 726, 728, 730, 732, 734, 736, 738, 740, 742, 744, 746, 748, 750, 752, 754, 756, 758, 760, 762, 764, 766, 768, 770, 772, 774, 776, 778, 780, 782, 784, 786, 788, 790, 792, 794, 796, 798, 800, 802, 804] (by decide +kernel) (by decide +kernel) w h
  exact List.mem_filter.mpr ⟨h1, List.all_eq_true.mp (show (u_ws RX9 TX9 47).all goodWord = true by decide +kernel) w h⟩
set_option maxRecDepth 100000 in
theorem am_g0 : Cond.instanceMethod objectInit ∈ am_ws := am_mem 55 (by decide +kernel) rfl
set_option maxRecDepth 100000 in
theorem am_g1 : Cond.code objectInit ⟨#[0xb1]⟩ 1 none ∈ am_ws := am_mem 56 (by decide +kernel) rfl
set_option maxRecDepth 100000 in
theorem am_g2 : Cond.arrayClass .boolean ∈ am_ws := am_mem 81 (by decide +kernel) rfl
set_option maxRecDepth 100000 in
theorem am_g3 : Cond.arrayClass .int ∈ am_ws := am_mem 82 (by decide +kernel) rfl
set_option maxRecDepth 100000 in
theorem am_g4 : Cond.arrayClass .long ∈ am_ws := am_mem 298 (by decide +kernel) rfl
set_option maxRecDepth 100000 in
theorem am_g5 : Cond.native arraycopyName ∈ am_ws := am_mem 451 (by decide +kernel) rfl
set_option maxRecDepth 100000 in
theorem am_g6 : Cond.static arraycopyName ∈ am_ws := am_mem 450 (by decide +kernel) rfl
set_option maxRecDepth 100000 in
theorem am_g7 : Cond.initialized "java/lang/System" ∈ am_ws := am_mem 47 (by decide +kernel) rfl
set_option maxRecDepth 100000 in
theorem am_g8 : Cond.initialized "java/lang/Math" ∈ am_ws := am_mem 48 (by decide +kernel) rfl
set_option maxRecDepth 100000 in
theorem am_g9 : Cond.classLink RX7 25 "[[J" ∈ am_ws := am_mem 269 (by decide +kernel) rfl
set_option maxRecDepth 100000 in
theorem am_g10 : Cond.static Lib.Math.max.name ∈ am_ws := am_mem 461 (by decide +kernel) rfl
set_option maxRecDepth 100000 in
theorem am_g11 : Cond.static Lib.Math.min.name ∈ am_ws := am_mem 480 (by decide +kernel) rfl
set_option maxRecDepth 100000 in
theorem am_g12 : Cond.static Lib.MathLoose.max_long.x ∈ am_ws := am_mem 621 (by decide +kernel) rfl
set_option maxRecDepth 100000 in
theorem am_g13 : Cond.static Lib.MathLoose.min_long.x ∈ am_ws := am_mem 618 (by decide +kernel) rfl
set_option maxRecDepth 100000 in
theorem am_g14 : Cond.code Lib.Math.max.name Lib.Math.max.code 2 (some .int) ∈ am_ws := am_mem 462 (by decide +kernel) rfl
set_option maxRecDepth 100000 in
theorem am_g15 : Cond.code Lib.Math.min.name Lib.Math.min.code 2 (some .int) ∈ am_ws := am_mem 481 (by decide +kernel) rfl
set_option maxRecDepth 100000 in
theorem am_g16 : Cond.code Lib.MathLoose.max_long.x Lib.MathLoose.max_long.code 4 (some .long) ∈ am_ws := am_mem 622 (by decide +kernel) rfl
set_option maxRecDepth 100000 in
theorem am_g17 : Cond.code Lib.MathLoose.min_long.x Lib.MathLoose.min_long.code 4 (some .long) ∈ am_ws := am_mem 619 (by decide +kernel) rfl
end
section
/-! The abstract machine: pointers are numbers of cells (0, 1, .. in the order of their making), from am_X on the given int arrays (the script, the static tables). -/
abbrev am_C : Type := (Nat × vp_A) ⊕ (Nat × List Value)
/-- how many cells, and what they hold -/
abbrev am_M : Type := Nat × (Nat → Option am_C)
/-- pc, locals, stack, memory, how many cells and slots may still be made -/
abbrev am_F : Type := Nat × List (Option Value) × List Value × am_M × Nat × Nat
abbrev am_E : Type := Nat → Nat × (Nat → Int32)
def am_X : Nat := 1000000
def am_up {α : Type} (f : Nat → Option α) (k : Nat) (v : α) : Nat → Option α := fun j => bif Nat.beq j k then some v else f j
def am_w (M : am_M) (k : Nat) (c : am_C) : am_M := (M.1, am_up M.2 k c)
def am_mk (M : am_M) (c : am_C) : am_M := (M.1 + 1, am_up M.2 M.1 c)
/-- n rows of k longs, and the array of them -/
def am_mg (M : am_M) (n k : Nat) : am_M := (M.1 + 1 + n, fun j => bif Nat.beq j M.1 then some (.inl (6, n, .inr (.inr (.inr (.inr (fun i => if i < n then some (M.1 + 1 + i) else none)))))) else bif Nat.blt M.1 j && Nat.ble j (M.1 + n) then some (.inl (2, k, .inr (.inl (fun _ => 0)))) else M.2 j)
def am_c2 (v : Value) : Bool := Nat.beq v.category 2
def am_cl0 (L : List (Option Value)) : Nat → List (Option Value)
  | 0 => L
  | j + 1 => match L.getD j none with
    | some w => bif am_c2 w then L.set j none else L
    | none => L
def am_s1 (L : List (Option Value)) (i : Nat) (v : Value) : List (Option Value) := (am_cl0 L i).set i (some v)
def am_s2 (L : List (Option Value)) (i : Nat) (v : Value) : List (Option Value) := ((am_cl0 L i).set (i + 1) none).set i (some v)
def am_tg (pc : Nat) (off : Int) : Option Nat := match (pc : Int) + off with
  | .ofNat t => some t
  | .negSucc _ => none
abbrev am_R1 : Type := Option (List Prop × am_F)
def am_sw (pc : Nat) (dflt lo hi : Int) (offs : Array Int) (x : Int32) : Option Nat :=
  bif decide (x.toInt < lo) || decide (hi < x.toInt) then am_tg pc dflt else match offs[(x.toInt - lo).toNat]? with
    | some off => am_tg pc off
    | none => none
/-- kinds of arrays: 0 int, 1 boolean, 2 long, 3 Group, 4 Rules, 5 Worker, 6 long[] -/
def am_ty : Nat → FieldType
  | 0 => .int
  | 1 => .boolean
  | 2 => .long
  | 3 => .object RX0
  | 4 => .object RX3
  | 5 => .object RX7
  | _ => .array .long
def am_kd : Nat → Nat
  | 0 => 3
  | 3 => 4
  | 7 => 5
  | _ => 99
def am_ak : Jvm.ClassFile.ArrayType → Option (Nat × ((Nat → Int32) ⊕ (Nat → Int64) ⊕ (Nat → UInt32) ⊕ (Nat → UInt64) ⊕ (Nat → Option Nat)))
  | .int => some (0, .inl (fun _ => 0))
  | .boolean => some (1, .inl (fun _ => 0))
  | .long => some (2, .inr (.inl (fun _ => 0)))
  | _ => none
def am_dv : Nat → Value
  | 0 => .int 0
  | 1 => .long 0
  | _ => .null
def am_def (ci : Nat) : List Value := (am_fkT.getD ci []).map am_dv
/-- does a value fit a field: 0 int, 1 long, 2 reference -/
def am_fit : Nat → Value → Bool
  | 0, .int _ => true
  | 1, .long _ => true
  | 2, .ref _ => true
  | 2, .null => true
  | _, _ => false
def am_cs (l : List Value) : Nat := (l.map fun v => v.category).sum
def am_len (i : Instr) (n : Nat) : Nat := match i with
  | .bipush _ | .ldc _ | .iload _ | .lload _ | .aload _ | .istore _ | .lstore _ | .astore _ | .newarray _ => 2
  | .sipush _ | .ldc2_w _ | .iinc _ _ | .goto _ | .ifCond _ _ | .if_icmp _ _ | .if_acmp _ _ | .ifnull _ | .ifnonnull _ | .getfield _ | .putfield _ | .getstatic _ | .new _ | .anewarray _ | .invokespecial _ | .invokestatic _ | .invokevirtual _ => 3
  | .multianewarray _ _ => 4
  | .tableswitch _ _ _ _ => n
  | _ => 1
/-- one instruction: what must hold for it, and where it leads -/
def am_ex (E : am_E) (o : Nat) (ini : Bool) (pc : Nat) (L : List (Option Value)) (st : List Value) (M : am_M) (bc bs : Nat) (i : Instr) : am_R1 := match i with
  | .aconst_null => some ([], pc + 1, L, .null :: st, M, bc, bs)
  | .iconst n => some ([], pc + 1, L, .int (Int32.ofInt n) :: st, M, bc, bs)
  | .bipush n => some ([], pc + 2, L, .int (Int8.ofInt n).toInt32 :: st, M, bc, bs)
  | .sipush n => some ([], pc + 3, L, .int (Int16.ofInt n).toInt32 :: st, M, bc, bs)
  | .lconst n => some ([], pc + 1, L, .long (Int64.ofNat n.val) :: st, M, bc, bs)
  | .ldc i => match am_k1 o i with
    | some v => some ([], pc + 2, L, .int v :: st, M, bc, bs)
    | none => none
  | .ldc2_w i => match am_k2 o i with
    | some v => some ([], pc + 3, L, .long v :: st, M, bc, bs)
    | none => none
  | .iload i => match L.getD i none with
    | some (.int x) => some ([], pc + 2, L, .int x :: st, M, bc, bs)
    | _ => none
  | .iload_n i => match L.getD i.val none with
    | some (.int x) => some ([], pc + 1, L, .int x :: st, M, bc, bs)
    | _ => none
  | .lload i => match L.getD i none with
    | some (.long x) => some ([], pc + 2, L, .long x :: st, M, bc, bs)
    | _ => none
  | .lload_n i => match L.getD i.val none with
    | some (.long x) => some ([], pc + 1, L, .long x :: st, M, bc, bs)
    | _ => none
  | .aload i => match L.getD i none with
    | some (.ref x) => some ([], pc + 2, L, .ref x :: st, M, bc, bs)
    | some .null => some ([], pc + 2, L, .null :: st, M, bc, bs)
    | _ => none
  | .aload_n i => match L.getD i.val none with
    | some (.ref x) => some ([], pc + 1, L, .ref x :: st, M, bc, bs)
    | some .null => some ([], pc + 1, L, .null :: st, M, bc, bs)
    | _ => none
  | .istore i => match st with
    | .int x :: r => bif Nat.blt i L.length then some ([], pc + 2, am_s1 L i (.int x), r, M, bc, bs) else none
    | _ => none
  | .istore_n i => match st with
    | .int x :: r => bif Nat.blt i.val L.length then some ([], pc + 1, am_s1 L i.val (.int x), r, M, bc, bs) else none
    | _ => none
  | .lstore i => match st with
    | .long x :: r => bif Nat.blt (i + 1) L.length then some ([], pc + 2, am_s2 L i (.long x), r, M, bc, bs) else none
    | _ => none
  | .lstore_n i => match st with
    | .long x :: r => bif Nat.blt (i.val + 1) L.length then some ([], pc + 1, am_s2 L i.val (.long x), r, M, bc, bs) else none
    | _ => none
  | .astore i => match st with
    | .ref x :: r => bif Nat.blt i L.length then some ([], pc + 2, am_s1 L i (.ref x), r, M, bc, bs) else none
    | .null :: r => bif Nat.blt i L.length then some ([], pc + 2, am_s1 L i .null, r, M, bc, bs) else none
    | _ => none
  | .astore_n i => match st with
    | .ref x :: r => bif Nat.blt i.val L.length then some ([], pc + 1, am_s1 L i.val (.ref x), r, M, bc, bs) else none
    | .null :: r => bif Nat.blt i.val L.length then some ([], pc + 1, am_s1 L i.val .null, r, M, bc, bs) else none
    | _ => none
  | .iinc i n => match L.getD i none with
    | some (.int x) => bif Nat.blt i L.length then some ([], pc + 3, am_s1 L i (.int (x + Int32.ofInt n)), st, M, bc, bs) else none
    | _ => none
  | .iadd => match st with
    | .int y :: .int x :: r => some ([], pc + 1, L, .int (x + y) :: r, M, bc, bs)
    | _ => none
  | .isub => match st with
    | .int y :: .int x :: r => some ([], pc + 1, L, .int (x - y) :: r, M, bc, bs)
    | _ => none
  | .imul => match st with
    | .int y :: .int x :: r => some ([], pc + 1, L, .int (x * y) :: r, M, bc, bs)
    | _ => none
  | .iand => match st with
    | .int y :: .int x :: r => some ([], pc + 1, L, .int (x &&& y) :: r, M, bc, bs)
    | _ => none
  | .ior => match st with
    | .int y :: .int x :: r => some ([], pc + 1, L, .int (x ||| y) :: r, M, bc, bs)
    | _ => none
  | .ishl => match st with
    | .int y :: .int x :: r => some ([], pc + 1, L, .int (x <<< (y &&& 31)) :: r, M, bc, bs)
    | _ => none
  | .ishr => match st with
    | .int y :: .int x :: r => some ([], pc + 1, L, .int (x >>> (y &&& 31)) :: r, M, bc, bs)
    | _ => none
  | .idiv => match st with
    | .int y :: .int x :: r => some ([¬ y = 0], pc + 1, L, .int (x / y) :: r, M, bc, bs)
    | _ => none
  | .irem => match st with
    | .int y :: .int x :: r => some ([¬ y = 0], pc + 1, L, .int (x - x / y * y) :: r, M, bc, bs)
    | _ => none
  | .ladd => match st with
    | .long y :: .long x :: r => some ([], pc + 1, L, .long (x + y) :: r, M, bc, bs)
    | _ => none
  | .lsub => match st with
    | .long y :: .long x :: r => some ([], pc + 1, L, .long (x - y) :: r, M, bc, bs)
    | _ => none
  | .lmul => match st with
    | .long y :: .long x :: r => some ([], pc + 1, L, .long (x * y) :: r, M, bc, bs)
    | _ => none
  | .ldiv => match st with
    | .long y :: .long x :: r => some ([¬ y = 0], pc + 1, L, .long (x / y) :: r, M, bc, bs)
    | _ => none
  | .lrem => match st with
    | .long y :: .long x :: r => some ([¬ y = 0], pc + 1, L, .long (x - x / y * y) :: r, M, bc, bs)
    | _ => none
  | .i2l => match st with
    | .int x :: r => some ([], pc + 1, L, .long x.toInt64 :: r, M, bc, bs)
    | _ => none
  | .lcmp => match st with
    | .long y :: .long x :: r => some ([], pc + 1, L, .int (lg_cmp x y) :: r, M, bc, bs)
    | _ => none
  | .dup => match st with
    | .int x :: r => some ([], pc + 1, L, .int x :: .int x :: r, M, bc, bs)
    | .ref x :: r => some ([], pc + 1, L, .ref x :: .ref x :: r, M, bc, bs)
    | _ => none
  | .dup2 => match st with
    | .int x :: .ref y :: r => some ([], pc + 1, L, .int x :: .ref y :: .int x :: .ref y :: r, M, bc, bs)
    | _ => none
  | .goto off => match am_tg pc off with
    | some t => some ([], t, L, st, M, bc, bs)
    | none => none
  | .ifCond k off => match am_tg pc off, st with
    | some t, .int x :: r => match k with
      | .eq => some ([], if x = 0 then (t, L, r, M, bc, bs) else (pc + 3, L, r, M, bc, bs))
      | .ne => some ([], if ¬ x = 0 then (t, L, r, M, bc, bs) else (pc + 3, L, r, M, bc, bs))
      | .lt => some ([], if x < 0 then (t, L, r, M, bc, bs) else (pc + 3, L, r, M, bc, bs))
      | .ge => some ([], if 0 ≤ x then (t, L, r, M, bc, bs) else (pc + 3, L, r, M, bc, bs))
      | .gt => some ([], if 0 < x then (t, L, r, M, bc, bs) else (pc + 3, L, r, M, bc, bs))
      | .le => some ([], if x ≤ 0 then (t, L, r, M, bc, bs) else (pc + 3, L, r, M, bc, bs))
    | _, _ => none
  | .if_icmp k off => match am_tg pc off, st with
    | some t, .int y :: .int x :: r => match k with
      | .eq => some ([], if x = y then (t, L, r, M, bc, bs) else (pc + 3, L, r, M, bc, bs))
      | .ne => some ([], if ¬ x = y then (t, L, r, M, bc, bs) else (pc + 3, L, r, M, bc, bs))
      | .lt => some ([], if x < y then (t, L, r, M, bc, bs) else (pc + 3, L, r, M, bc, bs))
      | .ge => some ([], if y ≤ x then (t, L, r, M, bc, bs) else (pc + 3, L, r, M, bc, bs))
      | .gt => some ([], if y < x then (t, L, r, M, bc, bs) else (pc + 3, L, r, M, bc, bs))
      | .le => some ([], if x ≤ y then (t, L, r, M, bc, bs) else (pc + 3, L, r, M, bc, bs))
    | _, _ => none
  | .if_acmp k off => match am_tg pc off, st with
    | some t, .ref y :: .ref x :: r => match k with
      | .ne => match M.2 x, M.2 y with
        | some _, some _ => some ([], if ¬ x = y then (t, L, r, M, bc, bs) else (pc + 3, L, r, M, bc, bs))
        | _, _ => none
      | .eq => none
    | _, _ => none
  | .ifnull off => match am_tg pc off, st with
    | some _, .ref _ :: r => some ([], pc + 3, L, r, M, bc, bs)
    | some t, .null :: r => some ([], t, L, r, M, bc, bs)
    | _, _ => none
  | .ifnonnull off => match am_tg pc off, st with
    | some t, .ref _ :: r => some ([], t, L, r, M, bc, bs)
    | some _, .null :: r => some ([], pc + 3, L, r, M, bc, bs)
    | _, _ => none
  | .tableswitch d lo hi offs => match st with
    | .int x :: r => match am_sw pc d lo hi offs x with
      | some t => some ([], t, L, r, M, bc, bs)
      | none => none
    | _ => none
  | .getfield i => match am_fl o i, st with
    | some (ci, k), .ref a :: r => match M.2 a with
      | some (.inr (ci', fs)) => bif Nat.beq ci ci' then (match fs[k]? with
        | some v => some ([], pc + 3, L, v :: r, M, bc, bs)
        | none => none) else none
      | _ => none
    | _, _ => none
  | .putfield i => match am_fl o i, st with
    | some (ci, k), v :: .ref a :: r => match M.2 a with
      | some (.inr (ci', fs)) => match am_fk ci k with
        | some q => bif Nat.beq ci ci' && am_fit q v && Nat.blt k fs.length && (!(am_fn ci k) || (ini && Nat.beq o ci)) then some ([], pc + 3, L, r, am_w M a (.inr (ci, fs.set k v)), bc, bs) else none
        | none => none
      | _ => none
    | _, _ => none
  | .getstatic i => match am_sc o i with
    | some e => some ([], pc + 3, L, .ref (am_X + e) :: st, M, bc, bs)
    | none => none
  | .arraylength => match st with
    | .ref a :: r => match M.2 a with
      | some _ => none
      | none => bif Nat.ble am_X a && Nat.blt a (am_X + 4) then some ([], pc + 1, L, .int (Int32.ofNat (E (a - am_X)).1) :: r, M, bc, bs) else none
    | _ => none
  | .iaload => match st with
    | .int i :: .ref a :: r => match M.2 a with
      | some (.inl (0, n, .inl f)) => some ([vp_in i n], pc + 1, L, .int (f i.toNatClampNeg) :: r, M, bc, bs)
      | some _ => none
      | none => bif Nat.ble am_X a && Nat.blt a (am_X + 4) then some ([vp_in i (E (a - am_X)).1], pc + 1, L, .int ((E (a - am_X)).2 i.toNatClampNeg) :: r, M, bc, bs) else none
    | _ => none
  | .baload => match st with
    | .int i :: .ref a :: r => match M.2 a with
      | some (.inl (1, n, .inl f)) => some ([vp_in i n], pc + 1, L, .int (f i.toNatClampNeg) :: r, M, bc, bs)
      | _ => none
    | _ => none
  | .laload => match st with
    | .int i :: .ref a :: r => match M.2 a with
      | some (.inl (2, n, .inr (.inl f))) => some ([vp_in i n], pc + 1, L, .long (f i.toNatClampNeg) :: r, M, bc, bs)
      | _ => none
    | _ => none
  | .iastore => match st with
    | .int x :: .int i :: .ref a :: r => match M.2 a with
      | some (.inl (0, n, .inl f)) => some ([vp_in i n], pc + 1, L, r, am_w M a (.inl (0, n, .inl (upd f i.toNatClampNeg x))), bc, bs)
      | _ => none
    | _ => none
  | .bastore => match st with
    | .int x :: .int i :: .ref a :: r => match M.2 a with
      | some (.inl (1, n, .inl f)) => some ([vp_in i n], pc + 1, L, r, am_w M a (.inl (1, n, .inl (upd f i.toNatClampNeg (vp_nar .boolean x)))), bc, bs)
      | _ => none
    | _ => none
  | .lastore => match st with
    | .long x :: .int i :: .ref a :: r => match M.2 a with
      | some (.inl (2, n, .inr (.inl f))) => some ([vp_in i n], pc + 1, L, r, am_w M a (.inl (2, n, .inr (.inl (vp_updL f i.toNatClampNeg x)))), bc, bs)
      | _ => none
    | _ => none
  | .aastore => match st with
    | .ref v :: .int i :: .ref a :: r => match M.2 a, M.2 v with
      | some (.inl (kd, n, .inr (.inr (.inr (.inr f))))), some (.inr (ci, _)) => bif Nat.beq (am_kd ci) kd && Nat.ble kd 5 then some ([vp_in i n], pc + 1, L, r, am_w M a (.inl (kd, n, .inr (.inr (.inr (.inr (va_up f i.toNatClampNeg (some v))))))), bc, bs) else none
      | _, _ => none
    | _ => none
  | .newarray t => match am_ak t, st with
    | some (kd, a0), .int n :: r => some ([¬ n < 0, n.toNatClampNeg ≤ 67108864, 1 ≤ bc, n.toNatClampNeg ≤ bs, M.1 < am_X], pc + 2, L, .ref M.1 :: r, am_mk M (.inl (kd, n.toNatClampNeg, a0)), bc - 1, bs - n.toNatClampNeg)
    | _, _ => none
  | .anewarray i => match am_nc o i, st with
    | some ci, .int n :: r => bif Nat.ble (am_kd ci) 5 then some ([¬ n < 0, n.toNatClampNeg ≤ 67108864, 1 ≤ bc, n.toNatClampNeg ≤ bs, M.1 < am_X], pc + 3, L, .ref M.1 :: r, am_mk M (.inl (am_kd ci, n.toNatClampNeg, .inr (.inr (.inr (.inr (fun _ => none)))))), bc - 1, bs - n.toNatClampNeg) else none
    | _, _ => none
  | .multianewarray i d => match st with
    | .int k :: .int n :: r => bif Nat.beq o 7 && Nat.beq i 25 && Nat.beq d 2 then some ([¬ n < 0, ¬ k < 0, n.toNatClampNeg ≤ 1000, k.toNatClampNeg ≤ 1000, 1 + n.toNatClampNeg ≤ bc, n.toNatClampNeg + n.toNatClampNeg * k.toNatClampNeg ≤ bs, M.1 + 1 + n.toNatClampNeg ≤ am_X], pc + 4, L, .ref M.1 :: r, am_mg M n.toNatClampNeg k.toNatClampNeg, bc - (1 + n.toNatClampNeg), bs - (n.toNatClampNeg + n.toNatClampNeg * k.toNatClampNeg)) else none
    | _ => none
  | .new i => match am_nc o i with
    | some ci => some ([1 ≤ bc, (am_Cn ci).2.2 ≤ bs, M.1 < am_X], pc + 3, L, .ref M.1 :: st, am_mk M (.inr (ci, am_def ci)), bc - 1, bs - (am_Cn ci).2.2)
    | none => none
  | .invokespecial i => match am_bi o i, st with
    | some 0, .ref _ :: r => some ([am_cs r ≤ 8], pc + 3, L, r, M, bc, bs)
    | _, _ => none
  | .invokestatic i => match am_bi o i, st with
    | some 1, .int y :: .int x :: r => some ([am_cs r ≤ 8], pc + 3, L, .int (if x < y then y else x) :: r, M, bc, bs)
    | some 2, .int y :: .int x :: r => some ([am_cs r ≤ 8], pc + 3, L, .int (if y < x then y else x) :: r, M, bc, bs)
    | some 3, .long y :: .long x :: r => some ([am_cs r ≤ 8], pc + 3, L, .long (if y < x then x else y) :: r, M, bc, bs)
    | some 4, .long y :: .long x :: r => some ([am_cs r ≤ 8], pc + 3, L, .long (if y < x then y else x) :: r, M, bc, bs)
    | some 5, .int n :: .int dp :: .ref d :: .int sp :: .ref q :: r => match M.2 q, M.2 d with
      | some (.inl (0, n0, .inl f)), some (.inl (0, n1, .inl g)) => some ([¬ sp < 0, ¬ dp < 0, ¬ n < 0, sp.toNatClampNeg + n.toNatClampNeg ≤ n0, dp.toNatClampNeg + n.toNatClampNeg ≤ n1, am_cs r ≤ 8], pc + 3, L, r, am_w M d (.inl (0, n1, .inl (va_cpy f g sp.toNatClampNeg dp.toNatClampNeg n.toNatClampNeg))), bc, bs)
      | _, _ => none
    | _, _ => none
  | _ => none
/-- one step that is no call, no return, no load of a reference out of an array -/
def am_s (E : am_E) (τ : am_T) (c : am_F) : am_R1 := match c with
  | (pc, L, st, M, bc, bs) => match am_at τ pc with
    | some (i, n) => bif Nat.beq n (am_len i n) then am_ex E τ.1 τ.2.2.2.2.2.2.1 pc L st M bc bs i else none
    | none => none
/-- a return: what must hold, and the answer -/
def am_ret (τ : am_T) (c : am_F) : Option (List Prop × Option Value) := match c with
  | (pc, _, st, _, _, _) => match am_at τ pc, st, τ.2.2.2.2.1 with
    | some (.return_, 1), [], none => some ([], none)
    | some (.ireturn, 1), [.int v], some .int => some ([], some (.int v))
    | some (.ireturn, 1), [.int v], some .boolean => some ([v = 0 ∨ v = 1], some (.int v))
    | some (.lreturn, 1), [.long v], some .long => some ([], some (.long v))
    | some (.areturn, 1), [.ref a], some (.object _) => some ([], some (.ref a))
    | some (.areturn, 1), [.null], some (.object _) => some ([], some .null)
    | _, _, _ => none
def am_pop (k : Nat) (τ' : am_T) (st : List Value) : Option (Nat × am_T × List Value × List Value) :=
  bif Nat.ble τ'.2.2.2.2.2.1 st.length then (bif Nat.ble k 2 then (match st.drop τ'.2.2.2.2.2.1 with
    | .ref b :: r => some (k, τ', .ref b :: (st.take τ'.2.2.2.2.2.1).reverse, r)
    | _ => none) else some (k, τ', (st.take τ'.2.2.2.2.2.1).reverse, st.drop τ'.2.2.2.2.2.1)) else none
/-- a call: its kind, the method, what it gets, what stays on the stack -/
def am_invP (τ : am_T) (pc : Nat) (st : List Value) : Option (Nat × am_T × List Value × List Value) := match am_at τ pc with
  | some (.invokevirtual i, 3) => match am_cv τ.1 i with
    | some (k, τ') => bif Nat.beq k 0 then am_pop k τ' st else none
    | none => none
  | some (.invokespecial i, 3) => match am_cv τ.1 i with
    | some (k, τ') => bif Nat.beq k 1 || Nat.beq k 2 then am_pop k τ' st else none
    | none => none
  | some (.invokestatic i, 3) => match am_cv τ.1 i with
    | some (k, τ') => bif Nat.beq k 3 || Nat.beq k 4 then am_pop k τ' st else none
    | none => none
  | _ => none
def am_inv (τ : am_T) (c : am_F) : Option (Nat × am_T × List Value × List Value) := match c with
  | (pc, _, st, _, _, _) => am_invP τ pc st
def am_rcv (k : Nat) (τ' : am_T) (args : List Value) (M : am_M) : Prop := k = 0 → ∃ b fs r, args = .ref b :: r ∧ M.2 b = some (.inr (τ'.1, fs))
abbrev am_Dt : Type := am_T → List Value → am_M → Nat → Nat → Option Value → am_M → Prop
/-- from a place of a method on: it ends with an answer and a memory as Q says -/
def am_Ev (E : am_E) (D : am_Dt) (τ : am_T) : Nat → am_F → (Option Value → am_M → Prop) → Prop
  | 0, _, _ => False
  | n + 1, c, Q =>
    (∃ ps c', am_s E τ c = some (ps, c') ∧ (∀ p ∈ ps, p) ∧ am_Ev E D τ n c' Q) ∨
    (∃ kd k f i a r, am_at τ c.1 = some (.aaload, 1) ∧ c.2.2.1 = .int i :: .ref a :: r ∧ c.2.2.2.1.2 a = some (.inl (kd, k, .inr (.inr (.inr (.inr f))))) ∧ 3 ≤ kd ∧ kd ≤ 6 ∧ vp_in i k ∧ am_Ev E D τ n (c.1 + 1, c.2.1, va_rf (f i.toNatClampNeg) :: r, c.2.2.2) Q) ∨
    (∃ k τ' as r mc ms v M', am_inv τ c = some (k, τ', as, r) ∧ am_cs r ≤ 8 ∧ am_rcv k τ' as c.2.2.2.1 ∧ D τ' as c.2.2.2.1 mc ms v M' ∧ mc ≤ c.2.2.2.2.1 ∧ ms ≤ c.2.2.2.2.2 ∧ am_Ev E D τ n (c.1 + 3, c.2.1, v.toList ++ r, M', c.2.2.2.2.1 - mc, c.2.2.2.2.2 - ms) Q) ∨
    (∃ ps v, am_ret τ c = some (ps, v) ∧ (∀ p ∈ ps, p) ∧ Q v c.2.2.2.1)
/-- what a method gets, as locals -/
def am_il : List Value → List (Option Value)
  | [] => []
  | v :: l => bif am_c2 v then some v :: none :: am_il l else some v :: am_il l
def am_in (as : List Value) (n : Nat) : List (Option Value) := am_il as ++ List.replicate (n - (am_il as).length) none
/-- method τ, called with as at memory M, in at most d frames, makes at most mc cells of ms slots, answers v, leaves M' -/
def am_D (E : am_E) : Nat → am_Dt
  | 0 => fun _ _ _ _ _ _ _ => False
  | d + 1 => fun τ as M mc ms v M' => (am_il as).length ≤ τ.2.2.2.1 ∧ ∃ n, am_Ev E (am_D E d) τ n (0, am_in as τ.2.2.2.1, [], M, mc, ms) (fun v' M'' => v' = v ∧ M'' = M')
end
section
/-! The machine's heap and the abstract memory. γ: classes and slots, the array classes by kind, where our cells begin, where the given arrays lie. -/
abbrev am_G : Type := va_G × (Nat → ClassId) × Nat × (Nat → Nat)
def am_ad (γ : am_G) (k : Nat) : Nat := if k < am_X then γ.2.2.1 + k else γ.2.2.2 (k - am_X)
def am_v (γ : am_G) (v : Value) : Value := match v with
  | .ref a => .ref (am_ad γ a)
  | w => w
theorem am_v_cat (γ : am_G) (v : Value) : (am_v γ v).category = v.category := by cases v <;> rfl
theorem am_cs_map (γ : am_G) (l : List Value) : am_cs (l.map (am_v γ)) = am_cs l := by
  unfold am_cs
  rw [List.map_map]
  congr 1
  exact List.map_congr_left (fun v _ => am_v_cat γ v)
def am_ar (γ : am_G) (x : vp_A) : vp_A := match x with
  | (n, .inr (.inr (.inr (.inr f)))) => (n, .inr (.inr (.inr (.inr (fun i => (f i).map (am_ad γ))))))
  | y => y
def am_e (γ : am_G) (c : am_C) : va_E := match c with
  | .inl (kd, x) => .inl (γ.2.1 kd, am_ar γ x)
  | .inr (ci, fs) => .inr (ci, fs.map (am_v γ))
def am_Hp (γ : am_G) (M : am_M) (H : Heap) : Prop := H.size = γ.2.2.1 + M.1 ∧ M.1 ≤ am_X ∧ ∀ k c, M.2 k = some c → k < M.1 ∧ va_at γ.1 vwCl (γ.2.2.1 + k, am_e γ c) H
theorem am_ad_lt {γ : am_G} {k : Nat} (h : k < am_X) : am_ad γ k = γ.2.2.1 + k := if_pos h
theorem am_Hp.at {γ : am_G} {M : am_M} {H : Heap} (h : am_Hp γ M H) {k : Nat} {c : am_C} (hk : M.2 k = some c) : va_at γ.1 vwCl (am_ad γ k, am_e γ c) H ∧ am_ad γ k = γ.2.2.1 + k := by
  obtain ⟨h1, h2⟩ := h.2.2 k c hk
  have e := am_ad_lt (γ := γ) (Nat.lt_of_lt_of_le h1 h.2.1)
  rw [e]
  exact ⟨h2, rfl⟩
theorem am_up_same {α : Type} (f : Nat → Option α) (k : Nat) (v : α) : am_up f k v k = some v := by
  unfold am_up
  rw [Nat.beq_refl]
  rfl
theorem am_up_ne {α : Type} (f : Nat → Option α) {k j : Nat} (v : α) (h : j ≠ k) : am_up f k v j = f j := by
  unfold am_up
  cases hb : Nat.beq j k with
  | false => rfl
  | true => exact absurd (Nat.eq_of_beq_eq_true hb) h
theorem am_Hp.write {γ : am_G} {M : am_M} {H H1 : Heap} (h : am_Hp γ M H) {k : Nat} {c0 c : am_C} (hk : M.2 k = some c0) (z : H1.size = H.size) (oq : ∀ q : Nat, q ≠ am_ad γ k → H1[q]? = H[q]?) (he : va_at γ.1 vwCl (am_ad γ k, am_e γ c) H1) : am_Hp γ (am_w M k c) H1 := by
  obtain ⟨h1, -⟩ := h.2.2 k c0 hk
  have e := (h.at hk).2
  refine ⟨z.trans h.1, h.2.1, fun j d hj => ?_⟩
  by_cases hjk : j = k
  · subst hjk
    have hd : am_up M.2 j c j = some d := hj
    rw [am_up_same] at hd
    cases hd
    exact ⟨h1, by rw [← e]; exact he⟩
  · have hd : am_up M.2 k c j = some d := hj
    rw [am_up_ne _ _ hjk] at hd
    obtain ⟨g1, g2⟩ := h.2.2 j d hd
    exact ⟨g1, g2.kept (oq _ (by rw [e]; show γ.2.2.1 + j ≠ _; omega))⟩
theorem am_Hp.make {γ : am_G} {M : am_M} {H H1 : Heap} (h : am_Hp γ M H) {c : am_C} (hX : M.1 < am_X) (z : H1.size = H.size + 1) (oq : ∀ q : Nat, q < H.size → H1[q]? = H[q]?) (he : va_at γ.1 vwCl (H.size, am_e γ c) H1) : am_Hp γ (am_mk M c) H1 := by
  refine ⟨by show H1.size = γ.2.2.1 + (M.1 + 1); rw [z, h.1]; omega, hX, fun j d hj => ?_⟩
  have hd : am_up M.2 M.1 c j = some d := hj
  by_cases hjk : j = M.1
  · subst hjk
    rw [am_up_same] at hd
    cases hd
    exact ⟨Nat.lt_succ_self _, by rw [← h.1]; exact he⟩
  · rw [am_up_ne _ _ hjk] at hd
    obtain ⟨g1, g2⟩ := h.2.2 j d hd
    exact ⟨Nat.lt_succ_of_lt g1, g2.kept (oq _ (by show γ.2.2.1 + j < _; rw [h.1]; omega))⟩
theorem am_Hp.new_ad {γ : am_G} {M : am_M} {H : Heap} (h : am_Hp γ M H) (hX : M.1 < am_X) : H.size = am_ad γ M.1 := by rw [am_ad_lt hX, h.1]
/-! locals -/
def am_Ls (γ : am_G) (ls : Array Slot) (nL : Nat) (L : List (Option Value)) : Prop := ls.size = nL ∧ lv_wf ls ∧ L.length = nL ∧ ∀ (i : Nat) (v : Value), L.getD i none = some v → ls[i]? = some (.val (am_v γ v))
def am_al (γ : am_G) (L : List (Option Value)) (nL : Nat) : List (Nat × Value) := (List.range nL).filterMap (fun i => (L.getD i none).map (fun v => (i, am_v γ v)))
theorem am_al_mem {γ : am_G} {L : List (Option Value)} {nL i : Nat} {w : Value} : (i, w) ∈ am_al γ L nL ↔ i < nL ∧ ∃ v, L.getD i none = some v ∧ w = am_v γ v := by
  unfold am_al
  constructor
  · intro h
    obtain ⟨j, hj, h2⟩ := List.mem_filterMap.mp h
    cases hg : L.getD j none with
    | none => rw [hg] at h2; cases h2
    | some v =>
      rw [hg] at h2
      cases h2
      exact ⟨List.mem_range.mp hj, v, hg, rfl⟩
  · rintro ⟨h1, v, h2, rfl⟩
    exact List.mem_filterMap.mpr ⟨i, List.mem_range.mpr h1, by rw [h2]; rfl⟩
theorem am_Ls.has {γ : am_G} {ls : Array Slot} {nL : Nat} {L : List (Option Value)} (h : am_Ls γ ls nL L) : lv_has ls nL (am_al γ L nL) := by
  refine ⟨h.1, h.2.1, fun q hq => ?_⟩
  obtain ⟨i, w⟩ := q
  obtain ⟨-, v, h2, rfl⟩ := am_al_mem.mp hq
  exact h.2.2.2 i v h2
theorem am_getD_lt {L : List (Option Value)} {i : Nat} {v : Value} (h : L.getD i none = some v) : i < L.length := by
  rcases Nat.lt_or_ge i L.length with q | q
  · exact q
  · rw [List.getD_eq_getElem?_getD, List.getElem?_eq_none q] at h
    cases h
theorem am_getD_set_ne {L : List (Option Value)} {i j : Nat} {x : Option Value} (h : j ≠ i) : (L.set i x).getD j none = L.getD j none := by
  rw [List.getD_eq_getElem?_getD, List.getD_eq_getElem?_getD, List.getElem?_set_ne (Ne.symm h)]
theorem am_getD_set_self {L : List (Option Value)} {i : Nat} {x : Option Value} (h : i < L.length) : (L.set i x).getD i none = x := by
  rw [List.getD_eq_getElem?_getD, List.getElem?_set_self h]
  rfl
theorem am_cl0_len (L : List (Option Value)) (i : Nat) : (am_cl0 L i).length = L.length := by
  cases i with
  | zero => rfl
  | succ j =>
    show (match L.getD j none with | some w => bif am_c2 w then L.set j none else L | none => L).length = _
    cases L.getD j none with
    | none => rfl
    | some w =>
      show (bif am_c2 w then L.set j none else L).length = _
      cases am_c2 w
      · rfl
      · exact List.length_set
theorem am_cl0_get {L : List (Option Value)} {i j : Nat} {w : Value} (h : (am_cl0 L i).getD j none = some w) : L.getD j none = some w ∧ (j + 1 = i → ¬ w.category = 2) := by
  cases i with
  | zero => exact ⟨h, fun q => absurd q (by omega)⟩
  | succ k =>
    have h : (match L.getD k none with | some w => bif am_c2 w then L.set k none else L | none => L).getD j none = some w := h
    cases hk : L.getD k none with
    | none =>
      rw [hk] at h
      have h : L.getD j none = some w := h
      refine ⟨h, fun q => ?_⟩
      have : j = k := by omega
      subst this
      rw [hk] at h
      cases h
    | some u =>
      rw [hk] at h
      have h : (bif am_c2 u then L.set k none else L).getD j none = some w := h
      cases hu : am_c2 u with
      | true =>
        rw [hu] at h
        have h : (L.set k none).getD j none = some w := h
        by_cases hjk : j = k
        · subst hjk
          rw [am_getD_set_self (am_getD_lt hk)] at h
          cases h
        · rw [am_getD_set_ne hjk] at h
          exact ⟨h, fun q => absurd (show j = k by omega) hjk⟩
      | false =>
        rw [hu] at h
        have h9 : L.getD j none = some w := h
        refine ⟨h9, fun q hc => ?_⟩
        have e : j = k := by omega
        rw [e, hk] at h9
        cases h9
        unfold am_c2 at hu
        rw [hc] at hu
        cases hu
theorem am_Ls.st1 {γ : am_G} {ls' : Array Slot} {nL i : Nat} {L : List (Option Value)} {v : Value} (hn : L.length = nL) (hi : i < nL) (h : lv_has ls' nL ((i, am_v γ v) :: (am_al γ L nL).filter (fun q => !(q.1 == i) && !(q.1 + 1 == i && q.2.category == 2)))) : am_Ls γ ls' nL (am_s1 L i v) := by
  refine ⟨h.1, h.2.1, ?_, fun j w hj => ?_⟩
  · unfold am_s1
    rw [List.length_set, am_cl0_len]
    exact hn
  · unfold am_s1 at hj
    by_cases hji : j = i
    · subst hji
      rw [am_getD_set_self (by rw [am_cl0_len, hn]; exact hi)] at hj
      cases hj
      exact h.2.2 (j, am_v γ v) List.mem_cons_self
    · rw [am_getD_set_ne hji] at hj
      obtain ⟨g1, g2⟩ := am_cl0_get hj
      refine h.2.2 (j, am_v γ w) (List.mem_cons_of_mem _ (List.mem_filter.mpr ⟨am_al_mem.mpr ⟨by rw [← hn]; exact am_getD_lt g1, w, g1, rfl⟩, ?_⟩))
      have e1 : (j == i) = false := by simpa using hji
      show (!(j == i) && !(j + 1 == i && (am_v γ w).category == 2)) = true
      rw [e1, am_v_cat]
      by_cases hq : j + 1 = i
      · have := g2 hq
        simp [this]
      · have e2 : (j + 1 == i) = false := by simpa using hq
        rw [e2]
        rfl
theorem am_Ls.st2 {γ : am_G} {ls' : Array Slot} {nL i : Nat} {L : List (Option Value)} {v : Value} (hn : L.length = nL) (hi : i + 1 < nL) (h : lv_has ls' nL ((i, am_v γ v) :: (am_al γ L nL).filter (fun q => !(q.1 == i) && (!(q.1 == i + 1) && !(q.1 + 1 == i && q.2.category == 2))))) : am_Ls γ ls' nL (am_s2 L i v) := by
  refine ⟨h.1, h.2.1, ?_, fun j w hj => ?_⟩
  · unfold am_s2
    rw [List.length_set, List.length_set, am_cl0_len]
    exact hn
  · unfold am_s2 at hj
    by_cases hji : j = i
    · subst hji
      rw [am_getD_set_self (by rw [List.length_set, am_cl0_len, hn]; omega)] at hj
      cases hj
      exact h.2.2 (j, am_v γ v) List.mem_cons_self
    · rw [am_getD_set_ne hji] at hj
      by_cases hj2 : j = i + 1
      · subst hj2
        rw [am_getD_set_self (by rw [am_cl0_len, hn]; exact hi)] at hj
        cases hj
      · rw [am_getD_set_ne hj2] at hj
        obtain ⟨g1, g2⟩ := am_cl0_get hj
        refine h.2.2 (j, am_v γ w) (List.mem_cons_of_mem _ (List.mem_filter.mpr ⟨am_al_mem.mpr ⟨by rw [← hn]; exact am_getD_lt g1, w, g1, rfl⟩, ?_⟩))
        have e1 : (j == i) = false := by simpa using hji
        have e3 : (j == i + 1) = false := by simpa using hj2
        show (!(j == i) && (!(j == i + 1) && !(j + 1 == i && (am_v γ w).category == 2))) = true
        rw [e1, e3, am_v_cat]
        by_cases hq : j + 1 = i
        · have := g2 hq
          simp [this]
        · have e2 : (j + 1 == i) = false := by simpa using hq
          rw [e2]
          rfl
theorem am_tg_ok {pc t : Nat} {off : Int} (h : am_tg pc off = some t) : (pc : Int) + off = (t : Int) := by
  unfold am_tg at h
  cases hz : (pc : Int) + off with
  | ofNat z => rw [hz] at h; cases h; rfl
  | negSucc z => rw [hz] at h; cases h
/-! what is known of the classes and of the given arrays -/
def am_tys (γ : am_G) : List (ClassId × FieldType) := [(γ.2.1 0, .int), (γ.2.1 1, .boolean), (γ.2.1 2, .long), (γ.2.1 3, .object RX0), (γ.2.1 4, .object RX3), (γ.2.1 5, .object RX7), (γ.2.1 6, .array .long)]
/-- the rows of longs: their array's class stands -/
def am_AOA (U : State) : Prop := (Cond.arrayOver (.array .long)).before #[] U = true
theorem am_AOA.of {A : Array Value} {U : State} (h : (Cond.arrayOver (.array .long)).before A U = true) : am_AOA U := h
theorem am_AOA.use {A : Array Value} {U : State} (h : am_AOA U) : (Cond.arrayOver (.array .long)).before A U = true := h
theorem am_AOA.moved {u U : State} (hvm : u.vm.Alike U.vm) (h : am_AOA u) : am_AOA U := Stand.arrayOver_alikeB hvm h
def am_Kw (γ : am_G) (U : State) : Prop := va_K γ.1 vwCl (am_tys γ) U ∧ (∀ q ∈ am_nestL, va_Nw (.methodLinkNest q.1 q.2.1 q.2.2.1 q.2.2.2) U) ∧ va_AO RX0 U ∧ va_AO RX3 U ∧ va_AO RX7 U ∧ am_AOA U
def am_Kx (γ : am_G) (E : am_E) (U : State) (H : Heap) : Prop := (∀ e, e < 4 → va_T .int (γ.2.2.2 e) (E e).1 (fun j => .int ((E e).2 j)) (fun q => γ.2.2.1 ≤ q) U H) ∧ ∀ e, 0 < e → e < 4 → va_Z "ShiftLedger" (am_snm e) "[I" (.ref (γ.2.2.2 e)) (fun q => γ.2.2.1 ≤ q) U H
theorem am_Kw.warm {γ : am_G} {s U : State} (hW : s.WarmedH U.vm) (h : am_Kw γ s) : am_Kw γ U := ⟨va_K.moved hW.alike h.1, fun q hq => va_Nw.warmM hW (h.2.1 q hq), va_AO.moved hW.alike h.2.2.1, va_AO.moved hW.alike h.2.2.2.1, va_AO.moved hW.alike h.2.2.2.2.1, am_AOA.moved hW.alike h.2.2.2.2.2⟩
theorem am_Kw.same {γ : am_G} {u U : State} (hv : u.vm = U.vm) (h : am_Kw γ u) : am_Kw γ U := by
  have hA : u.vm.Alike U.vm := by rw [hv]; exact Vm.Alike.refl U.vm
  exact ⟨va_K.moved hA h.1, fun q hq => va_Nw.same rfl hv (h.2.1 q hq), va_AO.moved hA h.2.2.1, va_AO.moved hA h.2.2.2.1, va_AO.moved hA h.2.2.2.2.1, am_AOA.moved hA h.2.2.2.2.2⟩
theorem am_Kx.moved {γ : am_G} {E : am_E} {u U : State} {H0 H : Heap} (hvm : u.vm.Alike U.vm) (hq : ∀ a : Nat, a < H0.size → ¬ γ.2.2.1 ≤ a → H[a]? = H0[a]?) (h : am_Kx γ E u H0) : am_Kx γ E U H := ⟨fun e he => ((h.1 e he).kept hq).moved hvm, fun e h1 h2 => ((h.2 e h1 h2).kept hq).moved hvm⟩
end
section
/-! One step of the abstract machine is a step of the machine. -/
section AMS
variable {p : Program} {l : Launch} {e : Env} {R : Room} {s : State} {m : MethodId} {args : Array Value} {below : List Frame} {meth : Method} {c : Code} {Q : State → Prop} {γ : am_G} {E : am_E} {τ : am_T}
/-- what holds at a method's entry and stays -/
def am_Cx (γ : am_G) (E : am_E) (τ : am_T) (p : Program) (R : Room) (s : State) (m : MethodId) (args : Array Value) (meth : Method) (c : Code) : Prop :=
  p.tables.exec = Jvm.exec ∧ c.code = τ.2.2.1 ∧ c.maxLocals = τ.2.2.2.1 ∧ s.vm.findClass (am_R τ.1) = some m.cls ∧ (∀ w ∈ am_ws, w.before args s = true) ∧ (τ.2.2.2.2.2.2.1 = true → meth.name = "<init>") ∧ am_dec τ = true ∧ am_Kw γ s ∧ am_Kx γ E s s.heap ∧ 1 ≤ R.frames ∧ 64 ≤ R.locals ∧ γ.2.2.1 ≤ s.heap.size
/-- at a place of the abstract machine: the machine goes on to Q -/
def am_Wc (γ : am_G) (τ : am_T) (p : Program) (l : Launch) (e : Env) (R : Room) (s : State) (m : MethodId) (args : Array Value) (below : List Frame) (meth : Method) (c : Code) (Q : State → Prop) (k : am_F) : Prop :=
  ∀ (H : Heap) (locs : List Loc) (cells slots : Nat) (ls : Array Slot), am_Hp γ k.2.2.2.1 H → va_S (fun q => γ.2.2.1 ≤ q) s.heap H locs → am_Ls γ ls τ.2.2.2.1 k.2.1 → cells + k.2.2.2.2.1 ≤ R.cells → slots + k.2.2.2.2.2 ≤ R.slots →
    W p l e R s m args below meth c H locs cells slots Q (F0 m k.1 ls (k.2.2.1.map (am_v γ)))
theorem am_vwCl {ci : Nat} (h : ci < 10) : vwCl[ci]? = some (am_Cn ci) := by
  rcases (show ci = 0 ∨ ci = 1 ∨ ci = 2 ∨ ci = 3 ∨ ci = 4 ∨ ci = 5 ∨ ci = 6 ∨ ci = 7 ∨ ci = 8 ∨ ci = 9 by omega) with rfl | rfl | rfl | rfl | rfl | rfl | rfl | rfl | rfl | rfl <;> rfl
theorem am_vwCn {ci : Nat} (h : ci < 10) : (am_Cn ci).1 = am_R ci := by
  rcases (show ci = 0 ∨ ci = 1 ∨ ci = 2 ∨ ci = 3 ∨ ci = 4 ∨ ci = 5 ∨ ci = 6 ∨ ci = 7 ∨ ci = 8 ∨ ci = 9 by omega) with rfl | rfl | rfl | rfl | rfl | rfl | rfl | rfl | rfl | rfl <;> rfl
theorem am_layA {ci : Nat} (h : ci < 10) : ∀ w ∈ u_ws (am_Cn ci).1 (am_Cn ci).2.1 (am_Cn ci).2.2, w ∈ am_ws := by
  rcases (show ci = 0 ∨ ci = 1 ∨ ci = 2 ∨ ci = 3 ∨ ci = 4 ∨ ci = 5 ∨ ci = 6 ∨ ci = 7 ∨ ci = 8 ∨ ci = 9 by omega) with rfl | rfl | rfl | rfl | rfl | rfl | rfl | rfl | rfl | rfl
  · exact am_lay0
  · exact am_lay1
  · exact am_lay2
  · exact am_lay3
  · exact am_lay4
  · exact am_lay5
  · exact am_lay6
  · exact am_lay7
  · exact am_lay8
  · exact am_lay9
def am_tyF (ci : Nat) : Nat → FieldType := [tyX0, tyX1, tyX2, tyX3, tyX4, tyX5, tyX6, tyX7, tyX8, tyX9].getD ci tyX0
theorem am_tyA {ci : Nat} (h : ci < 10) : ∀ k, k < (am_Cn ci).2.2 → parseFieldDescriptor ((am_Cn ci).2.1 k).2.2.1 = some (am_tyF ci k) := by
  rcases (show ci = 0 ∨ ci = 1 ∨ ci = 2 ∨ ci = 3 ∨ ci = 4 ∨ ci = 5 ∨ ci = 6 ∨ ci = 7 ∨ ci = 8 ∨ ci = 9 by omega) with rfl | rfl | rfl | rfl | rfl | rfl | rfl | rfl | rfl | rfl
  · exact tyX0_ok
  · exact tyX1_ok
  · exact tyX2_ok
  · exact tyX3_ok
  · exact tyX4_ok
  · exact tyX5_ok
  · exact tyX6_ok
  · exact tyX7_ok
  · exact tyX8_ok
  · exact tyX9_ok
theorem am_nmA {ci : Nat} (h : ci < 10) : ∀ a, a < (am_Cn ci).2.2 → ∀ b, b < (am_Cn ci).2.2 → a ≠ b → ((am_Cn ci).2.1 a).2.1 ≠ ((am_Cn ci).2.1 b).2.1 := by
  rcases (show ci = 0 ∨ ci = 1 ∨ ci = 2 ∨ ci = 3 ∨ ci = 4 ∨ ci = 5 ∨ ci = 6 ∨ ci = 7 ∨ ci = 8 ∨ ci = 9 by omega) with rfl | rfl | rfl | rfl | rfl | rfl | rfl | rfl | rfl | rfl
  · exact nmX0
  · exact nmX1
  · exact nmX2
  · exact nmX3
  · exact nmX4
  · exact nmX5
  · exact nmX6
  · exact nmX7
  · exact nmX8
  · exact nmX9

set_option maxHeartbeats 4000000 in
theorem am_x_aconst_null (C : am_Cx γ E τ p R s m args meth c) {pc : Nat} {L : List (Option Value)} {st : List Value} {M : am_M} {bc bs : Nat} {ps : List Prop} {k' : am_F} (hd : decode τ.2.2.1 pc = .ok (.aconst_null, 1)) (h : am_ex E τ.1 τ.2.2.2.2.2.2.1 pc L st M bc bs (.aconst_null) = some (ps, k')) (hp : ∀ q ∈ ps, q) (kk : am_Wc γ τ p l e R s m args below meth c Q k') : am_Wc γ τ p l e R s m args below meth c Q (pc, L, st, M, bc, bs) := by
  obtain ⟨hx, hb, hml, hown, hts, hin, hdec, hKw, hKx, hfr, hlo, hbase⟩ := C
  intro H locs cells slots ls hH hS hL hc hs
  dsimp only at hH hL hc hs ⊢
  simp only [am_ex] at h
  cases h
  exact lv_null hx hb hd (kk H locs cells slots ls hH hS hL hc hs)
set_option maxHeartbeats 4000000 in
theorem am_x_iconst (C : am_Cx γ E τ p R s m args meth c) {pc : Nat} {L : List (Option Value)} {st : List Value} {M : am_M} {bc bs : Nat} {n : Int} {ps : List Prop} {k' : am_F} (hd : decode τ.2.2.1 pc = .ok (.iconst n, 1)) (h : am_ex E τ.1 τ.2.2.2.2.2.2.1 pc L st M bc bs (.iconst n) = some (ps, k')) (hp : ∀ q ∈ ps, q) (kk : am_Wc γ τ p l e R s m args below meth c Q k') : am_Wc γ τ p l e R s m args below meth c Q (pc, L, st, M, bc, bs) := by
  obtain ⟨hx, hb, hml, hown, hts, hin, hdec, hKw, hKx, hfr, hlo, hbase⟩ := C
  intro H locs cells slots ls hH hS hL hc hs
  dsimp only at hH hL hc hs ⊢
  simp only [am_ex] at h
  cases h
  exact lv_iconst hx hb hd rfl (kk H locs cells slots ls hH hS hL hc hs)
set_option maxHeartbeats 4000000 in
theorem am_x_bipush (C : am_Cx γ E τ p R s m args meth c) {pc : Nat} {L : List (Option Value)} {st : List Value} {M : am_M} {bc bs : Nat} {n : Int} {ps : List Prop} {k' : am_F} (hd : decode τ.2.2.1 pc = .ok (.bipush n, 2)) (h : am_ex E τ.1 τ.2.2.2.2.2.2.1 pc L st M bc bs (.bipush n) = some (ps, k')) (hp : ∀ q ∈ ps, q) (kk : am_Wc γ τ p l e R s m args below meth c Q k') : am_Wc γ τ p l e R s m args below meth c Q (pc, L, st, M, bc, bs) := by
  obtain ⟨hx, hb, hml, hown, hts, hin, hdec, hKw, hKx, hfr, hlo, hbase⟩ := C
  intro H locs cells slots ls hH hS hL hc hs
  dsimp only at hH hL hc hs ⊢
  simp only [am_ex] at h
  cases h
  exact lv_bipush hx hb hd rfl (kk H locs cells slots ls hH hS hL hc hs)
set_option maxHeartbeats 4000000 in
theorem am_x_sipush (C : am_Cx γ E τ p R s m args meth c) {pc : Nat} {L : List (Option Value)} {st : List Value} {M : am_M} {bc bs : Nat} {n : Int} {ps : List Prop} {k' : am_F} (hd : decode τ.2.2.1 pc = .ok (.sipush n, 3)) (h : am_ex E τ.1 τ.2.2.2.2.2.2.1 pc L st M bc bs (.sipush n) = some (ps, k')) (hp : ∀ q ∈ ps, q) (kk : am_Wc γ τ p l e R s m args below meth c Q k') : am_Wc γ τ p l e R s m args below meth c Q (pc, L, st, M, bc, bs) := by
  obtain ⟨hx, hb, hml, hown, hts, hin, hdec, hKw, hKx, hfr, hlo, hbase⟩ := C
  intro H locs cells slots ls hH hS hL hc hs
  dsimp only at hH hL hc hs ⊢
  simp only [am_ex] at h
  cases h
  exact lv_sipush hx hb hd rfl (kk H locs cells slots ls hH hS hL hc hs)
set_option maxHeartbeats 4000000 in
theorem am_x_lconst (C : am_Cx γ E τ p R s m args meth c) {pc : Nat} {L : List (Option Value)} {st : List Value} {M : am_M} {bc bs : Nat} {n : Fin 2} {ps : List Prop} {k' : am_F} (hd : decode τ.2.2.1 pc = .ok (.lconst n, 1)) (h : am_ex E τ.1 τ.2.2.2.2.2.2.1 pc L st M bc bs (.lconst n) = some (ps, k')) (hp : ∀ q ∈ ps, q) (kk : am_Wc γ τ p l e R s m args below meth c Q k') : am_Wc γ τ p l e R s m args below meth c Q (pc, L, st, M, bc, bs) := by
  obtain ⟨hx, hb, hml, hown, hts, hin, hdec, hKw, hKx, hfr, hlo, hbase⟩ := C
  intro H locs cells slots ls hH hS hL hc hs
  dsimp only at hH hL hc hs ⊢
  simp only [am_ex] at h
  cases h
  exact lv_lconst hx hb hd rfl (kk H locs cells slots ls hH hS hL hc hs)
set_option maxHeartbeats 4000000 in
theorem am_x_ldc (C : am_Cx γ E τ p R s m args meth c) {pc : Nat} {L : List (Option Value)} {st : List Value} {M : am_M} {bc bs : Nat} {i : Nat} {ps : List Prop} {k' : am_F} (hd : decode τ.2.2.1 pc = .ok (.ldc i, 2)) (h : am_ex E τ.1 τ.2.2.2.2.2.2.1 pc L st M bc bs (.ldc i) = some (ps, k')) (hp : ∀ q ∈ ps, q) (kk : am_Wc γ τ p l e R s m args below meth c Q k') : am_Wc γ τ p l e R s m args below meth c Q (pc, L, st, M, bc, bs) := by
  obtain ⟨hx, hb, hml, hown, hts, hin, hdec, hKw, hKx, hfr, hlo, hbase⟩ := C
  intro H locs cells slots ls hH hS hL hc hs
  dsimp only at hH hL hc hs ⊢
  simp only [am_ex] at h
  cases hk : am_k1 τ.1 i with
  | none => rw [hk] at h; cases h
  | some v =>
    rw [hk] at h
    cases h
    exact lv_ldc hx hb hown (hts _ (am_k1_ok hk)) hd (kk H locs cells slots ls hH hS hL hc hs)
set_option maxHeartbeats 4000000 in
theorem am_x_ldc2_w (C : am_Cx γ E τ p R s m args meth c) {pc : Nat} {L : List (Option Value)} {st : List Value} {M : am_M} {bc bs : Nat} {i : Nat} {ps : List Prop} {k' : am_F} (hd : decode τ.2.2.1 pc = .ok (.ldc2_w i, 3)) (h : am_ex E τ.1 τ.2.2.2.2.2.2.1 pc L st M bc bs (.ldc2_w i) = some (ps, k')) (hp : ∀ q ∈ ps, q) (kk : am_Wc γ τ p l e R s m args below meth c Q k') : am_Wc γ τ p l e R s m args below meth c Q (pc, L, st, M, bc, bs) := by
  obtain ⟨hx, hb, hml, hown, hts, hin, hdec, hKw, hKx, hfr, hlo, hbase⟩ := C
  intro H locs cells slots ls hH hS hL hc hs
  dsimp only at hH hL hc hs ⊢
  simp only [am_ex] at h
  cases hk : am_k2 τ.1 i with
  | none => rw [hk] at h; cases h
  | some v =>
    rw [hk] at h
    cases h
    exact lv_ldc2 hx hb hown (hts _ (am_k2_ok hk)) hd (kk H locs cells slots ls hH hS hL hc hs)
set_option maxHeartbeats 4000000 in
theorem am_x_iload (C : am_Cx γ E τ p R s m args meth c) {pc : Nat} {L : List (Option Value)} {st : List Value} {M : am_M} {bc bs : Nat} {i : Nat} {ps : List Prop} {k' : am_F} (hd : decode τ.2.2.1 pc = .ok (.iload i, 2)) (h : am_ex E τ.1 τ.2.2.2.2.2.2.1 pc L st M bc bs (.iload i) = some (ps, k')) (hp : ∀ q ∈ ps, q) (kk : am_Wc γ τ p l e R s m args below meth c Q k') : am_Wc γ τ p l e R s m args below meth c Q (pc, L, st, M, bc, bs) := by
  obtain ⟨hx, hb, hml, hown, hts, hin, hdec, hKw, hKx, hfr, hlo, hbase⟩ := C
  intro H locs cells slots ls hH hS hL hc hs
  dsimp only at hH hL hc hs ⊢
  simp only [am_ex] at h
  cases hk : L.getD i none with
  | none => rw [hk] at h; cases h
  | some v =>
    rw [hk] at h
    have hv := hL.2.2.2 _ _ hk
    cases v with
    | int x =>
      cases h
      exact lv_iload hx hb hd hv (kk H locs cells slots ls hH hS hL hc hs)
    | _ => cases h
set_option maxHeartbeats 4000000 in
theorem am_x_iload_n (C : am_Cx γ E τ p R s m args meth c) {pc : Nat} {L : List (Option Value)} {st : List Value} {M : am_M} {bc bs : Nat} {i : Fin 4} {ps : List Prop} {k' : am_F} (hd : decode τ.2.2.1 pc = .ok (.iload_n i, 1)) (h : am_ex E τ.1 τ.2.2.2.2.2.2.1 pc L st M bc bs (.iload_n i) = some (ps, k')) (hp : ∀ q ∈ ps, q) (kk : am_Wc γ τ p l e R s m args below meth c Q k') : am_Wc γ τ p l e R s m args below meth c Q (pc, L, st, M, bc, bs) := by
  obtain ⟨hx, hb, hml, hown, hts, hin, hdec, hKw, hKx, hfr, hlo, hbase⟩ := C
  intro H locs cells slots ls hH hS hL hc hs
  dsimp only at hH hL hc hs ⊢
  simp only [am_ex] at h
  cases hk : L.getD i.val none with
  | none => rw [hk] at h; cases h
  | some v =>
    rw [hk] at h
    have hv := hL.2.2.2 _ _ hk
    cases v with
    | int x =>
      cases h
      exact lv_iload_n hx hb hd rfl hv (kk H locs cells slots ls hH hS hL hc hs)
    | _ => cases h
set_option maxHeartbeats 4000000 in
theorem am_x_lload (C : am_Cx γ E τ p R s m args meth c) {pc : Nat} {L : List (Option Value)} {st : List Value} {M : am_M} {bc bs : Nat} {i : Nat} {ps : List Prop} {k' : am_F} (hd : decode τ.2.2.1 pc = .ok (.lload i, 2)) (h : am_ex E τ.1 τ.2.2.2.2.2.2.1 pc L st M bc bs (.lload i) = some (ps, k')) (hp : ∀ q ∈ ps, q) (kk : am_Wc γ τ p l e R s m args below meth c Q k') : am_Wc γ τ p l e R s m args below meth c Q (pc, L, st, M, bc, bs) := by
  obtain ⟨hx, hb, hml, hown, hts, hin, hdec, hKw, hKx, hfr, hlo, hbase⟩ := C
  intro H locs cells slots ls hH hS hL hc hs
  dsimp only at hH hL hc hs ⊢
  simp only [am_ex] at h
  cases hk : L.getD i none with
  | none => rw [hk] at h; cases h
  | some v =>
    rw [hk] at h
    have hv := hL.2.2.2 _ _ hk
    cases v with
    | long x =>
      cases h
      exact lv_lload hx hb hd hv (kk H locs cells slots ls hH hS hL hc hs)
    | _ => cases h
set_option maxHeartbeats 4000000 in
theorem am_x_lload_n (C : am_Cx γ E τ p R s m args meth c) {pc : Nat} {L : List (Option Value)} {st : List Value} {M : am_M} {bc bs : Nat} {i : Fin 4} {ps : List Prop} {k' : am_F} (hd : decode τ.2.2.1 pc = .ok (.lload_n i, 1)) (h : am_ex E τ.1 τ.2.2.2.2.2.2.1 pc L st M bc bs (.lload_n i) = some (ps, k')) (hp : ∀ q ∈ ps, q) (kk : am_Wc γ τ p l e R s m args below meth c Q k') : am_Wc γ τ p l e R s m args below meth c Q (pc, L, st, M, bc, bs) := by
  obtain ⟨hx, hb, hml, hown, hts, hin, hdec, hKw, hKx, hfr, hlo, hbase⟩ := C
  intro H locs cells slots ls hH hS hL hc hs
  dsimp only at hH hL hc hs ⊢
  simp only [am_ex] at h
  cases hk : L.getD i.val none with
  | none => rw [hk] at h; cases h
  | some v =>
    rw [hk] at h
    have hv := hL.2.2.2 _ _ hk
    cases v with
    | long x =>
      cases h
      exact lv_lload_n hx hb hd rfl hv (kk H locs cells slots ls hH hS hL hc hs)
    | _ => cases h
set_option maxHeartbeats 4000000 in
theorem am_x_aload (C : am_Cx γ E τ p R s m args meth c) {pc : Nat} {L : List (Option Value)} {st : List Value} {M : am_M} {bc bs : Nat} {i : Nat} {ps : List Prop} {k' : am_F} (hd : decode τ.2.2.1 pc = .ok (.aload i, 2)) (h : am_ex E τ.1 τ.2.2.2.2.2.2.1 pc L st M bc bs (.aload i) = some (ps, k')) (hp : ∀ q ∈ ps, q) (kk : am_Wc γ τ p l e R s m args below meth c Q k') : am_Wc γ τ p l e R s m args below meth c Q (pc, L, st, M, bc, bs) := by
  obtain ⟨hx, hb, hml, hown, hts, hin, hdec, hKw, hKx, hfr, hlo, hbase⟩ := C
  intro H locs cells slots ls hH hS hL hc hs
  dsimp only at hH hL hc hs ⊢
  simp only [am_ex] at h
  cases hk : L.getD i none with
  | none => rw [hk] at h; cases h
  | some v =>
    rw [hk] at h
    have hv := hL.2.2.2 _ _ hk
    cases v with
    | ref x =>
      cases h
      exact lv_aload hx hb hd hv (kk H locs cells slots ls hH hS hL hc hs)
    | null =>
      cases h
      exact lv_aloadN hx hb hd hv (kk H locs cells slots ls hH hS hL hc hs)
    | _ => cases h
set_option maxHeartbeats 4000000 in
theorem am_x_aload_n (C : am_Cx γ E τ p R s m args meth c) {pc : Nat} {L : List (Option Value)} {st : List Value} {M : am_M} {bc bs : Nat} {i : Fin 4} {ps : List Prop} {k' : am_F} (hd : decode τ.2.2.1 pc = .ok (.aload_n i, 1)) (h : am_ex E τ.1 τ.2.2.2.2.2.2.1 pc L st M bc bs (.aload_n i) = some (ps, k')) (hp : ∀ q ∈ ps, q) (kk : am_Wc γ τ p l e R s m args below meth c Q k') : am_Wc γ τ p l e R s m args below meth c Q (pc, L, st, M, bc, bs) := by
  obtain ⟨hx, hb, hml, hown, hts, hin, hdec, hKw, hKx, hfr, hlo, hbase⟩ := C
  intro H locs cells slots ls hH hS hL hc hs
  dsimp only at hH hL hc hs ⊢
  simp only [am_ex] at h
  cases hk : L.getD i.val none with
  | none => rw [hk] at h; cases h
  | some v =>
    rw [hk] at h
    have hv := hL.2.2.2 _ _ hk
    cases v with
    | ref x =>
      cases h
      exact lv_aload_n hx hb hd rfl hv (kk H locs cells slots ls hH hS hL hc hs)
    | null =>
      cases h
      exact lv_aload_nN hx hb hd rfl hv (kk H locs cells slots ls hH hS hL hc hs)
    | _ => cases h
set_option maxHeartbeats 4000000 in
theorem am_x_istore (C : am_Cx γ E τ p R s m args meth c) {pc : Nat} {L : List (Option Value)} {st : List Value} {M : am_M} {bc bs : Nat} {i : Nat} {ps : List Prop} {k' : am_F} (hd : decode τ.2.2.1 pc = .ok (.istore i, 2)) (h : am_ex E τ.1 τ.2.2.2.2.2.2.1 pc L st M bc bs (.istore i) = some (ps, k')) (hp : ∀ q ∈ ps, q) (kk : am_Wc γ τ p l e R s m args below meth c Q k') : am_Wc γ τ p l e R s m args below meth c Q (pc, L, st, M, bc, bs) := by
  obtain ⟨hx, hb, hml, hown, hts, hin, hdec, hKw, hKx, hfr, hlo, hbase⟩ := C
  intro H locs cells slots ls hH hS hL hc hs
  dsimp only at hH hL hc hs ⊢
  simp only [am_ex] at h
  cases st with
  | nil => cases h
  | cons v r =>
    cases v with
    | int x =>
      cases hi : Nat.blt (i) L.length with
      | false => rw [hi] at h; cases h
      | true =>
        rw [hi] at h
        cases h
        have hi2 : i < τ.2.2.2.1 := by rw [← hL.2.2.1]; exact Nat.le_of_ble_eq_true hi
        exact lv_istore hx hb hd (hL.has) hi2 rfl (fun ls' hl' => kk H locs cells slots ls' hH hS (am_Ls.st1 (v := .int x) hL.2.2.1 hi2 hl') hc hs)
    | _ => cases h
set_option maxHeartbeats 4000000 in
theorem am_x_istore_n (C : am_Cx γ E τ p R s m args meth c) {pc : Nat} {L : List (Option Value)} {st : List Value} {M : am_M} {bc bs : Nat} {i : Fin 4} {ps : List Prop} {k' : am_F} (hd : decode τ.2.2.1 pc = .ok (.istore_n i, 1)) (h : am_ex E τ.1 τ.2.2.2.2.2.2.1 pc L st M bc bs (.istore_n i) = some (ps, k')) (hp : ∀ q ∈ ps, q) (kk : am_Wc γ τ p l e R s m args below meth c Q k') : am_Wc γ τ p l e R s m args below meth c Q (pc, L, st, M, bc, bs) := by
  obtain ⟨hx, hb, hml, hown, hts, hin, hdec, hKw, hKx, hfr, hlo, hbase⟩ := C
  intro H locs cells slots ls hH hS hL hc hs
  dsimp only at hH hL hc hs ⊢
  simp only [am_ex] at h
  cases st with
  | nil => cases h
  | cons v r =>
    cases v with
    | int x =>
      cases hi : Nat.blt (i.val) L.length with
      | false => rw [hi] at h; cases h
      | true =>
        rw [hi] at h
        cases h
        have hi2 : i.val < τ.2.2.2.1 := by rw [← hL.2.2.1]; exact Nat.le_of_ble_eq_true hi
        exact lv_istore_n hx hb hd rfl (hL.has) hi2 rfl (fun ls' hl' => kk H locs cells slots ls' hH hS (am_Ls.st1 (v := .int x) hL.2.2.1 hi2 hl') hc hs)
    | _ => cases h
set_option maxHeartbeats 4000000 in
theorem am_x_lstore (C : am_Cx γ E τ p R s m args meth c) {pc : Nat} {L : List (Option Value)} {st : List Value} {M : am_M} {bc bs : Nat} {i : Nat} {ps : List Prop} {k' : am_F} (hd : decode τ.2.2.1 pc = .ok (.lstore i, 2)) (h : am_ex E τ.1 τ.2.2.2.2.2.2.1 pc L st M bc bs (.lstore i) = some (ps, k')) (hp : ∀ q ∈ ps, q) (kk : am_Wc γ τ p l e R s m args below meth c Q k') : am_Wc γ τ p l e R s m args below meth c Q (pc, L, st, M, bc, bs) := by
  obtain ⟨hx, hb, hml, hown, hts, hin, hdec, hKw, hKx, hfr, hlo, hbase⟩ := C
  intro H locs cells slots ls hH hS hL hc hs
  dsimp only at hH hL hc hs ⊢
  simp only [am_ex] at h
  cases st with
  | nil => cases h
  | cons v r =>
    cases v with
    | long x =>
      cases hi : Nat.blt (i + 1) L.length with
      | false => rw [hi] at h; cases h
      | true =>
        rw [hi] at h
        cases h
        have hi2 : i + 1 < τ.2.2.2.1 := by rw [← hL.2.2.1]; exact Nat.le_of_ble_eq_true hi
        exact lv_lstore hx hb hd (hL.has) hi2 rfl (fun ls' hl' => kk H locs cells slots ls' hH hS (am_Ls.st2 (v := .long x) hL.2.2.1 hi2 hl') hc hs)
    | _ => cases h
set_option maxHeartbeats 4000000 in
theorem am_x_lstore_n (C : am_Cx γ E τ p R s m args meth c) {pc : Nat} {L : List (Option Value)} {st : List Value} {M : am_M} {bc bs : Nat} {i : Fin 4} {ps : List Prop} {k' : am_F} (hd : decode τ.2.2.1 pc = .ok (.lstore_n i, 1)) (h : am_ex E τ.1 τ.2.2.2.2.2.2.1 pc L st M bc bs (.lstore_n i) = some (ps, k')) (hp : ∀ q ∈ ps, q) (kk : am_Wc γ τ p l e R s m args below meth c Q k') : am_Wc γ τ p l e R s m args below meth c Q (pc, L, st, M, bc, bs) := by
  obtain ⟨hx, hb, hml, hown, hts, hin, hdec, hKw, hKx, hfr, hlo, hbase⟩ := C
  intro H locs cells slots ls hH hS hL hc hs
  dsimp only at hH hL hc hs ⊢
  simp only [am_ex] at h
  cases st with
  | nil => cases h
  | cons v r =>
    cases v with
    | long x =>
      cases hi : Nat.blt (i.val + 1) L.length with
      | false => rw [hi] at h; cases h
      | true =>
        rw [hi] at h
        cases h
        have hi2 : i.val + 1 < τ.2.2.2.1 := by rw [← hL.2.2.1]; exact Nat.le_of_ble_eq_true hi
        exact lv_lstore_n hx hb hd rfl (hL.has) hi2 rfl (fun ls' hl' => kk H locs cells slots ls' hH hS (am_Ls.st2 (v := .long x) hL.2.2.1 hi2 hl') hc hs)
    | _ => cases h
set_option maxHeartbeats 4000000 in
theorem am_x_astore (C : am_Cx γ E τ p R s m args meth c) {pc : Nat} {L : List (Option Value)} {st : List Value} {M : am_M} {bc bs : Nat} {i : Nat} {ps : List Prop} {k' : am_F} (hd : decode τ.2.2.1 pc = .ok (.astore i, 2)) (h : am_ex E τ.1 τ.2.2.2.2.2.2.1 pc L st M bc bs (.astore i) = some (ps, k')) (hp : ∀ q ∈ ps, q) (kk : am_Wc γ τ p l e R s m args below meth c Q k') : am_Wc γ τ p l e R s m args below meth c Q (pc, L, st, M, bc, bs) := by
  obtain ⟨hx, hb, hml, hown, hts, hin, hdec, hKw, hKx, hfr, hlo, hbase⟩ := C
  intro H locs cells slots ls hH hS hL hc hs
  dsimp only at hH hL hc hs ⊢
  simp only [am_ex] at h
  cases st with
  | nil => cases h
  | cons v r =>
    cases v with
    | ref x =>
      cases hi : Nat.blt (i) L.length with
      | false => rw [hi] at h; cases h
      | true =>
        rw [hi] at h
        cases h
        have hi2 : i < τ.2.2.2.1 := by rw [← hL.2.2.1]; exact Nat.le_of_ble_eq_true hi
        exact lv_astore hx hb hd (hL.has) hi2 rfl (fun ls' hl' => kk H locs cells slots ls' hH hS (am_Ls.st1 (v := .ref x) hL.2.2.1 hi2 hl') hc hs)
    | null =>
      cases hi : Nat.blt (i) L.length with
      | false => rw [hi] at h; cases h
      | true =>
        rw [hi] at h
        cases h
        have hi2 : i < τ.2.2.2.1 := by rw [← hL.2.2.1]; exact Nat.le_of_ble_eq_true hi
        exact lv_astoreN hx hb hd (hL.has) hi2 rfl (fun ls' hl' => kk H locs cells slots ls' hH hS (am_Ls.st1 (v := .null) hL.2.2.1 hi2 hl') hc hs)
    | _ => cases h
set_option maxHeartbeats 4000000 in
theorem am_x_astore_n (C : am_Cx γ E τ p R s m args meth c) {pc : Nat} {L : List (Option Value)} {st : List Value} {M : am_M} {bc bs : Nat} {i : Fin 4} {ps : List Prop} {k' : am_F} (hd : decode τ.2.2.1 pc = .ok (.astore_n i, 1)) (h : am_ex E τ.1 τ.2.2.2.2.2.2.1 pc L st M bc bs (.astore_n i) = some (ps, k')) (hp : ∀ q ∈ ps, q) (kk : am_Wc γ τ p l e R s m args below meth c Q k') : am_Wc γ τ p l e R s m args below meth c Q (pc, L, st, M, bc, bs) := by
  obtain ⟨hx, hb, hml, hown, hts, hin, hdec, hKw, hKx, hfr, hlo, hbase⟩ := C
  intro H locs cells slots ls hH hS hL hc hs
  dsimp only at hH hL hc hs ⊢
  simp only [am_ex] at h
  cases st with
  | nil => cases h
  | cons v r =>
    cases v with
    | ref x =>
      cases hi : Nat.blt (i.val) L.length with
      | false => rw [hi] at h; cases h
      | true =>
        rw [hi] at h
        cases h
        have hi2 : i.val < τ.2.2.2.1 := by rw [← hL.2.2.1]; exact Nat.le_of_ble_eq_true hi
        exact lv_astore_n hx hb hd rfl (hL.has) hi2 rfl (fun ls' hl' => kk H locs cells slots ls' hH hS (am_Ls.st1 (v := .ref x) hL.2.2.1 hi2 hl') hc hs)
    | null =>
      cases hi : Nat.blt (i.val) L.length with
      | false => rw [hi] at h; cases h
      | true =>
        rw [hi] at h
        cases h
        have hi2 : i.val < τ.2.2.2.1 := by rw [← hL.2.2.1]; exact Nat.le_of_ble_eq_true hi
        exact lv_astore_nN hx hb hd rfl (hL.has) hi2 rfl (fun ls' hl' => kk H locs cells slots ls' hH hS (am_Ls.st1 (v := .null) hL.2.2.1 hi2 hl') hc hs)
    | _ => cases h
set_option maxHeartbeats 4000000 in
theorem am_x_iinc (C : am_Cx γ E τ p R s m args meth c) {pc : Nat} {L : List (Option Value)} {st : List Value} {M : am_M} {bc bs : Nat} {i : Nat} {n : Int} {ps : List Prop} {k' : am_F} (hd : decode τ.2.2.1 pc = .ok (.iinc i n, 3)) (h : am_ex E τ.1 τ.2.2.2.2.2.2.1 pc L st M bc bs (.iinc i n) = some (ps, k')) (hp : ∀ q ∈ ps, q) (kk : am_Wc γ τ p l e R s m args below meth c Q k') : am_Wc γ τ p l e R s m args below meth c Q (pc, L, st, M, bc, bs) := by
  obtain ⟨hx, hb, hml, hown, hts, hin, hdec, hKw, hKx, hfr, hlo, hbase⟩ := C
  intro H locs cells slots ls hH hS hL hc hs
  dsimp only at hH hL hc hs ⊢
  simp only [am_ex] at h
  cases hk : L.getD i none with
  | none => rw [hk] at h; cases h
  | some v =>
    rw [hk] at h
    cases v with
    | int x =>
      cases hi : Nat.blt i L.length with
      | false => rw [hi] at h; cases h
      | true =>
        rw [hi] at h
        cases h
        have hi2 : i < τ.2.2.2.1 := by rw [← hL.2.2.1]; exact Nat.le_of_ble_eq_true hi
        obtain ⟨j, hj⟩ := List.getElem?_of_mem (am_al_mem (γ := γ).mpr ⟨hi2, _, hk, rfl⟩)
        exact lv_iinc hx hb hd hL.has hj rfl hi2 rfl (fun ls' hl' => kk H locs cells slots ls' hH hS (am_Ls.st1 (v := .int (x + Int32.ofInt n)) hL.2.2.1 hi2 hl') hc hs)
    | _ => cases h
set_option maxHeartbeats 4000000 in
theorem am_x_iadd (C : am_Cx γ E τ p R s m args meth c) {pc : Nat} {L : List (Option Value)} {st : List Value} {M : am_M} {bc bs : Nat} {ps : List Prop} {k' : am_F} (hd : decode τ.2.2.1 pc = .ok (.iadd, 1)) (h : am_ex E τ.1 τ.2.2.2.2.2.2.1 pc L st M bc bs (.iadd) = some (ps, k')) (hp : ∀ q ∈ ps, q) (kk : am_Wc γ τ p l e R s m args below meth c Q k') : am_Wc γ τ p l e R s m args below meth c Q (pc, L, st, M, bc, bs) := by
  obtain ⟨hx, hb, hml, hown, hts, hin, hdec, hKw, hKx, hfr, hlo, hbase⟩ := C
  intro H locs cells slots ls hH hS hL hc hs
  dsimp only at hH hL hc hs ⊢
  simp only [am_ex] at h
  cases st with
  | nil => cases h
  | cons v0 r0 =>
    cases v0 with
    | int y =>
      cases r0 with
      | nil => cases h
      | cons v1 r1 =>
        cases v1 with
        | int x =>
          cases h
          exact lv_iadd hx hb hd (kk H locs cells slots ls hH hS hL hc hs)
        | _ => cases h
    | _ => cases h
set_option maxHeartbeats 4000000 in
theorem am_x_isub (C : am_Cx γ E τ p R s m args meth c) {pc : Nat} {L : List (Option Value)} {st : List Value} {M : am_M} {bc bs : Nat} {ps : List Prop} {k' : am_F} (hd : decode τ.2.2.1 pc = .ok (.isub, 1)) (h : am_ex E τ.1 τ.2.2.2.2.2.2.1 pc L st M bc bs (.isub) = some (ps, k')) (hp : ∀ q ∈ ps, q) (kk : am_Wc γ τ p l e R s m args below meth c Q k') : am_Wc γ τ p l e R s m args below meth c Q (pc, L, st, M, bc, bs) := by
  obtain ⟨hx, hb, hml, hown, hts, hin, hdec, hKw, hKx, hfr, hlo, hbase⟩ := C
  intro H locs cells slots ls hH hS hL hc hs
  dsimp only at hH hL hc hs ⊢
  simp only [am_ex] at h
  cases st with
  | nil => cases h
  | cons v0 r0 =>
    cases v0 with
    | int y =>
      cases r0 with
      | nil => cases h
      | cons v1 r1 =>
        cases v1 with
        | int x =>
          cases h
          exact lv_isub hx hb hd (kk H locs cells slots ls hH hS hL hc hs)
        | _ => cases h
    | _ => cases h
set_option maxHeartbeats 4000000 in
theorem am_x_imul (C : am_Cx γ E τ p R s m args meth c) {pc : Nat} {L : List (Option Value)} {st : List Value} {M : am_M} {bc bs : Nat} {ps : List Prop} {k' : am_F} (hd : decode τ.2.2.1 pc = .ok (.imul, 1)) (h : am_ex E τ.1 τ.2.2.2.2.2.2.1 pc L st M bc bs (.imul) = some (ps, k')) (hp : ∀ q ∈ ps, q) (kk : am_Wc γ τ p l e R s m args below meth c Q k') : am_Wc γ τ p l e R s m args below meth c Q (pc, L, st, M, bc, bs) := by
  obtain ⟨hx, hb, hml, hown, hts, hin, hdec, hKw, hKx, hfr, hlo, hbase⟩ := C
  intro H locs cells slots ls hH hS hL hc hs
  dsimp only at hH hL hc hs ⊢
  simp only [am_ex] at h
  cases st with
  | nil => cases h
  | cons v0 r0 =>
    cases v0 with
    | int y =>
      cases r0 with
      | nil => cases h
      | cons v1 r1 =>
        cases v1 with
        | int x =>
          cases h
          exact lv_imul hx hb hd (kk H locs cells slots ls hH hS hL hc hs)
        | _ => cases h
    | _ => cases h
set_option maxHeartbeats 4000000 in
theorem am_x_iand (C : am_Cx γ E τ p R s m args meth c) {pc : Nat} {L : List (Option Value)} {st : List Value} {M : am_M} {bc bs : Nat} {ps : List Prop} {k' : am_F} (hd : decode τ.2.2.1 pc = .ok (.iand, 1)) (h : am_ex E τ.1 τ.2.2.2.2.2.2.1 pc L st M bc bs (.iand) = some (ps, k')) (hp : ∀ q ∈ ps, q) (kk : am_Wc γ τ p l e R s m args below meth c Q k') : am_Wc γ τ p l e R s m args below meth c Q (pc, L, st, M, bc, bs) := by
  obtain ⟨hx, hb, hml, hown, hts, hin, hdec, hKw, hKx, hfr, hlo, hbase⟩ := C
  intro H locs cells slots ls hH hS hL hc hs
  dsimp only at hH hL hc hs ⊢
  simp only [am_ex] at h
  cases st with
  | nil => cases h
  | cons v0 r0 =>
    cases v0 with
    | int y =>
      cases r0 with
      | nil => cases h
      | cons v1 r1 =>
        cases v1 with
        | int x =>
          cases h
          exact lv_iand hx hb hd (kk H locs cells slots ls hH hS hL hc hs)
        | _ => cases h
    | _ => cases h
set_option maxHeartbeats 4000000 in
theorem am_x_ior (C : am_Cx γ E τ p R s m args meth c) {pc : Nat} {L : List (Option Value)} {st : List Value} {M : am_M} {bc bs : Nat} {ps : List Prop} {k' : am_F} (hd : decode τ.2.2.1 pc = .ok (.ior, 1)) (h : am_ex E τ.1 τ.2.2.2.2.2.2.1 pc L st M bc bs (.ior) = some (ps, k')) (hp : ∀ q ∈ ps, q) (kk : am_Wc γ τ p l e R s m args below meth c Q k') : am_Wc γ τ p l e R s m args below meth c Q (pc, L, st, M, bc, bs) := by
  obtain ⟨hx, hb, hml, hown, hts, hin, hdec, hKw, hKx, hfr, hlo, hbase⟩ := C
  intro H locs cells slots ls hH hS hL hc hs
  dsimp only at hH hL hc hs ⊢
  simp only [am_ex] at h
  cases st with
  | nil => cases h
  | cons v0 r0 =>
    cases v0 with
    | int y =>
      cases r0 with
      | nil => cases h
      | cons v1 r1 =>
        cases v1 with
        | int x =>
          cases h
          exact lv_ior hx hb hd (kk H locs cells slots ls hH hS hL hc hs)
        | _ => cases h
    | _ => cases h
set_option maxHeartbeats 4000000 in
theorem am_x_ishl (C : am_Cx γ E τ p R s m args meth c) {pc : Nat} {L : List (Option Value)} {st : List Value} {M : am_M} {bc bs : Nat} {ps : List Prop} {k' : am_F} (hd : decode τ.2.2.1 pc = .ok (.ishl, 1)) (h : am_ex E τ.1 τ.2.2.2.2.2.2.1 pc L st M bc bs (.ishl) = some (ps, k')) (hp : ∀ q ∈ ps, q) (kk : am_Wc γ τ p l e R s m args below meth c Q k') : am_Wc γ τ p l e R s m args below meth c Q (pc, L, st, M, bc, bs) := by
  obtain ⟨hx, hb, hml, hown, hts, hin, hdec, hKw, hKx, hfr, hlo, hbase⟩ := C
  intro H locs cells slots ls hH hS hL hc hs
  dsimp only at hH hL hc hs ⊢
  simp only [am_ex] at h
  cases st with
  | nil => cases h
  | cons v0 r0 =>
    cases v0 with
    | int y =>
      cases r0 with
      | nil => cases h
      | cons v1 r1 =>
        cases v1 with
        | int x =>
          cases h
          exact lv_ishl hx hb hd (kk H locs cells slots ls hH hS hL hc hs)
        | _ => cases h
    | _ => cases h
set_option maxHeartbeats 4000000 in
theorem am_x_ishr (C : am_Cx γ E τ p R s m args meth c) {pc : Nat} {L : List (Option Value)} {st : List Value} {M : am_M} {bc bs : Nat} {ps : List Prop} {k' : am_F} (hd : decode τ.2.2.1 pc = .ok (.ishr, 1)) (h : am_ex E τ.1 τ.2.2.2.2.2.2.1 pc L st M bc bs (.ishr) = some (ps, k')) (hp : ∀ q ∈ ps, q) (kk : am_Wc γ τ p l e R s m args below meth c Q k') : am_Wc γ τ p l e R s m args below meth c Q (pc, L, st, M, bc, bs) := by
  obtain ⟨hx, hb, hml, hown, hts, hin, hdec, hKw, hKx, hfr, hlo, hbase⟩ := C
  intro H locs cells slots ls hH hS hL hc hs
  dsimp only at hH hL hc hs ⊢
  simp only [am_ex] at h
  cases st with
  | nil => cases h
  | cons v0 r0 =>
    cases v0 with
    | int y =>
      cases r0 with
      | nil => cases h
      | cons v1 r1 =>
        cases v1 with
        | int x =>
          cases h
          exact lv_ishr hx hb hd (kk H locs cells slots ls hH hS hL hc hs)
        | _ => cases h
    | _ => cases h
set_option maxHeartbeats 4000000 in
theorem am_x_idiv (C : am_Cx γ E τ p R s m args meth c) {pc : Nat} {L : List (Option Value)} {st : List Value} {M : am_M} {bc bs : Nat} {ps : List Prop} {k' : am_F} (hd : decode τ.2.2.1 pc = .ok (.idiv, 1)) (h : am_ex E τ.1 τ.2.2.2.2.2.2.1 pc L st M bc bs (.idiv) = some (ps, k')) (hp : ∀ q ∈ ps, q) (kk : am_Wc γ τ p l e R s m args below meth c Q k') : am_Wc γ τ p l e R s m args below meth c Q (pc, L, st, M, bc, bs) := by
  obtain ⟨hx, hb, hml, hown, hts, hin, hdec, hKw, hKx, hfr, hlo, hbase⟩ := C
  intro H locs cells slots ls hH hS hL hc hs
  dsimp only at hH hL hc hs ⊢
  simp only [am_ex] at h
  cases st with
  | nil => cases h
  | cons v0 r0 =>
    cases v0 with
    | int y =>
      cases r0 with
      | nil => cases h
      | cons v1 r1 =>
        cases v1 with
        | int x =>
          cases h
          exact lv_idiv hx hb hd (hp _ List.mem_cons_self) (kk H locs cells slots ls hH hS hL hc hs)
        | _ => cases h
    | _ => cases h
set_option maxHeartbeats 4000000 in
theorem am_x_irem (C : am_Cx γ E τ p R s m args meth c) {pc : Nat} {L : List (Option Value)} {st : List Value} {M : am_M} {bc bs : Nat} {ps : List Prop} {k' : am_F} (hd : decode τ.2.2.1 pc = .ok (.irem, 1)) (h : am_ex E τ.1 τ.2.2.2.2.2.2.1 pc L st M bc bs (.irem) = some (ps, k')) (hp : ∀ q ∈ ps, q) (kk : am_Wc γ τ p l e R s m args below meth c Q k') : am_Wc γ τ p l e R s m args below meth c Q (pc, L, st, M, bc, bs) := by
  obtain ⟨hx, hb, hml, hown, hts, hin, hdec, hKw, hKx, hfr, hlo, hbase⟩ := C
  intro H locs cells slots ls hH hS hL hc hs
  dsimp only at hH hL hc hs ⊢
  simp only [am_ex] at h
  cases st with
  | nil => cases h
  | cons v0 r0 =>
    cases v0 with
    | int y =>
      cases r0 with
      | nil => cases h
      | cons v1 r1 =>
        cases v1 with
        | int x =>
          cases h
          exact lv_irem hx hb hd (hp _ List.mem_cons_self) (kk H locs cells slots ls hH hS hL hc hs)
        | _ => cases h
    | _ => cases h
set_option maxHeartbeats 4000000 in
theorem am_x_ladd (C : am_Cx γ E τ p R s m args meth c) {pc : Nat} {L : List (Option Value)} {st : List Value} {M : am_M} {bc bs : Nat} {ps : List Prop} {k' : am_F} (hd : decode τ.2.2.1 pc = .ok (.ladd, 1)) (h : am_ex E τ.1 τ.2.2.2.2.2.2.1 pc L st M bc bs (.ladd) = some (ps, k')) (hp : ∀ q ∈ ps, q) (kk : am_Wc γ τ p l e R s m args below meth c Q k') : am_Wc γ τ p l e R s m args below meth c Q (pc, L, st, M, bc, bs) := by
  obtain ⟨hx, hb, hml, hown, hts, hin, hdec, hKw, hKx, hfr, hlo, hbase⟩ := C
  intro H locs cells slots ls hH hS hL hc hs
  dsimp only at hH hL hc hs ⊢
  simp only [am_ex] at h
  cases st with
  | nil => cases h
  | cons v0 r0 =>
    cases v0 with
    | long y =>
      cases r0 with
      | nil => cases h
      | cons v1 r1 =>
        cases v1 with
        | long x =>
          cases h
          exact lv_ladd hx hb hd (kk H locs cells slots ls hH hS hL hc hs)
        | _ => cases h
    | _ => cases h
set_option maxHeartbeats 4000000 in
theorem am_x_lsub (C : am_Cx γ E τ p R s m args meth c) {pc : Nat} {L : List (Option Value)} {st : List Value} {M : am_M} {bc bs : Nat} {ps : List Prop} {k' : am_F} (hd : decode τ.2.2.1 pc = .ok (.lsub, 1)) (h : am_ex E τ.1 τ.2.2.2.2.2.2.1 pc L st M bc bs (.lsub) = some (ps, k')) (hp : ∀ q ∈ ps, q) (kk : am_Wc γ τ p l e R s m args below meth c Q k') : am_Wc γ τ p l e R s m args below meth c Q (pc, L, st, M, bc, bs) := by
  obtain ⟨hx, hb, hml, hown, hts, hin, hdec, hKw, hKx, hfr, hlo, hbase⟩ := C
  intro H locs cells slots ls hH hS hL hc hs
  dsimp only at hH hL hc hs ⊢
  simp only [am_ex] at h
  cases st with
  | nil => cases h
  | cons v0 r0 =>
    cases v0 with
    | long y =>
      cases r0 with
      | nil => cases h
      | cons v1 r1 =>
        cases v1 with
        | long x =>
          cases h
          exact lv_lsub hx hb hd (kk H locs cells slots ls hH hS hL hc hs)
        | _ => cases h
    | _ => cases h
set_option maxHeartbeats 4000000 in
theorem am_x_lmul (C : am_Cx γ E τ p R s m args meth c) {pc : Nat} {L : List (Option Value)} {st : List Value} {M : am_M} {bc bs : Nat} {ps : List Prop} {k' : am_F} (hd : decode τ.2.2.1 pc = .ok (.lmul, 1)) (h : am_ex E τ.1 τ.2.2.2.2.2.2.1 pc L st M bc bs (.lmul) = some (ps, k')) (hp : ∀ q ∈ ps, q) (kk : am_Wc γ τ p l e R s m args below meth c Q k') : am_Wc γ τ p l e R s m args below meth c Q (pc, L, st, M, bc, bs) := by
  obtain ⟨hx, hb, hml, hown, hts, hin, hdec, hKw, hKx, hfr, hlo, hbase⟩ := C
  intro H locs cells slots ls hH hS hL hc hs
  dsimp only at hH hL hc hs ⊢
  simp only [am_ex] at h
  cases st with
  | nil => cases h
  | cons v0 r0 =>
    cases v0 with
    | long y =>
      cases r0 with
      | nil => cases h
      | cons v1 r1 =>
        cases v1 with
        | long x =>
          cases h
          exact lv_lmul hx hb hd (kk H locs cells slots ls hH hS hL hc hs)
        | _ => cases h
    | _ => cases h
set_option maxHeartbeats 4000000 in
theorem am_x_ldiv (C : am_Cx γ E τ p R s m args meth c) {pc : Nat} {L : List (Option Value)} {st : List Value} {M : am_M} {bc bs : Nat} {ps : List Prop} {k' : am_F} (hd : decode τ.2.2.1 pc = .ok (.ldiv, 1)) (h : am_ex E τ.1 τ.2.2.2.2.2.2.1 pc L st M bc bs (.ldiv) = some (ps, k')) (hp : ∀ q ∈ ps, q) (kk : am_Wc γ τ p l e R s m args below meth c Q k') : am_Wc γ τ p l e R s m args below meth c Q (pc, L, st, M, bc, bs) := by
  obtain ⟨hx, hb, hml, hown, hts, hin, hdec, hKw, hKx, hfr, hlo, hbase⟩ := C
  intro H locs cells slots ls hH hS hL hc hs
  dsimp only at hH hL hc hs ⊢
  simp only [am_ex] at h
  cases st with
  | nil => cases h
  | cons v0 r0 =>
    cases v0 with
    | long y =>
      cases r0 with
      | nil => cases h
      | cons v1 r1 =>
        cases v1 with
        | long x =>
          cases h
          exact lv_ldiv hx hb hd (hp _ List.mem_cons_self) (kk H locs cells slots ls hH hS hL hc hs)
        | _ => cases h
    | _ => cases h
set_option maxHeartbeats 4000000 in
theorem am_x_lrem (C : am_Cx γ E τ p R s m args meth c) {pc : Nat} {L : List (Option Value)} {st : List Value} {M : am_M} {bc bs : Nat} {ps : List Prop} {k' : am_F} (hd : decode τ.2.2.1 pc = .ok (.lrem, 1)) (h : am_ex E τ.1 τ.2.2.2.2.2.2.1 pc L st M bc bs (.lrem) = some (ps, k')) (hp : ∀ q ∈ ps, q) (kk : am_Wc γ τ p l e R s m args below meth c Q k') : am_Wc γ τ p l e R s m args below meth c Q (pc, L, st, M, bc, bs) := by
  obtain ⟨hx, hb, hml, hown, hts, hin, hdec, hKw, hKx, hfr, hlo, hbase⟩ := C
  intro H locs cells slots ls hH hS hL hc hs
  dsimp only at hH hL hc hs ⊢
  simp only [am_ex] at h
  cases st with
  | nil => cases h
  | cons v0 r0 =>
    cases v0 with
    | long y =>
      cases r0 with
      | nil => cases h
      | cons v1 r1 =>
        cases v1 with
        | long x =>
          cases h
          exact lv_lrem hx hb hd (hp _ List.mem_cons_self) (kk H locs cells slots ls hH hS hL hc hs)
        | _ => cases h
    | _ => cases h
set_option maxHeartbeats 4000000 in
theorem am_x_i2l (C : am_Cx γ E τ p R s m args meth c) {pc : Nat} {L : List (Option Value)} {st : List Value} {M : am_M} {bc bs : Nat} {ps : List Prop} {k' : am_F} (hd : decode τ.2.2.1 pc = .ok (.i2l, 1)) (h : am_ex E τ.1 τ.2.2.2.2.2.2.1 pc L st M bc bs (.i2l) = some (ps, k')) (hp : ∀ q ∈ ps, q) (kk : am_Wc γ τ p l e R s m args below meth c Q k') : am_Wc γ τ p l e R s m args below meth c Q (pc, L, st, M, bc, bs) := by
  obtain ⟨hx, hb, hml, hown, hts, hin, hdec, hKw, hKx, hfr, hlo, hbase⟩ := C
  intro H locs cells slots ls hH hS hL hc hs
  dsimp only at hH hL hc hs ⊢
  simp only [am_ex] at h
  cases st with
  | nil => cases h
  | cons v0 r0 =>
    cases v0 with
    | int x =>
      cases h
      exact lv_i2l hx hb hd rfl (kk H locs cells slots ls hH hS hL hc hs)
    | _ => cases h
set_option maxHeartbeats 4000000 in
theorem am_x_lcmp (C : am_Cx γ E τ p R s m args meth c) {pc : Nat} {L : List (Option Value)} {st : List Value} {M : am_M} {bc bs : Nat} {ps : List Prop} {k' : am_F} (hd : decode τ.2.2.1 pc = .ok (.lcmp, 1)) (h : am_ex E τ.1 τ.2.2.2.2.2.2.1 pc L st M bc bs (.lcmp) = some (ps, k')) (hp : ∀ q ∈ ps, q) (kk : am_Wc γ τ p l e R s m args below meth c Q k') : am_Wc γ τ p l e R s m args below meth c Q (pc, L, st, M, bc, bs) := by
  obtain ⟨hx, hb, hml, hown, hts, hin, hdec, hKw, hKx, hfr, hlo, hbase⟩ := C
  intro H locs cells slots ls hH hS hL hc hs
  dsimp only at hH hL hc hs ⊢
  simp only [am_ex] at h
  cases st with
  | nil => cases h
  | cons v0 r0 =>
    cases v0 with
    | long y =>
      cases r0 with
      | nil => cases h
      | cons v1 r1 =>
        cases v1 with
        | long x =>
          cases h
          exact W.lcmp hx hb hd (kk H locs cells slots ls hH hS hL hc hs)
        | _ => cases h
    | _ => cases h
set_option maxHeartbeats 4000000 in
theorem am_x_dup (C : am_Cx γ E τ p R s m args meth c) {pc : Nat} {L : List (Option Value)} {st : List Value} {M : am_M} {bc bs : Nat} {ps : List Prop} {k' : am_F} (hd : decode τ.2.2.1 pc = .ok (.dup, 1)) (h : am_ex E τ.1 τ.2.2.2.2.2.2.1 pc L st M bc bs (.dup) = some (ps, k')) (hp : ∀ q ∈ ps, q) (kk : am_Wc γ τ p l e R s m args below meth c Q k') : am_Wc γ τ p l e R s m args below meth c Q (pc, L, st, M, bc, bs) := by
  obtain ⟨hx, hb, hml, hown, hts, hin, hdec, hKw, hKx, hfr, hlo, hbase⟩ := C
  intro H locs cells slots ls hH hS hL hc hs
  dsimp only at hH hL hc hs ⊢
  simp only [am_ex] at h
  cases st with
  | nil => cases h
  | cons v r =>
    cases v with
    | int x => cases h; exact lv_dup hx hb hd rfl (kk H locs cells slots ls hH hS hL hc hs)
    | ref x => cases h; exact lv_dup hx hb hd rfl (kk H locs cells slots ls hH hS hL hc hs)
    | _ => cases h
set_option maxHeartbeats 4000000 in
theorem am_x_dup2 (C : am_Cx γ E τ p R s m args meth c) {pc : Nat} {L : List (Option Value)} {st : List Value} {M : am_M} {bc bs : Nat} {ps : List Prop} {k' : am_F} (hd : decode τ.2.2.1 pc = .ok (.dup2, 1)) (h : am_ex E τ.1 τ.2.2.2.2.2.2.1 pc L st M bc bs (.dup2) = some (ps, k')) (hp : ∀ q ∈ ps, q) (kk : am_Wc γ τ p l e R s m args below meth c Q k') : am_Wc γ τ p l e R s m args below meth c Q (pc, L, st, M, bc, bs) := by
  obtain ⟨hx, hb, hml, hown, hts, hin, hdec, hKw, hKx, hfr, hlo, hbase⟩ := C
  intro H locs cells slots ls hH hS hL hc hs
  dsimp only at hH hL hc hs ⊢
  simp only [am_ex] at h
  cases st with
  | nil => cases h
  | cons v0 r0 =>
    cases v0 with
    | int x =>
      cases r0 with
      | nil => cases h
      | cons v1 r1 =>
        cases v1 with
        | ref y =>
          cases h
          exact lv_dup2_11 hx hb hd rfl rfl (kk H locs cells slots ls hH hS hL hc hs)
        | _ => cases h
    | _ => cases h
set_option maxHeartbeats 4000000 in
theorem am_x_goto (C : am_Cx γ E τ p R s m args meth c) {pc : Nat} {L : List (Option Value)} {st : List Value} {M : am_M} {bc bs : Nat} {off : Int} {ps : List Prop} {k' : am_F} (hd : decode τ.2.2.1 pc = .ok (.goto off, 3)) (h : am_ex E τ.1 τ.2.2.2.2.2.2.1 pc L st M bc bs (.goto off) = some (ps, k')) (hp : ∀ q ∈ ps, q) (kk : am_Wc γ τ p l e R s m args below meth c Q k') : am_Wc γ τ p l e R s m args below meth c Q (pc, L, st, M, bc, bs) := by
  obtain ⟨hx, hb, hml, hown, hts, hin, hdec, hKw, hKx, hfr, hlo, hbase⟩ := C
  intro H locs cells slots ls hH hS hL hc hs
  dsimp only at hH hL hc hs ⊢
  simp only [am_ex] at h
  cases ht : am_tg pc off with
  | none => rw [ht] at h; cases h
  | some t =>
    rw [ht] at h
    have htg := am_tg_ok ht
    cases h
    exact lv_goto hx hb hd htg (kk H locs cells slots ls hH hS hL hc hs)
theorem am_ifp {α : Type} {q : Prop} [Decidable q] {a b : α} (h : q) : (if q then a else b) = a := if_pos h
theorem am_ifn {α : Type} {q : Prop} [Decidable q] {a b : α} (h : ¬ q) : (if q then a else b) = b := if_neg h
set_option maxHeartbeats 4000000 in
theorem am_x_ifCond (C : am_Cx γ E τ p R s m args meth c) {pc : Nat} {L : List (Option Value)} {st : List Value} {M : am_M} {bc bs : Nat} {k : Jvm.ClassFile.Cond} {off : Int} {ps : List Prop} {k' : am_F} (hd : decode τ.2.2.1 pc = .ok (.ifCond k off, 3)) (h : am_ex E τ.1 τ.2.2.2.2.2.2.1 pc L st M bc bs (.ifCond k off) = some (ps, k')) (hp : ∀ q ∈ ps, q) (kk : am_Wc γ τ p l e R s m args below meth c Q k') : am_Wc γ τ p l e R s m args below meth c Q (pc, L, st, M, bc, bs) := by
  obtain ⟨hx, hb, hml, hown, hts, hin, hdec, hKw, hKx, hfr, hlo, hbase⟩ := C
  intro H locs cells slots ls hH hS hL hc hs
  dsimp only at hH hL hc hs ⊢
  simp only [am_ex] at h
  cases ht : am_tg pc off with
  | none => rw [ht] at h; cases h
  | some t =>
    rw [ht] at h
    have htg := am_tg_ok ht
    cases st with
    | nil => cases h
    | cons v r =>
      cases v with
      | int x =>
        cases k with
        | eq =>
          cases h
          refine lv_if_eq hx hb hd htg (fun hq => ?_) (fun hq => ?_)
          · rw [am_ifp hq] at kk; exact kk H locs cells slots ls hH hS hL hc hs
          · rw [am_ifn hq] at kk; exact kk H locs cells slots ls hH hS hL hc hs
        | ne =>
          cases h
          refine lv_if_ne hx hb hd htg (fun hq => ?_) (fun hq => ?_)
          · rw [am_ifp hq] at kk; exact kk H locs cells slots ls hH hS hL hc hs
          · rw [am_ifn (fun z => z hq)] at kk; exact kk H locs cells slots ls hH hS hL hc hs
        | lt =>
          cases h
          refine lv_if_lt hx hb hd htg (fun hq => ?_) (fun hq => ?_)
          · rw [am_ifp hq] at kk; exact kk H locs cells slots ls hH hS hL hc hs
          · rw [am_ifn hq] at kk; exact kk H locs cells slots ls hH hS hL hc hs
        | ge =>
          cases h
          refine lv_if_ge hx hb hd htg (fun hq => ?_) (fun hq => ?_)
          · rw [am_ifp hq] at kk; exact kk H locs cells slots ls hH hS hL hc hs
          · rw [am_ifn hq] at kk; exact kk H locs cells slots ls hH hS hL hc hs
        | gt =>
          cases h
          refine lv_if_gt hx hb hd htg (fun hq => ?_) (fun hq => ?_)
          · rw [am_ifp hq] at kk; exact kk H locs cells slots ls hH hS hL hc hs
          · rw [am_ifn hq] at kk; exact kk H locs cells slots ls hH hS hL hc hs
        | le =>
          cases h
          refine lv_if_le hx hb hd htg (fun hq => ?_) (fun hq => ?_)
          · rw [am_ifp hq] at kk; exact kk H locs cells slots ls hH hS hL hc hs
          · rw [am_ifn hq] at kk; exact kk H locs cells slots ls hH hS hL hc hs
      | _ => cases h
set_option maxHeartbeats 4000000 in
theorem am_x_if_icmp (C : am_Cx γ E τ p R s m args meth c) {pc : Nat} {L : List (Option Value)} {st : List Value} {M : am_M} {bc bs : Nat} {k : Jvm.ClassFile.Cond} {off : Int} {ps : List Prop} {k' : am_F} (hd : decode τ.2.2.1 pc = .ok (.if_icmp k off, 3)) (h : am_ex E τ.1 τ.2.2.2.2.2.2.1 pc L st M bc bs (.if_icmp k off) = some (ps, k')) (hp : ∀ q ∈ ps, q) (kk : am_Wc γ τ p l e R s m args below meth c Q k') : am_Wc γ τ p l e R s m args below meth c Q (pc, L, st, M, bc, bs) := by
  obtain ⟨hx, hb, hml, hown, hts, hin, hdec, hKw, hKx, hfr, hlo, hbase⟩ := C
  intro H locs cells slots ls hH hS hL hc hs
  dsimp only at hH hL hc hs ⊢
  simp only [am_ex] at h
  cases ht : am_tg pc off with
  | none => rw [ht] at h; cases h
  | some t =>
    rw [ht] at h
    have htg := am_tg_ok ht
    cases st with
    | nil => cases h
    | cons v r =>
      cases v with
      | int y =>
       cases r with
       | nil => cases h
       | cons v2 r =>
       cases v2 with
       | int x =>
        cases k with
        | eq =>
          cases h
          refine lv_icmp_eq hx hb hd htg (fun hq => ?_) (fun hq => ?_)
          · rw [am_ifp hq] at kk; exact kk H locs cells slots ls hH hS hL hc hs
          · rw [am_ifn hq] at kk; exact kk H locs cells slots ls hH hS hL hc hs
        | ne =>
          cases h
          refine lv_icmp_ne hx hb hd htg (fun hq => ?_) (fun hq => ?_)
          · rw [am_ifp hq] at kk; exact kk H locs cells slots ls hH hS hL hc hs
          · rw [am_ifn (fun z => z hq)] at kk; exact kk H locs cells slots ls hH hS hL hc hs
        | lt =>
          cases h
          refine lv_icmp_lt hx hb hd htg (fun hq => ?_) (fun hq => ?_)
          · rw [am_ifp hq] at kk; exact kk H locs cells slots ls hH hS hL hc hs
          · rw [am_ifn hq] at kk; exact kk H locs cells slots ls hH hS hL hc hs
        | ge =>
          cases h
          refine lv_icmp_ge hx hb hd htg (fun hq => ?_) (fun hq => ?_)
          · rw [am_ifp hq] at kk; exact kk H locs cells slots ls hH hS hL hc hs
          · rw [am_ifn hq] at kk; exact kk H locs cells slots ls hH hS hL hc hs
        | gt =>
          cases h
          refine lv_icmp_gt hx hb hd htg (fun hq => ?_) (fun hq => ?_)
          · rw [am_ifp hq] at kk; exact kk H locs cells slots ls hH hS hL hc hs
          · rw [am_ifn hq] at kk; exact kk H locs cells slots ls hH hS hL hc hs
        | le =>
          cases h
          refine lv_icmp_le hx hb hd htg (fun hq => ?_) (fun hq => ?_)
          · rw [am_ifp hq] at kk; exact kk H locs cells slots ls hH hS hL hc hs
          · rw [am_ifn hq] at kk; exact kk H locs cells slots ls hH hS hL hc hs
       | _ => cases h
      | _ => cases h
set_option maxHeartbeats 4000000 in
theorem am_x_ifnull (C : am_Cx γ E τ p R s m args meth c) {pc : Nat} {L : List (Option Value)} {st : List Value} {M : am_M} {bc bs : Nat} {off : Int} {ps : List Prop} {k' : am_F} (hd : decode τ.2.2.1 pc = .ok (.ifnull off, 3)) (h : am_ex E τ.1 τ.2.2.2.2.2.2.1 pc L st M bc bs (.ifnull off) = some (ps, k')) (hp : ∀ q ∈ ps, q) (kk : am_Wc γ τ p l e R s m args below meth c Q k') : am_Wc γ τ p l e R s m args below meth c Q (pc, L, st, M, bc, bs) := by
  obtain ⟨hx, hb, hml, hown, hts, hin, hdec, hKw, hKx, hfr, hlo, hbase⟩ := C
  intro H locs cells slots ls hH hS hL hc hs
  dsimp only at hH hL hc hs ⊢
  simp only [am_ex] at h
  cases ht : am_tg pc off with
  | none => rw [ht] at h; cases h
  | some t =>
    rw [ht] at h
    have htg := am_tg_ok ht
    cases st with
    | nil => cases h
    | cons v r =>
      cases v with
      | ref x => cases h; exact lv_ifnull hx hb hd (kk H locs cells slots ls hH hS hL hc hs)
      | null => cases h; exact lv_ifnullN hx hb hd htg (kk H locs cells slots ls hH hS hL hc hs)
      | _ => cases h
set_option maxHeartbeats 4000000 in
theorem am_x_ifnonnull (C : am_Cx γ E τ p R s m args meth c) {pc : Nat} {L : List (Option Value)} {st : List Value} {M : am_M} {bc bs : Nat} {off : Int} {ps : List Prop} {k' : am_F} (hd : decode τ.2.2.1 pc = .ok (.ifnonnull off, 3)) (h : am_ex E τ.1 τ.2.2.2.2.2.2.1 pc L st M bc bs (.ifnonnull off) = some (ps, k')) (hp : ∀ q ∈ ps, q) (kk : am_Wc γ τ p l e R s m args below meth c Q k') : am_Wc γ τ p l e R s m args below meth c Q (pc, L, st, M, bc, bs) := by
  obtain ⟨hx, hb, hml, hown, hts, hin, hdec, hKw, hKx, hfr, hlo, hbase⟩ := C
  intro H locs cells slots ls hH hS hL hc hs
  dsimp only at hH hL hc hs ⊢
  simp only [am_ex] at h
  cases ht : am_tg pc off with
  | none => rw [ht] at h; cases h
  | some t =>
    rw [ht] at h
    have htg := am_tg_ok ht
    cases st with
    | nil => cases h
    | cons v r =>
      cases v with
      | ref x => cases h; exact lv_ifnonnull hx hb hd htg (kk H locs cells slots ls hH hS hL hc hs)
      | null => cases h; exact lv_ifnonnullN hx hb hd (kk H locs cells slots ls hH hS hL hc hs)
      | _ => cases h
set_option maxHeartbeats 4000000 in
theorem am_x_if_acmp (C : am_Cx γ E τ p R s m args meth c) {pc : Nat} {L : List (Option Value)} {st : List Value} {M : am_M} {bc bs : Nat} {k : Jvm.ClassFile.ACond} {off : Int} {ps : List Prop} {k' : am_F} (hd : decode τ.2.2.1 pc = .ok (.if_acmp k off, 3)) (h : am_ex E τ.1 τ.2.2.2.2.2.2.1 pc L st M bc bs (.if_acmp k off) = some (ps, k')) (hp : ∀ q ∈ ps, q) (kk : am_Wc γ τ p l e R s m args below meth c Q k') : am_Wc γ τ p l e R s m args below meth c Q (pc, L, st, M, bc, bs) := by
  obtain ⟨hx, hb, hml, hown, hts, hin, hdec, hKw, hKx, hfr, hlo, hbase⟩ := C
  intro H locs cells slots ls hH hS hL hc hs
  dsimp only at hH hL hc hs ⊢
  simp only [am_ex] at h
  cases ht : am_tg pc off with
  | none => rw [ht] at h; cases h
  | some t =>
    rw [ht] at h
    have htg := am_tg_ok ht
    cases st with
    | nil => cases h
    | cons v r =>
     cases v with
     | ref y =>
      cases r with
      | nil => cases h
      | cons v2 r =>
      cases v2 with
      | ref x =>
       cases k with
       | eq => cases h
       | ne =>
        simp only at h
        cases hx1 : M.2 x with
        | none => simp only [hx1] at h; cases h
        | some z1 =>
        cases hy1 : M.2 y with
        | none => simp only [hx1, hy1] at h; cases h
        | some z2 =>
        simp only [hx1, hy1] at h
        cases h
        have h1 : x < am_X := Nat.lt_of_lt_of_le (hH.2.2 x z1 hx1).1 hH.2.1
        have h2 : y < am_X := Nat.lt_of_lt_of_le (hH.2.2 y z2 hy1).1 hH.2.1
        refine lv_acmp_ne (rx := some (am_ad γ x)) (ry := some (am_ad γ y)) hx hb hd htg (fun hq => ?_) (fun hq => ?_)
        · have h3 : ¬ x = y := fun z => hq (by rw [z])
          rw [am_ifp h3] at kk; exact kk H locs cells slots ls hH hS hL hc hs
        · have h3 : γ.2.2.1 + x = γ.2.2.1 + y := by rw [← am_ad_lt h1, ← am_ad_lt h2]; exact Option.some.inj hq
          have h4 : x = y := Nat.add_left_cancel h3
          rw [am_ifn (fun z => z h4)] at kk; exact kk H locs cells slots ls hH hS hL hc hs
      | _ => cases h
     | _ => cases h
set_option maxHeartbeats 4000000 in
theorem am_x_tableswitch (C : am_Cx γ E τ p R s m args meth c) {pc : Nat} {L : List (Option Value)} {st : List Value} {M : am_M} {bc bs : Nat} {d lo hi : Int} {offs : Array Int} {len : Nat} {ps : List Prop} {k' : am_F} (hd : decode τ.2.2.1 pc = .ok (.tableswitch d lo hi offs, len)) (h : am_ex E τ.1 τ.2.2.2.2.2.2.1 pc L st M bc bs (.tableswitch d lo hi offs) = some (ps, k')) (hp : ∀ q ∈ ps, q) (kk : am_Wc γ τ p l e R s m args below meth c Q k') : am_Wc γ τ p l e R s m args below meth c Q (pc, L, st, M, bc, bs) := by
  obtain ⟨hx, hb, hml, hown, hts, hin, hdec, hKw, hKx, hfr, hlo, hbase⟩ := C
  intro H locs cells slots ls hH hS hL hc hs
  dsimp only at hH hL hc hs ⊢
  simp only [am_ex] at h
  cases st with
  | nil => cases h
  | cons v r =>
    cases v with
    | int x =>
      cases ht : am_sw pc d lo hi offs x with
      | none => simp only [ht] at h; cases h
      | some t =>
        simp only [ht] at h
        cases h
        unfold am_sw at ht
        by_cases h1 : x.toInt < lo
        · rw [decide_eq_true h1] at ht
          exact lv_tableOut hx hb hd (Or.inl h1) (am_tg_ok ht) (kk H locs cells slots ls hH hS hL hc hs)
        · by_cases h2 : hi < x.toInt
          · rw [decide_eq_true h2, Bool.or_true] at ht
            exact lv_tableOut hx hb hd (Or.inr h2) (am_tg_ok ht) (kk H locs cells slots ls hH hS hL hc hs)
          · rw [decide_eq_false h1, decide_eq_false h2] at ht
            cases ho : offs[(x.toInt - lo).toNat]? with
            | none => simp only [ho] at ht; cases ht
            | some off =>
              simp only [ho] at ht
              exact lv_tableIn hx hb hd h1 h2 ho (am_tg_ok ht) (kk H locs cells slots ls hH hS hL hc hs)
    | _ => cases h
end AMS
end
section
/-! Steps that read, write and make cells. -/
section AMC
variable {p : Program} {l : Launch} {e : Env} {R : Room} {s : State} {m : MethodId} {args : Array Value} {below : List Frame} {meth : Method} {c : Code} {Q : State → Prop} {γ : am_G} {E : am_E} {τ : am_T}
theorem am_one {D : va_G} {cl : List vw_C} {x : Nat × va_E} {H : Heap} (h : va_at D cl x H) : va_P D cl [x] H := fun k q hk => by
  have h0 : k < 1 := (List.getElem?_eq_some_iff.mp hk).1
  rw [show k = 0 by omega] at hk
  cases hk
  exact h
theorem am_getE {fs : List Value} {k : Nat} {v : Value} (h : fs[k]? = some v) : (fs.map (am_v γ))[k]? = some (am_v γ v) := by rw [List.getElem?_map, h]; rfl
set_option maxHeartbeats 4000000 in
theorem am_x_getfield (C : am_Cx γ E τ p R s m args meth c) {pc : Nat} {L : List (Option Value)} {st : List Value} {M : am_M} {bc bs : Nat} {i : Nat} {ps : List Prop} {k' : am_F} (hd : decode τ.2.2.1 pc = .ok (.getfield i, 3)) (h : am_ex E τ.1 τ.2.2.2.2.2.2.1 pc L st M bc bs (.getfield i) = some (ps, k')) (hp : ∀ q ∈ ps, q) (kk : am_Wc γ τ p l e R s m args below meth c Q k') : am_Wc γ τ p l e R s m args below meth c Q (pc, L, st, M, bc, bs) := by
  obtain ⟨hx, hb, hml, hown, hts, hin, hdec, hKw, hKx, hfr, hlo, hbase⟩ := C
  intro H locs cells slots ls hH hS hL hc hs
  dsimp only at hH hL hc hs ⊢
  simp only [am_ex] at h
  cases hf : am_fl τ.1 i with
  | none => rw [hf] at h; cases h
  | some q =>
    obtain ⟨ci, k⟩ := q
    rw [hf] at h
    cases st with
    | nil => cases h
    | cons v r =>
      cases v with
      | ref a =>
        cases hM : M.2 a with
        | none => simp only [hM] at h; cases h
        | some cell =>
          cases cell with
          | inl z => simp only [hM] at h; cases h
          | inr z =>
            obtain ⟨ci', fs⟩ := z
            simp only [hM] at h
            cases he : Nat.beq ci ci' with
            | false => rw [he] at h; cases h
            | true =>
              rw [he] at h
              have e1 : ci = ci' := Nat.eq_of_beq_eq_true he
              subst e1
              cases hv : fs[k]? with
              | none => simp only [hv] at h; cases h
              | some v =>
                simp only [hv] at h
                cases h
                obtain ⟨f1, f2, f3⟩ := am_fl_ok hf
                have hat := (hH.at hM).1
                exact va_get (D := γ.1) (cl := vwCl) (tys := am_tys γ) (ci := ci) (C := (am_Cn ci).1) (T := (am_Cn ci).2.1) (N := (am_Cn ci).2.2) hx hb hts (am_layA f3) hown hKw.1 (am_one hat) 0 rfl (am_vwCl f3) k f2 (hts _ f1) (fun _ h9 => h9) (am_getE hv) hd (kk H locs cells slots ls hH hS hL hc hs)
      | _ => cases h
def am_tyc : FieldType → Nat
  | .int => 0
  | .long => 1
  | .object _ => 2
  | .array _ => 2
  | _ => 9
theorem am_fkA : ∀ ci, ci < 10 → ∀ k, k < (am_Cn ci).2.2 → am_fk ci k = some (am_tyc (am_tyF ci k)) := by decide +kernel
theorem am_fnA : ∀ ci, ci < 10 → ∀ k, k < (am_Cn ci).2.2 → am_fn ci k = ((am_Cn ci).2.1 k).2.2.2 := by decide +kernel
theorem am_dcA : ∀ ci, ci < 10 → ∀ k, k < (am_Cn ci).2.2 → ((am_Cn ci).2.1 k).1 = am_R ci := by decide +kernel
theorem am_fitA {ty : FieldType} {v : Value} (h : am_fit (am_tyc ty) v = true) : narrow ty (am_v γ v) = am_v γ v ∧ fits ty (am_v γ v) = true := by
  cases ty <;> cases v <;> first | exact ⟨rfl, rfl⟩ | (cases h)
theorem am_base {M : am_M} {H : Heap} (h : am_Hp γ M H) {k : Nat} {x : am_C} (hk : M.2 k = some x) : γ.2.2.1 ≤ am_ad γ k := by rw [(h.at hk).2]; exact Nat.le_add_right _ _
set_option maxHeartbeats 4000000 in
theorem am_x_putfield (C : am_Cx γ E τ p R s m args meth c) {pc : Nat} {L : List (Option Value)} {st : List Value} {M : am_M} {bc bs : Nat} {i : Nat} {ps : List Prop} {k' : am_F} (hd : decode τ.2.2.1 pc = .ok (.putfield i, 3)) (h : am_ex E τ.1 τ.2.2.2.2.2.2.1 pc L st M bc bs (.putfield i) = some (ps, k')) (hp : ∀ q ∈ ps, q) (kk : am_Wc γ τ p l e R s m args below meth c Q k') : am_Wc γ τ p l e R s m args below meth c Q (pc, L, st, M, bc, bs) := by
  obtain ⟨hx, hb, hml, hown, hts, hin, hdec, hKw, hKx, hfr, hlo, hbase⟩ := C
  intro H locs cells slots ls hH hS hL hc hs
  dsimp only at hH hL hc hs ⊢
  simp only [am_ex] at h
  cases hf : am_fl τ.1 i with
  | none => rw [hf] at h; cases h
  | some q =>
    obtain ⟨ci, k⟩ := q
    rw [hf] at h
    cases st with
    | nil => cases h
    | cons v r =>
     cases r with
     | nil => cases h
     | cons v2 r =>
      cases v2 with
      | ref a =>
        cases hM : M.2 a with
        | none => simp only [hM] at h; cases h
        | some cell =>
          cases cell with
          | inl z => simp only [hM] at h; cases h
          | inr z =>
            obtain ⟨ci', fs⟩ := z
            simp only [hM] at h
            obtain ⟨f1, f2, f3⟩ := am_fl_ok hf
            rw [show am_fk ci k = some (am_tyc (am_tyF ci k)) from am_fkA ci f3 k f2] at h
            simp only at h
            cases he : (Nat.beq ci ci' && am_fit (am_tyc (am_tyF ci k)) v && Nat.blt k fs.length && (!(am_fn ci k) || (τ.2.2.2.2.2.2.1 && Nat.beq τ.1 ci))) with
            | false => rw [he] at h; cases h
            | true =>
              rw [he] at h
              cases h
              simp only [Bool.and_eq_true, Bool.or_eq_true, Bool.not_eq_true'] at he
              obtain ⟨⟨⟨g1, g2⟩, g3⟩, g4⟩ := he
              have e1 : ci = ci' := Nat.eq_of_beq_eq_true g1
              subst e1
              have hl : k < fs.length := Nat.le_of_ble_eq_true g3
              have hl2 : k < (fs.map (am_v γ)).length := by rw [List.length_map]; exact hl
              obtain ⟨hn, hfit⟩ := am_fitA (γ := γ) g2
              have hap := va_apart (own := am_R τ.1) hts (am_layA f3) (am_tyF ci) (am_tyA f3) (am_nmA f3) hKw.1 (am_vwCl f3)
              obtain ⟨r', h1, cell, q1, q2, q3, q4⟩ := (hH.at hM).1
              have hr : r' = am_Cn ci := Option.some.inj (h1.symm.trans (am_vwCl f3))
              subst hr
              obtain ⟨hSl, hfc, kC, hkC, hkind⟩ := hKw.1.1 ci _ (am_vwCl f3)
              obtain ⟨cf, kf, fi, f, hi, hsl⟩ := hSl k f2
              have hlay := hts _ (am_layA f3 _ (u_in_lay f2))
              have hst := (u_facts hfc hkC (u_lays hts (am_layA f3) f2) hi).1
              have fin : ∀ H' : Heap, H'[am_ad γ a]? = some (cell.setSlot f.slot (am_v γ v)) → H'.size = H.size → (∀ q, q ≠ am_ad γ a → H'[q]? = H[q]?) → W p l e R s m args below meth c H' (locs ++ [⟨am_ad γ a, f.slot⟩]) cells slots Q (F0 m (pc + 3) ls (r.map (am_v γ))) := by
                intro H' e1 e2 e3
                rw [hsl] at e1
                refine kk H' _ cells slots ls (hH.write hM e2 e3 ⟨_, am_vwCl f3, ?_⟩) (hS.put e2 e3 (am_base hH hM)) hL hc hs
                rw [List.map_set]
                exact t_OB.to (V := updV (vp_V (fs.map (am_v γ))) k (am_v γ v)) ⟨_, e1, q2, q3, t_set q4 hap f2 (am_v γ v)⟩ (fun j _ => vp_updV_set hl2 (am_v γ v) j)
              cases hfn : am_fn ci k with
              | false =>
                rw [am_fnA ci f3 k f2] at hfn
                unfold u_lay at hlay
                rw [if_neg (by rw [hfn]; decide)] at hlay
                have h6 := u_store hfc hkC hkind hlay hi (am_tyA f3 k f2) hn hfit
                exact W.putK hx hb (f := f) ⟨hown, hts _ f1, ⟨_, _, _, hi⟩, hst⟩ (by rw [q2]; exact h6) q1 q3 (by rw [hsl]; exact k2_hasslot (q4 k f2)) rfl rfl hd fin
              | true =>
                rw [hfn] at g4
                have g5 : τ.2.2.2.2.2.2.1 = true ∧ Nat.beq τ.1 ci = true := by
                  rcases g4 with z | z
                  · cases z
                  · exact z
                have e2 : τ.1 = ci := Nat.eq_of_beq_eq_true g5.2
                rw [am_fnA ci f3 k f2] at hfn
                unfold u_lay at hlay
                rw [if_pos hfn] at hlay
                have hcf : m.cls = cf := by
                  obtain ⟨_, _, c', _, _, _, -, -, hf', -, -, -, hown2, -⟩ := Cond.laysFinal_spec hlay
                  have e1 : c' = cf := by have := hi.symm.trans hf'; simp at this; exact this.1.symm
                  have hdecl : ((am_Cn ci).2.1 k).1 = am_R τ.1 := by rw [e2]; exact am_dcA ci f3 k f2
                  rw [hdecl] at hown2
                  rw [← e1]; exact Option.some.inj (hown.symm.trans hown2)
                have h6 := u_fits hfc hkC hkind (Or.inr hlay) hi (am_tyA f3 k f2) hn hfit
                exact W.putFinK hx hb hown (hts _ f1) hi hst hcf (hin g5.1) (by rw [q2]; exact h6) q1 q3 (by rw [hsl]; exact k2_hasslot (q4 k f2)) rfl rfl hd fin
      | _ => cases h
set_option maxHeartbeats 4000000 in
theorem am_x_getstatic (C : am_Cx γ E τ p R s m args meth c) {pc : Nat} {L : List (Option Value)} {st : List Value} {M : am_M} {bc bs : Nat} {i : Nat} {ps : List Prop} {k' : am_F} (hd : decode τ.2.2.1 pc = .ok (.getstatic i, 3)) (h : am_ex E τ.1 τ.2.2.2.2.2.2.1 pc L st M bc bs (.getstatic i) = some (ps, k')) (hp : ∀ q ∈ ps, q) (kk : am_Wc γ τ p l e R s m args below meth c Q k') : am_Wc γ τ p l e R s m args below meth c Q (pc, L, st, M, bc, bs) := by
  obtain ⟨hx, hb, hml, hown, hts, hin, hdec, hKw, hKx, hfr, hlo, hbase⟩ := C
  intro H locs cells slots ls hH hS hL hc hs
  dsimp only at hH hL hc hs ⊢
  simp only [am_ex] at h
  cases hf : am_sc τ.1 i with
  | none => rw [hf] at h; cases h
  | some e =>
    rw [hf] at h
    cases h
    obtain ⟨f1, f2, f3⟩ := am_sc_ok hf
    have he : am_v γ (.ref (am_X + e)) = .ref (γ.2.2.2 e) := by
      show Value.ref (am_ad γ (am_X + e)) = _
      unfold am_ad
      rw [if_neg (by omega), Nat.add_sub_cancel_left]
    have k2 := kk H locs cells slots ls hH hS hL hc hs
    rw [List.map_cons, he] at k2
    exact va_gets hx hb (hKx.2 e f2 f3) hS hown (hts _ f1) (fun _ h9 => h9) hd k2
theorem am_arr {kd : Nat} (hKw : am_Kw γ s) (hk : kd ≤ 6) : ArrOfT s (γ.2.1 kd) (am_ty kd) ∧ va_RA s (γ.2.1 kd) (am_ty kd) := by
  rcases (show kd = 0 ∨ kd = 1 ∨ kd = 2 ∨ kd = 3 ∨ kd = 4 ∨ kd = 5 ∨ kd = 6 by omega) with rfl | rfl | rfl | rfl | rfl | rfl | rfl
  · exact hKw.1.2 0 _ rfl
  · exact hKw.1.2 1 _ rfl
  · exact hKw.1.2 2 _ rfl
  · exact hKw.1.2 3 _ rfl
  · exact hKw.1.2 4 _ rfl
  · exact hKw.1.2 5 _ rfl
  · exact hKw.1.2 6 _ rfl
theorem am_ext {a : Nat} (h1 : Nat.ble am_X a = true) (h2 : Nat.blt a (am_X + 4) = true) : a - am_X < 4 ∧ am_v γ (.ref a) = .ref (γ.2.2.2 (a - am_X)) := by
  have h3 := Nat.le_of_ble_eq_true h1
  have h4 : a < am_X + 4 := Nat.le_of_ble_eq_true h2
  refine ⟨by omega, ?_⟩
  show Value.ref (am_ad γ a) = _
  unfold am_ad
  rw [if_neg (by omega)]
set_option maxHeartbeats 4000000 in
theorem am_x_arraylength (C : am_Cx γ E τ p R s m args meth c) {pc : Nat} {L : List (Option Value)} {st : List Value} {M : am_M} {bc bs : Nat} {ps : List Prop} {k' : am_F} (hd : decode τ.2.2.1 pc = .ok (.arraylength, 1)) (h : am_ex E τ.1 τ.2.2.2.2.2.2.1 pc L st M bc bs (.arraylength) = some (ps, k')) (hp : ∀ q ∈ ps, q) (kk : am_Wc γ τ p l e R s m args below meth c Q k') : am_Wc γ τ p l e R s m args below meth c Q (pc, L, st, M, bc, bs) := by
  obtain ⟨hx, hb, hml, hown, hts, hin, hdec, hKw, hKx, hfr, hlo, hbase⟩ := C
  intro H locs cells slots ls hH hS hL hc hs
  dsimp only at hH hL hc hs ⊢
  simp only [am_ex] at h
  cases st with
  | nil => cases h
  | cons v r =>
    cases v with
    | ref a =>
      cases hM : M.2 a with
      | some cell => simp only [hM] at h; cases h
      | none =>
        simp only [hM] at h
        cases he : (Nat.ble am_X a && Nat.blt a (am_X + 4)) with
        | false => rw [he] at h; cases h
        | true =>
          rw [he] at h
          cases h
          simp only [Bool.and_eq_true] at he
          obtain ⟨g1, g2⟩ := am_ext (γ := γ) he.1 he.2
          show W p l e R s m args below meth c H locs cells slots Q (F0 m pc ls (am_v γ (.ref a) :: r.map (am_v γ)))
          rw [g2]
          exact va_tlen hx hb (hKx.1 _ g1) hS rfl hd (kk H locs cells slots ls hH hS hL hc hs)
    | _ => cases h
set_option maxHeartbeats 4000000 in
theorem am_x_iaload (C : am_Cx γ E τ p R s m args meth c) {pc : Nat} {L : List (Option Value)} {st : List Value} {M : am_M} {bc bs : Nat} {ps : List Prop} {k' : am_F} (hd : decode τ.2.2.1 pc = .ok (.iaload, 1)) (h : am_ex E τ.1 τ.2.2.2.2.2.2.1 pc L st M bc bs (.iaload) = some (ps, k')) (hp : ∀ q ∈ ps, q) (kk : am_Wc γ τ p l e R s m args below meth c Q k') : am_Wc γ τ p l e R s m args below meth c Q (pc, L, st, M, bc, bs) := by
  obtain ⟨hx, hb, hml, hown, hts, hin, hdec, hKw, hKx, hfr, hlo, hbase⟩ := C
  intro H locs cells slots ls hH hS hL hc hs
  dsimp only at hH hL hc hs ⊢
  simp only [am_ex] at h
  cases st with
  | nil => cases h
  | cons v r =>
   cases v with
   | int i =>
    cases r with
    | nil => cases h
    | cons v r =>
    cases v with
    | ref a =>
      cases hM : M.2 a with
      | some cell =>
        simp only [hM] at h
        split at h
        · rename_i n f hcell
          cases hcell
          cases h
          exact va_iald (D := γ.1) (cl := vwCl) (tys := am_tys γ) hx hb hKw.1 (am_one (hH.at hM).1) 0 0 rfl rfl (hp _ List.mem_cons_self) hd (kk H locs cells slots ls hH hS hL hc hs)
        · cases h
        · rename_i hcell; cases hcell
      | none =>
        simp only [hM] at h
        cases he : (Nat.ble am_X a && Nat.blt a (am_X + 4)) with
        | false => rw [he] at h; cases h
        | true =>
          rw [he] at h
          cases h
          simp only [Bool.and_eq_true] at he
          obtain ⟨g1, g2⟩ := am_ext (γ := γ) he.1 he.2
          show W p l e R s m args below meth c H locs cells slots Q (F0 m pc ls (.int i :: am_v γ (.ref a) :: r.map (am_v γ)))
          rw [g2]
          exact va_ti hx hb (hKx.1 _ g1) hS (hp _ List.mem_cons_self) rfl hd (kk H locs cells slots ls hH hS hL hc hs)
    | _ => cases h
   | _ => cases h
set_option maxHeartbeats 4000000 in
theorem am_x_baload (C : am_Cx γ E τ p R s m args meth c) {pc : Nat} {L : List (Option Value)} {st : List Value} {M : am_M} {bc bs : Nat} {ps : List Prop} {k' : am_F} (hd : decode τ.2.2.1 pc = .ok (.baload, 1)) (h : am_ex E τ.1 τ.2.2.2.2.2.2.1 pc L st M bc bs (.baload) = some (ps, k')) (hp : ∀ q ∈ ps, q) (kk : am_Wc γ τ p l e R s m args below meth c Q k') : am_Wc γ τ p l e R s m args below meth c Q (pc, L, st, M, bc, bs) := by
  obtain ⟨hx, hb, hml, hown, hts, hin, hdec, hKw, hKx, hfr, hlo, hbase⟩ := C
  intro H locs cells slots ls hH hS hL hc hs
  dsimp only at hH hL hc hs ⊢
  simp only [am_ex] at h
  cases st with
  | nil => cases h
  | cons v r =>
   cases v with
   | int i =>
    cases r with
    | nil => cases h
    | cons v r =>
    cases v with
    | ref a =>
      cases hM : M.2 a with
      | some cell =>
        simp only [hM] at h
        split at h
        · rename_i n f hcell
          cases hcell
          cases h
          exact va_zald (D := γ.1) (cl := vwCl) (tys := am_tys γ) hx hb hKw.1 (am_one (hH.at hM).1) 0 1 rfl rfl (hp _ List.mem_cons_self) hd (kk H locs cells slots ls hH hS hL hc hs)
        · cases h
      | none => simp only [hM] at h; cases h
    | _ => cases h
   | _ => cases h
set_option maxHeartbeats 4000000 in
theorem am_x_laload (C : am_Cx γ E τ p R s m args meth c) {pc : Nat} {L : List (Option Value)} {st : List Value} {M : am_M} {bc bs : Nat} {ps : List Prop} {k' : am_F} (hd : decode τ.2.2.1 pc = .ok (.laload, 1)) (h : am_ex E τ.1 τ.2.2.2.2.2.2.1 pc L st M bc bs (.laload) = some (ps, k')) (hp : ∀ q ∈ ps, q) (kk : am_Wc γ τ p l e R s m args below meth c Q k') : am_Wc γ τ p l e R s m args below meth c Q (pc, L, st, M, bc, bs) := by
  obtain ⟨hx, hb, hml, hown, hts, hin, hdec, hKw, hKx, hfr, hlo, hbase⟩ := C
  intro H locs cells slots ls hH hS hL hc hs
  dsimp only at hH hL hc hs ⊢
  simp only [am_ex] at h
  cases st with
  | nil => cases h
  | cons v r =>
   cases v with
   | int i =>
    cases r with
    | nil => cases h
    | cons v r =>
    cases v with
    | ref a =>
      cases hM : M.2 a with
      | some cell =>
        simp only [hM] at h
        split at h
        · rename_i n f hcell
          cases hcell
          cases h
          exact va_lald (D := γ.1) (cl := vwCl) (tys := am_tys γ) hx hb hKw.1 (am_one (hH.at hM).1) 0 2 rfl rfl (hp _ List.mem_cons_self) hd (kk H locs cells slots ls hH hS hL hc hs)
        · cases h
      | none => simp only [hM] at h; cases h
    | _ => cases h
   | _ => cases h
end AMC
end
section
/-! Steps that write into arrays and make cells. -/
section AMD
variable {p : Program} {l : Launch} {e : Env} {R : Room} {s : State} {m : MethodId} {args : Array Value} {below : List Frame} {meth : Method} {c : Code} {Q : State → Prop} {γ : am_G} {E : am_E} {τ : am_T}
set_option maxHeartbeats 4000000 in
theorem am_x_iastore (C : am_Cx γ E τ p R s m args meth c) {pc : Nat} {L : List (Option Value)} {st : List Value} {M : am_M} {bc bs : Nat} {ps : List Prop} {k' : am_F} (hd : decode τ.2.2.1 pc = .ok (.iastore, 1)) (h : am_ex E τ.1 τ.2.2.2.2.2.2.1 pc L st M bc bs (.iastore) = some (ps, k')) (hp : ∀ q ∈ ps, q) (kk : am_Wc γ τ p l e R s m args below meth c Q k') : am_Wc γ τ p l e R s m args below meth c Q (pc, L, st, M, bc, bs) := by
  obtain ⟨hx, hb, hml, hown, hts, hin, hdec, hKw, hKx, hfr, hlo, hbase⟩ := C
  intro H locs cells slots ls hH hS hL hc hs
  dsimp only at hH hL hc hs ⊢
  simp only [am_ex] at h
  cases st with
  | nil => cases h
  | cons v r =>
   cases v with
   | int x =>
    cases r with
    | nil => cases h
    | cons v r =>
    cases v with
    | int i =>
     cases r with
     | nil => cases h
     | cons v r =>
     cases v with
     | ref a =>
      cases hM : M.2 a with
      | some cell =>
        simp only [hM] at h
        split at h
        · rename_i n f hcell
          cases hcell
          cases h
          have hin := hp _ List.mem_cons_self
          have hat := (hH.at hM).1
          refine W.iast hx hb hat ((am_arr hKw (kd := 0) (by decide)).1 n (fun j => .int (f j))) (fun q => by cases q) (by show ¬ (i < 0 ∨ (arrV _ _ _).slots.size ≤ _); rw [arrV_size]; exact hin) rfl rfl hd fun H1 e1 z oq => ?_
          refine kk H1 _ cells slots ls (hH.write hM z oq ?_) (hS.put z oq (am_base hH hM)) hL hc hs
          show H1[am_ad γ a]? = some (vp_cell _ _)
          rw [e1]
          show some (Cell.setSlot (arrV (γ.2.1 0) n (fun j => .int (f j))) i.toNatClampNeg (.int x)) = some (arrV (γ.2.1 0) n (fun j => .int (upd f i.toNatClampNeg x j)))
          rw [arrV_store]
          congr 2
          funext q
          by_cases hq : q = i.toNatClampNeg
          · subst hq
            simp [updV, upd]
          · simp [updV, upd, hq]
        · cases h
      | none => simp only [hM] at h; cases h
     | _ => cases h
    | _ => cases h
   | _ => cases h
set_option maxHeartbeats 4000000 in
theorem am_x_bastore (C : am_Cx γ E τ p R s m args meth c) {pc : Nat} {L : List (Option Value)} {st : List Value} {M : am_M} {bc bs : Nat} {ps : List Prop} {k' : am_F} (hd : decode τ.2.2.1 pc = .ok (.bastore, 1)) (h : am_ex E τ.1 τ.2.2.2.2.2.2.1 pc L st M bc bs (.bastore) = some (ps, k')) (hp : ∀ q ∈ ps, q) (kk : am_Wc γ τ p l e R s m args below meth c Q k') : am_Wc γ τ p l e R s m args below meth c Q (pc, L, st, M, bc, bs) := by
  obtain ⟨hx, hb, hml, hown, hts, hin, hdec, hKw, hKx, hfr, hlo, hbase⟩ := C
  intro H locs cells slots ls hH hS hL hc hs
  dsimp only at hH hL hc hs ⊢
  simp only [am_ex] at h
  cases st with
  | nil => cases h
  | cons v r =>
   cases v with
   | int x =>
    cases r with
    | nil => cases h
    | cons v r =>
    cases v with
    | int i =>
     cases r with
     | nil => cases h
     | cons v r =>
     cases v with
     | ref a =>
      cases hM : M.2 a with
      | some cell =>
        simp only [hM] at h
        split at h
        · rename_i n f hcell
          cases hcell
          cases h
          have hin := hp _ List.mem_cons_self
          have hat := (hH.at hM).1
          refine W.zast hx hb hat ((am_arr hKw (kd := 1) (by decide)).1 n (fun j => .int (f j))) (fun q => by cases q) (by show ¬ (i < 0 ∨ (arrV _ _ _).slots.size ≤ _); rw [arrV_size]; exact hin) rfl rfl hd fun H1 e1 z oq => ?_
          refine kk H1 _ cells slots ls (hH.write hM z oq ?_) (hS.put z oq (am_base hH hM)) hL hc hs
          show H1[am_ad γ a]? = some (vp_cell _ _)
          rw [e1]
          show some (Cell.setSlot (arrV (γ.2.1 1) n (fun j => .int (f j))) i.toNatClampNeg (narrow .boolean (.int x))) = some (arrV (γ.2.1 1) n (fun j => .int (upd f i.toNatClampNeg (vp_nar .boolean x) j)))
          rw [arrV_store]
          congr 2
          funext q
          by_cases hq : q = i.toNatClampNeg
          · subst hq
            simp [updV, upd]
            rfl
          · simp [updV, upd, hq]
        · cases h
      | none => simp only [hM] at h; cases h
     | _ => cases h
    | _ => cases h
   | _ => cases h
set_option maxHeartbeats 4000000 in
theorem am_x_lastore (C : am_Cx γ E τ p R s m args meth c) {pc : Nat} {L : List (Option Value)} {st : List Value} {M : am_M} {bc bs : Nat} {ps : List Prop} {k' : am_F} (hd : decode τ.2.2.1 pc = .ok (.lastore, 1)) (h : am_ex E τ.1 τ.2.2.2.2.2.2.1 pc L st M bc bs (.lastore) = some (ps, k')) (hp : ∀ q ∈ ps, q) (kk : am_Wc γ τ p l e R s m args below meth c Q k') : am_Wc γ τ p l e R s m args below meth c Q (pc, L, st, M, bc, bs) := by
  obtain ⟨hx, hb, hml, hown, hts, hin, hdec, hKw, hKx, hfr, hlo, hbase⟩ := C
  intro H locs cells slots ls hH hS hL hc hs
  dsimp only at hH hL hc hs ⊢
  simp only [am_ex] at h
  cases st with
  | nil => cases h
  | cons v r =>
   cases v with
   | long x =>
    cases r with
    | nil => cases h
    | cons v r =>
    cases v with
    | int i =>
     cases r with
     | nil => cases h
     | cons v r =>
     cases v with
     | ref a =>
      cases hM : M.2 a with
      | some cell =>
        simp only [hM] at h
        split at h
        · rename_i n f hcell
          cases hcell
          cases h
          have hin := hp _ List.mem_cons_self
          have hat := (hH.at hM).1
          refine W.last hx hb hat ((am_arr hKw (kd := 2) (by decide)).1 n (fun j => .long (f j))) (fun q => by cases q) (by show ¬ (i < 0 ∨ (arrV _ _ _).slots.size ≤ _); rw [arrV_size]; exact hin) rfl rfl hd fun H1 e1 z oq => ?_
          refine kk H1 _ cells slots ls (hH.write hM z oq ?_) (hS.put z oq (am_base hH hM)) hL hc hs
          show H1[am_ad γ a]? = some (vp_cell _ _)
          rw [e1]
          show some (Cell.setSlot (arrV (γ.2.1 2) n (fun j => .long (f j))) i.toNatClampNeg (.long x)) = some (arrV (γ.2.1 2) n (fun j => .long (vp_updL f i.toNatClampNeg x j)))
          rw [arrV_store]
          congr 2
          funext q
          by_cases hq : q = i.toNatClampNeg
          · subst hq
            simp [updV, vp_updL]
          · simp [updV, vp_updL, hq]
        · cases h
      | none => simp only [hM] at h; cases h
     | _ => cases h
    | _ => cases h
   | _ => cases h
set_option maxHeartbeats 4000000 in
theorem am_x_aastore (C : am_Cx γ E τ p R s m args meth c) {pc : Nat} {L : List (Option Value)} {st : List Value} {M : am_M} {bc bs : Nat} {ps : List Prop} {k' : am_F} (hd : decode τ.2.2.1 pc = .ok (.aastore, 1)) (h : am_ex E τ.1 τ.2.2.2.2.2.2.1 pc L st M bc bs (.aastore) = some (ps, k')) (hp : ∀ q ∈ ps, q) (kk : am_Wc γ τ p l e R s m args below meth c Q k') : am_Wc γ τ p l e R s m args below meth c Q (pc, L, st, M, bc, bs) := by
  obtain ⟨hx, hb, hml, hown, hts, hin, hdec, hKw, hKx, hfr, hlo, hbase⟩ := C
  intro H locs cells slots ls hH hS hL hc hs
  dsimp only at hH hL hc hs ⊢
  simp only [am_ex] at h
  cases st with
  | nil => cases h
  | cons v r =>
   cases v with
   | ref w =>
    cases r with
    | nil => cases h
    | cons v r =>
    cases v with
    | int i =>
     cases r with
     | nil => cases h
     | cons v r =>
     cases v with
     | ref a =>
      simp only at h
      split at h
      · rename_i kd n f ci vs hM hV
        cases hk : (Nat.beq (am_kd ci) kd && Nat.ble kd 5) with
        | false => rw [hk] at h; cases h
        | true =>
          rw [hk] at h
          cases h
          have hin := hp _ List.mem_cons_self
          have hlt : i.toNatClampNeg < n := Nat.not_le.mp fun q => hin (Or.inr q)
          have h0 : ¬ i < 0 := fun q => hin (Or.inl q)
          have hat := (hH.at hM).1
          obtain ⟨r', hr', cellV, g1, g2, g3, -⟩ := (hH.at hV).1
          have hci : ci < 10 := by
            have := (List.getElem?_eq_some_iff.mp hr').1
            exact this
          simp only [Bool.and_eq_true] at hk
          have ek : am_kd ci = kd := Nat.eq_of_beq_eq_true hk.1
          have e5 : kd ≤ 5 := Nat.le_of_ble_eq_true hk.2
          have hkd : kd ≤ 5 ∧ am_ty kd = .object (am_R ci) ∨ am_kd ci = 99 := by
            rw [← ek]
            rcases (show ci = 0 ∨ ci = 1 ∨ ci = 2 ∨ ci = 3 ∨ ci = 4 ∨ ci = 5 ∨ ci = 6 ∨ ci = 7 ∨ ci = 8 ∨ ci = 9 by omega) with rfl | rfl | rfl | rfl | rfl | rfl | rfl | rfl | rfl | rfl
            · exact Or.inl ⟨by decide, rfl⟩
            · exact Or.inr rfl
            · exact Or.inr rfl
            · exact Or.inl ⟨by decide, rfl⟩
            · exact Or.inr rfl
            · exact Or.inr rfl
            · exact Or.inr rfl
            · exact Or.inl ⟨by decide, rfl⟩
            · exact Or.inr rfl
            · exact Or.inr rfl
          have hcls := (hKw.1.1 ci _ (am_vwCl hci)).2
          rw [am_vwCn hci] at hcls
          have hkd2 : kd ≤ 6 ∧ am_ty kd = .object (am_R ci) := by
            rcases hkd with z | z
            · exact ⟨by omega, z.2⟩
            · exfalso
              omega
          have hra := (am_arr hKw hkd2.1).2
          rw [hkd2.2] at hra
          obtain ⟨kA, comp, k1, k2, k3, -⟩ := hra
          have hcomp : comp = γ.1.1 ci := Option.some.inj (k3.symm.trans hcls.1)
          subst hcomp
          obtain ⟨kC, hkC, hkk⟩ := hcls.2
          refine W.aast hx hb hat (fun q h => by cases h) (fun h => by cases h) k1 k2 rfl hkC ⟨h0, by show _ < (arrV _ _ _).slots.size; rw [arrV_size]; exact hlt⟩ g1 (fun q h => by rw [g3] at h; cases h) (by rw [g2]; exact hkC) (by rw [g2]; exact va_assign hcls) rfl rfl hd fun H1 e1 z oq => ?_
          refine kk H1 _ cells slots ls (hH.write hM z oq ?_) (hS.put z oq (am_base hH hM)) hL hc hs
          show H1[am_ad γ a]? = some (vp_cell _ _)
          rw [e1]
          show some (Cell.setSlot (arrV (γ.2.1 kd) n (fun j => va_rf ((f j).map (am_ad γ)))) i.toNatClampNeg (.ref (am_ad γ w))) = some (arrV (γ.2.1 kd) n (fun j => va_rf ((va_up f i.toNatClampNeg (some w) j).map (am_ad γ))))
          rw [arrV_store]
          congr 2
          funext q
          by_cases hq : q = i.toNatClampNeg
          · subst hq
            simp [updV, va_up, va_rf]
          · simp [updV, va_up, hq]
      · cases h
     | _ => cases h
    | _ => cases h
   | _ => cases h
theorem am_tyc9 : ∀ ci, ci < 10 → ∀ j, j < (am_Cn ci).2.2 → am_tyc (am_tyF ci j) ≠ 9 := by decide +kernel
theorem am_defA : ∀ ci, ci < 10 → ∀ j, j < (am_Cn ci).2.2 → defaultValue (am_tyF ci j) = vp_V ((am_def ci).map (am_v γ)) j := by
  intro ci h1 j h2
  have h3 := am_fkA ci h1 j h2
  unfold am_fk at h3
  unfold vp_V am_def
  rw [List.map_map, List.getD_eq_getElem?_getD, List.getElem?_map, h3]
  show _ = am_v γ (am_dv (am_tyc (am_tyF ci j)))
  have h4 := am_tyA h1 j h2
  have h5 : am_tyc (am_tyF ci j) ≠ 9 := am_tyc9 ci h1 j h2
  revert h5
  cases am_tyF ci j <;> intro h5 <;> first | rfl | exact absurd rfl h5
set_option maxHeartbeats 4000000 in
theorem am_x_new (C : am_Cx γ E τ p R s m args meth c) {pc : Nat} {L : List (Option Value)} {st : List Value} {M : am_M} {bc bs : Nat} {i : Nat} {ps : List Prop} {k' : am_F} (hd : decode τ.2.2.1 pc = .ok (.new i, 3)) (h : am_ex E τ.1 τ.2.2.2.2.2.2.1 pc L st M bc bs (.new i) = some (ps, k')) (hp : ∀ q ∈ ps, q) (kk : am_Wc γ τ p l e R s m args below meth c Q k') : am_Wc γ τ p l e R s m args below meth c Q (pc, L, st, M, bc, bs) := by
  obtain ⟨hx, hb, hml, hown, hts, hin, hdec, hKw, hKx, hfr, hlo, hbase⟩ := C
  intro H locs cells slots ls hH hS hL hc hs
  dsimp only at hH hL hc hs ⊢
  simp only [am_ex] at h
  cases hf : am_nc τ.1 i with
  | none => rw [hf] at h; cases h
  | some ci =>
    rw [hf] at h
    cases h
    obtain ⟨f1, f2, f3, f4⟩ := am_nc_ok hf
    have p1 : 1 ≤ bc := hp _ List.mem_cons_self
    have p2 : (am_Cn ci).2.2 ≤ bs := hp _ (List.mem_cons_of_mem _ List.mem_cons_self)
    have p3 : M.1 < am_X := hp _ (List.mem_cons_of_mem _ (List.mem_cons_of_mem _ List.mem_cons_self))
    have hKn := hKw.1.1 ci _ (am_vwCl f4)
    rw [← am_vwCn f4] at f1 f2 f3
    refine W.newcK hx hb hown (hts _ f1) (hts _ f2) (hts _ f3) rfl hd (by omega) (by omega) hKn.2.1 rfl fun H1 kC hkC e1 z1 o1 => ?_
    have k2 := kk H1 locs (cells + 1) (slots + (am_Cn ci).2.2) ls (hH.make p3 z1 o1 ⟨_, am_vwCl f4, (u_born (am_tyF ci) hts (am_layA f4) hKn hkC e1 (am_tyA f4)).to (fun j hj => am_defA ci f4 j hj)⟩) ⟨by rw [z1]; exact Nat.le_succ_of_le hS.1, fun x h1 h2 => (o1 x (Nat.lt_of_lt_of_le h1 hS.1)).trans (hS.2.1 x h1 h2), hS.2.2⟩ hL (by show cells + 1 + (bc - 1) ≤ _; omega) (by show slots + _ + (bs - _) ≤ _; omega)
    rw [List.map_cons] at k2
    rw [show am_v γ (.ref M.1) = .ref H.size from by rw [hH.new_ad p3]; rfl] at k2
    exact k2
end AMD
end
section
/-! New arrays; Object's constructor, Math, arraycopy. -/
section AMF
variable {p : Program} {l : Launch} {e : Env} {R : Room} {s : State} {m : MethodId} {args : Array Value} {below : List Frame} {meth : Method} {c : Code} {Q : State → Prop} {γ : am_G} {E : am_E} {τ : am_T}
theorem am_i1 {α : Type} {a : α} {l : List α} : a ∈ a :: l := List.mem_cons_self
theorem am_i2 {α : Type} {a b : α} {l : List α} : a ∈ b :: a :: l := List.mem_cons_of_mem _ am_i1
theorem am_i3 {α : Type} {a b d : α} {l : List α} : a ∈ b :: d :: a :: l := List.mem_cons_of_mem _ am_i2
theorem am_i4 {α : Type} {a b d f : α} {l : List α} : a ∈ b :: d :: f :: a :: l := List.mem_cons_of_mem _ am_i3
theorem am_i5 {α : Type} {a b d f g : α} {l : List α} : a ∈ b :: d :: f :: g :: a :: l := List.mem_cons_of_mem _ am_i4
theorem am_i6 {α : Type} {a b d f g h : α} {l : List α} : a ∈ b :: d :: f :: g :: h :: a :: l := List.mem_cons_of_mem _ am_i5
theorem am_i7 {α : Type} {a b d f g h k : α} {l : List α} : a ∈ b :: d :: f :: g :: h :: k :: a :: l := List.mem_cons_of_mem _ am_i6
set_option maxHeartbeats 4000000 in
theorem am_x_newarray (C : am_Cx γ E τ p R s m args meth c) {pc : Nat} {L : List (Option Value)} {st : List Value} {M : am_M} {bc bs : Nat} {t : Jvm.ClassFile.ArrayType} {ps : List Prop} {k' : am_F} (hd : decode τ.2.2.1 pc = .ok (.newarray t, 2)) (h : am_ex E τ.1 τ.2.2.2.2.2.2.1 pc L st M bc bs (.newarray t) = some (ps, k')) (hp : ∀ q ∈ ps, q) (kk : am_Wc γ τ p l e R s m args below meth c Q k') : am_Wc γ τ p l e R s m args below meth c Q (pc, L, st, M, bc, bs) := by
  obtain ⟨hx, hb, hml, hown, hts, hin, hdec, hKw, hKx, hfr, hlo, hbase⟩ := C
  intro H locs cells slots ls hH hS hL hc hs
  dsimp only at hH hL hc hs ⊢
  simp only [am_ex] at h
  have key : ∀ (kd : Nat) (a0 : ((Nat → Int32) ⊕ (Nat → Int64) ⊕ (Nat → UInt32) ⊕ (Nat → UInt64) ⊕ (Nat → Option Nat))) (n : Int32) (r : List Value), st = .int n :: r → kd ≤ 6 → (Cond.arrayClass (newarray.typeOf t)) ∈ am_ws → componentBytes (newarray.typeOf t) ≤ 8 → s.vm.findClass ("[" ++ (newarray.typeOf t).toString) = some (γ.2.1 kd) → (∀ N, vp_cell (γ.2.1 kd) (am_ar γ (N, a0)) = arrV (γ.2.1 kd) N (fun _ => defaultValue (newarray.typeOf t))) →
      (some ([¬ n < 0, n.toNatClampNeg ≤ 67108864, 1 ≤ bc, n.toNatClampNeg ≤ bs, M.1 < am_X], pc + 2, L, .ref M.1 :: r, am_mk M (.inl (kd, n.toNatClampNeg, a0)), bc - 1, bs - n.toNatClampNeg) : am_R1) = some (ps, k') → W p l e R s m args below meth c H locs cells slots Q (F0 m pc ls (st.map (am_v γ))) := by
    intro kd a0 n r hst hk hw hcb hfc hcell h9
    subst hst
    cases h9
    have p1 : ¬ n < 0 := hp _ am_i1
    have p2 : n.toNatClampNeg ≤ 67108864 := hp _ am_i2
    have p3 : 1 ≤ bc := hp _ am_i3
    have p4 : n.toNatClampNeg ≤ bs := hp _ am_i4
    have p5 : M.1 < am_X := hp _ am_i5
    refine va_newaK hx hb (hts _ hw) rfl hd rfl p1 rfl (Nat.le_trans (Nat.mul_le_mul p2 hcb) (by decide)) (by omega) (by omega) rfl fun H1 cA e1 z1 o1 hAr hNm => ?_
    have hcA : cA = γ.2.1 kd := Option.some.inj (hNm.symm.trans hfc)
    subst hcA
    have k2 := kk H1 locs (cells + 1) (slots + n.toNatClampNeg) ls (hH.make p5 z1 o1 (by show H1[H.size]? = some (vp_cell (γ.2.1 kd) (am_ar γ (n.toNatClampNeg, a0))); rw [hcell]; exact e1)) ⟨by rw [z1]; exact Nat.le_succ_of_le hS.1, fun x h1 h2 => (o1 x (Nat.lt_of_lt_of_le h1 hS.1)).trans (hS.2.1 x h1 h2), hS.2.2⟩ hL (by show cells + 1 + (bc - 1) ≤ _; omega) (by show slots + _ + (bs - _) ≤ _; omega)
    rw [List.map_cons] at k2
    rw [show am_v γ (.ref M.1) = .ref H.size from by rw [hH.new_ad p5]; rfl] at k2
    exact k2
  cases st with
  | nil => cases t <;> cases h
  | cons v r =>
    cases v with
    | int n =>
      cases t with
      | int => exact key 0 _ n r rfl (by decide) am_g3 (by decide) (am_arr hKw (kd := 0) (by decide)).2 (fun N => rfl) h
      | boolean => exact key 1 _ n r rfl (by decide) am_g2 (by decide) (am_arr hKw (kd := 1) (by decide)).2 (fun N => rfl) h
      | long => exact key 2 _ n r rfl (by decide) am_g4 (by decide) (am_arr hKw (kd := 2) (by decide)).2 (fun N => rfl) h
      | _ => cases h
    | _ => cases t <;> cases h
set_option maxHeartbeats 4000000 in
theorem am_x_anewarray (C : am_Cx γ E τ p R s m args meth c) {pc : Nat} {L : List (Option Value)} {st : List Value} {M : am_M} {bc bs : Nat} {i : Nat} {ps : List Prop} {k' : am_F} (hd : decode τ.2.2.1 pc = .ok (.anewarray i, 3)) (h : am_ex E τ.1 τ.2.2.2.2.2.2.1 pc L st M bc bs (.anewarray i) = some (ps, k')) (hp : ∀ q ∈ ps, q) (kk : am_Wc γ τ p l e R s m args below meth c Q k') : am_Wc γ τ p l e R s m args below meth c Q (pc, L, st, M, bc, bs) := by
  obtain ⟨hx, hb, hml, hown, hts, hin, hdec, hKw, hKx, hfr, hlo, hbase⟩ := C
  intro H locs cells slots ls hH hS hL hc hs
  dsimp only at hH hL hc hs ⊢
  simp only [am_ex] at h
  cases hf : am_nc τ.1 i with
  | none => rw [hf] at h; cases h
  | some ci =>
    rw [hf] at h
    cases st with
    | nil => cases h
    | cons v r =>
      cases v with
      | int n =>
        simp only at h
        cases hk : Nat.ble (am_kd ci) 5 with
        | false => rw [hk] at h; cases h
        | true =>
          rw [hk] at h
          cases h
          have p1 : ¬ n < 0 := hp _ am_i1
          have p2 : n.toNatClampNeg ≤ 67108864 := hp _ am_i2
          have p3 : 1 ≤ bc := hp _ am_i3
          have p4 : n.toNatClampNeg ≤ bs := hp _ am_i4
          have p5 : M.1 < am_X := hp _ am_i5
          obtain ⟨f1, f2, f3, f4⟩ := am_nc_ok hf
          have k5 : am_kd ci ≤ 5 := Nat.le_of_ble_eq_true hk
          have hty : am_ty (am_kd ci) = .object (am_R ci) ∧ va_AO (am_R ci) s := by
            rcases (show ci = 0 ∨ ci = 1 ∨ ci = 2 ∨ ci = 3 ∨ ci = 4 ∨ ci = 5 ∨ ci = 6 ∨ ci = 7 ∨ ci = 8 ∨ ci = 9 by omega) with rfl | rfl | rfl | rfl | rfl | rfl | rfl | rfl | rfl | rfl
            · exact ⟨rfl, hKw.2.2.1⟩
            · cases hk
            · cases hk
            · exact ⟨rfl, hKw.2.2.2.1⟩
            · cases hk
            · cases hk
            · cases hk
            · exact ⟨rfl, hKw.2.2.2.2.1⟩
            · cases hk
            · cases hk
          have hra := (am_arr hKw (kd := am_kd ci) (by omega)).2
          rw [hty.1] at hra
          obtain ⟨kA', comp', -, -, -, k4⟩ := hra
          refine W.anew hx hb hown (hts _ f1) (va_AO.use hty.2) rfl hd rfl p1 (Nat.le_trans (Nat.mul_le_mul p2 (Nat.le_refl 4)) (by decide)) (by omega) (by omega) fun cA kA comp g1 g2 g3 g4 => ?_
          have hcA : cA = γ.2.1 (am_kd ci) := Option.some.inj (g1.symm.trans k4)
          subst hcA
          generalize hH1 : H.push ({ cls := γ.2.1 (am_kd ci), slots := Array.replicate n.toNatClampNeg .null, vm := .none } : Cell) = H1
          have z1 : H1.size = H.size + 1 := by rw [← hH1, Array.size_push]
          have e1 : H1[H.size]? = some (arrV (γ.2.1 (am_kd ci)) n.toNatClampNeg (fun _ => .null)) := by rw [← hH1, Array.getElem?_push_size, ← arrV_new]
          have o1 : ∀ q : Nat, q < H.size → H1[q]? = H[q]? := fun q hq => by rw [← hH1, Array.getElem?_push, if_neg (Nat.ne_of_lt hq)]
          have k2 := kk H1 locs (cells + 1) (slots + n.toNatClampNeg) ls (hH.make p5 z1 o1 e1) ⟨by rw [z1]; exact Nat.le_succ_of_le hS.1, fun x h1 h2 => (o1 x (Nat.lt_of_lt_of_le h1 hS.1)).trans (hS.2.1 x h1 h2), hS.2.2⟩ hL (by show cells + 1 + (bc - 1) ≤ _; omega) (by show slots + _ + (bs - _) ≤ _; omega)
          rw [List.map_cons] at k2
          rw [show am_v γ (.ref M.1) = .ref H.size from by rw [hH.new_ad p5]; rfl] at k2
          exact k2
      | _ => cases h
set_option maxHeartbeats 4000000 in
theorem am_x_invokespecial (C : am_Cx γ E τ p R s m args meth c) {pc : Nat} {L : List (Option Value)} {st : List Value} {M : am_M} {bc bs : Nat} {i : Nat} {ps : List Prop} {k' : am_F} (hd : decode τ.2.2.1 pc = .ok (.invokespecial i, 3)) (h : am_ex E τ.1 τ.2.2.2.2.2.2.1 pc L st M bc bs (.invokespecial i) = some (ps, k')) (hp : ∀ q ∈ ps, q) (kk : am_Wc γ τ p l e R s m args below meth c Q k') : am_Wc γ τ p l e R s m args below meth c Q (pc, L, st, M, bc, bs) := by
  obtain ⟨hx, hb, hml, hown, hts, hin, hdec, hKw, hKx, hfr, hlo, hbase⟩ := C
  intro H locs cells slots ls hH hS hL hc hs
  dsimp only at hH hL hc hs ⊢
  simp only [am_ex] at h
  split at h
  · rename_i a r hbi
    cases h
    have hw := am_bi_ok hbi
    have hcs : am_cs r ≤ 8 := hp _ am_i1
    rw [← am_cs_map γ] at hcs
    exact W.objInit hx hb hown (hts _ hw) (hts _ am_g0) (hts _ am_g1) rfl (by rw [hml]; exact hL.1) rfl hd hfr (by show 2 * 0 + (am_cs (r.map (am_v γ))) + 12 ≤ R.locals; omega) (kk H locs cells slots ls hH hS hL hc hs)
  · cases h
set_option maxHeartbeats 4000000 in
theorem am_copy {cc : ByteArray} {H : Heap} {locs : List Loc} {cells slots pc : Nat} {ls : Array Slot} {rest : List Value} (hexec : p.tables.exec = Jvm.exec) (hb : c.code = cc) (hml : c.maxLocals = ls.size) {own : String} {index : Nat} (hown : s.vm.findClass own = some m.cls) (hlink : (Cond.methodLink own index arraycopyName).before args s = true) (hnat : (Cond.native arraycopyName).before args s = true) (hstat : (Cond.static arraycopyName).before args s = true) (hini : (Cond.initialized "java/lang/System").before args s = true)
    {a0 a : Nat} {c0 : ClassId} {n0 n1 : Nat} {f g : Nat → Int32} (hA : ArrOfT s c0 .int) (hc0 : H[a0]? = some (vp_cell c0 (n0, .inl f))) (hc1 : H[a]? = some (vp_cell c0 (n1, .inl g)))
    {sp dp n : Int32} (h1 : ¬ sp < 0) (h2 : ¬ dp < 0) (h3 : ¬ n < 0) (h4 : sp.toNatClampNeg + n.toNatClampNeg ≤ n0) (h5 : dp.toNatClampNeg + n.toNatClampNeg ≤ n1)
    (hframes : 1 ≤ R.frames) (hlocals : (rest.map fun v => v.category).sum + (nativeFrameWords "java/lang/System" "arraycopy" 5 + 11) ≤ R.locals) (hdg : decode cc pc = .ok (.invokestatic index, 3))
    (kk : ∀ (H1 : Heap) (locs1 : List Loc), H1[a]? = some (vp_cell c0 (n1, .inl (va_cpy f g sp.toNatClampNeg dp.toNatClampNeg n.toNatClampNeg))) → H1.size = H.size → (∀ q : Nat, q ≠ a → H1[q]? = H[q]?) → (∀ q ∈ locs1, q ∈ locs ∨ q.base = a) → W p l e R s m args below meth c H1 locs1 cells slots Q (F0 m (pc + 3) ls rest)) : W p l e R s m args below meth c H locs cells slots Q (F0 m pc ls (.int n :: .int dp :: .ref a :: .int sp :: .ref a0 :: rest)) := by
  have nn : ∀ z : Int32, ¬ z < 0 → z.toInt = (z.toNatClampNeg : Int) := by
    intro z hz
    have hz0 : (0 : Int) ≤ z.toInt := by
      have := Int32.not_lt.mp hz
      simpa using Int32.le_iff_toInt_le.mp this
    show z.toInt = ((z.toInt.toNat : Nat) : Int)
    omega
  intro T hT X
  obtain ⟨-, k0, hk0, cm0, hkk0⟩ := hA n0 (fun j => .int (f j))
  obtain ⟨-, k1, hk1, cm1, hkk1⟩ := hA n1 (fun j => .int (g j))
  obtain ⟨vm', X', step⟩ := X.arraycopy hexec hown hlink hnat hstat hini (src := a0) (dst := a) (cs := vp_cell c0 (n0, .inl f)) (cd := vp_cell c0 (n1, .inl g)) (srcPos := sp) (destPos := dp) (n := n) (by rw [hT]; exact hc0) (by rw [hT]; exact hc1)
    (fun _ h => by cases h) (fun _ h => by cases h) (fun h => by cases h) (fun h => by cases h) hk0 hk1 hkk0 hkk1 rfl h1 h2 h3
    (by rw [nn sp h1, nn n h3]; show ¬ _ > ((arrV c0 n0 (fun j => .int (f j))).slots.size : Int); rw [arrV_size]; omega)
    (by rw [nn dp h2, nn n h3]; show ¬ _ > ((arrV c0 n1 (fun j => .int (g j))).slots.size : Int); rw [arrV_size]; omega)
    (fun vm₁ _ i hi => by
      have e : (vp_cell c0 (n0, .inl f)).slots.getD (sp.toNatClampNeg + i) .null = .int (f (sp.toNatClampNeg + i)) := by
        show (arrV c0 n0 (fun j => .int (f j))).slots.getD _ _ = _
        rw [Array.getD_eq_getD_getElem?, arrV_read _ _ (by omega)]
        rfl
      rw [e]
      exact ⟨rfl, trivial⟩)
    (g := F0 m pc ls (.int n :: .int dp :: .ref a :: .int sp :: .ref a0 :: rest)) rfl (by rw [hml]) (rest := rest) rfl (by rw [hb]; exact hdg) hframes (by show 2 * 0 + _ + _ ≤ _; omega)
  have e1 : copied (vp_cell c0 (n0, .inl f)) (vp_cell c0 (n1, .inl g)) sp dp n = vp_cell c0 (n1, .inl (va_cpy f g sp.toNatClampNeg dp.toNatClampNeg n.toNatClampNeg)) := va_copied (fun z => .int z) c0 c0 f g h4
  rw [e1] at X' step
  have hl : a < H.size := (Array.getElem?_eq_some_iff.mp hc1).1
  have hheap : ((T.setVm vm').setCell a (vp_cell c0 (n1, .inl (va_cpy f g sp.toNatClampNeg dp.toNatClampNeg n.toNatClampNeg)))).heap = H.setIfInBounds a (vp_cell c0 (n1, .inl (va_cpy f g sp.toNatClampNeg dp.toNatClampNeg n.toNatClampNeg))) := by rw [← hT]; rfl
  obtain ⟨t, a1, b1⟩ := kk _ _ (show (H.setIfInBounds a _)[a]? = some _ by simp [Array.getElem?_setIfInBounds, hl]) (by simp) (fun q hq => by simp [Array.getElem?_setIfInBounds, Ne.symm hq]) (fun q hq => by
      rcases List.mem_append.mp hq with h | h
      · exact Or.inl h
      · obtain ⟨z, -, hz⟩ := List.mem_map.mp h
        rw [← hz]
        exact Or.inr rfl) _ hheap X'
  exact ⟨t, step t a1, b1⟩
set_option maxHeartbeats 4000000 in
theorem am_x_invokestatic (C : am_Cx γ E τ p R s m args meth c) {pc : Nat} {L : List (Option Value)} {st : List Value} {M : am_M} {bc bs : Nat} {i : Nat} {ps : List Prop} {k' : am_F} (hd : decode τ.2.2.1 pc = .ok (.invokestatic i, 3)) (h : am_ex E τ.1 τ.2.2.2.2.2.2.1 pc L st M bc bs (.invokestatic i) = some (ps, k')) (hp : ∀ q ∈ ps, q) (kk : am_Wc γ τ p l e R s m args below meth c Q k') : am_Wc γ τ p l e R s m args below meth c Q (pc, L, st, M, bc, bs) := by
  obtain ⟨hx, hb, hml, hown, hts, hin, hdec, hKw, hKx, hfr, hlo, hbase⟩ := C
  intro H locs cells slots ls hH hS hL hc hs
  dsimp only at hH hL hc hs ⊢
  simp only [am_ex] at h
  have hml2 : c.maxLocals = ls.size := by rw [hml]; exact hL.1.symm
  split at h
  · rename_i y x r hbi
    cases h
    have hcs : am_cs r ≤ 8 := hp _ am_i1
    rw [← am_cs_map γ] at hcs
    exact va_mmax hx hb hml2 hown (hts _ (am_bi_ok hbi)) (hts _ am_g10) (hts _ am_g8) (hts _ am_g14) hfr (by show am_cs (r.map (am_v γ)) + 13 ≤ _; omega) (by omega) (by omega) hd (kk H locs cells slots ls hH hS hL hc hs)
  · rename_i y x r hbi
    cases h
    have hcs : am_cs r ≤ 8 := hp _ am_i1
    rw [← am_cs_map γ] at hcs
    exact va_mmin hx hb hml2 hown (hts _ (am_bi_ok hbi)) (hts _ am_g11) (hts _ am_g8) (hts _ am_g15) hfr (by show am_cs (r.map (am_v γ)) + 13 ≤ _; omega) (by omega) (by omega) hd (kk H locs cells slots ls hH hS hL hc hs)
  · rename_i y x r hbi
    cases h
    have hcs : am_cs r ≤ 8 := hp _ am_i1
    rw [← am_cs_map γ] at hcs
    exact va_mmax_long hx hb hml2 hown (hts _ (am_bi_ok hbi)) (hts _ am_g12) (hts _ am_g8) (hts _ am_g16) hfr (by show am_cs (r.map (am_v γ)) + 15 ≤ _; omega) (by omega) (by omega) hd (kk H locs cells slots ls hH hS hL hc hs)
  · rename_i y x r hbi
    cases h
    have hcs : am_cs r ≤ 8 := hp _ am_i1
    rw [← am_cs_map γ] at hcs
    exact va_mmin_long hx hb hml2 hown (hts _ (am_bi_ok hbi)) (hts _ am_g13) (hts _ am_g8) (hts _ am_g17) hfr (by show am_cs (r.map (am_v γ)) + 15 ≤ _; omega) (by omega) (by omega) hd (kk H locs cells slots ls hH hS hL hc hs)
  · rename_i n dp d sp q r hbi
    split at h
    · rename_i n0 f n1 g hM0 hM1
      cases h
      have p1 : ¬ sp < 0 := hp _ am_i1
      have p2 : ¬ dp < 0 := hp _ am_i2
      have p3 : ¬ n < 0 := hp _ am_i3
      have p4 := hp _ am_i4
      have p5 := hp _ am_i5
      have hcs : am_cs r ≤ 8 := hp _ am_i6
      rw [← am_cs_map γ] at hcs
      have hnf : nativeFrameWords "java/lang/System" "arraycopy" 5 ≤ 30 := by decide +kernel
      refine am_copy hx hb hml2 hown (hts _ (am_bi_ok hbi)) (hts _ am_g5) (hts _ am_g6) (hts _ am_g7) (am_arr hKw (kd := 0) (by decide)).1 (hH.at hM0).1 (hH.at hM1).1 p1 p2 p3 p4 p5 hfr (by show am_cs (r.map (am_v γ)) + (nativeFrameWords "java/lang/System" "arraycopy" 5 + 11) ≤ _; omega) hd (fun H1 locs1 e1 z1 o1 hl1 => ?_)
      refine kk H1 locs1 cells slots ls (hH.write hM1 z1 o1 e1) ⟨by rw [z1]; exact hS.1, fun q g1 g2 => by rw [o1 q (fun e => g2 (by rw [e]; exact am_base hH hM1))]; exact hS.2.1 q g1 g2, fun q hq => ?_⟩ hL hc hs
      rcases hl1 q hq with z | z
      · exact hS.2.2 q z
      · rw [z]; exact am_base hH hM1
    · cases h
  · cases h
end AMF
end
section
/-! multianewarray: rows of longs, and the array of them. -/
theorem am_outer (c : ClassId) (N h0 : Nat) : ∀ i : Nat, Jvm.Free.Multi.outerC c N h0 i = arrV c N (fun j => va_rf (if j < i then some (h0 + 1 + j) else none))
  | 0 => (arrV_new c N .null).trans (congrArg (arrV c N) (funext fun j => by rw [if_neg (Nat.not_lt_zero j)]; rfl))
  | i + 1 => by
    show (Jvm.Free.Multi.outerC c N h0 i).setSlot i (.ref (h0 + 1 + i)) = _
    rw [am_outer c N h0 i, arrV_store]
    refine congrArg (arrV c N) (funext fun j => ?_)
    by_cases e : j = i
    · subst e
      simp [updV, va_rf]
    · by_cases h : j < i
      · simp [updV, e, h, Nat.lt_succ_of_lt h]
      · simp [updV, e, h, show ¬ j < i + 1 by omega]
section AMG
variable {p : Program} {l : Launch} {e : Env} {R : Room} {s : State} {m : MethodId} {args : Array Value} {below : List Frame} {meth : Method} {c : Code} {Q : State → Prop} {γ : am_G} {E : am_E} {τ : am_T}
theorem am_Hp.multi {M : am_M} {H H1 : Heap} {N K : Nat} (h : am_Hp γ M H) (hX : M.1 + 1 + N ≤ am_X) (z : H1.size = H.size + 1 + N) (oq : ∀ q : Nat, q < H.size → H1[q]? = H[q]?) (ho : H1[H.size]? = some (arrV (γ.2.1 6) N (fun j => va_rf (if j < N then some (H.size + 1 + j) else none)))) (hr : ∀ j : Nat, j < N → H1[H.size + 1 + j]? = some (arrV (γ.2.1 2) K (fun _ => .long 0))) : am_Hp γ (am_mg M N K) H1 := by
  have hs := h.1
  refine ⟨by show H1.size = γ.2.2.1 + (M.1 + 1 + N); omega, hX, fun j d hj => ?_⟩
  have hd : (bif Nat.beq j M.1 then some (.inl (6, N, .inr (.inr (.inr (.inr (fun i => if i < N then some (M.1 + 1 + i) else none)))))) else bif Nat.blt M.1 j && Nat.ble j (M.1 + N) then some (.inl (2, K, .inr (.inl (fun _ => 0)))) else M.2 j) = some d := hj
  show j < M.1 + 1 + N ∧ _
  cases e1 : Nat.beq j M.1 with
  | true =>
    have ej := Nat.eq_of_beq_eq_true e1
    rw [e1] at hd
    cases hd
    refine ⟨by omega, ?_⟩
    show H1[γ.2.2.1 + j]? = some (vp_cell (γ.2.1 6) (N, .inr (.inr (.inr (.inr (fun i => (if i < N then some (M.1 + 1 + i) else none).map (am_ad γ)))))))
    rw [ej, ← hs, ho, vp_cell_q]
    refine congrArg some (congrArg (arrV (γ.2.1 6) N) (funext fun q => ?_))
    by_cases y : q < N
    · rw [if_pos y, if_pos y]
      show va_rf (some (H.size + 1 + q)) = va_rf (some (am_ad γ (M.1 + 1 + q)))
      rw [am_ad_lt (by omega), show H.size + 1 + q = γ.2.2.1 + (M.1 + 1 + q) by omega]
    · rw [if_neg y, if_neg y]
      rfl
  | false =>
    rw [e1] at hd
    have hd : (bif Nat.blt M.1 j && Nat.ble j (M.1 + N) then some (.inl (2, K, .inr (.inl (fun _ => 0)))) else M.2 j) = some d := hd
    cases e2 : (Nat.blt M.1 j && Nat.ble j (M.1 + N)) with
    | true =>
      rw [e2] at hd
      cases hd
      simp only [Bool.and_eq_true] at e2
      have l1 : M.1 + 1 ≤ j := Nat.le_of_ble_eq_true e2.1
      have l2 : j ≤ M.1 + N := Nat.le_of_ble_eq_true e2.2
      refine ⟨by omega, ?_⟩
      show H1[γ.2.2.1 + j]? = some (vp_cell (γ.2.1 2) (K, .inr (.inl (fun _ => 0))))
      rw [show γ.2.2.1 + j = H.size + 1 + (j - M.1 - 1) by omega, hr _ (by omega), vp_cell_l]
    | false =>
      rw [e2] at hd
      obtain ⟨g1, g2⟩ := h.2.2 j d hd
      exact ⟨by omega, g2.kept (oq _ (by show γ.2.2.1 + j < _; omega))⟩
set_option maxHeartbeats 4000000 in
theorem am_x_multianewarray (C : am_Cx γ E τ p R s m args meth c) {pc : Nat} {L : List (Option Value)} {st : List Value} {M : am_M} {bc bs : Nat} {i d : Nat} {ps : List Prop} {k' : am_F} (hd : decode τ.2.2.1 pc = .ok (.multianewarray i d, 4)) (h : am_ex E τ.1 τ.2.2.2.2.2.2.1 pc L st M bc bs (.multianewarray i d) = some (ps, k')) (hp : ∀ q ∈ ps, q) (kk : am_Wc γ τ p l e R s m args below meth c Q k') : am_Wc γ τ p l e R s m args below meth c Q (pc, L, st, M, bc, bs) := by
  obtain ⟨hx, hb, hml, hown, hts, hin, hdec, hKw, hKx, hfr, hlo, hbase⟩ := C
  intro H locs cells slots ls hH hS hL hc hs
  dsimp only at hH hL hc hs ⊢
  simp only [am_ex] at h
  cases st with
  | nil => cases h
  | cons v r =>
   cases v with
   | int k =>
    cases r with
    | nil => cases h
    | cons v r =>
     cases v with
     | int n =>
      simp only at h
      cases hk : (Nat.beq τ.1 7 && Nat.beq i 25 && Nat.beq d 2) with
      | false => rw [hk] at h; cases h
      | true =>
        rw [hk] at h
        cases h
        simp only [Bool.and_eq_true] at hk
        have e7 : τ.1 = 7 := Nat.eq_of_beq_eq_true hk.1.1
        have ei : i = 25 := Nat.eq_of_beq_eq_true hk.1.2
        have ed : d = 2 := Nat.eq_of_beq_eq_true hk.2
        subst ei
        subst ed
        have p1 : ¬ n < 0 := hp _ am_i1
        have p2 : ¬ k < 0 := hp _ am_i2
        have p3 : n.toNatClampNeg ≤ 1000 := hp _ am_i3
        have p4 : k.toNatClampNeg ≤ 1000 := hp _ am_i4
        have p5 : 1 + n.toNatClampNeg ≤ bc := hp _ am_i5
        have p6 : n.toNatClampNeg + n.toNatClampNeg * k.toNatClampNeg ≤ bs := hp _ am_i6
        have p7 : M.1 + 1 + n.toNatClampNeg ≤ am_X := hp _ am_i7
        rw [e7] at hown
        have es : "[" ++ (FieldType.array .long).toString = "[[J" := by decide
        have hcl : (Cond.classLink (am_R 7) 25 ("[" ++ (FieldType.array .long).toString)).before args s = true := by
          rw [es]
          exact hts _ am_g9
        intro T hT Xs
        obtain ⟨vm₁, cA, comp, -, fA, fC, -, -, X', step⟩ := Xs.multianewarray2F hx (own := am_R 7) (index := 25) (ty := .long) hown hcl (am_AOA.use hKw.2.2.2.2.2) (hts _ am_g4) (g := F0 m pc ls ((Value.int k :: Value.int n :: r).map (am_v γ))) rfl (by rw [hb]; exact hd) rfl p1 p2 (by omega) (by show k.toNatClampNeg * 8 ≤ _; omega) (by omega) (by decide) (by decide) (by omega) (by omega)
        have ecA : cA = γ.2.1 6 := Option.some.inj (fA.symm.trans (am_arr hKw (kd := 6) (by decide)).2)
        have ecC : comp = γ.2.1 2 := Option.some.inj (fC.symm.trans (am_arr hKw (kd := 2) (by decide)).2)
        subst ecA
        subst ecC
        generalize hF : Jvm.Free.Multi.fill (T.setVm vm₁) (γ.2.1 6) (γ.2.1 2) n.toNatClampNeg k.toNatClampNeg (defaultValue .long) n.toNatClampNeg = F at X' step
        have hTh : (T.setVm vm₁).heap = H := hT
        obtain ⟨f1, f2, -, -⟩ := Jvm.Free.Multi.fill_facts (T.setVm vm₁) (γ.2.1 6) (γ.2.1 2) n.toNatClampNeg k.toNatClampNeg (defaultValue .long) n.toNatClampNeg
        rw [hF, hTh] at f1 f2
        have hold : ∀ x : Nat, x < H.size → F.heap[x]? = H[x]? := fun x hx => by
          have := Jvm.Free.Multi.fill_old (T.setVm vm₁) (γ.2.1 6) (γ.2.1 2) n.toNatClampNeg k.toNatClampNeg (defaultValue .long) (a := x) (by rw [hTh]; exact hx) n.toNatClampNeg
          rw [hF, hTh] at this
          exact this
        have hrow : ∀ j : Nat, j < n.toNatClampNeg → F.heap[H.size + 1 + j]? = some (arrV (γ.2.1 2) k.toNatClampNeg (fun _ => .long 0)) := fun j hj => by
          have := Jvm.Free.Multi.fill_inner (T.setVm vm₁) (γ.2.1 6) (γ.2.1 2) n.toNatClampNeg k.toNatClampNeg (defaultValue .long) n.toNatClampNeg j hj
          rw [hF, hTh] at this
          rw [this]
          exact congrArg some (arrV_new _ _ _)
        rw [am_outer] at f2
        have k2 := kk F.heap locs (cells + 1 + n.toNatClampNeg) (slots + n.toNatClampNeg + n.toNatClampNeg * k.toNatClampNeg) ls (hH.multi p7 f1 hold f2 hrow) ⟨by rw [f1]; have := hS.1; omega, fun x h1 h2 => (hold x (Nat.lt_of_lt_of_le h1 hS.1)).trans (hS.2.1 x h1 h2), hS.2.2⟩ hL (by show cells + 1 + n.toNatClampNeg + (bc - (1 + n.toNatClampNeg)) ≤ _; omega) (by show slots + n.toNatClampNeg + n.toNatClampNeg * k.toNatClampNeg + (bs - (n.toNatClampNeg + n.toNatClampNeg * k.toNatClampNeg)) ≤ _; omega)
        rw [List.map_cons] at k2
        rw [show am_v γ (.ref M.1) = .ref H.size from by rw [hH.new_ad (by omega)]; rfl] at k2
        obtain ⟨t, a1, b1⟩ := k2 F rfl X'
        refine ⟨t, step t ?_, b1⟩
        have e0 : T.heap.size = H.size := by rw [hT]
        rw [e0]
        exact a1
     | _ => cases h
   | _ => cases h
end AMG
end
