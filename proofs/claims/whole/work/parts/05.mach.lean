/-! The abstract machine: pointers are numbers of cells (0, 1, .. in the order of their making), from am_X on the given int arrays (the script, the static tables). -/
abbrev am_C : Type := (Nat × vp_A) ⊕ (Nat × List Value)
/-- how many cells, and what they hold -/
abbrev am_M : Type := Nat × (Nat → Option am_C)
/-- pc, locals, stack, memory, how many cells and slots may still be made -/
abbrev am_F : Type := Nat × List (Option Value) × List Value × am_M × Nat × Nat
abbrev am_E : Type := Nat → Nat × (Nat → Int32)
def am_X : Nat := 1000000
def am_up {α : Type} (f : Nat → Option α) (k : Nat) (v : α) : Nat → Option α := fun j => bif Nat.beq j k then some v else f j
def am_w (M : am_M) (k : Nat) (c : am_C) : am_M := (M.1, am_up M.2 k c)
def am_mk (M : am_M) (c : am_C) : am_M := (M.1 + 1, am_up M.2 M.1 c)
/-- n rows of k longs, and the array of them -/
def am_mg (M : am_M) (n k : Nat) : am_M := (M.1 + 1 + n, fun j => bif Nat.beq j M.1 then some (.inl (6, n, .inr (.inr (.inr (.inr (fun i => if i < n then some (M.1 + 1 + i) else none)))))) else bif Nat.blt M.1 j && Nat.ble j (M.1 + n) then some (.inl (2, k, .inr (.inl (fun _ => 0)))) else M.2 j)
def am_c2 (v : Value) : Bool := Nat.beq v.category 2
def am_cl0 (L : List (Option Value)) : Nat → List (Option Value)
  | 0 => L
  | j + 1 => match L.getD j none with
    | some w => bif am_c2 w then L.set j none else L
    | none => L
def am_s1 (L : List (Option Value)) (i : Nat) (v : Value) : List (Option Value) := (am_cl0 L i).set i (some v)
def am_s2 (L : List (Option Value)) (i : Nat) (v : Value) : List (Option Value) := ((am_cl0 L i).set (i + 1) none).set i (some v)
def am_tg (pc : Nat) (off : Int) : Option Nat := match (pc : Int) + off with
  | .ofNat t => some t
  | .negSucc _ => none
abbrev am_R1 : Type := Option (List Prop × am_F)
def am_sw (pc : Nat) (dflt lo hi : Int) (offs : Array Int) (x : Int32) : Option Nat :=
  bif decide (x.toInt < lo) || decide (hi < x.toInt) then am_tg pc dflt else match offs[(x.toInt - lo).toNat]? with
    | some off => am_tg pc off
    | none => none
/-- kinds of arrays: 0 int, 1 boolean, 2 long, 3 Group, 4 Rules, 5 Worker, 6 long[] -/
def am_ty : Nat → FieldType
  | 0 => .int
  | 1 => .boolean
  | 2 => .long
  | 3 => .object RX0
  | 4 => .object RX3
  | 5 => .object RX7
  | _ => .array .long
def am_kd : Nat → Nat
  | 0 => 3
  | 3 => 4
  | 7 => 5
  | _ => 99
def am_ak : Jvm.ClassFile.ArrayType → Option (Nat × ((Nat → Int32) ⊕ (Nat → Int64) ⊕ (Nat → UInt32) ⊕ (Nat → UInt64) ⊕ (Nat → Option Nat)))
  | .int => some (0, .inl (fun _ => 0))
  | .boolean => some (1, .inl (fun _ => 0))
  | .long => some (2, .inr (.inl (fun _ => 0)))
  | _ => none
def am_dv : Nat → Value
  | 0 => .int 0
  | 1 => .long 0
  | _ => .null
def am_def (ci : Nat) : List Value := (am_fkT.getD ci []).map am_dv
/-- does a value fit a field: 0 int, 1 long, 2 reference -/
def am_fit : Nat → Value → Bool
  | 0, .int _ => true
  | 1, .long _ => true
  | 2, .ref _ => true
  | 2, .null => true
  | _, _ => false
def am_cs (l : List Value) : Nat := (l.map fun v => v.category).sum
def am_len (i : Instr) (n : Nat) : Nat := match i with
  | .bipush _ | .ldc _ | .iload _ | .lload _ | .aload _ | .istore _ | .lstore _ | .astore _ | .newarray _ => 2
  | .sipush _ | .ldc2_w _ | .iinc _ _ | .goto _ | .ifCond _ _ | .if_icmp _ _ | .if_acmp _ _ | .ifnull _ | .ifnonnull _ | .getfield _ | .putfield _ | .getstatic _ | .new _ | .anewarray _ | .invokespecial _ | .invokestatic _ | .invokevirtual _ => 3
  | .multianewarray _ _ => 4
  | .tableswitch _ _ _ _ => n
  | _ => 1
/-- one instruction: what must hold for it, and where it leads -/
def am_ex (E : am_E) (o : Nat) (ini : Bool) (pc : Nat) (L : List (Option Value)) (st : List Value) (M : am_M) (bc bs : Nat) (i : Instr) : am_R1 := match i with
  | .aconst_null => some ([], pc + 1, L, .null :: st, M, bc, bs)
  | .iconst n => some ([], pc + 1, L, .int (Int32.ofInt n) :: st, M, bc, bs)
  | .bipush n => some ([], pc + 2, L, .int (Int8.ofInt n).toInt32 :: st, M, bc, bs)
  | .sipush n => some ([], pc + 3, L, .int (Int16.ofInt n).toInt32 :: st, M, bc, bs)
  | .lconst n => some ([], pc + 1, L, .long (Int64.ofNat n.val) :: st, M, bc, bs)
  | .ldc i => match am_k1 o i with
    | some v => some ([], pc + 2, L, .int v :: st, M, bc, bs)
    | none => none
  | .ldc2_w i => match am_k2 o i with
    | some v => some ([], pc + 3, L, .long v :: st, M, bc, bs)
    | none => none
  | .iload i => match L.getD i none with
    | some (.int x) => some ([], pc + 2, L, .int x :: st, M, bc, bs)
    | _ => none
  | .iload_n i => match L.getD i.val none with
    | some (.int x) => some ([], pc + 1, L, .int x :: st, M, bc, bs)
    | _ => none
  | .lload i => match L.getD i none with
    | some (.long x) => some ([], pc + 2, L, .long x :: st, M, bc, bs)
    | _ => none
  | .lload_n i => match L.getD i.val none with
    | some (.long x) => some ([], pc + 1, L, .long x :: st, M, bc, bs)
    | _ => none
  | .aload i => match L.getD i none with
    | some (.ref x) => some ([], pc + 2, L, .ref x :: st, M, bc, bs)
    | some .null => some ([], pc + 2, L, .null :: st, M, bc, bs)
    | _ => none
  | .aload_n i => match L.getD i.val none with
    | some (.ref x) => some ([], pc + 1, L, .ref x :: st, M, bc, bs)
    | some .null => some ([], pc + 1, L, .null :: st, M, bc, bs)
    | _ => none
  | .istore i => match st with
    | .int x :: r => bif Nat.blt i L.length then some ([], pc + 2, am_s1 L i (.int x), r, M, bc, bs) else none
    | _ => none
  | .istore_n i => match st with
    | .int x :: r => bif Nat.blt i.val L.length then some ([], pc + 1, am_s1 L i.val (.int x), r, M, bc, bs) else none
    | _ => none
  | .lstore i => match st with
    | .long x :: r => bif Nat.blt (i + 1) L.length then some ([], pc + 2, am_s2 L i (.long x), r, M, bc, bs) else none
    | _ => none
  | .lstore_n i => match st with
    | .long x :: r => bif Nat.blt (i.val + 1) L.length then some ([], pc + 1, am_s2 L i.val (.long x), r, M, bc, bs) else none
    | _ => none
  | .astore i => match st with
    | .ref x :: r => bif Nat.blt i L.length then some ([], pc + 2, am_s1 L i (.ref x), r, M, bc, bs) else none
    | .null :: r => bif Nat.blt i L.length then some ([], pc + 2, am_s1 L i .null, r, M, bc, bs) else none
    | _ => none
  | .astore_n i => match st with
    | .ref x :: r => bif Nat.blt i.val L.length then some ([], pc + 1, am_s1 L i.val (.ref x), r, M, bc, bs) else none
    | .null :: r => bif Nat.blt i.val L.length then some ([], pc + 1, am_s1 L i.val .null, r, M, bc, bs) else none
    | _ => none
  | .iinc i n => match L.getD i none with
    | some (.int x) => bif Nat.blt i L.length then some ([], pc + 3, am_s1 L i (.int (x + Int32.ofInt n)), st, M, bc, bs) else none
    | _ => none
  | .iadd => match st with
    | .int y :: .int x :: r => some ([], pc + 1, L, .int (x + y) :: r, M, bc, bs)
    | _ => none
  | .isub => match st with
    | .int y :: .int x :: r => some ([], pc + 1, L, .int (x - y) :: r, M, bc, bs)
    | _ => none
  | .imul => match st with
    | .int y :: .int x :: r => some ([], pc + 1, L, .int (x * y) :: r, M, bc, bs)
    | _ => none
  | .iand => match st with
    | .int y :: .int x :: r => some ([], pc + 1, L, .int (x &&& y) :: r, M, bc, bs)
    | _ => none
  | .ior => match st with
    | .int y :: .int x :: r => some ([], pc + 1, L, .int (x ||| y) :: r, M, bc, bs)
    | _ => none
  | .ishl => match st with
    | .int y :: .int x :: r => some ([], pc + 1, L, .int (x <<< (y &&& 31)) :: r, M, bc, bs)
    | _ => none
  | .ishr => match st with
    | .int y :: .int x :: r => some ([], pc + 1, L, .int (x >>> (y &&& 31)) :: r, M, bc, bs)
    | _ => none
  | .idiv => match st with
    | .int y :: .int x :: r => some ([¬ y = 0], pc + 1, L, .int (x / y) :: r, M, bc, bs)
    | _ => none
  | .irem => match st with
    | .int y :: .int x :: r => some ([¬ y = 0], pc + 1, L, .int (x - x / y * y) :: r, M, bc, bs)
    | _ => none
  | .ladd => match st with
    | .long y :: .long x :: r => some ([], pc + 1, L, .long (x + y) :: r, M, bc, bs)
    | _ => none
  | .lsub => match st with
    | .long y :: .long x :: r => some ([], pc + 1, L, .long (x - y) :: r, M, bc, bs)
    | _ => none
  | .lmul => match st with
    | .long y :: .long x :: r => some ([], pc + 1, L, .long (x * y) :: r, M, bc, bs)
    | _ => none
  | .ldiv => match st with
    | .long y :: .long x :: r => some ([¬ y = 0], pc + 1, L, .long (x / y) :: r, M, bc, bs)
    | _ => none
  | .lrem => match st with
    | .long y :: .long x :: r => some ([¬ y = 0], pc + 1, L, .long (x - x / y * y) :: r, M, bc, bs)
    | _ => none
  | .i2l => match st with
    | .int x :: r => some ([], pc + 1, L, .long x.toInt64 :: r, M, bc, bs)
    | _ => none
  | .lcmp => match st with
    | .long y :: .long x :: r => some ([], pc + 1, L, .int (lg_cmp x y) :: r, M, bc, bs)
    | _ => none
  | .dup => match st with
    | .int x :: r => some ([], pc + 1, L, .int x :: .int x :: r, M, bc, bs)
    | .ref x :: r => some ([], pc + 1, L, .ref x :: .ref x :: r, M, bc, bs)
    | _ => none
  | .dup2 => match st with
    | .int x :: .ref y :: r => some ([], pc + 1, L, .int x :: .ref y :: .int x :: .ref y :: r, M, bc, bs)
    | _ => none
  | .goto off => match am_tg pc off with
    | some t => some ([], t, L, st, M, bc, bs)
    | none => none
  | .ifCond k off => match am_tg pc off, st with
    | some t, .int x :: r => match k with
      | .eq => some ([], if x = 0 then (t, L, r, M, bc, bs) else (pc + 3, L, r, M, bc, bs))
      | .ne => some ([], if ¬ x = 0 then (t, L, r, M, bc, bs) else (pc + 3, L, r, M, bc, bs))
      | .lt => some ([], if x < 0 then (t, L, r, M, bc, bs) else (pc + 3, L, r, M, bc, bs))
      | .ge => some ([], if 0 ≤ x then (t, L, r, M, bc, bs) else (pc + 3, L, r, M, bc, bs))
      | .gt => some ([], if 0 < x then (t, L, r, M, bc, bs) else (pc + 3, L, r, M, bc, bs))
      | .le => some ([], if x ≤ 0 then (t, L, r, M, bc, bs) else (pc + 3, L, r, M, bc, bs))
    | _, _ => none
  | .if_icmp k off => match am_tg pc off, st with
    | some t, .int y :: .int x :: r => match k with
      | .eq => some ([], if x = y then (t, L, r, M, bc, bs) else (pc + 3, L, r, M, bc, bs))
      | .ne => some ([], if ¬ x = y then (t, L, r, M, bc, bs) else (pc + 3, L, r, M, bc, bs))
      | .lt => some ([], if x < y then (t, L, r, M, bc, bs) else (pc + 3, L, r, M, bc, bs))
      | .ge => some ([], if y ≤ x then (t, L, r, M, bc, bs) else (pc + 3, L, r, M, bc, bs))
      | .gt => some ([], if y < x then (t, L, r, M, bc, bs) else (pc + 3, L, r, M, bc, bs))
      | .le => some ([], if x ≤ y then (t, L, r, M, bc, bs) else (pc + 3, L, r, M, bc, bs))
    | _, _ => none
  | .if_acmp k off => match am_tg pc off, st with
    | some t, .ref y :: .ref x :: r => match k with
      | .ne => match M.2 x, M.2 y with
        | some _, some _ => some ([], if ¬ x = y then (t, L, r, M, bc, bs) else (pc + 3, L, r, M, bc, bs))
        | _, _ => none
      | .eq => none
    | _, _ => none
  | .ifnull off => match am_tg pc off, st with
    | some _, .ref _ :: r => some ([], pc + 3, L, r, M, bc, bs)
    | some t, .null :: r => some ([], t, L, r, M, bc, bs)
    | _, _ => none
  | .ifnonnull off => match am_tg pc off, st with
    | some t, .ref _ :: r => some ([], t, L, r, M, bc, bs)
    | some _, .null :: r => some ([], pc + 3, L, r, M, bc, bs)
    | _, _ => none
  | .tableswitch d lo hi offs => match st with
    | .int x :: r => match am_sw pc d lo hi offs x with
      | some t => some ([], t, L, r, M, bc, bs)
      | none => none
    | _ => none
  | .getfield i => match am_fl o i, st with
    | some (ci, k), .ref a :: r => match M.2 a with
      | some (.inr (ci', fs)) => bif Nat.beq ci ci' then (match fs[k]? with
        | some v => some ([], pc + 3, L, v :: r, M, bc, bs)
        | none => none) else none
      | _ => none
    | _, _ => none
  | .putfield i => match am_fl o i, st with
    | some (ci, k), v :: .ref a :: r => match M.2 a with
      | some (.inr (ci', fs)) => match am_fk ci k with
        | some q => bif Nat.beq ci ci' && am_fit q v && Nat.blt k fs.length && (!(am_fn ci k) || (ini && Nat.beq o ci)) then some ([], pc + 3, L, r, am_w M a (.inr (ci, fs.set k v)), bc, bs) else none
        | none => none
      | _ => none
    | _, _ => none
  | .getstatic i => match am_sc o i with
    | some e => some ([], pc + 3, L, .ref (am_X + e) :: st, M, bc, bs)
    | none => none
  | .arraylength => match st with
    | .ref a :: r => match M.2 a with
      | some _ => none
      | none => bif Nat.ble am_X a && Nat.blt a (am_X + 4) then some ([], pc + 1, L, .int (Int32.ofNat (E (a - am_X)).1) :: r, M, bc, bs) else none
    | _ => none
  | .iaload => match st with
    | .int i :: .ref a :: r => match M.2 a with
      | some (.inl (0, n, .inl f)) => some ([vp_in i n], pc + 1, L, .int (f i.toNatClampNeg) :: r, M, bc, bs)
      | some _ => none
      | none => bif Nat.ble am_X a && Nat.blt a (am_X + 4) then some ([vp_in i (E (a - am_X)).1], pc + 1, L, .int ((E (a - am_X)).2 i.toNatClampNeg) :: r, M, bc, bs) else none
    | _ => none
  | .baload => match st with
    | .int i :: .ref a :: r => match M.2 a with
      | some (.inl (1, n, .inl f)) => some ([vp_in i n], pc + 1, L, .int (f i.toNatClampNeg) :: r, M, bc, bs)
      | _ => none
    | _ => none
  | .laload => match st with
    | .int i :: .ref a :: r => match M.2 a with
      | some (.inl (2, n, .inr (.inl f))) => some ([vp_in i n], pc + 1, L, .long (f i.toNatClampNeg) :: r, M, bc, bs)
      | _ => none
    | _ => none
  | .iastore => match st with
    | .int x :: .int i :: .ref a :: r => match M.2 a with
      | some (.inl (0, n, .inl f)) => some ([vp_in i n], pc + 1, L, r, am_w M a (.inl (0, n, .inl (upd f i.toNatClampNeg x))), bc, bs)
      | _ => none
    | _ => none
  | .bastore => match st with
    | .int x :: .int i :: .ref a :: r => match M.2 a with
      | some (.inl (1, n, .inl f)) => some ([vp_in i n], pc + 1, L, r, am_w M a (.inl (1, n, .inl (upd f i.toNatClampNeg (vp_nar .boolean x)))), bc, bs)
      | _ => none
    | _ => none
  | .lastore => match st with
    | .long x :: .int i :: .ref a :: r => match M.2 a with
      | some (.inl (2, n, .inr (.inl f))) => some ([vp_in i n], pc + 1, L, r, am_w M a (.inl (2, n, .inr (.inl (vp_updL f i.toNatClampNeg x)))), bc, bs)
      | _ => none
    | _ => none
  | .aastore => match st with
    | .ref v :: .int i :: .ref a :: r => match M.2 a, M.2 v with
      | some (.inl (kd, n, .inr (.inr (.inr (.inr f))))), some (.inr (ci, _)) => bif Nat.beq (am_kd ci) kd && Nat.ble kd 5 then some ([vp_in i n], pc + 1, L, r, am_w M a (.inl (kd, n, .inr (.inr (.inr (.inr (va_up f i.toNatClampNeg (some v))))))), bc, bs) else none
      | _, _ => none
    | _ => none
  | .newarray t => match am_ak t, st with
    | some (kd, a0), .int n :: r => some ([¬ n < 0, n.toNatClampNeg ≤ 67108864, 1 ≤ bc, n.toNatClampNeg ≤ bs, M.1 < am_X], pc + 2, L, .ref M.1 :: r, am_mk M (.inl (kd, n.toNatClampNeg, a0)), bc - 1, bs - n.toNatClampNeg)
    | _, _ => none
  | .anewarray i => match am_nc o i, st with
    | some ci, .int n :: r => bif Nat.ble (am_kd ci) 5 then some ([¬ n < 0, n.toNatClampNeg ≤ 67108864, 1 ≤ bc, n.toNatClampNeg ≤ bs, M.1 < am_X], pc + 3, L, .ref M.1 :: r, am_mk M (.inl (am_kd ci, n.toNatClampNeg, .inr (.inr (.inr (.inr (fun _ => none)))))), bc - 1, bs - n.toNatClampNeg) else none
    | _, _ => none
  | .multianewarray i d => match st with
    | .int k :: .int n :: r => bif Nat.beq o 7 && Nat.beq i 25 && Nat.beq d 2 then some ([¬ n < 0, ¬ k < 0, n.toNatClampNeg ≤ 1000, k.toNatClampNeg ≤ 1000, 1 + n.toNatClampNeg ≤ bc, n.toNatClampNeg + n.toNatClampNeg * k.toNatClampNeg ≤ bs, M.1 + 1 + n.toNatClampNeg ≤ am_X], pc + 4, L, .ref M.1 :: r, am_mg M n.toNatClampNeg k.toNatClampNeg, bc - (1 + n.toNatClampNeg), bs - (n.toNatClampNeg + n.toNatClampNeg * k.toNatClampNeg)) else none
    | _ => none
  | .new i => match am_nc o i with
    | some ci => some ([1 ≤ bc, (am_Cn ci).2.2 ≤ bs, M.1 < am_X], pc + 3, L, .ref M.1 :: st, am_mk M (.inr (ci, am_def ci)), bc - 1, bs - (am_Cn ci).2.2)
    | none => none
  | .invokespecial i => match am_bi o i, st with
    | some 0, .ref _ :: r => some ([am_cs r ≤ 8], pc + 3, L, r, M, bc, bs)
    | _, _ => none
  | .invokestatic i => match am_bi o i, st with
    | some 1, .int y :: .int x :: r => some ([am_cs r ≤ 8], pc + 3, L, .int (if x < y then y else x) :: r, M, bc, bs)
    | some 2, .int y :: .int x :: r => some ([am_cs r ≤ 8], pc + 3, L, .int (if y < x then y else x) :: r, M, bc, bs)
    | some 3, .long y :: .long x :: r => some ([am_cs r ≤ 8], pc + 3, L, .long (if y < x then x else y) :: r, M, bc, bs)
    | some 4, .long y :: .long x :: r => some ([am_cs r ≤ 8], pc + 3, L, .long (if y < x then y else x) :: r, M, bc, bs)
    | some 5, .int n :: .int dp :: .ref d :: .int sp :: .ref q :: r => match M.2 q, M.2 d with
      | some (.inl (0, n0, .inl f)), some (.inl (0, n1, .inl g)) => some ([¬ sp < 0, ¬ dp < 0, ¬ n < 0, sp.toNatClampNeg + n.toNatClampNeg ≤ n0, dp.toNatClampNeg + n.toNatClampNeg ≤ n1, am_cs r ≤ 8], pc + 3, L, r, am_w M d (.inl (0, n1, .inl (va_cpy f g sp.toNatClampNeg dp.toNatClampNeg n.toNatClampNeg))), bc, bs)
      | _, _ => none
    | _, _ => none
  | _ => none
/-- one step that is no call, no return, no load of a reference out of an array -/
def am_s (E : am_E) (τ : am_T) (c : am_F) : am_R1 := match c with
  | (pc, L, st, M, bc, bs) => match am_at τ pc with
    | some (i, n) => bif Nat.beq n (am_len i n) then am_ex E τ.1 τ.2.2.2.2.2.2.1 pc L st M bc bs i else none
    | none => none
/-- a return: what must hold, and the answer -/
def am_ret (τ : am_T) (c : am_F) : Option (List Prop × Option Value) := match c with
  | (pc, _, st, _, _, _) => match am_at τ pc, st, τ.2.2.2.2.1 with
    | some (.return_, 1), [], none => some ([], none)
    | some (.ireturn, 1), [.int v], some .int => some ([], some (.int v))
    | some (.ireturn, 1), [.int v], some .boolean => some ([v = 0 ∨ v = 1], some (.int v))
    | some (.lreturn, 1), [.long v], some .long => some ([], some (.long v))
    | some (.areturn, 1), [.ref a], some (.object _) => some ([], some (.ref a))
    | some (.areturn, 1), [.null], some (.object _) => some ([], some .null)
    | _, _, _ => none
def am_pop (k : Nat) (τ' : am_T) (st : List Value) : Option (Nat × am_T × List Value × List Value) :=
  bif Nat.ble τ'.2.2.2.2.2.1 st.length then (bif Nat.ble k 2 then (match st.drop τ'.2.2.2.2.2.1 with
    | .ref b :: r => some (k, τ', .ref b :: (st.take τ'.2.2.2.2.2.1).reverse, r)
    | _ => none) else some (k, τ', (st.take τ'.2.2.2.2.2.1).reverse, st.drop τ'.2.2.2.2.2.1)) else none
/-- a call: its kind, the method, what it gets, what stays on the stack -/
def am_invP (τ : am_T) (pc : Nat) (st : List Value) : Option (Nat × am_T × List Value × List Value) := match am_at τ pc with
  | some (.invokevirtual i, 3) => match am_cv τ.1 i with
    | some (k, τ') => bif Nat.beq k 0 then am_pop k τ' st else none
    | none => none
  | some (.invokespecial i, 3) => match am_cv τ.1 i with
    | some (k, τ') => bif Nat.beq k 1 || Nat.beq k 2 then am_pop k τ' st else none
    | none => none
  | some (.invokestatic i, 3) => match am_cv τ.1 i with
    | some (k, τ') => bif Nat.beq k 3 || Nat.beq k 4 then am_pop k τ' st else none
    | none => none
  | _ => none
def am_inv (τ : am_T) (c : am_F) : Option (Nat × am_T × List Value × List Value) := match c with
  | (pc, _, st, _, _, _) => am_invP τ pc st
def am_rcv (k : Nat) (τ' : am_T) (args : List Value) (M : am_M) : Prop := k = 0 → ∃ b fs r, args = .ref b :: r ∧ M.2 b = some (.inr (τ'.1, fs))
abbrev am_Dt : Type := am_T → List Value → am_M → Nat → Nat → Option Value → am_M → Prop
/-- from a place of a method on: it ends with an answer and a memory as Q says -/
def am_Ev (E : am_E) (D : am_Dt) (τ : am_T) : Nat → am_F → (Option Value → am_M → Prop) → Prop
  | 0, _, _ => False
  | n + 1, c, Q =>
    (∃ ps c', am_s E τ c = some (ps, c') ∧ (∀ p ∈ ps, p) ∧ am_Ev E D τ n c' Q) ∨
    (∃ kd k f i a r, am_at τ c.1 = some (.aaload, 1) ∧ c.2.2.1 = .int i :: .ref a :: r ∧ c.2.2.2.1.2 a = some (.inl (kd, k, .inr (.inr (.inr (.inr f))))) ∧ 3 ≤ kd ∧ kd ≤ 6 ∧ vp_in i k ∧ am_Ev E D τ n (c.1 + 1, c.2.1, va_rf (f i.toNatClampNeg) :: r, c.2.2.2) Q) ∨
    (∃ k τ' as r mc ms v M', am_inv τ c = some (k, τ', as, r) ∧ am_cs r ≤ 8 ∧ am_rcv k τ' as c.2.2.2.1 ∧ D τ' as c.2.2.2.1 mc ms v M' ∧ mc ≤ c.2.2.2.2.1 ∧ ms ≤ c.2.2.2.2.2 ∧ am_Ev E D τ n (c.1 + 3, c.2.1, v.toList ++ r, M', c.2.2.2.2.1 - mc, c.2.2.2.2.2 - ms) Q) ∨
    (∃ ps v, am_ret τ c = some (ps, v) ∧ (∀ p ∈ ps, p) ∧ Q v c.2.2.2.1)
/-- what a method gets, as locals -/
def am_il : List Value → List (Option Value)
  | [] => []
  | v :: l => bif am_c2 v then some v :: none :: am_il l else some v :: am_il l
def am_in (as : List Value) (n : Nat) : List (Option Value) := am_il as ++ List.replicate (n - (am_il as).length) none
/-- method τ, called with as at memory M, in at most d frames, makes at most mc cells of ms slots, answers v, leaves M' -/
def am_D (E : am_E) : Nat → am_Dt
  | 0 => fun _ _ _ _ _ _ _ => False
  | d + 1 => fun τ as M mc ms v M' => (am_il as).length ≤ τ.2.2.2.1 ∧ ∃ n, am_Ev E (am_D E d) τ n (0, am_in as τ.2.2.2.1, [], M, mc, ms) (fun v' M'' => v' = v ∧ M'' = M')
