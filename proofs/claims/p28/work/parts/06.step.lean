/-! One instruction of the abstract machine. -/
def pt_i2 (f : Int32 → Int32 → Int32) (n : Nat) (L : pt_L) (st : List pt_V) (μ : pt_M) : Option pt_C := match st with
  | .inl b :: .inl a :: r => pt_go n L (.inl (f a b) :: r) μ
  | _ => none
def pt_j2 (f : Int64 → Int64 → Int64) (n : Nat) (L : pt_L) (st : List pt_V) (μ : pt_M) : Option pt_C := match st with
  | .inr (.inl b) :: .inr (.inl a) :: r => pt_go n L (.inr (.inl (f a b)) :: r) μ
  | _ => none
def pt_d2 (f : UInt64 → UInt64 → UInt64) (n : Nat) (L : pt_L) (st : List pt_V) (μ : pt_M) : Option pt_C := match st with
  | .inr (.inr (.inl b)) :: .inr (.inr (.inl a)) :: r => if f a b &&& 0x7fffffffffffffff ≤ 0x7ff0000000000000 then pt_go n L (.inr (.inr (.inl (f a b))) :: r) μ else none
  | _ => none
def pt_ldR (n : Nat) (L : pt_L) (st : List pt_V) (μ : pt_M) (x : Nat) : Option pt_C := match pt_lg L x with
  | some (.inr (.inr (.inr (.inl (some q))))) => pt_go n L (.inr (.inr (.inr (.inl (some q)))) :: st) μ
  | some (.inr (.inr (.inr (.inr b)))) => pt_go n L (.inr (.inr (.inr (.inr b))) :: st) μ
  | _ => none
def pt_ldI (n : Nat) (L : pt_L) (st : List pt_V) (μ : pt_M) (x : Nat) : Option pt_C := match pt_lg L x with
  | some (.inl v) => pt_go n L (.inl v :: st) μ
  | _ => none
def pt_ldJ (n : Nat) (L : pt_L) (st : List pt_V) (μ : pt_M) (x : Nat) : Option pt_C := match pt_lg L x with
  | some (.inr (.inl v)) => pt_go n L (.inr (.inl v) :: st) μ
  | _ => none
def pt_ldD (n : Nat) (L : pt_L) (st : List pt_V) (μ : pt_M) (x : Nat) : Option pt_C := match pt_lg L x with
  | some (.inr (.inr (.inl v))) => pt_go n L (.inr (.inr (.inl v)) :: st) μ
  | _ => none
def pt_stR (n : Nat) (L : pt_L) (st : List pt_V) (μ : pt_M) (x : Nat) : Option pt_C := match st with
  | .inr (.inr (.inr (.inl (some q)))) :: r => pt_go n (pt_ls1 L x (.inr (.inr (.inr (.inl (some q)))))) r μ
  | .inr (.inr (.inr (.inr b))) :: r => pt_go n (pt_ls1 L x (.inr (.inr (.inr (.inr b))))) r μ
  | _ => none
def pt_stI (n : Nat) (L : pt_L) (st : List pt_V) (μ : pt_M) (x : Nat) : Option pt_C := match st with
  | .inl v :: r => pt_go n (pt_ls1 L x (.inl v)) r μ
  | _ => none
def pt_stJ (n : Nat) (L : pt_L) (st : List pt_V) (μ : pt_M) (x : Nat) : Option pt_C := match st with
  | .inr (.inl v) :: r => pt_go n (pt_ls2 L x (.inr (.inl v))) r μ
  | _ => none
def pt_stD (n : Nat) (L : pt_L) (st : List pt_V) (μ : pt_M) (x : Nat) : Option pt_C := match st with
  | .inr (.inr (.inl v)) :: r => pt_go n (pt_ls2 L x (.inr (.inr (.inl v)))) r μ
  | _ => none
def pt_if0 (c : ClassFile.Cond) (n t : Nat) (L : pt_L) (st : List pt_V) (μ : pt_M) : Option pt_C := match st with
  | .inl x :: r => (match c with
    | .eq => if x = 0 then pt_go t L r μ else pt_go n L r μ
    | .ne => if ¬ x = 0 then pt_go t L r μ else pt_go n L r μ
    | .lt => if x < 0 then pt_go t L r μ else pt_go n L r μ
    | .ge => if 0 ≤ x then pt_go t L r μ else pt_go n L r μ
    | .gt => if 0 < x then pt_go t L r μ else pt_go n L r μ
    | .le => if x ≤ 0 then pt_go t L r μ else pt_go n L r μ)
  | _ => none
def pt_if2 (c : ClassFile.Cond) (n t : Nat) (L : pt_L) (st : List pt_V) (μ : pt_M) : Option pt_C := match st with
  | .inl y :: .inl x :: r => (match c with
    | .eq => if x = y then pt_go t L r μ else pt_go n L r μ
    | .ne => if ¬ x = y then pt_go t L r μ else pt_go n L r μ
    | .lt => if x < y then pt_go t L r μ else pt_go n L r μ
    | .ge => if y ≤ x then pt_go t L r μ else pt_go n L r μ
    | .gt => if y < x then pt_go t L r μ else pt_go n L r μ
    | .le => if x ≤ y then pt_go t L r μ else pt_go n L r μ)
  | _ => none
def pt_getf (n : Nat) (L : pt_L) (st : List pt_V) (μ : pt_M) (x y : Nat) : Option pt_C := match st with
  | .inr (.inr (.inr (.inl (some (c, a))))) :: r => bif Nat.beq c x then (match pt_ft x y with
      | 0 => pt_go n L (.inl (pt_rI μ c a y) :: r) μ
      | 1 => pt_go n L (.inl (pt_rI μ c a y) :: r) μ
      | 2 => pt_go n L (.inr (.inl (pt_rJ μ c a y)) :: r) μ
      | 3 => (match pt_rR μ c a y with
        | some q => pt_go n L (.inr (.inr (.inr (.inl (some q)))) :: r) μ
        | none => none)
      | _ => none) else none
  | _ => none
def pt_putf (n : Nat) (L : pt_L) (st : List pt_V) (μ : pt_M) (x y : Nat) : Option pt_C := match st with
  | .inl v :: .inr (.inr (.inr (.inl (some (c, a))))) :: r => bif Nat.beq c x then (match pt_ft x y with
      | 0 => pt_go n L r (pt_wI μ c a y v)
      | 1 => if v = 0 ∨ v = 1 then pt_go n L r (pt_wI μ c a y v) else none
      | _ => none) else none
  | .inr (.inl v) :: .inr (.inr (.inr (.inl (some (c, a))))) :: r => bif Nat.beq c x then (match pt_ft x y with
      | 2 => pt_go n L r (pt_wJ μ c a y v)
      | _ => none) else none
  | .inr (.inr (.inr (.inl (some q)))) :: .inr (.inr (.inr (.inl (some (c, a))))) :: r => bif Nat.beq c x then (match pt_ft x y with
      | 3 => pt_go n L r (pt_wR μ c a y (some q))
      | _ => none) else none
  | _ => none
/-- a load from a row; et: the elements' type -/
def pt_ald (et : Nat) (ext : Option (Nat × (Nat → Int32))) (n : Nat) (L : pt_L) (st : List pt_V) (μ : pt_M) : Option pt_C := match st with
  | .inl i :: .inr (.inr (.inr (.inl (some (c, a))))) :: r => if ¬ (i < 0 ∨ pt_len c ≤ i.toNatClampNeg) then (bif Nat.beq (pt_ety c) et then (match et with
      | 0 => pt_go n L (.inl (pt_rI μ c a i.toNatClampNeg) :: r) μ
      | 1 => pt_go n L (.inl (pt_rI μ c a i.toNatClampNeg) :: r) μ
      | 2 => pt_go n L (.inr (.inl (pt_rJ μ c a i.toNatClampNeg)) :: r) μ
      | 3 => (match pt_rR μ c a i.toNatClampNeg with
        | some q => pt_go n L (.inr (.inr (.inr (.inl (some q)))) :: r) μ
        | none => none)
      | _ => none) else none) else none
  | .inl i :: .inr (.inr (.inr (.inr true))) :: r => (match ext, et with
      | some (N, f), 0 => if ¬ (i < 0 ∨ N ≤ i.toNatClampNeg) then pt_go n L (.inl (f i.toNatClampNeg) :: r) μ else none
      | _, _ => none)
  | _ => none
def pt_ast (et : Nat) (n : Nat) (L : pt_L) (st : List pt_V) (μ : pt_M) : Option pt_C := match st with
  | .inl v :: .inl i :: .inr (.inr (.inr (.inl (some (c, a))))) :: r => if ¬ (i < 0 ∨ pt_len c ≤ i.toNatClampNeg) then (bif Nat.beq (pt_ety c) et then (match et with
      | 0 => pt_go n L r (pt_wI μ c a i.toNatClampNeg v)
      | 1 => if v = 0 ∨ v = 1 then pt_go n L r (pt_wI μ c a i.toNatClampNeg v) else none
      | _ => none) else none) else none
  | .inr (.inl v) :: .inl i :: .inr (.inr (.inr (.inl (some (c, a))))) :: r => if ¬ (i < 0 ∨ pt_len c ≤ i.toNatClampNeg) then (bif Nat.beq (pt_ety c) et then (match et with
      | 2 => pt_go n L r (pt_wJ μ c a i.toNatClampNeg v)
      | _ => none) else none) else none
  | .inr (.inr (.inr (.inl (some (c2, a2))))) :: .inl i :: .inr (.inr (.inr (.inl (some (c, a))))) :: r => if ¬ (i < 0 ∨ pt_len c ≤ i.toNatClampNeg) then (bif Nat.beq (pt_ety c) et && Nat.beq c2 (pt_ekd c) then (match et with
      | 3 => pt_go n L r (pt_wR μ c a i.toNatClampNeg (some (c2, a2)))
      | _ => none) else none) else none
  | _ => none
/-- the receiver's class, where there is one -/
def pt_rcv (x y : Nat) (as : List pt_V) : Bool := match x with
  | 0 => true
  | 5 => true
  | _ => (match as with
    | .inr (.inr (.inr (.inl (some (c, _))))) :: _ => Nat.beq c (pt_own y)
    | _ => false)
def pt_fit (k y : Nat) (as r : List pt_V) : Bool := Nat.ble (pt_fr y + 1) (pt_fr k) && Nat.ble (8 + (pt_maxL y + 11) + pt_lo y) (pt_lo k) && Nat.ble (pt_cats r) 8 && Nat.ble (pt_flat as).length (pt_maxL y)
def pt_inv (k n : Nat) (L : pt_L) (st : List pt_V) (μ : pt_M) (x y z : Nat) : Option pt_C := match x with
  | 4 => (match st with
    | .inr (.inr (.inr (.inl (some _)))) :: r => bif Nat.ble (pt_cats r) 8 && (Nat.ble 1 (pt_fr k) && Nat.ble 20 (pt_lo k)) then pt_go n L r μ else none
    | _ => none)
  | 6 => (match st with
    | .inl m :: .inl dp :: .inr (.inr (.inr (.inl (some (c1, a1))))) :: .inl sp :: .inr (.inr (.inr (.inl (some (c0, a0))))) :: r =>
      if ¬ (m < 0 ∨ dp < 0 ∨ sp < 0) ∧ sp.toNatClampNeg + m.toNatClampNeg ≤ pt_len c0 ∧ dp.toNatClampNeg + m.toNatClampNeg ≤ pt_len c1 then
        (bif Nat.beq (pt_ety c0) 0 && (Nat.beq (pt_ety c1) 0 && (Nat.ble (pt_cats r) 8 && (Nat.ble 1 (pt_fr k) && Nat.ble 26 (pt_lo k)))) then pt_go n L r (pt_wRow μ c1 a1 (va_cpy (pt_rI μ c0 a0) (pt_rI μ c1 a1) sp.toNatClampNeg dp.toNatClampNeg m.toNatClampNeg)) else none) else none
    | _ => none)
  | 9 => none
  | _ => (match pt_pop z [] st with
    | some (as, r) => bif pt_rcv x y as && pt_fit k y as r then some (.inr (.inl (y, as, n, r))) else none
    | none => none)
def pt_end (v : Option pt_V) : Option pt_C := some (.inr (.inr (.inl v)))
def pt_step (k : Nat) (ext : Option (Nat × (Nat → Int32))) (e : pt_E) (L : pt_L) (st : List pt_V) (μ : pt_M) : Option pt_C :=
  match e with
  | (i, n, t, x, y, z, c) =>
  match i with
  | .aload _ => pt_ldR n L st μ x
  | .aload_n _ => pt_ldR n L st μ x
  | .iload _ => pt_ldI n L st μ x
  | .iload_n _ => pt_ldI n L st μ x
  | .lload _ => pt_ldJ n L st μ x
  | .lload_n _ => pt_ldJ n L st μ x
  | .dload _ => pt_ldD n L st μ x
  | .dload_n _ => pt_ldD n L st μ x
  | .astore _ => pt_stR n L st μ x
  | .astore_n _ => pt_stR n L st μ x
  | .istore _ => pt_stI n L st μ x
  | .istore_n _ => pt_stI n L st μ x
  | .lstore _ => pt_stJ n L st μ x
  | .lstore_n _ => pt_stJ n L st μ x
  | .dstore _ => pt_stD n L st μ x
  | .dstore_n _ => pt_stD n L st μ x
  | .iconst _ => pt_go n L (c :: st) μ
  | .bipush _ => pt_go n L (c :: st) μ
  | .sipush _ => pt_go n L (c :: st) μ
  | .lconst _ => pt_go n L (c :: st) μ
  | .dconst _ => pt_go n L (c :: st) μ
  | .ldc _ => (match c with
    | .inl v => pt_go n L (.inl v :: st) μ
    | _ => none)
  | .ldc_w _ => (match c with
    | .inl v => pt_go n L (.inl v :: st) μ
    | _ => none)
  | .ldc2_w _ => pt_go n L (c :: st) μ
  | .iinc _ _ => (match pt_lg L x, c with
    | some (.inl v), .inl d => pt_go n (pt_ls1 L x (.inl (v + d))) st μ
    | _, _ => none)
  | .iadd => pt_i2 (fun a b => a + b) n L st μ
  | .isub => pt_i2 (fun a b => a - b) n L st μ
  | .imul => pt_i2 (fun a b => a * b) n L st μ
  | .iand => pt_i2 (fun a b => a &&& b) n L st μ
  | .ior => pt_i2 (fun a b => a ||| b) n L st μ
  | .ixor => pt_i2 (fun a b => a ^^^ b) n L st μ
  | .ishl => pt_i2 (fun a b => a <<< (b &&& 31)) n L st μ
  | .ishr => pt_i2 (fun a b => a >>> (b &&& 31)) n L st μ
  | .iushr => pt_i2 (fun a b => (a.toUInt32 >>> (b.toUInt32 &&& Int32.toUInt32 31)).toInt32) n L st μ
  | .idiv => (match st with
    | .inl b :: .inl a :: r => if b = 0 then none else pt_go n L (.inl (a / b) :: r) μ
    | _ => none)
  | .irem => (match st with
    | .inl b :: .inl a :: r => if b = 0 then none else pt_go n L (.inl (a - a / b * b) :: r) μ
    | _ => none)
  | .ladd => pt_j2 (fun a b => a + b) n L st μ
  | .lsub => pt_j2 (fun a b => a - b) n L st μ
  | .lmul => pt_j2 (fun a b => a * b) n L st μ
  | .lshl => (match st with
    | .inl b :: .inr (.inl a) :: r => pt_go n L (.inr (.inl (a <<< (b.toInt64 &&& 63))) :: r) μ
    | _ => none)
  | .i2l => (match st with
    | .inl a :: r => pt_go n L (.inr (.inl a.toInt64) :: r) μ
    | _ => none)
  | .i2d => (match st with
    | .inl a :: r => pt_go n L (.inr (.inr (.inl (FP.i2d a))) :: r) μ
    | _ => none)
  | .d2l => (match st with
    | .inr (.inr (.inl a)) :: r => pt_go n L (.inr (.inl (FP.d2l a)) :: r) μ
    | _ => none)
  | .lcmp => (match st with
    | .inr (.inl b) :: .inr (.inl a) :: r => pt_go n L (.inl (lg_cmp a b) :: r) μ
    | _ => none)
  | .dcmp op => (match st with
    | .inr (.inr (.inl b)) :: .inr (.inr (.inl a)) :: r => pt_go n L (.inl (Op.cmpValue (FP.dcmp a b) op) :: r) μ
    | _ => none)
  | .dmul => pt_d2 FP.dmul n L st μ
  | .dsub => pt_d2 FP.dsub n L st μ
  | .ddiv => pt_d2 FP.ddiv n L st μ
  | .dup => (match st with
    | .inl a :: r => pt_go n L (.inl a :: .inl a :: r) μ
    | .inr (.inr (.inr a)) :: r => pt_go n L (.inr (.inr (.inr a)) :: .inr (.inr (.inr a)) :: r) μ
    | _ => none)
  | .dup2 => (match st with
    | .inr (.inl a) :: r => pt_go n L (.inr (.inl a) :: .inr (.inl a) :: r) μ
    | .inl a :: .inr (.inr (.inr b)) :: r => pt_go n L (.inl a :: .inr (.inr (.inr b)) :: .inl a :: .inr (.inr (.inr b)) :: r) μ
    | _ => none)
  | .pop => (match st with
    | .inl _ :: r => pt_go n L r μ
    | .inr (.inr (.inr _)) :: r => pt_go n L r μ
    | _ => none)
  | .goto _ => pt_go t L st μ
  | .ifCond q _ => pt_if0 q n t L st μ
  | .if_icmp q _ => pt_if2 q n t L st μ
  | .tableswitch d lo hi offs => (match st with
    | .inl v :: r => if v.toInt < lo ∨ hi < v.toInt then pt_go t L r μ else (match offs[(v.toInt - lo).toNat]? with
      | some o => pt_go (((z : Int) + o).toNat) L r μ
      | none => none)
    | _ => none)
  | .getfield _ => pt_getf n L st μ x y
  | .putfield _ => pt_putf n L st μ x y
  | .iaload => pt_ald 0 ext n L st μ
  | .baload => pt_ald 1 ext n L st μ
  | .laload => pt_ald 2 ext n L st μ
  | .aaload => pt_ald 3 ext n L st μ
  | .iastore => pt_ast 0 n L st μ
  | .bastore => pt_ast 1 n L st μ
  | .lastore => pt_ast 2 n L st μ
  | .aastore => pt_ast 3 n L st μ
  | .arraylength => (match st, ext with
    | .inr (.inr (.inr (.inr true))) :: r, some (N, _) => pt_go n L (.inl (Int32.ofNat N) :: r) μ
    | _, _ => none)
  | .new _ => bif Nat.ble 100 x then (match st with
      | [] => some (.inr (.inr (.inr (x % 10))))
      | _ => none)
    else pt_go n L (vR x (pt_cn μ x) :: st) (pt_nw μ x)
  | .newarray _ => (match st with
    | .inl v :: r => if ¬ v < 0 ∧ v.toNatClampNeg = pt_len x then pt_go n L (vR x (pt_cn μ x) :: r) (pt_nw μ x) else none
    | _ => none)
  | .anewarray _ => (match st with
    | .inl v :: r => if ¬ v < 0 ∧ v.toNatClampNeg = pt_len x then pt_go n L (vR x (pt_cn μ x) :: r) (pt_nw μ x) else none
    | _ => none)
  | .invokestatic _ => pt_inv k n L st μ x y z
  | .invokevirtual _ => pt_inv k n L st μ x y z
  | .invokespecial _ => pt_inv k n L st μ x y z
  | .ireturn => (match st with
    | [.inl v] => (match pt_ret k with
      | 1 => pt_end (some (.inl v))
      | 2 => if v = 0 ∨ v = 1 then pt_end (some (.inl v)) else none
      | _ => none)
    | _ => none)
  | .lreturn => (match st with
    | [.inr (.inl v)] => bif Nat.beq (pt_ret k) 3 then pt_end (some (.inr (.inl v))) else none
    | _ => none)
  | .dreturn => (match st with
    | [.inr (.inr (.inl v))] => bif Nat.beq (pt_ret k) 4 then pt_end (some (.inr (.inr (.inl v)))) else none
    | _ => none)
  | .return_ => (match st with
    | [] => bif Nat.beq (pt_ret k) 0 then pt_end none else none
    | _ => none)
  | _ => none
