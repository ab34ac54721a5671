/-! What a program checks of each instruction against the bytes and the links. -/
def pt_ty : Nat → FieldType
  | 0 => .int
  | 1 => .boolean
  | 2 => .int
  | _ => .int
def pt_ck (k pc : Nat) (e : pt_E) : Bool := match e with
  | (i, n, t, x, y, z, c) => decide (decode (pt_by k) pc = .ok (i, n - pc)) && Nat.blt pc n && (match i with
    | .aload j => Nat.beq n (pc + 2) && Nat.beq x j
    | .iload j => Nat.beq n (pc + 2) && Nat.beq x j
    | .lload j => Nat.beq n (pc + 2) && Nat.beq x j
    | .dload j => Nat.beq n (pc + 2) && Nat.beq x j
    | .aload_n j => Nat.beq n (pc + 1) && Nat.beq x j.val
    | .iload_n j => Nat.beq n (pc + 1) && Nat.beq x j.val
    | .lload_n j => Nat.beq n (pc + 1) && Nat.beq x j.val
    | .dload_n j => Nat.beq n (pc + 1) && Nat.beq x j.val
    | .astore j => Nat.beq n (pc + 2) && Nat.beq x j && Nat.blt x (pt_maxL k)
    | .istore j => Nat.beq n (pc + 2) && Nat.beq x j && Nat.blt x (pt_maxL k)
    | .lstore j => Nat.beq n (pc + 2) && Nat.beq x j && Nat.blt (x + 1) (pt_maxL k)
    | .dstore j => Nat.beq n (pc + 2) && Nat.beq x j && Nat.blt (x + 1) (pt_maxL k)
    | .astore_n j => Nat.beq n (pc + 1) && Nat.beq x j.val && Nat.blt x (pt_maxL k)
    | .istore_n j => Nat.beq n (pc + 1) && Nat.beq x j.val && Nat.blt x (pt_maxL k)
    | .lstore_n j => Nat.beq n (pc + 1) && Nat.beq x j.val && Nat.blt (x + 1) (pt_maxL k)
    | .dstore_n j => Nat.beq n (pc + 1) && Nat.beq x j.val && Nat.blt (x + 1) (pt_maxL k)
    | .iconst v => Nat.beq n (pc + 1) && decide (c = .inl (Int32.ofInt v))
    | .bipush v => Nat.beq n (pc + 2) && decide (c = .inl (Int8.ofInt v).toInt32)
    | .sipush v => Nat.beq n (pc + 3) && decide (c = .inl (Int16.ofInt v).toInt32)
    | .lconst v => Nat.beq n (pc + 1) && decide (c = .inr (.inl (Int64.ofNat v.val)))
    | .dconst v => Nat.beq n (pc + 1) && ((decide (v = 0) && decide (c = .inr (.inr (.inl FP.dconst0)))) || (decide (v = 1) && decide (c = .inr (.inr (.inl FP.dconst1)))))
    | .ldc j => Nat.beq n (pc + 2) && (match c with | .inl _ => pt_cl.any (fun q => Nat.beq q.1 (pt_own k) && Nat.beq q.2.1 j && decide (q.2.2 = c)) | _ => true)
    | .ldc_w j => Nat.beq n (pc + 3) && (match c with | .inl _ => pt_cl.any (fun q => Nat.beq q.1 (pt_own k) && Nat.beq q.2.1 j && decide (q.2.2 = c)) | _ => true)
    | .ldc2_w j => Nat.beq n (pc + 3) && (pt_cl.any (fun q => Nat.beq q.1 (pt_own k) && Nat.beq q.2.1 j && decide (q.2.2 = c)) && (match c with | .inr (.inl _) => true | .inr (.inr (.inl _)) => true | _ => false))
    | .iinc j d => Nat.beq n (pc + 3) && Nat.beq x j && Nat.blt x (pt_maxL k) && decide (c = .inl (Int32.ofInt d))
    | .iadd => Nat.beq n (pc + 1)
    | .isub => Nat.beq n (pc + 1)
    | .imul => Nat.beq n (pc + 1)
    | .iand => Nat.beq n (pc + 1)
    | .ior => Nat.beq n (pc + 1)
    | .ixor => Nat.beq n (pc + 1)
    | .ishl => Nat.beq n (pc + 1)
    | .ishr => Nat.beq n (pc + 1)
    | .iushr => Nat.beq n (pc + 1)
    | .idiv => Nat.beq n (pc + 1)
    | .irem => Nat.beq n (pc + 1)
    | .ladd => Nat.beq n (pc + 1)
    | .lsub => Nat.beq n (pc + 1)
    | .lmul => Nat.beq n (pc + 1)
    | .lshl => Nat.beq n (pc + 1)
    | .i2l => Nat.beq n (pc + 1)
    | .i2d => Nat.beq n (pc + 1)
    | .d2l => Nat.beq n (pc + 1)
    | .lcmp => Nat.beq n (pc + 1)
    | .dcmp _ => Nat.beq n (pc + 1)
    | .dmul => Nat.beq n (pc + 1)
    | .dsub => Nat.beq n (pc + 1)
    | .ddiv => Nat.beq n (pc + 1)
    | .dup => Nat.beq n (pc + 1)
    | .dup2 => Nat.beq n (pc + 1)
    | .pop => Nat.beq n (pc + 1)
    | .goto o => Nat.beq n (pc + 3) && decide ((pc : Int) + o = (t : Int))
    | .ifCond _ o => Nat.beq n (pc + 3) && decide ((pc : Int) + o = (t : Int))
    | .if_icmp _ o => Nat.beq n (pc + 3) && decide ((pc : Int) + o = (t : Int))
    | .tableswitch d _ _ offs => decide ((pc : Int) + d = (t : Int)) && Nat.beq z pc && offs.toList.all (fun o => decide (0 ≤ (pc : Int) + o))
    | .getfield j => Nat.beq n (pc + 3) && decide ((pt_own k, j, x, y) ∈ pt_fl)
    | .putfield j => Nat.beq n (pc + 3) && decide ((pt_own k, j, x, y) ∈ pt_fl) && (!(pt_T x y).2.2.2 || (decide ((pt_nm k).name = "<init>") && Nat.beq (pt_own k) x))
    | .iaload => Nat.beq n (pc + 1)
    | .baload => Nat.beq n (pc + 1)
    | .laload => Nat.beq n (pc + 1)
    | .aaload => Nat.beq n (pc + 1)
    | .iastore => Nat.beq n (pc + 1)
    | .bastore => Nat.beq n (pc + 1)
    | .lastore => Nat.beq n (pc + 1)
    | .aastore => Nat.beq n (pc + 1)
    | .arraylength => Nat.beq n (pc + 1)
    | .new j => Nat.beq n (pc + 3) && (bif Nat.ble 100 x then (bif Nat.ble 110 x then decide (decode (pt_by k) (pc + 4) = .ok (.ldc_w y, 3)) && decide (decode (pt_by k) (pc + 7) = .ok (.invokespecial z, 3)) && decide (decode (pt_by k) (pc + 10) = .ok (.athrow, 1))
          else decide (decode (pt_by k) (pc + 4) = .ok (.ldc y, 2)) && decide (decode (pt_by k) (pc + 6) = .ok (.invokespecial z, 3)) && decide (decode (pt_by k) (pc + 9) = .ok (.athrow, 1)))
        && decide (decode (pt_by k) (pc + 3) = .ok (.dup, 1)) && decide ((pt_own k, j, z, x % 10) ∈ pt_tl) && decide ((pt_own k, y) ∈ pt_sl.map (fun q => (q.1, q.2.1))) && decide (pt_hand k = []) && Nat.ble 6 (pt_fr k) && Nat.ble 82 (pt_lo k)
      else decide ((pt_own k, j, x) ∈ pt_kl))
    | .newarray ty => Nat.beq n (pc + 2) && Nat.ble 10 x && Nat.blt x 24 && Nat.blt (pt_ety x) 3 && decide (newarray.typeOf ty = pt_ty (pt_ety x))
    | .anewarray j => Nat.beq n (pc + 3) && Nat.ble 10 x && Nat.blt x 24 && Nat.beq (pt_ety x) 3 && decide ((pt_own k, j, pt_ekd x) ∈ pt_kl)
    | .invokestatic j => Nat.beq n (pc + 3) && decide ((pt_own k, j, x, y, z) ∈ pt_ml) && (Nat.beq x 0 || Nat.beq x 5 || Nat.beq x 6)
    | .invokevirtual j => Nat.beq n (pc + 3) && decide ((pt_own k, j, x, y, z) ∈ pt_ml) && Nat.beq x 1
    | .invokespecial j => Nat.beq n (pc + 3) && (Nat.beq x 9 || (decide ((pt_own k, j, x, y, z) ∈ pt_ml) && (Nat.beq x 2 || Nat.beq x 4 || (Nat.beq x 3 && decide ((pt_own k, j, y) ∈ pt_nl)))))
    | .ireturn => Nat.beq n (pc + 1)
    | .lreturn => Nat.beq n (pc + 1)
    | .dreturn => Nat.beq n (pc + 1)
    | .return_ => Nat.beq n (pc + 1)
    | .areturn => true
    | .athrow => true
    | _ => false)
def pt_cks (k : Nat) (a b : Nat) : Bool := (List.range (b - a)).all (fun j => match pt_fe (pt_code k) (a + j) with
  | some e => pt_ck k (a + j) e
  | none => true)
