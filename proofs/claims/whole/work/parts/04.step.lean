abbrev AS : Type := Nat × LV × List AV × AH × Prop
def arK (k : Nat) : Nat := if k = 24 then 5 else 7
/-- one step of an instruction that neither branches nor calls: where it goes, and what must hold -/
def stp (own : Nat) (x : Nat × Instr × Nat) (lv : LV) (st : List AV) (h : AH) : Option AS :=
  match x.2.1 with
  | .iconst n => some (x.1 + 1, lv, vi (ii n) :: st, h, True)
  | .bipush n => if (Int8.ofInt n).toInt32 = ii n then some (x.1 + 2, lv, vi (ii n) :: st, h, True) else none
  | .sipush n => if (Int16.ofInt n).toInt32 = ii n then some (x.1 + 3, lv, vi (ii n) :: st, h, True) else none
  | .lconst n => some (x.1 + 1, lv, vl (Int64.ofNat n.val) :: st, h, True)
  | .iload_n k => match lv[k.val]? with
    | some (some (.inl y)) => some (x.1 + 1, lv, vi y :: st, h, True)
    | _ => none
  | .iload k => match lv[k]? with
    | some (some (.inl y)) => some (x.1 + 2, lv, vi y :: st, h, True)
    | _ => none
  | .lload_n k => match lv[k.val]? with
    | some (some (.inr (.inl y))) => some (x.1 + 1, lv, vl y :: st, h, True)
    | _ => none
  | .lload k => match lv[k]? with
    | some (some (.inr (.inl y))) => some (x.1 + 2, lv, vl y :: st, h, True)
    | _ => none
  | .aload_n k => match lv[k.val]? with
    | some (some (.inr (.inr y))) => some (x.1 + 1, lv, .inr (.inr y) :: st, h, True)
    | _ => none
  | .aload k => match lv[k]? with
    | some (some (.inr (.inr y))) => some (x.1 + 2, lv, .inr (.inr y) :: st, h, True)
    | _ => none
  | .istore_n k => match st with
    | .inl y :: st => if k.val < lv.length then some (x.1 + 1, s1 lv k.val (vi y), st, h, True) else none
    | _ => none
  | .istore k => match st with
    | .inl y :: st => if k < lv.length then some (x.1 + 2, s1 lv k (vi y), st, h, True) else none
    | _ => none
  | .lstore_n k => match st with
    | .inr (.inl y) :: st => if k.val + 1 < lv.length then some (x.1 + 1, s2 lv k.val (vl y), st, h, True) else none
    | _ => none
  | .lstore k => match st with
    | .inr (.inl y) :: st => if k + 1 < lv.length then some (x.1 + 2, s2 lv k (vl y), st, h, True) else none
    | _ => none
  | .astore_n k => match st with
    | .inr (.inr y) :: st => if k.val < lv.length then some (x.1 + 1, s1 lv k.val (.inr (.inr y)), st, h, True) else none
    | _ => none
  | .astore k => match st with
    | .inr (.inr y) :: st => if k < lv.length then some (x.1 + 2, s1 lv k (.inr (.inr y)), st, h, True) else none
    | _ => none
  | .iinc k n => match lv[k]? with
    | some (some (.inl y)) => if k < lv.length then some (x.1 + 3, s1 lv k (vi (y + ii n)), st, h, True) else none
    | _ => none
  | .iadd => match st with
    | .inl y :: .inl z :: st => some (x.1 + 1, lv, vi (z + y) :: st, h, True)
    | _ => none
  | .isub => match st with
    | .inl y :: .inl z :: st => some (x.1 + 1, lv, vi (z - y) :: st, h, True)
    | _ => none
  | .imul => match st with
    | .inl y :: .inl z :: st => some (x.1 + 1, lv, vi (z * y) :: st, h, True)
    | _ => none
  | .idiv => match st with
    | .inl y :: .inl z :: st => some (x.1 + 1, lv, vi (z / y) :: st, h, ¬ y = 0)
    | _ => none
  | .irem => match st with
    | .inl y :: .inl z :: st => some (x.1 + 1, lv, vi (z - z / y * y) :: st, h, ¬ y = 0)
    | _ => none
  | .ineg => match st with
    | .inl y :: st => some (x.1 + 1, lv, vi (-y) :: st, h, True)
    | _ => none
  | .iand => match st with
    | .inl y :: .inl z :: st => some (x.1 + 1, lv, vi (z &&& y) :: st, h, True)
    | _ => none
  | .ior => match st with
    | .inl y :: .inl z :: st => some (x.1 + 1, lv, vi (z ||| y) :: st, h, True)
    | _ => none
  | .ixor => match st with
    | .inl y :: .inl z :: st => some (x.1 + 1, lv, vi (z ^^^ y) :: st, h, True)
    | _ => none
  | .ishl => match st with
    | .inl y :: .inl z :: st => some (x.1 + 1, lv, vi (z <<< (y &&& 31)) :: st, h, True)
    | _ => none
  | .ishr => match st with
    | .inl y :: .inl z :: st => some (x.1 + 1, lv, vi (z >>> (y &&& 31)) :: st, h, True)
    | _ => none
  | .iushr => match st with
    | .inl y :: .inl z :: st => some (x.1 + 1, lv, vi ((z.toUInt32 >>> (y.toUInt32 &&& Int32.toUInt32 31)).toInt32) :: st, h, True)
    | _ => none
  | .ladd => match st with
    | .inr (.inl y) :: .inr (.inl z) :: st => some (x.1 + 1, lv, vl (z + y) :: st, h, True)
    | _ => none
  | .lsub => match st with
    | .inr (.inl y) :: .inr (.inl z) :: st => some (x.1 + 1, lv, vl (z - y) :: st, h, True)
    | _ => none
  | .lmul => match st with
    | .inr (.inl y) :: .inr (.inl z) :: st => some (x.1 + 1, lv, vl (z * y) :: st, h, True)
    | _ => none
  | .ldiv => match st with
    | .inr (.inl y) :: .inr (.inl z) :: st => some (x.1 + 1, lv, vl (z / y) :: st, h, ¬ y = 0)
    | _ => none
  | .lrem => match st with
    | .inr (.inl y) :: .inr (.inl z) :: st => some (x.1 + 1, lv, vl (z - z / y * y) :: st, h, ¬ y = 0)
    | _ => none
  | .land => match st with
    | .inr (.inl y) :: .inr (.inl z) :: st => some (x.1 + 1, lv, vl (z &&& y) :: st, h, True)
    | _ => none
  | .lor => match st with
    | .inr (.inl y) :: .inr (.inl z) :: st => some (x.1 + 1, lv, vl (z ||| y) :: st, h, True)
    | _ => none
  | .lshl => match st with
    | .inl y :: .inr (.inl z) :: st => some (x.1 + 1, lv, vl (z <<< (y.toInt64 &&& 63)) :: st, h, True)
    | _ => none
  | .lushr => match st with
    | .inl y :: .inr (.inl z) :: st => some (x.1 + 1, lv, vl ((z.toUInt64 >>> (y.toInt64.toUInt64 &&& Int64.toUInt64 63)).toInt64) :: st, h, True)
    | _ => none
  | .lcmp => match st with
    | .inr (.inl y) :: .inr (.inl z) :: st => some (x.1 + 1, lv, vi (lg_cmp z y) :: st, h, True)
    | _ => none
  | .i2l => match st with
    | .inl y :: st => some (x.1 + 1, lv, vl y.toInt64 :: st, h, True)
    | _ => none
  | .l2i => match st with
    | .inr (.inl y) :: st => some (x.1 + 1, lv, vi y.toInt32 :: st, h, True)
    | _ => none
  | .i2b => match st with
    | .inl y :: st => some (x.1 + 1, lv, vi y.toInt8.toInt32 :: st, h, True)
    | _ => none
  | .i2c => match st with
    | .inl y :: st => some (x.1 + 1, lv, vi (y.toUInt32 % 65536).toInt32 :: st, h, True)
    | _ => none
  | .dup => match st with
    | v :: st => if catA v = 1 then some (x.1 + 1, lv, v :: v :: st, h, True) else none
    | _ => none
  | .pop => match st with
    | v :: st => if catA v = 1 then some (x.1 + 1, lv, st, h, True) else none
    | _ => none
  | .dup2 => match st with
    | v :: w :: st => if catA v = 1 ∧ catA w = 1 then some (x.1 + 1, lv, v :: w :: v :: w :: st, h, True) else none
    | _ => none
  | .dup_x1 => match st with
    | v :: w :: st => if catA v = 1 ∧ catA w = 1 then some (x.1 + 1, lv, v :: w :: v :: st, h, True) else none
    | _ => none
  | .ldc k => match fnd k (am_cpc.getD own []) with
    | some (0, n, _) => some (x.1 + 2, lv, vi (ii n) :: st, h, True)
    | some (1, n, _) => some (x.1 + 2, lv, vr 31 0 n.toNat :: st, h, True)
    | _ => none
  | .ldc_w k => match fnd k (am_cpc.getD own []) with
    | some (0, n, _) => some (x.1 + 3, lv, vi (ii n) :: st, h, True)
    | some (1, n, _) => some (x.1 + 3, lv, vr 31 0 n.toNat :: st, h, True)
    | _ => none
  | .ldc2_w k => match fnd k (am_cpl.getD own []) with
    | some (n, _) => some (x.1 + 3, lv, vl (Int64.ofInt n) :: st, h, True)
    | _ => none
  | .getfield k => match fnd k (am_cpf.getD own []), st with
    | some (ci, j, _, _), .inr (.inr (kk, _, o)) :: st => if kk = ci then (match rdF ci j o h with
      | some v => some (x.1 + 3, lv, v :: st, h, True)
      | none => none) else none
    | _, _ => none
  | .putfield k => match fnd k (am_cpf.getD own []), st with
    | some (ci, j, _, _), v :: .inr (.inr (kk, _, o)) :: st => if kk = ci then (match wrF ci j o v h with
      | some (h', g) => some (x.1 + 3, lv, st, h', g)
      | none => none) else none
    | _, _ => none
  | .getstatic k => match fnd k (am_cps.getD own []) with
    | some (0, t, _, _) => some (x.1 + 3, lv, vr 30 (taL t) t :: st, h, True)
    | some (1, _, _, _) => some (x.1 + 3, lv, vi 1 :: st, h, True)
    | _ => none
  | .iaload => match st with
    | .inl i :: .inr (.inr (20, n, o)) :: st => some (x.1 + 1, lv, vi (h.1 o i.toNatClampNeg) :: st, h, inb i n = true)
    | .inl i :: .inr (.inr (30, n, o)) :: st => some (x.1 + 1, lv, vi (ii ((am_sta.getD o []).getD i.toNatClampNeg 0)) :: st, h, inb i n = true)
    | _ => none
  | .baload => match st with
    | .inl i :: .inr (.inr (21, n, o)) :: st => some (x.1 + 1, lv, vi (h.1 o i.toNatClampNeg) :: st, h, inb i n = true)
    | .inl i :: .inr (.inr (22, n, o)) :: st => some (x.1 + 1, lv, vi (h.1 o i.toNatClampNeg) :: st, h, inb i n = true)
    | .inl i :: .inr (.inr (32, n, o)) :: st => some (x.1 + 1, lv, vi ((am_str.getD o []).getD i.toNatClampNeg 0) :: st, h, inb i n = true)
    | _ => none
  | .laload => match st with
    | .inl i :: .inr (.inr (23, n, o)) :: st => some (x.1 + 1, lv, vl (h.2.1 o i.toNatClampNeg) :: st, h, inb i n = true)
    | _ => none
  | .aaload => match st with
    | .inl i :: .inr (.inr (24, n, o)) :: st => some (x.1 + 1, lv, vr 5 0 (h.2.2 o i.toNatClampNeg) :: st, h, inb i n = true)
    | .inl i :: .inr (.inr (25, n, o)) :: st => some (x.1 + 1, lv, vr 7 0 (h.2.2 o i.toNatClampNeg) :: st, h, inb i n = true)
    | _ => none
  | .iastore => match st with
    | .inl y :: .inl i :: .inr (.inr (20, n, o)) :: st => some (x.1 + 1, lv, st, wI h o i.toNatClampNeg y, inb i n = true)
    | _ => none
  | .bastore => match st with
    | .inl y :: .inl i :: .inr (.inr (21, n, o)) :: st => some (x.1 + 1, lv, st, wI h o i.toNatClampNeg y.toInt8.toInt32, inb i n = true)
    | .inl y :: .inl i :: .inr (.inr (22, n, o)) :: st => some (x.1 + 1, lv, st, wI h o i.toNatClampNeg (vp_nar .boolean y), inb i n = true)
    | _ => none
  | .lastore => match st with
    | .inr (.inl y) :: .inl i :: .inr (.inr (23, n, o)) :: st => some (x.1 + 1, lv, st, wL h o i.toNatClampNeg y, inb i n = true)
    | _ => none
  | .aastore => match st with
    | .inr (.inr (5, _, q)) :: .inl i :: .inr (.inr (24, n, o)) :: st => some (x.1 + 1, lv, st, wR h o i.toNatClampNeg q, inb i n = true)
    | .inr (.inr (7, _, q)) :: .inl i :: .inr (.inr (25, n, o)) :: st => some (x.1 + 1, lv, st, wR h o i.toNatClampNeg q, inb i n = true)
    | _ => none
  | .arraylength => match st with
    | .inr (.inr (k, n, _)) :: st => if k = 20 ∨ k = 21 ∨ k = 22 ∨ k = 23 ∨ k = 24 ∨ k = 25 ∨ k = 30 ∨ k = 32 then some (x.1 + 1, lv, vi (ii (n : Int)) :: st, h, True) else none
    | _ => none
  | .goto off => if 0 ≤ (x.1 : Int) + off then some (((x.1 : Int) + off).toNat, lv, st, h, True) else none
  | _ => none
/-- a block -/
def blk (own : Nat) : List (Nat × Instr × Nat) → Nat → LV → List AV → AH → Option AS
  | [], pc, lv, st, h => some (pc, lv, st, h, True)
  | x :: l, pc, lv, st, h => if pc = x.1 then (match stp own x lv st h with
    | some (pc', lv', st', h', g) => (match blk own l pc' lv' st' h' with
      | some (pc2, lv2, st2, h2, g2) => some (pc2, lv2, st2, h2, g ∧ g2)
      | none => none)
    | none => none) else none
