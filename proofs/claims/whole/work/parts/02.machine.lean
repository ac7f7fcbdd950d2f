/-! A small machine of numbers: values are (kind, whole number): 0 int, 1 long, 2 a cell by its number, 4 a text by its number (its bytes: 16 more), 5 the script, 6 a reference or null that nobody looks at. A memory is a function of cell and place. -/
abbrev em_V : Type := Nat × Int
abbrev em_M : Type := Int → Int → Int
abbrev em_L : Type := List (Nat × em_V)
def x32 (x : Int) : Int := x.bmod 4294967296
def x64 (x : Int) : Int := x.bmod 18446744073709551616
def xup (M : em_M) (a i v : Int) : em_M := fun b j => if b = a ∧ j = i then v else M b j
def xcpy (M : em_M) (s sp d dp n : Int) : em_M := fun b j => if b = d ∧ dp ≤ j ∧ j < dp + n then M s (sp + (j - dp)) else M b j
def x_and (a b : Int) : Int := (Int32.ofInt a &&& Int32.ofInt b).toInt
def x_or (a b : Int) : Int := (Int32.ofInt a ||| Int32.ofInt b).toInt
def x_xor (a b : Int) : Int := (Int32.ofInt a ^^^ Int32.ofInt b).toInt
def x_shl (a b : Int) : Int := (Int32.ofInt a <<< (Int32.ofInt b &&& 31)).toInt
def x_shr (a b : Int) : Int := (Int32.ofInt a >>> (Int32.ofInt b &&& 31)).toInt
def x_ushr (a b : Int) : Int := (((Int32.ofInt a).toUInt32 >>> ((Int32.ofInt b).toUInt32 &&& Int32.toUInt32 31)).toInt32).toInt
def x_i2b (a : Int) : Int := ((Int32.ofInt a).toInt8.toInt32).toInt
def x_i2c (a : Int) : Int := (((Int32.ofInt a).toUInt32 % 65536).toInt32).toInt
def x_land (a b : Int) : Int := (Int64.ofInt a &&& Int64.ofInt b).toInt
def x_lor (a b : Int) : Int := (Int64.ofInt a ||| Int64.ofInt b).toInt
def x_lshl (a b : Int) : Int := (Int64.ofInt a <<< ((Int32.ofInt b).toInt64 &&& 63)).toInt
def x_lshr (a b : Int) : Int := (Int64.ofInt a >>> ((Int32.ofInt b).toInt64 &&& 63)).toInt
def x_ldiv (a b : Int) : Int := (Int64.ofInt a / Int64.ofInt b).toInt
def x_lrem (a b : Int) : Int := (Int64.ofInt a - Int64.ofInt a / Int64.ofInt b * Int64.ofInt b).toInt
def x_cmp (a b : Int) : Int := if b < a then 1 else if a = b then 0 else -1
/-- the texts, by their letters -/
def em_str (k : Int) : List Int := em_nth em_strs k.toNat []
def em_slen (k : Int) : Int := ((em_str k).length : Int)
def em_chr (k i : Int) : Int := (em_str k).getD i.toNat 0
def em_ixf : List Int → Int → Int → Int
  | [], _, _ => -1
  | a :: r, c, n => bif decide (a = c) then n else em_ixf r c (n + 1)
def em_idx (k c : Int) : Int := em_ixf (em_str k) c 0
def em_isO (x ci : Int) : Bool := decide ((em_kd x : Int) = ci)
def em_get : em_L → Nat → Option em_V
  | [], _ => none
  | q :: r, i => bif Nat.beq q.1 i then some q.2 else em_get r i
def em_pick (ls : em_L) (L : List Nat) : em_L := L.filterMap (fun i => (em_get ls i).map (fun v => (i, v)))
def em_nrm (o : Option (List Nat)) (ls : em_L) : em_L := match o with
  | none => ls
  | some L => em_pick ls L
def em_set1 (ls : em_L) (i : Nat) (v : em_V) : em_L := (i, v) :: ls.filter (fun q => !(Nat.beq q.1 i) && !(Nat.beq (q.1 + 1) i && Nat.beq q.2.1 1))
def em_set2 (ls : em_L) (i : Nat) (v : em_V) : em_L := (i, v) :: ls.filter (fun q => !(Nat.beq q.1 i) && (!(Nat.beq q.1 (i + 1)) && !(Nat.beq (q.1 + 1) i && Nat.beq q.2.1 1)))
noncomputable def em_code (mid pc : Nat) : Option em_I := em_look (em_nth em_codes mid []) pc
/-- behind a step: ways and a last way, locals, stack, memory; a call: method, arguments, where to go on, locals, the stack below; an answer: whether it may be one, itself -/
abbrev em_R : Type := (List (Bool × Nat) × Nat × em_L × List em_V × em_M) ⊕ ((Nat × List em_V × Nat × em_L × List em_V × em_M) ⊕ (Bool × Int × em_M))
def em_to (pc : Nat) (ls : em_L) (st : List em_V) (M : em_M) : Option em_R := some (.inl ([], pc, ls, st, M))
def em_if (c : Bool) (pc : Nat) (ls : em_L) (st : List em_V) (M : em_M) : Option em_R := some (.inl ([(c, pc)], 999999, ls, st, M))
def em_br (c : Bool) (pc1 pc2 : Nat) (ls : em_L) (st : List em_V) (M : em_M) : Option em_R := some (.inl ([(c, pc1)], pc2, ls, st, M))
def em_tgt (pc : Nat) (off : Int) : Nat := ((pc : Int) + off).toNat
def em_p (t : Nat) : List em_V → Option (Int × List em_V)
  | [] => none
  | q :: r => bif Nat.beq q.1 t then some (q.2, r) else none
/-- two of a kind: the lower one, the upper one, the rest -/
def em_p2 (t u : Nat) (st : List em_V) (f : Int → Int → List em_V → Option em_R) : Option em_R :=
  (em_p u st).bind fun b => (em_p t b.2).bind fun a => f a.1 b.1 a.2
def em_cond (c : Jvm.ClassFile.Cond) (v : Int) : Bool := match c with
  | .eq => decide (v = 0)
  | .ne => decide (¬ v = 0)
  | .lt => decide (v < 0)
  | .ge => decide (0 ≤ v)
  | .gt => decide (0 < v)
  | .le => decide (v ≤ 0)
def em_icmp (c : Jvm.ClassFile.Cond) (a b : Int) : Bool := match c with
  | .eq => decide (a = b)
  | .ne => decide (¬ a = b)
  | .lt => decide (a < b)
  | .ge => decide (b ≤ a)
  | .gt => decide (b < a)
  | .le => decide (a ≤ b)
def em_sw (pc : Nat) (v : Int) : Int → List Int → List (Bool × Nat)
  | _, [] => []
  | lo, o :: r => (decide (v = lo), em_tgt pc o) :: em_sw pc v (lo + 1) r
def em_take : Nat → List em_V → List em_V → Option (List em_V × List em_V)
  | 0, st, acc => some (acc, st)
  | _ + 1, [], _ => none
  | n + 1, q :: r, acc => em_take n r (q :: acc)
def em_cat : List em_V → Nat
  | [] => 0
  | q :: r => (bif Nat.beq q.1 1 then 2 else 1) + em_cat r
def em_rcv (ci : Int) : List em_V → Bool
  | [] => false
  | q :: _ => bif decide (ci = -2) then Nat.beq q.1 4 && decide (0 ≤ q.2 ∧ q.2 < 16) else Nat.beq q.1 2 && em_isO q.2 ci
def em_args : Nat → List em_V → em_L
  | _, [] => []
  | i, v :: r => (i, v) :: em_args (i + (bif Nat.beq v.1 1 then 2 else 1)) r
/-- the kind of a method's answer: 0 int, 1 long, 2 a cell, 3 none, 4 a text, 5 boolean -/
def em_rk (mid : Nat) : Nat := em_nth em_rks mid 9
def em_lev (mid : Nat) : Nat := em_nth em_levs mid 0
def em_push (mid : Nat) (v : Int) (st : List em_V) : List em_V := match em_rk mid with
  | 0 => (0, v) :: st
  | 1 => (1, v) :: st
  | 2 => (2, v) :: st
  | 4 => (4, v) :: st
  | 5 => (0, v) :: st
  | 6 => (0, v) :: st
  | 7 => (0, v) :: st
  | _ => st
def em_dd (d mid : Nat) : Nat := bif Nat.blt (em_lev mid) d then em_lev mid else d
def em_isref (t : Nat) : Bool := Nat.beq t 2 || (Nat.beq t 4 || Nat.beq t 5)
def em_prim (pc : Nat) (k : Int) (ls : em_L) (st : List em_V) (M : em_M) : Option em_R :=
  bif decide (k = 1) then em_p2 0 0 st fun a b r => em_if (Nat.ble (em_cat r) 8) (pc + 3) ls ((0, max a b) :: r) M
  else bif decide (k = 2) then em_p2 0 0 st fun a b r => em_if (Nat.ble (em_cat r) 8) (pc + 3) ls ((0, min a b) :: r) M
  else bif decide (k = 3) then (em_p 0 st).bind fun n => em_p2 2 0 n.2 fun dst dp r => em_p2 2 0 r fun src sp r =>
    em_if (Nat.beq (em_kd src) (em_kd dst) && (Nat.beq (em_kd src) 100 || Nat.beq (em_kd src) 101) && Nat.ble (em_cat r) 8 && decide (0 ≤ sp ∧ 0 ≤ dp ∧ 0 ≤ n.1 ∧ sp + n.1 ≤ em_ln src ∧ dp + n.1 ≤ em_ln dst)) (pc + 3) ls r (xcpy M src sp dst dp n.1)
  else none
def em_call (pc : Nat) (ls : em_L) (st : List em_V) (M : em_M) : List Int → Option em_R
  | [k] => em_prim pc k ls st M
  | [mid, n, ci] => (em_take n.toNat st []).bind fun a => bif (decide (ci = -1) || em_rcv ci a.1) && Nat.ble (em_cat a.2) 8 && Nat.ble (em_cat a.1) (em_mx mid.toNat) then some (.inr (.inl (mid.toNat, a.1, pc + 3, ls, a.2, M))) else none
  | _ => none
def em_ret (mid : Nat) (v : Int) (M : em_M) : Option em_R := some (.inr (.inr ((bif Nat.beq (em_rk mid) 5 then decide (v = 0 ∨ v = 1) else bif Nat.beq (em_rk mid) 6 || Nat.beq (em_rk mid) 7 then decide (0 ≤ v ∧ v < 128) else true), v, M)))
def em_step (mid pc : Nat) (ins : Instr) (aux : List Int) (ls : em_L) (st : List em_V) (M : em_M) : Option em_R :=
  match ins with
  | .iconst n => em_to (pc + 1) ls ((0, n) :: st) M
  | .bipush n => em_to (pc + 2) ls ((0, n) :: st) M
  | .sipush n => em_to (pc + 3) ls ((0, n) :: st) M
  | .lconst n => em_to (pc + 1) ls ((1, ((n : Nat) : Int)) :: st) M
  | .ldc _ => match aux with
    | [0, v] => em_to (pc + 2) ls ((0, v) :: st) M
    | [1, v] => em_to (pc + 2) ls ((4, v) :: st) M
    | _ => none
  | .ldc_w _ => match aux with
    | [0, v] => em_to (pc + 3) ls ((0, v) :: st) M
    | _ => none
  | .ldc2_w _ => match aux with
    | [v] => em_to (pc + 3) ls ((1, v) :: st) M
    | _ => none
  | .iload i => (em_get ls i).bind fun q => bif Nat.beq q.1 0 then em_to (pc + 2) ls ((0, q.2) :: st) M else none
  | .iload_n i => (em_get ls (i : Nat)).bind fun q => bif Nat.beq q.1 0 then em_to (pc + 1) ls ((0, q.2) :: st) M else none
  | .lload i => (em_get ls i).bind fun q => bif Nat.beq q.1 1 then em_to (pc + 2) ls ((1, q.2) :: st) M else none
  | .lload_n i => (em_get ls (i : Nat)).bind fun q => bif Nat.beq q.1 1 then em_to (pc + 1) ls ((1, q.2) :: st) M else none
  | .aload i => (em_get ls i).bind fun q => bif em_isref q.1 then em_to (pc + 2) ls (q :: st) M else none
  | .aload_n i => (em_get ls (i : Nat)).bind fun q => bif em_isref q.1 then em_to (pc + 1) ls (q :: st) M else none
  | .istore i => (em_p 0 st).bind fun v => em_to (pc + 2) (em_set1 ls i (0, v.1)) v.2 M
  | .istore_n i => (em_p 0 st).bind fun v => em_to (pc + 1) (em_set1 ls (i : Nat) (0, v.1)) v.2 M
  | .lstore i => (em_p 1 st).bind fun v => em_to (pc + 2) (em_set2 ls i (1, v.1)) v.2 M
  | .lstore_n i => (em_p 1 st).bind fun v => em_to (pc + 1) (em_set2 ls (i : Nat) (1, v.1)) v.2 M
  | .astore i => match st with
    | q :: r => bif em_isref q.1 then em_to (pc + 2) (em_set1 ls i q) r M else none
    | [] => none
  | .astore_n i => match st with
    | q :: r => bif em_isref q.1 then em_to (pc + 1) (em_set1 ls (i : Nat) q) r M else none
    | [] => none
  | .iinc i n => (em_get ls i).bind fun q => bif Nat.beq q.1 0 then em_to (pc + 3) (em_set1 ls i (0, x32 (q.2 + n))) st M else none
  | .dup => match st with
    | q :: r => bif Nat.beq q.1 1 then none else em_to (pc + 1) ls (q :: q :: r) M
    | [] => none
  | .dup2 => match st with
    | q :: w :: r => bif Nat.beq q.1 1 || Nat.beq w.1 1 then none else em_to (pc + 1) ls (q :: w :: q :: w :: r) M
    | _ => none
  | .iadd => em_p2 0 0 st fun a b r => em_to (pc + 1) ls ((0, x32 (a + b)) :: r) M
  | .isub => em_p2 0 0 st fun a b r => em_to (pc + 1) ls ((0, x32 (a - b)) :: r) M
  | .imul => em_p2 0 0 st fun a b r => em_to (pc + 1) ls ((0, x32 (a * b)) :: r) M
  | .iand => em_p2 0 0 st fun a b r => em_to (pc + 1) ls ((0, x_and a b) :: r) M
  | .ior => em_p2 0 0 st fun a b r => em_to (pc + 1) ls ((0, x_or a b) :: r) M
  | .ixor => em_p2 0 0 st fun a b r => em_to (pc + 1) ls ((0, x_xor a b) :: r) M
  | .ishl => em_p2 0 0 st fun a b r => em_to (pc + 1) ls ((0, x_shl a b) :: r) M
  | .ishr => em_p2 0 0 st fun a b r => em_to (pc + 1) ls ((0, x_shr a b) :: r) M
  | .iushr => em_p2 0 0 st fun a b r => em_to (pc + 1) ls ((0, x_ushr a b) :: r) M
  | .i2b => (em_p 0 st).bind fun a => em_to (pc + 1) ls ((0, x_i2b a.1) :: a.2) M
  | .i2c => (em_p 0 st).bind fun a => em_to (pc + 1) ls ((0, x_i2c a.1) :: a.2) M
  | .i2l => (em_p 0 st).bind fun a => em_to (pc + 1) ls ((1, a.1) :: a.2) M
  | .l2i => (em_p 1 st).bind fun a => em_to (pc + 1) ls ((0, x32 a.1) :: a.2) M
  | .ladd => em_p2 1 1 st fun a b r => em_to (pc + 1) ls ((1, x64 (a + b)) :: r) M
  | .lsub => em_p2 1 1 st fun a b r => em_to (pc + 1) ls ((1, x64 (a - b)) :: r) M
  | .lmul => em_p2 1 1 st fun a b r => em_to (pc + 1) ls ((1, x64 (a * b)) :: r) M
  | .land => em_p2 1 1 st fun a b r => em_to (pc + 1) ls ((1, x_land a b) :: r) M
  | .lor => em_p2 1 1 st fun a b r => em_to (pc + 1) ls ((1, x_lor a b) :: r) M
  | .ldiv => em_p2 1 1 st fun a b r => em_if (decide (¬ b = 0)) (pc + 1) ls ((1, x_ldiv a b) :: r) M
  | .lrem => em_p2 1 1 st fun a b r => em_if (decide (¬ b = 0)) (pc + 1) ls ((1, x_lrem a b) :: r) M
  | .lshl => em_p2 1 0 st fun a b r => em_to (pc + 1) ls ((1, x_lshl a b) :: r) M
  | .lshr => em_p2 1 0 st fun a b r => em_to (pc + 1) ls ((1, x_lshr a b) :: r) M
  | .lcmp => em_p2 1 1 st fun a b r => em_to (pc + 1) ls ((0, x_cmp a b) :: r) M
  | .ifCond c off => (em_p 0 st).bind fun a => em_br (em_cond c a.1) (em_tgt pc off) (pc + 3) ls a.2 M
  | .if_icmp c off => em_p2 0 0 st fun a b r => em_br (em_icmp c a b) (em_tgt pc off) (pc + 3) ls r M
  | .goto off => em_to (em_tgt pc off) ls st M
  | .ifnull _ => (em_p 2 st).bind fun a => em_to (pc + 3) ls a.2 M
  | .ifnonnull off => (em_p 2 st).bind fun a => em_to (em_tgt pc off) ls a.2 M
  | .tableswitch dflt lo _ offs => (em_p 0 st).bind fun a => some (.inl (em_sw pc a.1 lo offs.toList, em_tgt pc dflt, ls, a.2, M))
  | .getfield _ => match aux with
    | [w] => (em_p 4 st).bind fun a => em_if (decide (0 ≤ a.1 ∧ a.1 < 16)) (pc + 3) ls ((bif decide (w = 0) then (4, a.1 + 16) else (0, 0)) :: a.2) M
    | [ci, k, tag, cf, off] => (em_p 2 st).bind fun a => em_if (em_isO a.1 ci) (pc + 3) ls ((bif decide (cf = 1) then (2, a.1 + off) else (tag.toNat, M a.1 k)) :: a.2) M
    | _ => none
  | .putfield _ => match aux with
    | [ci, k, tag, nk, cj] => em_p2 2 tag.toNat st fun a v r => em_if (em_isO a ci && (bif decide (nk = 1) then decide (v = 0 ∨ v = 1) else bif decide (nk = 2) then em_isO v cj else true)) (pc + 3) ls r (xup M a k v)
    | _ => none
  | .iaload => (em_p 0 st).bind fun i => match i.2 with
    | w :: r => bif Nat.beq w.1 5 then em_if (decide (0 ≤ i.1 ∧ i.1 < M (-2) 0)) (pc + 1) ls ((0, M (-1) i.1) :: r) M
      else bif Nat.beq w.1 2 then em_if (Nat.beq (em_kd w.2) 100 && decide (0 ≤ i.1 ∧ i.1 < em_ln w.2)) (pc + 1) ls ((0, M w.2 i.1) :: r) M else none
    | [] => none
  | .laload => em_p2 2 0 st fun a i r => em_if (Nat.beq (em_kd a) 101 && decide (0 ≤ i ∧ i < em_ln a)) (pc + 1) ls ((1, M a i) :: r) M
  | .baload => (em_p 0 st).bind fun i => match i.2 with
    | w :: r => bif Nat.beq w.1 4 then em_if (decide (16 ≤ w.2 ∧ w.2 < 32) && decide (0 ≤ i.1 ∧ i.1 < em_slen (w.2 - 16))) (pc + 1) ls ((0, em_chr (w.2 - 16) i.1) :: r) M
      else bif Nat.beq w.1 2 then em_if ((Nat.beq (em_kd w.2) 102 || Nat.beq (em_kd w.2) 103) && decide (0 ≤ i.1 ∧ i.1 < em_ln w.2)) (pc + 1) ls ((0, M w.2 i.1) :: r) M else none
    | [] => none
  | .aaload => em_p2 2 0 st fun a i r => em_if ((Nat.beq (em_kd a) 110 || (Nat.beq (em_kd a) 111 || Nat.beq (em_kd a) 112)) && decide (0 ≤ i ∧ i < em_ln a)) (pc + 1) ls ((2, a + 1 + i * (bif Nat.beq (em_kd a) 112 then 6 else 1)) :: r) M
  | .iastore => (em_p 0 st).bind fun v => em_p2 2 0 v.2 fun a i r => em_if (Nat.beq (em_kd a) 100 && decide (0 ≤ i ∧ i < em_ln a)) (pc + 1) ls r (xup M a i v.1)
  | .lastore => (em_p 1 st).bind fun v => em_p2 2 0 v.2 fun a i r => em_if (Nat.beq (em_kd a) 101 && decide (0 ≤ i ∧ i < em_ln a)) (pc + 1) ls r (xup M a i v.1)
  | .bastore => (em_p 0 st).bind fun v => em_p2 2 0 v.2 fun a i r => em_if ((Nat.beq (em_kd a) 102 || (Nat.beq (em_kd a) 103 && decide (v.1 = 0 ∨ v.1 = 1))) && decide (0 ≤ i ∧ i < em_ln a)) (pc + 1) ls r (xup M a i (bif Nat.beq (em_kd a) 102 then x_i2b v.1 else v.1))
  | .arraylength => match st with
    | w :: r => bif Nat.beq w.1 5 then em_to (pc + 1) ls ((0, M (-2) 0) :: r) M
      else bif Nat.beq w.1 4 then em_if (decide (16 ≤ w.2 ∧ w.2 < 32)) (pc + 1) ls ((0, em_slen (w.2 - 16)) :: r) M
      else bif Nat.beq w.1 2 then em_if (Nat.ble 100 (em_kd w.2) && Nat.blt (em_kd w.2) 200) (pc + 1) ls ((0, em_ln w.2) :: r) M else none
    | [] => none
  | .getstatic _ => match aux with
    | [0, v] => em_to (pc + 3) ls ((0, v) :: st) M
    | [1] => em_to (pc + 3) ls ((6, 0) :: st) M
    | _ => none
  | .pop => match st with
    | q :: r => bif Nat.beq q.1 1 then none else em_to (pc + 1) ls r M
    | [] => none
  | .invokevirtual _ => em_call pc ls st M aux
  | .invokestatic _ => em_call pc ls st M aux
  | .ireturn => match st with
    | [q] => bif Nat.beq q.1 0 && (Nat.beq (em_rk mid) 0 || (Nat.beq (em_rk mid) 5 || (Nat.beq (em_rk mid) 6 || Nat.beq (em_rk mid) 7))) then em_ret mid q.2 M else none
    | _ => none
  | .lreturn => match st with
    | [q] => bif Nat.beq q.1 1 && Nat.beq (em_rk mid) 1 then em_ret mid q.2 M else none
    | _ => none
  | .areturn => match st with
    | [q] => bif (Nat.beq q.1 2 && Nat.beq (em_rk mid) 2) || (Nat.beq q.1 4 && Nat.beq (em_rk mid) 4) then em_ret mid q.2 M else none
    | _ => none
  | .return_ => match st with
    | [] => bif Nat.beq (em_rk mid) 3 then em_ret mid 0 M else none
    | _ => none
  | _ => none
def em_sel : List (Bool × Nat) → Nat → Nat
  | [], d => d
  | q :: r, d => bif q.1 then q.2 else em_sel r d
noncomputable def em_run : Nat → Nat → Nat → Nat → em_L → List em_V → em_M → Option (Int × em_M)
  | 0, _, _, _, _, _, _ => none
  | n + 1, d, mid, pc, ls, st, M =>
    match em_code mid pc with
    | none => none
    | some xi => match em_step mid pc xi.1 xi.2.2.1 (em_nrm xi.2.2.2 ls) st M with
      | none => none
      | some (.inl b) => em_run n d mid (em_sel b.1 b.2.1) b.2.2.1 b.2.2.2.1 b.2.2.2.2
      | some (.inr (.inl c)) => match d with
        | 0 => none
        | d' + 1 => match em_run n (em_dd d' c.1) c.1 0 (em_args 0 c.2.1) [] c.2.2.2.2.2 with
          | none => none
          | some r => em_run n (d' + 1) mid c.2.2.1 c.2.2.2.1 (em_push c.1 r.1 c.2.2.2.2.1) r.2
      | some (.inr (.inr v)) => bif v.1 then some v.2 else none
theorem em_mono : ∀ (n d mid pc : Nat) (ls : em_L) (st : List em_V) (M : em_M) (r : Int × em_M), em_run n d mid pc ls st M = some r → em_run (n + 1) d mid pc ls st M = some r := by
  intro n
  induction n with
  | zero => intro d mid pc ls st M r h; cases h
  | succ n ih =>
    intro d mid pc ls st M r h
    rw [em_run] at h
    rw [em_run]
    cases hc : em_code mid pc with
    | none => rw [hc] at h; cases h
    | some xi =>
      rw [hc] at h
      dsimp only at h ⊢
      cases hs : em_step mid pc xi.1 xi.2.2.1 (em_nrm xi.2.2.2 ls) st M with
      | none => rw [hs] at h; cases h
      | some z =>
        rw [hs] at h
        rcases z with b | c | v
        · exact ih _ _ _ _ _ _ _ h
        · cases d with
          | zero => cases h
          | succ d' =>
            dsimp only at h ⊢
            cases hr : em_run n (em_dd d' c.1) c.1 0 (em_args 0 c.2.1) [] c.2.2.2.2.2 with
            | none => rw [hr] at h; cases h
            | some q =>
              rw [hr] at h
              rw [ih _ _ _ _ _ _ _ hr]
              exact ih _ _ _ _ _ _ _ h
        · exact h
theorem em_more {n d mid pc : Nat} {ls : em_L} {st : List em_V} {M : em_M} {r : Int × em_M} (h : em_run n d mid pc ls st M = some r) : ∀ k, em_run (n + k) d mid pc ls st M = some r
  | 0 => h
  | k + 1 => em_mono _ _ _ _ _ _ _ _ (em_more h k)
/-- what the machine comes to, with any number of steps -/
noncomputable def em_Ex (d mid pc : Nat) (ls : em_L) (st : List em_V) (M : em_M) : Option (Int × em_M) :=
  @dite (Option (Int × em_M)) (∃ r, ∃ n, em_run n d mid pc ls st M = some r) (Classical.propDecidable _) (fun h => some (Classical.choose h)) (fun _ => none)
theorem em_Ex_iff {d mid pc : Nat} {ls : em_L} {st : List em_V} {M : em_M} {r : Int × em_M} : em_Ex d mid pc ls st M = some r ↔ ∃ n, em_run n d mid pc ls st M = some r := by
  have one : ∀ (r1 r2 : Int × em_M) (n1 n2 : Nat), em_run n1 d mid pc ls st M = some r1 → em_run n2 d mid pc ls st M = some r2 → r1 = r2 := by
    intro r1 r2 n1 n2 h1 h2
    have a := em_more h1 n2
    have b := em_more h2 n1
    rw [Nat.add_comm n2 n1, a] at b
    exact Option.some.inj b
  unfold em_Ex
  constructor
  · intro h
    split at h
    · rename_i hh
      cases h
      exact Classical.choose_spec hh
    · cases h
  · rintro ⟨n, hn⟩
    have hh : ∃ r, ∃ n, em_run n d mid pc ls st M = some r := ⟨r, n, hn⟩
    rw [dif_pos hh]
    obtain ⟨n2, hn2⟩ := Classical.choose_spec hh
    exact congrArg some (one _ _ _ _ hn2 hn)
noncomputable def em_Rn (d mid : Nat) (args : List em_V) (M : em_M) : Option (Int × em_M) := em_Ex d mid 0 (em_args 0 args) [] M
/-- ways, each with what is done there -/
def em_fold {α : Type} (k : Nat → α) : List (Bool × Nat) → Nat → α
  | [], d => k d
  | q :: r, d => bif q.1 then k q.2 else em_fold k r d
theorem em_fold_eq {α : Type} (k : Nat → α) (d : Nat) : ∀ l : List (Bool × Nat), em_fold k l d = k (em_sel l d)
  | [] => rfl
  | q :: r => by
    show (bif q.1 then k q.2 else em_fold k r d) = k (bif q.1 then q.2 else em_sel r d)
    rw [em_fold_eq k d r]
    cases q.1 <;> rfl
noncomputable def em_body (d mid : Nat) (k : Nat → em_L → List em_V → em_M → Option (Int × em_M)) : Option em_R → Option (Int × em_M)
  | none => none
  | some (.inl b) => em_fold (fun pc => k pc b.2.2.1 b.2.2.2.1 b.2.2.2.2) b.1 b.2.1
  | some (.inr (.inl c)) => match d with
    | 0 => none
    | d' + 1 => (em_Rn (em_dd d' c.1) c.1 c.2.1 c.2.2.2.2.2).bind fun r => k c.2.2.1 c.2.2.2.1 (em_push c.1 r.1 c.2.2.2.2.1) r.2
  | some (.inr (.inr v)) => bif v.1 then some v.2 else none
theorem em_Ex_step (d mid pc : Nat) (ls : em_L) (st : List em_V) (M : em_M) : em_Ex d mid pc ls st M = (em_code mid pc).bind fun xi => em_body d mid (em_Ex d mid) (em_step mid pc xi.1 xi.2.2.1 (em_nrm xi.2.2.2 ls) st M) := by
  apply Option.ext
  intro r
  rw [em_Ex_iff]
  cases hc : em_code mid pc with
  | none =>
    constructor
    · rintro ⟨n, hn⟩
      cases n with
      | zero => cases hn
      | succ n => rw [em_run, hc] at hn; cases hn
    · intro h; cases h
  | some xi =>
    show _ ↔ em_body d mid (em_Ex d mid) (em_step mid pc xi.1 xi.2.2.1 (em_nrm xi.2.2.2 ls) st M) = some r
    cases hs : em_step mid pc xi.1 xi.2.2.1 (em_nrm xi.2.2.2 ls) st M with
    | none =>
      constructor
      · rintro ⟨n, hn⟩
        cases n with
        | zero => cases hn
        | succ n => rw [em_run, hc] at hn; dsimp only at hn; rw [hs] at hn; cases hn
      · intro h; cases h
    | some z =>
      rcases z with b | c | v
      · have hrun : ∀ n, em_run (n + 1) d mid pc ls st M = em_run n d mid (em_sel b.1 b.2.1) b.2.2.1 b.2.2.2.1 b.2.2.2.2 := by
          intro n
          rw [em_run, hc]
          dsimp only
          rw [hs]
        show _ ↔ em_fold (fun pc => em_Ex d mid pc b.2.2.1 b.2.2.2.1 b.2.2.2.2) b.1 b.2.1 = some r
        rw [em_fold_eq, em_Ex_iff]
        constructor
        · rintro ⟨n, hn⟩
          cases n with
          | zero => cases hn
          | succ n => rw [hrun] at hn; exact ⟨n, hn⟩
        · rintro ⟨n, hn⟩
          exact ⟨n + 1, by rw [hrun]; exact hn⟩
      · cases d with
        | zero =>
          constructor
          · rintro ⟨n, hn⟩
            cases n with
            | zero => cases hn
            | succ n =>
              rw [em_run, hc] at hn
              dsimp only at hn
              rw [hs] at hn
              cases hn
          · intro h; cases h
        | succ d' =>
          have hrun : ∀ n, em_run (n + 1) (d' + 1) mid pc ls st M = match em_run n (em_dd d' c.1) c.1 0 (em_args 0 c.2.1) [] c.2.2.2.2.2 with
            | none => none
            | some r => em_run n (d' + 1) mid c.2.2.1 c.2.2.2.1 (em_push c.1 r.1 c.2.2.2.2.1) r.2 := by
            intro n
            rw [em_run, hc]
            dsimp only
            rw [hs]
          show _ ↔ ((em_Rn (em_dd d' c.1) c.1 c.2.1 c.2.2.2.2.2).bind fun r => em_Ex (d' + 1) mid c.2.2.1 c.2.2.2.1 (em_push c.1 r.1 c.2.2.2.2.1) r.2) = some r
          constructor
          · rintro ⟨n, hn⟩
            cases n with
            | zero => cases hn
            | succ n =>
              rw [hrun] at hn
              cases hr : em_run n (em_dd d' c.1) c.1 0 (em_args 0 c.2.1) [] c.2.2.2.2.2 with
              | none => rw [hr] at hn; cases hn
              | some q =>
                rw [hr] at hn
                have e1 : em_Rn (em_dd d' c.1) c.1 c.2.1 c.2.2.2.2.2 = some q := em_Ex_iff.mpr ⟨n, hr⟩
                rw [e1]
                exact em_Ex_iff.mpr ⟨n, hn⟩
          · intro h
            cases hr : em_Rn (em_dd d' c.1) c.1 c.2.1 c.2.2.2.2.2 with
            | none => rw [hr] at h; cases h
            | some q =>
              rw [hr] at h
              obtain ⟨n1, h1⟩ := em_Ex_iff.mp hr
              obtain ⟨n2, h2⟩ := em_Ex_iff.mp (show em_Ex (d' + 1) mid c.2.2.1 c.2.2.2.1 (em_push c.1 q.1 c.2.2.2.2.1) q.2 = some r from h)
              refine ⟨n1 + n2 + 1, ?_⟩
              rw [hrun]
              rw [em_more h1 n2]
              dsimp only
              rw [Nat.add_comm]
              exact em_more h2 n1
      · have hrun : ∀ n, em_run (n + 1) d mid pc ls st M = bif v.1 then some v.2 else none := by
          intro n
          rw [em_run, hc]
          dsimp only
          rw [hs]
        show _ ↔ (bif v.1 then some v.2 else none) = some r
        constructor
        · rintro ⟨n, hn⟩
          cases n with
          | zero => cases hn
          | succ n => rw [hrun] at hn; exact hn
        · intro h
          exact ⟨1, by rw [hrun]; exact h⟩
theorem em_nbeq {a b : Nat} (h : ¬ a = b) : Nat.beq a b = false := by
  cases hb : Nat.beq a b with
  | false => rfl
  | true => exact absurd (Nat.eq_of_beq_eq_true hb) h
theorem em_get_pick {ls : em_L} {i : Nat} : ∀ {L : List Nat}, i ∈ L → em_get (em_pick ls L) i = em_get ls i := by
  intro L
  induction L with
  | nil => intro h; cases h
  | cons a L ih =>
    intro h
    unfold em_pick
    rw [List.filterMap_cons]
    by_cases e : a = i
    · subst e
      cases hg : em_get ls a with
      | some v =>
        show em_get ((a, v) :: em_pick ls L) a = some v
        simp [em_get]
      | none =>
        show em_get (em_pick ls L) a = none
        by_cases hm : a ∈ L
        · rw [ih hm, hg]
        · clear ih h
          induction L with
          | nil => rfl
          | cons b L ih2 =>
            have hb : ¬ b = a := fun q => hm (by simp [q])
            have hL : ¬ a ∈ L := fun q => hm (by simp [q])
            unfold em_pick
            rw [List.filterMap_cons]
            cases hgb : em_get ls b with
            | none => exact ih2 hL
            | some w =>
              show em_get ((b, w) :: em_pick ls L) a = none
              have : Nat.beq b a = false := em_nbeq hb
              simp [em_get, this]
              exact ih2 hL
    · have hm : i ∈ L := by
        rcases List.mem_cons.mp h with q | q
        · exact absurd q.symm e
        · exact q
      cases hg : em_get ls a with
      | none => exact ih hm
      | some v =>
        show em_get ((a, v) :: em_pick ls L) i = em_get ls i
        have : Nat.beq a i = false := em_nbeq e
        rw [← ih hm]
        simp [em_get, this]
theorem em_pick_pick (ls : em_L) (L : List Nat) : em_pick (em_pick ls L) L = em_pick ls L := by
  have h : ∀ K : List Nat, (∀ i ∈ K, i ∈ L) → em_pick (em_pick ls L) K = em_pick ls K := by
    intro K
    induction K with
    | nil => intro _; rfl
    | cons a K ih =>
      intro hK
      have h1 : em_get (em_pick ls L) a = em_get ls a := em_get_pick (hK a (by simp))
      have h2 := ih (fun i hi => hK i (by simp [hi]))
      show ((a :: K).filterMap fun i => (em_get (em_pick ls L) i).map (fun v => (i, v))) = ((a :: K).filterMap fun i => (em_get ls i).map (fun v => (i, v)))
      rw [List.filterMap_cons, List.filterMap_cons, h1]
      have h3 : (K.filterMap fun i => (em_get (em_pick ls L) i).map (fun v => (i, v))) = (K.filterMap fun i => (em_get ls i).map (fun v => (i, v))) := h2
      rw [h3]
  exact h L (fun _ h => h)
theorem em_Ex_pick {d mid pc : Nat} {ls : em_L} {st : List em_V} {M : em_M} {xi : em_I} {L : List Nat} (hc : em_code mid pc = some xi) (hL : xi.2.2.2 = some L) : em_Ex d mid pc ls st M = em_Ex d mid pc (em_pick ls L) st M := by
  rw [em_Ex_step, em_Ex_step, hc]
  show em_body d mid (em_Ex d mid) (em_step mid pc xi.1 xi.2.2.1 (em_nrm xi.2.2.2 ls) st M) = em_body d mid (em_Ex d mid) (em_step mid pc xi.1 xi.2.2.1 (em_nrm xi.2.2.2 (em_pick ls L)) st M)
  rw [hL]
  show em_body d mid (em_Ex d mid) (em_step mid pc xi.1 xi.2.2.1 (em_pick ls L) st M) = em_body d mid (em_Ex d mid) (em_step mid pc xi.1 xi.2.2.1 (em_pick (em_pick ls L) L) st M)
  rw [em_pick_pick]
/-- the steps from one place to the next ones where ways meet -/
noncomputable def em_un (d mid : Nat) (cl : List (Nat × em_I)) : Nat → Nat → em_L → List em_V → em_M → Option (Int × em_M)
  | 0, pc, ls, st, M => em_Ex d mid pc ls st M
  | j + 1, pc, ls, st, M => match em_look cl pc with
    | none => none
    | some xi => match xi.2.2.2 with
      | some L => em_Ex d mid pc (em_pick ls L) st M
      | none => em_body d mid (em_un d mid cl j) (em_step mid pc xi.1 xi.2.2.1 ls st M)
noncomputable def em_ur (d mid : Nat) (cl : List (Nat × em_I)) (j pc : Nat) (ls : em_L) (st : List em_V) (M : em_M) : Option (Int × em_M) := match em_look cl pc with
  | none => none
  | some xi => em_body d mid (em_un d mid cl j) (em_step mid pc xi.1 xi.2.2.1 (em_nrm xi.2.2.2 ls) st M)
theorem em_body_congr {d mid : Nat} {k k' : Nat → em_L → List em_V → em_M → Option (Int × em_M)} (h : ∀ pc ls st M, k pc ls st M = k' pc ls st M) (o : Option em_R) : em_body d mid k o = em_body d mid k' o := by
  have e : k = k' := funext fun a => funext fun b => funext fun c => funext fun x => h a b c x
  rw [e]
theorem em_un_eq {d mid : Nat} {cl : List (Nat × em_I)} (hcl : em_nth em_codes mid [] = cl) : ∀ (j pc : Nat) (ls : em_L) (st : List em_V) (M : em_M), em_un d mid cl j pc ls st M = em_Ex d mid pc ls st M := by
  intro j
  induction j with
  | zero => intro pc ls st M; rfl
  | succ j ih =>
    intro pc ls st M
    have hk : em_code mid pc = em_look cl pc := by unfold em_code; rw [hcl]
    rw [em_un]
    cases hc : em_look cl pc with
    | none =>
      dsimp only
      rw [em_Ex_step, hk, hc]
      rfl
    | some xi =>
      dsimp only
      cases hL : xi.2.2.2 with
      | some L => exact (em_Ex_pick (by rw [hk]; exact hc) hL).symm
      | none =>
        dsimp only
        rw [em_Ex_step, hk, hc, em_body_congr ih]
        show _ = em_body d mid (em_Ex d mid) (em_step mid pc xi.1 xi.2.2.1 (em_nrm xi.2.2.2 ls) st M)
        rw [hL]
        rfl
theorem em_root {d mid : Nat} (cl : List (Nat × em_I)) (hcl : em_nth em_codes mid [] = cl) (j pc : Nat) (ls : em_L) (st : List em_V) (M : em_M) : em_Ex d mid pc ls st M = em_ur d mid cl j pc ls st M := by
  have hk : em_code mid pc = em_look cl pc := by unfold em_code; rw [hcl]
  rw [em_Ex_step, hk]
  unfold em_ur
  cases hc : em_look cl pc with
  | none => rfl
  | some xi =>
    show em_body d mid (em_Ex d mid) (em_step mid pc xi.1 xi.2.2.1 (em_nrm xi.2.2.2 ls) st M) = em_body d mid (em_un d mid cl j) (em_step mid pc xi.1 xi.2.2.1 (em_nrm xi.2.2.2 ls) st M)
    exact em_body_congr (fun _ _ _ _ => (em_un_eq hcl j _ _ _ _).symm) _
