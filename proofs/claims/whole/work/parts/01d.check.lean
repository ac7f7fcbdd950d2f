/-! Each instruction of the tables is the one that the bytes have, and its links are among the Statement's words. Written by wip/gen/check.py. -/
/-- the word at a place of the tables is this one -/
def em_wd (i : Nat) (w : Jvm.Cond) : Bool := match lw_tbl[i]? with
  | some v => decide (v = w) && goodWord w
  | none => false
/-- the words that a call hands on -/
def em_tbl : List Jvm.Cond := lw_tbl.filter goodWord
theorem em_wd_mem {i : Nat} {w : Jvm.Cond} (h : em_wd i w = true) : w ∈ em_tbl := by
  unfold em_wd at h
  cases hi : lw_tbl[i]? with
  | none => rw [hi] at h; cases h
  | some v =>
    rw [hi] at h
    have h2 : (decide (v = w) && goodWord w) = true := h
    rw [Bool.and_eq_true] at h2
    have e : v = w := of_decide_eq_true h2.1
    refine List.mem_filter.mpr ⟨?_, h2.2⟩
    rw [← e]
    exact List.mem_of_getElem? hi
def em_ilen (ins : Instr) (l : Nat) : Nat := match ins with
  | .bipush _ => 2
  | .sipush _ => 3
  | .ldc _ => 2
  | .ldc_w _ => 3
  | .ldc2_w _ => 3
  | .iload _ => 2
  | .lload _ => 2
  | .aload _ => 2
  | .istore _ => 2
  | .lstore _ => 2
  | .astore _ => 2
  | .iinc _ _ => 3
  | .ifCond _ _ => 3
  | .if_icmp _ _ => 3
  | .goto _ => 3
  | .ifnull _ => 3
  | .ifnonnull _ => 3
  | .tableswitch _ _ _ _ => l
  | .getfield _ => 3
  | .getstatic _ => 3
  | .putfield _ => 3
  | .invokevirtual _ => 3
  | .invokestatic _ => 3
  | .invokespecial _ => 3
  | .new _ => 3
  | _ => 1
def em_fty (t nk : Int) : FieldType → Bool
  | .int => decide (t = 0) && decide (nk = 0)
  | .boolean => decide (t = 0) && decide (nk = 1)
  | .long => decide (t = 1) && decide (nk = 0)
  | .object _ => decide (t = 2) && decide (nk = 2)
  | _ => false
/-- links among nest mates: whose, where; all to one method -/
def em_nests : List (String × Nat) := [("EstateOffice$Parting", 114), ("EstateOffice$Register", 60), ("EstateOffice$Settlement", 113)]
def em_holds : MethodName := ⟨"EstateOffice", "holds", "(II)Z"⟩
def em_okref (own : String) (i m2 : Nat) (nest : Nat) (li : Nat) : Bool := match nest with
  | 0 => em_wd li (.methodLink own i (em_y m2))
  | _ => em_nests.any (fun q => decide (q = (own, i))) && decide (em_y m2 = em_holds)
/-- a call's links -/
noncomputable def em_okcall (own : String) (i : Nat) (virt : Bool) (mi n ci : Int) : List Nat → Bool
  | [li, nest, ini, cd, inst, sel] =>
    let m2 := mi.toNat
    let y := em_y m2
    Nat.blt m2 243 && em_okref own i m2 nest li && em_wd ini (.initialized y.cls) && em_wd cd (.code y (em_b m2) (em_mx m2) (em_rt m2)) && Nat.ble (em_mx m2) 45 &&
    (y.cls != "java/lang/invoke/MethodHandle") && (y.cls != "java/lang/invoke/VarHandle") && plainName y.cls &&
    (if virt then decide ((parseMethodDescriptor y.desc).map (fun d => d.parameters.length + 1) = some n.toNat) && em_wd inst (.instanceMethod y) && em_wd sel (.selects y.cls y y) && ((decide (0 ≤ ci) && decide ((em_cls ci.toNat).1 = y.cls) && Nat.blt ci.toNat 12) || (decide (ci = -2) && decide (y.cls = "java/lang/String")))
     else decide ((parseMethodDescriptor y.desc).map (fun d => d.parameters.length) = some n.toNat) && em_wd inst (.static y) && decide (ci = -1))
  | _ => false
noncomputable def em_okw (own : String) (nL pc : Nat) (ins : Instr) (aux : List Int) (h : List Nat) : Bool := match ins with
  | .iconst n => decide ((Int32.ofInt n).toInt = n)
  | .bipush n => decide (((Int8.ofInt n).toInt32).toInt = n)
  | .sipush n => decide (((Int16.ofInt n).toInt32).toInt = n)
  | .ldc i => match aux, h with
    | [0, v], [w] => em_wd w (.constant own i (Int32.ofInt v)) && decide ((Int32.ofInt v).toInt = v)
    | [1, k], [] => decide (own = "EstateOffice$Text") && decide (0 ≤ k ∧ k < 16) && Nat.beq (em_nth em_sxs k.toNat 0) i
    | _, _ => false
  | .ldc_w i => match aux, h with
    | [0, v], [w] => em_wd w (.constant own i (Int32.ofInt v)) && decide ((Int32.ofInt v).toInt = v)
    | _, _ => false
  | .ldc2_w i => match aux, h with
    | [v], [w] => em_wd w (.constantLong own i (Int64.ofInt v)) && decide ((Int64.ofInt v).toInt = v)
    | _, _ => false
  | .istore i => Nat.blt i nL
  | .istore_n i => Nat.blt (i : Nat) nL
  | .astore i => Nat.blt i nL
  | .astore_n i => Nat.blt (i : Nat) nL
  | .lstore i => Nat.blt (i + 1) nL
  | .lstore_n i => Nat.blt ((i : Nat) + 1) nL
  | .iinc i _ => Nat.blt i nL
  | .ifCond _ off => decide (0 ≤ (pc : Int) + off)
  | .if_icmp _ off => decide (0 ≤ (pc : Int) + off)
  | .goto off => decide (0 ≤ (pc : Int) + off)
  | .ifnonnull off => decide (0 ≤ (pc : Int) + off)
  | .tableswitch dflt lo hi offs => decide (0 ≤ (pc : Int) + dflt) && decide (hi = lo + offs.toList.length - 1) && offs.toList.all (fun o => decide (0 ≤ (pc : Int) + o))
  | .getstatic i => match aux, h with
    | [0, v], [w] => em_wd w (.fieldLink own i "java/lang/String" "COMPACT_STRINGS" "Z") && decide (v = 1)
    | [1], [w] => em_wd w (.fieldLink own i "jdk/internal/util/Preconditions" "SIOOBE_FORMATTER" "Ljava/util/function/BiFunction;")
    | [], _ => true
    | _, _ => false
  | .getfield i => match aux, h with
    | [0], [w] => em_wd w (.fieldLink own i "java/lang/String" "value" "[B")
    | [1], [w] => em_wd w (.fieldLink own i "java/lang/String" "coder" "B")
    | [ci, j, t, cf, off], [w] => let f := (em_cls ci.toNat).2.1 j.toNat
      em_wd w (.fieldLink own i f.1 f.2.1 f.2.2.1) && Nat.blt j.toNat (em_cls ci.toNat).2.2 && decide (em_ft ci.toNat j.toNat = (t, cf, off)) && decide (0 ≤ ci) && decide (0 ≤ j) && Nat.blt ci.toNat 12 && decide (0 ≤ t ∧ t ≤ 2) && decide (cf = 0 ∨ cf = 1)
    | _, _ => false
  | .putfield i => match aux, h with
    | [ci, j, t, nk, cj], [w] => let f := (em_cls ci.toNat).2.1 j.toNat
      em_wd w (.fieldLink own i f.1 f.2.1 f.2.2.1) && Nat.blt j.toNat (em_cls ci.toNat).2.2 && decide (em_ft ci.toNat j.toNat = (t, 0, 0)) && decide (0 ≤ ci) && decide (0 ≤ j) && Nat.blt ci.toNat 12 && decide (f.2.2.2 = false) && (match parseFieldDescriptor f.2.2.1 with | some ty => em_fty t nk ty | none => false)
    | _, _ => false
  | .invokevirtual i => match aux, h with
    | [mi, n, ci], h => em_okcall own i true mi n ci h
    | [], _ => true
    | _, _ => false
  | .invokestatic i => match aux, h with
    | [mi, n, ci], h => em_okcall own i false mi n ci h
    | [1], [w] => em_wd w (.methodLink own i Lib.Math.max.name)
    | [2], [w] => em_wd w (.methodLink own i Lib.Math.min.name)
    | [3], [w] => em_wd w (.methodLink own i arraycopyName)
    | [], _ => true
    | _, _ => false
  | _ => true
noncomputable def em_oki (mid pc : Nat) (xi : em_I) (h : List Nat) : Bool :=
  (match decode (em_b mid) pc with
    | .ok (i, l) => decide (i = xi.1) && Nat.beq l (em_ilen xi.1 xi.2.1)
    | .error _ => false) && em_okw (em_y mid).cls (em_mx mid) pc xi.1 xi.2.2.1 h
noncomputable def em_okm (mid : Nat) : List (Nat × em_I) → List (List Nat) → Bool
  | [], _ => true
  | q :: r, h :: hs => em_oki mid q.1 q.2 h && em_okm mid r hs
  | _ :: _, [] => false
theorem em_okm_look {mid pc : Nat} {xi : em_I} : ∀ {cl : List (Nat × em_I)} {hs : List (List Nat)}, em_okm mid cl hs = true → em_look cl pc = some xi → ∃ h, em_oki mid pc xi h = true
  | [], _, _, h => by cases h
  | _ :: _, [], h, _ => by cases h
  | q :: r, h0 :: hs, h, hl => by
    rw [em_okm, Bool.and_eq_true] at h
    rw [em_look] at hl
    cases hq : Nat.beq q.1 pc with
    | true =>
      rw [hq] at hl
      have e : q.1 = pc := Nat.eq_of_beq_eq_true hq
      have e2 : q.2 = xi := Option.some.inj hl
      rw [← e, ← e2]
      exact ⟨h0, h.1⟩
    | false =>
      rw [hq] at hl
      exact em_okm_look h.2 hl
theorem em_okm_split {mid : Nat} : ∀ (n : Nat) {cl : List (Nat × em_I)} {hs : List (List Nat)}, em_okm mid (cl.take n) (hs.take n) = true → em_okm mid (cl.drop n) (hs.drop n) = true → em_okm mid cl hs = true
  | 0, _, _, _, h => h
  | _ + 1, [], _, _, _ => rfl
  | _ + 1, _ :: _, [], h, _ => by cases h
  | n + 1, q :: r, h0 :: hs, h, h2 => by
    rw [List.take_succ_cons, List.take_succ_cons, em_okm, Bool.and_eq_true] at h
    rw [em_okm, Bool.and_eq_true]
    exact ⟨h.1, em_okm_split n h.2 h2⟩
