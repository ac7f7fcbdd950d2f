/-! CONSTRUCTORS: a second small machine. Its state: how many cells are made, how many places they have, what was written (newest first). -/
abbrev ek_S : Type := Nat × Nat × List (Int × Int × Int)
/-- before anything is written: null is -1 -/
def ek_M0 : em_M := fun k _ => bif Nat.ble 110 (em_kd k) && Nat.ble (em_kd k) 112 then -1 else 0
def ek_dflt (k j : Int) : Int := bif Nat.blt (em_kd k) 12 then (bif decide ((em_ft (em_kd k) j.toNat).1 = 2) then -1 else 0) else bif Nat.ble 110 (em_kd k) && Nat.ble (em_kd k) 112 then -1 else 0
def ek_M : List (Int × Int × Int) → em_M
  | [] => ek_dflt
  | w :: r => xup (ek_M r) w.1 w.2.1 w.2.2
/-- the same, to be computed -/
def ek_at : List (Int × Int × Int) → Int → Int → Int
  | [], k, j => ek_dflt k j
  | w :: r, k, j => bif decide (w.1 = k) && decide (w.2.1 = j) then w.2.2 else ek_at r k j
theorem ek_at_M : ∀ (U : List (Int × Int × Int)) (k j : Int), ek_at U k j = ek_M U k j
  | [], _, _ => rfl
  | w :: r, k, j => by
    rw [ek_at, ek_M, xup, ek_at_M r k j]
    by_cases h1 : w.1 = k
    · by_cases h2 : w.2.1 = j
      · rw [if_pos ⟨h1.symm, h2.symm⟩, decide_eq_true h1, decide_eq_true h2]; rfl
      · rw [if_neg (fun q => h2 q.2.symm), decide_eq_false h2, Bool.and_false]; rfl
    · rw [if_neg (fun q => h1 q.1.symm), decide_eq_false h1, Bool.false_and]; rfl
/-- the rows of a new array of arrays -/
def ek_rows (n : Nat) : Nat → List (Int × Int × Int) → List (Int × Int × Int)
  | 0, U => U
  | i + 1, U => ((n : Int), (i : Int), ((n + 1 + i : Nat) : Int)) :: ek_rows n i U
def ek_kinds (e : Nat) (len : Nat) : Nat → Nat → Bool
  | _, 0 => true
  | k, i + 1 => Nat.beq (em_kdn k) e && Nat.beq (em_lnn k) len && ek_kinds e len (k + 1) i
/-- behind a step: place, locals, stack, state; a call; an answer -/
abbrev ek_R : Type := (Nat × em_L × List em_V × ek_S) ⊕ ((Nat × List em_V × Nat × em_L × List em_V) ⊕ Int)
def ek_p2 (t u : Nat) (st : List em_V) (f : Int → Int → List em_V → Option ek_R) : Option ek_R :=
  (em_p u st).bind fun b => (em_p t b.2).bind fun a => f a.1 b.1 a.2
def ek_go (g : Bool) (pc : Nat) (ls : em_L) (st : List em_V) (S : ek_S) : Option ek_R := bif g then some (.inl (pc, ls, st, S)) else none
def ek_rcv : List em_V → Bool
  | [] => false
  | q :: _ => Nat.beq q.1 2
def ek_call (spec : Bool) (pc : Nat) (ls : em_L) (st : List em_V) : List Int → Option ek_R
  | [mid, n] => (em_take n.toNat st []).bind fun a => bif (!spec || ek_rcv a.1) && Nat.ble (em_cat a.2) 8 && Nat.ble (em_cat a.1) (ek_mx mid.toNat) then some (.inr (.inl (mid.toNat, a.1, pc + 3, ls, a.2))) else none
  | _ => none
noncomputable def ek_step (pc rk : Nat) (ins : Instr) (aux : List Int) (ls : em_L) (st : List em_V) (S : ek_S) : Option ek_R :=
  bif ek_pure ins then (em_step 0 pc ins aux ls st (fun _ _ => 0)).bind fun r => match r with
    | .inl b => some (.inl (em_sel b.1 b.2.1, b.2.2.1, b.2.2.2.1, S))
    | .inr _ => none
  else match ins with
  | .new _ => match aux with
    | [ci] => ek_go (Nat.beq (em_kdn S.1) ci.toNat && Nat.blt S.1 520) (pc + 3) ls ((2, (S.1 : Int)) :: st) (S.1 + 1, S.2.1 + (em_cls ci.toNat).2.2, S.2.2)
    | _ => none
  | .newarray _ => match aux with
    | [k] => (em_p 0 st).bind fun v => ek_go (Nat.beq (em_kdn S.1) k.toNat && decide (v.1 = (em_lnn S.1 : Int)) && Nat.blt S.1 520 && Nat.blt (em_lnn S.1) 100000) (pc + 2) ls ((2, (S.1 : Int)) :: v.2) (S.1 + 1, S.2.1 + em_lnn S.1, S.2.2)
    | _ => none
  | .anewarray _ => match aux with
    | [k] => (em_p 0 st).bind fun v => ek_go (Nat.beq (em_kdn S.1) k.toNat && decide (v.1 = (em_lnn S.1 : Int)) && Nat.blt S.1 520 && Nat.blt (em_lnn S.1) 100000) (pc + 3) ls ((2, (S.1 : Int)) :: v.2) (S.1 + 1, S.2.1 + em_lnn S.1, S.2.2)
    | _ => none
  | .multianewarray _ _ => match aux with
    | [k, e] => ek_p2 0 0 st fun n m r => ek_go (Nat.beq (em_kdn S.1) k.toNat && decide (n = (em_lnn S.1 : Int)) && Nat.blt (S.1 + em_lnn S.1) 520 && Nat.blt (em_lnn S.1) 1000 && decide (0 ≤ m ∧ m < 1000) && ek_kinds e.toNat m.toNat (S.1 + 1) (em_lnn S.1)) (pc + 4) ls ((2, (S.1 : Int)) :: r) (S.1 + 1 + em_lnn S.1, S.2.1 + em_lnn S.1 + em_lnn S.1 * m.toNat, ek_rows S.1 (em_lnn S.1) S.2.2)
    | _ => none
  | .aastore => (em_p 2 st).bind fun v => ek_p2 2 0 v.2 fun a i r => ek_go (Nat.beq (em_kd a) 112 && decide (0 ≤ i ∧ i < em_ln a) && em_isO v.1 1 && decide (0 ≤ a ∧ a < S.1) && decide (0 ≤ v.1 ∧ v.1 < S.1)) (pc + 1) ls r (S.1, S.2.1, (a, i, v.1) :: S.2.2)
  | .iastore => (em_p 0 st).bind fun v => ek_p2 2 0 v.2 fun a i r => ek_go (Nat.beq (em_kd a) 100 && decide (0 ≤ i ∧ i < em_ln a) && decide (0 ≤ a ∧ a < S.1)) (pc + 1) ls r (S.1, S.2.1, (a, i, v.1) :: S.2.2)
  | .lastore => (em_p 1 st).bind fun v => ek_p2 2 0 v.2 fun a i r => ek_go (Nat.beq (em_kd a) 101 && decide (0 ≤ i ∧ i < em_ln a) && decide (0 ≤ a ∧ a < S.1)) (pc + 1) ls r (S.1, S.2.1, (a, i, v.1) :: S.2.2)
  | .getfield _ => match aux with
    | [ci, j] => (em_p 2 st).bind fun a => ek_go (em_isO a.1 ci && decide (0 ≤ a.1 ∧ a.1 < S.1) && decide (0 ≤ ek_at S.2.2 a.1 j)) (pc + 3) ls ((2, ek_at S.2.2 a.1 j) :: a.2) S
    | _ => none
  | .putfield _ => match aux with
    | [ci, j, t, _] => ek_p2 2 t.toNat st fun a v r => ek_go (em_isO a ci && decide (0 ≤ a ∧ a < S.1)) (pc + 3) ls r (S.1, S.2.1, (a, j, v) :: S.2.2)
    | _ => none
  | .invokespecial _ => match aux with
    | [] => (em_p 2 st).bind fun a => ek_go (Nat.ble (em_cat a.2) 8) (pc + 3) ls a.2 S
    | _ => ek_call true pc ls st aux
  | .invokestatic _ => ek_call false pc ls st aux
  | .return_ => match st with
    | [] => bif Nat.beq rk 3 then some (.inr (.inr 0)) else none
    | _ => none
  | .lreturn => match st with
    | [q] => bif Nat.beq q.1 1 && Nat.beq rk 1 then some (.inr (.inr q.2)) else none
    | _ => none
  | .ireturn => match st with
    | [q] => bif Nat.beq q.1 0 && Nat.beq rk 5 && decide (q.2 = 0 ∨ q.2 = 1) then some (.inr (.inr q.2)) else none
    | _ => none
  | _ => none
def ek_push (mid : Nat) (v : Int) (st : List em_V) : List em_V := match ek_rk mid with
  | 1 => (1, v) :: st
  | 5 => (0, v) :: st
  | _ => st
def ek_in (S : ek_S) (lim : Nat × Nat) : Bool := Nat.ble S.1 lim.1 && Nat.ble S.2.1 lim.2
noncomputable def ek_run : Nat → Nat → Nat → Nat × Nat → Nat → em_L → List em_V → ek_S → Option (Int × ek_S)
  | 0, _, _, _, _, _, _, _ => none
  | n + 1, d, mid, lim, pc, ls, st, S =>
    match ek_code mid pc with
    | none => none
    | some xi => match ek_step pc (ek_rk mid) xi.1 xi.2.2.1 ls st S with
      | none => none
      | some (.inl b) => bif ek_in b.2.2.2 lim then ek_run n d mid lim b.1 b.2.1 b.2.2.1 b.2.2.2 else none
      | some (.inr (.inl c)) => match d with
        | 0 => none
        | d' + 1 => bif ek_in (S.1 + ek_mc c.1, S.2.1 + ek_ms c.1, []) lim then (match ek_run n d' c.1 (S.1 + ek_mc c.1, S.2.1 + ek_ms c.1) 0 (em_args 0 c.2.1) [] S with
          | none => none
          | some r => ek_run n (d' + 1) mid lim c.2.2.1 c.2.2.2.1 (ek_push c.1 r.1 c.2.2.2.2) r.2) else none
      | some (.inr (.inr v)) => bif Nat.beq S.1 lim.1 && Nat.beq S.2.1 lim.2 then some (v, S) else none
