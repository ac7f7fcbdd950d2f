/-! One row an instruction of the small machine: what the machine comes to at a place, out of what it comes to behind. Written by wip/gen/rows.py. -/
theorem em_ex_bad {d mid : Nat} {ls : em_L} {st : List em_V} {M : em_M} (h : em_code mid 999999 = none) : em_Ex d mid 999999 ls st M = none := by
  rw [em_Ex_step, h]
  rfl
/-- no method has a place 999999 -/
theorem em_no_bad : ∀ mid : Nat, em_code mid 999999 = none := by
  have h : em_codes.all (fun l => (em_look l 999999).isNone) = true := by decide +kernel
  have key : ∀ (L : List (List (Nat × em_I))) (n : Nat), L.all (fun l => (em_look l 999999).isNone) = true → em_look (em_nth L n []) 999999 = none := by
    intro L
    induction L with
    | nil => intro n _; rfl
    | cons a L ih =>
      intro n hL
      rw [List.all_cons, Bool.and_eq_true] at hL
      cases n with
      | zero => exact Option.isNone_iff_eq_none.mp hL.1
      | succ n => exact ih n hL.2
  exact fun mid => key _ mid h
theorem em_if_body {d mid : Nat} {c : Bool} {pc : Nat} {ls : em_L} {st : List em_V} {M : em_M} : em_body d mid (em_Ex d mid) (em_if c pc ls st M) = bif c then em_Ex d mid pc ls st M else none := by
  show (bif c then em_Ex d mid pc ls st M else em_Ex d mid 999999 ls st M) = _
  rw [em_ex_bad (em_no_bad mid)]
section ROWS
variable {d mid pc : Nat} {cl : List (Nat × em_I)} {ls : em_L} {st : List em_V} {M : em_M} {R : Option (Int × em_M)} {len : Nat} {aux : List Int} {o : Option (List Nat)}
theorem s_step (H : em_nth em_codes mid [] = cl) {ins : Instr} (hl : em_look cl pc = some (ins, len, aux, o)) (hn : em_nrm o ls = ls) (h : em_body d mid (em_Ex d mid) (em_step mid pc ins aux ls st M) = R) : em_Ex d mid pc ls st M = R := by
  have hk : em_code mid pc = some (ins, len, aux, o) := by unfold em_code; rw [H]; exact hl
  rw [em_Ex_step, hk]
  show em_body d mid (em_Ex d mid) (em_step mid pc ins aux (em_nrm o ls) st M) = R
  rw [hn]
  exact h
/-- where ways meet -/
theorem s_cut (H : em_nth em_codes mid [] = cl) {ins : Instr} {L : List Nat} (hl : em_look cl pc = some (ins, len, aux, some L)) (h : em_Ex d mid pc (em_pick ls L) st M = R) : em_Ex d mid pc ls st M = R := by
  have hk : em_code mid pc = some (ins, len, aux, some L) := by unfold em_code; rw [H]; exact hl
  rw [em_Ex_pick hk rfl]
  exact h
theorem s_br {c : Bool} {A A' B B' : Option (Int × em_M)} (h1 : A = A') (h2 : B = B') : (bif c then A else B) = bif c then A' else B' := by rw [h1, h2]
theorem s_iconst (H : em_nth em_codes mid [] = cl) {v : Int} {pc2 : Nat} (hl : em_look cl pc = some (.iconst v, len, aux, o)) (hn : em_nrm o ls = ls) (hp : pc + 1 = pc2)  (k : em_Ex d mid pc2 ls ((0, v) :: st) M = R) : em_Ex d mid pc ls st M = R := by
  subst hp
  refine s_step H hl hn ?_
  exact k
theorem s_bipush (H : em_nth em_codes mid [] = cl) {v : Int} {pc2 : Nat} (hl : em_look cl pc = some (.bipush v, len, aux, o)) (hn : em_nrm o ls = ls) (hp : pc + 2 = pc2)  (k : em_Ex d mid pc2 ls ((0, v) :: st) M = R) : em_Ex d mid pc ls st M = R := by
  subst hp
  refine s_step H hl hn ?_
  exact k
theorem s_sipush (H : em_nth em_codes mid [] = cl) {v : Int} {pc2 : Nat} (hl : em_look cl pc = some (.sipush v, len, aux, o)) (hn : em_nrm o ls = ls) (hp : pc + 3 = pc2)  (k : em_Ex d mid pc2 ls ((0, v) :: st) M = R) : em_Ex d mid pc ls st M = R := by
  subst hp
  refine s_step H hl hn ?_
  exact k
theorem s_lconst (H : em_nth em_codes mid [] = cl) {n : Fin 2} {v : Int} {pc2 : Nat} (hl : em_look cl pc = some (.lconst n, len, aux, o)) (hn : em_nrm o ls = ls) (hp : pc + 1 = pc2) (hv : ((n : Nat) : Int) = v) (k : em_Ex d mid pc2 ls ((1, v) :: st) M = R) : em_Ex d mid pc ls st M = R := by
  subst hp
  subst hv
  refine s_step H hl hn ?_
  exact k
theorem s_ldc (H : em_nth em_codes mid [] = cl) {i : Nat} {v : Int} {pc2 : Nat} (hl : em_look cl pc = some (.ldc i, len, [0, v], o)) (hn : em_nrm o ls = ls) (hp : pc + 2 = pc2) (k : em_Ex d mid pc2 ls ((0, v) :: st) M = R) : em_Ex d mid pc ls st M = R := by
  subst hp
  refine s_step H hl hn ?_
  exact k
theorem s_ldcS (H : em_nth em_codes mid [] = cl) {i : Nat} {v : Int} {pc2 : Nat} (hl : em_look cl pc = some (.ldc i, len, [1, v], o)) (hn : em_nrm o ls = ls) (hp : pc + 2 = pc2) (k : em_Ex d mid pc2 ls ((4, v) :: st) M = R) : em_Ex d mid pc ls st M = R := by
  subst hp
  refine s_step H hl hn ?_
  exact k
theorem s_ldcw (H : em_nth em_codes mid [] = cl) {i : Nat} {v : Int} {pc2 : Nat} (hl : em_look cl pc = some (.ldc_w i, len, [0, v], o)) (hn : em_nrm o ls = ls) (hp : pc + 3 = pc2) (k : em_Ex d mid pc2 ls ((0, v) :: st) M = R) : em_Ex d mid pc ls st M = R := by
  subst hp
  refine s_step H hl hn ?_
  exact k
theorem s_ldc2 (H : em_nth em_codes mid [] = cl) {i : Nat} {v : Int} {pc2 : Nat} (hl : em_look cl pc = some (.ldc2_w i, len, [v], o)) (hn : em_nrm o ls = ls) (hp : pc + 3 = pc2) (k : em_Ex d mid pc2 ls ((1, v) :: st) M = R) : em_Ex d mid pc ls st M = R := by
  subst hp
  refine s_step H hl hn ?_
  exact k
theorem s_iload (H : em_nth em_codes mid [] = cl) {i : Nat} {v : Int} {pc2 : Nat} (hl : em_look cl pc = some (.iload i, len, aux, o)) (hn : em_nrm o ls = ls) (hp : pc + 2 = pc2) (hg : em_get ls i = some (0, v)) (k : em_Ex d mid pc2 ls ((0, v) :: st) M = R) : em_Ex d mid pc ls st M = R := by
  subst hp
  refine s_step H hl hn ?_
  simp only [em_step, hg, Option.bind_some]
  exact k
theorem s_iload_n (H : em_nth em_codes mid [] = cl) {i : Fin 4} {v : Int} {pc2 : Nat} (hl : em_look cl pc = some (.iload_n i, len, aux, o)) (hn : em_nrm o ls = ls) (hp : pc + 1 = pc2) (hg : em_get ls (i : Nat) = some (0, v)) (k : em_Ex d mid pc2 ls ((0, v) :: st) M = R) : em_Ex d mid pc ls st M = R := by
  subst hp
  refine s_step H hl hn ?_
  simp only [em_step, hg, Option.bind_some]
  exact k
theorem s_lload (H : em_nth em_codes mid [] = cl) {i : Nat} {v : Int} {pc2 : Nat} (hl : em_look cl pc = some (.lload i, len, aux, o)) (hn : em_nrm o ls = ls) (hp : pc + 2 = pc2) (hg : em_get ls i = some (1, v)) (k : em_Ex d mid pc2 ls ((1, v) :: st) M = R) : em_Ex d mid pc ls st M = R := by
  subst hp
  refine s_step H hl hn ?_
  simp only [em_step, hg, Option.bind_some]
  exact k
theorem s_lload_n (H : em_nth em_codes mid [] = cl) {i : Fin 4} {v : Int} {pc2 : Nat} (hl : em_look cl pc = some (.lload_n i, len, aux, o)) (hn : em_nrm o ls = ls) (hp : pc + 1 = pc2) (hg : em_get ls (i : Nat) = some (1, v)) (k : em_Ex d mid pc2 ls ((1, v) :: st) M = R) : em_Ex d mid pc ls st M = R := by
  subst hp
  refine s_step H hl hn ?_
  simp only [em_step, hg, Option.bind_some]
  exact k
theorem s_aload (H : em_nth em_codes mid [] = cl) {i : Nat} {q : em_V} {pc2 : Nat} (hl : em_look cl pc = some (.aload i, len, aux, o)) (hn : em_nrm o ls = ls) (hp : pc + 2 = pc2) (hg : em_get ls i = some q) (ht : em_isref q.1 = true) (k : em_Ex d mid pc2 ls (q :: st) M = R) : em_Ex d mid pc ls st M = R := by
  subst hp
  refine s_step H hl hn ?_
  simp only [em_step, hg, Option.bind_some, ht]
  exact k
theorem s_aload_n (H : em_nth em_codes mid [] = cl) {i : Fin 4} {q : em_V} {pc2 : Nat} (hl : em_look cl pc = some (.aload_n i, len, aux, o)) (hn : em_nrm o ls = ls) (hp : pc + 1 = pc2) (hg : em_get ls (i : Nat) = some q) (ht : em_isref q.1 = true) (k : em_Ex d mid pc2 ls (q :: st) M = R) : em_Ex d mid pc ls st M = R := by
  subst hp
  refine s_step H hl hn ?_
  simp only [em_step, hg, Option.bind_some, ht]
  exact k
theorem s_istore (H : em_nth em_codes mid [] = cl) {i : Nat} {v : Int} {ls2 : em_L} {pc2 : Nat} (hl : em_look cl pc = some (.istore i, len, aux, o)) (hn : em_nrm o ls = ls) (hp : pc + 2 = pc2) (hg : em_set1 ls i (0, v) = ls2) (k : em_Ex d mid pc2 ls2 st M = R) : em_Ex d mid pc ls ((0, v) :: st) M = R := by
  subst hp
  refine s_step H hl hn ?_
  subst hg
  exact k
theorem s_istore_n (H : em_nth em_codes mid [] = cl) {i : Fin 4} {v : Int} {ls2 : em_L} {pc2 : Nat} (hl : em_look cl pc = some (.istore_n i, len, aux, o)) (hn : em_nrm o ls = ls) (hp : pc + 1 = pc2) (hg : em_set1 ls (i : Nat) (0, v) = ls2) (k : em_Ex d mid pc2 ls2 st M = R) : em_Ex d mid pc ls ((0, v) :: st) M = R := by
  subst hp
  refine s_step H hl hn ?_
  subst hg
  exact k
theorem s_lstore (H : em_nth em_codes mid [] = cl) {i : Nat} {v : Int} {ls2 : em_L} {pc2 : Nat} (hl : em_look cl pc = some (.lstore i, len, aux, o)) (hn : em_nrm o ls = ls) (hp : pc + 2 = pc2) (hg : em_set2 ls i (1, v) = ls2) (k : em_Ex d mid pc2 ls2 st M = R) : em_Ex d mid pc ls ((1, v) :: st) M = R := by
  subst hp
  refine s_step H hl hn ?_
  subst hg
  exact k
theorem s_lstore_n (H : em_nth em_codes mid [] = cl) {i : Fin 4} {v : Int} {ls2 : em_L} {pc2 : Nat} (hl : em_look cl pc = some (.lstore_n i, len, aux, o)) (hn : em_nrm o ls = ls) (hp : pc + 1 = pc2) (hg : em_set2 ls (i : Nat) (1, v) = ls2) (k : em_Ex d mid pc2 ls2 st M = R) : em_Ex d mid pc ls ((1, v) :: st) M = R := by
  subst hp
  refine s_step H hl hn ?_
  subst hg
  exact k
theorem s_astore (H : em_nth em_codes mid [] = cl) {i : Nat} {q : em_V} {ls2 : em_L} {pc2 : Nat} (hl : em_look cl pc = some (.astore i, len, aux, o)) (hn : em_nrm o ls = ls) (hp : pc + 2 = pc2) (ht : em_isref q.1 = true) (hg : em_set1 ls i q = ls2) (k : em_Ex d mid pc2 ls2 st M = R) : em_Ex d mid pc ls (q :: st) M = R := by
  subst hp
  refine s_step H hl hn ?_
  subst hg
  simp only [em_step, ht]
  exact k
theorem s_astore_n (H : em_nth em_codes mid [] = cl) {i : Fin 4} {q : em_V} {ls2 : em_L} {pc2 : Nat} (hl : em_look cl pc = some (.astore_n i, len, aux, o)) (hn : em_nrm o ls = ls) (hp : pc + 1 = pc2) (ht : em_isref q.1 = true) (hg : em_set1 ls (i : Nat) q = ls2) (k : em_Ex d mid pc2 ls2 st M = R) : em_Ex d mid pc ls (q :: st) M = R := by
  subst hp
  refine s_step H hl hn ?_
  subst hg
  simp only [em_step, ht]
  exact k
theorem s_iinc (H : em_nth em_codes mid [] = cl) {i : Nat} {n v : Int} {ls2 : em_L} {pc2 : Nat} (hl : em_look cl pc = some (.iinc i n, len, aux, o)) (hn : em_nrm o ls = ls) (hp : pc + 3 = pc2) (hv : em_get ls i = some (0, v)) (hg : em_set1 ls i (0, x32 (v + n)) = ls2) (k : em_Ex d mid pc2 ls2 st M = R) : em_Ex d mid pc ls st M = R := by
  subst hp
  refine s_step H hl hn ?_
  subst hg
  simp only [em_step, hv, Option.bind_some]
  exact k
theorem s_dup (H : em_nth em_codes mid [] = cl) {q : em_V} {pc2 : Nat} (hl : em_look cl pc = some (.dup, len, aux, o)) (hn : em_nrm o ls = ls) (hp : pc + 1 = pc2) (ht : Nat.beq q.1 1 = false) (k : em_Ex d mid pc2 ls (q :: q :: st) M = R) : em_Ex d mid pc ls (q :: st) M = R := by
  subst hp
  refine s_step H hl hn ?_
  simp only [em_step, ht]
  exact k
theorem s_dup2 (H : em_nth em_codes mid [] = cl) {q w : em_V} {pc2 : Nat} (hl : em_look cl pc = some (.dup2, len, aux, o)) (hn : em_nrm o ls = ls) (hp : pc + 1 = pc2) (ht : (Nat.beq q.1 1 || Nat.beq w.1 1) = false) (k : em_Ex d mid pc2 ls (q :: w :: q :: w :: st) M = R) : em_Ex d mid pc ls (q :: w :: st) M = R := by
  subst hp
  refine s_step H hl hn ?_
  simp only [em_step, ht]
  exact k
theorem s_iadd (H : em_nth em_codes mid [] = cl) {a b : Int} {pc2 : Nat} (hl : em_look cl pc = some (.iadd, len, aux, o)) (hn : em_nrm o ls = ls) (hp : pc + 1 = pc2)  (k : em_Ex d mid pc2 ls ((0, x32 (a + b)) :: st) M = R) : em_Ex d mid pc ls ((0, b) :: (0, a) :: st) M = R := by
  subst hp
  refine s_step H hl hn ?_
  exact k
theorem s_isub (H : em_nth em_codes mid [] = cl) {a b : Int} {pc2 : Nat} (hl : em_look cl pc = some (.isub, len, aux, o)) (hn : em_nrm o ls = ls) (hp : pc + 1 = pc2)  (k : em_Ex d mid pc2 ls ((0, x32 (a - b)) :: st) M = R) : em_Ex d mid pc ls ((0, b) :: (0, a) :: st) M = R := by
  subst hp
  refine s_step H hl hn ?_
  exact k
theorem s_imul (H : em_nth em_codes mid [] = cl) {a b : Int} {pc2 : Nat} (hl : em_look cl pc = some (.imul, len, aux, o)) (hn : em_nrm o ls = ls) (hp : pc + 1 = pc2)  (k : em_Ex d mid pc2 ls ((0, x32 (a * b)) :: st) M = R) : em_Ex d mid pc ls ((0, b) :: (0, a) :: st) M = R := by
  subst hp
  refine s_step H hl hn ?_
  exact k
theorem s_iand (H : em_nth em_codes mid [] = cl) {a b : Int} {pc2 : Nat} (hl : em_look cl pc = some (.iand, len, aux, o)) (hn : em_nrm o ls = ls) (hp : pc + 1 = pc2)  (k : em_Ex d mid pc2 ls ((0, x_and a b) :: st) M = R) : em_Ex d mid pc ls ((0, b) :: (0, a) :: st) M = R := by
  subst hp
  refine s_step H hl hn ?_
  exact k
theorem s_ior (H : em_nth em_codes mid [] = cl) {a b : Int} {pc2 : Nat} (hl : em_look cl pc = some (.ior, len, aux, o)) (hn : em_nrm o ls = ls) (hp : pc + 1 = pc2)  (k : em_Ex d mid pc2 ls ((0, x_or a b) :: st) M = R) : em_Ex d mid pc ls ((0, b) :: (0, a) :: st) M = R := by
  subst hp
  refine s_step H hl hn ?_
  exact k
theorem s_ixor (H : em_nth em_codes mid [] = cl) {a b : Int} {pc2 : Nat} (hl : em_look cl pc = some (.ixor, len, aux, o)) (hn : em_nrm o ls = ls) (hp : pc + 1 = pc2)  (k : em_Ex d mid pc2 ls ((0, x_xor a b) :: st) M = R) : em_Ex d mid pc ls ((0, b) :: (0, a) :: st) M = R := by
  subst hp
  refine s_step H hl hn ?_
  exact k
theorem s_ishl (H : em_nth em_codes mid [] = cl) {a b : Int} {pc2 : Nat} (hl : em_look cl pc = some (.ishl, len, aux, o)) (hn : em_nrm o ls = ls) (hp : pc + 1 = pc2)  (k : em_Ex d mid pc2 ls ((0, x_shl a b) :: st) M = R) : em_Ex d mid pc ls ((0, b) :: (0, a) :: st) M = R := by
  subst hp
  refine s_step H hl hn ?_
  exact k
theorem s_ishr (H : em_nth em_codes mid [] = cl) {a b : Int} {pc2 : Nat} (hl : em_look cl pc = some (.ishr, len, aux, o)) (hn : em_nrm o ls = ls) (hp : pc + 1 = pc2)  (k : em_Ex d mid pc2 ls ((0, x_shr a b) :: st) M = R) : em_Ex d mid pc ls ((0, b) :: (0, a) :: st) M = R := by
  subst hp
  refine s_step H hl hn ?_
  exact k
theorem s_iushr (H : em_nth em_codes mid [] = cl) {a b : Int} {pc2 : Nat} (hl : em_look cl pc = some (.iushr, len, aux, o)) (hn : em_nrm o ls = ls) (hp : pc + 1 = pc2)  (k : em_Ex d mid pc2 ls ((0, x_ushr a b) :: st) M = R) : em_Ex d mid pc ls ((0, b) :: (0, a) :: st) M = R := by
  subst hp
  refine s_step H hl hn ?_
  exact k
theorem s_ladd (H : em_nth em_codes mid [] = cl) {a b : Int} {pc2 : Nat} (hl : em_look cl pc = some (.ladd, len, aux, o)) (hn : em_nrm o ls = ls) (hp : pc + 1 = pc2)  (k : em_Ex d mid pc2 ls ((1, x64 (a + b)) :: st) M = R) : em_Ex d mid pc ls ((1, b) :: (1, a) :: st) M = R := by
  subst hp
  refine s_step H hl hn ?_
  exact k
theorem s_lsub (H : em_nth em_codes mid [] = cl) {a b : Int} {pc2 : Nat} (hl : em_look cl pc = some (.lsub, len, aux, o)) (hn : em_nrm o ls = ls) (hp : pc + 1 = pc2)  (k : em_Ex d mid pc2 ls ((1, x64 (a - b)) :: st) M = R) : em_Ex d mid pc ls ((1, b) :: (1, a) :: st) M = R := by
  subst hp
  refine s_step H hl hn ?_
  exact k
theorem s_lmul (H : em_nth em_codes mid [] = cl) {a b : Int} {pc2 : Nat} (hl : em_look cl pc = some (.lmul, len, aux, o)) (hn : em_nrm o ls = ls) (hp : pc + 1 = pc2)  (k : em_Ex d mid pc2 ls ((1, x64 (a * b)) :: st) M = R) : em_Ex d mid pc ls ((1, b) :: (1, a) :: st) M = R := by
  subst hp
  refine s_step H hl hn ?_
  exact k
theorem s_land (H : em_nth em_codes mid [] = cl) {a b : Int} {pc2 : Nat} (hl : em_look cl pc = some (.land, len, aux, o)) (hn : em_nrm o ls = ls) (hp : pc + 1 = pc2)  (k : em_Ex d mid pc2 ls ((1, x_land a b) :: st) M = R) : em_Ex d mid pc ls ((1, b) :: (1, a) :: st) M = R := by
  subst hp
  refine s_step H hl hn ?_
  exact k
theorem s_lor (H : em_nth em_codes mid [] = cl) {a b : Int} {pc2 : Nat} (hl : em_look cl pc = some (.lor, len, aux, o)) (hn : em_nrm o ls = ls) (hp : pc + 1 = pc2)  (k : em_Ex d mid pc2 ls ((1, x_lor a b) :: st) M = R) : em_Ex d mid pc ls ((1, b) :: (1, a) :: st) M = R := by
  subst hp
  refine s_step H hl hn ?_
  exact k
theorem s_lshl (H : em_nth em_codes mid [] = cl) {a b : Int} {pc2 : Nat} (hl : em_look cl pc = some (.lshl, len, aux, o)) (hn : em_nrm o ls = ls) (hp : pc + 1 = pc2)  (k : em_Ex d mid pc2 ls ((1, x_lshl a b) :: st) M = R) : em_Ex d mid pc ls ((0, b) :: (1, a) :: st) M = R := by
  subst hp
  refine s_step H hl hn ?_
  exact k
theorem s_lshr (H : em_nth em_codes mid [] = cl) {a b : Int} {pc2 : Nat} (hl : em_look cl pc = some (.lshr, len, aux, o)) (hn : em_nrm o ls = ls) (hp : pc + 1 = pc2)  (k : em_Ex d mid pc2 ls ((1, x_lshr a b) :: st) M = R) : em_Ex d mid pc ls ((0, b) :: (1, a) :: st) M = R := by
  subst hp
  refine s_step H hl hn ?_
  exact k
theorem s_lcmp (H : em_nth em_codes mid [] = cl) {a b : Int} {pc2 : Nat} (hl : em_look cl pc = some (.lcmp, len, aux, o)) (hn : em_nrm o ls = ls) (hp : pc + 1 = pc2)  (k : em_Ex d mid pc2 ls ((0, x_cmp a b) :: st) M = R) : em_Ex d mid pc ls ((1, b) :: (1, a) :: st) M = R := by
  subst hp
  refine s_step H hl hn ?_
  exact k
theorem s_i2b (H : em_nth em_codes mid [] = cl) {a : Int} {pc2 : Nat} (hl : em_look cl pc = some (.i2b, len, aux, o)) (hn : em_nrm o ls = ls) (hp : pc + 1 = pc2)  (k : em_Ex d mid pc2 ls ((0, x_i2b a) :: st) M = R) : em_Ex d mid pc ls ((0, a) :: st) M = R := by
  subst hp
  refine s_step H hl hn ?_
  exact k
theorem s_i2c (H : em_nth em_codes mid [] = cl) {a : Int} {pc2 : Nat} (hl : em_look cl pc = some (.i2c, len, aux, o)) (hn : em_nrm o ls = ls) (hp : pc + 1 = pc2)  (k : em_Ex d mid pc2 ls ((0, x_i2c a) :: st) M = R) : em_Ex d mid pc ls ((0, a) :: st) M = R := by
  subst hp
  refine s_step H hl hn ?_
  exact k
theorem s_i2l (H : em_nth em_codes mid [] = cl) {a : Int} {pc2 : Nat} (hl : em_look cl pc = some (.i2l, len, aux, o)) (hn : em_nrm o ls = ls) (hp : pc + 1 = pc2)  (k : em_Ex d mid pc2 ls ((1, a) :: st) M = R) : em_Ex d mid pc ls ((0, a) :: st) M = R := by
  subst hp
  refine s_step H hl hn ?_
  exact k
theorem s_l2i (H : em_nth em_codes mid [] = cl) {a : Int} {pc2 : Nat} (hl : em_look cl pc = some (.l2i, len, aux, o)) (hn : em_nrm o ls = ls) (hp : pc + 1 = pc2)  (k : em_Ex d mid pc2 ls ((0, x32 a) :: st) M = R) : em_Ex d mid pc ls ((1, a) :: st) M = R := by
  subst hp
  refine s_step H hl hn ?_
  exact k
theorem s_ldiv (H : em_nth em_codes mid [] = cl) {a b : Int} {pc2 : Nat} {g : Bool} (hl : em_look cl pc = some (.ldiv, len, aux, o)) (hn : em_nrm o ls = ls) (hp : pc + 1 = pc2)  (hg : (decide (¬ b = 0)) = g) (k : em_Ex d mid pc2 ls ((1, x_ldiv a b) :: st) M = R) : em_Ex d mid pc ls ((1, b) :: (1, a) :: st) M = bif g then R else none := by
  subst hp
  subst hg
  refine s_step H hl hn ?_
  rw [← k]
  exact em_if_body
theorem s_lrem (H : em_nth em_codes mid [] = cl) {a b : Int} {pc2 : Nat} {g : Bool} (hl : em_look cl pc = some (.lrem, len, aux, o)) (hn : em_nrm o ls = ls) (hp : pc + 1 = pc2)  (hg : (decide (¬ b = 0)) = g) (k : em_Ex d mid pc2 ls ((1, x_lrem a b) :: st) M = R) : em_Ex d mid pc ls ((1, b) :: (1, a) :: st) M = bif g then R else none := by
  subst hp
  subst hg
  refine s_step H hl hn ?_
  rw [← k]
  exact em_if_body
theorem s_getC (H : em_nth em_codes mid [] = cl) {i : Nat} {a ci j tag off x2 : Int} {pc2 : Nat} {g : Bool} (hl : em_look cl pc = some (.getfield i, len, [ci, j, tag, 1, off], o)) (hn : em_nrm o ls = ls) (hp : pc + 3 = pc2) (hx : a + off = x2) (hg : (em_isO a ci) = g) (k : em_Ex d mid pc2 ls ((2, x2) :: st) M = R) : em_Ex d mid pc ls ((2, a) :: st) M = bif g then R else none := by
  subst hp
  subst hg
  refine s_step H hl hn ?_
  rw [← k]
  subst hx
  exact em_if_body
theorem s_getF (H : em_nth em_codes mid [] = cl) {i t : Nat} {a ci j off : Int} {pc2 : Nat} {g : Bool} (hl : em_look cl pc = some (.getfield i, len, [ci, j, ((t : Nat) : Int), 0, off], o)) (hn : em_nrm o ls = ls) (hp : pc + 3 = pc2)  (hg : (em_isO a ci) = g) (k : em_Ex d mid pc2 ls ((t, M a j) :: st) M = R) : em_Ex d mid pc ls ((2, a) :: st) M = bif g then R else none := by
  subst hp
  subst hg
  refine s_step H hl hn ?_
  rw [← k]
  exact em_if_body
theorem s_putF (H : em_nth em_codes mid [] = cl) {i t : Nat} {a ci j nk cj v : Int} {pc2 : Nat} {g : Bool} (hl : em_look cl pc = some (.putfield i, len, [ci, j, ((t : Nat) : Int), nk, cj], o)) (hn : em_nrm o ls = ls) (hp : pc + 3 = pc2)  (hg : (em_isO a ci && (bif decide (nk = 1) then decide (v = 0 ∨ v = 1) else bif decide (nk = 2) then em_isO v cj else true)) = g) (k : em_Ex d mid pc2 ls st (xup M a j v) = R) : em_Ex d mid pc ls ((t, v) :: (2, a) :: st) M = bif g then R else none := by
  subst hp
  subst hg
  refine s_step H hl hn ?_
  rw [← k]
  simp only [em_step, em_p2, em_p, Int.toNat_natCast, Nat.beq_refl, cond_true, Option.bind_some]
  exact em_if_body
theorem s_saload (H : em_nth em_codes mid [] = cl) {a i : Int} {pc2 : Nat} {g : Bool} (hl : em_look cl pc = some (.iaload, len, aux, o)) (hn : em_nrm o ls = ls) (hp : pc + 1 = pc2)  (hg : (decide (0 ≤ i ∧ i < M (-2) 0)) = g) (k : em_Ex d mid pc2 ls ((0, M (-1) i) :: st) M = R) : em_Ex d mid pc ls ((0, i) :: (5, a) :: st) M = bif g then R else none := by
  subst hp
  subst hg
  refine s_step H hl hn ?_
  rw [← k]
  exact em_if_body
theorem s_iaload (H : em_nth em_codes mid [] = cl) {a i : Int} {pc2 : Nat} {g : Bool} (hl : em_look cl pc = some (.iaload, len, aux, o)) (hn : em_nrm o ls = ls) (hp : pc + 1 = pc2)  (hg : (Nat.beq (em_kd a) 100 && decide (0 ≤ i ∧ i < em_ln a)) = g) (k : em_Ex d mid pc2 ls ((0, M a i) :: st) M = R) : em_Ex d mid pc ls ((0, i) :: (2, a) :: st) M = bif g then R else none := by
  subst hp
  subst hg
  refine s_step H hl hn ?_
  rw [← k]
  exact em_if_body
theorem s_laload (H : em_nth em_codes mid [] = cl) {a i : Int} {pc2 : Nat} {g : Bool} (hl : em_look cl pc = some (.laload, len, aux, o)) (hn : em_nrm o ls = ls) (hp : pc + 1 = pc2)  (hg : (Nat.beq (em_kd a) 101 && decide (0 ≤ i ∧ i < em_ln a)) = g) (k : em_Ex d mid pc2 ls ((1, M a i) :: st) M = R) : em_Ex d mid pc ls ((0, i) :: (2, a) :: st) M = bif g then R else none := by
  subst hp
  subst hg
  refine s_step H hl hn ?_
  rw [← k]
  exact em_if_body
theorem s_baload (H : em_nth em_codes mid [] = cl) {a i : Int} {pc2 : Nat} {g : Bool} (hl : em_look cl pc = some (.baload, len, aux, o)) (hn : em_nrm o ls = ls) (hp : pc + 1 = pc2)  (hg : ((Nat.beq (em_kd a) 102 || Nat.beq (em_kd a) 103) && decide (0 ≤ i ∧ i < em_ln a)) = g) (k : em_Ex d mid pc2 ls ((0, M a i) :: st) M = R) : em_Ex d mid pc ls ((0, i) :: (2, a) :: st) M = bif g then R else none := by
  subst hp
  subst hg
  refine s_step H hl hn ?_
  rw [← k]
  exact em_if_body
theorem s_aaload (H : em_nth em_codes mid [] = cl) {a i x2 : Int} {pc2 : Nat} {g : Bool} (hl : em_look cl pc = some (.aaload, len, aux, o)) (hn : em_nrm o ls = ls) (hp : pc + 1 = pc2) (hx : a + 1 + i * (bif Nat.beq (em_kd a) 112 then 6 else 1) = x2) (hg : ((Nat.beq (em_kd a) 110 || (Nat.beq (em_kd a) 111 || Nat.beq (em_kd a) 112)) && decide (0 ≤ i ∧ i < em_ln a)) = g) (k : em_Ex d mid pc2 ls ((2, x2) :: st) M = R) : em_Ex d mid pc ls ((0, i) :: (2, a) :: st) M = bif g then R else none := by
  subst hp
  subst hg
  refine s_step H hl hn ?_
  rw [← k]
  subst hx
  exact em_if_body
theorem s_iastore (H : em_nth em_codes mid [] = cl) {a i v : Int} {pc2 : Nat} {g : Bool} (hl : em_look cl pc = some (.iastore, len, aux, o)) (hn : em_nrm o ls = ls) (hp : pc + 1 = pc2)  (hg : (Nat.beq (em_kd a) 100 && decide (0 ≤ i ∧ i < em_ln a)) = g) (k : em_Ex d mid pc2 ls st (xup M a i v) = R) : em_Ex d mid pc ls ((0, v) :: (0, i) :: (2, a) :: st) M = bif g then R else none := by
  subst hp
  subst hg
  refine s_step H hl hn ?_
  rw [← k]
  exact em_if_body
theorem s_lastore (H : em_nth em_codes mid [] = cl) {a i v : Int} {pc2 : Nat} {g : Bool} (hl : em_look cl pc = some (.lastore, len, aux, o)) (hn : em_nrm o ls = ls) (hp : pc + 1 = pc2)  (hg : (Nat.beq (em_kd a) 101 && decide (0 ≤ i ∧ i < em_ln a)) = g) (k : em_Ex d mid pc2 ls st (xup M a i v) = R) : em_Ex d mid pc ls ((1, v) :: (0, i) :: (2, a) :: st) M = bif g then R else none := by
  subst hp
  subst hg
  refine s_step H hl hn ?_
  rw [← k]
  exact em_if_body
theorem s_bastore (H : em_nth em_codes mid [] = cl) {a i v v2 : Int} {pc2 : Nat} {g : Bool} (hl : em_look cl pc = some (.bastore, len, aux, o)) (hn : em_nrm o ls = ls) (hp : pc + 1 = pc2) (hv : (bif Nat.beq (em_kd a) 102 then x_i2b v else v) = v2) (hg : ((Nat.beq (em_kd a) 102 || (Nat.beq (em_kd a) 103 && decide (v = 0 ∨ v = 1))) && decide (0 ≤ i ∧ i < em_ln a)) = g) (k : em_Ex d mid pc2 ls st (xup M a i v2) = R) : em_Ex d mid pc ls ((0, v) :: (0, i) :: (2, a) :: st) M = bif g then R else none := by
  subst hp
  subst hg
  refine s_step H hl hn ?_
  rw [← k]
  subst hv
  exact em_if_body
theorem s_bastB (H : em_nth em_codes mid [] = cl) {a i v : Int} {pc2 : Nat} {g : Bool} (hl : em_look cl pc = some (.bastore, len, aux, o)) (hn : em_nrm o ls = ls) (hp : pc + 1 = pc2) (hk : em_kd a = 102) (hg : (decide (0 ≤ i ∧ i < em_ln a)) = g) (k : em_Ex d mid pc2 ls st (xup M a i (x_i2b v)) = R) : em_Ex d mid pc ls ((0, v) :: (0, i) :: (2, a) :: st) M = bif g then R else none := by
  subst hp
  subst hg
  refine s_step H hl hn ?_
  rw [← k]
  have e : em_step mid pc .bastore aux ls ((0, v) :: (0, i) :: (2, a) :: st) M = em_if (decide (0 ≤ i ∧ i < em_ln a)) (pc + 1) ls st (xup M a i (x_i2b v)) := by
    show em_if ((Nat.beq (em_kd a) 102 || (Nat.beq (em_kd a) 103 && decide (v = 0 ∨ v = 1))) && decide (0 ≤ i ∧ i < em_ln a)) (pc + 1) ls st (xup M a i (bif Nat.beq (em_kd a) 102 then x_i2b v else v)) = _
    rw [hk]
    rfl
  rw [e]
  exact em_if_body
theorem s_bastZ (H : em_nth em_codes mid [] = cl) {a i v : Int} {pc2 : Nat} {g : Bool} (hl : em_look cl pc = some (.bastore, len, aux, o)) (hn : em_nrm o ls = ls) (hp : pc + 1 = pc2) (hk : em_kd a = 103) (hg : (decide (v = 0 ∨ v = 1) && decide (0 ≤ i ∧ i < em_ln a)) = g) (k : em_Ex d mid pc2 ls st (xup M a i v) = R) : em_Ex d mid pc ls ((0, v) :: (0, i) :: (2, a) :: st) M = bif g then R else none := by
  subst hp
  subst hg
  refine s_step H hl hn ?_
  rw [← k]
  have e : em_step mid pc .bastore aux ls ((0, v) :: (0, i) :: (2, a) :: st) M = em_if (decide (v = 0 ∨ v = 1) && decide (0 ≤ i ∧ i < em_ln a)) (pc + 1) ls st (xup M a i v) := by
    show em_if ((Nat.beq (em_kd a) 102 || (Nat.beq (em_kd a) 103 && decide (v = 0 ∨ v = 1))) && decide (0 ≤ i ∧ i < em_ln a)) (pc + 1) ls st (xup M a i (bif Nat.beq (em_kd a) 102 then x_i2b v else v)) = _
    rw [hk]
    rfl
  rw [e]
  exact em_if_body
theorem s_getst (H : em_nth em_codes mid [] = cl) {i : Nat} {v : Int} {pc2 : Nat} (hl : em_look cl pc = some (.getstatic i, len, [0, v], o)) (hn : em_nrm o ls = ls) (hp : pc + 3 = pc2)  (k : em_Ex d mid pc2 ls ((0, v) :: st) M = R) : em_Ex d mid pc ls st M = R := by
  subst hp
  refine s_step H hl hn ?_
  exact k
theorem s_getstR (H : em_nth em_codes mid [] = cl) {i : Nat} {pc2 : Nat} (hl : em_look cl pc = some (.getstatic i, len, [1], o)) (hn : em_nrm o ls = ls) (hp : pc + 3 = pc2)  (k : em_Ex d mid pc2 ls ((6, 0) :: st) M = R) : em_Ex d mid pc ls st M = R := by
  subst hp
  refine s_step H hl hn ?_
  exact k
theorem s_pop (H : em_nth em_codes mid [] = cl) {q : em_V} {pc2 : Nat} (hl : em_look cl pc = some (.pop, len, aux, o)) (hn : em_nrm o ls = ls) (hp : pc + 1 = pc2) (ht : Nat.beq q.1 1 = false) (k : em_Ex d mid pc2 ls st M = R) : em_Ex d mid pc ls (q :: st) M = R := by
  subst hp
  refine s_step H hl hn ?_
  simp only [em_step, ht]
  exact k
theorem s_getSv (H : em_nth em_codes mid [] = cl) {i : Nat} {a x2 : Int} {pc2 : Nat} {g : Bool} (hl : em_look cl pc = some (.getfield i, len, [0], o)) (hn : em_nrm o ls = ls) (hp : pc + 3 = pc2) (hx : a + 16 = x2) (hg : (decide (0 ≤ a ∧ a < 16)) = g) (k : em_Ex d mid pc2 ls ((4, x2) :: st) M = R) : em_Ex d mid pc ls ((4, a) :: st) M = bif g then R else none := by
  subst hp
  subst hg
  refine s_step H hl hn ?_
  rw [← k]
  subst hx
  exact em_if_body
theorem s_getSc (H : em_nth em_codes mid [] = cl) {i : Nat} {a : Int} {pc2 : Nat} {g : Bool} (hl : em_look cl pc = some (.getfield i, len, [1], o)) (hn : em_nrm o ls = ls) (hp : pc + 3 = pc2)  (hg : (decide (0 ≤ a ∧ a < 16)) = g) (k : em_Ex d mid pc2 ls ((0, 0) :: st) M = R) : em_Ex d mid pc ls ((4, a) :: st) M = bif g then R else none := by
  subst hp
  subst hg
  refine s_step H hl hn ?_
  rw [← k]
  exact em_if_body
theorem s_alenS (H : em_nth em_codes mid [] = cl) {a : Int} {pc2 : Nat} {g : Bool} (hl : em_look cl pc = some (.arraylength, len, aux, o)) (hn : em_nrm o ls = ls) (hp : pc + 1 = pc2)  (hg : (decide (16 ≤ a ∧ a < 32)) = g) (k : em_Ex d mid pc2 ls ((0, em_slen (a - 16)) :: st) M = R) : em_Ex d mid pc ls ((4, a) :: st) M = bif g then R else none := by
  subst hp
  subst hg
  refine s_step H hl hn ?_
  rw [← k]
  exact em_if_body
theorem s_baloadS (H : em_nth em_codes mid [] = cl) {a i : Int} {pc2 : Nat} {g : Bool} (hl : em_look cl pc = some (.baload, len, aux, o)) (hn : em_nrm o ls = ls) (hp : pc + 1 = pc2)  (hg : (decide (16 ≤ a ∧ a < 32) && decide (0 ≤ i ∧ i < em_slen (a - 16))) = g) (k : em_Ex d mid pc2 ls ((0, em_chr (a - 16) i) :: st) M = R) : em_Ex d mid pc ls ((0, i) :: (4, a) :: st) M = bif g then R else none := by
  subst hp
  subst hg
  refine s_step H hl hn ?_
  rw [← k]
  exact em_if_body
theorem s_none (H : em_nth em_codes mid [] = cl) {ins : Instr} (hl : em_look cl pc = some (ins, len, aux, o)) (hn : em_nrm o ls = ls) (h : em_step mid pc ins aux ls st M = none) : em_Ex d mid pc ls st M = none := s_step H hl hn (by rw [h]; rfl)
theorem s_slen (H : em_nth em_codes mid [] = cl) {a : Int} {pc2 : Nat} (hl : em_look cl pc = some (.arraylength, len, aux, o)) (hn : em_nrm o ls = ls) (hp : pc + 1 = pc2)  (k : em_Ex d mid pc2 ls ((0, M (-2) 0) :: st) M = R) : em_Ex d mid pc ls ((5, a) :: st) M = R := by
  subst hp
  refine s_step H hl hn ?_
  exact k
theorem s_alen (H : em_nth em_codes mid [] = cl) {a : Int} {pc2 : Nat} {g : Bool} (hl : em_look cl pc = some (.arraylength, len, aux, o)) (hn : em_nrm o ls = ls) (hp : pc + 1 = pc2)  (hg : (Nat.ble 100 (em_kd a) && Nat.blt (em_kd a) 200) = g) (k : em_Ex d mid pc2 ls ((0, em_ln a) :: st) M = R) : em_Ex d mid pc ls ((2, a) :: st) M = bif g then R else none := by
  subst hp
  subst hg
  refine s_step H hl hn ?_
  rw [← k]
  exact em_if_body
theorem s_if_eq (H : em_nth em_codes mid [] = cl) {v off : Int} {pc1 pc2 : Nat} {A B : Option (Int × em_M)} (hl : em_look cl pc = some (.ifCond .eq off, len, aux, o)) (hn : em_nrm o ls = ls) (hp : pc + 3 = pc2) (ht : em_tgt pc off = pc1) (k1 : em_Ex d mid pc1 ls st M = A) (k2 : em_Ex d mid pc2 ls st M = B) : em_Ex d mid pc ls ((0, v) :: st) M = bif decide (v = 0) then A else B := by
  subst hp
  subst ht
  exact s_step H hl hn (s_br k1 k2)
theorem s_ic_eq (H : em_nth em_codes mid [] = cl) {a b off : Int} {pc1 pc2 : Nat} {A B : Option (Int × em_M)} (hl : em_look cl pc = some (.if_icmp .eq off, len, aux, o)) (hn : em_nrm o ls = ls) (hp : pc + 3 = pc2) (ht : em_tgt pc off = pc1) (k1 : em_Ex d mid pc1 ls st M = A) (k2 : em_Ex d mid pc2 ls st M = B) : em_Ex d mid pc ls ((0, b) :: (0, a) :: st) M = bif decide (a = b) then A else B := by
  subst hp
  subst ht
  exact s_step H hl hn (s_br k1 k2)
theorem s_if_ne (H : em_nth em_codes mid [] = cl) {v off : Int} {pc1 pc2 : Nat} {A B : Option (Int × em_M)} (hl : em_look cl pc = some (.ifCond .ne off, len, aux, o)) (hn : em_nrm o ls = ls) (hp : pc + 3 = pc2) (ht : em_tgt pc off = pc1) (k1 : em_Ex d mid pc1 ls st M = A) (k2 : em_Ex d mid pc2 ls st M = B) : em_Ex d mid pc ls ((0, v) :: st) M = bif decide (¬ v = 0) then A else B := by
  subst hp
  subst ht
  exact s_step H hl hn (s_br k1 k2)
theorem s_ic_ne (H : em_nth em_codes mid [] = cl) {a b off : Int} {pc1 pc2 : Nat} {A B : Option (Int × em_M)} (hl : em_look cl pc = some (.if_icmp .ne off, len, aux, o)) (hn : em_nrm o ls = ls) (hp : pc + 3 = pc2) (ht : em_tgt pc off = pc1) (k1 : em_Ex d mid pc1 ls st M = A) (k2 : em_Ex d mid pc2 ls st M = B) : em_Ex d mid pc ls ((0, b) :: (0, a) :: st) M = bif decide (¬ a = b) then A else B := by
  subst hp
  subst ht
  exact s_step H hl hn (s_br k1 k2)
theorem s_if_lt (H : em_nth em_codes mid [] = cl) {v off : Int} {pc1 pc2 : Nat} {A B : Option (Int × em_M)} (hl : em_look cl pc = some (.ifCond .lt off, len, aux, o)) (hn : em_nrm o ls = ls) (hp : pc + 3 = pc2) (ht : em_tgt pc off = pc1) (k1 : em_Ex d mid pc1 ls st M = A) (k2 : em_Ex d mid pc2 ls st M = B) : em_Ex d mid pc ls ((0, v) :: st) M = bif decide (v < 0) then A else B := by
  subst hp
  subst ht
  exact s_step H hl hn (s_br k1 k2)
theorem s_ic_lt (H : em_nth em_codes mid [] = cl) {a b off : Int} {pc1 pc2 : Nat} {A B : Option (Int × em_M)} (hl : em_look cl pc = some (.if_icmp .lt off, len, aux, o)) (hn : em_nrm o ls = ls) (hp : pc + 3 = pc2) (ht : em_tgt pc off = pc1) (k1 : em_Ex d mid pc1 ls st M = A) (k2 : em_Ex d mid pc2 ls st M = B) : em_Ex d mid pc ls ((0, b) :: (0, a) :: st) M = bif decide (a < b) then A else B := by
  subst hp
  subst ht
  exact s_step H hl hn (s_br k1 k2)
theorem s_if_ge (H : em_nth em_codes mid [] = cl) {v off : Int} {pc1 pc2 : Nat} {A B : Option (Int × em_M)} (hl : em_look cl pc = some (.ifCond .ge off, len, aux, o)) (hn : em_nrm o ls = ls) (hp : pc + 3 = pc2) (ht : em_tgt pc off = pc1) (k1 : em_Ex d mid pc1 ls st M = A) (k2 : em_Ex d mid pc2 ls st M = B) : em_Ex d mid pc ls ((0, v) :: st) M = bif decide (0 ≤ v) then A else B := by
  subst hp
  subst ht
  exact s_step H hl hn (s_br k1 k2)
theorem s_ic_ge (H : em_nth em_codes mid [] = cl) {a b off : Int} {pc1 pc2 : Nat} {A B : Option (Int × em_M)} (hl : em_look cl pc = some (.if_icmp .ge off, len, aux, o)) (hn : em_nrm o ls = ls) (hp : pc + 3 = pc2) (ht : em_tgt pc off = pc1) (k1 : em_Ex d mid pc1 ls st M = A) (k2 : em_Ex d mid pc2 ls st M = B) : em_Ex d mid pc ls ((0, b) :: (0, a) :: st) M = bif decide (b ≤ a) then A else B := by
  subst hp
  subst ht
  exact s_step H hl hn (s_br k1 k2)
theorem s_if_gt (H : em_nth em_codes mid [] = cl) {v off : Int} {pc1 pc2 : Nat} {A B : Option (Int × em_M)} (hl : em_look cl pc = some (.ifCond .gt off, len, aux, o)) (hn : em_nrm o ls = ls) (hp : pc + 3 = pc2) (ht : em_tgt pc off = pc1) (k1 : em_Ex d mid pc1 ls st M = A) (k2 : em_Ex d mid pc2 ls st M = B) : em_Ex d mid pc ls ((0, v) :: st) M = bif decide (0 < v) then A else B := by
  subst hp
  subst ht
  exact s_step H hl hn (s_br k1 k2)
theorem s_ic_gt (H : em_nth em_codes mid [] = cl) {a b off : Int} {pc1 pc2 : Nat} {A B : Option (Int × em_M)} (hl : em_look cl pc = some (.if_icmp .gt off, len, aux, o)) (hn : em_nrm o ls = ls) (hp : pc + 3 = pc2) (ht : em_tgt pc off = pc1) (k1 : em_Ex d mid pc1 ls st M = A) (k2 : em_Ex d mid pc2 ls st M = B) : em_Ex d mid pc ls ((0, b) :: (0, a) :: st) M = bif decide (b < a) then A else B := by
  subst hp
  subst ht
  exact s_step H hl hn (s_br k1 k2)
theorem s_if_le (H : em_nth em_codes mid [] = cl) {v off : Int} {pc1 pc2 : Nat} {A B : Option (Int × em_M)} (hl : em_look cl pc = some (.ifCond .le off, len, aux, o)) (hn : em_nrm o ls = ls) (hp : pc + 3 = pc2) (ht : em_tgt pc off = pc1) (k1 : em_Ex d mid pc1 ls st M = A) (k2 : em_Ex d mid pc2 ls st M = B) : em_Ex d mid pc ls ((0, v) :: st) M = bif decide (v ≤ 0) then A else B := by
  subst hp
  subst ht
  exact s_step H hl hn (s_br k1 k2)
theorem s_ic_le (H : em_nth em_codes mid [] = cl) {a b off : Int} {pc1 pc2 : Nat} {A B : Option (Int × em_M)} (hl : em_look cl pc = some (.if_icmp .le off, len, aux, o)) (hn : em_nrm o ls = ls) (hp : pc + 3 = pc2) (ht : em_tgt pc off = pc1) (k1 : em_Ex d mid pc1 ls st M = A) (k2 : em_Ex d mid pc2 ls st M = B) : em_Ex d mid pc ls ((0, b) :: (0, a) :: st) M = bif decide (a ≤ b) then A else B := by
  subst hp
  subst ht
  exact s_step H hl hn (s_br k1 k2)
theorem s_goto (H : em_nth em_codes mid [] = cl) {off : Int} {pc2 : Nat} (hl : em_look cl pc = some (.goto off, len, aux, o)) (hn : em_nrm o ls = ls) (ht : em_tgt pc off = pc2) (k : em_Ex d mid pc2 ls st M = R) : em_Ex d mid pc ls st M = R := by
  subst ht
  exact s_step H hl hn k
theorem s_ifnull (H : em_nth em_codes mid [] = cl) {a off : Int} {pc2 : Nat} (hl : em_look cl pc = some (.ifnull off, len, aux, o)) (hn : em_nrm o ls = ls) (ht : pc + 3 = pc2) (k : em_Ex d mid pc2 ls st M = R) : em_Ex d mid pc ls ((2, a) :: st) M = R := by
  subst ht
  exact s_step H hl hn k
theorem s_ifnonnull (H : em_nth em_codes mid [] = cl) {a off : Int} {pc2 : Nat} (hl : em_look cl pc = some (.ifnonnull off, len, aux, o)) (hn : em_nrm o ls = ls) (ht : em_tgt pc off = pc2) (k : em_Ex d mid pc2 ls st M = R) : em_Ex d mid pc ls ((2, a) :: st) M = R := by
  subst ht
  exact s_step H hl hn k
/-- what the ways of a switch come to -/
theorem s_sw_nil {α : Type} {k : Nat → α} {d : Nat} {v : Int} {lo : Int} {R : α} (h : k d = R) : em_fold k (em_sw pc v lo []) d = R := h
theorem s_sw_cons {α : Type} {k : Nat → α} {d p1 : Nat} {v lo lo2 x : Int} {r : List Int} {A B : α} (hp : em_tgt pc x = p1) (hlo : lo + 1 = lo2) (h1 : k p1 = A) (h2 : em_fold k (em_sw pc v lo2 r) d = B) : em_fold k (em_sw pc v lo (x :: r)) d = bif decide (v = lo) then A else B := by
  subst hp
  subst hlo
  rw [← h1, ← h2]
  rfl
theorem s_switch (H : em_nth em_codes mid [] = cl) {v dflt lo hi : Int} {offs : Array Int} {l : List Int} {pc2 : Nat} (hl : em_look cl pc = some (.tableswitch dflt lo hi offs, len, aux, o)) (hn : em_nrm o ls = ls) (ht : em_tgt pc dflt = pc2) (hL : offs.toList = l) (k : em_fold (fun p => em_Ex d mid p ls st M) (em_sw pc v lo l) pc2 = R) : em_Ex d mid pc ls ((0, v) :: st) M = R := by
  subst ht
  subst hL
  exact s_step H hl hn k
theorem s_callv0 (H : em_nth em_codes mid [] = cl) {i m2 d1 d2 pc2 : Nat} {n ci mi : Int} {args rest : List em_V} {K : Int × em_M → Option (Int × em_M)} {X : Option (Int × em_M)} {g : Bool} (hl : em_look cl pc = some (.invokevirtual i, len, [mi, n, ci], o)) (hn : em_nrm o ls = ls) (hd : d = d1 + 1) (hm : mi.toNat = m2) (hp : pc + 3 = pc2) (ha : em_take n.toNat st [] = some (args, rest)) (hr : (em_rk m2 = 0 ∨ em_rk m2 = 5 ∨ em_rk m2 = 6 ∨ em_rk m2 = 7)) (hdd : em_dd d1 m2 = d2) (hg : ((decide (ci = -1) || em_rcv ci args) && Nat.ble (em_cat rest) 8 && Nat.ble (em_cat args) (em_mx m2)) = g) (hX : em_Rn d2 m2 args M = X) (k : ∀ r : Int × em_M, em_Ex d mid pc2 ls ((0, r.1) :: rest) r.2 = K r) : em_Ex d mid pc ls st M = bif g then X.bind K else none := by
  subst hp
  subst hX
  subst hdd
  subst hm
  refine s_step H hl hn ?_
  have hp : ∀ (v : Int × em_M), em_push mi.toNat v.1 rest = ((0, v.1) :: rest) := fun v => by rcases hr with hr | hr | hr | hr <;> simp only [em_push, hr]
  show em_body d mid (em_Ex d mid) (em_call pc ls st M [mi, n, ci]) = _
  simp only [em_call, ha, Option.bind_some, hg]
  cases g with
  | false => rfl
  | true =>
    subst hd
    show (em_Rn (em_dd d1 mi.toNat) mi.toNat args M).bind (fun r => em_Ex (d1 + 1) mid (pc + 3) ls (em_push mi.toNat r.1 rest) r.2) = _
    refine congrArg _ (funext fun r => ?_)
    rw [hp r]
    exact k r
theorem s_calls0 (H : em_nth em_codes mid [] = cl) {i m2 d1 d2 pc2 : Nat} {n ci mi : Int} {args rest : List em_V} {K : Int × em_M → Option (Int × em_M)} {X : Option (Int × em_M)} {g : Bool} (hl : em_look cl pc = some (.invokestatic i, len, [mi, n, ci], o)) (hn : em_nrm o ls = ls) (hd : d = d1 + 1) (hm : mi.toNat = m2) (hp : pc + 3 = pc2) (ha : em_take n.toNat st [] = some (args, rest)) (hr : (em_rk m2 = 0 ∨ em_rk m2 = 5 ∨ em_rk m2 = 6 ∨ em_rk m2 = 7)) (hdd : em_dd d1 m2 = d2) (hg : ((decide (ci = -1) || em_rcv ci args) && Nat.ble (em_cat rest) 8 && Nat.ble (em_cat args) (em_mx m2)) = g) (hX : em_Rn d2 m2 args M = X) (k : ∀ r : Int × em_M, em_Ex d mid pc2 ls ((0, r.1) :: rest) r.2 = K r) : em_Ex d mid pc ls st M = bif g then X.bind K else none := by
  subst hp
  subst hX
  subst hdd
  subst hm
  refine s_step H hl hn ?_
  have hp : ∀ (v : Int × em_M), em_push mi.toNat v.1 rest = ((0, v.1) :: rest) := fun v => by rcases hr with hr | hr | hr | hr <;> simp only [em_push, hr]
  show em_body d mid (em_Ex d mid) (em_call pc ls st M [mi, n, ci]) = _
  simp only [em_call, ha, Option.bind_some, hg]
  cases g with
  | false => rfl
  | true =>
    subst hd
    show (em_Rn (em_dd d1 mi.toNat) mi.toNat args M).bind (fun r => em_Ex (d1 + 1) mid (pc + 3) ls (em_push mi.toNat r.1 rest) r.2) = _
    refine congrArg _ (funext fun r => ?_)
    rw [hp r]
    exact k r
theorem s_callv1 (H : em_nth em_codes mid [] = cl) {i m2 d1 d2 pc2 : Nat} {n ci mi : Int} {args rest : List em_V} {K : Int × em_M → Option (Int × em_M)} {X : Option (Int × em_M)} {g : Bool} (hl : em_look cl pc = some (.invokevirtual i, len, [mi, n, ci], o)) (hn : em_nrm o ls = ls) (hd : d = d1 + 1) (hm : mi.toNat = m2) (hp : pc + 3 = pc2) (ha : em_take n.toNat st [] = some (args, rest)) (hr : em_rk m2 = 1) (hdd : em_dd d1 m2 = d2) (hg : ((decide (ci = -1) || em_rcv ci args) && Nat.ble (em_cat rest) 8 && Nat.ble (em_cat args) (em_mx m2)) = g) (hX : em_Rn d2 m2 args M = X) (k : ∀ r : Int × em_M, em_Ex d mid pc2 ls ((1, r.1) :: rest) r.2 = K r) : em_Ex d mid pc ls st M = bif g then X.bind K else none := by
  subst hp
  subst hX
  subst hdd
  subst hm
  refine s_step H hl hn ?_
  have hp : ∀ (v : Int × em_M), em_push mi.toNat v.1 rest = ((1, v.1) :: rest) := fun v => by simp only [em_push, hr]
  show em_body d mid (em_Ex d mid) (em_call pc ls st M [mi, n, ci]) = _
  simp only [em_call, ha, Option.bind_some, hg]
  cases g with
  | false => rfl
  | true =>
    subst hd
    show (em_Rn (em_dd d1 mi.toNat) mi.toNat args M).bind (fun r => em_Ex (d1 + 1) mid (pc + 3) ls (em_push mi.toNat r.1 rest) r.2) = _
    refine congrArg _ (funext fun r => ?_)
    rw [hp r]
    exact k r
theorem s_calls1 (H : em_nth em_codes mid [] = cl) {i m2 d1 d2 pc2 : Nat} {n ci mi : Int} {args rest : List em_V} {K : Int × em_M → Option (Int × em_M)} {X : Option (Int × em_M)} {g : Bool} (hl : em_look cl pc = some (.invokestatic i, len, [mi, n, ci], o)) (hn : em_nrm o ls = ls) (hd : d = d1 + 1) (hm : mi.toNat = m2) (hp : pc + 3 = pc2) (ha : em_take n.toNat st [] = some (args, rest)) (hr : em_rk m2 = 1) (hdd : em_dd d1 m2 = d2) (hg : ((decide (ci = -1) || em_rcv ci args) && Nat.ble (em_cat rest) 8 && Nat.ble (em_cat args) (em_mx m2)) = g) (hX : em_Rn d2 m2 args M = X) (k : ∀ r : Int × em_M, em_Ex d mid pc2 ls ((1, r.1) :: rest) r.2 = K r) : em_Ex d mid pc ls st M = bif g then X.bind K else none := by
  subst hp
  subst hX
  subst hdd
  subst hm
  refine s_step H hl hn ?_
  have hp : ∀ (v : Int × em_M), em_push mi.toNat v.1 rest = ((1, v.1) :: rest) := fun v => by simp only [em_push, hr]
  show em_body d mid (em_Ex d mid) (em_call pc ls st M [mi, n, ci]) = _
  simp only [em_call, ha, Option.bind_some, hg]
  cases g with
  | false => rfl
  | true =>
    subst hd
    show (em_Rn (em_dd d1 mi.toNat) mi.toNat args M).bind (fun r => em_Ex (d1 + 1) mid (pc + 3) ls (em_push mi.toNat r.1 rest) r.2) = _
    refine congrArg _ (funext fun r => ?_)
    rw [hp r]
    exact k r
theorem s_callv2 (H : em_nth em_codes mid [] = cl) {i m2 d1 d2 pc2 : Nat} {n ci mi : Int} {args rest : List em_V} {K : Int × em_M → Option (Int × em_M)} {X : Option (Int × em_M)} {g : Bool} (hl : em_look cl pc = some (.invokevirtual i, len, [mi, n, ci], o)) (hn : em_nrm o ls = ls) (hd : d = d1 + 1) (hm : mi.toNat = m2) (hp : pc + 3 = pc2) (ha : em_take n.toNat st [] = some (args, rest)) (hr : em_rk m2 = 2) (hdd : em_dd d1 m2 = d2) (hg : ((decide (ci = -1) || em_rcv ci args) && Nat.ble (em_cat rest) 8 && Nat.ble (em_cat args) (em_mx m2)) = g) (hX : em_Rn d2 m2 args M = X) (k : ∀ r : Int × em_M, em_Ex d mid pc2 ls ((2, r.1) :: rest) r.2 = K r) : em_Ex d mid pc ls st M = bif g then X.bind K else none := by
  subst hp
  subst hX
  subst hdd
  subst hm
  refine s_step H hl hn ?_
  have hp : ∀ (v : Int × em_M), em_push mi.toNat v.1 rest = ((2, v.1) :: rest) := fun v => by simp only [em_push, hr]
  show em_body d mid (em_Ex d mid) (em_call pc ls st M [mi, n, ci]) = _
  simp only [em_call, ha, Option.bind_some, hg]
  cases g with
  | false => rfl
  | true =>
    subst hd
    show (em_Rn (em_dd d1 mi.toNat) mi.toNat args M).bind (fun r => em_Ex (d1 + 1) mid (pc + 3) ls (em_push mi.toNat r.1 rest) r.2) = _
    refine congrArg _ (funext fun r => ?_)
    rw [hp r]
    exact k r
theorem s_calls2 (H : em_nth em_codes mid [] = cl) {i m2 d1 d2 pc2 : Nat} {n ci mi : Int} {args rest : List em_V} {K : Int × em_M → Option (Int × em_M)} {X : Option (Int × em_M)} {g : Bool} (hl : em_look cl pc = some (.invokestatic i, len, [mi, n, ci], o)) (hn : em_nrm o ls = ls) (hd : d = d1 + 1) (hm : mi.toNat = m2) (hp : pc + 3 = pc2) (ha : em_take n.toNat st [] = some (args, rest)) (hr : em_rk m2 = 2) (hdd : em_dd d1 m2 = d2) (hg : ((decide (ci = -1) || em_rcv ci args) && Nat.ble (em_cat rest) 8 && Nat.ble (em_cat args) (em_mx m2)) = g) (hX : em_Rn d2 m2 args M = X) (k : ∀ r : Int × em_M, em_Ex d mid pc2 ls ((2, r.1) :: rest) r.2 = K r) : em_Ex d mid pc ls st M = bif g then X.bind K else none := by
  subst hp
  subst hX
  subst hdd
  subst hm
  refine s_step H hl hn ?_
  have hp : ∀ (v : Int × em_M), em_push mi.toNat v.1 rest = ((2, v.1) :: rest) := fun v => by simp only [em_push, hr]
  show em_body d mid (em_Ex d mid) (em_call pc ls st M [mi, n, ci]) = _
  simp only [em_call, ha, Option.bind_some, hg]
  cases g with
  | false => rfl
  | true =>
    subst hd
    show (em_Rn (em_dd d1 mi.toNat) mi.toNat args M).bind (fun r => em_Ex (d1 + 1) mid (pc + 3) ls (em_push mi.toNat r.1 rest) r.2) = _
    refine congrArg _ (funext fun r => ?_)
    rw [hp r]
    exact k r
theorem s_callv4 (H : em_nth em_codes mid [] = cl) {i m2 d1 d2 pc2 : Nat} {n ci mi : Int} {args rest : List em_V} {K : Int × em_M → Option (Int × em_M)} {X : Option (Int × em_M)} {g : Bool} (hl : em_look cl pc = some (.invokevirtual i, len, [mi, n, ci], o)) (hn : em_nrm o ls = ls) (hd : d = d1 + 1) (hm : mi.toNat = m2) (hp : pc + 3 = pc2) (ha : em_take n.toNat st [] = some (args, rest)) (hr : em_rk m2 = 4) (hdd : em_dd d1 m2 = d2) (hg : ((decide (ci = -1) || em_rcv ci args) && Nat.ble (em_cat rest) 8 && Nat.ble (em_cat args) (em_mx m2)) = g) (hX : em_Rn d2 m2 args M = X) (k : ∀ r : Int × em_M, em_Ex d mid pc2 ls ((4, r.1) :: rest) r.2 = K r) : em_Ex d mid pc ls st M = bif g then X.bind K else none := by
  subst hp
  subst hX
  subst hdd
  subst hm
  refine s_step H hl hn ?_
  have hp : ∀ (v : Int × em_M), em_push mi.toNat v.1 rest = ((4, v.1) :: rest) := fun v => by simp only [em_push, hr]
  show em_body d mid (em_Ex d mid) (em_call pc ls st M [mi, n, ci]) = _
  simp only [em_call, ha, Option.bind_some, hg]
  cases g with
  | false => rfl
  | true =>
    subst hd
    show (em_Rn (em_dd d1 mi.toNat) mi.toNat args M).bind (fun r => em_Ex (d1 + 1) mid (pc + 3) ls (em_push mi.toNat r.1 rest) r.2) = _
    refine congrArg _ (funext fun r => ?_)
    rw [hp r]
    exact k r
theorem s_calls4 (H : em_nth em_codes mid [] = cl) {i m2 d1 d2 pc2 : Nat} {n ci mi : Int} {args rest : List em_V} {K : Int × em_M → Option (Int × em_M)} {X : Option (Int × em_M)} {g : Bool} (hl : em_look cl pc = some (.invokestatic i, len, [mi, n, ci], o)) (hn : em_nrm o ls = ls) (hd : d = d1 + 1) (hm : mi.toNat = m2) (hp : pc + 3 = pc2) (ha : em_take n.toNat st [] = some (args, rest)) (hr : em_rk m2 = 4) (hdd : em_dd d1 m2 = d2) (hg : ((decide (ci = -1) || em_rcv ci args) && Nat.ble (em_cat rest) 8 && Nat.ble (em_cat args) (em_mx m2)) = g) (hX : em_Rn d2 m2 args M = X) (k : ∀ r : Int × em_M, em_Ex d mid pc2 ls ((4, r.1) :: rest) r.2 = K r) : em_Ex d mid pc ls st M = bif g then X.bind K else none := by
  subst hp
  subst hX
  subst hdd
  subst hm
  refine s_step H hl hn ?_
  have hp : ∀ (v : Int × em_M), em_push mi.toNat v.1 rest = ((4, v.1) :: rest) := fun v => by simp only [em_push, hr]
  show em_body d mid (em_Ex d mid) (em_call pc ls st M [mi, n, ci]) = _
  simp only [em_call, ha, Option.bind_some, hg]
  cases g with
  | false => rfl
  | true =>
    subst hd
    show (em_Rn (em_dd d1 mi.toNat) mi.toNat args M).bind (fun r => em_Ex (d1 + 1) mid (pc + 3) ls (em_push mi.toNat r.1 rest) r.2) = _
    refine congrArg _ (funext fun r => ?_)
    rw [hp r]
    exact k r
theorem s_callv3 (H : em_nth em_codes mid [] = cl) {i m2 d1 d2 pc2 : Nat} {n ci mi : Int} {args rest : List em_V} {K : Int × em_M → Option (Int × em_M)} {X : Option (Int × em_M)} {g : Bool} (hl : em_look cl pc = some (.invokevirtual i, len, [mi, n, ci], o)) (hn : em_nrm o ls = ls) (hd : d = d1 + 1) (hm : mi.toNat = m2) (hp : pc + 3 = pc2) (ha : em_take n.toNat st [] = some (args, rest)) (hr : em_rk m2 = 3) (hdd : em_dd d1 m2 = d2) (hg : ((decide (ci = -1) || em_rcv ci args) && Nat.ble (em_cat rest) 8 && Nat.ble (em_cat args) (em_mx m2)) = g) (hX : em_Rn d2 m2 args M = X) (k : ∀ r : Int × em_M, em_Ex d mid pc2 ls rest r.2 = K r) : em_Ex d mid pc ls st M = bif g then X.bind K else none := by
  subst hp
  subst hX
  subst hdd
  subst hm
  refine s_step H hl hn ?_
  have hp : ∀ (v : Int × em_M), em_push mi.toNat v.1 rest = rest := fun v => by simp only [em_push, hr]
  show em_body d mid (em_Ex d mid) (em_call pc ls st M [mi, n, ci]) = _
  simp only [em_call, ha, Option.bind_some, hg]
  cases g with
  | false => rfl
  | true =>
    subst hd
    show (em_Rn (em_dd d1 mi.toNat) mi.toNat args M).bind (fun r => em_Ex (d1 + 1) mid (pc + 3) ls (em_push mi.toNat r.1 rest) r.2) = _
    refine congrArg _ (funext fun r => ?_)
    rw [hp r]
    exact k r
theorem s_calls3 (H : em_nth em_codes mid [] = cl) {i m2 d1 d2 pc2 : Nat} {n ci mi : Int} {args rest : List em_V} {K : Int × em_M → Option (Int × em_M)} {X : Option (Int × em_M)} {g : Bool} (hl : em_look cl pc = some (.invokestatic i, len, [mi, n, ci], o)) (hn : em_nrm o ls = ls) (hd : d = d1 + 1) (hm : mi.toNat = m2) (hp : pc + 3 = pc2) (ha : em_take n.toNat st [] = some (args, rest)) (hr : em_rk m2 = 3) (hdd : em_dd d1 m2 = d2) (hg : ((decide (ci = -1) || em_rcv ci args) && Nat.ble (em_cat rest) 8 && Nat.ble (em_cat args) (em_mx m2)) = g) (hX : em_Rn d2 m2 args M = X) (k : ∀ r : Int × em_M, em_Ex d mid pc2 ls rest r.2 = K r) : em_Ex d mid pc ls st M = bif g then X.bind K else none := by
  subst hp
  subst hX
  subst hdd
  subst hm
  refine s_step H hl hn ?_
  have hp : ∀ (v : Int × em_M), em_push mi.toNat v.1 rest = rest := fun v => by simp only [em_push, hr]
  show em_body d mid (em_Ex d mid) (em_call pc ls st M [mi, n, ci]) = _
  simp only [em_call, ha, Option.bind_some, hg]
  cases g with
  | false => rfl
  | true =>
    subst hd
    show (em_Rn (em_dd d1 mi.toNat) mi.toNat args M).bind (fun r => em_Ex (d1 + 1) mid (pc + 3) ls (em_push mi.toNat r.1 rest) r.2) = _
    refine congrArg _ (funext fun r => ?_)
    rw [hp r]
    exact k r
theorem s_max (H : em_nth em_codes mid [] = cl) {i pc2 : Nat} {a b : Int} {g : Bool} (hl : em_look cl pc = some (.invokestatic i, len, [1], o)) (hn : em_nrm o ls = ls) (hp : pc + 3 = pc2) (hg : (Nat.ble (em_cat st) 8) = g) (k : em_Ex d mid pc2 ls ((0, max a b) :: st) M = R) : em_Ex d mid pc ls ((0, b) :: (0, a) :: st) M = bif g then R else none := by
  subst hp
  subst hg
  refine s_step H hl hn ?_
  rw [← k]
  exact em_if_body
theorem s_min (H : em_nth em_codes mid [] = cl) {i pc2 : Nat} {a b : Int} {g : Bool} (hl : em_look cl pc = some (.invokestatic i, len, [2], o)) (hn : em_nrm o ls = ls) (hp : pc + 3 = pc2) (hg : (Nat.ble (em_cat st) 8) = g) (k : em_Ex d mid pc2 ls ((0, min a b) :: st) M = R) : em_Ex d mid pc ls ((0, b) :: (0, a) :: st) M = bif g then R else none := by
  subst hp
  subst hg
  refine s_step H hl hn ?_
  rw [← k]
  exact em_if_body
theorem s_copy (H : em_nth em_codes mid [] = cl) {i pc2 : Nat} {n dp dst sp src : Int} {g : Bool} (hl : em_look cl pc = some (.invokestatic i, len, [3], o)) (hn : em_nrm o ls = ls) (hp : pc + 3 = pc2) (hg : (Nat.beq (em_kd src) (em_kd dst) && (Nat.beq (em_kd src) 100 || Nat.beq (em_kd src) 101) && Nat.ble (em_cat st) 8 && decide (0 ≤ sp ∧ 0 ≤ dp ∧ 0 ≤ n ∧ sp + n ≤ em_ln src ∧ dp + n ≤ em_ln dst)) = g) (k : em_Ex d mid pc2 ls st (xcpy M src sp dst dp n) = R) : em_Ex d mid pc ls ((0, n) :: (0, dp) :: (2, dst) :: (0, sp) :: (2, src) :: st) M = bif g then R else none := by
  subst hp
  subst hg
  refine s_step H hl hn ?_
  rw [← k]
  exact em_if_body
theorem s_ret0 (H : em_nth em_codes mid [] = cl) {v : Int} (hl : em_look cl pc = some (.ireturn, len, aux, o)) (hn : em_nrm o ls = ls) (hr : em_rk mid = 0) : em_Ex d mid pc ls [(0, v)] M = some (v, M) := by
  refine s_step H hl hn ?_
  simp only [em_step, em_ret, hr]
  rfl
theorem s_ret5 (H : em_nth em_codes mid [] = cl) {v : Int} {g : Bool} (hl : em_look cl pc = some (.ireturn, len, aux, o)) (hn : em_nrm o ls = ls) (hr : em_rk mid = 5) (hg : decide (v = 0 ∨ v = 1) = g) : em_Ex d mid pc ls [(0, v)] M = bif g then some (v, M) else none := by
  subst hg
  refine s_step H hl hn ?_
  simp only [em_step, em_ret, hr]
  rfl
theorem s_ret6 (H : em_nth em_codes mid [] = cl) {v : Int} {g : Bool} (hl : em_look cl pc = some (.ireturn, len, aux, o)) (hn : em_nrm o ls = ls) (hr : em_rk mid = 6) (hg : decide (0 ≤ v ∧ v < 128) = g) : em_Ex d mid pc ls [(0, v)] M = bif g then some (v, M) else none := by
  subst hg
  refine s_step H hl hn ?_
  simp only [em_step, em_ret, hr]
  rfl
theorem s_ret7 (H : em_nth em_codes mid [] = cl) {v : Int} {g : Bool} (hl : em_look cl pc = some (.ireturn, len, aux, o)) (hn : em_nrm o ls = ls) (hr : em_rk mid = 7) (hg : decide (0 ≤ v ∧ v < 128) = g) : em_Ex d mid pc ls [(0, v)] M = bif g then some (v, M) else none := by
  subst hg
  refine s_step H hl hn ?_
  simp only [em_step, em_ret, hr]
  rfl
theorem s_ret1 (H : em_nth em_codes mid [] = cl) {v : Int} (hl : em_look cl pc = some (.lreturn, len, aux, o)) (hn : em_nrm o ls = ls) (hr : em_rk mid = 1) : em_Ex d mid pc ls [(1, v)] M = some (v, M) := by
  refine s_step H hl hn ?_
  simp only [em_step, em_ret, hr]
  rfl
theorem s_ret2 (H : em_nth em_codes mid [] = cl) {v : Int} (hl : em_look cl pc = some (.areturn, len, aux, o)) (hn : em_nrm o ls = ls) (hr : em_rk mid = 2) : em_Ex d mid pc ls [(2, v)] M = some (v, M) := by
  refine s_step H hl hn ?_
  simp only [em_step, em_ret, hr]
  rfl
theorem s_ret4 (H : em_nth em_codes mid [] = cl) {v : Int} (hl : em_look cl pc = some (.areturn, len, aux, o)) (hn : em_nrm o ls = ls) (hr : em_rk mid = 4) : em_Ex d mid pc ls [(4, v)] M = some (v, M) := by
  refine s_step H hl hn ?_
  simp only [em_step, em_ret, hr]
  rfl
theorem s_ret3 (H : em_nth em_codes mid [] = cl) (hl : em_look cl pc = some (.return_, len, aux, o)) (hn : em_nrm o ls = ls) (hr : em_rk mid = 3) : em_Ex d mid pc ls [] M = some (0, M) := by
  refine s_step H hl hn ?_
  simp only [em_step, em_ret, hr]
  rfl
theorem s_ldiv_t (H : em_nth em_codes mid [] = cl) {a b : Int} {pc2 : Nat} (hl : em_look cl pc = some (.ldiv, len, aux, o)) (hn : em_nrm o ls = ls) (hp : pc + 1 = pc2)  (hg : (decide (¬ b = 0)) = true) (k : em_Ex d mid pc2 ls ((1, x_ldiv a b) :: st) M = R) : em_Ex d mid pc ls ((1, b) :: (1, a) :: st) M = R := s_ldiv (g := true) H hl hn hp hg k
theorem s_lrem_t (H : em_nth em_codes mid [] = cl) {a b : Int} {pc2 : Nat} (hl : em_look cl pc = some (.lrem, len, aux, o)) (hn : em_nrm o ls = ls) (hp : pc + 1 = pc2)  (hg : (decide (¬ b = 0)) = true) (k : em_Ex d mid pc2 ls ((1, x_lrem a b) :: st) M = R) : em_Ex d mid pc ls ((1, b) :: (1, a) :: st) M = R := s_lrem (g := true) H hl hn hp hg k
theorem s_getC_t (H : em_nth em_codes mid [] = cl) {i : Nat} {a ci j tag off x2 : Int} {pc2 : Nat} (hl : em_look cl pc = some (.getfield i, len, [ci, j, tag, 1, off], o)) (hn : em_nrm o ls = ls) (hp : pc + 3 = pc2) (hx : a + off = x2) (hg : (em_isO a ci) = true) (k : em_Ex d mid pc2 ls ((2, x2) :: st) M = R) : em_Ex d mid pc ls ((2, a) :: st) M = R := s_getC (g := true) H hl hn hp hx hg k
theorem s_getF_t (H : em_nth em_codes mid [] = cl) {i t : Nat} {a ci j off : Int} {pc2 : Nat} (hl : em_look cl pc = some (.getfield i, len, [ci, j, ((t : Nat) : Int), 0, off], o)) (hn : em_nrm o ls = ls) (hp : pc + 3 = pc2)  (hg : (em_isO a ci) = true) (k : em_Ex d mid pc2 ls ((t, M a j) :: st) M = R) : em_Ex d mid pc ls ((2, a) :: st) M = R := s_getF (g := true) H hl hn hp hg k
theorem s_putF_t (H : em_nth em_codes mid [] = cl) {i t : Nat} {a ci j nk cj v : Int} {pc2 : Nat} (hl : em_look cl pc = some (.putfield i, len, [ci, j, ((t : Nat) : Int), nk, cj], o)) (hn : em_nrm o ls = ls) (hp : pc + 3 = pc2)  (hg : (em_isO a ci && (bif decide (nk = 1) then decide (v = 0 ∨ v = 1) else bif decide (nk = 2) then em_isO v cj else true)) = true) (k : em_Ex d mid pc2 ls st (xup M a j v) = R) : em_Ex d mid pc ls ((t, v) :: (2, a) :: st) M = R := s_putF (g := true) H hl hn hp hg k
theorem s_saload_t (H : em_nth em_codes mid [] = cl) {a i : Int} {pc2 : Nat} (hl : em_look cl pc = some (.iaload, len, aux, o)) (hn : em_nrm o ls = ls) (hp : pc + 1 = pc2)  (hg : (decide (0 ≤ i ∧ i < M (-2) 0)) = true) (k : em_Ex d mid pc2 ls ((0, M (-1) i) :: st) M = R) : em_Ex d mid pc ls ((0, i) :: (5, a) :: st) M = R := s_saload (g := true) H hl hn hp hg k
theorem s_iaload_t (H : em_nth em_codes mid [] = cl) {a i : Int} {pc2 : Nat} (hl : em_look cl pc = some (.iaload, len, aux, o)) (hn : em_nrm o ls = ls) (hp : pc + 1 = pc2)  (hg : (Nat.beq (em_kd a) 100 && decide (0 ≤ i ∧ i < em_ln a)) = true) (k : em_Ex d mid pc2 ls ((0, M a i) :: st) M = R) : em_Ex d mid pc ls ((0, i) :: (2, a) :: st) M = R := s_iaload (g := true) H hl hn hp hg k
theorem s_laload_t (H : em_nth em_codes mid [] = cl) {a i : Int} {pc2 : Nat} (hl : em_look cl pc = some (.laload, len, aux, o)) (hn : em_nrm o ls = ls) (hp : pc + 1 = pc2)  (hg : (Nat.beq (em_kd a) 101 && decide (0 ≤ i ∧ i < em_ln a)) = true) (k : em_Ex d mid pc2 ls ((1, M a i) :: st) M = R) : em_Ex d mid pc ls ((0, i) :: (2, a) :: st) M = R := s_laload (g := true) H hl hn hp hg k
theorem s_baload_t (H : em_nth em_codes mid [] = cl) {a i : Int} {pc2 : Nat} (hl : em_look cl pc = some (.baload, len, aux, o)) (hn : em_nrm o ls = ls) (hp : pc + 1 = pc2)  (hg : ((Nat.beq (em_kd a) 102 || Nat.beq (em_kd a) 103) && decide (0 ≤ i ∧ i < em_ln a)) = true) (k : em_Ex d mid pc2 ls ((0, M a i) :: st) M = R) : em_Ex d mid pc ls ((0, i) :: (2, a) :: st) M = R := s_baload (g := true) H hl hn hp hg k
theorem s_aaload_t (H : em_nth em_codes mid [] = cl) {a i x2 : Int} {pc2 : Nat} (hl : em_look cl pc = some (.aaload, len, aux, o)) (hn : em_nrm o ls = ls) (hp : pc + 1 = pc2) (hx : a + 1 + i * (bif Nat.beq (em_kd a) 112 then 6 else 1) = x2) (hg : ((Nat.beq (em_kd a) 110 || (Nat.beq (em_kd a) 111 || Nat.beq (em_kd a) 112)) && decide (0 ≤ i ∧ i < em_ln a)) = true) (k : em_Ex d mid pc2 ls ((2, x2) :: st) M = R) : em_Ex d mid pc ls ((0, i) :: (2, a) :: st) M = R := s_aaload (g := true) H hl hn hp hx hg k
theorem s_iastore_t (H : em_nth em_codes mid [] = cl) {a i v : Int} {pc2 : Nat} (hl : em_look cl pc = some (.iastore, len, aux, o)) (hn : em_nrm o ls = ls) (hp : pc + 1 = pc2)  (hg : (Nat.beq (em_kd a) 100 && decide (0 ≤ i ∧ i < em_ln a)) = true) (k : em_Ex d mid pc2 ls st (xup M a i v) = R) : em_Ex d mid pc ls ((0, v) :: (0, i) :: (2, a) :: st) M = R := s_iastore (g := true) H hl hn hp hg k
theorem s_lastore_t (H : em_nth em_codes mid [] = cl) {a i v : Int} {pc2 : Nat} (hl : em_look cl pc = some (.lastore, len, aux, o)) (hn : em_nrm o ls = ls) (hp : pc + 1 = pc2)  (hg : (Nat.beq (em_kd a) 101 && decide (0 ≤ i ∧ i < em_ln a)) = true) (k : em_Ex d mid pc2 ls st (xup M a i v) = R) : em_Ex d mid pc ls ((1, v) :: (0, i) :: (2, a) :: st) M = R := s_lastore (g := true) H hl hn hp hg k
theorem s_bastore_t (H : em_nth em_codes mid [] = cl) {a i v v2 : Int} {pc2 : Nat} (hl : em_look cl pc = some (.bastore, len, aux, o)) (hn : em_nrm o ls = ls) (hp : pc + 1 = pc2) (hv : (bif Nat.beq (em_kd a) 102 then x_i2b v else v) = v2) (hg : ((Nat.beq (em_kd a) 102 || (Nat.beq (em_kd a) 103 && decide (v = 0 ∨ v = 1))) && decide (0 ≤ i ∧ i < em_ln a)) = true) (k : em_Ex d mid pc2 ls st (xup M a i v2) = R) : em_Ex d mid pc ls ((0, v) :: (0, i) :: (2, a) :: st) M = R := s_bastore (g := true) H hl hn hp hv hg k
theorem s_bastB_t (H : em_nth em_codes mid [] = cl) {a i v : Int} {pc2 : Nat} (hl : em_look cl pc = some (.bastore, len, aux, o)) (hn : em_nrm o ls = ls) (hp : pc + 1 = pc2) (hk : em_kd a = 102) (hg : (decide (0 ≤ i ∧ i < em_ln a)) = true) (k : em_Ex d mid pc2 ls st (xup M a i (x_i2b v)) = R) : em_Ex d mid pc ls ((0, v) :: (0, i) :: (2, a) :: st) M = R := s_bastB (g := true) H hl hn hp hk hg k
theorem s_bastZ_t (H : em_nth em_codes mid [] = cl) {a i v : Int} {pc2 : Nat} (hl : em_look cl pc = some (.bastore, len, aux, o)) (hn : em_nrm o ls = ls) (hp : pc + 1 = pc2) (hk : em_kd a = 103) (hg : (decide (v = 0 ∨ v = 1) && decide (0 ≤ i ∧ i < em_ln a)) = true) (k : em_Ex d mid pc2 ls st (xup M a i v) = R) : em_Ex d mid pc ls ((0, v) :: (0, i) :: (2, a) :: st) M = R := s_bastZ (g := true) H hl hn hp hk hg k
theorem s_getSv_t (H : em_nth em_codes mid [] = cl) {i : Nat} {a x2 : Int} {pc2 : Nat} (hl : em_look cl pc = some (.getfield i, len, [0], o)) (hn : em_nrm o ls = ls) (hp : pc + 3 = pc2) (hx : a + 16 = x2) (hg : (decide (0 ≤ a ∧ a < 16)) = true) (k : em_Ex d mid pc2 ls ((4, x2) :: st) M = R) : em_Ex d mid pc ls ((4, a) :: st) M = R := s_getSv (g := true) H hl hn hp hx hg k
theorem s_getSc_t (H : em_nth em_codes mid [] = cl) {i : Nat} {a : Int} {pc2 : Nat} (hl : em_look cl pc = some (.getfield i, len, [1], o)) (hn : em_nrm o ls = ls) (hp : pc + 3 = pc2)  (hg : (decide (0 ≤ a ∧ a < 16)) = true) (k : em_Ex d mid pc2 ls ((0, 0) :: st) M = R) : em_Ex d mid pc ls ((4, a) :: st) M = R := s_getSc (g := true) H hl hn hp hg k
theorem s_alenS_t (H : em_nth em_codes mid [] = cl) {a : Int} {pc2 : Nat} (hl : em_look cl pc = some (.arraylength, len, aux, o)) (hn : em_nrm o ls = ls) (hp : pc + 1 = pc2)  (hg : (decide (16 ≤ a ∧ a < 32)) = true) (k : em_Ex d mid pc2 ls ((0, em_slen (a - 16)) :: st) M = R) : em_Ex d mid pc ls ((4, a) :: st) M = R := s_alenS (g := true) H hl hn hp hg k
theorem s_baloadS_t (H : em_nth em_codes mid [] = cl) {a i : Int} {pc2 : Nat} (hl : em_look cl pc = some (.baload, len, aux, o)) (hn : em_nrm o ls = ls) (hp : pc + 1 = pc2)  (hg : (decide (16 ≤ a ∧ a < 32) && decide (0 ≤ i ∧ i < em_slen (a - 16))) = true) (k : em_Ex d mid pc2 ls ((0, em_chr (a - 16) i) :: st) M = R) : em_Ex d mid pc ls ((0, i) :: (4, a) :: st) M = R := s_baloadS (g := true) H hl hn hp hg k
theorem s_alen_t (H : em_nth em_codes mid [] = cl) {a : Int} {pc2 : Nat} (hl : em_look cl pc = some (.arraylength, len, aux, o)) (hn : em_nrm o ls = ls) (hp : pc + 1 = pc2)  (hg : (Nat.ble 100 (em_kd a) && Nat.blt (em_kd a) 200) = true) (k : em_Ex d mid pc2 ls ((0, em_ln a) :: st) M = R) : em_Ex d mid pc ls ((2, a) :: st) M = R := s_alen (g := true) H hl hn hp hg k
theorem s_callv0_t (H : em_nth em_codes mid [] = cl) {i m2 d1 d2 pc2 : Nat} {n ci mi : Int} {args rest : List em_V} {K : Int × em_M → Option (Int × em_M)} {X : Option (Int × em_M)} (hl : em_look cl pc = some (.invokevirtual i, len, [mi, n, ci], o)) (hn : em_nrm o ls = ls) (hd : d = d1 + 1) (hm : mi.toNat = m2) (hp : pc + 3 = pc2) (ha : em_take n.toNat st [] = some (args, rest)) (hr : (em_rk m2 = 0 ∨ em_rk m2 = 5 ∨ em_rk m2 = 6 ∨ em_rk m2 = 7)) (hdd : em_dd d1 m2 = d2) (hg : ((decide (ci = -1) || em_rcv ci args) && Nat.ble (em_cat rest) 8 && Nat.ble (em_cat args) (em_mx m2)) = true) (hX : em_Rn d2 m2 args M = X) (k : ∀ r : Int × em_M, em_Ex d mid pc2 ls ((0, r.1) :: rest) r.2 = K r) : em_Ex d mid pc ls st M = X.bind K := s_callv0 (g := true) H hl hn hd hm hp ha hr hdd hg hX k
theorem s_calls0_t (H : em_nth em_codes mid [] = cl) {i m2 d1 d2 pc2 : Nat} {n ci mi : Int} {args rest : List em_V} {K : Int × em_M → Option (Int × em_M)} {X : Option (Int × em_M)} (hl : em_look cl pc = some (.invokestatic i, len, [mi, n, ci], o)) (hn : em_nrm o ls = ls) (hd : d = d1 + 1) (hm : mi.toNat = m2) (hp : pc + 3 = pc2) (ha : em_take n.toNat st [] = some (args, rest)) (hr : (em_rk m2 = 0 ∨ em_rk m2 = 5 ∨ em_rk m2 = 6 ∨ em_rk m2 = 7)) (hdd : em_dd d1 m2 = d2) (hg : ((decide (ci = -1) || em_rcv ci args) && Nat.ble (em_cat rest) 8 && Nat.ble (em_cat args) (em_mx m2)) = true) (hX : em_Rn d2 m2 args M = X) (k : ∀ r : Int × em_M, em_Ex d mid pc2 ls ((0, r.1) :: rest) r.2 = K r) : em_Ex d mid pc ls st M = X.bind K := s_calls0 (g := true) H hl hn hd hm hp ha hr hdd hg hX k
theorem s_callv1_t (H : em_nth em_codes mid [] = cl) {i m2 d1 d2 pc2 : Nat} {n ci mi : Int} {args rest : List em_V} {K : Int × em_M → Option (Int × em_M)} {X : Option (Int × em_M)} (hl : em_look cl pc = some (.invokevirtual i, len, [mi, n, ci], o)) (hn : em_nrm o ls = ls) (hd : d = d1 + 1) (hm : mi.toNat = m2) (hp : pc + 3 = pc2) (ha : em_take n.toNat st [] = some (args, rest)) (hr : em_rk m2 = 1) (hdd : em_dd d1 m2 = d2) (hg : ((decide (ci = -1) || em_rcv ci args) && Nat.ble (em_cat rest) 8 && Nat.ble (em_cat args) (em_mx m2)) = true) (hX : em_Rn d2 m2 args M = X) (k : ∀ r : Int × em_M, em_Ex d mid pc2 ls ((1, r.1) :: rest) r.2 = K r) : em_Ex d mid pc ls st M = X.bind K := s_callv1 (g := true) H hl hn hd hm hp ha hr hdd hg hX k
theorem s_calls1_t (H : em_nth em_codes mid [] = cl) {i m2 d1 d2 pc2 : Nat} {n ci mi : Int} {args rest : List em_V} {K : Int × em_M → Option (Int × em_M)} {X : Option (Int × em_M)} (hl : em_look cl pc = some (.invokestatic i, len, [mi, n, ci], o)) (hn : em_nrm o ls = ls) (hd : d = d1 + 1) (hm : mi.toNat = m2) (hp : pc + 3 = pc2) (ha : em_take n.toNat st [] = some (args, rest)) (hr : em_rk m2 = 1) (hdd : em_dd d1 m2 = d2) (hg : ((decide (ci = -1) || em_rcv ci args) && Nat.ble (em_cat rest) 8 && Nat.ble (em_cat args) (em_mx m2)) = true) (hX : em_Rn d2 m2 args M = X) (k : ∀ r : Int × em_M, em_Ex d mid pc2 ls ((1, r.1) :: rest) r.2 = K r) : em_Ex d mid pc ls st M = X.bind K := s_calls1 (g := true) H hl hn hd hm hp ha hr hdd hg hX k
theorem s_callv2_t (H : em_nth em_codes mid [] = cl) {i m2 d1 d2 pc2 : Nat} {n ci mi : Int} {args rest : List em_V} {K : Int × em_M → Option (Int × em_M)} {X : Option (Int × em_M)} (hl : em_look cl pc = some (.invokevirtual i, len, [mi, n, ci], o)) (hn : em_nrm o ls = ls) (hd : d = d1 + 1) (hm : mi.toNat = m2) (hp : pc + 3 = pc2) (ha : em_take n.toNat st [] = some (args, rest)) (hr : em_rk m2 = 2) (hdd : em_dd d1 m2 = d2) (hg : ((decide (ci = -1) || em_rcv ci args) && Nat.ble (em_cat rest) 8 && Nat.ble (em_cat args) (em_mx m2)) = true) (hX : em_Rn d2 m2 args M = X) (k : ∀ r : Int × em_M, em_Ex d mid pc2 ls ((2, r.1) :: rest) r.2 = K r) : em_Ex d mid pc ls st M = X.bind K := s_callv2 (g := true) H hl hn hd hm hp ha hr hdd hg hX k
theorem s_calls2_t (H : em_nth em_codes mid [] = cl) {i m2 d1 d2 pc2 : Nat} {n ci mi : Int} {args rest : List em_V} {K : Int × em_M → Option (Int × em_M)} {X : Option (Int × em_M)} (hl : em_look cl pc = some (.invokestatic i, len, [mi, n, ci], o)) (hn : em_nrm o ls = ls) (hd : d = d1 + 1) (hm : mi.toNat = m2) (hp : pc + 3 = pc2) (ha : em_take n.toNat st [] = some (args, rest)) (hr : em_rk m2 = 2) (hdd : em_dd d1 m2 = d2) (hg : ((decide (ci = -1) || em_rcv ci args) && Nat.ble (em_cat rest) 8 && Nat.ble (em_cat args) (em_mx m2)) = true) (hX : em_Rn d2 m2 args M = X) (k : ∀ r : Int × em_M, em_Ex d mid pc2 ls ((2, r.1) :: rest) r.2 = K r) : em_Ex d mid pc ls st M = X.bind K := s_calls2 (g := true) H hl hn hd hm hp ha hr hdd hg hX k
theorem s_callv4_t (H : em_nth em_codes mid [] = cl) {i m2 d1 d2 pc2 : Nat} {n ci mi : Int} {args rest : List em_V} {K : Int × em_M → Option (Int × em_M)} {X : Option (Int × em_M)} (hl : em_look cl pc = some (.invokevirtual i, len, [mi, n, ci], o)) (hn : em_nrm o ls = ls) (hd : d = d1 + 1) (hm : mi.toNat = m2) (hp : pc + 3 = pc2) (ha : em_take n.toNat st [] = some (args, rest)) (hr : em_rk m2 = 4) (hdd : em_dd d1 m2 = d2) (hg : ((decide (ci = -1) || em_rcv ci args) && Nat.ble (em_cat rest) 8 && Nat.ble (em_cat args) (em_mx m2)) = true) (hX : em_Rn d2 m2 args M = X) (k : ∀ r : Int × em_M, em_Ex d mid pc2 ls ((4, r.1) :: rest) r.2 = K r) : em_Ex d mid pc ls st M = X.bind K := s_callv4 (g := true) H hl hn hd hm hp ha hr hdd hg hX k
theorem s_calls4_t (H : em_nth em_codes mid [] = cl) {i m2 d1 d2 pc2 : Nat} {n ci mi : Int} {args rest : List em_V} {K : Int × em_M → Option (Int × em_M)} {X : Option (Int × em_M)} (hl : em_look cl pc = some (.invokestatic i, len, [mi, n, ci], o)) (hn : em_nrm o ls = ls) (hd : d = d1 + 1) (hm : mi.toNat = m2) (hp : pc + 3 = pc2) (ha : em_take n.toNat st [] = some (args, rest)) (hr : em_rk m2 = 4) (hdd : em_dd d1 m2 = d2) (hg : ((decide (ci = -1) || em_rcv ci args) && Nat.ble (em_cat rest) 8 && Nat.ble (em_cat args) (em_mx m2)) = true) (hX : em_Rn d2 m2 args M = X) (k : ∀ r : Int × em_M, em_Ex d mid pc2 ls ((4, r.1) :: rest) r.2 = K r) : em_Ex d mid pc ls st M = X.bind K := s_calls4 (g := true) H hl hn hd hm hp ha hr hdd hg hX k
theorem s_callv3_t (H : em_nth em_codes mid [] = cl) {i m2 d1 d2 pc2 : Nat} {n ci mi : Int} {args rest : List em_V} {K : Int × em_M → Option (Int × em_M)} {X : Option (Int × em_M)} (hl : em_look cl pc = some (.invokevirtual i, len, [mi, n, ci], o)) (hn : em_nrm o ls = ls) (hd : d = d1 + 1) (hm : mi.toNat = m2) (hp : pc + 3 = pc2) (ha : em_take n.toNat st [] = some (args, rest)) (hr : em_rk m2 = 3) (hdd : em_dd d1 m2 = d2) (hg : ((decide (ci = -1) || em_rcv ci args) && Nat.ble (em_cat rest) 8 && Nat.ble (em_cat args) (em_mx m2)) = true) (hX : em_Rn d2 m2 args M = X) (k : ∀ r : Int × em_M, em_Ex d mid pc2 ls rest r.2 = K r) : em_Ex d mid pc ls st M = X.bind K := s_callv3 (g := true) H hl hn hd hm hp ha hr hdd hg hX k
theorem s_calls3_t (H : em_nth em_codes mid [] = cl) {i m2 d1 d2 pc2 : Nat} {n ci mi : Int} {args rest : List em_V} {K : Int × em_M → Option (Int × em_M)} {X : Option (Int × em_M)} (hl : em_look cl pc = some (.invokestatic i, len, [mi, n, ci], o)) (hn : em_nrm o ls = ls) (hd : d = d1 + 1) (hm : mi.toNat = m2) (hp : pc + 3 = pc2) (ha : em_take n.toNat st [] = some (args, rest)) (hr : em_rk m2 = 3) (hdd : em_dd d1 m2 = d2) (hg : ((decide (ci = -1) || em_rcv ci args) && Nat.ble (em_cat rest) 8 && Nat.ble (em_cat args) (em_mx m2)) = true) (hX : em_Rn d2 m2 args M = X) (k : ∀ r : Int × em_M, em_Ex d mid pc2 ls rest r.2 = K r) : em_Ex d mid pc ls st M = X.bind K := s_calls3 (g := true) H hl hn hd hm hp ha hr hdd hg hX k
theorem s_max_t (H : em_nth em_codes mid [] = cl) {i pc2 : Nat} {a b : Int} (hl : em_look cl pc = some (.invokestatic i, len, [1], o)) (hn : em_nrm o ls = ls) (hp : pc + 3 = pc2) (hg : (Nat.ble (em_cat st) 8) = true) (k : em_Ex d mid pc2 ls ((0, max a b) :: st) M = R) : em_Ex d mid pc ls ((0, b) :: (0, a) :: st) M = R := s_max (g := true) H hl hn hp hg k
theorem s_min_t (H : em_nth em_codes mid [] = cl) {i pc2 : Nat} {a b : Int} (hl : em_look cl pc = some (.invokestatic i, len, [2], o)) (hn : em_nrm o ls = ls) (hp : pc + 3 = pc2) (hg : (Nat.ble (em_cat st) 8) = true) (k : em_Ex d mid pc2 ls ((0, min a b) :: st) M = R) : em_Ex d mid pc ls ((0, b) :: (0, a) :: st) M = R := s_min (g := true) H hl hn hp hg k
theorem s_copy_t (H : em_nth em_codes mid [] = cl) {i pc2 : Nat} {n dp dst sp src : Int} (hl : em_look cl pc = some (.invokestatic i, len, [3], o)) (hn : em_nrm o ls = ls) (hp : pc + 3 = pc2) (hg : (Nat.beq (em_kd src) (em_kd dst) && (Nat.beq (em_kd src) 100 || Nat.beq (em_kd src) 101) && Nat.ble (em_cat st) 8 && decide (0 ≤ sp ∧ 0 ≤ dp ∧ 0 ≤ n ∧ sp + n ≤ em_ln src ∧ dp + n ≤ em_ln dst)) = true) (k : em_Ex d mid pc2 ls st (xcpy M src sp dst dp n) = R) : em_Ex d mid pc ls ((0, n) :: (0, dp) :: (2, dst) :: (0, sp) :: (2, src) :: st) M = R := s_copy (g := true) H hl hn hp hg k
theorem s_ret5_t (H : em_nth em_codes mid [] = cl) {v : Int} (hl : em_look cl pc = some (.ireturn, len, aux, o)) (hn : em_nrm o ls = ls) (hr : em_rk mid = 5) (hg : decide (v = 0 ∨ v = 1) = true) : em_Ex d mid pc ls [(0, v)] M = some (v, M) := s_ret5 (g := true) H hl hn hr hg
theorem s_ret6_t (H : em_nth em_codes mid [] = cl) {v : Int} (hl : em_look cl pc = some (.ireturn, len, aux, o)) (hn : em_nrm o ls = ls) (hr : em_rk mid = 6) (hg : decide (0 ≤ v ∧ v < 128) = true) : em_Ex d mid pc ls [(0, v)] M = some (v, M) := s_ret6 (g := true) H hl hn hr hg
theorem s_ret7_t (H : em_nth em_codes mid [] = cl) {v : Int} (hl : em_look cl pc = some (.ireturn, len, aux, o)) (hn : em_nrm o ls = ls) (hr : em_rk mid = 7) (hg : decide (0 ≤ v ∧ v < 128) = true) : em_Ex d mid pc ls [(0, v)] M = some (v, M) := s_ret7 (g := true) H hl hn hr hg
end ROWS
