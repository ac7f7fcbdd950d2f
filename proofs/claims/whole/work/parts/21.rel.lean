/-! THE RELATION of the two: what the class's cells (below 439) and the reference's (from 439 on) have in common between two calls. -/
/-- the tape -/
def RT (M : em_M) : Prop := M 439 2 = M 1 1 ∧ 0 ≤ M 1 1 ∧ M 1 1 ≤ 2000 ∧ ∀ i, 0 ≤ i → i < M 1 1 → M 440 i = M 2 i ∧ -128 ≤ M 2 i ∧ M 2 i ≤ 127
/-- a person -/
def RPp (M : em_M) (p : Int) : Prop := (M 468 p = M 7 p ∧ (M 7 p = 0 ∨ M 7 p = 1)) ∧ (M 469 p = M 8 p ∧ -1 ≤ M 8 p ∧ M 8 p < p) ∧ (M 470 p = M 9 p ∧ -1 ≤ M 9 p ∧ M 9 p < p) ∧ (M 471 p = M 10 p ∧ 0 ≤ M 10 p ∧ M 10 p ≤ 100000)
def RP (M : em_M) : Prop := M 439 47 = M 6 0 ∧ 0 ≤ M 6 0 ∧ M 6 0 ≤ 30 ∧ ∀ p, 0 ≤ p → p < M 6 0 → RPp M p
/-- who died, is listed, is settled; wealth -/
def RDp (M : em_M) (p : Int) : Prop := (M 472 p = M 11 p ∧ -1 ≤ M 11 p ∧ M 11 p ≤ 100000) ∧ (M 473 p = b2 (tb (M 6 1) p = true) ∧ (tb (M 6 1) p = true → M 11 p = -1)) ∧ M 506 p = b2 (¬ M 11 p = -1)
def RWp (M : em_M) (p : Int) : Prop := fr_ok (M 12 p) ∧ M 474 p = fr_up (M 12 p) ∧ M 475 p = fr_low (M 12 p)
def RD (M : em_M) : Prop := mk (M 6 1) (fun p => p < M 6 0 ∧ tb (M 6 1) p = true) ∧ ∀ p, 0 ≤ p → p < M 6 0 → RDp M p ∧ RWp M p
/-- mates -/
def RMp (M : em_M) (i : Int) : Prop := (M 476 i = M 13 i ∧ 0 ≤ M 13 i ∧ M 13 i < M 6 0) ∧ (M 477 i = M 14 i ∧ 0 ≤ M 14 i ∧ M 14 i < M 6 0) ∧ (M 478 i = M 15 i ∧ 0 ≤ M 15 i ∧ M 15 i ≤ 100000) ∧ (M 479 i = M 16 i ∧ -1 ≤ M 16 i ∧ M 16 i ≤ 100000)
def RM (M : em_M) : Prop := M 439 56 = M 6 2 ∧ 0 ≤ M 6 2 ∧ M 6 2 ≤ 60 ∧ ∀ i, 0 ≤ i → i < M 6 2 → RMp M i
/-- debts and legacies -/
def ROp (M : em_M) (i : Int) : Prop := (M 480 i = M 18 i ∧ 0 ≤ M 18 i ∧ M 18 i < M 6 0) ∧ (M 481 i = M 19 i ∧ -1 ≤ M 19 i ∧ M 19 i < M 6 0 ∧ ¬ M 18 i = M 19 i) ∧ (M 20 i = M 482 i * 1048576 + 1 ∧ 1 ≤ M 482 i ∧ M 482 i ≤ 100000)
def RO (M : em_M) : Prop := M 439 61 = M 17 0 ∧ 0 ≤ M 17 0 ∧ M 17 0 ≤ 60 ∧ ∀ i, 0 ≤ i → i < M 17 0 → ROp M i
def RLp (M : em_M) (i : Int) : Prop := (M 483 i = M 22 i ∧ 0 ≤ M 22 i ∧ M 22 i < M 6 0) ∧ (M 484 i = M 23 i ∧ 0 ≤ M 23 i ∧ M 23 i < M 6 0 ∧ ¬ M 22 i = M 23 i) ∧ (M 24 i = fr_of (M 485 i) (M 486 i) ∧ 1 ≤ M 485 i ∧ M 485 i ≤ M 486 i ∧ M 486 i ≤ 1000)
def RL (M : em_M) : Prop := M 439 65 = M 21 0 ∧ 0 ≤ M 21 0 ∧ M 21 0 ≤ 60 ∧ ∀ i, 0 ≤ i → i < M 21 0 → RLp M i
/-- a law: the class's in the cell w, the reference's on the side s -/
def lw_from (M : em_M) (w k : Int) : Int := if k = 0 then 0 else M (w + 1) k
def RKin (M : em_M) (w s k : Int) : Prop := (0 ≤ lw_from M w k ∧ lw_from M w k ≤ M (w + 1) (k + 1) ∧ M (w + 1) (k + 1) ≤ 600) ∧ (0 ≤ M 450 (21 * s + k) ∧ M 450 (21 * s + k) < M 450 (21 * s + k + 1) ∧ M 450 (21 * s + k + 1) ≤ 600) ∧ (M 451 (701 * s + M 450 (21 * s + k)) = lw_from M w k ∧ M 451 (701 * s + M 450 (21 * s + k + 1)) = M (w + 1) (k + 1)) ∧
  (∀ p, M 450 (21 * s + k) ≤ p → p < M 450 (21 * s + k + 1) → lw_from M w k ≤ M 451 (701 * s + p) ∧ M 451 (701 * s + p) < M 451 (701 * s + p + 1) ∧ M 451 (701 * s + p + 1) ≤ M (w + 1) (k + 1) ∧ M (w + 4) (M 451 (701 * s + p)) = 1 ∧ ∀ j, M 451 (701 * s + p) < j → j < M 451 (701 * s + p + 1) → M (w + 4) j = 0) ∧
  (∀ j, lw_from M w k ≤ j → j < M (w + 1) (k + 1) → (M 452 (700 * s + j) = M (w + 2) j ∧ 0 ≤ M (w + 2) j ∧ M (w + 2) j < 4 + k) ∧ (M 453 (700 * s + j) = M (w + 3) j ∧ -1 ≤ M (w + 3) j ∧ M (w + 3) j ≤ 1) ∧ (M (w + 4) j = 0 ∨ M (w + 4) j = 1))
def RList (M : em_M) (w s r : Int) : Prop := (M 463 (30 * s + r) = M (w + 10) r ∧ 1 ≤ M (w + 10) r ∧ M (w + 10) r ≤ 8) ∧ ∀ i, 0 ≤ i → i < M (w + 10) r → (M 464 (8 * (30 * s + r) + i) = M (w + 12 + r) i ∧ 0 ≤ M (w + 12 + r) i ∧ M (w + 12 + r) i < M w 0) ∧ (M 465 (8 * (30 * s + r) + i) = M (w + 43 + r) i ∧ 0 ≤ M (w + 43 + r) i ∧ M (w + 43 + r) i ≤ 999 ∧ (M (w + 5) r = 6 → 1 ≤ M (w + 43 + r) i))
def RFix (M : em_M) (w s r : Int) : Prop := M (w + 10) r = 1 ∧ (M 456 (30 * s + r) = M (w + 12 + r) 0 ∧ 0 ≤ M (w + 12 + r) 0 ∧ M (w + 12 + r) 0 < M w 0) ∧ (M (w + 6) r = fr_of (M 458 (30 * s + r)) (M 459 (30 * s + r)) ∧ 0 ≤ M 458 (30 * s + r) ∧ M 458 (30 * s + r) ≤ M 459 (30 * s + r) ∧ 1 ≤ M 459 (30 * s + r) ∧ M 459 (30 * s + r) ≤ 999) ∧ (M 460 (30 * s + r) = M (w + 7) r ∧ (M (w + 7) r = 0 ∨ M (w + 7) r = 1)) ∧ (M 461 (30 * s + r) = M (w + 8) r ∧ -1 ≤ M (w + 8) r ∧ M (w + 8) r < M w 0) ∧ (M 462 (30 * s + r) = M (w + 9) r ∧ -1 ≤ M (w + 9) r ∧ M (w + 9) r < M w 0)
def RBar (M : em_M) (w s r : Int) : Prop := M (w + 10) r = 2 ∧ (M 456 (30 * s + r) = M (w + 12 + r) 0 ∧ 0 ≤ M (w + 12 + r) 0 ∧ M (w + 12 + r) 0 < M w 0) ∧ (M 457 (30 * s + r) = M (w + 12 + r) 1 ∧ 0 ≤ M (w + 12 + r) 1 ∧ M (w + 12 + r) 1 < M w 0)
def RRule (M : em_M) (w s r : Int) : Prop := (M 455 (30 * s + r) = 0 ∧ M (w + 5) r = 1 ∧ RFix M w s r) ∨ (M 455 (30 * s + r) = 1 ∧ M (w + 5) r = 5 ∧ RBar M w s r) ∨ (M 455 (30 * s + r) = 2 ∧ M (w + 5) r = 6 ∧ RList M w s r) ∨ (M 455 (30 * s + r) = 3 ∧ M (w + 5) r = 7 ∧ RList M w s r)
def RLaw (M : em_M) (w s : Int) : Prop := (M 447 s = M w 0 ∧ 0 ≤ M w 0 ∧ M w 0 ≤ 20) ∧ (M 454 s = M w 4 ∧ 0 ≤ M w 4 ∧ M w 4 ≤ 30) ∧ (∀ k, 0 ≤ k → k < M w 0 → RKin M w s k) ∧ (∀ k, 0 ≤ k → k < 20 → M 449 (20 * s + k) = b2 (tb (M w 2) k = true)) ∧ (M w 3 = fr_of (M 466 s) (M 467 s) ∧ 0 ≤ M 466 s ∧ M 466 s ≤ M 467 s ∧ 1 ≤ M 467 s ∧ M 467 s ≤ 999) ∧ ∀ r, 0 ≤ r → r < M w 4 → RRule M w s r
def RW (M : em_M) : Prop := (M 0 11 = 53 ∨ M 0 11 = 366) ∧ M 51 2 = 419 - M 0 11 ∧ (M 439 17 = 0 ∨ M 439 17 = 1) ∧ RLaw M (M 0 11) (M 439 17)
/-! kin: to whom a step leads, a set of persons, on a day t -/
def kBorn (M : em_M) (t x : Int) : Prop := 0 ≤ x ∧ x < M 6 0 ∧ M 10 x ≤ t
def kMate (M : em_M) (t d x : Int) : Prop := ∃ i, 0 ≤ i ∧ i < M 6 2 ∧ (M 15 i ≤ t - 1 ∧ (M 16 i = -1 ∨ t - 1 < M 16 i)) ∧ ((M 13 i = d ∧ M 14 i = x) ∨ (M 14 i = d ∧ M 13 i = x))
/-- by the row r of the table from d (T: the kins so far) -/
def kLead (M : em_M) (t : Int) (T : Int → Int → Int) (r d x : Int) : Prop :=
  if r = 0 then M 8 x = d ∨ M 9 x = d else if r = 1 then M 8 d = x else if r = 2 then M 9 d = x else if r = 3 then kMate M t d x else tb (T (r - 4) d) x = true
def kNext (M : em_M) (t : Int) (T : Int → Int → Int) (r sx : Int) (S : Int → Prop) (x : Int) : Prop := kBorn M t x ∧ (sx = -1 ∨ M 7 x = sx) ∧ ∃ d, 0 ≤ d ∧ d < M 6 0 ∧ S d ∧ kLead M t T r d x
/-- the steps of a kin from the j-th on, n of them: who was found (A), who stands here (S) -/
def kWalk (M : em_M) (t w : Int) (T : Int → Int → Int) (d : Int) : Nat → Int → (Int → Prop) → (Int → Prop) → Int → Prop
  | 0, _, A, S => fun x => A x ∨ S x
  | n + 1, j, A, S => if M (w + 4) j = 1 then kWalk M t w T d n (j + 1) (fun x => A x ∨ S x) (kNext M t T (M (w + 2) j) (M (w + 3) j) (fun x => x = d)) else kWalk M t w T d n (j + 1) A (kNext M t T (M (w + 2) j) (M (w + 3) j) S)
def kOf (M : em_M) (t w : Int) (T : Int → Int → Int) (k d x : Int) : Prop := kWalk M t w T d (M (w + 1) (k + 1) - lw_from M w k).toNat (lw_from M w k) (fun _ => False) (fun _ => False) x ∧ ¬ x = d
/-- the class's table of kin -/
def kT (M : em_M) : Int → Int → Int := fun k d => if 0 ≤ k ∧ k < 20 then M (31 + k) d else 0
/-- the class's table is that of the day t -/
def kTab (M : em_M) (t : Int) : Prop := (∀ d, 0 ≤ d → d < M 6 0 → mk (M 27 d) (fun x => kBorn M t x ∧ kLead M t (fun _ _ => 0) 0 d x) ∧ mk (M 28 d) (fun x => kBorn M t x ∧ kLead M t (fun _ _ => 0) 1 d x) ∧ mk (M 29 d) (fun x => kBorn M t x ∧ kLead M t (fun _ _ => 0) 2 d x) ∧ mk (M 30 d) (fun x => kBorn M t x ∧ kLead M t (fun _ _ => 0) 3 d x)) ∧
  mk (M 25 3) (fun x => x < M 6 0 ∧ M 7 x = 0) ∧ mk (M 25 4) (fun x => x < M 6 0 ∧ M 7 x = 1) ∧ ∀ k, 0 ≤ k → k < M (M 0 11) 0 → ∀ d, 0 ≤ d → d < M 6 0 → mk (M (31 + k) d) (kOf M t (M 0 11) (kT M) k d)
def RK (M : em_M) : Prop := M 25 2 = -1 ∨ (0 ≤ M 25 2 ∧ M 25 2 ≤ 100000 ∧ kTab M (M 25 2))
/-! deaths -/
def fr_is (M : em_M) (x u l : Int) : Prop := fr_ok x ∧ u = fr_up x ∧ l = fr_low x
def RHj (M : em_M) (j : Int) : Prop := mk (M 137 j) (fun p => p < M 6 0 ∧ ¬ M 11 p = -1 ∧ M 517 p = j) ∧ (∃ p, 0 ≤ p ∧ p < M 6 0 ∧ ¬ M 11 p = -1 ∧ M 517 p = j) ∧ (M 516 j = M 138 j ∧ 0 ≤ M 138 j ∧ M 138 j ≤ M 6 0) ∧ (M 515 j = M 139 j ∧ 0 ≤ M 139 j ∧ M 139 j ≤ 100000) ∧ fr_is M (M 140 j) (M 518 (32 * j + 30)) (M 519 (32 * j + 30)) ∧ fr_is M (M 141 j) (M 518 (32 * j + 31)) (M 519 (32 * j + 31)) ∧ ∀ p, 0 ≤ p → p < M 138 j → fr_is M (M (143 + j) p) (M 518 (32 * j + p)) (M 519 (32 * j + p))
def RH (M : em_M) : Prop := (M 439 115 = M 136 0 ∧ 0 ≤ M 136 0 ∧ M 136 0 ≤ 30) ∧ (M 439 72 = M 136 1 ∧ 0 ≤ M 136 1 ∧ M 136 1 ≤ 100000) ∧ fr_is M (M 136 2) (M 487 0) (M 488 0) ∧ fr_is M (M 136 3) (M 487 1) (M 488 1) ∧ (∀ j, 0 ≤ j → j < M 136 0 → RHj M j) ∧ ∀ p, 0 ≤ p → p < M 6 0 → ¬ M 11 p = -1 → 0 ≤ M 517 p ∧ M 517 p < M 136 0
/-- an estate: the class's in the cell E, the reference's at the place e -/
def RE (M : em_M) (E e : Int) : Prop := (M E 0 = M 508 e ∧ 0 ≤ M E 0 ∧ M E 0 < 30) ∧ M E 1 = M 507 e ∧ (M E 2 = M 509 e ∧ 0 ≤ M E 2 ∧ M E 2 ≤ 30) ∧ M E 3 = M 510 e ∧ (fr_is M (M E 4) (M 511 (10 * e)) (M 511 (10 * e + 1)) ∧ fr_is M (M E 5) (M 511 (10 * e + 2)) (M 511 (10 * e + 3)) ∧ fr_is M (M E 6) (M 511 (10 * e + 4)) (M 511 (10 * e + 5)) ∧ fr_is M (M E 7) (M 511 (10 * e + 6)) (M 511 (10 * e + 7)) ∧ fr_is M (M E 8) (M 511 (10 * e + 8)) (M 511 (10 * e + 9))) ∧ ∀ q, 0 ≤ q → q < M E 2 → fr_is M (M (E + 1) q) (M 512 (180 * e + 6 * q)) (M 512 (180 * e + 6 * q + 1)) ∧ fr_is M (M (E + 2) q) (M 512 (180 * e + 6 * q + 2)) (M 512 (180 * e + 6 * q + 3)) ∧ fr_is M (M (E + 3) q) (M 512 (180 * e + 6 * q + 4)) (M 512 (180 * e + 6 * q + 5)) ∧ M (E + 4) q = M 513 (30 * e + q) ∧ M (E + 5) q = M 514 (30 * e + q)
def RS (M : em_M) : Prop := ∀ p, 0 ≤ p → p < M 6 0 → ¬ M 11 p = -1 → RE M (174 + 6 * p) p
def RN (M : em_M) : Prop := (M 439 114 = 0 ∧ M 360 0 = -1) ∨ (M 439 114 = 1 ∧ RE M 360 31)
/-- the reference's keys -/
def kyW (k : Int) : Int := if k = 0 then 15406 else if k = 1 then 11733888 else if k = 2 then 103360 else if k = 3 then 919322 else if k = 4 then 102797 else if k = 5 then 36629575 else if k = 6 then 1177796 else if k = 7 then 254753 else if k = 8 then 339 else if k = 9 then 19741 else if k = 10 then 6040476 else if k = 11 then 930608071 else if k = 12 then 418962118 else if k = 13 then 660603 else if k = 14 then 13 else if k = 15 then 6 else 0
def RF (M : em_M) : Prop := M 439 16 = M 51 7 ∧ ∀ k, 0 ≤ k → k < 16 → M 446 k = kyW k
def Rel (M : em_M) : Prop := RT M ∧ RP M ∧ RD M ∧ RM M ∧ RO M ∧ RL M ∧ RW M ∧ RK M ∧ RH M ∧ RS M ∧ RN M ∧ RF M
/-- the script stays -/
def Scr (M M' : em_M) : Prop := (∀ j, M' (-1) j = M (-1) j) ∧ M' (-2) 0 = M (-2) 0
/-- a call of the two: one answer, the relation stays -/
def Arm (fE fM : em_M → Option (Int × em_M)) (M : em_M) : Prop := ∃ v M1 M2, fE M = some (v, M1) ∧ Scr M M1 ∧ fM M1 = some (v, M2) ∧ Scr M M2 ∧ Rel M2
theorem rd1 {M : em_M} {a i v b j : Int} (h : ¬ b = a) : xup M a i v b j = M b j := if_neg (fun z => h z.1)
theorem rd2 {M : em_M} {a i v j : Int} (h : ¬ j = i) : xup M a i v a j = M a j := if_neg (fun z => h z.2)
theorem rd3 {M : em_M} {s sp d dp n b j : Int} (h : ¬ b = d) : xcpy M s sp d dp n b j = M b j := if_neg (fun z => h z.1)
theorem rd4 {M : em_M} {s sp d dp n j : Int} (h1 : dp ≤ j) (h2 : j < dp + n) : xcpy M s sp d dp n d j = M s (sp + (j - dp)) := if_pos ⟨rfl, h1, h2⟩
theorem rd5 {M : em_M} {s sp d dp n j : Int} (h : ¬ (dp ≤ j ∧ j < dp + n)) : xcpy M s sp d dp n d j = M d j := if_neg (fun z => h z.2)
