/-! THE ESTATE AT HAND: estate, got, why, rule, open of the two. -/
section
variable {M : em_M}
theorem eK_all : (List.range 32).all (fun k => em_isO (174 + 6 * (k : Int)) 1 && Nat.beq (em_kd (174 + 6 * (k : Int) + 1)) 101 && decide (em_ln (174 + 6 * (k : Int) + 1) = 30) && Nat.beq (em_kd (174 + 6 * (k : Int) + 2)) 101 && decide (em_ln (174 + 6 * (k : Int) + 2) = 30) && Nat.beq (em_kd (174 + 6 * (k : Int) + 3)) 101 && decide (em_ln (174 + 6 * (k : Int) + 3) = 30) && Nat.beq (em_kd (174 + 6 * (k : Int) + 4)) 100 && decide (em_ln (174 + 6 * (k : Int) + 4) = 30) && Nat.beq (em_kd (174 + 6 * (k : Int) + 5)) 100 && decide (em_ln (174 + 6 * (k : Int) + 5) = 30)) = true := by decide +kernel
/-- the cell of an estate -/
def isE (E : Int) : Prop := ∃ k : Int, 0 ≤ k ∧ k < 32 ∧ E = 174 + 6 * k
theorem isE.k {E : Int} (h : isE E) : em_isO E 1 = true ∧ (em_kd (E + 1) = 101 ∧ em_ln (E + 1) = 30) ∧ (em_kd (E + 2) = 101 ∧ em_ln (E + 2) = 30) ∧ (em_kd (E + 3) = 101 ∧ em_ln (E + 3) = 30) ∧ (em_kd (E + 4) = 100 ∧ em_ln (E + 4) = 30) ∧ (em_kd (E + 5) = 100 ∧ em_ln (E + 5) = 30) := by
  obtain ⟨k, k0, k1, rfl⟩ := h
  have := List.all_eq_true.mp eK_all k.toNat (List.mem_range.mpr (by omega))
  rw [show ((k.toNat : Nat) : Int) = k by omega] at this
  simp only [Bool.and_eq_true, decide_eq_true_eq] at this
  obtain ⟨⟨⟨⟨⟨⟨⟨⟨⟨⟨a1, a2⟩, a3⟩, a4⟩, a5⟩, a6⟩, a7⟩, a8⟩, a9⟩, a10⟩, a11⟩ := this
  exact ⟨a1, ⟨Nat.eq_of_beq_eq_true a2, a3⟩, ⟨Nat.eq_of_beq_eq_true a4, a5⟩, ⟨Nat.eq_of_beq_eq_true a6, a7⟩, ⟨Nat.eq_of_beq_eq_true a8, a9⟩, ⟨Nat.eq_of_beq_eq_true a10, a11⟩⟩
theorem isE_360 : isE 360 := ⟨31, by omega, by omega, rfl⟩
theorem isE_354 : isE 354 := ⟨30, by omega, by omega, rfl⟩
theorem isE_p {p : Int} (h : 0 ≤ p) (h2 : p < 30) : isE (174 + 6 * p) := ⟨p, h, by omega, rfl⟩
theorem f_Ehas {E : Int} (hE : isE E) (q : Int) : f_Estate_has E q M = some (b2 (¬ M E 0 = -1 ∧ 0 ≤ q ∧ q < M E 2 ∧ q < 30), M) := by
  rw [q_Estate_has, hE.k.1]
  simp only [cond_true, em_cd, b2]
  repeat' split
  all_goals first | rfl | omega
theorem fr_is.lt {x u l : Int} (h : fr_is M x u l) : 0 ≤ x ∧ x < 4611686018427387904 := fr_ok_lt h.1
theorem arm_estate (h : Rel M) (w : Int) : Arm (f_EstateOffice_estate w) (f_Model_estate w) M := by
  obtain ⟨hT, hP, hD, hM, hO, hL, hW, hK, hH, hS, hN, hF⟩ := id h
  have key : ∃ v, f_EstateOffice_estate w M = some (v, M) ∧ f_Model_estate w M = some (v, M) := by
    rw [q_EstateOffice_estate, q_Estate_figure, isE_360.k.1, q_Model_estate]
    simp only [cond_true, em_cd, q_Model_estate_32]
    rcases hN with ⟨n1, n2⟩ | ⟨n1, n2⟩
    · rw [if_neg (by omega), if_neg (by omega)]
      exact ⟨-1, rfl, rfl⟩
    · obtain ⟨⟨a1, a2, a3⟩, b1, ⟨c1, c2, c3⟩, d1, ⟨f1, f2, f3, f4, f5⟩, -⟩ := n2
      have hE : ¬ M 360 0 = -1 := by omega
      have hH : ¬ M 439 114 = 0 := by omega
      simp only [f_upper M f1.lt, f_lower M f1.lt, f_upper M f2.lt, f_lower M f2.lt, f_upper M f3.lt, f_lower M f3.lt, f_upper M f4.lt, f_lower M f4.lt, f_upper M f5.lt, f_lower M f5.lt, Option.bind_some]
      obtain ⟨-, g1, g2⟩ := f1
      obtain ⟨-, g3, g4⟩ := f2
      obtain ⟨-, g5, g6⟩ := f3
      obtain ⟨-, g7, g8⟩ := f4
      obtain ⟨-, g9, g10⟩ := f5
      by_cases hw : 0 ≤ w ∧ w ≤ 12
      · have hw : w = 0 ∨ w = 1 ∨ w = 2 ∨ w = 3 ∨ w = 4 ∨ w = 5 ∨ w = 6 ∨ w = 7 ∨ w = 8 ∨ w = 9 ∨ w = 10 ∨ w = 11 ∨ w = 12 := by omega
        rcases hw with rfl | rfl | rfl | rfl | rfl | rfl | rfl | rfl | rfl | rfl | rfl | rfl | rfl
        · exact ⟨fr_up (M 360 4), by rw [if_pos hE]; rfl, by rw [if_pos hH]; exact congrArg (fun z => some (z, M)) g1⟩
        · exact ⟨fr_low (M 360 4), by rw [if_pos hE]; rfl, by rw [if_pos hH]; exact congrArg (fun z => some (z, M)) g2⟩
        · exact ⟨fr_up (M 360 5), by rw [if_pos hE]; rfl, by rw [if_pos hH]; exact congrArg (fun z => some (z, M)) g3⟩
        · exact ⟨fr_low (M 360 5), by rw [if_pos hE]; rfl, by rw [if_pos hH]; exact congrArg (fun z => some (z, M)) g4⟩
        · exact ⟨fr_up (M 360 6), by rw [if_pos hE]; rfl, by rw [if_pos hH]; exact congrArg (fun z => some (z, M)) g5⟩
        · exact ⟨fr_low (M 360 6), by rw [if_pos hE]; rfl, by rw [if_pos hH]; exact congrArg (fun z => some (z, M)) g6⟩
        · exact ⟨fr_up (M 360 7), by rw [if_pos hE]; rfl, by rw [if_pos hH]; exact congrArg (fun z => some (z, M)) g7⟩
        · exact ⟨fr_low (M 360 7), by rw [if_pos hE]; rfl, by rw [if_pos hH]; exact congrArg (fun z => some (z, M)) g8⟩
        · exact ⟨fr_up (M 360 8), by rw [if_pos hE]; rfl, by rw [if_pos hH]; exact congrArg (fun z => some (z, M)) g9⟩
        · exact ⟨fr_low (M 360 8), by rw [if_pos hE]; rfl, by rw [if_pos hH]; exact congrArg (fun z => some (z, M)) g10⟩
        · exact ⟨M 360 0, by rw [if_pos hE]; rfl, by rw [if_pos hH]; exact congrArg (fun z => some (z, M)) a1.symm⟩
        · exact ⟨M 360 1, by rw [if_pos hE]; rfl, by rw [if_pos hH]; exact congrArg (fun z => some (z, M)) b1.symm⟩
        · exact ⟨M 360 3, by rw [if_pos hE]; rfl, by rw [if_pos hH]; exact congrArg (fun z => some (z, M)) d1.symm⟩
      · refine ⟨-1, ?_, ?_⟩
        · simp (disch := omega) only [if_neg, if_pos, Option.bind_some]
        · by_cases w0 : w < 0
          · simp (disch := omega) only [if_pos, if_neg]
          · simp (disch := omega) only [if_pos, if_neg]
  obtain ⟨v, k1, k2⟩ := key
  exact ⟨v, M, M, k1, Scr.rf M, k2, Scr.rf M, h⟩
theorem arm_got (h : Rel M) (q w : Int) : Arm (f_EstateOffice_got q w) (f_Model_got q w) M := by
  obtain ⟨hT, hP, hD, hM, hO, hL, hW, hK, hH, hS, hN, hF⟩ := id h
  have key : ∃ v, f_EstateOffice_got q w M = some (v, M) ∧ f_Model_got q w M = some (v, M) := by
    rw [q_EstateOffice_got, q_Estate_figureOf, f_Ehas isE_360, isE_360.k.1, q_Model_got]
    simp only [cond_true, em_cd, Option.bind_some, Bool.true_and, Bool.and_true, b2_z, nn]
    rcases hN with ⟨n1, n2⟩ | ⟨n1, n2⟩
    · exact ⟨-1, by rw [if_neg (fun z => z.1 n2)]; rfl, by rw [if_pos n1]⟩
    · obtain ⟨⟨a1, a2, a3⟩, b1, ⟨c1, c2, c3⟩, d1, -, hq⟩ := n2
      have hB : ¬ M 439 114 = 0 := by omega
      rw [if_neg hB]
      by_cases hc : 0 ≤ q ∧ q < M 360 2
      · have hA : ¬ M 360 0 = -1 ∧ 0 ≤ q ∧ q < M 360 2 ∧ q < 30 := by omega
        rw [if_pos hA, if_neg (show ¬ q < 0 by omega), if_neg (show ¬ M 509 31 ≤ q by omega)]
        obtain ⟨f1, f2, f3, -, -⟩ := hq q hc.1 hc.2
        have k1 : (Nat.beq (em_kd (360 + 1)) 101 && decide (0 ≤ q ∧ q < em_ln (360 + 1))) = true := by
          rw [isE_360.k.2.1.1, isE_360.k.2.1.2, decide_eq_true (by omega)]; rfl
        have k2 : (Nat.beq (em_kd (360 + 2)) 101 && decide (0 ≤ q ∧ q < em_ln (360 + 2))) = true := by
          rw [isE_360.k.2.2.1.1, isE_360.k.2.2.1.2, decide_eq_true (by omega)]; rfl
        have k3 : (Nat.beq (em_kd (360 + 3)) 101 && decide (0 ≤ q ∧ q < em_ln (360 + 3))) = true := by
          rw [isE_360.k.2.2.2.1.1, isE_360.k.2.2.2.1.2, decide_eq_true (by omega)]; rfl
        simp only [k1, k2, k3, cond_true, f_upper M f1.lt, f_lower M f1.lt, f_upper M f2.lt, f_lower M f2.lt, f_upper M f3.lt, f_lower M f3.lt, Option.bind_some]
        have hw0 : ∀ X Y Z : Option (Int × em_M), 0 ≤ w ∧ w ≤ 5 → (if w < 0 then X else if w ≤ 5 then (if 0 ≤ x32 (x32 (5580 + x32 (6 * q)) + w) ∧ x32 (x32 (5580 + x32 (6 * q)) + w) < 5760 then some (M 512 (x32 (x32 (5580 + x32 (6 * q)) + w)), M) else Y) else Z) = some (M 512 (180 * 31 + 6 * q + w), M) := fun X Y Z hw => by
          rw [x32_s (x := 6 * q) (by omega) (by omega), x32_s (x := 5580 + 6 * q) (by omega) (by omega), x32_s (by omega) (by omega), if_neg (by omega), if_pos (by omega), if_pos (by omega)]
          rfl
        obtain ⟨-, g1, g2⟩ := f1
        obtain ⟨-, g3, g4⟩ := f2
        obtain ⟨-, g5, g6⟩ := f3
        by_cases hw : 0 ≤ w ∧ w ≤ 5
        · rw [hw0 _ _ _ hw]
          have hw : w = 0 ∨ w = 1 ∨ w = 2 ∨ w = 3 ∨ w = 4 ∨ w = 5 := by omega
          rcases hw with rfl | rfl | rfl | rfl | rfl | rfl
          · exact ⟨fr_up (M 361 q), rfl, congrArg (fun z => some (z, M)) (by rw [Int.add_zero]; exact g1)⟩
          · exact ⟨fr_low (M 361 q), rfl, congrArg (fun z => some (z, M)) g2⟩
          · exact ⟨fr_up (M 362 q), rfl, congrArg (fun z => some (z, M)) g3⟩
          · exact ⟨fr_low (M 362 q), rfl, congrArg (fun z => some (z, M)) g4⟩
          · exact ⟨fr_up (M 363 q), rfl, congrArg (fun z => some (z, M)) g5⟩
          · exact ⟨fr_low (M 363 q), rfl, congrArg (fun z => some (z, M)) g6⟩
        · refine ⟨-1, ?_, ?_⟩
          · simp (disch := omega) only [if_neg, Option.bind_some]
          · by_cases w0 : w < 0
            · rw [if_pos w0]
            · rw [if_neg w0, if_neg (by omega)]
      · have hA : ¬ (¬ M 360 0 = -1 ∧ 0 ≤ q ∧ q < M 360 2 ∧ q < 30) := by omega
        rw [if_neg hA]
        refine ⟨-1, rfl, ?_⟩
        by_cases q0 : q < 0
        · rw [if_pos q0]
        · rw [if_neg q0, if_pos (by omega)]
  obtain ⟨v, k1, k2⟩ := key
  exact ⟨v, M, M, k1, Scr.rf M, k2, Scr.rf M, h⟩
theorem arm_why (h : Rel M) (q : Int) : Arm (f_EstateOffice_why q) (f_Model_why q) M := by
  obtain ⟨hT, hP, hD, hM, hO, hL, hW, hK, hH, hS, hN, hF⟩ := id h
  have key : ∃ v, f_EstateOffice_why q M = some (v, M) ∧ f_Model_why q M = some (v, M) := by
    rw [q_EstateOffice_why, f_Ehas isE_360, q_Model_why]
    simp only [em_cd, Option.bind_some, b2_z]
    rcases hN with ⟨n1, n2⟩ | ⟨n1, n2⟩
    · rw [if_pos (by omega), if_pos (by omega)]
      exact ⟨-1, rfl, rfl⟩
    · obtain ⟨⟨a1, a2, a3⟩, b1, ⟨c1, c2, c3⟩, d1, -, hq⟩ := n2
      rw [if_neg (c := M 439 114 = 0) (by omega)]
      by_cases hc : 0 ≤ q ∧ q < M 360 2
      · rw [if_neg (by omega), if_pos (by omega), x32_s (by omega) (by omega), if_neg (by omega), if_pos (by omega), if_pos (by omega)]
        exact ⟨_, rfl, congrArg (fun z => some (z, M)) (hq q hc.1 hc.2).2.2.2.1.symm⟩
      · rw [if_pos (by omega)]
        refine ⟨-1, rfl, ?_⟩
        by_cases q0 : q < 0
        · rw [if_pos q0]
        · rw [if_neg q0, if_neg (by omega)]
  obtain ⟨v, k1, k2⟩ := key
  exact ⟨v, M, M, k1, Scr.rf M, k2, Scr.rf M, h⟩
theorem arm_rule (h : Rel M) (q : Int) : Arm (f_EstateOffice_rule q) (f_Model_rule q) M := by
  obtain ⟨hT, hP, hD, hM, hO, hL, hW, hK, hH, hS, hN, hF⟩ := id h
  have key : ∃ v, f_EstateOffice_rule q M = some (v, M) ∧ f_Model_rule q M = some (v, M) := by
    rw [q_EstateOffice_rule, f_Ehas isE_360, q_Model_rule]
    simp only [em_cd, Option.bind_some, b2_z]
    rcases hN with ⟨n1, n2⟩ | ⟨n1, n2⟩
    · rw [if_pos (by omega), if_pos (by omega)]
      exact ⟨-1, rfl, rfl⟩
    · obtain ⟨⟨a1, a2, a3⟩, b1, ⟨c1, c2, c3⟩, d1, -, hq⟩ := n2
      rw [if_neg (c := M 439 114 = 0) (by omega)]
      by_cases hc : 0 ≤ q ∧ q < M 360 2
      · rw [if_neg (by omega), if_pos (by omega), x32_s (by omega) (by omega), if_neg (by omega), if_pos (by omega), if_pos (by omega)]
        exact ⟨_, rfl, congrArg (fun z => some (z, M)) (hq q hc.1 hc.2).2.2.2.2.symm⟩
      · rw [if_pos (by omega)]
        refine ⟨-1, rfl, ?_⟩
        by_cases q0 : q < 0
        · rw [if_pos q0]
        · rw [if_neg q0, if_neg (by omega)]
  obtain ⟨v, k1, k2⟩ := key
  exact ⟨v, M, M, k1, Scr.rf M, k2, Scr.rf M, h⟩
/-- the class's copy of an estate into the one at hand -/
theorem f_Ecopy {E : Int} (hE : isE E) (h3 : E < 360) : ∃ M', f_Estate_copy 360 E M = some (0, M') ∧ (∀ j, 0 ≤ j → j < 9 → M' 360 j = M E j) ∧ (∀ c j, 1 ≤ c → c ≤ 5 → 0 ≤ j → j < 30 → M' (360 + c) j = M (E + c) j) ∧ ∀ c j, ¬ ((c = 360 ∧ 0 ≤ j ∧ j < 9) ∨ (361 ≤ c ∧ c ≤ 365 ∧ 0 ≤ j ∧ j < 30)) → M' c j = M c j := by
  have hE2 : E ≤ 354 := by obtain ⟨k, k0, k1, rfl⟩ := hE; omega
  obtain ⟨a1, ⟨a2, a3⟩, ⟨a4, a5⟩, ⟨a6, a7⟩, ⟨a8, a9⟩, ⟨a10, a11⟩⟩ := hE.k
  obtain ⟨b1, ⟨b2, b3⟩, ⟨b4, b5⟩, ⟨b6, b7⟩, ⟨b8, b9⟩, ⟨b10, b11⟩⟩ := isE_360.k
  have k : ∀ n : Nat, Nat.beq n n = true := Nat.beq_refl
  have z1 : (Nat.beq 101 100 || Nat.beq 101 101) = true := rfl
  have z2 : (Nat.beq 100 100 || Nat.beq 100 101) = true := rfl
  have z3 : Nat.ble (em_cat []) 8 = true := rfl
  have z4 : (0 ≤ (0 : Int) ∧ 0 ≤ (0 : Int) ∧ 0 ≤ (30 : Int) ∧ (0 : Int) + (30 : Int) ≤ 30 ∧ (0 : Int) + (30 : Int) ≤ 30) := by decide
  rw [q_Estate_copy]
  simp (disch := omega) only [a1, b1, cond_true, Bool.and_true, xup_ne, q_Estate_copy_40, q_Estate_copy_87, a2, a3, a4, a5, a6, a7, a8, a9, a10, a11, b2, b3, b4, b5, b6, b7, b8, b9, b10, b11, k, z1, z2, z3, z4, decide_true, and_self]
  refine ⟨_, rfl, fun j j0 j1 => ?_, fun c j c0 c1 j0 j1 => ?_, fun c j hc => ?_⟩
  · have hj : j = 0 ∨ j = 1 ∨ j = 2 ∨ j = 3 ∨ j = 4 ∨ j = 5 ∨ j = 6 ∨ j = 7 ∨ j = 8 := by omega
    rcases hj with rfl | rfl | rfl | rfl | rfl | rfl | rfl | rfl | rfl <;> simp (disch := omega) only [xcpy_ne, xup_ne, xup_eq]
  · have hc : c = 1 ∨ c = 2 ∨ c = 3 ∨ c = 4 ∨ c = 5 := by omega
    rcases hc with rfl | rfl | rfl | rfl | rfl <;> (simp (disch := omega) only [xcpy_ne, rd4, xup_ne]; rw [show (0 : Int) + (j - 0) = j by omega])
  · simp (disch := omega) only [xcpy_ne, xup_ne]
/-- the reference's -/
def bcp (M : em_M) (b s d a n : Int) : em_M := fun c j => if c = b ∧ d + a ≤ j ∧ j < d + n then M b (s + (j - d)) else M c j
theorem bcp_end (M : em_M) (b s d n : Int) : bcp M b s d n n = M := by
  funext c j
  unfold bcp
  rw [if_neg (by omega)]
theorem bcp_step {M : em_M} {b s d a n : Int} (h0 : 0 ≤ a) (h : a < n) (hs : s + n ≤ d) : bcp (xup M b (d + a) (M b (s + a))) b s d (a + 1) n = bcp M b s d a n := by
  funext c j
  unfold bcp
  by_cases q : c = b ∧ d + (a + 1) ≤ j ∧ j < d + n
  · rw [if_pos q, if_pos (by omega), xup_ne (by omega)]
  · rw [if_neg q]
    by_cases r : c = b ∧ d + a ≤ j ∧ j < d + n
    · rw [if_pos r]
      have : j = d + a := by omega
      subst this
      rw [r.1, xup_eq, show s + (d + a - d) = s + a by omega]
    · rw [if_neg r, xup_ne (by omega)]
theorem m_cop50 {e : Int} (h0 : 0 ≤ e) (h1 : e < 31) : ∀ (k : Nat) (M : em_M), k ≤ 10 → f_Model_copies_50 e 31 (10 - (k : Int)) M = f_Model_copies_86 e 31 0 (bcp M 511 (10 * e) 310 (10 - (k : Int)) 10) := by
  intro k
  induction k with
  | zero =>
    intro M _
    rw [q_Model_copies_50, em_cd, if_pos (by omega), Int.natCast_zero, Int.sub_zero, bcp_end]
  | succ k ih =>
    intro M hk
    rw [q_Model_copies_50]
    simp (disch := omega) only [em_cd, if_neg, x32_s, if_pos]
    rw [show (10 - ((k + 1 : Nat) : Int) + 1) = 10 - (k : Int) by omega, ih _ (by omega), show (10 * 31 + (10 - ((k + 1 : Nat) : Int))) = 310 + (10 - ((k + 1 : Nat) : Int)) by omega, ← bcp_step (a := 10 - ((k + 1 : Nat) : Int)) (by omega) (by omega) (by omega), show (10 - ((k + 1 : Nat) : Int) + 1) = 10 - (k : Int) by omega]
theorem m_cop86 {e : Int} (h0 : 0 ≤ e) (h1 : e < 31) : ∀ (k : Nat) (M : em_M), k ≤ 180 → f_Model_copies_86 e 31 (180 - (k : Int)) M = f_Model_copies_125 e 31 0 (bcp M 512 (180 * e) 5580 (180 - (k : Int)) 180) := by
  intro k
  induction k with
  | zero =>
    intro M _
    rw [q_Model_copies_86, em_cd, if_pos (by omega), Int.natCast_zero, Int.sub_zero, bcp_end]
  | succ k ih =>
    intro M hk
    rw [q_Model_copies_86]
    simp (disch := omega) only [em_cd, if_neg, x32_s, if_pos]
    rw [show (180 - ((k + 1 : Nat) : Int) + 1) = 180 - (k : Int) by omega, ih _ (by omega), show (180 * 31 + (180 - ((k + 1 : Nat) : Int))) = 5580 + (180 - ((k + 1 : Nat) : Int)) by omega, ← bcp_step (a := 180 - ((k + 1 : Nat) : Int)) (by omega) (by omega) (by omega), show (180 - ((k + 1 : Nat) : Int) + 1) = 180 - (k : Int) by omega]
theorem m_cop125 {e : Int} (h0 : 0 ≤ e) (h1 : e < 31) : ∀ (k : Nat) (M : em_M), k ≤ 30 → f_Model_copies_125 e 31 (30 - (k : Int)) M = some (0, bcp (bcp M 513 (30 * e) 930 (30 - (k : Int)) 30) 514 (30 * e) 930 (30 - (k : Int)) 30) := by
  intro k
  induction k with
  | zero =>
    intro M _
    rw [q_Model_copies_125, em_cd, if_pos (by omega), Int.natCast_zero, Int.sub_zero, bcp_end, bcp_end]
  | succ k ih =>
    intro M hk
    rw [q_Model_copies_125]
    simp (disch := omega) only [em_cd, if_neg, x32_s, if_pos, xup_ne]
    rw [show (30 - ((k + 1 : Nat) : Int) + 1) = 30 - (k : Int) by omega, ih _ (by omega), show (30 * 31 + (30 - ((k + 1 : Nat) : Int))) = 930 + (30 - ((k + 1 : Nat) : Int)) by omega]
    generalize ha : 30 - ((k + 1 : Nat) : Int) = a
    have ha0 : 0 ≤ a := by omega
    have ha1 : a < 30 := by omega
    rw [show 30 - (k : Int) = a + 1 by omega]
    congr 2
    have e1 : bcp (xup (xup M 513 (930 + a) (M 513 (30 * e + a))) 514 (930 + a) (M 514 (30 * e + a))) 513 (30 * e) 930 (a + 1) 30 = xup (bcp M 513 (30 * e) 930 a 30) 514 (930 + a) (M 514 (30 * e + a)) := by
      rw [← bcp_step (M := M) ha0 ha1 (by omega)]
      funext c j
      unfold bcp
      by_cases q : c = 513 ∧ 930 + (a + 1) ≤ j ∧ j < 930 + 30
      · rw [if_pos q, xup_ne (by omega), xup_ne (by omega), xup_ne (by omega)]
        rw [if_pos q, xup_ne (by omega)]
      · rw [if_neg q]
        by_cases r : c = 514 ∧ j = 930 + a
        · rw [r.1, r.2, xup_eq, xup_eq]
        · rw [xup_ne r, xup_ne r]
          rw [if_neg q]
    rw [e1]
    have e2 : M 514 (30 * e + a) = bcp M 513 (30 * e) 930 a 30 514 (30 * e + a) := by
      unfold bcp
      rw [if_neg (by omega)]
    rw [e2, bcp_step ha0 ha1 (by omega)]
theorem bcp_in {M : em_M} {b s d a n j : Int} (h1 : d + a ≤ j) (h2 : j < d + n) : bcp M b s d a n b j = M b (s + (j - d)) := if_pos ⟨rfl, h1, h2⟩
theorem bcp_ne {M : em_M} {b s d a n c j : Int} (h : ¬ (c = b ∧ d + a ≤ j ∧ j < d + n)) : bcp M b s d a n c j = M c j := if_neg h
theorem m_copies {e : Int} (h0 : 0 ≤ e) (h1 : e < 31) : ∃ M', f_Model_copies e 31 M = some (0, M') ∧ (M' 507 31 = M 507 e ∧ M' 508 31 = M 508 e ∧ M' 509 31 = M 509 e ∧ M' 510 31 = M 510 e) ∧ (∀ k, 0 ≤ k → k < 10 → M' 511 (310 + k) = M 511 (10 * e + k)) ∧ (∀ k, 0 ≤ k → k < 180 → M' 512 (5580 + k) = M 512 (180 * e + k)) ∧ (∀ k, 0 ≤ k → k < 30 → M' 513 (930 + k) = M 513 (30 * e + k) ∧ M' 514 (930 + k) = M 514 (30 * e + k)) ∧ ∀ c j, ¬ ((507 ≤ c ∧ c ≤ 510 ∧ j = 31) ∨ (c = 511 ∧ 310 ≤ j) ∨ (c = 512 ∧ 5580 ≤ j) ∨ (513 ≤ c ∧ c ≤ 514 ∧ 930 ≤ j)) → M' c j = M c j := by
  rw [q_Model_copies]
  simp (disch := omega) only [em_cd, if_pos, xup_ne]
  have k1 := m_cop50 h0 h1 10
  have k2 := m_cop86 h0 h1 180
  have k3 := m_cop125 h0 h1 30
  rw [show (10 : Int) - ((10 : Nat) : Int) = 0 from rfl] at k1
  rw [show (180 : Int) - ((180 : Nat) : Int) = 0 from rfl] at k2
  rw [show (30 : Int) - ((30 : Nat) : Int) = 0 from rfl] at k3
  rw [k1 _ (Nat.le_refl _), k2 _ (Nat.le_refl _), k3 _ (Nat.le_refl _)]
  refine ⟨_, rfl, ?_, fun k q0 q1 => ?_, fun k q0 q1 => ?_, fun k q0 q1 => ?_, fun c j hc => ?_⟩
  · simp (disch := omega) only [bcp_ne, xup_ne, xup_eq, and_self]
  · simp (disch := omega) only [bcp_ne, bcp_in, xup_ne]
    rw [show 10 * e + (310 + k - 310) = 10 * e + k by omega]
  · simp (disch := omega) only [bcp_ne, bcp_in, xup_ne]
    rw [show 180 * e + (5580 + k - 5580) = 180 * e + k by omega]
  · simp (disch := omega) only [bcp_ne, bcp_in, xup_ne]
    rw [show 30 * e + (930 + k - 930) = 30 * e + k by omega]
    exact ⟨rfl, rfl⟩
  · simp (disch := omega) only [bcp_ne, xup_ne]
theorem RE_fr2 {M' : em_M} {E i : Int} (h : RE M E i) (e : ∀ c j, (E ≤ c ∧ c ≤ E + 5) ∨ (507 ≤ c ∧ c ≤ 510 ∧ j = i) ∨ (c = 511 ∧ 10 * i ≤ j ∧ j < 10 * i + 10) ∨ (c = 512 ∧ 180 * i ≤ j ∧ j < 180 * i + 180) ∨ (513 ≤ c ∧ c ≤ 514 ∧ 30 * i ≤ j ∧ j < 30 * i + 30) → M' c j = M c j) : RE M' E i := by
  obtain ⟨a, b, c, d, f, g⟩ := h
  refine ⟨by simp (disch := omega) only [e]; exact a, by simp (disch := omega) only [e]; exact b, by simp (disch := omega) only [e]; exact c, by simp (disch := omega) only [e]; exact d, ?_, fun q q0 q1 => ?_⟩
  · unfold fr_is at *
    simp (disch := omega) only [e]
    exact f
  · rw [e E 2 (by omega)] at q1
    have := g q q0 q1
    unfold fr_is at *
    simp (disch := omega) only [e]
    exact this
end
