/-! DEBTS, LEGACIES, THE LISTED: owes, leaves, dies of the two. -/
section
variable {M : em_M}
theorem RK_fr {M' : em_M} (h : RK M) (hW : RW M) (e : ∀ c j, (c = 6 ∧ (j = 0 ∨ j = 2)) ∨ (7 ≤ c ∧ c ≤ 10) ∨ (13 ≤ c ∧ c ≤ 16) ∨ (c = 0 ∧ j = 11) ∨ (c = 25 ∧ 2 ≤ j) ∨ (27 ≤ c ∧ c ≤ 50) ∨ (53 ≤ c ∧ c ≤ 125) ∨ (366 ≤ c ∧ c ≤ 438) → M' c j = M c j) : RK M' := by
  rcases h with k | ⟨k1, k2, k3⟩
  · exact Or.inl (by rw [e 25 2 (by omega)]; exact k)
  · exact Or.inr ⟨by rw [e 25 2 (by omega)]; exact k1, by rw [e 25 2 (by omega)]; exact k2, by rw [e 25 2 (by omega)]; exact kTab_fr k3 hW.1 hW.2.2.2.1.2.2 (fun c j hc => e c j (by omega))⟩
/-- a claim more (a: the class of the cells a .. a + 3) -/
def caE (M : em_M) (a x y v : Int) : em_M := xup (xup (xup (xup M (a + 1) (M a 0) x) (a + 2) (M a 0) y) (a + 3) (M a 0) v) a 0 (M a 0 + 1)
theorem f_addClaim {a x y v : Int} (ha : a = 17 ∨ a = 21) (h0 : 0 ≤ M a 0) (h1 : M a 0 ≤ 60) : f_Claims_add a x y v M = if M a 0 < 60 then some (1, caE M a x y v) else some (0, M) := by
  have hk : em_isO a 0 = true ∧ Nat.beq (em_kd (a + 1)) 100 = true ∧ em_ln (a + 1) = 60 ∧ Nat.beq (em_kd (a + 2)) 100 = true ∧ em_ln (a + 2) = 60 ∧ Nat.beq (em_kd (a + 3)) 101 = true ∧ em_ln (a + 3) = 60 := by
    rcases ha with rfl | rfl <;> decide +kernel
  obtain ⟨k1, k2, k3, k4, k5, k6, k7⟩ := hk
  rw [q_Claims_add]
  simp (disch := omega) only [k1, k2, k3, k4, k5, k6, k7, cond_true, Bool.true_and, Bool.and_true, em_cd, xup_ne]
  by_cases h : M a 0 < 60
  · simp (disch := omega) only [if_pos, if_neg, x32_s]
    rfl
  · simp (disch := omega) only [if_neg]
def owC (M : em_M) (p q v : Int) : Prop := (0 ≤ p ∧ p < M 6 0 ∧ M 11 p = -1) ∧ (q = -1 ∨ (0 ≤ q ∧ q < M 6 0)) ∧ ¬ p = q ∧ (1 ≤ v ∧ v ≤ 100000) ∧ M 17 0 < 60
theorem f_owes {p q v : Int} (hn : M 6 0 ≤ 30) (h0 : 0 ≤ M 17 0) (h1 : M 17 0 ≤ 60) : (owC M p q v ∧ f_EstateOffice_owes p q v M = some (1, caE M 17 p q (v * 1048576 + 1))) ∨ (¬ owC M p q v ∧ f_EstateOffice_owes p q v M = some (0, M)) := by
  have k27 : f_EstateOffice_owes_27 p q v M = if (¬ p = q ∧ (1 ≤ v ∧ v ≤ 100000) ∧ M 17 0 < 60) then some (1, caE M 17 p q (v * 1048576 + 1)) else some (0, M) := by
    rw [q_EstateOffice_owes_27]
    simp only [em_cd]
    by_cases hv : 1 ≤ v ∧ v ≤ 100000
    · rw [f_of_eq M (by omega) (by omega) (by omega), fr_of_1 (by omega) (by omega)]
      simp only [Option.bind_some]
      rw [f_addClaim (Or.inl rfl) h0 h1]
      by_cases hm : M 17 0 < 60
      · rw [if_pos hm]
        simp only [Option.bind_some, eq_self, or_true, true_or, if_true]
        repeat' split
        all_goals first | rfl | omega
      · rw [if_neg hm]
        simp only [Option.bind_some, eq_self, or_true, true_or, if_true]
        repeat' split
        all_goals first | rfl | omega
    · repeat' split
      all_goals first | rfl | omega
  rw [q_EstateOffice_owes]
  simp only [em_cd, Option.bind_some, b2_z, f_undead hn, f_has30 hn, k27]
  unfold owC
  by_cases hc : (0 ≤ p ∧ p < M 6 0 ∧ M 11 p = -1) ∧ (q = -1 ∨ (0 ≤ q ∧ q < M 6 0)) ∧ ¬ p = q ∧ (1 ≤ v ∧ v ≤ 100000) ∧ M 17 0 < 60
  · refine Or.inl ⟨hc, ?_⟩
    repeat' split
    all_goals first | rfl | omega
  · refine Or.inr ⟨hc, ?_⟩
    repeat' split
    all_goals first | rfl | omega
def owD (M : em_M) (p q v : Int) : Prop := (0 ≤ p ∧ p < M 439 47 ∧ M 472 p = -1) ∧ (q = -1 ∨ (0 ≤ q ∧ q < M 439 47)) ∧ ¬ p = q ∧ (1 ≤ v ∧ v ≤ 100000) ∧ ¬ M 439 61 = 60
def owM (M : em_M) (p q v : Int) : em_M := xup (xup (xup (xup M 480 (M 439 61) p) 481 (M 439 61) q) 482 (M 439 61) v) 439 61 (M 439 61 + 1)
theorem m_owes {p q v : Int} (hn : M 439 47 ≤ 30) (h0 : 0 ≤ M 439 61) (h1 : M 439 61 ≤ 60) : (owD M p q v ∧ f_Model_owes p q v M = some (1, owM M p q v)) ∨ (¬ owD M p q v ∧ f_Model_owes p q v M = some (0, M)) := by
  have k21 : 0 ≤ p → p < 30 → f_Model_owes_21 p q v M = if (M 472 p = -1 ∧ ¬ p = q ∧ (1 ≤ v ∧ v ≤ 100000) ∧ ¬ M 439 61 = 60) then some (1, owM M p q v) else some (0, M) := fun z0 z1 => by
    rw [q_Model_owes_21]
    by_cases hc : M 472 p = -1 ∧ ¬ p = q ∧ (1 ≤ v ∧ v ≤ 100000) ∧ ¬ M 439 61 = 60
    · rw [if_pos hc]
      simp (disch := omega) only [em_cd, xup_ne, if_pos, if_neg, x32_s]
      rfl
    · rw [if_neg hc]
      simp only [em_cd]
      by_cases a1 : p = q
      · rw [if_pos a1]
      · rw [if_neg a1, if_pos (by omega)]
        by_cases a2 : M 472 p = -1
        · rw [if_neg (by omega)]
          by_cases a3 : v < 1
          · rw [if_pos a3]
          · rw [if_neg a3]
            by_cases a4 : 100000 < v
            · rw [if_pos a4]
            · rw [if_neg a4, if_neg (by omega)]
        · rw [if_pos a2]
  rw [q_Model_owes]
  simp only [em_cd, Option.bind_some, b2_z, m_isPerson]
  unfold owD
  by_cases hp : 0 ≤ p ∧ p < M 439 47
  · rw [k21 (by omega) (by omega)]
    by_cases hc : (0 ≤ p ∧ p < M 439 47 ∧ M 472 p = -1) ∧ (q = -1 ∨ (0 ≤ q ∧ q < M 439 47)) ∧ ¬ p = q ∧ (1 ≤ v ∧ v ≤ 100000) ∧ ¬ M 439 61 = 60
    · refine Or.inl ⟨hc, ?_⟩
      repeat' split
      all_goals first | rfl | omega
    · refine Or.inr ⟨hc, ?_⟩
      repeat' split
      all_goals first | rfl | omega
  · rw [if_pos hp]
    exact Or.inr ⟨fun z => hp ⟨z.1.1, z.1.2.1⟩, rfl⟩
theorem arm_owes (h : Rel M) (p q v : Int) : Arm (f_EstateOffice_owes p q v) (f_Model_owes p q v) M := by
  obtain ⟨p1, p2, p3, p4⟩ := h.2.1
  obtain ⟨o1, o2, o3, o4⟩ := h.2.2.2.2.1
  have hd := h.2.2.1.2
  have h472 : ∀ x, 0 ≤ x → x < M 6 0 → M 472 x = M 11 x := fun x x0 x1 => (hd x x0 x1).1.1.1
  rcases f_owes (p := p) (q := q) (v := v) p3 o2 o3 with ⟨hc, e1⟩ | ⟨hc, e1⟩
  · have e47 : caE M 17 p q (v * 1048576 + 1) 439 47 = M 6 0 := by
      unfold caE
      simp (disch := omega) only [xup_ne]
      exact p1
    have e61 : caE M 17 p q (v * 1048576 + 1) 439 61 = M 17 0 := by
      unfold caE
      simp (disch := omega) only [xup_ne]
      exact o1
    rcases m_owes (M := caE M 17 p q (v * 1048576 + 1)) (p := p) (q := q) (v := v) (by omega) (by omega) (by omega) with ⟨hw, e2⟩ | ⟨hw, e2⟩
    · refine ⟨1, _, _, e1, ?_, e2, ?_, ?_⟩
      · unfold caE
        exact ⟨fun j => by simp (disch := omega) only [xup_ne], by simp (disch := omega) only [xup_ne]⟩
      · unfold owM caE
        exact ⟨fun j => by simp (disch := omega) only [xup_ne], by simp (disch := omega) only [xup_ne]⟩
      generalize hm : M 17 0 = m at e61 o2 o3
      generalize hM2 : owM (caE M 17 p q (v * 1048576 + 1)) p q v = M2
      have e : ∀ c j, ¬ ((c = 17 ∧ j = 0) ∨ (c = 439 ∧ j = 61) ∨ (j = m ∧ ((18 ≤ c ∧ c ≤ 20) ∨ (480 ≤ c ∧ c ≤ 482)))) → M2 c j = M c j := by
        intro c j h1
        rw [← hM2]
        unfold owM
        rw [e61]
        unfold caE
        simp (disch := omega) only [xup_ne]
      have nw : M2 17 0 = m + 1 ∧ M2 439 61 = m + 1 ∧ (M2 18 m = p ∧ M2 19 m = q ∧ M2 20 m = v * 1048576 + 1) ∧ (M2 480 m = p ∧ M2 481 m = q ∧ M2 482 m = v) := by
        rw [← hM2]
        unfold owM
        rw [e61]
        unfold caE
        rw [hm]
        simp (disch := omega) only [Int.reduceAdd, xup_ne, xup_eq, and_self]
      obtain ⟨n1, n2, ⟨a18, a19, a20⟩, a480, a481, a482⟩ := nw
      obtain ⟨hT, hP, hD, hM, hO, hL, hW, hK, hH, hS, hN, hF⟩ := h
      unfold owC at hc
      have e60 := e 6 0 (by omega)
      refine ⟨RT_fr hT (fun c j hc => e c j (by omega)), RP_fr hP (fun c j hc => e c j (by omega)), RD_fr hD (fun c j hc => e c j (by omega)), RM_fr hM (fun c j hc => e c j (by omega)), ⟨by omega, by omega, by omega, fun i q0 q1 => ?_⟩, RL_fr hL (fun c j hc => e c j (by omega)), RW_fr hW (fun c j hc => e c j (by omega)), RK_fr hK hW (fun c j hc => e c j (by omega)), RH_fr hH (fun c j hc => e c j (by omega)), RS_fr hS p3 (fun c j hc => e c j (by omega)), RN_fr hN (fun c j hc => e c j (by omega)), RF_fr hF (fun c j hc => e c j (by omega))⟩
      by_cases pn : i = m
      · subst pn
        unfold ROp
        rw [a18, a19, a20, a480, a481, a482, e60]
        omega
      · exact ROp_fr (o4 i q0 (by omega)) (fun c j hc => e c j (by omega))
    · refine absurd ?_ hw
      unfold owC at hc
      unfold owD
      have := h472 p hc.1.1 hc.1.2.1
      rw [e47, e61]
      unfold caE
      simp (disch := omega) only [xup_ne]
      omega
  · rcases m_owes (M := M) (p := p) (q := q) (v := v) (by omega) (by omega) (by omega) with ⟨hw, e2⟩ | ⟨hw, e2⟩
    · refine absurd ?_ hc
      unfold owD at hw
      unfold owC
      have := h472 p hw.1.1 (by omega)
      omega
    · exact ⟨0, M, M, e1, Scr.rf M, e2, Scr.rf M, h⟩
/-! leaves -/
def leC (M : em_M) (p q a b : Int) : Prop := (0 ≤ p ∧ p < M 6 0 ∧ M 11 p = -1) ∧ (0 ≤ q ∧ q < M 6 0) ∧ ¬ p = q ∧ (1 ≤ b ∧ b ≤ 1000) ∧ (1 ≤ a ∧ a ≤ b) ∧ M 21 0 < 60
theorem f_leaves {p q a b : Int} (hn : M 6 0 ≤ 30) (h0 : 0 ≤ M 21 0) (h1 : M 21 0 ≤ 60) : (leC M p q a b ∧ f_EstateOffice_leaves p q a b M = some (1, caE M 21 p q (fr_of a b))) ∨ (¬ leC M p q a b ∧ f_EstateOffice_leaves p q a b M = some (0, M)) := by
  rw [q_EstateOffice_leaves]
  simp only [em_cd, Option.bind_some, b2_z, f_undead hn, f_has30 hn]
  unfold leC
  by_cases hv : (1 ≤ b ∧ b ≤ 1000) ∧ (1 ≤ a ∧ a ≤ b)
  · rw [f_of_eq M (by omega) (by omega) (by omega)]
    simp only [Option.bind_some]
    rw [f_addClaim (Or.inr rfl) h0 h1]
    by_cases hm : M 21 0 < 60
    · rw [if_pos hm]
      simp only [Option.bind_some, eq_self, or_true, true_or, if_true]
      by_cases hc : (0 ≤ p ∧ p < M 6 0 ∧ M 11 p = -1) ∧ (0 ≤ q ∧ q < M 6 0) ∧ ¬ p = q ∧ (1 ≤ b ∧ b ≤ 1000) ∧ (1 ≤ a ∧ a ≤ b) ∧ M 21 0 < 60
      · refine Or.inl ⟨hc, ?_⟩
        repeat' split
        all_goals first | rfl | omega
      · refine Or.inr ⟨hc, ?_⟩
        repeat' split
        all_goals first | rfl | omega
    · rw [if_neg hm]
      simp only [Option.bind_some, eq_self, or_true, true_or, if_true]
      refine Or.inr ⟨fun z => hm z.2.2.2.2.2, ?_⟩
      repeat' split
      all_goals first | rfl | omega
  · refine Or.inr ⟨fun z => hv ⟨z.2.2.2.1, z.2.2.2.2.1⟩, ?_⟩
    repeat' split
    all_goals first | rfl | omega
def leD (M : em_M) (p q a b : Int) : Prop := (0 ≤ p ∧ p < M 439 47 ∧ M 472 p = -1) ∧ (0 ≤ q ∧ q < M 439 47) ∧ ¬ p = q ∧ (1 ≤ b ∧ b ≤ 1000) ∧ (1 ≤ a ∧ a ≤ b) ∧ ¬ M 439 65 = 60
def leM (M : em_M) (p q a b : Int) : em_M := xup (xup (xup (xup (xup M 483 (M 439 65) p) 484 (M 439 65) q) 485 (M 439 65) a) 486 (M 439 65) b) 439 65 (M 439 65 + 1)
theorem m_leaves {p q a b : Int} (hn : M 439 47 ≤ 30) (h0 : 0 ≤ M 439 65) (h1 : M 439 65 ≤ 60) : (leD M p q a b ∧ f_Model_leaves p q a b M = some (1, leM M p q a b)) ∨ (¬ leD M p q a b ∧ f_Model_leaves p q a b M = some (0, M)) := by
  rw [q_Model_leaves]
  simp only [m_isPerson, Option.bind_some]
  unfold leD
  by_cases hc : (0 ≤ p ∧ p < M 439 47 ∧ M 472 p = -1) ∧ (0 ≤ q ∧ q < M 439 47) ∧ ¬ p = q ∧ (1 ≤ b ∧ b ≤ 1000) ∧ (1 ≤ a ∧ a ≤ b) ∧ ¬ M 439 65 = 60
  · refine Or.inl ⟨hc, ?_⟩
    simp (disch := omega) only [em_cd, b2_z, xup_ne, if_pos, if_neg, x32_s, q_Model_leaves_118]
    rfl
  · refine Or.inr ⟨hc, ?_⟩
    simp only [em_cd, b2_z]
    by_cases a1 : 0 ≤ p ∧ p < M 439 47
    · rw [if_neg (fun z => z a1)]
      by_cases a2 : 0 ≤ q ∧ q < M 439 47
      · rw [if_neg (fun z => z a2)]
        by_cases a3 : p = q
        · rw [if_pos a3]
        · rw [if_neg a3, if_pos (by omega)]
          by_cases a4 : M 472 p = -1
          · rw [if_neg (fun z => z a4)]
            by_cases a5 : b < 1
            · rw [if_pos a5]
            · rw [if_neg a5]
              by_cases a6 : 1000 < b
              · rw [if_pos a6]
              · rw [if_neg a6]
                by_cases a7 : a < 1
                · rw [if_pos a7]
                · rw [if_neg a7]
                  by_cases a8 : b < a
                  · rw [if_pos a8]
                  · rw [if_neg a8, if_neg (by omega)]
          · rw [if_pos a4]
      · rw [if_pos a2]
    · rw [if_pos a1]
theorem arm_leaves (h : Rel M) (p q a b : Int) : Arm (f_EstateOffice_leaves p q a b) (f_Model_leaves p q a b) M := by
  obtain ⟨p1, p2, p3, p4⟩ := h.2.1
  obtain ⟨o1, o2, o3, o4⟩ := h.2.2.2.2.2.1
  have hd := h.2.2.1.2
  have h472 : ∀ x, 0 ≤ x → x < M 6 0 → M 472 x = M 11 x := fun x x0 x1 => (hd x x0 x1).1.1.1
  rcases f_leaves (p := p) (q := q) (a := a) (b := b) p3 o2 o3 with ⟨hc, e1⟩ | ⟨hc, e1⟩
  · have e47 : caE M 21 p q (fr_of a b) 439 47 = M 6 0 := by
      unfold caE
      simp (disch := omega) only [xup_ne]
      exact p1
    have e61 : caE M 21 p q (fr_of a b) 439 65 = M 21 0 := by
      unfold caE
      simp (disch := omega) only [xup_ne]
      exact o1
    rcases m_leaves (M := caE M 21 p q (fr_of a b)) (p := p) (q := q) (a := a) (b := b) (by omega) (by omega) (by omega) with ⟨hw, e2⟩ | ⟨hw, e2⟩
    · refine ⟨1, _, _, e1, ?_, e2, ?_, ?_⟩
      · unfold caE
        exact ⟨fun j => by simp (disch := omega) only [xup_ne], by simp (disch := omega) only [xup_ne]⟩
      · unfold leM caE
        exact ⟨fun j => by simp (disch := omega) only [xup_ne], by simp (disch := omega) only [xup_ne]⟩
      generalize hm : M 21 0 = m at e61 o2 o3
      generalize hM2 : leM (caE M 21 p q (fr_of a b)) p q a b = M2
      have e : ∀ c j, ¬ ((c = 21 ∧ j = 0) ∨ (c = 439 ∧ j = 65) ∨ (j = m ∧ ((22 ≤ c ∧ c ≤ 24) ∨ (483 ≤ c ∧ c ≤ 486)))) → M2 c j = M c j := by
        intro c j h1
        rw [← hM2]
        unfold leM
        rw [e61]
        unfold caE
        simp (disch := omega) only [xup_ne]
      have nw : M2 21 0 = m + 1 ∧ M2 439 65 = m + 1 ∧ (M2 22 m = p ∧ M2 23 m = q ∧ M2 24 m = fr_of a b) ∧ (M2 483 m = p ∧ M2 484 m = q ∧ M2 485 m = a ∧ M2 486 m = b) := by
        rw [← hM2]
        unfold leM
        rw [e61]
        unfold caE
        rw [hm]
        simp (disch := omega) only [Int.reduceAdd, xup_ne, xup_eq, and_self]
      obtain ⟨n1, n2, ⟨a18, a19, a20⟩, a480, a481, a482, a483⟩ := nw
      obtain ⟨hT, hP, hD, hM, hO, hL, hW, hK, hH, hS, hN, hF⟩ := h
      unfold leC at hc
      have e60 := e 6 0 (by omega)
      refine ⟨RT_fr hT (fun c j hc => e c j (by omega)), RP_fr hP (fun c j hc => e c j (by omega)), RD_fr hD (fun c j hc => e c j (by omega)), RM_fr hM (fun c j hc => e c j (by omega)), RO_fr hO (fun c j hc => e c j (by omega)), ⟨by omega, by omega, by omega, fun i q0 q1 => ?_⟩, RW_fr hW (fun c j hc => e c j (by omega)), RK_fr hK hW (fun c j hc => e c j (by omega)), RH_fr hH (fun c j hc => e c j (by omega)), RS_fr hS p3 (fun c j hc => e c j (by omega)), RN_fr hN (fun c j hc => e c j (by omega)), RF_fr hF (fun c j hc => e c j (by omega))⟩
      by_cases pn : i = m
      · subst pn
        unfold RLp
        rw [a18, a19, a20, a480, a481, a482, a483, e60]
        exact ⟨by omega, by omega, rfl, by omega, by omega, by omega⟩
      · exact RLp_fr (o4 i q0 (by omega)) (fun c j hc => e c j (by omega))
    · refine absurd ?_ hw
      unfold leC at hc
      unfold leD
      have := h472 p hc.1.1 hc.1.2.1
      rw [e47, e61]
      unfold caE
      simp (disch := omega) only [xup_ne]
      omega
  · rcases m_leaves (M := M) (p := p) (q := q) (a := a) (b := b) (by omega) (by omega) (by omega) with ⟨hw, e2⟩ | ⟨hw, e2⟩
    · refine absurd ?_ hc
      unfold leD at hw
      unfold leC
      have := h472 p hw.1.1 (by omega)
      omega
    · exact ⟨0, M, M, e1, Scr.rf M, e2, Scr.rf M, h⟩
end
