/-! PERSONS: person, mates, wealth, owes, leaves, dies. -/
theorem f_has (p : Int) (M : em_M) : f_Register_has p M = some (b2 (0 ≤ p ∧ p < M 6 0 ∧ p < 30), M) := by
  rw [q_Register_has]
  simp only [em_cd, b2]
  repeat' split
  all_goals first | rfl | omega
theorem f_has30 {M : em_M} (hn : M 6 0 ≤ 30) (p : Int) : f_Register_has p M = some (b2 (0 ≤ p ∧ p < M 6 0), M) := by
  rw [f_has, b2_cong (show (0 ≤ p ∧ p < M 6 0 ∧ p < 30) ↔ (0 ≤ p ∧ p < M 6 0) by omega)]
theorem m_isPerson (p : Int) (M : em_M) : f_Model_isPerson p M = some (b2 (0 ≤ p ∧ p < M 439 47), M) := by
  rw [q_Model_isPerson]
  simp only [em_cd, b2]
  repeat' split
  all_goals first | rfl | omega
theorem f_isDay (d : Int) (M : em_M) : f_EstateOffice_isDay d M = some (b2 (0 ≤ d ∧ d ≤ 100000), M) := by
  rw [q_EstateOffice_isDay]
  simp only [em_cd, b2]
  repeat' split
  all_goals first | rfl | omega
theorem m_isDay (d : Int) (M : em_M) : f_Model_isDay d M = some (b2 (0 ≤ d ∧ d ≤ 100000), M) := by
  rw [q_Model_isDay]
  simp only [em_cd, b2]
  repeat' split
  all_goals first | rfl | omega
theorem f_undead {M : em_M} (hn : M 6 0 ≤ 30) (p : Int) : f_Register_hasUndead p M = some (b2 (0 ≤ p ∧ p < M 6 0 ∧ M 11 p = -1), M) := by
  rw [q_Register_hasUndead, f_has30 hn]
  simp only [em_cd, Option.bind_some, b2_z]
  unfold b2
  repeat' split
  all_goals first | rfl | omega
theorem f_fits {M : em_M} (hn : M 6 0 ≤ 30) (p s b : Int) : f_Register_fitsAsParent p s b M = some (b2 (p = -1 ∨ (0 ≤ p ∧ p < M 6 0 ∧ M 7 p = s ∧ M 10 p < b)), M) := by
  rw [q_Register_fitsAsParent, f_has30 hn]
  simp only [em_cd, Option.bind_some, b2_z]
  unfold b2
  repeat' split
  all_goals first | rfl | omega
theorem f_forget (M : em_M) : f_Kinship_forget M = some (0, xup M 25 2 (-1)) := q_Kinship_forget M
theorem x32_s {x : Int} (h1 : -1000000 ≤ x) (h2 : x ≤ 1000000) : x32 x = x := x32_id (by omega) (by omega)
def pE (M : em_M) (a b c d : Int) : em_M := xup (xup (xup (xup (xup (xup (xup (xup M 25 2 (-1)) 7 (M 6 0) a) 8 (M 6 0) b) 9 (M 6 0) c) 10 (M 6 0) d) 11 (M 6 0) (-1)) 12 (M 6 0) 1) 6 0 (M 6 0 + 1)
def pC (M : em_M) (a b c d : Int) : Prop := M 6 0 < 30 ∧ (a = 0 ∨ a = 1) ∧ (0 ≤ d ∧ d ≤ 100000) ∧ (b = -1 ∨ (0 ≤ b ∧ b < M 6 0 ∧ M 7 b = 1 ∧ M 10 b < d)) ∧ (c = -1 ∨ (0 ≤ c ∧ c < M 6 0 ∧ M 7 c = 0 ∧ M 10 c < d))
theorem f_person {M : em_M} (h0 : 0 ≤ M 6 0) (hn : M 6 0 ≤ 30) (a b c d : Int) : (pC M a b c d ∧ f_EstateOffice_person a b c d M = some (M 6 0, pE M a b c d)) ∨ (¬ pC M a b c d ∧ f_EstateOffice_person a b c d M = some (-1, M)) := by
  have e2 : (a = 0 ∨ a = 1) → M 6 0 < 30 → f_EstateOffice_person a b c d M = f_EstateOffice_person_21 a b c d M := fun z1 z2 => by
    rw [q_EstateOffice_person]
    simp only [em_cd]
    rw [if_neg (by omega)]
    by_cases a0 : a = 0
    · rw [if_pos a0]
    · rw [if_neg a0, if_neg (by omega)]
  unfold pC
  by_cases c1 : M 6 0 < 30 ∧ (a = 0 ∨ a = 1)
  · rw [e2 c1.2 c1.1, q_EstateOffice_person_21, f_isDay]
    simp only [Option.bind_some, em_cd, b2_z, nn, f_fits hn, f_forget]
    by_cases c2 : 0 ≤ d ∧ d ≤ 100000
    · rw [if_pos c2]
      by_cases c3 : (b = -1 ∨ (0 ≤ b ∧ b < M 6 0 ∧ M 7 b = 1 ∧ M 10 b < d))
      · rw [if_neg (fun z => z c3)]
        by_cases c4 : (c = -1 ∨ (0 ≤ c ∧ c < M 6 0 ∧ M 7 c = 0 ∧ M 10 c < d))
        · refine Or.inl ⟨⟨c1.1, c1.2, c2, c3, c4⟩, ?_⟩
          rw [if_pos c4, q_Register_addPerson]
          simp (disch := omega) only [em_cd, xup_ne, if_pos, if_neg, q_Register_addPerson_61, Option.bind_some, x32_s]
          rfl
        · rw [if_neg c4]
          exact Or.inr ⟨fun z => c4 z.2.2.2.2, rfl⟩
      · rw [if_pos c3]
        exact Or.inr ⟨fun z => c3 z.2.2.2.1, rfl⟩
    · rw [if_neg c2]
      exact Or.inr ⟨fun z => c2 z.2.2.1, rfl⟩
  · refine Or.inr ⟨fun z => c1 ⟨z.1, z.2.1⟩, ?_⟩
    rw [q_EstateOffice_person]
    simp only [em_cd]
    by_cases a0 : 30 ≤ M 6 0
    · rw [if_pos a0]
    · rw [if_neg a0, if_neg (by omega), if_pos (by omega)]
def pM (M : em_M) (a b c d : Int) : em_M := xup (xup (xup (xup (xup (xup (xup (xup (xup (xup M 468 (M 439 47) a) 469 (M 439 47) b) 470 (M 439 47) c) 471 (M 439 47) d) 472 (M 439 47) (-1)) 473 (M 439 47) 0) 474 (M 439 47) 0) 475 (M 439 47) 1) 506 (M 439 47) 0) 439 47 (M 439 47 + 1)
def pD (M : em_M) (a b c d : Int) : Prop := M 439 47 < 30 ∧ (a = 0 ∨ a = 1) ∧ (0 ≤ d ∧ d ≤ 100000) ∧ (b = -1 ∨ (0 ≤ b ∧ b < M 439 47 ∧ M 468 b = 1 ∧ M 471 b < d)) ∧ (c = -1 ∨ (0 ≤ c ∧ c < M 439 47 ∧ M 468 c = 0 ∧ M 471 c < d))
theorem m_person {M : em_M} (h0 : 0 ≤ M 439 47) (hn : M 439 47 ≤ 30) (a b c d : Int) : (pD M a b c d ∧ f_Model_person a b c d M = some (M 439 47, pM M a b c d)) ∨ (¬ pD M a b c d ∧ f_Model_person a b c d M = some (-1, M)) := by
  have k99 : M 439 47 < 30 → f_Model_person_99 a b c d M = some (M 439 47, pM M a b c d) := fun z => by
    rw [q_Model_person_99]
    simp (disch := omega) only [em_cd, xup_ne, if_pos, if_neg, q_Model_person_146, q_Model_person_188, x32_s]
    rfl
  have k64 : M 439 47 < 30 → f_Model_person_64 a b c d M = if (c = -1 ∨ (0 ≤ c ∧ c < M 439 47 ∧ M 468 c = 0 ∧ M 471 c < d)) then some (M 439 47, pM M a b c d) else some (-1, M) := fun z => by
    rw [q_Model_person_64, m_isPerson]
    simp only [em_cd, Option.bind_some, b2_z, k99 z]
    repeat' split
    all_goals first | rfl | omega
  unfold pD
  rw [q_Model_person]
  simp only [em_cd, Option.bind_some, b2_z, nn, m_isPerson, m_isDay]
  by_cases c0 : M 439 47 = 30
  · rw [if_pos c0]
    exact Or.inr ⟨fun z => by omega, rfl⟩
  rw [if_neg c0]
  have c0 : M 439 47 < 30 := by omega
  rw [k64 c0]
  by_cases c1 : a = 0 ∨ a = 1
  · rw [if_neg (by omega), if_neg (by omega)]
    by_cases c2 : 0 ≤ d ∧ d ≤ 100000
    · rw [if_pos c2]
      by_cases c3 : (b = -1 ∨ (0 ≤ b ∧ b < M 439 47 ∧ M 468 b = 1 ∧ M 471 b < d))
      · by_cases c4 : (c = -1 ∨ (0 ≤ c ∧ c < M 439 47 ∧ M 468 c = 0 ∧ M 471 c < d))
        · refine Or.inl ⟨⟨c0, c1, c2, c3, c4⟩, ?_⟩
          rw [if_pos c4]
          repeat' split
          all_goals first | rfl | omega
        · refine Or.inr ⟨fun z => c4 z.2.2.2.2, ?_⟩
          rw [if_neg c4]
          repeat' split
          all_goals first | rfl | omega
      · refine Or.inr ⟨fun z => c3 z.2.2.2.1, ?_⟩
        repeat' split
        all_goals first | rfl | omega
    · rw [if_neg c2]
      exact Or.inr ⟨fun z => c2 z.2.2.1, rfl⟩
  · refine Or.inr ⟨fun z => c1 z.2.1, ?_⟩
    by_cases a0 : a < 0
    · rw [if_pos a0]
    · rw [if_neg a0, if_pos (by omega)]
