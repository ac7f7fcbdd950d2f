/-! PERSONS: the calls mates, wealth, dies of the two. -/
section
variable {M : em_M}
def maC (M : em_M) (a b c d : Int) : Prop := (0 ≤ a ∧ a < M 6 0) ∧ (0 ≤ b ∧ b < M 6 0) ∧ ¬ a = b ∧ M 6 2 < 60 ∧ (0 ≤ c ∧ c ≤ 100000) ∧ (d = -1 ∨ ((0 ≤ d ∧ d ≤ 100000) ∧ c < d))
def maE (M : em_M) (a b c d : Int) : em_M := xup (xup (xup (xup (xup (xup M 25 2 (-1)) 13 (M 6 2) a) 14 (M 6 2) b) 15 (M 6 2) c) 16 (M 6 2) d) 6 2 (M 6 2 + 1)
theorem f_addMates {a b c d : Int} (h0 : 0 ≤ M 6 2) (h1 : M 6 2 < 60) : f_Register_addMates a b c d (xup M 25 2 (-1)) = some (0, maE M a b c d) := by
  rw [q_Register_addMates]
  simp (disch := omega) only [em_cd, xup_ne, if_pos, if_neg, q_Register_addMates_68, x32_s]
  rfl
theorem f_mates {a b c d : Int} (hn : M 6 0 ≤ 30) (h0 : 0 ≤ M 6 2) : (maC M a b c d ∧ f_EstateOffice_mates a b c d M = some (1, maE M a b c d)) ∨ (¬ maC M a b c d ∧ f_EstateOffice_mates a b c d M = some (0, M)) := by
  rw [q_EstateOffice_mates]
  simp only [em_cd, Option.bind_some, b2_z, f_has30 hn, f_isDay, f_forget]
  unfold maC
  by_cases hc : (0 ≤ a ∧ a < M 6 0) ∧ (0 ≤ b ∧ b < M 6 0) ∧ ¬ a = b ∧ M 6 2 < 60 ∧ (0 ≤ c ∧ c ≤ 100000) ∧ (d = -1 ∨ ((0 ≤ d ∧ d ≤ 100000) ∧ c < d))
  · refine Or.inl ⟨hc, ?_⟩
    rw [f_addMates h0 hc.2.2.2.1]
    repeat' split
    all_goals first | rfl | omega
  · refine Or.inr ⟨hc, ?_⟩
    repeat' split
    all_goals first | rfl | omega
def maD (M : em_M) (a b c d : Int) : Prop := (0 ≤ a ∧ a < M 439 47) ∧ (0 ≤ b ∧ b < M 439 47) ∧ ¬ a = b ∧ (0 ≤ c ∧ c ≤ 100000) ∧ (d = -1 ∨ (c < d ∧ d ≤ 100000)) ∧ ¬ M 439 56 = 60
def maM (M : em_M) (a b c d : Int) : em_M := xup (xup (xup (xup (xup M 476 (M 439 56) a) 477 (M 439 56) b) 478 (M 439 56) c) 479 (M 439 56) d) 439 56 (M 439 56 + 1)
theorem m_mates {a b c d : Int} (h0 : 0 ≤ M 439 56) (h1 : M 439 56 ≤ 60) : (maD M a b c d ∧ f_Model_mates a b c d M = some (1, maM M a b c d)) ∨ (¬ maD M a b c d ∧ f_Model_mates a b c d M = some (0, M)) := by
  have k48 : f_Model_mates_48 a b c d M = if M 439 56 = 60 then some (0, M) else some (1, maM M a b c d) := by
    rw [q_Model_mates_48]
    by_cases h : M 439 56 = 60
    · rw [em_cd, if_neg (fun z => z h), if_pos h]
    · rw [if_neg h]
      simp (disch := omega) only [em_cd, xup_ne, if_pos, if_neg, q_Model_mates_110, x32_s]
      rfl
  rw [q_Model_mates]
  simp only [em_cd, Option.bind_some, b2_z, m_isPerson, m_isDay, k48]
  unfold maD
  by_cases hc : (0 ≤ a ∧ a < M 439 47) ∧ (0 ≤ b ∧ b < M 439 47) ∧ ¬ a = b ∧ (0 ≤ c ∧ c ≤ 100000) ∧ (d = -1 ∨ (c < d ∧ d ≤ 100000)) ∧ ¬ M 439 56 = 60
  · refine Or.inl ⟨hc, ?_⟩
    repeat' split
    all_goals first | rfl | omega
  · refine Or.inr ⟨hc, ?_⟩
    repeat' split
    all_goals first | rfl | omega
def maX (M : em_M) (m a b c d : Int) : em_M := xup (xup (xup (xup (xup (maE M a b c d) 476 m a) 477 m b) 478 m c) 479 m d) 439 56 (m + 1)
theorem rel_mates {M2 : em_M} (h : Rel M) {m a b c d : Int} (hm : M 6 2 = m) (hc : maC M a b c d) (hM2 : M2 = maX M m a b c d) : Rel M2 := by
  obtain ⟨hT, hP, hD, hM, hO, hL, hW, hK, hH, hS, hN, hF⟩ := h
  obtain ⟨c1, c2, c3, c4, c5, c6⟩ := hc
  have e : ∀ c j, ¬ ((c = 6 ∧ j = 2) ∨ (c = 439 ∧ j = 56) ∨ (c = 25 ∧ j = 2) ∨ (j = m ∧ ((13 ≤ c ∧ c ≤ 16) ∨ (476 ≤ c ∧ c ≤ 479)))) → M2 c j = M c j := by
    intro c j h1
    rw [hM2]
    unfold maX maE
    simp (disch := omega) only [xup_ne]
  have nw : M2 6 2 = m + 1 ∧ M2 439 56 = m + 1 ∧ M2 25 2 = -1 ∧ (M2 13 m = a ∧ M2 14 m = b ∧ M2 15 m = c ∧ M2 16 m = d) ∧ (M2 476 m = a ∧ M2 477 m = b ∧ M2 478 m = c ∧ M2 479 m = d) := by
    rw [hM2]
    unfold maX maE
    rw [hm]
    simp (disch := omega) only [xup_ne, xup_eq, and_self]
  obtain ⟨n1, n2, a25, ⟨a13, a14, a15, a16⟩, a476, a477, a478, a479⟩ := nw
  have hn30 := hP.2.2.1
  obtain ⟨m1, m2, m3, m4⟩ := hM
  have e60 := e 6 0 (by omega)
  refine ⟨RT_fr hT (fun c j hc => e c j (by omega)), RP_fr hP (fun c j hc => e c j (by omega)), RD_fr hD (fun c j hc => e c j (by omega)), ⟨by omega, by omega, by omega, fun i q0 q1 => ?_⟩, RO_fr hO (fun c j hc => e c j (by omega)), RL_fr hL (fun c j hc => e c j (by omega)), RW_fr hW (fun c j hc => e c j (by omega)), Or.inl a25, RH_fr hH (fun c j hc => e c j (by omega)), RS_fr hS hn30 (fun c j hc => e c j (by omega)), RN_fr hN (fun c j hc => e c j (by omega)), RF_fr hF (fun c j hc => e c j (by omega))⟩
  by_cases pn : i = m
  · subst pn
    unfold RMp
    rw [a13, a14, a15, a16, a476, a477, a478, a479, e60]
    omega
  · exact RMp_fr (m4 i q0 (by omega)) (fun c j hc => e c j (by omega))
theorem arm_mates (h : Rel M) (a b c d : Int) : Arm (f_EstateOffice_mates a b c d) (f_Model_mates a b c d) M := by
  obtain ⟨p1, p2, p3, p4⟩ := h.2.1
  obtain ⟨m1, m2, m3, m4⟩ := h.2.2.2.1
  rcases f_mates (a := a) (b := b) (c := c) (d := d) p3 m2 with ⟨hc, e1⟩ | ⟨hc, e1⟩
  · have e47 : maE M a b c d 439 47 = M 6 0 := by
      unfold maE
      simp (disch := omega) only [xup_ne]
      exact p1
    have e56 : maE M a b c d 439 56 = M 6 2 := by
      unfold maE
      simp (disch := omega) only [xup_ne]
      exact m1
    rcases m_mates (M := maE M a b c d) (a := a) (b := b) (c := c) (d := d) (by omega) (by omega) with ⟨hd, e2⟩ | ⟨hd, e2⟩
    · refine ⟨1, maE M a b c d, maM (maE M a b c d) a b c d, e1, ?_, e2, ?_, rel_mates h rfl hc ?_⟩
      · unfold maE
        exact ⟨fun j => by simp (disch := omega) only [xup_ne], by simp (disch := omega) only [xup_ne]⟩
      · unfold maM maE
        exact ⟨fun j => by simp (disch := omega) only [xup_ne], by simp (disch := omega) only [xup_ne]⟩
      · unfold maM maX
        rw [e56]
    · refine absurd ?_ hd
      unfold maC at hc
      unfold maD
      rw [e47, e56]
      omega
  · rcases m_mates (M := M) (a := a) (b := b) (c := c) (d := d) (by omega) (by omega) with ⟨hd, e2⟩ | ⟨hd, e2⟩
    · refine absurd ?_ hc
      unfold maD at hd
      unfold maC
      omega
    · exact ⟨0, M, M, e1, Scr.rf M, e2, Scr.rf M, h⟩
/-! wealth -/
theorem fr_of_1 {v : Int} (h : 0 ≤ v) (h2 : v ≤ 1000000000000) : fr_of v 1 = v * 1048576 + 1 := by
  unfold fr_of
  have e : Int.gcd v 1 = 1 := Int.gcd_one_right v
  rw [e]
  simp only [Int.natCast_one, Int.ediv_one]
  rw [if_neg (by omega), if_neg (by omega), if_neg (by omega)]
theorem fr_ok_int {v : Int} (h : 0 ≤ v) (h2 : v ≤ 1000000000000) : fr_ok (v * 1048576 + 1) ∧ fr_up (v * 1048576 + 1) = v ∧ fr_low (v * 1048576 + 1) = 1 := by
  have e1 : fr_up (v * 1048576 + 1) = v := fr_up_pack (by omega) (by omega)
  have e2 : fr_low (v * 1048576 + 1) = 1 := fr_low_pack (by omega) (by omega)
  unfold fr_ok
  rw [e1, e2]
  exact ⟨⟨by omega, by omega, by omega, by omega, Int.gcd_one_right v⟩, rfl, rfl⟩
def weC (M : em_M) (p v : Int) : Prop := (0 ≤ p ∧ p < M 6 0 ∧ M 11 p = -1) ∧ 0 ≤ v ∧ v ≤ 100000
theorem f_wealth {p v : Int} (hn : M 6 0 ≤ 30) : (weC M p v ∧ f_EstateOffice_wealth p v M = some (1, xup M 12 p (v * 1048576 + 1))) ∨ (¬ weC M p v ∧ f_EstateOffice_wealth p v M = some (0, M)) := by
  rw [q_EstateOffice_wealth]
  simp only [em_cd, Option.bind_some, b2_z, f_undead hn]
  unfold weC
  by_cases hc : (0 ≤ p ∧ p < M 6 0 ∧ M 11 p = -1) ∧ 0 ≤ v ∧ v ≤ 100000
  · refine Or.inl ⟨hc, ?_⟩
    rw [f_of_eq M (by omega) (by omega) (by omega), fr_of_1 (by omega) (by omega)]
    simp only [Option.bind_some]
    repeat' split
    all_goals first | rfl | omega
  · refine Or.inr ⟨hc, ?_⟩
    repeat' split
    all_goals first | rfl | omega
def weD (M : em_M) (p v : Int) : Prop := (0 ≤ p ∧ p < M 439 47 ∧ M 472 p = -1) ∧ 0 ≤ v ∧ v ≤ 100000
theorem m_wealth {p v : Int} (hn : M 439 47 ≤ 30) : (weD M p v ∧ f_Model_wealth p v M = some (1, xup (xup M 474 p v) 475 p 1)) ∨ (¬ weD M p v ∧ f_Model_wealth p v M = some (0, M)) := by
  rw [q_Model_wealth]
  simp only [em_cd, Option.bind_some, b2_z, m_isPerson]
  unfold weD
  by_cases hc : (0 ≤ p ∧ p < M 439 47 ∧ M 472 p = -1) ∧ 0 ≤ v ∧ v ≤ 100000
  · refine Or.inl ⟨hc, ?_⟩
    repeat' split
    all_goals first | rfl | omega
  · refine Or.inr ⟨hc, ?_⟩
    repeat' split
    all_goals first | rfl | omega
theorem arm_wealth (h : Rel M) (p v : Int) : Arm (f_EstateOffice_wealth p v) (f_Model_wealth p v) M := by
  obtain ⟨p1, p2, p3, p4⟩ := h.2.1
  have hd := h.2.2.1.2
  have h472 : ∀ x, 0 ≤ x → x < M 6 0 → M 472 x = M 11 x := fun x x0 x1 => (hd x x0 x1).1.1.1
  rcases f_wealth (p := p) (v := v) p3 with ⟨hc, e1⟩ | ⟨hc, e1⟩
  · rcases m_wealth (M := xup M 12 p (v * 1048576 + 1)) (p := p) (v := v) (by simp (disch := omega) only [xup_ne]; omega) with ⟨hw, e2⟩ | ⟨hw, e2⟩
    · refine ⟨1, _, _, e1, ⟨fun j => by simp (disch := omega) only [xup_ne], by simp (disch := omega) only [xup_ne]⟩, e2, ⟨fun j => by simp (disch := omega) only [xup_ne], by simp (disch := omega) only [xup_ne]⟩, ?_⟩
      generalize hM2 : xup (xup (xup M 12 p (v * 1048576 + 1)) 474 p v) 475 p 1 = M2
      have e : ∀ c j, ¬ (j = p ∧ (c = 12 ∨ c = 474 ∨ c = 475)) → M2 c j = M c j := by
        intro c j h1
        rw [← hM2]
        simp (disch := omega) only [xup_ne]
      have nw : M2 12 p = v * 1048576 + 1 ∧ M2 474 p = v ∧ M2 475 p = 1 := by
        rw [← hM2]
        simp (disch := omega) only [xup_ne, xup_eq, and_self]
      obtain ⟨hT, hP, hD, hM, hO, hL, hW, hK, hH, hS, hN, hF⟩ := h
      have hc' := hc
      unfold weC at hc'
      refine ⟨RT_fr hT (fun c j hc => e c j (by omega)), RP_fr hP (fun c j hc => e c j (by omega)), ⟨?_, fun q q0 q1 => ?_⟩, RM_fr hM (fun c j hc => e c j (by omega)), RO_fr hO (fun c j hc => e c j (by omega)), RL_fr hL (fun c j hc => e c j (by omega)), RW_fr hW (fun c j hc => e c j (by omega)), ?_, RH_fr hH (fun c j hc => e c j (by omega)), RS_fr hS p3 (fun c j hc => e c j (by omega)), RN_fr hN (fun c j hc => e c j (by omega)), RF_fr hF (fun c j hc => e c j (by omega))⟩
      · rw [e 6 1 (by omega), e 6 0 (by omega)]; exact hD.1
      · rw [e 6 0 (by omega)] at q1
        have hq := hD.2 q q0 q1
        refine ⟨RDp_fr hq.1 (fun c j hc => e c j (by omega)), ?_⟩
        by_cases qp : q = p
        · subst qp
          unfold RWp
          have hv := fr_ok_int (v := v) (by omega) (by omega)
          rw [nw.1, nw.2.1, nw.2.2]
          exact ⟨hv.1, hv.2.1.symm, hv.2.2.symm⟩
        · exact RWp_fr hq.2 (fun c hc => e c q (by omega))
      · rcases hK with k | ⟨k1, k2, k3⟩
        · exact Or.inl (by rw [e 25 2 (by omega)]; exact k)
        · exact Or.inr ⟨by rw [e 25 2 (by omega)]; exact k1, by rw [e 25 2 (by omega)]; exact k2, by rw [e 25 2 (by omega)]; exact kTab_fr k3 hW.1 hW.2.2.2.1.2.2 (fun c j hc => e c j (by omega))⟩
    · refine absurd ?_ hw
      unfold weC at hc
      unfold weD
      have := h472 p hc.1.1 hc.1.2.1
      simp (disch := omega) only [xup_ne]
      omega
  · rcases m_wealth (M := M) (p := p) (v := v) (by omega) with ⟨hw, e2⟩ | ⟨hw, e2⟩
    · refine absurd ?_ hc
      unfold weD at hw
      unfold weC
      have := h472 p hw.1.1 (by omega)
      omega
    · exact ⟨0, M, M, e1, Scr.rf M, e2, Scr.rf M, h⟩
end
