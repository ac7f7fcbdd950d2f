/-! THE ARM would. -/
section
variable {M N : em_M}
theorem arm_would (h : Rel M) (p t : Int) : Arm (f_EstateOffice_would p t) (f_Model_would p t) M := by
  obtain ⟨hT, hP, hD, hM, hO, hL, hW, hK, hH, hS, hN, hF⟩ := id h
  have hn := hP.2.2.1
  have n0 := hP.2.1
  have hp1 := hP.1
  have h72 := hH.2.1
  have e1 := q_EstateOffice_would p t M
  have e2 := q_Model_would p t M
  obtain ⟨bv, bb1, bb2⟩ := f_bornBy (M := M) hn t
  simp only [em_cd, f_undead hn, Option.bind_some, b2_z, q_History_allows] at e1
  simp only [em_cd, m_isPerson, Option.bind_some, b2_z, hp1, q_Model_isDue] at e2
  have none' : f_EstateOffice_would p t M = some (-1, M) → f_Model_would p t M = some (-1, M) → Arm (f_EstateOffice_would p t) (f_Model_would p t) M := fun z1 z2 => ⟨-1, M, M, z1, Scr.rf M, z2, Scr.rf M, h⟩
  by_cases c1 : 0 ≤ p ∧ p < M 6 0
  · obtain ⟨p0, p1⟩ := c1
    have hdp := (hD.2 p p0 p1).1
    have d472 : M 472 p = M 11 p := hdp.1.1
    have d471 : M 471 p = M 10 p := (hP.2.2.2 p p0 p1).2.2.2.1
    rw [if_neg (fun z => z ⟨p0, p1⟩), if_pos (by omega), d472] at e2
    by_cases c2 : M 11 p = -1
    · rw [if_neg (fun z => z ⟨p0, p1, c2⟩)] at e1
      rw [if_neg (fun z => z c2)] at e2
      by_cases c3 : t < M 136 1
      · rw [if_pos c3] at e1
        rw [if_pos (by omega)] at e2
        simp only [Option.bind_some, if_true] at e1 e2
        exact none' e1 e2
      · rw [if_neg c3] at e1
        rw [if_neg (by omega)] at e2
        by_cases c4 : 100000 < t
        · rw [if_pos c4] at e1 e2
          simp only [Option.bind_some, if_true] at e1 e2
          exact none' e1 e2
        · rw [if_neg c4] at e1 e2
          simp only [Option.bind_some, bb1, f_holds, b2_z, nn] at e1 e2
          by_cases c5 : M 10 p ≤ t
          · have tb1 : tb bv p = true := (bb2.at_ p0 (by omega)).mpr ⟨p1, c5⟩
            rw [if_neg (by omega), if_pos ⟨p0, by omega, tb1⟩] at e1
            rw [if_neg (by omega), if_pos (by omega), d471, if_pos c5] at e2
            clear e2
            obtain ⟨B, v, z1, ⟨z2, z2'⟩, z3, z4, z5, z6⟩ := set_prep h (t := t) (by omega) (by omega)
            rw [z1] at e1
            simp only [] at e1
            have hL : mk (x_and v (x_xor (x_shl 1 p) (-1))) (fun x => ((x < M 6 0 ∧ M 10 x ≤ t) ∧ ¬ (¬ M 11 x = -1 ∧ M 11 x ≤ t)) ∧ ¬ x = p) := z3.minus (fun x x0 x1 => (mk_bit p0 (by omega)).at_ x0 x1)
            generalize x_and v (x_xor (x_shl 1 p) (-1)) = L at e1 hL
            have hE : isE 354 := ⟨30, by omega, by omega, by omega⟩
            obtain ⟨N1, s1, ⟨s2, s3, s4, s5, s6⟩, -⟩ := would_state h (by omega) (by omega) p0 p1 z2 z6 z4 z5 (zF.rf B) hL
            rcases work_both hE s2 s3 p0 (by rw [z6 6 0 (by omega)]; exact p1) s4 s5 s6 with ⟨M1, Nf, w1, -, -, -, -, w6, -⟩ | ⟨M1, Nf, w1, -, -, w6, -⟩
            · rw [w1] at e1
              simp only [Option.bind_some] at e1
              rw [if_pos (by omega)] at e1
              obtain ⟨M2, y0, y1, y2, y3⟩ := f_Ecopy (M := M1) hE (by omega)
              rw [y0] at e1
              simp only [Option.bind_some] at e1
              obtain ⟨Z, x1, x2, x3⟩ := would_ok h (by omega) (by omega) p0 p1 c2 c3 c5 z2 z2' z6 z4 z5 w6 hL w1 y1 y2 (fun c j hc => y3 c j (by omega))
              have sc : Scr M M2 := ⟨fun j => by rw [y3 _ _ (by omega), w6 _ _ (by omega), z6 _ _ (by omega)], by rw [y3 _ _ (by omega), w6 _ _ (by omega), z6 _ _ (by omega)]⟩
              exact ⟨0, M2, Z, e1, sc, x1, ⟨fun j => (x2.1 j).trans (sc.1 j), x2.2.trans sc.2⟩, x3⟩
            · rw [w1] at e1
              simp only [Option.bind_some] at e1
              rw [if_neg (fun z => z trivial)] at e1
              obtain ⟨Z, x1, x2, x3⟩ := would_fail h (by omega) (by omega) p0 p1 c2 c3 c5 z2 z2' z6 z4 z5 w6 hL w1
              have sc : Scr M M1 := ⟨fun j => by rw [w6 _ _ (by omega), z6 _ _ (by omega)], by rw [w6 _ _ (by omega), z6 _ _ (by omega)]⟩
              exact ⟨-2, M1, Z, e1, sc, x1, ⟨fun j => (x2.1 j).trans (sc.1 j), x2.2.trans sc.2⟩, x3⟩
          · rw [if_neg (by omega), if_neg (fun z => c5 ((bb2.at_ p0 (by omega)).mp z.2.2).2)] at e1
            rw [if_neg (by omega), if_pos (by omega), d471, if_neg c5] at e2
            exact none' e1 e2
    · rw [if_pos (fun z => c2 z.2.2)] at e1
      rw [if_pos c2] at e2
      exact none' e1 e2
  · rw [if_pos (fun z => c1 ⟨z.1, z.2.1⟩)] at e1
    rw [if_pos c1] at e2
    exact none' e1 e2
end
