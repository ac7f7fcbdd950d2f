/-! read: kin, whole. -/
section
variable {C R M : em_M} {n m t w s k0 S P r0 : Int}
theorem m_kinf {v1 : Int} (hf : 0 < R 439 12) : ((f_Model_must 4 R).bind fun r3 => if r3.2 439 12 ≤ 0 then f_Model_tellKin_54 v1 0 r3.2 else some (0, r3.2)) = some (0, R) := by
  rw [m_mustf 4 hf]
  simp only [Option.bind_some]
  rw [if_neg (by omega)]
theorem kin_pair (hS : gST n m w s C R) (hQ : gQ n m t C R) (hN : gN m t C R) (hL : gLL w s t k0 S P r0 C R) (h0 : C 51 4 = 0) : TRo n m w s t C R f_Reader_takeKin f_Model_tell := by
  obtain ⟨⟨q1, q2, q3⟩, ⟨q4, q5⟩, ⟨q6, q7⟩, -⟩ := id hQ
  obtain ⟨-, ⟨w1, w2⟩, s1, s2⟩ := id hS
  obtain ⟨l1, l2, ⟨l3, l3', l7, l8⟩, l4, l5, l6⟩ := id hL
  have hρ : R 442 t = 20 := (kd_word hS hQ (d := 0) (by omega) (by omega)).mp h0
  have e1 := q_Reader_takeKin C
  have e2 := q_Model_tell R
  have e3 := q_Model_tellKin R
  simp only [em_cd, q5, if_pos (show 0 ≤ t ∧ t < 603 by omega), hρ] at e2
  simp only [em_cd] at e1 e3
  rw [if_pos trivial] at e2
  have hKT : ∀ Z : em_M, ((f_Reader_takePaths Z).bind fun r3 => if r3.1 = 0 then some (0, r3.2) else (f_Reader_take 59 r3.2).bind fun r4 => if ¬ r4.1 = 0 then (bif (((em_isO (r4.2 51 2) 4) && true) && true) then (f_Law_closeKin (r4.2 51 2) r4.2).bind fun r5 => some (1, r5.2) else none) else some (0, r4.2)) = (f_Reader_takePaths_4 0 0 Z).bind KT := fun Z => by rw [q_Reader_takePaths]; rfl
  simp only [hKT] at e1
  rcases tk_next hS hQ h0 (by omega) (by omega) with ⟨t6, d1, d2, hQ1⟩ | ⟨t6, d1, d2, d3⟩
  case inr =>
    rw [d1] at e1
    rw [d2] at e3
    simp only [Option.bind_some] at e1 e3
    rw [if_pos trivial] at e1
    have := d3.pos
    rw [m_isNf (by omega)] at e3
    simp only [Option.bind_some] at e3
    rw [if_pos trivial, m_namef d3.pos] at e3
    simp only [Option.bind_some] at e3
    rw [m_kinf d3.pos] at e3
    rw [e3] at e2
    exact Or.inr ⟨_, _, e1, e2, d3, (fnC_6 _).wd, (fnR_fl _ _).wd⟩
  rw [d1] at e1
  rw [d2] at e3
  simp only [Option.bind_some] at e1 e3
  rw [if_neg (by omega)] at e1
  have fC1 : fnC C (goC C t) := fnC_go
  have fR1 : fnR R (xup R 439 11 (t + 1)) := fnR_go _
  have hS1 : gST n m w s (goC C t) (xup R 439 11 (t + 1)) := hS.fx fC1.wd fR1.wd
  have hN1 : gN m (t + 1) (goC C t) (xup R 439 11 (t + 1)) := (hN.up (by omega)).fr (fun c j hc => goC_ne (by omega)) (fun c j hc => xup_ne (by omega))
  have hK1 : gNm w s k0 (goC C t) (xup R 439 11 (t + 1)) := l1.fr (fun c j hc => goC_ne (by omega)) (fun c j hc => xup_ne (by omega))
  have z8 : goC C t 51 8 = C 51 8 := goC_ne (by omega)
  have xR1 : ∀ c j, ¬ (c = 439 ∧ j = 11) → xup R 439 11 (t + 1) c j = R c j := fun c j hc => xup_ne hc
  generalize goC C t = C1 at e1 hQ1 hS1 fC1 hN1 hK1 z8
  generalize xup R 439 11 (t + 1) = R1 at e3 hQ1 hS1 fR1 hN1 hK1 xR1
  clear d1 d2
  obtain ⟨⟨x1, x2, x3⟩, ⟨x4, x5⟩, ⟨x6, x7⟩, x8, x9, x10⟩ := id hQ1
  obtain ⟨-, ⟨y1, -⟩, y3, -⟩ := id hS1
  have e4 := q_Reader_takeNewName C1
  simp only [em_cd, y1, isO_law w2, cond_true, hK1.1.1, x4] at e4
  rw [x5] at e3
  by_cases c14 : C1 51 4 = 14
  case neg =>
    rcases tk_name hS1 hQ1 with ⟨z, -⟩ | ⟨C2, R2, d1, d2, d3, d4, d5⟩
    · exact absurd z c14
    · rw [if_pos c14, d1] at e4
      simp only [Option.bind_some] at e4
      rw [if_pos (by simp)] at e4
      rw [e4] at e1
      simp only [Option.bind_some] at e1
      rw [if_pos trivial] at e1
      rw [m_isN0 x7 x5 x1 (by omega) (fun z => c14 ((kd_name hS1 hQ1).mpr z))] at e3
      simp only [Option.bind_some] at e3
      rw [if_pos trivial, d2] at e3
      simp only [Option.bind_some] at e3
      rw [m_kinf d3.pos] at e3
      rw [e3] at e2
      exact Or.inr ⟨C2, R2, e1, e2, d3, (fC1.tr d4).wd, (fR1.tr d5).wd⟩
  rw [if_neg (fun z => z c14)] at e4
  rw [m_isN1 x7 x5 x1 (by omega) ((kd_name hS1 hQ1).mp c14)] at e3
  simp only [Option.bind_some] at e3
  rw [if_neg (by omega), y3, if_pos (by omega), hK1.1.2.1] at e3
  have k00 := hK1.1.2.2
  rw [if_neg (by omega)] at e4
  by_cases c20 : k0 < 20
  case neg =>
    rw [if_neg c20, q_Reader_fail] at e4
    simp only [Option.bind_some] at e4
    rw [if_pos (by simp)] at e4
    rw [e4] at e1
    simp only [Option.bind_some] at e1
    rw [if_pos trivial] at e1
    rw [if_neg (by omega), m_fail0 2 x7 x5 x1 (by omega)] at e3
    have hb := gBd_mk (k := 2) hS1 hQ1 (by omega)
    simp only [Option.bind_some] at e3
    rw [m_namef hb.pos] at e3
    simp only [Option.bind_some] at e3
    rw [m_kinf hb.pos] at e3
    rw [e3] at e2
    exact Or.inr ⟨_, _, e1, e2, hb, (fC1.tr (fnC_6 _)).wd, (fR1.tr (fnR_fl _ _)).wd⟩
  rw [if_pos c20] at e4
  rw [if_pos (by omega)] at e3
  have htm : t + 1 < m := by
    refine Classical.byContradiction (fun z => ?_)
    have := (x9 (by omega)).1
    omega
  obtain ⟨C2, g1, g2, g3, g4⟩ := nw_pair (tok := t + 1) (v := C1 51 5) (G := fun Z => if 0 ≤ k0 ∧ k0 < 20 then (f_Reader_take 14 (xup Z 52 k0 (Z 51 5))).bind fun r1 => if r1.1 = 0 ∨ r1.1 = 1 then some (r1.1, r1.2) else none else none) hS1 x7 hN1 hK1 (kd_nm hS1 hQ1 c14).1.symm x4 x1 htm
  have e5 : f_Reader_takeNewName C1 = (f_Reader_take 14 (xup C2 52 k0 (C2 51 5))).bind fun r1 => if r1.1 = 0 ∨ r1.1 = 1 then some (r1.1, r1.2) else none := by
    rw [e4]
    refine Eq.trans ?_ (g1.trans (if_pos (by omega)))
    rfl
  clear e4 g1
  have fC2 : fnC C1 C2 := fun c j hc => g2 c j (by omega)
  have hC3 : ∀ c j, ¬ ((c = 51 ∧ (j = 8 ∨ j = 9)) ∨ (c = 52 ∧ j = k0)) → xup C2 52 k0 (C2 51 5) c j = C1 c j := fun c j hc => by rw [xup_ne (by omega), g2 c j (by omega)]
  have h3n : xup C2 52 k0 (C2 51 5) 52 k0 = C1 51 5 := by rw [xup_eq, g2 51 5 (by omega)]
  have h38 : xup C2 52 k0 (C2 51 5) 51 8 = C2 51 8 ∧ xup C2 52 k0 (C2 51 5) 51 9 = C2 51 9 := ⟨xup_ne (by omega), xup_ne (by omega)⟩
  generalize xup C2 52 k0 (C2 51 5) = C3 at e5 hC3 h3n h38
  have fX3 : fxC w C1 C3 := fun c j hc => hC3 c j (by omega)
  have hS3 : gST n m w s C3 R1 := hS1.fx fX3 (fxR.rf _ _)
  have hQ3 : gQ n m (t + 1) C3 R1 := hQ1.fr (fun c j hc => hC3 c j (by omega)) (fun _ _ _ => rfl)
  have c143 : C3 51 4 = 14 := by rw [hC3 51 4 (by omega)]; exact c14
  rcases tk_name hS3 hQ3 with ⟨-, t7, d1, d2, hQ4⟩ | ⟨C4, R4, d1, d2, d3, d4, d5⟩
  case inr =>
    rw [d1] at e5
    simp only [Option.bind_some] at e5
    rw [if_pos (by simp)] at e5
    rw [e5] at e1
    simp only [Option.bind_some] at e1
    rw [if_pos trivial] at e1
    rw [d2] at e3
    simp only [Option.bind_some] at e3
    rw [m_kinf d3.pos] at e3
    rw [e3] at e2
    exact Or.inr ⟨C4, R4, e1, e2, d3, fC1.wd.tr (fX3.tr d4.wd), (fR1.tr d5).wd⟩
  rw [d1] at e5
  simp only [Option.bind_some] at e5
  rw [if_pos (by simp)] at e5
  rw [e5] at e1
  simp only [Option.bind_some] at e1
  rw [if_neg (by omega)] at e1
  rw [d2] at e3
  simp only [Option.bind_some] at e3
  clear d1 d2 e5
  have fC4 : fnC C3 (goC C3 (t + 1)) := fnC_go
  have fR4 : fnR R1 (xup R1 439 11 (t + 1 + 1)) := fnR_go _
  have hS4 := hS3.fx fC4.wd (fR4.wd (s := s))
  have xC4 : ∀ c j, ¬ (c = 51 ∧ 3 ≤ j ∧ j ≤ 5) → goC C3 (t + 1) c j = C3 c j := fun c j hc => goC_ne hc
  have xR4 : ∀ c j, ¬ (c = 439 ∧ j = 11) → xup R1 439 11 (t + 1 + 1) c j = R1 c j := fun c j hc => xup_ne hc
  generalize goC C3 (t + 1) = C4 at e1 hQ4 hS4 fC4 xC4
  generalize xup R1 439 11 (t + 1 + 1) = R4 at e3 hQ4 hS4 fR4 xR4
  rcases tk_must (d := 61) (ρ := 4) hS4 hQ4 (kd_sign hS4 hQ4 (by omega)) (by omega) (by omega) with ⟨c61, t8, d1, d2, hQ5⟩ | ⟨C5, R5, d1, d2, d3, d4, d5⟩
  case inr =>
    rw [d1] at e1
    simp only [Option.bind_some] at e1
    rw [if_pos trivial] at e1
    rw [d2] at e3
    simp only [Option.bind_some] at e3
    have := d3.pos
    rw [if_neg (by omega)] at e3
    rw [e3] at e2
    exact Or.inr ⟨C5, R5, e1, e2, d3, fC1.wd.tr (fX3.tr (fC4.tr d4).wd), (fR1.tr (fR4.tr d5)).wd⟩
  rw [d1] at e1
  simp only [Option.bind_some] at e1
  rw [if_neg (by omega)] at e1
  rw [d2] at e3
  simp only [Option.bind_some] at e3
  clear d1 d2
  have fC5 : fnC C4 (goC C4 (t + 1 + 1)) := fnC_go
  have fR5 : fnR R4 (xup R4 439 11 (t + 1 + 1 + 1)) := fnR_go _
  have hS5 := hS4.fx fC5.wd (fR5.wd (s := s))
  have xC5 : ∀ c j, ¬ (c = 51 ∧ 3 ≤ j ∧ j ≤ 5) → goC C4 (t + 1 + 1) c j = C4 c j := fun c j hc => goC_ne hc
  have xR5 : ∀ c j, ¬ (c = 439 ∧ j = 11) → xup R4 439 11 (t + 1 + 1 + 1) c j = R4 c j := fun c j hc => xup_ne hc
  generalize goC C4 (t + 1 + 1) = C5 at e1 hQ5 hS5 fC5 xC5
  generalize xup R4 439 11 (t + 1 + 1 + 1) = R5 at e3 hQ5 hS5 fR5 xR5
  have r12 : R5 439 12 = 0 := hQ5.2.2.1.2
  rw [if_pos (by omega)] at e3
  have xRa : ∀ c j, ¬ (c = 439 ∧ j = 11) → R5 c j = R1 c j := fun c j hc => by rw [xR5 c j hc, xR4 c j hc]
  obtain ⟨R6, p1, p2, p3⟩ := g4 R5 xRa
  rw [p1] at e3
  have g18 : R6 439 18 = s := by rw [p3 439 18 (by omega), xRa 439 18 (by omega)]; exact y3
  have g47 : R6 447 s = k0 := by rw [p3 447 s (by omega), xRa 447 s (by omega)]; exact hK1.1.2.1
  have g26 : R6 439 26 = P := by rw [p3 439 26 (by omega), xRa 439 26 (by omega), xR1 439 26 (by omega)]; exact l2.1.2.2
  have g27 : R6 439 27 = S := by rw [p3 439 27 (by omega), xRa 439 27 (by omega), xR1 439 27 (by omega)]; exact l2.1.2.1
  obtain ⟨-, ⟨b4, b5, b6⟩, -⟩ := l2
  have e6 : f_Model_tellKin_54 (t + 1) k0 R6 = f_Model_tellKin_133 (t + 1) (21 * s + k0) 1 (xup R6 450 (21 * s + k0) P) := by
    rw [q_Model_tellKin_54]
    simp only [em_cd, g18, g47, if_pos (show 0 ≤ s ∧ s < 2 by omega), if_pos (show k0 ≤ k0 by omega), x32_s (show -1000000 ≤ 21 * s by omega) (show 21 * s ≤ 1000000 by omega), x32_s (show -1000000 ≤ 21 * s + k0 by omega) (show 21 * s + k0 ≤ 1000000 by omega), g26]
    rw [if_pos (by omega)]
  have e7 : f_Model_tellPath (xup R6 450 (21 * s + k0) P) = f_Model_tellPath_26 0 1 (xup (xup R6 450 (21 * s + k0) P) 451 (701 * s + P) S) := by
    rw [q_Model_tellPath]
    simp (disch := omega) only [em_cd, xup_ne, g18, g26, g27, x32_s (show -1000000 ≤ 701 * s by omega) (show 701 * s ≤ 1000000 by omega), x32_s (show -1000000 ≤ 701 * s + P by omega) (show 701 * s + P ≤ 1000000 by omega)]
    rw [if_pos (by omega)]
  rw [e6, m_133g (by rw [xup_ne (by omega), p3 439 12 (by omega)]; exact r12), e7] at e3
  have xR7 : ∀ c j, ¬ ((c = 450 ∧ j = 21 * s + k0) ∨ (c = 451 ∧ j = 701 * s + P)) → xup (xup R6 450 (21 * s + k0) P) 451 (701 * s + P) S c j = R6 c j := fun c j hc => by rw [xup_ne (by omega), xup_ne (by omega)]
  have d71 : xup (xup R6 450 (21 * s + k0) P) 451 (701 * s + P) S 450 (21 * s + k0) = P ∧ xup (xup R6 450 (21 * s + k0) P) 451 (701 * s + P) S 451 (701 * s + P) = S := ⟨by rw [xup_ne (by omega), xup_eq], xup_eq _ _ _ _⟩
  generalize xup (xup R6 450 (21 * s + k0) P) 451 (701 * s + P) S = R7 at e3 xR7 d71
  rw [e3] at e2
  have xC : ∀ c j, ¬ ((c = 51 ∧ 3 ≤ j ∧ j ≤ 11 ∧ ¬ j = 7) ∨ (c = 52 ∧ j = k0)) → C5 c j = C c j := fun c j hc => by rw [xC5 c j (by omega), xC4 c j (by omega), hC3 c j (by omega), fC1 c j (by omega)]
  have xR : ∀ c j, ¬ ((c = 439 ∧ 11 ≤ j ∧ j ≤ 15) ∨ (c = 450 ∧ j = 21 * s + k0) ∨ (c = 451 ∧ j = 701 * s + P)) → R7 c j = R c j := fun c j hc => by rw [xR7 c j (by omega), p3 c j (by omega), xRa c j (by omega), xR1 c j (by omega)]
  have h58 : C5 51 8 = C2 51 8 ∧ C5 51 9 = C2 51 9 := ⟨by rw [xC5 51 8 (by omega), xC4 51 8 (by omega), h38.1], by rw [xC5 51 9 (by omega), xC4 51 9 (by omega), h38.2]⟩
  have mono : ¬ C 51 8 = 0 → ¬ C5 51 8 = 0 := fun z => by
    rw [h58.1]
    exact g3 (by rw [z8]; exact z)
  have h445 : R7 445 (t + 1) = C1 51 5 := by
    rw [xR7 _ _ (by omega), p3 _ _ (by omega), xRa _ _ (by omega)]
    exact (kd_nm hS1 hQ1 c14).1.symm
  obtain ⟨hI, hR⟩ := KI.start (C' := C5) (R' := R7) (v1 := t + 1) w2 s2 hL c20 xC (by rw [h445, xC5 52 k0 (by omega), xC4 52 k0 (by omega)]; exact h3n) xR d71.1 d71.2 mono
  have fxA : fxC w C C5 := fun c j hc => xC c j (by omega)
  have fxB : fxR s R R7 := fun c j hc => xR c j (fun z => hc (by
    unfold gRx
    rcases z with z | z | z
    · exact Or.inl ⟨z.1, Or.inl z.2⟩
    · exact Or.inr (Or.inr (Or.inr (Or.inl ⟨z.1, by omega, by omega⟩)))
    · exact Or.inr (Or.inr (Or.inr (Or.inr (Or.inl ⟨z.1, by omega, by omega⟩))))))
  have hS7 : gST n m w s C5 R7 := hS.fx fxA fxB
  have hQ7 : gQ n m (t + 1 + 1 + 1) C5 R7 := hQ5.fr (fun _ _ _ => rfl) (fun c j hc => by rw [xR7 c j (by omega), p3 c j (by omega)])
  have hN7 : gN m (t + 1 + 1 + 1) C5 R7 := (p2.up (by omega)).fr (fun c j hc => by
    rcases hc with ⟨rfl, rfl | rfl⟩ | rfl
    · exact h58.1
    · exact h58.2
    · rw [xC5 _ _ (by omega), xC4 _ _ (by omega), hC3 _ _ (by omega), g2 _ _ (by omega)]) (fun c j hc => xR7 c j (by omega))
  rcases kin_loop (n := n) (m := m) (r0 := r0) (v1 := t + 1) 601 (t + 1 + 1 + 1) S P S 0 0 C5 R7 _ _ (by omega) hS7 hQ7 hN7 hI hR (by omega) (by omega) (by omega) (by omega) (by omega) (by omega) (by omega) e1 e2 with ⟨C', R', t', S', P', a1, a2, a3, ⟨a4, a5, a6⟩, a7, a8⟩ | ⟨C', R', a1, a2, a3, a4, a5⟩
  · exact Or.inl ⟨C', R', t', k0 + 1, S', P', r0, a1, a2, by omega, ⟨a4, a5, a6⟩, fxA.tr a7, fxB.tr a8⟩
  · exact Or.inr ⟨C', R', a1, a2, a3, fxA.tr a4, fxB.tr a5⟩
end
