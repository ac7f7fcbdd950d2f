/-! read: kin, one step. -/
section
variable {C R M : em_M} {n m t w s k0 S0 P0 S P b r0 v1 : Int}
theorem m_p287 (h18 : R 439 18 = s) (s2 : s = 0 ∨ s = 1) (hP : R 439 26 = P) (p0 : 0 ≤ P) (p1 : P ≤ 600) : f_Model_tellPath_287 R = some (0, xup (xup R 439 26 (P + 1)) 451 (701 * s + (P + 1)) (R 439 27)) := by
  rw [q_Model_tellPath_287]
  simp (disch := omega) only [em_cd, xup_ne, xup_eq, h18, hP, x32_s]
  rw [if_pos (by omega)]
theorem m_p26e {v v2 : Int} (h : v2 = 0 ∨ ¬ R 439 12 = 0) : f_Model_tellPath_26 v v2 R = f_Model_tellPath_287 R := by
  rw [q_Model_tellPath_26]
  simp only [em_cd]
  by_cases c : v2 = 0
  · rw [if_pos c]
  · rw [if_neg c, if_pos (h.resolve_left c)]
/-- what the reference still does of a path once it has failed -/
theorem m_p256f {v : Int} (hf : 0 < R 439 12) (h18 : R 439 18 = s) (s2 : s = 0 ∨ s = 1) (hP : R 439 26 = P) (p0 : 0 ≤ P) (p1 : P ≤ 600) (hS : R 439 27 = S) (S0' : 0 ≤ S) (S1 : S ≤ 600) (v0 : 0 ≤ v) (v1' : v ≤ 8) : ∃ R', f_Model_tellPath_256 v R = some (0, R') ∧ kiR s P S R R' ∧ R' 439 12 = R 439 12 ∧ R' 439 13 = R 439 13 := by
  have e := q_Model_tellPath_256 v R
  rw [hS, x32_s (x := S + 1) (by omega) (by omega), x32_s (x := v + 1) (by omega) (by omega)] at e
  rw [m_isf 6 (by rw [xup_ne (by omega)]; omega)] at e
  simp only [Option.bind_some, em_cd] at e
  rw [if_pos trivial, m_p26e (Or.inl rfl), m_p287 (s := s) (P := P) (by rw [xup_ne (by omega)]; exact h18) s2 (by rw [xup_ne (by omega)]; exact hP) p0 p1] at e
  refine ⟨_, e, fun c j hc => ?_, ?_, ?_⟩
  · rw [xup_ne (by omega), xup_ne (by omega), xup_ne (by omega)]
  · rw [xup_ne (by omega), xup_ne (by omega), xup_ne (by omega)]
  · rw [xup_ne (by omega), xup_ne (by omega), xup_ne (by omega)]
theorem m_p198f {v v4 v6 : Int} (hf : 0 < R 439 12) (h18 : R 439 18 = s) (s2 : s = 0 ∨ s = 1) (hP : R 439 26 = P) (p0 : 0 ≤ P) (p1 : P ≤ 600) (hS : R 439 27 = S) (S0' : 0 ≤ S) (S1 : S ≤ 600) (v0 : 0 ≤ v) (v1' : v ≤ 8) (h4 : v4 = 700 * s + S) : ∃ R', f_Model_tellPath_198 v v4 v6 R = some (0, R') ∧ kiR s P S R R' ∧ R' 439 12 = R 439 12 ∧ R' 439 13 = R 439 13 := by
  have e := q_Model_tellPath_198 v v4 v6 R
  simp only [em_cd, if_pos (show 0 ≤ v4 ∧ v4 < 1400 by omega)] at e
  rw [m_isf 34 (by rw [xup_ne (by omega)]; omega)] at e
  simp only [Option.bind_some] at e
  rw [if_pos trivial, m_isf 35 (by rw [xup_ne (by omega)]; omega)] at e
  simp only [Option.bind_some] at e
  rw [if_pos trivial, xup_eq, if_pos rfl] at e
  obtain ⟨R', k1, k2, k3, k4⟩ := m_p256f (R := xup (xup R 452 v4 v6) 453 v4 (-1)) (s := s) (P := P) (S := S) (v := v) (by rw [xup_ne (by omega), xup_ne (by omega)]; exact hf) (by rw [xup_ne (by omega), xup_ne (by omega)]; exact h18) s2 (by rw [xup_ne (by omega), xup_ne (by omega)]; exact hP) p0 p1 (by rw [xup_ne (by omega), xup_ne (by omega)]; exact hS) S0' S1 v0 v1'
  refine ⟨R', e.trans k1, fun c j hc => ?_, ?_, ?_⟩
  · rw [k2 c j hc, xup_ne (by omega), xup_ne (by omega)]
  · rw [k3, xup_ne (by omega), xup_ne (by omega)]
  · rw [k4, xup_ne (by omega), xup_ne (by omega)]
/-- the outcome of a step: X how the reference goes on -/
def StO (n m w s t k0 S0 P0 S P b v : Int) (C R : em_M) (T U : Option (Int × em_M)) : Prop := (∃ C' R' t', T = some (1, C') ∧ U = ((f_Model_is 6 R').bind fun r0 => if r0.1 = 0 then f_Model_tellPath_26 (v + 1) r0.1 r0.2 else (f_Model_next r0.2).bind fun r1 => f_Model_tellPath_26 (v + 1) r0.1 r1.2) ∧ (v < 8 ∧ t ≤ t') ∧ S + 1 ≤ t' ∧ (gQ n m t' C' R' ∧ gN m t' C' R' ∧ KI w s k0 S0 P0 (S + 1) P b C' R') ∧ (¬ C 51 8 = 0 → ¬ C' 51 8 = 0) ∧ kiC w S C C' ∧ kiR s P S R R') ∨ (∃ C' R', T = some (0, C') ∧ U = some (0, R') ∧ gBd n m C' R' ∧ kiC w S C C' ∧ kiR s P S R R')
theorem step_add {row sx v : Int} {T U : Option (Int × em_M)} (hS : gST n m w s C R) (hQ : gQ n m t C R) (hN : gN m t C R) (hI : KI w s k0 S0 P0 S P b C R) (hv : v = S - b) (v8 : v < 8) (St : S + 1 ≤ t) (S6 : S < 600) (h452 : C 51 8 = 0 → (R 452 (700 * s + S) = row ∧ 0 ≤ row ∧ row < 4 + k0) ∧ (R 453 (700 * s + S) = sx ∧ -1 ≤ sx ∧ sx ≤ 1)) (eT : T = f_Reader_takeStep_135 v row sx C) (eU : U = f_Model_tellPath_256 v R) : StO n m w s t k0 S0 P0 S P b v C R T U := by
  obtain ⟨-, ⟨w1, w2⟩, s1, s2⟩ := id hS
  have hw53 : 53 ≤ w := by omega
  obtain ⟨⟨⟨a1, a2, a3⟩, ⟨a4, a5, a6⟩, a7, a8, a9⟩, -⟩ := id hI
  have hC : ∀ o, (o = 0 ∨ o = 1) → ∃ C', f_Law_addStep w row sx o C = some (0, C') ∧ (C' (w + 2) S = row ∧ C' (w + 3) S = sx ∧ C' (w + 4) S = o ∧ C' w 1 = S + 1) ∧ ∀ c j, ¬ ((w + 2 ≤ c ∧ c ≤ w + 4 ∧ j = S) ∨ (c = w ∧ j = 1)) → C' c j = C c j := fun o ho => f_addStep w2 a1 (by omega) S6 ho
  rw [q_Reader_takeStep_135] at eT
  simp only [em_cd, w1, isO_law w2, Bool.and_self, cond_true] at eT
  have main : ∃ o C', ((b = S ∧ o = 1) ∨ (b < S ∧ o = 0)) ∧ T = some (1, C') ∧ (C' (w + 2) S = row ∧ C' (w + 3) S = sx ∧ C' (w + 4) S = o ∧ C' w 1 = S + 1) ∧ ∀ c j, ¬ ((w + 2 ≤ c ∧ c ≤ w + 4 ∧ j = S) ∨ (c = w ∧ j = 1)) → C' c j = C c j := by
    by_cases c : v = 0
    · rw [if_neg (fun z => z c)] at eT
      obtain ⟨C', x1, x2, x3⟩ := hC 1 (Or.inr rfl)
      rw [x1] at eT
      simp only [Option.bind_some] at eT
      exact ⟨1, C', Or.inl ⟨by omega, rfl⟩, eT, x2, x3⟩
    · rw [if_pos c] at eT
      obtain ⟨C', x1, x2, x3⟩ := hC 0 (Or.inl rfl)
      rw [x1] at eT
      simp only [Option.bind_some] at eT
      exact ⟨0, C', Or.inr ⟨by omega, rfl⟩, eT, x2, x3⟩
  obtain ⟨o, C', ho, y1, y2, y3⟩ := main
  rw [q_Model_tellPath_256, a2, x32_s (x := S + 1) (by omega) (by omega), x32_s (x := v + 1) (by omega) (by omega)] at eU
  simp only [em_cd] at eU
  have f1 : ∀ c j, ¬ (c = 439 ∧ j = 27) → xup R 439 27 (S + 1) c j = R c j := fun c j hc => xup_ne hc
  have v27 : xup R 439 27 (S + 1) 439 27 = S + 1 := xup_eq _ _ _ _
  generalize xup R 439 27 (S + 1) = R' at eU f1 v27
  refine Or.inl ⟨C', R', t, y1, eU, ⟨v8, Int.le_refl _⟩, St, ⟨hQ.fr (fun c j hc => y3 c j (by omega)) (fun c j hc => f1 c j (by omega)), hN.fr (fun c j hc => y3 c j (by omega)) (fun c j hc => f1 c j (by omega)), hI.step hw53 y3 y2 (fun c j hc => f1 c j (by omega)) v27 ho (fun z => by rw [f1 452 _ (by omega), f1 453 _ (by omega)]; exact h452 z)⟩, fun z => by rw [y3 51 8 (by omega)]; exact z, fun c j hc => y3 c j (by omega), fun c j hc => f1 c j (by omega)⟩
/-- the end of a step: its sex -/
theorem step_tail {row wh v : Int} {T U : Option (Int × em_M)} (hS : gST n m w s C R) (hQ : gQ n m t C R) (hN : gN m t C R) (hI : KI w s k0 S0 P0 S P b C R) (hv : v = S - b) (v8 : v < 8) (St : S + 1 ≤ t) (S6 : S < 600) (hrow : C 51 8 = 0 → wh = row ∧ 0 ≤ row ∧ row < 4 + k0) (eT : T = if ¬ C 51 4 = 14 then f_Reader_takeStep_135 v row (-1) C else if x_cmp (C 51 5) 13 = 0 then f_Reader_takeStep_107 v row C else if ¬ x_cmp (C 51 5) 6 = 0 then f_Reader_takeStep_135 v row (-1) C else f_Reader_takeStep_107 v row C) (eU : U = f_Model_tellPath_198 v (700 * s + S) wh R) : StO n m w s t k0 S0 P0 S P b v C R T U := by
  obtain ⟨-, ⟨w1, w2⟩, s1, s2⟩ := id hS
  have hw53 : 53 ≤ w := by omega
  obtain ⟨⟨⟨a1, a2, a3⟩, ⟨a4, a5, a6⟩, a7, a8, a9⟩, -⟩ := id hI
  obtain ⟨⟨q1, q2, q3⟩, ⟨q4, q5⟩, ⟨q6, q7⟩, q8, q9, q10⟩ := id hQ
  have hkn := kd_name hS hQ
  have hix : 0 ≤ 700 * s + S ∧ 700 * s + S < 1400 := by omega
  rw [q_Model_tellPath_198] at eU
  simp only [em_cd, if_pos hix, xup_eq] at eU
  simp only [x_cmp_eq] at eT
  -- the state with what and sex written
  have st : ∀ sx, gST n m w s C (xup (xup R 452 (700 * s + S) wh) 453 (700 * s + S) sx) ∧ gQ n m t C (xup (xup R 452 (700 * s + S) wh) 453 (700 * s + S) sx) ∧ gN m t C (xup (xup R 452 (700 * s + S) wh) 453 (700 * s + S) sx) ∧ KI w s k0 S0 P0 S P b C (xup (xup R 452 (700 * s + S) wh) 453 (700 * s + S) sx) ∧ kiR s P S R (xup (xup R 452 (700 * s + S) wh) 453 (700 * s + S) sx) ∧ (xup (xup R 452 (700 * s + S) wh) 453 (700 * s + S) sx 452 (700 * s + S) = wh ∧ xup (xup R 452 (700 * s + S) wh) 453 (700 * s + S) sx 453 (700 * s + S) = sx) := fun sx => by
    have f1 : ∀ c j, ¬ (452 ≤ c ∧ c ≤ 453 ∧ j = 700 * s + S) → xup (xup R 452 (700 * s + S) wh) 453 (700 * s + S) sx c j = R c j := fun c j hc => by rw [xup_ne (by omega), xup_ne (by omega)]
    have f2 : xup (xup R 452 (700 * s + S) wh) 453 (700 * s + S) sx 452 (700 * s + S) = wh ∧ xup (xup R 452 (700 * s + S) wh) 453 (700 * s + S) sx 453 (700 * s + S) = sx := ⟨by rw [xup_ne (by omega), xup_eq], xup_eq _ _ _ _⟩
    generalize xup (xup R 452 (700 * s + S) wh) 453 (700 * s + S) sx = Y at f1 f2
    have kR : kiR s P S R Y := fun c j hc => f1 c j (by omega)
    refine ⟨hS.fx (fxC.rf _ _) (kR.fx (by omega) (by omega)), hQ.fr (fun _ _ _ => rfl) (fun c j hc => f1 c j (by omega)), hN.fr (fun _ _ _ => rfl) (fun c j hc => f1 c j (by omega)), ?_, kR, f2⟩
    obtain ⟨x1, ⟨x2, x3⟩, x4, x5, x6, x7⟩ := hI
    exact ⟨⟨⟨x1.1.1, by rw [f1 _ _ (by omega)]; exact x1.1.2.1, by rw [f1 _ _ (by omega)]; exact x1.1.2.2⟩, x1.2⟩, ⟨by rw [f1 _ _ (by omega)]; exact x2, by rw [f1 _ _ (by omega)]; exact x3⟩, fun p p0 p1 => by rw [f1 451 _ (by omega), f1 451 _ (by omega)]; exact x4 p p0 p1, x5, x6, fun z j j0 j1 => by rw [f1 452 _ (by omega), f1 453 _ (by omega)]; exact x7 z j j0 j1⟩
  have r12 : xup R 452 (700 * s + S) wh 439 12 = 0 := by rw [xup_ne (by omega)]; exact q7
  have r11 : xup R 452 (700 * s + S) wh 439 11 = t := by rw [xup_ne (by omega)]; exact q5
  have r442 : xup R 452 (700 * s + S) wh 442 t = R 442 t := xup_ne (by omega)
  have none' : (T = f_Reader_takeStep_135 v row (-1) C) → ¬ R 442 t = 34 → ¬ R 442 t = 35 → StO n m w s t k0 S0 P0 S P b v C R T U := fun z1 z2 z3 => by
    rw [m_is0 r12 r11 q1 (by omega) (by rw [r442]; exact z2)] at eU
    simp only [Option.bind_some] at eU
    rw [if_pos trivial, m_is0 r12 r11 q1 (by omega) (by rw [r442]; exact z3)] at eU
    simp only [Option.bind_some] at eU
    rw [if_pos trivial, if_pos trivial] at eU
    obtain ⟨y1, y2, y3, y4, y5, y6, y7⟩ := st (-1)
    rcases step_add (row := row) (sx := -1) y1 y2 y3 y4 hv v8 St S6 (fun z => ⟨⟨by rw [y6]; exact (hrow z).1, (hrow z).2⟩, y7, by omega, by omega⟩) z1 eU with ⟨C', R', t', x1, x2, x3, x4, x5, x6, x7, x8⟩ | ⟨C', R', x1, x2, x3, x4, x5⟩
    · exact Or.inl ⟨C', R', t', x1, x2, x3, x4, x5, x6, x7, y5.tr x8⟩
    · exact Or.inr ⟨C', R', x1, x2, x3, x4, y5.tr x5⟩
  have some' : ∀ sx, (sx = 0 ∨ sx = 1) → C 51 4 = 14 → (T = (f_Reader_take 14 C).bind fun r0 => if ¬ r0.1 = 0 then f_Reader_takeStep_135 v row sx r0.2 else some (0, r0.2)) → (U = (f_Model_next (xup (xup R 452 (700 * s + S) wh) 453 (700 * s + S) sx)).bind fun r1 => f_Model_tellPath_256 v r1.2) → StO n m w s t k0 S0 P0 S P b v C R T U := fun sx hsx z0 z1 z2 => by
    obtain ⟨y1, y2, y3, y4, y5, y6, y7⟩ := st sx
    generalize xup (xup R 452 (700 * s + S) wh) 453 (700 * s + S) sx = Y at z2 y1 y2 y3 y4 y5 y6 y7
    rcases tk_next y1 y2 z0 (by omega) (by omega) with ⟨t6, d1, d2, hQ1⟩ | ⟨t6, d1, d2, d3⟩
    · rw [d1] at z1
      rw [d2] at z2
      simp only [Option.bind_some] at z1 z2
      rw [if_pos (by omega)] at z1
      have fC1 : fnC C (goC C t) := fnC_go
      have fR1 : fnR Y (xup Y 439 11 (t + 1)) := fnR_go _
      have m8 : goC C t 51 8 = C 51 8 := goC_ne (by omega)
      rcases step_add (row := row) (sx := sx) (y1.fx fC1.wd fR1.wd) hQ1 ((y3.up (by omega)).fr (fun c j hc => goC_ne (by omega)) (fun c j hc => xup_ne (by omega))) (y4.fn hw53 fC1 fR1 (fun z => by rw [m8]; exact z)) hv v8 (by omega) S6 (fun z => by rw [m8] at z; rw [fR1 452 _ (by omega), fR1 453 _ (by omega)]; exact ⟨⟨by rw [y6]; exact (hrow z).1, (hrow z).2⟩, y7, by omega, by omega⟩) z1 z2 with ⟨C', R', t', x1, x2, x3, x4, x5, x6, x7, x8⟩ | ⟨C', R', x1, x2, x3, x4, x5⟩
      · exact Or.inl ⟨C', R', t', x1, x2, by omega, x4, x5, fun z => x6 (by rw [m8]; exact z), fC1.kiC.tr x7, y5.tr (fR1.kiR.tr x8)⟩
      · exact Or.inr ⟨C', R', x1, x2, x3, fC1.kiC.tr x4, y5.tr (fR1.kiR.tr x5)⟩
    · rw [d1] at z1
      rw [d2] at z2
      simp only [Option.bind_some] at z1 z2
      rw [if_neg (fun z => z trivial)] at z1
      obtain ⟨⟨⟨b1, b2', b3⟩, -⟩, -⟩ := y4
      obtain ⟨R', k1, k2, k3, k4⟩ := m_p256f (R := fuM Y 2 t) (s := s) (P := P) (S := S) (v := v) d3.pos (by rw [fuM_ne (by omega)]; exact y1.2.2.1) s2 (by rw [fuM_ne (by omega)]; exact b3) (by omega) (by omega) (by rw [fuM_ne (by omega)]; exact b2') (by omega) (by omega) (by omega) (by omega)
      exact Or.inr ⟨_, R', z1, z2.trans k1, d3.fr (fun _ _ _ => rfl) ⟨k3, k4⟩, (fnC_6 _).kiC, y5.tr ((fnR_fl _ _).kiR.tr k2)⟩
  by_cases c : C 51 4 = 14
  case neg =>
    rw [if_pos c] at eT
    have hk : ¬ (R 442 t = 1 ∨ R 442 t = 34 ∨ R 442 t = 35) := fun z => c (hkn.mpr z)
    exact none' eT (by omega) (by omega)
  obtain ⟨e1, e2, e3⟩ := kd_nm hS hQ c
  rw [if_neg (fun z => z c)] at eT
  by_cases c13 : C 51 5 = 13
  · rw [if_pos c13, q_Reader_takeStep_107] at eT
    simp only [em_cd, x_cmp_eq] at eT
    rw [if_neg (fun z => z c13)] at eT
    rw [m_is1 r12 r11 q1 (by omega) (by rw [r442]; exact e2.mpr c13)] at eU
    simp only [Option.bind_some] at eU
    rw [if_neg (by omega), if_neg (by omega)] at eU
    exact some' 0 (Or.inl rfl) c eT eU
  · rw [if_neg c13] at eT
    rw [m_is0 r12 r11 q1 (by omega) (by rw [r442]; exact fun z => c13 (e2.mp z))] at eU
    simp only [Option.bind_some] at eU
    rw [if_pos trivial] at eU
    by_cases c6 : C 51 5 = 6
    · rw [if_neg (fun z => z c6), q_Reader_takeStep_107] at eT
      simp only [em_cd, x_cmp_eq] at eT
      rw [if_pos c13] at eT
      rw [m_is1 r12 r11 q1 (by omega) (by rw [r442]; exact e3.mpr c6)] at eU
      simp only [Option.bind_some] at eU
      rw [if_neg (by omega), if_neg (by omega)] at eU
      exact some' 1 (Or.inr rfl) c eT eU
    · rw [if_pos c6] at eT
      exact none' eT (fun z => c13 (e2.mp z)) (fun z => c6 (e3.mp z))
end
