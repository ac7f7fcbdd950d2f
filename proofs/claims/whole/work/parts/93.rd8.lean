/-! read: a part. -/
section
variable {C R M : em_M} {n m t w s u k0 : Int}
theorem part_pair (hS : gST n m w s C R) (hQ : gQ n m t C R) (hN : gN m t C R) : (∃ a b C' R', f_Reader_takePart C = some (1, C') ∧ f_Model_part R = some (0, R') ∧ (C' 51 11 = fr_of a b ∧ R' 439 42 = a ∧ R' 439 43 = b) ∧ ((0 ≤ a ∧ a ≤ 999) ∧ 0 ≤ b ∧ b ≤ 999) ∧ (C' 51 8 = 0 → 1 ≤ b ∧ a ≤ b) ∧ gQ n m (t + 3) C' R' ∧ gN m (t + 3) C' R' ∧ (¬ C 51 8 = 0 → ¬ C' 51 8 = 0) ∧ (fnC C C' ∧ C' 51 10 = C 51 10) ∧ fnR R R') ∨ (∃ C' R', f_Reader_takePart C = some (0, C') ∧ f_Model_part R = some (0, R') ∧ gBd n m C' R' ∧ fnC C C' ∧ fnR R R') := by
  obtain ⟨⟨q1, q2, q3⟩, ⟨q4, q5⟩, ⟨q6, q7⟩, q8, q9, q10⟩ := id hQ
  have e1 := q_Reader_takePart C
  have e2 := q_Model_part R
  simp only [em_cd] at e1 e2
  rcases tk_must (d := 15) (ρ := 2) hS hQ (kd_int hS hQ) (by omega) (by omega) with ⟨c15, t6, d1, d2, hQ1⟩ | ⟨C1, R1, d1, d2, d3, d4, d5⟩
  case inr =>
    rw [d1] at e1
    rw [d2] at e2
    simp only [Option.bind_some] at e1 e2
    rw [if_pos trivial] at e1
    rw [m_mustf 9 d3.pos] at e2
    simp only [Option.bind_some] at e2
    rw [m_mustf 2 d3.pos] at e2
    simp only [Option.bind_some] at e2
    have := d3.pos
    rw [if_neg (by omega)] at e2
    exact Or.inr ⟨C1, R1, e1, e2, d3, d4, d5⟩
  rw [d1] at e1
  rw [d2] at e2
  simp only [Option.bind_some] at e1 e2
  rw [if_neg (by omega)] at e1
  obtain ⟨ha, a0, a1⟩ := kd_iv hS hQ c15
  have fC1 : fnC C (goC C t) := fnC_go
  have fR1 : fnR R (xup R 439 11 (t + 1)) := fnR_go _
  have hS1 : gST n m w s (goC C t) (xup R 439 11 (t + 1)) := hS.fx fC1.wd fR1.wd
  have vR1 : xup R 439 11 (t + 1) 439 11 = t + 1 := xup_eq _ _ _ _
  have z8 : goC C t 51 8 = C 51 8 ∧ goC C t 51 9 = C 51 9 ∧ goC C t 51 10 = C 51 10 := ⟨goC_ne (by omega), goC_ne (by omega), goC_ne (by omega)⟩
  have y14 : xup R 439 11 (t + 1) 439 14 = R 439 14 ∧ xup R 439 11 (t + 1) 439 15 = R 439 15 := ⟨xup_ne (by omega), xup_ne (by omega)⟩
  have hN1 : gN m t (goC C t) (xup R 439 11 (t + 1)) := hN.fr (fun c j hc => goC_ne (by omega)) (fun c j hc => xup_ne (by omega))
  generalize goC C t = C1 at e1 e2 hQ1 hS1 fC1 z8 hN1
  generalize xup R 439 11 (t + 1) = R1 at e1 e2 hQ1 hS1 fR1 vR1 y14 hN1
  rcases tk_must (d := 47) (ρ := 9) hS1 hQ1 (kd_sign hS1 hQ1 (by omega)) (by omega) (by omega) with ⟨c47, t7, d1, d2, hQ2⟩ | ⟨C2, R2, d1, d2, d3, d4, d5⟩
  case inr =>
    rw [d1] at e1
    rw [d2] at e2
    simp only [Option.bind_some] at e1 e2
    rw [if_neg (fun z => z trivial)] at e1
    rw [m_mustf 2 d3.pos] at e2
    simp only [Option.bind_some] at e2
    have := d3.pos
    rw [if_neg (by omega)] at e2
    exact Or.inr ⟨C2, R2, e1, e2, d3, fC1.tr d4, fR1.tr d5⟩
  rw [d1] at e1
  rw [d2] at e2
  simp only [Option.bind_some] at e1 e2
  rw [if_pos (by omega)] at e1
  have fC2 : fnC C (goC C1 (t + 1)) := fC1.tr fnC_go
  have fR2 : fnR R (xup R1 439 11 (t + 1 + 1)) := fR1.tr (fnR_go _)
  have hS2 : gST n m w s (goC C1 (t + 1)) (xup R1 439 11 (t + 1 + 1)) := hS.fx fC2.wd fR2.wd
  have z82 : goC C1 (t + 1) 51 8 = C 51 8 ∧ goC C1 (t + 1) 51 9 = C 51 9 ∧ goC C1 (t + 1) 51 10 = C 51 10 := ⟨by rw [goC_ne (by omega)]; exact z8.1, by rw [goC_ne (by omega)]; exact z8.2.1, by rw [goC_ne (by omega)]; exact z8.2.2⟩
  have hN2 : gN m t (goC C1 (t + 1)) (xup R1 439 11 (t + 1 + 1)) := hN1.fr (fun c j hc => goC_ne (by omega)) (fun c j hc => xup_ne (by omega))
  rw [show t + 1 + 1 = t + 2 by omega] at hQ2 hS2 fR2 hN2 e2
  generalize goC C1 (t + 1) = C2 at e1 hQ2 hS2 fC2 z82 hN2
  generalize xup R1 439 11 (t + 2) = R2 at e2 hQ2 hS2 fR2 hN2
  obtain ⟨⟨p1, p2, p3⟩, ⟨p4, p5⟩, ⟨p6, p7⟩, p8, p9, p10⟩ := id hQ2
  have hb := (gk hS2 hQ2).2
  have hR4 : ∀ R4, R4 = xup (xup (xup R2 439 11 (t + 3)) 439 42 (R 444 t)) 439 43 (R2 444 (t + 2)) → fnR R2 R4 := fun R4 h => by
    subst h
    exact fun c j hc => by rw [xup_ne (by omega), xup_ne (by omega), xup_ne (by omega)]
  obtain ⟨R4, hR4'⟩ : ∃ R4, R4 = xup (xup (xup R2 439 11 (t + 3)) 439 42 (R 444 t)) 439 43 (R2 444 (t + 2)) := ⟨_, rfl⟩
  have f4 := hR4 R4 hR4'
  have v4 : R4 439 11 = t + 3 ∧ R4 439 42 = R 444 t ∧ R4 439 43 = R2 444 (t + 2) ∧ R4 439 12 = R2 439 12 ∧ R4 439 14 = R2 439 14 ∧ R4 439 15 = R2 439 15 := by
    subst hR4'
    simp (disch := omega) only [xup_ne, xup_eq, and_self]
  -- the class up to the last INT
  have cls : ∃ CC, f_Reader_takePart C = ((f_Reader_take 15 (xup CC 51 11 (fr_of (C 51 5) (C2 51 5)))).bind fun r3 => if r3.1 = 0 ∨ r3.1 = 1 then some (r3.1, r3.2) else none) ∧ (∀ c j, ¬ (c = 51 ∧ (j = 8 ∨ j = 9)) → CC c j = C2 c j) ∧ (¬ C2 51 8 = 0 → ¬ CC 51 8 = 0) ∧ (C2 51 4 = 15 → ((1 ≤ C2 51 5 ∧ C 51 5 ≤ C2 51 5) ∧ CC = C2) ∨ (¬ (1 ≤ C2 51 5 ∧ C 51 5 ≤ C2 51 5) ∧ ∃ R', f_Model_wrong 5 (t + 2) R4 = some (0, R') ∧ gN m (t + 3) CC R' ∧ ¬ CC 51 8 = 0 ∧ ∀ c j, ¬ (c = 439 ∧ (j = 14 ∨ j = 15)) → R' c j = R4 c j)) := by
    by_cases k15 : C2 51 4 = 15
    · have tm : t + 2 < m := by
        refine Classical.byContradiction (fun z => ?_)
        have := (p9 (by omega)).1
        omega
      have hS4 : gST n m w s C2 R4 := hS2.fx (fxC.rf _ _) f4.wd
      have hN4 : gN m t C2 R4 := hN2.fr (fun _ _ _ => rfl) (fun c j hc => by rcases hc with ⟨rfl, rfl | rfl⟩; exact v4.2.2.2.2.1; exact v4.2.2.2.2.2)
      have np := nt_pair (k := 5) (tok := t + 2) hS4 (by rw [v4.2.2.2.1]; exact p7) hN4 (by omega) (by omega) tm (by omega) (by omega) (by
        rcases hN4 with ⟨a, b⟩ | ⟨a, b, ⟨c1, c2, c3⟩, d⟩
        · exact Or.inl a
        · exact Or.inr (Or.inl (by omega)))
      have nz := q_Reader_takePart_52 (C 51 5) C2
      obtain ⟨CC, R', n1, n2, n3, n4, n5, n6⟩ := np
      rw [p4, n1] at nz
      simp only [Option.bind_some] at nz
      rw [n5 51 5 (by omega), f_of_eq _ (by omega) (by omega) (by omega)] at nz
      simp only [Option.bind_some, em_cd] at nz
      rw [if_neg (fun z => z k15)] at e1
      simp only [x_cmp_eq, x_cmp_ge] at e1
      rw [show t + 2 + 1 = t + 3 by omega] at n3
      by_cases c0 : C2 51 5 = 0
      · rw [if_pos c0] at e1
        exact ⟨CC, e1.trans nz, n5, fun _ => n4, fun _ => Or.inr ⟨by omega, R', n2, n3, n4, n6⟩⟩
      · rw [if_neg c0] at e1
        by_cases c1 : C 51 5 ≤ C2 51 5
        · rw [if_pos c1, f_of_eq _ (by omega) (by omega) (by omega)] at e1
          simp only [Option.bind_some] at e1
          exact ⟨C2, e1, fun _ _ _ => rfl, id, fun _ => Or.inl ⟨⟨by omega, c1⟩, rfl⟩⟩
        · rw [if_neg c1] at e1
          exact ⟨CC, e1.trans nz, n5, fun _ => n4, fun _ => Or.inr ⟨by omega, R', n2, n3, n4, n6⟩⟩
    · rw [if_pos k15, f_of_eq _ (by omega) (by omega) (by omega)] at e1
      simp only [Option.bind_some] at e1
      exact ⟨C2, e1, fun _ _ _ => rfl, id, fun z => absurd z k15⟩
  obtain ⟨CC, g1, g2, g3, g4⟩ := cls
  have fX : ∀ c j, ¬ (c = 51 ∧ (j = 8 ∨ j = 9 ∨ j = 11)) → (xup CC 51 11 (fr_of (C 51 5) (C2 51 5))) c j = C2 c j := fun c j hc => by rw [xup_ne (by omega), g2 c j (by omega)]
  have vX : (xup CC 51 11 (fr_of (C 51 5) (C2 51 5))) 51 11 = fr_of (C 51 5) (C2 51 5) ∧ (xup CC 51 11 (fr_of (C 51 5) (C2 51 5))) 51 8 = CC 51 8 ∧ (xup CC 51 11 (fr_of (C 51 5) (C2 51 5))) 51 9 = CC 51 9 := by simp (disch := omega) only [xup_ne, xup_eq, and_self]
  have hcc : ∀ c j, c = 4 → (xup CC 51 11 (fr_of (C 51 5) (C2 51 5))) c j = CC c j := fun c j hc => xup_ne (by omega)
  generalize xup CC 51 11 (fr_of (C 51 5) (C2 51 5)) = X at g1 fX vX hcc
  have fnX : fnC C2 X := fun c j hc => fX c j (by omega)
  have hSX : gST n m w s X R2 := hS2.fx fnX.wd (fxR.rf _ _)
  have hQX : gQ n m (t + 2) X R2 := hQ2.fr (fun c j hc => fX c j (by omega)) (fun _ _ _ => rfl)
  rcases tk_must (d := 15) (ρ := 2) hSX hQX (kd_int hSX hQX) (by omega) (by omega) with ⟨k15, t8, d1, d2, hQ3⟩ | ⟨C3, R3, d1, d2, d3, d4, d5⟩
  case inr =>
    rw [d1] at g1
    rw [d2] at e2
    simp only [Option.bind_some] at g1 e2
    rw [if_pos (by simp)] at g1
    have := d3.pos
    rw [if_neg (by omega)] at e2
    exact Or.inr ⟨C3, R3, g1, e2, d3, fC2.tr (fnX.tr d4), fR2.tr d5⟩
  rw [d1] at g1
  rw [d2] at e2
  simp only [Option.bind_some] at g1 e2
  rw [if_pos (by simp)] at g1
  rw [show t + 2 + 1 = t + 3 by omega] at e2 hQ3
  have r12 : xup R2 439 11 (t + 3) 439 12 = 0 := by rw [xup_ne (by omega)]; exact p7
  have k15' : C2 51 4 = 15 := by rw [← fX 51 4 (by omega)]; exact k15
  obtain ⟨hb2, b0, b1⟩ := kd_iv hS2 hQ2 k15'
  have r444 : R2 444 t = R 444 t := fR2 444 t (by omega)
  have E4 : xup (xup (xup R2 439 11 (t + 3)) 439 42 (xup R2 439 11 (t + 3) 444 t)) 439 43 (xup (xup R2 439 11 (t + 3)) 439 42 (xup R2 439 11 (t + 3) 444 t) 444 (t + 2)) = R4 := by
    rw [hR4', xup_ne (a := 439) (b := 444) (by omega), xup_ne (a := 439) (b := 444) (by omega), xup_ne (a := 439) (b := 444) (by omega), r444]
  rw [r12, p5, q5, if_pos (by omega), if_pos (by omega), if_pos (by omega), E4, v4.2.1, v4.2.2.1, ← hb2, ← ha] at e2
  have out : ∀ R', f_Model_part R = some (0, R') → gN m (t + 3) X R' → (∀ c j, ¬ (c = 439 ∧ (j = 14 ∨ j = 15)) → R' c j = R4 c j) → (X 51 8 = 0 → 1 ≤ C2 51 5 ∧ C 51 5 ≤ C2 51 5) → (∃ a b C' R', f_Reader_takePart C = some (1, C') ∧ f_Model_part R = some (0, R') ∧ (C' 51 11 = fr_of a b ∧ R' 439 42 = a ∧ R' 439 43 = b) ∧ ((0 ≤ a ∧ a ≤ 999) ∧ 0 ≤ b ∧ b ≤ 999) ∧ (C' 51 8 = 0 → 1 ≤ b ∧ a ≤ b) ∧ gQ n m (t + 3) C' R' ∧ gN m (t + 3) C' R' ∧ (¬ C 51 8 = 0 → ¬ C' 51 8 = 0) ∧ (fnC C C' ∧ C' 51 10 = C 51 10) ∧ fnR R R') := fun R' o1 o2 o3 o4 => by
    refine ⟨C 51 5, C2 51 5, goC X (t + 2), R', g1, o1, ⟨?_, ?_, ?_⟩, ⟨⟨a0, a1⟩, b0, b1⟩, fun z => o4 ?_, hQ3.fr (fun _ _ _ => rfl) (fun c j hc => ?_), o2.fr (fun c j hc => goC_ne (by omega)) (fun _ _ _ => rfl), fun z => ?_, ⟨fC2.tr (fnX.tr fnC_go), ?_⟩, fR2.tr (f4.tr (fun c j hc => o3 c j (by omega)))⟩
    · rw [goC_ne (by omega)]; exact vX.1
    · rw [o3 _ _ (by omega), v4.2.1, ha]
    · rw [o3 _ _ (by omega), v4.2.2.1, hb2]
    · rw [goC_ne (by omega)] at z; exact z
    · rcases hc with ⟨rfl, rfl | rfl⟩ | rfl | rfl
      · rw [o3 _ _ (by omega), v4.1, xup_eq]
      · rw [o3 _ _ (by omega), v4.2.2.2.1, xup_ne (by omega)]
      · rw [o3 _ _ (by omega), f4 _ _ (by omega), xup_ne (by omega)]
      · rw [o3 _ _ (by omega), f4 _ _ (by omega), xup_ne (by omega)]
    · rw [goC_ne (by omega), vX.2.1]
      exact g3 (by rw [z82.1]; exact z)
    · rw [goC_ne (by omega), fX _ _ (by omega)]; exact z82.2.2
  rcases g4 k15' with ⟨⟨h1, h2⟩, h3⟩ | ⟨h1, R', h2, h3, h4, h5⟩
  · rw [if_neg (by omega), if_pos h2] at e2
    refine Or.inl (out R4 e2 ?_ (fun _ _ _ => rfl) (fun _ => ⟨h1, h2⟩))
    have hN4 : gN m t C2 R4 := hN2.fr (fun _ _ _ => rfl) (fun c j hc => by rcases hc with ⟨rfl, rfl | rfl⟩; exact v4.2.2.2.2.1; exact v4.2.2.2.2.2)
    refine (hN4.up (by omega)).fr (fun c j hc => ?_) (fun _ _ _ => rfl)
    rcases hc with ⟨rfl, rfl | rfl⟩ | rfl
    · rw [vX.2.1, h3]
    · rw [vX.2.2, h3]
    · exact fX _ _ (by omega)
  · have e3 : f_Model_part R = some (0, R') := by
      rw [e2]
      by_cases c0 : C2 51 5 = 0
      · rw [if_pos c0, h2]
        rfl
      · rw [if_neg c0, if_neg (by omega), h2]
        rfl
    refine Or.inl (out R' e3 (h3.fr (fun c j hc => ?_) (fun _ _ _ => rfl)) h5 (fun z => absurd (by rw [← vX.2.1]; exact z) h4))
    rcases hc with ⟨rfl, rfl | rfl⟩ | rfl
    · exact vX.2.1
    · exact vX.2.2
    · exact hcc _ _ rfl
end
