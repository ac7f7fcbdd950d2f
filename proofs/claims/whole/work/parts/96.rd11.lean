/-! read: will. -/
section
variable {C R M : em_M} {n m t w s k0 S P r0 : Int}
theorem will_pair (hS : gST n m w s C R) (hQ : gQ n m t C R) (hN : gN m t C R) (hL : gLL w s t k0 S P r0 C R) (h9 : C 51 4 = 9) : TRo n m w s t C R f_Reader_takeWill f_Model_tell := by
  obtain ⟨⟨q1, q2, q3⟩, ⟨q4, q5⟩, ⟨q6, q7⟩, -⟩ := id hQ
  obtain ⟨-, ⟨w1, w2⟩, s1, s2⟩ := id hS
  obtain ⟨l1, l2, l3, l4, l5, l6⟩ := hL
  have hρ : R 442 t = 26 := (kd_word hS hQ (d := 9) (by omega) (by omega)).mp h9
  have e1 := q_Reader_takeWill C
  have e2 := q_Model_tell R
  simp only [em_cd, q5, if_pos (show 0 ≤ t ∧ t < 603 by omega), hρ] at e1 e2
  rw [if_neg (by omega), if_neg (by omega), if_neg (by omega), if_neg (by omega), if_neg (by omega), if_neg (by omega), if_pos trivial] at e2
  -- the end of the reference, from any state behind the part
  have tail : ∀ Z, Z 439 18 = s → (if 0 ≤ Z 439 18 ∧ Z 439 18 < 2 then if 0 ≤ xup Z 466 (Z 439 18) (Z 439 42) 439 18 ∧ xup Z 466 (Z 439 18) (Z 439 42) 439 18 < 2 then (f_Model_must 8 (xup (xup Z 466 (Z 439 18) (Z 439 42)) 467 (xup Z 466 (Z 439 18) (Z 439 42) 439 18) (xup Z 466 (Z 439 18) (Z 439 42) 439 43))).bind fun r2 => some ((0 : Int), r2.2) else none else none) = (f_Model_must 8 (xup (xup Z 466 s (Z 439 42)) 467 s (Z 439 43))).bind fun r2 => some ((0 : Int), r2.2) := fun Z hZ => by
    rw [hZ, xup_ne (by omega), hZ, xup_ne (by omega), if_pos (by omega), if_pos (by omega)]
  rcases tk_next hS hQ h9 (by omega) (by omega) with ⟨t6, d1, d2, hQ1⟩ | ⟨t6, d1, d2, d3⟩
  case inr =>
    rw [d1] at e1
    rw [d2] at e2
    simp only [Option.bind_some] at e1 e2
    rw [if_pos trivial] at e1
    rw [m_partf d3.pos] at e2
    simp only [Option.bind_some] at e2
    rw [tail _ (by rw [fnR_fl _ _ _ _ (by omega)]; exact s1), m_mustf 8 (by rw [xup_ne (by omega), xup_ne (by omega)]; exact d3.pos)] at e2
    simp only [Option.bind_some] at e2
    refine Or.inr ⟨_, _, e1, e2, d3.fr (fun _ _ _ => rfl) ⟨by rw [xup_ne (by omega), xup_ne (by omega)], by rw [xup_ne (by omega), xup_ne (by omega)]⟩, (fnC_6 _).wd, fun c j hc => ?_⟩
    unfold gRx at hc
    rw [xup_ne (by omega), xup_ne (by omega), fnR_fl _ _ _ _ (by omega)]
  rw [d1] at e1
  rw [d2] at e2
  simp only [Option.bind_some] at e1 e2
  rw [if_neg (by omega)] at e1
  have fC1 : fnC C (goC C t) := fnC_go
  have fR1 : fnR R (xup R 439 11 (t + 1)) := fnR_go _
  have hS1 : gST n m w s (goC C t) (xup R 439 11 (t + 1)) := hS.fx fC1.wd fR1.wd
  have hN1 : gN m (t + 1) (goC C t) (xup R 439 11 (t + 1)) := (hN.up (by omega)).fr (fun c j hc => goC_ne (by omega)) (fun c j hc => xup_ne (by omega))
  have z8 : goC C t 51 8 = C 51 8 := goC_ne (by omega)
  generalize goC C t = C1 at e1 hQ1 hS1 fC1 hN1 z8
  generalize xup R 439 11 (t + 1) = R1 at e2 hQ1 hS1 fR1 hN1
  rcases part_pair hS1 hQ1 hN1 with ⟨a, b, C2, R2, d1, d2, ⟨f1, f2, f3⟩, ⟨g1, g2⟩, f4, hQ2, hN2, mono2, ⟨fC2, -⟩, fR2⟩ | ⟨C2, R2, d1, d2, d3, d4, d5⟩
  case inr =>
    rw [d1] at e1
    rw [d2] at e2
    simp only [Option.bind_some] at e1 e2
    rw [if_neg (fun z => z trivial)] at e1
    rw [tail _ (by rw [d5 _ _ (by omega)]; exact hS1.2.2.1), m_mustf 8 (by rw [xup_ne (by omega), xup_ne (by omega)]; exact d3.pos)] at e2
    simp only [Option.bind_some] at e2
    refine Or.inr ⟨_, _, e1, e2, d3.fr (fun _ _ _ => rfl) ⟨by rw [xup_ne (by omega), xup_ne (by omega)], by rw [xup_ne (by omega), xup_ne (by omega)]⟩, (fC1.tr d4).wd, fun c j hc => ?_⟩
    unfold gRx at hc
    rw [xup_ne (by omega), xup_ne (by omega), d5 _ _ (by omega), fR1 _ _ (by omega)]
  rw [d1] at e1
  rw [d2] at e2
  simp only [Option.bind_some] at e1 e2
  have hS2 : gST n m w s C2 R2 := hS1.fx fC2.wd fR2.wd
  rw [if_pos (by omega), hS2.2.1.1, f1] at e1
  simp only [isO_law w2, Bool.and_self, cond_true] at e1
  rw [tail _ hS2.2.2.1, f2, f3] at e2
  have fX : ∀ c j, ¬ (c = w ∧ j = 3) → xup C2 w 3 (fr_of a b) c j = C2 c j := fun c j hc => xup_ne hc
  have vX : xup C2 w 3 (fr_of a b) w 3 = fr_of a b := xup_eq _ _ _ _
  have fY : ∀ c j, ¬ ((c = 466 ∨ c = 467) ∧ j = s) → xup (xup R2 466 s a) 467 s b c j = R2 c j := fun c j hc => by rw [xup_ne (by omega), xup_ne (by omega)]
  have vY : xup (xup R2 466 s a) 467 s b 466 s = a ∧ xup (xup R2 466 s a) 467 s b 467 s = b := ⟨by rw [xup_ne (by omega), xup_eq], xup_eq _ _ _ _⟩
  generalize xup C2 w 3 (fr_of a b) = X at e1 fX vX
  generalize xup (xup R2 466 s a) 467 s b = Y at e2 fY vY
  have fxX : fxC w C2 X := fun c j hc => fX c j (by omega)
  have fxY : fxR s R2 Y := fun c j hc => fY c j (by unfold gRx at hc; omega)
  have hSX : gST n m w s X Y := hS2.fx fxX fxY
  have hQX : gQ n m (t + 1 + 3) X Y := hQ2.fr (fun c j hc => fX c j (by omega)) (fun c j hc => fY c j (by omega))
  rcases tk_must (d := 59) (ρ := 8) hSX hQX (kd_sign hSX hQX (by omega)) (by omega) (by omega) with ⟨c59, t7, d1, d2, hQ3⟩ | ⟨C3, R3, d1, d2, d3, d4, d5⟩
  case inr =>
    rw [d1] at e1
    rw [d2] at e2
    simp only [Option.bind_some] at e1 e2
    rw [if_pos (by simp)] at e1
    exact Or.inr ⟨C3, R3, e1, e2, d3, ((fC1.tr fC2).wd.tr fxX).tr d4.wd, ((fR1.tr fR2).wd.tr fxY).tr d5.wd⟩
  rw [d1] at e1
  rw [d2] at e2
  simp only [Option.bind_some] at e1 e2
  rw [if_pos (by simp)] at e1
  have fnA : ∀ c j, ¬ ((c = 51 ∧ 3 ≤ j ∧ j ≤ 11 ∧ ¬ j = 7) ∨ (c = w ∧ j = 3)) → goC X (t + 1 + 3) c j = C c j := fun c j hc => by
    rw [goC_ne (by omega), fX c j (by omega), fC2 c j (by omega), fC1 c j (by omega)]
  have fnB : ∀ c j, ¬ ((c = 439 ∧ ((11 ≤ j ∧ j ≤ 15) ∨ j = 42 ∨ j = 43)) ∨ ((c = 466 ∨ c = 467) ∧ j = s)) → xup Y 439 11 (t + 1 + 3 + 1) c j = R c j := fun c j hc => by
    rw [xup_ne (by omega), fY c j (by omega), fR2 c j (by omega), fR1 c j (by omega)]
  have mono : ¬ C 51 8 = 0 → ¬ goC X (t + 1 + 3) 51 8 = 0 := fun z => by
    rw [goC_ne (by omega), fX 51 8 (by omega)]
    exact mono2 (by rw [z8]; exact z)
  refine Or.inl ⟨goC X (t + 1 + 3), xup Y 439 11 (t + 1 + 3 + 1), t + 1 + 3 + 1, k0, S, P, r0, e1, e2, by omega, ⟨hQ3, ((hN2.up (by omega)).fr (fun c j hc => ?_) (fun c j hc => ?_)), l1.fr (fun c j hc => fnA c j (by omega)) (fun c j hc => fnB c j (by omega)), l2.fr w2 (fun c j hc => fnA c j (by omega)) (fun c j hc => fnB c j (by omega)) mono (by omega), ⟨by rw [fnA w 4 (by omega)]; exact l3.1, by rw [fnB 454 s (by omega)]; exact l3.2.1, l3.2.2⟩, l4.fr w2 l3.2.2.2 (fun c j hc => fnA c j (by omega)) (fun c j hc => fnB c j (by omega)) (by rw [fnA w 0 (by omega)]; exact Int.le_refl _) mono, l5.fr (fnA w 2 (by omega)) (fun j => fnB 449 j (by omega)), fun z => ?_⟩, fun c j hc => fnA c j (by omega), fun c j hc => fnB c j (by unfold gRx at hc; omega)⟩
  · rw [goC_ne (by omega), fX c j (by omega)]
  · rw [xup_ne (by omega), fY c j (by omega)]
  · rw [goC_ne (by omega), fX 51 8 (by omega)] at z
    obtain ⟨f5, f6⟩ := f4 z
    rw [goC_ne (by omega), vX, xup_ne (by omega), xup_ne (by omega), vY.1, vY.2]
    exact ⟨rfl, g1.1, f6, f5, g2.2⟩
end
