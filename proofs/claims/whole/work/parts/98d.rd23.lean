/-! read: kin, step by step. -/
section
variable {C R M : em_M} {n m t w s k0 S0 P0 S P b r0 v1 : Int}
def KUo (n m w s t k0 r0 : Int) (C R : em_M) (T U : Option (Int × em_M)) : Prop := (∃ C' R' t' S' P', T = some (1, C') ∧ U = some (0, R') ∧ t < t' ∧ (gQ n m t' C' R' ∧ gN m t' C' R' ∧ gLL w s t' (k0 + 1) S' P' r0 C' R') ∧ fxC w C C' ∧ fxR s R R') ∨ (∃ C' R', T = some (0, C') ∧ U = some (0, R') ∧ gBd n m C' R' ∧ fxC w C C' ∧ fxR s R R')
theorem KUo.tr {C0 R0 : em_M} {t' : Int} {T U : Option (Int × em_M)} (h : KUo n m w s t' k0 r0 C R T U) (ht : t ≤ t') (hC : fxC w C0 C) (hR : fxR s R0 R) : KUo n m w s t k0 r0 C0 R0 T U := by
  rcases h with ⟨C', R', u, S', P', a1, a2, a3, a4, a5, a6⟩ | ⟨C', R', a1, a2, a3, a4, a5⟩
  · exact Or.inl ⟨C', R', u, S', P', a1, a2, by omega, a4, hC.tr a5, hR.tr a6⟩
  · exact Or.inr ⟨C', R', a1, a2, a3, hC.tr a4, hR.tr a5⟩
/-- the class behind its paths -/
noncomputable def KT (r3 : Int × em_M) : Option (Int × em_M) := if r3.1 = 0 then some (0, r3.2) else (f_Reader_take 59 r3.2).bind fun r4 => if ¬ r4.1 = 0 then (bif (((em_isO (r4.2 51 2) 4) && true) && true) then (f_Law_closeKin (r4.2 51 2) r4.2).bind fun r5 => some (1, r5.2) else none) else some (0, r4.2)
/-- the reference behind a path -/
noncomputable def GU (v1 v2 : Int) (Z : em_M) : Option (Int × em_M) := (f_Model_is 5 Z).bind fun r1 => if r1.1 = 0 then f_Model_tellKin_133 v1 v2 r1.1 r1.2 else (f_Model_next r1.2).bind fun r2 => f_Model_tellKin_133 v1 v2 r1.1 r2.2
theorem KT_0 : KT (0, C) = some (0, C) := by
  unfold KT
  exact if_pos rfl
theorem m_165f {v2 : Int} (hf : 0 < R 439 12) : f_Model_tellKin_165 v1 v2 R = some (0, R) := by
  rw [q_Model_tellKin_165, m_mustf 8 hf]
  simp only [Option.bind_some, em_cd]
  rw [if_neg (by omega)]
theorem m_133e {v2 v3 : Int} (h : v3 = 0 ∨ ¬ R 439 12 = 0) : f_Model_tellKin_133 v1 v2 v3 R = f_Model_tellKin_165 v1 v2 R := by
  rw [q_Model_tellKin_133]
  simp only [em_cd]
  by_cases c : v3 = 0
  · rw [if_pos c]
  · rw [if_neg c, if_pos (h.resolve_left c)]
theorem m_133g {v2 : Int} (hf : R 439 12 = 0) : f_Model_tellKin_133 v1 v2 1 R = (f_Model_tellPath R).bind fun r0 => GU v1 v2 r0.2 := by
  rw [q_Model_tellKin_133]
  simp only [em_cd]
  rw [if_neg (by omega), if_neg (fun z => z hf)]
  rfl
theorem GU_f {v2 : Int} (hf : 0 < R 439 12) : GU v1 v2 R = some (0, R) := by
  unfold GU
  rw [m_isf 5 (by omega)]
  simp only [Option.bind_some]
  rw [if_pos trivial, m_133e (Or.inl rfl), m_165f hf]
theorem kin_loop : ∀ (f : Nat) (t S P b v turn : Int) (C R : em_M) (T U : Option (Int × em_M)), 601 - t ≤ f → gST n m w s C R → gQ n m t C R → gN m t C R → KI w s k0 S0 P0 S P b C R → KR w s k0 S0 P0 r0 v1 C R → v = S - b → v ≤ 8 → S ≤ t → 0 ≤ turn → turn ≤ t → 0 ≤ v1 → v1 ≤ 602 → T = (f_Reader_takePaths_4 v turn C).bind KT → U = ((f_Model_tellPath_26 v 1 R).bind fun r0 => GU v1 (21 * s + k0) r0.2).bind (fun r => some (0, r.2)) → KUo n m w s t k0 r0 C R T U := by
  intro f
  induction f with
  | zero =>
    intro t S P b v turn C R T U hf hS hQ
    have := hQ.1.2.2
    omega
  | succ f ih =>
    intro t S P b v turn C R T U hf hS hQ hN hI hR hv v8 St u0 ut v10 v11 eT eU
    obtain ⟨-, ⟨w1, w2⟩, s1, s2⟩ := id hS
    have hw53 : 53 ≤ w := by omega
    have t6 := hQ.1.2.2
    obtain ⟨⟨⟨a1, a2, a3⟩, ⟨a4, a5, a6⟩, a7, a8, a9⟩, -⟩ := id hI
    have hk0 := hR.1.1
    rw [q_Reader_takePaths_4] at eT
    simp only [em_cd, if_neg (show ¬ 600 < turn by omega)] at eT
    rcases step_pair hS hQ hN hI hR hv v8 St rfl rfl with ⟨C1, R1, t1, d1, d2, ⟨v8', d3⟩, d4, ⟨hQ1, hN1, hI1⟩, mono1, kC1, kR1⟩ | ⟨C1, R1, d1, d2, d3, d4, d5⟩
    case inr =>
      rw [d1] at eT
      rw [d2] at eU
      simp only [Option.bind_some] at eT eU
      rw [if_neg (fun z => z trivial)] at eT
      simp only [Option.bind_some] at eT
      rw [GU_f d3.pos] at eU
      simp only [Option.bind_some] at eU
      rw [KT_0] at eT
      exact Or.inr ⟨C1, R1, eT, eU, d3, d4.fx, d5.fx (by omega) (by omega)⟩
    rw [d1] at eT
    rw [d2] at eU
    simp only [Option.bind_some] at eT
    rw [if_pos (by omega)] at eT
    have hS1 : gST n m w s C1 R1 := hS.fx kC1.fx (kR1.fx (by omega) (by omega))
    have hR1 : KR w s k0 S0 P0 r0 v1 C1 R1 := hR.fr w2 (kC1.less (by omega)) (kR1.less (by omega) (by omega)) mono1
    have fxA : fxC w C C1 := kC1.fx
    have fxB : fxR s R R1 := kR1.fx (by omega) (by omega)
    clear d1 d2 hS hQ hN hI hR kC1 kR1
    obtain ⟨⟨q1, q2, q3⟩, ⟨q4, q5⟩, ⟨q6, q7⟩, q8, q9, q10⟩ := id hQ1
    have hk6 := kd_sign (d := 46) (ρ := 6) hS1 hQ1 (by omega)
    have hk5 := kd_sign (d := 124) (ρ := 5) hS1 hQ1 (by omega)
    have e41 : f_Reader_takePaths_41 v turn C1 = if ¬ C1 51 4 = 46 then (f_Reader_take (C1 51 4) C1).bind fun r0 => if ¬ r0.1 = 0 then f_Reader_takePaths_4 0 (turn + 1) r0.2 else some (0, r0.2) else (f_Reader_take (C1 51 4) C1).bind fun r0 => if ¬ r0.1 = 0 then f_Reader_takePaths_4 (v + 1) (turn + 1) r0.2 else some (0, r0.2) := by
      rw [q_Reader_takePaths_41, x32_s (x := turn + 1) (by omega) (by omega), x32_s (x := v + 1) (by omega) (by omega)]
      simp only [em_cd]
    by_cases c46 : C1 51 4 = 46
    · -- the path goes on
      rw [if_pos c46, e41, if_neg (fun z => z c46), c46] at eT
      rw [m_is1 q7 q5 q1 (by omega) (hk6.mp c46)] at eU
      simp only [Option.bind_some] at eU
      rw [if_neg (by omega)] at eU
      rcases tk_next hS1 hQ1 c46 (by omega) (by omega) with ⟨t7, d1, d2, hQ2⟩ | ⟨t7, d1, d2, d3⟩
      · rw [d1] at eT
        rw [d2] at eU
        simp only [Option.bind_some] at eT eU
        rw [if_pos (by omega)] at eT
        have fC2 : fnC C1 (goC C1 t1) := fnC_go
        have fR2 : fnR R1 (xup R1 439 11 (t1 + 1)) := fnR_go _
        have m8 : goC C1 t1 51 8 = C1 51 8 := goC_ne (by omega)
        have mono2 : ¬ C1 51 8 = 0 → ¬ goC C1 t1 51 8 = 0 := fun z => by rw [m8]; exact z
        exact (ih (t1 + 1) (S + 1) P b (v + 1) (turn + 1) _ _ T U (by omega) (hS1.fx fC2.wd fR2.wd) hQ2 ((hN1.up (by omega)).fr (fun c j hc => goC_ne (by omega)) (fun c j hc => xup_ne (by omega))) (hI1.fn hw53 fC2 fR2 mono2) (hR1.fr w2 fC2.kiC fR2.kiR mono2) (by omega) (by omega) (by omega) (by omega) (by omega) v10 v11 eT eU).tr (by omega) (fxA.tr fC2.wd) (fxB.tr fR2.wd)
      · rw [d1] at eT
        rw [d2] at eU
        simp only [Option.bind_some] at eT eU
        rw [if_neg (fun z => z trivial)] at eT
        simp only [Option.bind_some] at eT
        rw [KT_0] at eT
        obtain ⟨⟨⟨b1, b2', b3⟩, -⟩, -⟩ := hI1
        have x26 : fuM R1 2 t1 439 26 = P := by rw [fuM_ne (by omega)]; exact b3
        rw [m_p26e (Or.inr (by have := d3.pos; omega)), m_p287 (s := s) (P := P) (by rw [fuM_ne (by omega)]; exact hS1.2.2.1) s2 x26 (by omega) (by omega)] at eU
        simp only [Option.bind_some] at eU
        have kY : kiR s P S (fuM R1 2 t1) (xup (xup (fuM R1 2 t1) 439 26 (P + 1)) 451 (701 * s + (P + 1)) (fuM R1 2 t1 439 27)) := fun c j hc => by rw [xup_ne (by omega), xup_ne (by omega)]
        have h12 : (xup (xup (fuM R1 2 t1) 439 26 (P + 1)) 451 (701 * s + (P + 1)) (fuM R1 2 t1 439 27)) 439 12 = fuM R1 2 t1 439 12 := by rw [xup_ne (by omega), xup_ne (by omega)]
        have h13 : (xup (xup (fuM R1 2 t1) 439 26 (P + 1)) 451 (701 * s + (P + 1)) (fuM R1 2 t1 439 27)) 439 13 = fuM R1 2 t1 439 13 := by rw [xup_ne (by omega), xup_ne (by omega)]
        rw [GU_f (by rw [h12]; exact d3.pos)] at eU
        simp only [Option.bind_some] at eU
        exact Or.inr ⟨_, _, eT, eU, d3.fr (fun _ _ _ => rfl) ⟨h12, h13⟩, fxA.tr (fnC_6 _).wd, fxB.tr ((fnR_fl _ _).wd.tr (kY.fx (by omega) (by omega)))⟩
    · -- the path is told
      rw [if_neg c46] at eT
      rw [m_is0 q7 q5 q1 (by omega) (fun z => c46 (hk6.mpr z))] at eU
      simp only [Option.bind_some] at eU
      obtain ⟨⟨⟨b1, b2', b3⟩, b4⟩, -⟩ := id hI1
      rw [if_pos trivial, m_p26e (Or.inl rfl), m_p287 (s := s) (P := P) hS1.2.2.1 s2 b3 (by omega) (by omega), b2'] at eU
      simp only [Option.bind_some] at eU
      have f2 : ∀ c j, ¬ ((c = 451 ∧ j = 701 * s + (P + 1)) ∨ (c = 439 ∧ j = 26)) → xup (xup R1 439 26 (P + 1)) 451 (701 * s + (P + 1)) (S + 1) c j = R1 c j := fun c j hc => by rw [xup_ne (by omega), xup_ne (by omega)]
      have f26 : xup (xup R1 439 26 (P + 1)) 451 (701 * s + (P + 1)) (S + 1) 439 26 = P + 1 ∧ xup (xup R1 439 26 (P + 1)) 451 (701 * s + (P + 1)) (S + 1) 451 (701 * s + (P + 1)) = S + 1 := ⟨by rw [xup_ne (by omega), xup_eq], xup_eq _ _ _ _⟩
      generalize xup (xup R1 439 26 (P + 1)) 451 (701 * s + (P + 1)) (S + 1) = R2 at eU f2 f26
      have kR2 : kiR s P S R1 R2 := fun c j hc => f2 c j (by omega)
      have hS2 : gST n m w s C1 R2 := hS1.fx (fxC.rf _ _) (kR2.fx (by omega) (by omega))
      have hQ2 : gQ n m t1 C1 R2 := hQ1.fr (fun _ _ _ => rfl) (fun c j hc => f2 c j (by omega))
      have hN2 : gN m t1 C1 R2 := hN1.fr (fun _ _ _ => rfl) (fun c j hc => f2 c j (by omega))
      have hI2 : KI w s k0 S0 P0 (S + 1) (P + 1) (S + 1) C1 R2 := hI1.path (by omega) f2 f26.1 f26.2
      have hR2 : KR w s k0 S0 P0 r0 v1 C1 R2 := hR1.fr w2 (kiC.rf _ _ _) (kR2.less (by omega) (by omega)) id
      have fxB2 : fxR s R R2 := fxB.tr (kR2.fx (by omega) (by omega))
      clear hS1 hQ1 hN1 hI1 hR1 kR2 f2 fxB q4 q5 q6 q7 hk6
      obtain ⟨-, ⟨q4, q5⟩, ⟨q6, q7⟩, -⟩ := id hQ2
      have hk5 := kd_sign (d := 124) (ρ := 5) hS2 hQ2 (by omega)
      unfold GU at eU
      by_cases c5 : C1 51 4 = 124
      · rw [if_pos c5, e41, if_pos c46, c5] at eT
        rw [m_is1 q7 q5 q1 (by omega) (hk5.mp c5)] at eU
        simp only [Option.bind_some] at eU
        rw [if_neg (by omega)] at eU
        rcases tk_next hS2 hQ2 c5 (by omega) (by omega) with ⟨t7, d1, d2, hQ3⟩ | ⟨t7, d1, d2, d3⟩
        · rw [d1] at eT
          rw [d2] at eU
          simp only [Option.bind_some] at eT eU
          rw [if_pos (by omega)] at eT
          have fC3 : fnC C1 (goC C1 t1) := fnC_go
          have fR3 : fnR R2 (xup R2 439 11 (t1 + 1)) := fnR_go _
          have m8 : goC C1 t1 51 8 = C1 51 8 := goC_ne (by omega)
          have mono3 : ¬ C1 51 8 = 0 → ¬ goC C1 t1 51 8 = 0 := fun z => by rw [m8]; exact z
          have hI3 : KI w s k0 S0 P0 (S + 1) (P + 1) (S + 1) (goC C1 t1) (xup R2 439 11 (t1 + 1)) := hI2.fn hw53 fC3 fR3 mono3
          have hS3 := hS2.fx fC3.wd (fR3.wd (s := s))
          have hN3 : gN m (t1 + 1) (goC C1 t1) (xup R2 439 11 (t1 + 1)) := (hN2.up (by omega)).fr (fun c j hc => goC_ne (by omega)) (fun c j hc => xup_ne (by omega))
          rw [m_133g (by rw [xup_ne (by omega)]; exact q7), q_Model_tellPath] at eU
          generalize xup R2 439 11 (t1 + 1) = R3 at eU hQ3 fR3 hI3 hS3 hN3
          obtain ⟨⟨⟨z1, z2, z3⟩, -⟩, ⟨z4, -⟩, -⟩ := id hI3
          rw [hS3.2.2.1, z3, z2, x32_s (x := 701 * s) (by omega) (by omega), x32_s (x := 701 * s + (P + 1)) (by omega) (by omega)] at eU
          simp only [em_cd] at eU
          have hsame : xup R3 451 (701 * s + (P + 1)) (S + 1) = R3 := xup_same z4
          rw [if_pos (by omega), hsame] at eU
          exact (ih (t1 + 1) (S + 1) (P + 1) (S + 1) 0 (turn + 1) _ _ T U (by omega) hS3 hQ3 hN3 hI3 (hR2.fr w2 fC3.kiC fR3.kiR mono3) (by omega) (by omega) (by omega) (by omega) (by omega) v10 v11 eT eU).tr (by omega) (fxA.tr fC3.wd) (fxB2.tr fR3.wd)
        · rw [d1] at eT
          rw [d2] at eU
          simp only [Option.bind_some] at eT eU
          rw [if_neg (fun z => z trivial)] at eT
          simp only [Option.bind_some] at eT
          rw [KT_0] at eT
          rw [m_133e (Or.inr (by have := d3.pos; omega)), m_165f d3.pos] at eU
          simp only [Option.bind_some] at eU
          exact Or.inr ⟨_, _, eT, eU, d3, fxA.tr (fnC_6 _).wd, fxB2.tr (fnR_fl _ _).wd⟩
      · -- the kin is told
        rw [if_neg c5] at eT
        simp only [Option.bind_some] at eT
        unfold KT at eT
        rw [if_neg (by omega)] at eT
        rw [m_is0 q7 q5 q1 (by omega) (fun z => c5 (hk5.mpr z))] at eU
        simp only [Option.bind_some] at eU
        rw [if_pos trivial, m_133e (Or.inl rfl), q_Model_tellKin_165] at eU
        simp only [em_cd] at eU
        rcases tk_must (d := 59) (ρ := 8) hS2 hQ2 (kd_sign hS2 hQ2 (by omega)) (by omega) (by omega) with ⟨c59, t7, d1, d2, hQ3⟩ | ⟨C3, R3, d1, d2, d3, d4, d5⟩
        · rw [d1] at eT
          rw [d2] at eU
          simp only [Option.bind_some] at eT eU
          rw [if_pos (by omega)] at eT
          have fC3 : fnC C1 (goC C1 t1) := fnC_go
          have fR3 : fnR R2 (xup R2 439 11 (t1 + 1)) := fnR_go _
          have m8 : goC C1 t1 51 8 = C1 51 8 := goC_ne (by omega)
          have mono3 : ¬ C1 51 8 = 0 → ¬ goC C1 t1 51 8 = 0 := fun z => by rw [m8]; exact z
          have hI3 : KI w s k0 S0 P0 (S + 1) (P + 1) (S + 1) (goC C1 t1) (xup R2 439 11 (t1 + 1)) := hI2.fn hw53 fC3 fR3 mono3
          have hR3 : KR w s k0 S0 P0 r0 v1 (goC C1 t1) (xup R2 439 11 (t1 + 1)) := hR2.fr w2 fC3.kiC fR3.kiR mono3
          have hS3 := hS2.fx fC3.wd (fR3.wd (s := s))
          have hN3 : gN m (t1 + 1) (goC C1 t1) (xup R2 439 11 (t1 + 1)) := (hN2.up (by omega)).fr (fun c j hc => goC_ne (by omega)) (fun c j hc => xup_ne (by omega))
          have y12 : xup R2 439 11 (t1 + 1) 439 12 = 0 := by rw [xup_ne (by omega)]; exact q7
          generalize xup R2 439 11 (t1 + 1) = R3 at eU hQ3 fR3 hI3 hR3 hS3 hN3 y12
          generalize goC C1 t1 = C3 at eT hQ3 fC3 m8 mono3 hI3 hR3 hS3 hN3
          obtain ⟨C4, g1, ⟨g2, g3⟩, g4⟩ := f_closeKin (C := C3) (k := k0) w2 hR3.1.1.1 hk0.2.2.1 hk0.2.2.2
          rw [hS3.2.1.1] at eT
          simp only [isO_law w2, Bool.and_self, cond_true, g1, Option.bind_some] at eT
          obtain ⟨⟨⟨z1, z2, z3⟩, -⟩, -⟩ := id hI3
          simp (disch := omega) only [hS3.2.2.1, hR3.1.1.2.1, xup_ne, x32_s (show -1000000 ≤ 20 * s by omega) (show 20 * s ≤ 1000000 by omega), x32_s (show -1000000 ≤ 20 * s + k0 by omega) (show 20 * s + k0 ≤ 1000000 by omega), x32_s (show -1000000 ≤ 21 * s + k0 + 1 by omega) (show 21 * s + k0 + 1 ≤ 1000000 by omega), x32_s (show -1000000 ≤ k0 + 1 by omega) (show k0 + 1 ≤ 1000000 by omega), z3] at eU
          rw [if_pos (by omega), if_pos (by omega), if_pos (by omega), if_pos (by omega), if_pos (by omega), if_pos (by omega), if_pos (by omega)] at eU
          simp only [Option.bind_some] at eU
          have h1 : ∀ c j, ¬ ((c = 447 ∧ j = s) ∨ (c = 448 ∧ j = 20 * s + k0) ∨ (c = 450 ∧ j = 21 * s + k0 + 1)) → xup (xup (xup R3 448 (20 * s + k0) (R3 445 v1)) 447 s (k0 + 1)) 450 (21 * s + k0 + 1) (P + 1) c j = R3 c j := fun c j hc => by rw [xup_ne (by omega), xup_ne (by omega), xup_ne (by omega)]
          have h2 : xup (xup (xup R3 448 (20 * s + k0) (R3 445 v1)) 447 s (k0 + 1)) 450 (21 * s + k0 + 1) (P + 1) 447 s = k0 + 1 ∧ xup (xup (xup R3 448 (20 * s + k0) (R3 445 v1)) 447 s (k0 + 1)) 450 (21 * s + k0 + 1) (P + 1) 448 (20 * s + k0) = R3 445 v1 ∧ xup (xup (xup R3 448 (20 * s + k0) (R3 445 v1)) 447 s (k0 + 1)) 450 (21 * s + k0 + 1) (P + 1) 450 (21 * s + k0 + 1) = P + 1 := ⟨by rw [xup_ne (by omega), xup_eq], by rw [xup_ne (by omega), xup_ne (by omega), xup_eq], xup_eq _ _ _ _⟩
          generalize xup (xup (xup R3 448 (20 * s + k0) (R3 445 v1)) 447 s (k0 + 1)) 450 (21 * s + k0 + 1) (P + 1) = R4 at eU h1 h2
          have hfin : gLL w s (t1 + 1) (k0 + 1) (S + 1) (P + 1) r0 C4 R4 := KI.kin (t := t1 + 1) w2 s2 hI3 hR3 (by omega) (by omega) (by omega) g4 g2 (by rw [g3]; exact z1) h1 h2.1 h2.2.1 h2.2.2
          refine Or.inl ⟨C4, R4, t1 + 1, S + 1, P + 1, eT, eU, by omega, ⟨hQ3.fr (fun c j hc => g4 c j (by omega)) (fun c j hc => h1 c j (by omega)), hN3.fr (fun c j hc => g4 c j (by omega)) (fun c j hc => h1 c j (by omega)), hfin⟩, fxA.tr (fC3.wd.tr (fun c j hc => g4 c j (by omega))), fxB2.tr (fR3.wd.tr (fun c j hc => h1 c j (fun z => hc (by
            unfold gRx
            rcases z with z | z | z
            · exact Or.inr (Or.inl ⟨Or.inl z.1, z.2⟩)
            · exact Or.inr (Or.inr (Or.inl ⟨Or.inl z.1, by omega, by omega⟩))
            · exact Or.inr (Or.inr (Or.inr (Or.inl ⟨z.1, by omega, by omega⟩)))))))⟩
        · rw [d1] at eT
          rw [d2] at eU
          simp only [Option.bind_some] at eT eU
          rw [if_neg (fun z => z trivial)] at eT
          have := d3.pos
          rw [if_neg (by omega)] at eU
          simp only [Option.bind_some] at eU
          exact Or.inr ⟨C3, R3, eT, eU, d3, fxA.tr d4.wd, fxB2.tr d5.wd⟩
end
