/-! read: fixed, whole. -/
section
variable {C R M : em_M} {n m t w s k0 S P r0 r : Int}
theorem m_59f (hf : 0 < R 439 12) (v0 : 0 ≤ 30 * s + r) (v1 : 30 * s + r < 60) : ∃ R', f_Model_tellFixed_59 (30 * s + r) R = some (0, R') ∧ ruR s r R R' := by
  have e := q_Model_tellFixed_59 (30 * s + r) R
  simp only [em_cd, if_pos (show 0 ≤ 30 * s + r ∧ 30 * s + r < 60 from ⟨v0, v1⟩)] at e
  have ua : ruR s r R (xup R 461 (30 * s + r) (-1)) := ru_at (by omega) (by omega)
  have ub : ruR s r (xup R 461 (30 * s + r) (-1)) (xup (xup R 461 (30 * s + r) (-1)) 462 (30 * s + r) (-1)) := ru_at (by omega) (by omega)
  have hp : 0 < xup (xup R 461 (30 * s + r) (-1)) 462 (30 * s + r) (-1) 439 12 := by rw [ub.lo (by omega), ua.lo (by omega)]; exact hf
  rw [m_isf 28 (by omega)] at e
  simp only [Option.bind_some] at e
  rw [if_pos trivial, m_isf 29 (by omega)] at e
  simp only [Option.bind_some] at e
  rw [if_pos trivial] at e
  exact ⟨_, e, fun c j hc => (ub c j hc).trans (ua c j hc)⟩
/-- each, or not, and on -/
theorem fixed_each {T U : Option (Int × em_M)} {Z : em_M} {a b : Int} (hS : gST n m w s C R) (hQ : gQ n m t C R) (hN : gN m t C R) (hL : gLo w s t k0 S P r C R) (hF : FX w s r k0 C R)
    (eT : T = if ¬ C 51 4 = 2 then f_Reader_takeFixed_66 0 C else (f_Reader_take 2 C).bind fun r4 => if ¬ r4.1 = 0 then f_Reader_takeFixed_66 1 r4.2 else some (0, r4.2))
    (eU : U = ((f_Model_is 27 R).bind fun r2 => if r2.1 = 0 ∨ r2.1 = 1 then (f_Model_is 27 (xup r2.2 460 (30 * s + r) r2.1)).bind fun r3 => if r3.1 = 0 then f_Model_tellFixed_59 (30 * s + r) r3.2 else (f_Model_next r3.2).bind fun r4 => f_Model_tellFixed_59 (30 * s + r) r4.2 else none).bind fun x => f_Model_tell_168 x.2) : RUo n m w s t k0 S P r C R T U := by
  obtain ⟨-, ⟨w1, w2⟩, s1, s2⟩ := id hS
  have rr := hL.2.2.1.2.2
  have hw53 : 53 ≤ w := by omega
  obtain ⟨⟨q1, q2, q3⟩, ⟨q4, q5⟩, ⟨q6, q7⟩, -⟩ := id hQ
  have hkd := kd_word hS hQ (d := 2) (by omega) (by omega)
  have hmp : 20 + mpW 2 = 27 := by decide
  rw [hmp] at hkd
  have ur := ruC.rf w r C
  have st : ∀ o, (o = 0 ∨ o = 1) → ruR s r R (xup R 460 (30 * s + r) o) ∧ gST n m w s C (xup R 460 (30 * s + r) o) ∧ gQ n m t C (xup R 460 (30 * s + r) o) ∧ gN m t C (xup R 460 (30 * s + r) o) ∧ gLo w s t k0 S P r C (xup R 460 (30 * s + r) o) ∧ FX w s r k0 C (xup R 460 (30 * s + r) o) := fun o ho => by
    have ua : ruR s r R (xup R 460 (30 * s + r) o) := ru_at (by omega) (by omega)
    exact ⟨ua, hS.fx (fxC.rf _ _) (ua.inR.fx rr.1 rr.2), hQ.ru hw53 rr.1 ur ua, hN.ru hw53 rr.1 ur ua, hL.inn w2 (inC.rf _ _ _) ua.inR id (Int.le_refl _), hF.fr hw53 rr.1 (fnC.rf _) rfl id (fun c hc => xup_ne (by omega))⟩
  by_cases c : C 51 4 = 2
  case neg =>
    obtain ⟨ua, hS', hQ', hN', hL', hF'⟩ := st 0 (Or.inl rfl)
    rw [if_pos c] at eT
    rw [m_is0 q7 q5 q1 (by omega) (fun z => c (hkd.mpr z))] at eU
    simp only [Option.bind_some] at eU
    rw [if_pos (by simp), m_is0 hQ'.2.2.1.2 hQ'.2.1.2 q1 (by omega) (fun z => c (hkd.mpr (by rw [ua.lo (by omega)] at z; exact z)))] at eU
    simp only [Option.bind_some] at eU
    rw [if_pos trivial] at eU
    exact (fixed66 (o := 0) hS' hQ' hN' hL' hF' (Or.inl rfl) (xup_eq _ _ _ _) eT eU).tr (Int.le_refl _) (fxC.rf _ _) (ua.inR.fx rr.1 rr.2)
  obtain ⟨ua, hS', hQ', hN', hL', hF'⟩ := st 1 (Or.inr rfl)
  rw [if_neg (fun z => z c)] at eT
  rw [m_is1 q7 q5 q1 (by omega) (hkd.mp c)] at eU
  simp only [Option.bind_some] at eU
  rw [if_pos (by simp), m_is1 hQ'.2.2.1.2 hQ'.2.1.2 q1 (by omega) (by rw [ua.lo (by omega)]; exact hkd.mp c)] at eU
  simp only [Option.bind_some] at eU
  rw [if_neg (by omega)] at eU
  have h460 : xup R 460 (30 * s + r) 1 460 (30 * s + r) = 1 := xup_eq _ _ _ _
  generalize xup R 460 (30 * s + r) 1 = Y at eU ua hS' hQ' hN' hL' hF' h460
  rcases in_next hS' hQ' hN' hL' c (by omega) (by omega) with ⟨C1, R1, d1, d2, ⟨hS1, hQ1, hN1, hL1⟩, ⟨fC1, x11, x8⟩, fR1⟩ | ⟨C1, R1, d1, d2, d3, d4, d5⟩
  · rw [d1] at eT
    rw [d2] at eU
    simp only [Option.bind_some] at eT eU
    rw [if_pos (by omega)] at eT
    exact (fixed66 (o := 1) hS1 hQ1 hN1 hL1 (hF'.fr hw53 rr.1 fC1 x11 (fun z => by rw [x8]; exact z) (fun c hc => fR1 c _ (by omega))) (Or.inr rfl) (by rw [fR1 _ _ (by omega)]; exact h460) eT eU).tr (by omega) fC1.wd ((ua.inR.fx rr.1 rr.2).tr fR1.wd)
  · rw [d1] at eT
    rw [d2] at eU
    simp only [Option.bind_some] at eT eU
    rw [if_neg (fun z => z trivial)] at eT
    obtain ⟨R', z1, z2⟩ := m_59f (s := s) (r := r) d3.pos (by omega) (by omega)
    rw [z1] at eU
    simp only [Option.bind_some] at eU
    rw [m_168f (by rw [z2.lo (by omega)]; exact d3.pos)] at eU
    exact Or.inr ⟨C1, R', eT, eU, d3.fr (fun _ _ _ => rfl) ⟨z2.lo (by omega), z2.lo (by omega)⟩, d4.wd, (ua.inR.fx rr.1 rr.2).tr (d5.wd.tr (z2.inR.fx rr.1 rr.2))⟩
theorem fixed_pair (hS : gST n m w s C R) (hQ : gQ n m t C R) (hN : gN m t C R) (hL : gLL w s t k0 S P r0 C R) (h4 : C 51 4 = 1) : TRo n m w s t C R f_Reader_takeFixed f_Model_tell := by
  obtain ⟨-, ⟨-, w2⟩, -, s2⟩ := id hS
  have hw53 : 53 ≤ w := by omega
  have e1 := q_Reader_takeFixed C
  simp only [em_cd] at e1
  rcases head_pair hS hQ hN hL (Or.inl rfl) h4 with ⟨C1, r30, d1, ⟨d2, -, -, -⟩, ⟨hQ1, hN1, hL1⟩, ⟨u1, u2⟩, fC1, fR1⟩ | ⟨C', R', d1, d2, d3, d4, d5⟩
  case inr =>
    rw [d1] at e1
    simp only [Option.bind_some] at e1
    rw [if_pos trivial] at e1
    exact Or.inr ⟨C', R', e1, d2, d3, d4, d5⟩
  have e2 := d2 rfl
  rw [d1] at e1
  simp only [Option.bind_some] at e1
  rw [if_neg (by omega)] at e1
  clear d1 d2
  have h455 : (xup (xup R 439 11 (t + 1)) 455 (30 * s + r0) (soR 1)) 455 (30 * s + r0) = 0 := by rw [xup_eq]; rfl
  generalize xup (xup R 439 11 (t + 1)) 455 (30 * s + r0) (soR 1) = X at e2 hQ1 hN1 hL1 fR1 h455
  have hS1 : gST n m w s C1 X := hS.fx fC1 fR1
  have rr := hL1.2.2.1.2.2
  have hv : 0 ≤ 30 * s + r0 ∧ 30 * s + r0 < 60 := by omega
  rw [q_Model_tellFixed] at e2
  simp only [em_cd, if_pos hv, decide_eq_true hv, Bool.and_true, cond_true] at e2
  -- the reference's end, once it has failed
  have bad : ∀ Y : em_M, 0 < Y 439 12 → ∃ R', ((f_Model_is 27 (xup (xup Y 458 (30 * s + r0) (Y 439 42)) 459 (30 * s + r0) (xup Y 458 (30 * s + r0) (Y 439 42) 439 43))).bind fun r2 => if r2.1 = 0 ∨ r2.1 = 1 then (f_Model_is 27 (xup r2.2 460 (30 * s + r0) r2.1)).bind fun r3 => if r3.1 = 0 then f_Model_tellFixed_59 (30 * s + r0) r3.2 else (f_Model_next r3.2).bind fun r4 => f_Model_tellFixed_59 (30 * s + r0) r4.2 else none) = some (0, R') ∧ ruR s r0 Y R' := fun Y hY => by
    have ua : ruR s r0 Y (xup Y 458 (30 * s + r0) (Y 439 42)) := ru_at (by omega) (by omega)
    have ub : ruR s r0 (xup Y 458 (30 * s + r0) (Y 439 42)) (xup (xup Y 458 (30 * s + r0) (Y 439 42)) 459 (30 * s + r0) (xup Y 458 (30 * s + r0) (Y 439 42) 439 43)) := ru_at (by omega) (by omega)
    have uab : ruR s r0 Y (xup (xup Y 458 (30 * s + r0) (Y 439 42)) 459 (30 * s + r0) (xup Y 458 (30 * s + r0) (Y 439 42) 439 43)) := fun c j hc => (ub c j hc).trans (ua c j hc)
    generalize xup (xup Y 458 (30 * s + r0) (Y 439 42)) 459 (30 * s + r0) (xup Y 458 (30 * s + r0) (Y 439 42) 439 43) = Z at uab
    have hZ : 0 < Z 439 12 := by rw [uab.lo (by omega)]; exact hY
    have uc : ruR s r0 Z (xup Z 460 (30 * s + r0) 0) := ru_at (by omega) (by omega)
    have hZ' : 0 < xup Z 460 (30 * s + r0) 0 439 12 := by rw [uc.lo (by omega)]; exact hZ
    obtain ⟨R', z1, z2⟩ := m_59f (s := s) (r := r0) hZ' hv.1 hv.2
    refine ⟨R', ?_, fun c j hc => (z2 c j hc).trans ((uc c j hc).trans (uab c j hc))⟩
    rw [m_isf 27 (by omega)]
    simp only [Option.bind_some]
    rw [if_pos (by simp), m_isf 27 (by omega)]
    simp only [Option.bind_some]
    rw [if_pos trivial]
    exact z1
  rcases first_pair hS1 hQ1 hN1 hL1 u2 with ⟨q, Ct, C2, R2, d1, d2, ⟨d3, d4, d5⟩, d6, ⟨hQ2, hN2, hL2⟩, q1r, f4, ⟨iC, iR⟩, ⟨v1, v2, v3⟩, v4⟩ | ⟨C2, R2, d1, d2, d3, d4, d5⟩
  case inr =>
    rw [d1] at e1
    rw [d2] at e2
    simp only [Option.bind_some] at e1 e2
    rw [if_neg (fun z => z trivial)] at e1
    have ua : ruR s r0 R2 (xup R2 456 (30 * s + r0) (-1)) := ru_at (by omega) (by omega)
    have hp : 0 < xup R2 456 (30 * s + r0) (-1) 439 12 := by rw [ua.lo (by omega)]; exact d3.pos
    rw [m_partf hp] at e2
    simp only [Option.bind_some] at e2
    obtain ⟨R', z1, z2⟩ := bad _ hp
    rw [z1] at e2
    simp only [Option.bind_some] at e2
    have hp2 : R' 439 12 = R2 439 12 := by rw [z2.lo (by omega), ua.lo (by omega)]
    rw [m_168f (by rw [hp2]; exact d3.pos)] at e2
    exact Or.inr ⟨C2, R', e1, e2, d3.fr (fun _ _ _ => rfl) ⟨hp2, by rw [z2.lo (by omega), ua.lo (by omega)]⟩, fC1.tr d4.wd, fR1.tr (d5.wd.tr ((ua.inR.tr z2.inR).fx rr.1 rr.2))⟩
  rw [d1] at e1
  rw [d6] at e2
  simp only [Option.bind_some] at e1 e2
  rw [if_pos (by omega), d3, d4] at e1
  simp only [isO_law w2, Bool.and_self, cond_true, d2, Option.bind_some] at e1
  have hS2 := hS1.fx (iC.fx rr.1 rr.2) (iR.fx rr.1 rr.2)
  have h455' : xup R2 456 (30 * s + r0) q 455 (30 * s + r0) = 0 := by rw [xup_ne (by omega), v4]; exact h455
  have h456' : xup R2 456 (30 * s + r0) q 456 (30 * s + r0) = q := xup_eq _ _ _ _
  generalize xup R2 456 (30 * s + r0) q = Y at e2 hQ2 hN2 hL2 hS2 iR h455' h456'
  have fxA := fC1.tr (iC.fx rr.1 rr.2)
  have fxB := fR1.tr (iR.fx rr.1 rr.2)
  rcases part_pair hS2 hQ2 hN2 with ⟨a, b, C3, R3, d1, d2, ⟨f1, f2, f3⟩, ⟨g1, g2⟩, g4, hQ3, hN3, mono3, ⟨fC3, -⟩, fR3⟩ | ⟨C3, R3, d1, d2, d3, d4, d5⟩
  case inr =>
    rw [d1] at e1
    rw [d2] at e2
    simp only [Option.bind_some] at e1 e2
    rw [if_neg (fun z => z trivial)] at e1
    obtain ⟨R', z1, z2⟩ := bad _ d3.pos
    rw [z1] at e2
    simp only [Option.bind_some] at e2
    have hp2 : R' 439 12 = R3 439 12 := z2.lo (by omega)
    rw [m_168f (by rw [hp2]; exact d3.pos)] at e2
    exact Or.inr ⟨C3, R', e1, e2, d3.fr (fun _ _ _ => rfl) ⟨hp2, z2.lo (by omega)⟩, fxA.tr d4.wd, fxB.tr (d5.wd.tr (z2.inR.fx rr.1 rr.2))⟩
  rw [d1] at e1
  rw [d2] at e2
  simp only [Option.bind_some] at e1 e2
  rw [if_pos (by omega)] at e1
  clear bad
  have hS3 : gST n m w s C3 R3 := hS2.fx fC3.wd fR3.wd
  have hL3 : gLo w s (t + 1 + 1 + 3) k0 S P r0 C3 R3 := hL2.inn w2 fC3.inC fR3.inR mono3 (by omega)
  have ua : ruR s r0 R3 (xup R3 458 (30 * s + r0) a) := ru_at (by omega) (by omega)
  have ub : ruR s r0 (xup R3 458 (30 * s + r0) a) (xup (xup R3 458 (30 * s + r0) a) 459 (30 * s + r0) b) := ru_at (by omega) (by omega)
  rw [f2, ua.lo (by omega), f3] at e2
  have uab : ruR s r0 R3 (xup (xup R3 458 (30 * s + r0) a) 459 (30 * s + r0) b) := fun c j hc => (ub c j hc).trans (ua c j hc)
  have y1 : xup (xup R3 458 (30 * s + r0) a) 459 (30 * s + r0) b 458 (30 * s + r0) = a ∧ xup (xup R3 458 (30 * s + r0) a) 459 (30 * s + r0) b 459 (30 * s + r0) = b := ⟨by rw [xup_ne (by omega), xup_eq], xup_eq _ _ _ _⟩
  have y2 : xup (xup R3 458 (30 * s + r0) a) 459 (30 * s + r0) b 455 (30 * s + r0) = 0 ∧ xup (xup R3 458 (30 * s + r0) a) 459 (30 * s + r0) b 456 (30 * s + r0) = q := ⟨by rw [xup_ne (by omega), xup_ne (by omega), fR3 _ _ (by omega)]; exact h455', by rw [xup_ne (by omega), xup_ne (by omega), fR3 _ _ (by omega)]; exact h456'⟩
  generalize xup (xup R3 458 (30 * s + r0) a) 459 (30 * s + r0) b = Z at e2 uab y1 y2
  clear ua ub
  have ur := ruC.rf w r0 C3
  have hSZ : gST n m w s C3 Z := hS3.fx (fxC.rf _ _) (uab.inR.fx rr.1 rr.2)
  have hFZ : FX w s r0 k0 C3 Z := by
    unfold FX
    rw [y1.1, y1.2, y2.1, y2.2, fC3 (w + 5) r0 (by omega), fC3 (w + 10) r0 (by omega), fC3 (w + 12 + r0) 0 (by omega), v1, v2, v3, u1]
    refine ⟨⟨rfl, rfl, rfl, rfl⟩, ⟨f1, g1.1, g2.2⟩, fun z => ?_⟩
    have nq : ¬ q = -1 := fun y => mono3 (f4 y) z
    exact ⟨q1r.2.2 nq, g4 z⟩
  have eT : f_Reader_takeFixed C = if ¬ C3 51 4 = 2 then f_Reader_takeFixed_66 0 C3 else (f_Reader_take 2 C3).bind fun r4 => if ¬ r4.1 = 0 then f_Reader_takeFixed_66 1 r4.2 else some (0, r4.2) := by
    rw [e1]
    by_cases c : C3 51 4 = 2
    · rw [if_neg (show ¬ ¬ C3 51 4 = 2 from fun z => z c), if_neg (show ¬ ¬ C3 51 4 = 2 from fun z => z c), if_neg (by omega)]
    · rw [if_pos (show ¬ C3 51 4 = 2 from c), if_pos (show ¬ C3 51 4 = 2 from c)]
      simp
  rcases fixed_each (a := a) (b := b) (Z := Z) hSZ (hQ3.ru hw53 rr.1 ur uab) (hN3.ru hw53 rr.1 ur uab) (hL3.inn w2 (inC.rf _ _ _) uab.inR id (Int.le_refl _)) hFZ eT e2 with ⟨C', R', t', y1, y2, y3, y4, y5, y6⟩ | ⟨C', R', y1, y2, y3, y4, y5⟩
  · exact Or.inl ⟨C', R', t', k0, S, P, r0 + 1, y1, y2, by omega, y4, fxA.tr (fC3.wd.tr y5), fxB.tr (fR3.wd.tr ((uab.inR.fx rr.1 rr.2).tr y6))⟩
  · exact Or.inr ⟨C', R', y1, y2, y3, fxA.tr (fC3.wd.tr y4), fxB.tr (fR3.wd.tr ((uab.inR.fx rr.1 rr.2).tr y5))⟩
end
