/-! read: fixed. -/
section
variable {C R M : em_M} {n m t w s k0 S P r0 r : Int}
def FX (w s r k0 : Int) (C R : em_M) : Prop := (R 455 (30 * s + r) = 0 ∧ C (w + 5) r = 1 ∧ C (w + 10) r = 1 ∧ R 456 (30 * s + r) = C (w + 12 + r) 0) ∧ (C 51 11 = fr_of (R 458 (30 * s + r)) (R 459 (30 * s + r)) ∧ 0 ≤ R 458 (30 * s + r) ∧ R 459 (30 * s + r) ≤ 999) ∧ (C 51 8 = 0 → (0 ≤ C (w + 12 + r) 0 ∧ C (w + 12 + r) 0 < k0) ∧ 1 ≤ R 459 (30 * s + r) ∧ R 458 (30 * s + r) ≤ R 459 (30 * s + r))
theorem FX.fr {C' R' : em_M} (hw : 53 ≤ w) (rr : 0 ≤ r) (h : FX w s r k0 C R) (hC : fnC C C') (h11 : C' 51 11 = C 51 11) (mono : ¬ C 51 8 = 0 → ¬ C' 51 8 = 0) (hR : ∀ c, (455 ≤ c ∧ c ≤ 459) → R' c (30 * s + r) = R c (30 * s + r)) : FX w s r k0 C' R' := by
  obtain ⟨⟨a1, a2, a3, a4⟩, ⟨a5, a6, a7⟩, a8⟩ := h
  unfold FX
  rw [hR 455 (by omega), hR 456 (by omega), hR 458 (by omega), hR 459 (by omega), hC (w + 5) r (by omega), hC (w + 10) r (by omega), hC (w + 12 + r) 0 (by omega), h11]
  exact ⟨⟨a1, a2, a3, a4⟩, ⟨a5, a6, a7⟩, fun z => a8 (Classical.byContradiction (fun y => mono y z))⟩
/-- the outcome of a rule from inside -/
def RUo (n m w s t k0 S P r : Int) (C R : em_M) (T U : Option (Int × em_M)) : Prop := (∃ C' R' t', T = some (1, C') ∧ U = some (0, R') ∧ t < t' ∧ (gQ n m t' C' R' ∧ gN m t' C' R' ∧ gLL w s t' k0 S P (r + 1) C' R') ∧ fxC w C C' ∧ fxR s R R') ∨ (∃ C' R', T = some (0, C') ∧ U = some (0, R') ∧ gBd n m C' R' ∧ fxC w C C' ∧ fxR s R R')
theorem RUo.tr {C0 R0 : em_M} {t' : Int} {T U : Option (Int × em_M)} (h : RUo n m w s t' k0 S P r C R T U) (ht : t ≤ t') (hC : fxC w C0 C) (hR : fxR s R0 R) : RUo n m w s t k0 S P r C0 R0 T U := by
  rcases h with ⟨C', R', u, a1, a2, a3, a4, a5, a6⟩ | ⟨C', R', a1, a2, a3, a4, a5⟩
  · exact Or.inl ⟨C', R', u, a1, a2, by omega, a4, hC.tr a5, hR.tr a6⟩
  · exact Or.inr ⟨C', R', a1, a2, a3, hC.tr a4, hR.tr a5⟩
theorem fixed_end {o v2 v3 : Int} {T U : Option (Int × em_M)} (hS : gST n m w s C R) (hQ : gQ n m t C R) (hN : gN m t C R) (hL : gLo w s t k0 S P r C R) (hF : FX w s r k0 C R) (ho : o = 0 ∨ o = 1) (h460 : R 460 (30 * s + r) = o) (h461 : R 461 (30 * s + r) = v2) (h462 : R 462 (30 * s + r) = v3) (h2 : C 51 8 = 0 → -1 ≤ v2 ∧ v2 < k0) (h3 : C 51 8 = 0 → -1 ≤ v3 ∧ v3 < k0) (eT : T = (f_Law_setFixed w (C 51 11) o v2 v3 C).bind fun r0 => (f_Reader_take 59 r0.2).bind fun r1 => if r1.1 = 0 ∨ r1.1 = 1 then some (r1.1, r1.2) else none) (eU : U = f_Model_tell_168 R) : RUo n m w s t k0 S P r C R T U := by
  obtain ⟨-, ⟨w1, w2⟩, s1, s2⟩ := id hS
  have rr := hL.2.2.1.2.2
  have hw53 : 53 ≤ w := by omega
  obtain ⟨C1, b1, ⟨b2', b3, b4, b5⟩, b6⟩ := f_setFixed (v := C 51 11) (a := v2) (b := v3) w2 hL.2.2.1.1 rr.1 rr.2 ho
  rw [b1] at eT
  simp only [Option.bind_some] at eT
  have u : ruC w r C C1 := fun c j hc => b6 c j (fun z => hc (Or.inl ⟨z.1, by omega, z.2.2⟩))
  have m8 : C1 51 8 = C 51 8 := u.lo hw53 rr.1 (by omega)
  have hS1 : gST n m w s C1 R := hS.fx (u.inC.fx rr.1 rr.2) (fxR.rf _ _)
  have hL1 : gLo w s t k0 S P r C1 R := hL.inn w2 u.inC (inR.rf _ _ _) (fun z => by rw [m8]; exact z) (Int.le_refl _)
  obtain ⟨⟨x1, x2, x3, x4⟩, ⟨x5, x6, x7⟩, x8⟩ := hF
  have hrule : C1 51 8 = 0 → RRule (mx C1 R) w s r := fun z => by
    rw [m8] at z
    obtain ⟨y1, y2, y3⟩ := x8 z
    have z2 := h2 z
    have z3 := h3 z
    have hkk : C1 w 0 = k0 := hL1.1.1.1
    refine Or.inl ⟨?_, ?_, ?_⟩
    · rw [mx_r (by omega)]; exact x1
    · rw [mx_c (by omega), b6 _ _ (by omega)]; exact x2
    · unfold RFix
      rw [mx_c (c := w + 10) (by omega), mx_c (c := w + 12 + r) (by omega), mx_c (c := w) (by omega), mx_c (c := w + 6) (by omega), mx_c (c := w + 7) (by omega), mx_c (c := w + 8) (by omega), mx_c (c := w + 9) (by omega), mx_r (c := 456) (by omega), mx_r (c := 458) (by omega), mx_r (c := 459) (by omega), mx_r (c := 460) (by omega), mx_r (c := 461) (by omega), mx_r (c := 462) (by omega), b2', b3, b4, b5, hkk, h460, h461, h462, b6 (w + 10) r (by omega), b6 (w + 12 + r) 0 (by omega)]
      exact ⟨x3, ⟨x4, y1⟩, ⟨x5, x6, y3, y2, x7⟩, ⟨rfl, ho⟩, ⟨rfl, z2⟩, rfl, z3⟩
  rcases end_pair hS1 (hQ.ru hw53 rr.1 u (ruR.rf s _ _)) (hN.ru hw53 rr.1 u (ruR.rf s _ _)) hL1 hrule with ⟨C6, R6, d1, d2, d3, d4, d5⟩ | ⟨C6, R6, d1, d2, d3, d4, d5⟩
  · rw [d1] at eT
    rw [d2] at eU
    simp only [Option.bind_some] at eT
    rw [if_pos (by simp)] at eT
    exact Or.inl ⟨C6, R6, _, eT, eU, by omega, d3, (u.inC.fx rr.1 rr.2).tr d4, d5⟩
  · rw [d1] at eT
    rw [d2] at eU
    simp only [Option.bind_some] at eT
    rw [if_pos (by simp)] at eT
    exact Or.inr ⟨C6, R6, eT, eU, d3, (u.inC.fx rr.1 rr.2).tr d4, d5⟩
/-- one token further, inside a rule -/
theorem in_next {d : Int} (hS : gST n m w s C R) (hQ : gQ n m t C R) (hN : gN m t C R) (hL : gLo w s t k0 S P r C R) (c : C 51 4 = d) (d16 : ¬ d = 16) (d17 : ¬ d = 17) : (∃ C' R', f_Reader_take d C = some (1, C') ∧ f_Model_next R = some (0, R') ∧ (gST n m w s C' R' ∧ gQ n m (t + 1) C' R' ∧ gN m (t + 1) C' R' ∧ gLo w s (t + 1) k0 S P r C' R') ∧ (fnC C C' ∧ C' 51 11 = C 51 11 ∧ C' 51 8 = C 51 8) ∧ fnR R R') ∨ (∃ C' R', f_Reader_take d C = some (0, C') ∧ f_Model_next R = some (0, R') ∧ gBd n m C' R' ∧ fnC C C' ∧ fnR R R') := by
  rcases tk_next hS hQ c d16 d17 with ⟨t6, d1, d2, hQ1⟩ | ⟨t6, d1, d2, d3⟩
  · exact Or.inl ⟨_, _, d1, d2, ⟨hS.fx fnC_go.wd (fnR_go _).wd, hQ1, (hN.up (by omega)).fr (fun c j hc => goC_ne (by omega)) (fun c j hc => xup_ne (by omega)), hL.inn hS.2.1.2 fnC_go.inC (fnR_go _).inR (fun z => by rw [goC_ne (by omega)]; exact z) (by omega)⟩, ⟨fnC_go, goC_ne (by omega), goC_ne (by omega)⟩, fnR_go _⟩
  · exact Or.inr ⟨_, _, d1, d2, d3, fnC_6 _, fnR_fl _ _⟩
theorem fixed98 {o v2 : Int} {T U : Option (Int × em_M)} (hS : gST n m w s C R) (hQ : gQ n m t C R) (hN : gN m t C R) (hL : gLo w s t k0 S P r C R) (hF : FX w s r k0 C R) (ho : o = 0 ∨ o = 1) (h460 : R 460 (30 * s + r) = o) (h461 : R 461 (30 * s + r) = v2) (h462 : R 462 (30 * s + r) = -1) (h2 : C 51 8 = 0 → -1 ≤ v2 ∧ v2 < k0) (eT : T = f_Reader_takeFixed_98 o v2 C) (eU : U = ((f_Model_is 29 R).bind fun r1 => if r1.1 = 0 then some ((0 : Int), r1.2) else (f_Model_next r1.2).bind fun r2 => (f_Model_namedKin r2.2).bind fun r3 => some ((0 : Int), xup r3.2 462 (30 * s + r) r3.1)).bind fun x => f_Model_tell_168 x.2) : RUo n m w s t k0 S P r C R T U := by
  obtain ⟨-, ⟨w1, w2⟩, s1, s2⟩ := id hS
  have rr := hL.2.2.1.2.2
  have hw53 : 53 ≤ w := by omega
  have hk0 := hL.1.1.2.2
  obtain ⟨⟨q1, q2, q3⟩, ⟨q4, q5⟩, ⟨q6, q7⟩, -⟩ := id hQ
  have hkd := kd_word hS hQ (d := 4) (by omega) (by omega)
  have hmp : 20 + mpW 4 = 29 := by decide
  rw [hmp] at hkd
  rw [q_Reader_takeFixed_98] at eT
  simp only [em_cd, w1, isO_law w2, Bool.and_self, cond_true] at eT
  by_cases c : C 51 4 = 4
  case neg =>
    rw [if_pos c] at eT
    rw [m_is0 q7 q5 q1 (by omega) (fun z => c (hkd.mpr z))] at eU
    simp only [Option.bind_some] at eU
    rw [if_pos trivial] at eU
    exact fixed_end hS hQ hN hL hF ho h460 h461 h462 h2 (fun _ => ⟨by omega, by omega⟩) eT eU
  rw [if_neg (fun z => z c)] at eT
  rw [m_is1 q7 q5 q1 (by omega) (hkd.mp c)] at eU
  simp only [Option.bind_some] at eU
  rw [if_neg (by omega)] at eU
  rcases in_next hS hQ hN hL c (by omega) (by omega) with ⟨C1, R1, d1, d2, ⟨hS1, hQ1, hN1, hL1⟩, ⟨fC1, x11, x8⟩, fR1⟩ | ⟨C1, R1, d1, d2, d3, d4, d5⟩
  case inr =>
    rw [d1] at eT
    rw [d2] at eU
    simp only [Option.bind_some] at eT eU
    rw [if_pos trivial] at eT
    rw [m_namedf d3.pos] at eU
    simp only [Option.bind_some] at eU
    have ua : ruR s r R1 (xup R1 462 (30 * s + r) (-1)) := ru_at (by omega) (by omega)
    rw [m_168f (by rw [ua.lo (by omega)]; exact d3.pos)] at eU
    exact Or.inr ⟨C1, _, eT, eU, d3.fr (fun _ _ _ => rfl) ⟨ua.lo (by omega), ua.lo (by omega)⟩, d4.wd, d5.wd.tr (ua.inR.fx rr.1 rr.2)⟩
  rw [d1] at eT
  rw [d2] at eU
  simp only [Option.bind_some] at eT eU
  rw [if_neg (by omega)] at eT
  rcases told_pair hS1 hQ1 hN1 hL1.1 with ⟨q, C2, R2, d1, d2, ⟨-, f2, f3, f4⟩, hQ2, hN2, mono2, ⟨fC2, f11⟩, fR2⟩ | ⟨C2, R2, d1, d2, d3, d4, d5⟩
  case inr =>
    rw [d1] at eT
    rw [d2] at eU
    simp only [Option.bind_some] at eT eU
    rw [if_neg (fun z => z trivial)] at eT
    have ua : ruR s r R2 (xup R2 462 (30 * s + r) (-1)) := ru_at (by omega) (by omega)
    rw [m_168f (by rw [ua.lo (by omega)]; exact d3.pos)] at eU
    exact Or.inr ⟨C2, _, eT, eU, d3.fr (fun _ _ _ => rfl) ⟨ua.lo (by omega), ua.lo (by omega)⟩, (fC1.tr d4).wd, (fR1.tr d5).wd.tr (ua.inR.fx rr.1 rr.2)⟩
  rw [d1] at eT
  rw [d2] at eU
  simp only [Option.bind_some] at eT eU
  have hS2 : gST n m w s C2 R2 := hS1.fx fC2.wd fR2.wd
  have q1r := f3.rng hk0.2
  rw [if_pos (by omega), hS2.2.1.1, f2] at eT
  simp only [isO_law w2, Bool.and_self, cond_true] at eT
  have ua : ruR s r R2 (xup R2 462 (30 * s + r) q) := ru_at (by omega) (by omega)
  have fC : fnC C C2 := fC1.tr fC2
  have fR : fnR R R2 := fR1.tr fR2
  have mono : ¬ C 51 8 = 0 → ¬ C2 51 8 = 0 := fun z => mono2 (by rw [x8]; exact z)
  have hS3 : gST n m w s C2 (xup R2 462 (30 * s + r) q) := hS2.fx (fxC.rf _ _) (ua.inR.fx rr.1 rr.2)
  have ur := ruC.rf w r C2
  refine (fixed_end (o := o) (v2 := v2) (v3 := q) hS3 (hQ2.ru hw53 rr.1 ur ua) (hN2.ru hw53 rr.1 ur ua) (hL.inn w2 fC.inC (fR.inR.tr ua.inR) mono (by omega)) (hF.fr hw53 rr.1 fC (by rw [f11, x11]) mono (fun c hc => by rw [xup_ne (by omega), fR c _ (by omega)])) ho (by rw [xup_ne (by omega), fR _ _ (by omega)]; exact h460) (by rw [xup_ne (by omega), fR _ _ (by omega)]; exact h461) (xup_eq _ _ _ _) (fun z => h2 (Classical.byContradiction (fun y => mono y z))) (fun z => ?_) eT eU).tr (by omega) fC.wd (fR.wd.tr (ua.inR.fx rr.1 rr.2))
  have nq : ¬ q = -1 := fun y => f4 y z
  have := q1r.2.2 nq
  exact ⟨by omega, by omega⟩
theorem fixed66 {o : Int} {T U : Option (Int × em_M)} (hS : gST n m w s C R) (hQ : gQ n m t C R) (hN : gN m t C R) (hL : gLo w s t k0 S P r C R) (hF : FX w s r k0 C R) (ho : o = 0 ∨ o = 1) (h460 : R 460 (30 * s + r) = o) (eT : T = f_Reader_takeFixed_66 o C) (eU : U = (f_Model_tellFixed_59 (30 * s + r) R).bind fun x => f_Model_tell_168 x.2) : RUo n m w s t k0 S P r C R T U := by
  obtain ⟨-, ⟨w1, w2⟩, s1, s2⟩ := id hS
  have rr := hL.2.2.1.2.2
  have hw53 : 53 ≤ w := by omega
  have hk0 := hL.1.1.2.2
  obtain ⟨⟨q1, q2, q3⟩, ⟨q4, q5⟩, ⟨q6, q7⟩, -⟩ := id hQ
  have hkd := kd_word hS hQ (d := 3) (by omega) (by omega)
  have hmp : 20 + mpW 3 = 28 := by decide
  rw [hmp] at hkd
  rw [q_Reader_takeFixed_66] at eT
  rw [q_Model_tellFixed_59] at eU
  simp only [em_cd, if_pos (show 0 ≤ 30 * s + r ∧ 30 * s + r < 60 by omega)] at eT eU
  have ua : ruR s r R (xup R 461 (30 * s + r) (-1)) := ru_at (by omega) (by omega)
  have ub : ruR s r (xup R 461 (30 * s + r) (-1)) (xup (xup R 461 (30 * s + r) (-1)) 462 (30 * s + r) (-1)) := ru_at (by omega) (by omega)
  have uR : inR s r R (xup (xup R 461 (30 * s + r) (-1)) 462 (30 * s + r) (-1)) := ua.inR.tr ub.inR
  have ur := ruC.rf w r C
  have hS' : gST n m w s C (xup (xup R 461 (30 * s + r) (-1)) 462 (30 * s + r) (-1)) := hS.fx (fxC.rf _ _) (uR.fx rr.1 rr.2)
  have hQ' : gQ n m t C (xup (xup R 461 (30 * s + r) (-1)) 462 (30 * s + r) (-1)) := (hQ.ru hw53 rr.1 ur ua).ru hw53 rr.1 ur ub
  have hN' : gN m t C (xup (xup R 461 (30 * s + r) (-1)) 462 (30 * s + r) (-1)) := (hN.ru hw53 rr.1 ur ua).ru hw53 rr.1 ur ub
  have hL' : gLo w s t k0 S P r C (xup (xup R 461 (30 * s + r) (-1)) 462 (30 * s + r) (-1)) := hL.inn w2 (inC.rf _ _ _) uR id (Int.le_refl _)
  have v1 : xup (xup R 461 (30 * s + r) (-1)) 462 (30 * s + r) (-1) 461 (30 * s + r) = -1 ∧ xup (xup R 461 (30 * s + r) (-1)) 462 (30 * s + r) (-1) 462 (30 * s + r) = -1 := ⟨by rw [xup_ne (by omega), xup_eq], xup_eq _ _ _ _⟩
  have vk : ∀ c, (455 ≤ c ∧ c ≤ 460) ∨ c = 442 → ∀ j, xup (xup R 461 (30 * s + r) (-1)) 462 (30 * s + r) (-1) c j = R c j := fun c hc j => by rw [xup_ne (by omega), xup_ne (by omega)]
  generalize xup (xup R 461 (30 * s + r) (-1)) 462 (30 * s + r) (-1) = Y at eU uR hS' hQ' hN' hL' v1 vk
  clear ua ub
  have hF' : FX w s r k0 C Y := hF.fr hw53 rr.1 (fnC.rf _) rfl id (fun c hc => vk c (by omega) _)
  have h460' : Y 460 (30 * s + r) = o := by rw [vk 460 (by omega)]; exact h460
  obtain ⟨-, ⟨-, y5⟩, ⟨-, y7⟩, -⟩ := id hQ'
  by_cases c : C 51 4 = 3
  case neg =>
    rw [if_pos c] at eT
    rw [m_is0 y7 y5 q1 (by omega) (fun z => c (hkd.mpr (by rw [← vk 442 (by omega)]; exact z)))] at eU
    simp only [Option.bind_some] at eU
    rw [if_pos trivial] at eU
    exact (fixed98 hS' hQ' hN' hL' hF' ho h460' v1.1 v1.2 (fun _ => ⟨by omega, by omega⟩) eT eU).tr (Int.le_refl _) (fxC.rf _ _) (uR.fx rr.1 rr.2)
  rw [if_neg (fun z => z c)] at eT
  rw [m_is1 y7 y5 q1 (by omega) (by rw [vk 442 (by omega)]; exact hkd.mp c)] at eU
  simp only [Option.bind_some] at eU
  rw [if_neg (by omega)] at eU
  rcases in_next hS' hQ' hN' hL' c (by omega) (by omega) with ⟨C1, R1, d1, d2, ⟨hS1, hQ1, hN1, hL1⟩, ⟨fC1, x11, x8⟩, fR1⟩ | ⟨C1, R1, d1, d2, d3, d4, d5⟩
  case inr =>
    rw [d1] at eT
    rw [d2] at eU
    simp only [Option.bind_some] at eT eU
    rw [if_pos trivial] at eT
    rw [m_namedf d3.pos] at eU
    simp only [Option.bind_some] at eU
    have ua : ruR s r R1 (xup R1 461 (30 * s + r) (-1)) := ru_at (by omega) (by omega)
    have hp : 0 < xup R1 461 (30 * s + r) (-1) 439 12 := by rw [ua.lo (by omega)]; exact d3.pos
    rw [m_isf 29 (by omega)] at eU
    simp only [Option.bind_some] at eU
    rw [if_pos trivial] at eU
    simp only [Option.bind_some] at eU
    rw [m_168f hp] at eU
    exact Or.inr ⟨C1, _, eT, eU, d3.fr (fun _ _ _ => rfl) ⟨ua.lo (by omega), ua.lo (by omega)⟩, d4.wd, (uR.fx rr.1 rr.2).tr (d5.wd.tr (ua.inR.fx rr.1 rr.2))⟩
  rw [d1] at eT
  rw [d2] at eU
  simp only [Option.bind_some] at eT eU
  rw [if_neg (by omega)] at eT
  rcases told_pair hS1 hQ1 hN1 hL1.1 with ⟨q, C2, R2, d1, d2, ⟨-, f2, f3, f4⟩, hQ2, hN2, mono2, ⟨fC2, f11⟩, fR2⟩ | ⟨C2, R2, d1, d2, d3, d4, d5⟩
  case inr =>
    rw [d1] at eT
    rw [d2] at eU
    simp only [Option.bind_some] at eT eU
    rw [if_neg (fun z => z trivial)] at eT
    have ua : ruR s r R2 (xup R2 461 (30 * s + r) (-1)) := ru_at (by omega) (by omega)
    have hp : 0 < xup R2 461 (30 * s + r) (-1) 439 12 := by rw [ua.lo (by omega)]; exact d3.pos
    rw [m_isf 29 (by omega)] at eU
    simp only [Option.bind_some] at eU
    rw [if_pos trivial] at eU
    simp only [Option.bind_some] at eU
    rw [m_168f hp] at eU
    exact Or.inr ⟨C2, _, eT, eU, d3.fr (fun _ _ _ => rfl) ⟨ua.lo (by omega), ua.lo (by omega)⟩, (fC1.tr d4).wd, (uR.fx rr.1 rr.2).tr ((fR1.tr d5).wd.tr (ua.inR.fx rr.1 rr.2))⟩
  rw [d1] at eT
  rw [d2] at eU
  simp only [Option.bind_some] at eT eU
  have hS2 : gST n m w s C2 R2 := hS1.fx fC2.wd fR2.wd
  have q1r := f3.rng hk0.2
  rw [if_pos (by omega), f2] at eT
  have ua : ruR s r R2 (xup R2 461 (30 * s + r) q) := ru_at (by omega) (by omega)
  have fC : fnC C C2 := fC1.tr fC2
  have fR : fnR Y R2 := fR1.tr fR2
  have mono : ¬ C 51 8 = 0 → ¬ C2 51 8 = 0 := fun z => mono2 (by rw [x8]; exact z)
  have hS3 : gST n m w s C2 (xup R2 461 (30 * s + r) q) := hS2.fx (fxC.rf _ _) (ua.inR.fx rr.1 rr.2)
  have ur := ruC.rf w r C2
  refine (fixed98 (o := o) (v2 := q) hS3 (hQ2.ru hw53 rr.1 ur ua) (hN2.ru hw53 rr.1 ur ua) (hL'.inn w2 fC.inC (fR.inR.tr ua.inR) mono (by omega)) (hF'.fr hw53 rr.1 fC (by rw [f11, x11]) mono (fun c hc => by rw [xup_ne (by omega), fR c _ (by omega)])) ho (by rw [xup_ne (by omega), fR _ _ (by omega)]; exact h460') (xup_eq _ _ _ _) (by rw [xup_ne (by omega), fR _ _ (by omega)]; exact v1.2) (fun z => ?_) eT eU).tr (by omega) fC.wd ((uR.fx rr.1 rr.2).tr (fR.wd.tr (ua.inR.fx rr.1 rr.2)))
  have nq : ¬ q = -1 := fun y => f4 y z
  have := q1r.2.2 nq
  exact ⟨by omega, by omega⟩
end
