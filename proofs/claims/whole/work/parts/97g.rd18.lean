/-! read: lists, whole. -/
section
variable {C R M : em_M} {n m t w s k0 S P r0 r : Int}
/-- an item of BACK -/
theorem item7 {T U : Option (Int × em_M)} {a f0 q : Int} (hS : gST n m w s C R) (hQ : gQ n m (t + 1) C R) (hN : gN m (t + 1) C R) (hL : gLo w s (t + 1) k0 S P r C R) (hI : LI w s r k0 7 a f0 t C R) (a0 : 0 ≤ a) (a8 : a < 8) (hf : f0 ≤ t) (h10 : C 51 10 = q) (c3 : C 3 t = 14) (hk : isKin C k0 (C 5 t) q) (hz : C 51 8 = 0 → 0 ≤ q ∧ q < k0) (ih : LNx n m w s k0 S P r 7 0 (a + 1) f0) (eT : T = (f_Reader_takeListed_55 7 C).bind fun r0 => if ¬ r0.1 = 0 then (if r0.2 51 4 = 44 then (f_Reader_take 44 r0.2).bind fun r1 => if ¬ r1.1 = 0 then f_Reader_takeList_12 7 (a + 1) r1.2 else some (0, r1.2) else (f_Reader_take 59 r0.2).bind fun r1 => if r1.1 = 0 ∨ r1.1 = 1 then some (r1.1, r1.2) else none) else some (0, r0.2)) (eU : U = (f_Model_tellList_158 (30 * s + r) 0 a f0 q R).bind fun x => f_Model_tell_168 x.2) : RUo n m w s (t + 1) k0 S P r C R T U := by
  obtain ⟨-, ⟨w1, w2⟩, s1, s2⟩ := id hS
  have rr := hL.2.2.1.2.2
  have hw53 : 53 ≤ w := by omega
  have hix : 0 ≤ 8 * (30 * s + r) + a ∧ 8 * (30 * s + r) + a < 480 := by omega
  rw [q_Reader_takeListed_55] at eT
  simp only [em_cd, w1, h10, isO_law w2, Bool.and_self, cond_true] at eT
  rw [if_pos (by omega)] at eT
  obtain ⟨C1, b1, ⟨b2', b3, b4⟩, b5⟩ := f_addToList (q := q) (v := 0) (a := a) w2 (r := r) (C := C) hL.2.2.1.1 rr.1 rr.2 hI.1.2.2 a0 a8
  rw [b1] at eT
  simp only [Option.bind_some] at eT
  rw [if_pos (by omega)] at eT
  rw [q_Model_tellList_158] at eU
  simp only [em_cd, x32_s (show -1000000 ≤ 8 * (30 * s + r) by omega) (show 8 * (30 * s + r) ≤ 1000000 by omega), x32_s (show -1000000 ≤ 8 * (30 * s + r) + a by omega) (show 8 * (30 * s + r) + a ≤ 1000000 by omega), if_pos hix, x32_s (show -1000000 ≤ a + 1 by omega) (show a + 1 ≤ 1000000 by omega)] at eU
  rw [if_pos trivial] at eU
  have uC : ruC w r C C1 := ru_add b5
  have fR : ∀ c j, ¬ ((c = 464 ∨ c = 465) ∧ j = 8 * (30 * s + r) + a) → xup (xup R 464 (8 * (30 * s + r) + a) q) 465 (8 * (30 * s + r) + a) 0 c j = R c j := fun c j hc => by rw [xup_ne (by omega), xup_ne (by omega)]
  have vR : xup (xup R 464 (8 * (30 * s + r) + a) q) 465 (8 * (30 * s + r) + a) 0 464 (8 * (30 * s + r) + a) = q ∧ xup (xup R 464 (8 * (30 * s + r) + a) q) 465 (8 * (30 * s + r) + a) 0 465 (8 * (30 * s + r) + a) = 0 := ⟨by rw [xup_ne (by omega), xup_eq], xup_eq _ _ _ _⟩
  generalize xup (xup R 464 (8 * (30 * s + r) + a) q) 465 (8 * (30 * s + r) + a) 0 = R1 at eU fR vR
  have uR : ruR s r R R1 := fun c j hc => fR c j (fun z => hc (Or.inr ⟨by omega, by omega, by omega, by omega⟩))
  have hI1 : LI w s r k0 7 (a + 1) f0 (t + 1) C1 R1 := hI.add hw53 rr.1 a0 a8 b5 b2' b3 b4 (fun c j _ _ hc => fR c j hc) vR.1 vR.2 ⟨by omega, by omega⟩ (fun z => ⟨hz z, fun y => by omega⟩) hf (Int.le_refl _) (by omega) c3 hk (fun y y0 y1 y2 => by omega)
  exact (list_cont (hS.fx (uC.inC.fx rr.1 rr.2) (uR.inR.fx rr.1 rr.2)) (hQ.ru hw53 rr.1 uC uR) (hN.ru hw53 rr.1 uC uR) (hL.inn w2 uC.inC uR.inR (fun z => by rw [uC.lo hw53 rr.1 (by omega)]; exact z) (Int.le_refl _)) (Or.inr rfl) hI1 (by omega) (by omega) (by omega) ih eT eU).tr (Int.le_refl _) (uC.inC.fx rr.1 rr.2) (uR.inR.fx rr.1 rr.2)
/-- an item of REST -/
theorem item6 {T U : Option (Int × em_M)} {a f0 q : Int} (hS : gST n m w s C R) (hQ : gQ n m (t + 1) C R) (hN : gN m (t + 1) C R) (hL : gLo w s (t + 1) k0 S P r C R) (hI : LI w s r k0 6 a f0 t C R) (a0 : 0 ≤ a) (a8 : a < 8) (hf : f0 ≤ t) (t0 : 0 ≤ t) (h10 : C 51 10 = q) (c3 : C 3 t = 14) (hk : isKin C k0 (C 5 t) q) (hz : C 51 8 = 0 → 0 ≤ q ∧ q < k0) (ih : LNx n m w s k0 S P r 6 1 (a + 1) f0) (eT : T = (f_Reader_takeListed_55 6 C).bind fun r0 => if ¬ r0.1 = 0 then (if r0.2 51 4 = 44 then (f_Reader_take 44 r0.2).bind fun r1 => if ¬ r1.1 = 0 then f_Reader_takeList_12 6 (a + 1) r1.2 else some (0, r1.2) else (f_Reader_take 59 r0.2).bind fun r1 => if r1.1 = 0 ∨ r1.1 = 1 then some (r1.1, r1.2) else none) else some (0, r0.2)) (eU : U = (f_Model_tellList_158 (30 * s + r) 1 a f0 q R).bind fun x => f_Model_tell_168 x.2) : RUo n m w s (t + 1) k0 S P r C R T U := by
  obtain ⟨-, ⟨w1, w2⟩, s1, s2⟩ := id hS
  have rr := hL.2.2.1.2.2
  have hw53 : 53 ≤ w := by omega
  have hix : 0 ≤ 8 * (30 * s + r) + a ∧ 8 * (30 * s + r) + a < 480 := by omega
  obtain ⟨⟨q1, q2, q3⟩, ⟨q4, q5⟩, ⟨q6, q7⟩, q8, q9, q10⟩ := id hQ
  -- the reference's row
  rw [q_Model_tellList_158] at eU
  simp only [em_cd, x32_s (show -1000000 ≤ 8 * (30 * s + r) by omega) (show 8 * (30 * s + r) ≤ 1000000 by omega), x32_s (show -1000000 ≤ 8 * (30 * s + r) + a by omega) (show 8 * (30 * s + r) + a ≤ 1000000 by omega), if_pos hix] at eU
  rw [if_neg (by omega)] at eU
  have fR : ∀ c j, ¬ ((c = 464 ∨ c = 465) ∧ j = 8 * (30 * s + r) + a) → xup (xup R 464 (8 * (30 * s + r) + a) q) 465 (8 * (30 * s + r) + a) 0 c j = R c j := fun c j hc => by rw [xup_ne (by omega), xup_ne (by omega)]
  have vR : xup (xup R 464 (8 * (30 * s + r) + a) q) 465 (8 * (30 * s + r) + a) 0 464 (8 * (30 * s + r) + a) = q := by rw [xup_ne (by omega), xup_eq]
  generalize xup (xup R 464 (8 * (30 * s + r) + a) q) 465 (8 * (30 * s + r) + a) 0 = R1 at eU fR vR
  have uR : ruR s r R R1 := fun c j hc => fR c j (fun z => hc (Or.inr ⟨by omega, by omega, by omega, by omega⟩))
  have ur := ruC.rf w r C
  have hS1 : gST n m w s C R1 := hS.fx (fxC.rf _ _) (uR.inR.fx rr.1 rr.2)
  have hQ1 : gQ n m (t + 1) C R1 := hQ.ru hw53 rr.1 ur uR
  have hN1 : gN m (t + 1) C R1 := hN.ru hw53 rr.1 ur uR
  have r11 : R1 439 11 = t + 1 := hQ1.2.1.2
  rw [r11] at eU
  -- the class: a weight of 0 is noted ahead
  rw [q_Reader_takeListed_55] at eT
  simp only [em_cd, q4, x_cmp_eq] at eT
  rw [if_neg (fun z => z trivial)] at eT
  have hv := (gk hS hQ).2
  have R2def : ∃ R2, R2 = xup R1 439 11 (t + 1 + 1) := ⟨_, rfl⟩
  obtain ⟨R2, hR2⟩ := R2def
  have fR2 : ∀ c j, ¬ (c = 439 ∧ j = 11) → R2 c j = R1 c j := fun c j hc => by rw [hR2, xup_ne hc]
  have cls : ∃ CC, T = (f_Reader_takeListed_91 CC).bind (fun r0 => if ¬ r0.1 = 0 then (if r0.2 51 4 = 44 then (f_Reader_take 44 r0.2).bind fun r1 => if ¬ r1.1 = 0 then f_Reader_takeList_12 6 (a + 1) r1.2 else some (0, r1.2) else (f_Reader_take 59 r0.2).bind fun r1 => if r1.1 = 0 ∨ r1.1 = 1 then some (r1.1, r1.2) else none) else some (0, r0.2)) ∧ (∀ c j, ¬ (c = 51 ∧ (j = 8 ∨ j = 9)) → CC c j = C c j) ∧ (¬ C 51 8 = 0 → ¬ CC 51 8 = 0) ∧ (C 51 4 = 15 → (¬ C 51 5 = 0 ∧ CC = C) ∨ (C 51 5 = 0 ∧ ∃ R3, f_Model_wrong 5 (t + 1) R2 = some (0, R3) ∧ gN m (t + 1 + 1) CC R3 ∧ ¬ CC 51 8 = 0 ∧ ∀ c j, ¬ (c = 439 ∧ (j = 14 ∨ j = 15)) → R3 c j = R2 c j)) := by
    by_cases k15 : C 51 4 = 15
    · rw [if_neg (fun z => z k15)] at eT
      by_cases c0 : C 51 5 = 0
      · rw [if_neg (fun z => z c0)] at eT
        have tm : t + 1 < m := by
          refine Classical.byContradiction (fun z => ?_)
          have := (q9 (by omega)).1
          omega
        have hS2 : gST n m w s C R2 := hS1.fx (fxC.rf _ _) (fnR.wd (fun c j hc => fR2 c j (by omega)))
        have hN2 : gN m (t + 1) C R2 := hN1.fr (fun _ _ _ => rfl) (fun c j hc => fR2 c j (by omega))
        obtain ⟨CC, R3, p1, p2, p3, p4, p5, p6⟩ := nt_pair (k := 5) (tok := t + 1) hS2 (by rw [fR2 _ _ (by omega), uR.lo (by omega)]; exact q7) hN2 (by omega) q1 tm (by omega) (by omega) (by
          rcases hN2 with ⟨a, b⟩ | ⟨a, b, ⟨c1, c2, c3⟩, d⟩
          · exact Or.inl a
          · exact Or.inr (Or.inl c2))
        rw [p1] at eT
        simp only [Option.bind_some] at eT
        exact ⟨CC, eT, p5, fun _ => p4, fun _ => Or.inr ⟨c0, R3, p2, p3, p4, p6⟩⟩
      · rw [if_pos c0] at eT
        exact ⟨C, eT, fun _ _ _ => rfl, id, fun _ => Or.inl ⟨c0, rfl⟩⟩
    · rw [if_pos k15] at eT
      exact ⟨C, eT, fun _ _ _ => rfl, id, fun z => absurd z k15⟩
  obtain ⟨CC, g1, g2, g3, g4⟩ := cls
  clear eT
  have fCC : fnC C CC := fun c j hc => g2 c j (by omega)
  have hSC : gST n m w s CC R1 := hS1.fx fCC.wd (fxR.rf _ _)
  have hQC : gQ n m (t + 1) CC R1 := hQ1.fr (fun c j hc => g2 c j (by omega)) (fun _ _ _ => rfl)
  rw [q_Reader_takeListed_91] at g1
  simp only [em_cd] at g1
  rcases tk_must (d := 15) (ρ := 2) hSC hQC (kd_int hSC hQC) (by omega) (by omega) with ⟨c15, t6, d1, d2, hQ3⟩ | ⟨C3, R3, d1, d2, d3, d4, d5⟩
  case inr =>
    rw [d1] at g1
    rw [d2] at eU
    simp only [Option.bind_some] at g1 eU
    rw [if_neg (fun z => z trivial)] at g1
    simp only [Option.bind_some] at g1
    rw [if_neg (fun z => z trivial)] at g1
    have := d3.pos
    rw [if_neg (by omega)] at eU
    simp only [Option.bind_some] at eU
    rw [m_168f d3.pos] at eU
    exact Or.inr ⟨C3, R3, g1, eU, d3, fCC.wd.tr d4.wd, (uR.inR.fx rr.1 rr.2).tr d5.wd⟩
  rw [d1] at g1
  rw [d2] at eU
  simp only [Option.bind_some] at g1 eU
  rw [if_pos (by omega)] at g1
  have c15' : C 51 4 = 15 := by rw [← g2 51 4 (by omega)]; exact c15
  obtain ⟨hb, b0, b1⟩ := kd_iv hS hQ c15'
  have tm : t + 1 < m := by
    refine Classical.byContradiction (fun z => ?_)
    have := (q9 (by omega)).1
    omega
  have k3 : C 3 (t + 1) = 15 := by rw [← (q8 tm).1]; exact c15'
  have fC3 : fnC C (goC CC (t + 1)) := fCC.tr fnC_go
  have h8 : goC CC (t + 1) 51 8 = CC 51 8 := goC_ne (by omega)
  have h9 : goC CC (t + 1) 51 9 = CC 51 9 := goC_ne (by omega)
  have h10' : goC CC (t + 1) 51 10 = q := by rw [goC_ne (by omega), g2 _ _ (by omega)]; exact h10
  have hg4 : ∀ j, goC CC (t + 1) 4 j = CC 4 j := fun j => goC_ne (by omega)
  rw [← hR2] at eU hQ3
  generalize goC CC (t + 1) = C3 at g1 hQ3 fC3 h8 h9 h10' hg4
  rw [fC3 51 2 (by omega), w1, h10', g2 51 5 (by omega), x32_id (x := C 51 5) (by omega) (by omega)] at g1
  simp only [isO_law w2, Bool.and_self, cond_true] at g1
  have hw4 : C3 w 4 = r + 1 := by rw [fC3 w 4 (by omega)]; exact hL.2.2.1.1
  obtain ⟨C4, a1, ⟨a2, a3, a4⟩, a5⟩ := f_addToList (q := q) (v := C 51 5) (a := a) w2 (r := r) (C := C3) hw4 rr.1 rr.2 (by rw [fC3 _ _ (by omega)]; exact hI.1.2.2) a0 a8
  rw [a1] at g1
  simp only [Option.bind_some] at g1
  rw [if_pos (by omega)] at g1
  have uC : ruC w r C3 C4 := ru_add a5
  have y12 : R2 439 12 = 0 := hQ3.2.2.1.2
  have y444 : R2 444 (t + 1) = C 51 5 := by rw [fR2 _ _ (by omega), uR.lo (by omega)]; exact hb.symm
  rw [if_pos (by omega), if_pos (by omega), y444] at eU
  have fnR12 : fnR R1 R2 := fun c j hc => fR2 c j (by omega)
  have hRR : ∃ RR, U = (f_Model_tellList_223 (30 * s + r) 1 a f0 (t + 1) RR).bind (fun x => f_Model_tell_168 x.2) ∧ gN m (t + 1 + 1) CC RR ∧ (∀ c j, ¬ (c = 439 ∧ (j = 14 ∨ j = 15)) → RR c j = R2 c j) ∧ (CC 51 8 = 0 → ¬ C 51 5 = 0) := by
    rcases g4 c15' with ⟨x1, x2⟩ | ⟨x1, R3, x2, x3, x4, x5⟩
    · rw [if_pos x1] at eU
      subst x2
      exact ⟨R2, eU, (hN1.up (by omega)).fr (fun _ _ _ => rfl) (fun c j hc => fR2 c j (by omega)), fun _ _ _ => rfl, fun _ => x1⟩
    · rw [if_neg (fun z => z x1), x2] at eU
      simp only [Option.bind_some] at eU
      exact ⟨R3, eU, x3, x5, fun z => absurd z x4⟩
  obtain ⟨RR, eU', hNR, fRR, hnz⟩ := hRR
  clear eU g4
  have fR2R : fnR R2 RR := fun c j hc => fRR c j (by omega)
  rw [q_Model_tellList_223] at eU'
  simp only [em_cd, x32_s (show -1000000 ≤ 8 * (30 * s + r) by omega) (show 8 * (30 * s + r) ≤ 1000000 by omega), x32_s (show -1000000 ≤ 8 * (30 * s + r) + a by omega) (show 8 * (30 * s + r) + a ≤ 1000000 by omega), if_pos hix, x32_s (show -1000000 ≤ a + 1 by omega) (show a + 1 ≤ 1000000 by omega)] at eU'
  rw [if_pos (by omega), fR2R 444 _ (by omega), y444] at eU'
  have vR4 : xup RR 465 (8 * (30 * s + r) + a) (C 51 5) 465 (8 * (30 * s + r) + a) = C 51 5 := xup_eq _ _ _ _
  have fR4 : ∀ c j, ¬ (c = 465 ∧ j = 8 * (30 * s + r) + a) → xup RR 465 (8 * (30 * s + r) + a) (C 51 5) c j = RR c j := fun c j hc => xup_ne hc
  generalize xup RR 465 (8 * (30 * s + r) + a) (C 51 5) = R4 at eU' vR4 fR4
  have uR4 : ruR s r RR R4 := fun c j hc => fR4 c j (fun z => hc (Or.inr ⟨by omega, by omega, by omega, by omega⟩))
  have frr : ∀ c j, 455 ≤ c → c ≤ 465 → RR c j = R1 c j := fun c j h0 h1 => by rw [fR2R c j (by omega), fR2 c j (by omega)]
  have hI0 : LI w s r k0 6 a f0 t C3 R := hI.fn hw53 rr.1 (by omega) fC3 (fun _ _ _ _ => rfl) (fun z => by rw [h8]; exact g3 z) (Int.le_refl _) (fun x x0 x1 => by omega)
  have hI1 : LI w s r k0 6 (a + 1) f0 (t + 1 + 1) C4 R4 := hI0.add hw53 rr.1 a0 a8 a5 a2 a3 a4 (fun c j h0 h1 hc => by rw [fR4 c j (by omega), frr c j h0 h1, fR c j hc]) (by rw [fR4 _ _ (by omega), frr _ _ (by omega) (by omega)]; exact vR) vR4 ⟨b0, b1⟩ (fun z => by
      rw [h8] at z
      exact ⟨hz (Classical.byContradiction (fun y => g3 y z)), fun _ => by have := hnz z; omega⟩) hf (Int.le_refl _) (by omega) (by rw [fC3 3 t (by omega)]; exact c3) (by rw [fC3 5 t (by omega)]; exact hk.fr (fun j => fC3 52 j (by omega))) (fun y y0 y1 y2 => by
      rw [fC3 3 y (by omega), show y = t + 1 by omega, k3]
      omega)
  have iC : inC w r C C4 := fC3.inC.tr uC.inC
  have iR : inR s r R R4 := uR.inR.tr (fnR12.inR.tr (fR2R.inR.tr uR4.inR))
  have m8 : C4 51 8 = CC 51 8 := by rw [uC.lo hw53 rr.1 (by omega), h8]
  have hQ4 : gQ n m (t + 1 + 1) C4 R4 := ((hQ3.fr (fun _ _ _ => rfl) (fun c j hc => fRR c j (by omega))).ru hw53 rr.1 uC uR4)
  have hN4 : gN m (t + 1 + 1) C4 R4 := (hNR.fr (C' := C3) (fun c j hc => by
      rcases hc with ⟨rfl, rfl | rfl⟩ | rfl
      · exact h8
      · exact h9
      · exact hg4 j) (fun _ _ _ => rfl)).ru hw53 rr.1 uC uR4
  exact (list_cont (hS.fx (iC.fx rr.1 rr.2) (iR.fx rr.1 rr.2)) hQ4 hN4 (hL.inn w2 iC iR (fun z => by rw [m8]; exact g3 z) (by omega)) (Or.inl rfl) hI1 (by omega) (by omega) (by omega) ih g1 eU').tr (by omega) (iC.fx rr.1 rr.2) (iR.fx rr.1 rr.2)
end
