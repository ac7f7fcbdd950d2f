/-! read: any tell; all of them. -/
section
variable {C R M : em_M} {n m t w s k0 S P r0 : Int}
theorem TRo.word {fC gC fR : em_M → Option (Int × em_M)} (h : TRo n m w s t C R fC fR) (e : gC C = (fC C).bind fun r0 => if r0.1 = 0 ∨ r0.1 = 1 then some (r0.1, r0.2) else none) : TRo n m w s t C R gC fR := by
  rcases h with ⟨C', R', t', k', S', P', r', a1, a2, a3⟩ | ⟨C', R', a1, a2, a3⟩
  · refine Or.inl ⟨C', R', t', k', S', P', r', ?_, a2, a3⟩
    rw [e, a1]
    simp only [Option.bind_some]
    rw [if_pos (by simp)]
  · refine Or.inr ⟨C', R', ?_, a2, a3⟩
    rw [e, a1]
    simp only [Option.bind_some]
    rw [if_pos (by simp)]
theorem tell_pair (hS : gST n m w s C R) (hQ : gQ n m t C R) (hN : gN m t C R) (hL : gLL w s t k0 S P r0 C R) : TRo n m w s t C R f_Reader_takeTell f_Model_tell := by
  have e := q_Reader_takeTell C
  simp only [em_cd] at e
  by_cases c0 : C 51 4 = 0
  · rw [if_pos c0] at e
    exact (kin_pair hS hQ hN hL c0).word e
  rw [if_neg c0] at e
  by_cases c1 : C 51 4 = 1
  · rw [if_pos c1] at e
    exact (fixed_pair hS hQ hN hL c1).word e
  rw [if_neg c1] at e
  have bad : f_Reader_takeTell C = some (0, xup C 51 6 1) → ¬ C 51 4 = 5 → ¬ C 51 4 = 6 → ¬ C 51 4 = 7 → ¬ C 51 4 = 8 → ¬ C 51 4 = 9 → TRo n m w s t C R f_Reader_takeTell f_Model_tell := fun z c5 c6 c7 c8 c9 => by
    obtain ⟨⟨q1, q2, q3⟩, ⟨q4, q5⟩, ⟨q6, q7⟩, -⟩ := id hQ
    have e2 := q_Model_tell R
    have k0' : ¬ R 442 t = 20 := fun y => c0 ((kd_word hS hQ (d := 0) (by omega) (by omega)).mpr y)
    have k1' : ¬ R 442 t = 21 := fun y => c1 ((kd_word hS hQ (d := 1) (by omega) (by omega)).mpr y)
    have k5' : ¬ R 442 t = 22 := fun y => c5 ((kd_word hS hQ (d := 5) (by omega) (by omega)).mpr y)
    have k6' : ¬ R 442 t = 23 := fun y => c6 ((kd_word hS hQ (d := 6) (by omega) (by omega)).mpr y)
    have k7' : ¬ R 442 t = 24 := fun y => c7 ((kd_word hS hQ (d := 7) (by omega) (by omega)).mpr y)
    have k8' : ¬ R 442 t = 25 := fun y => c8 ((kd_word hS hQ (d := 8) (by omega) (by omega)).mpr y)
    have k9' : ¬ R 442 t = 26 := fun y => c9 ((kd_word hS hQ (d := 9) (by omega) (by omega)).mpr y)
    simp only [em_cd, q5, if_pos (show 0 ≤ t ∧ t < 603 by omega), if_neg k0', if_neg k1', if_neg k5', if_neg k6', if_neg k7', if_neg k8', if_neg k9', m_fail0 1 q7 q5 q1 (show t ≤ 602 by omega), Option.bind_some] at e2
    exact Or.inr ⟨_, _, z, e2, gBd_mk hS hQ (by omega), (fnC_6 _).wd, (fnR_fl _ _).wd⟩
  have hf : ((f_Reader_fail 1 C).bind fun r0 => if r0.1 = 0 ∨ r0.1 = 1 then some (r0.1, r0.2) else none) = some (0, xup C 51 6 1) := by
    rw [q_Reader_fail]
    simp only [Option.bind_some]
    rw [if_pos (by simp)]
  rw [hf] at e
  by_cases c2 : C 51 4 = 2
  · rw [if_pos c2] at e
    exact bad e (by omega) (by omega) (by omega) (by omega) (by omega)
  rw [if_neg c2] at e
  by_cases c3 : C 51 4 = 3
  · rw [if_pos c3] at e
    exact bad e (by omega) (by omega) (by omega) (by omega) (by omega)
  rw [if_neg c3] at e
  by_cases c4 : C 51 4 = 4
  · rw [if_pos c4] at e
    exact bad e (by omega) (by omega) (by omega) (by omega) (by omega)
  rw [if_neg c4] at e
  by_cases c5 : C 51 4 = 5
  · rw [if_pos c5] at e
    exact (bars_pair hS hQ hN hL c5).word e
  rw [if_neg c5] at e
  by_cases c6 : C 51 4 = 6
  · rw [if_pos c6] at e
    exact (list_pair (Or.inl rfl) hS hQ hN hL c6).word e
  rw [if_neg c6] at e
  by_cases c7 : C 51 4 = 7
  · rw [if_pos c7] at e
    exact (list_pair (Or.inr rfl) hS hQ hN hL c7).word e
  rw [if_neg c7] at e
  by_cases c8 : C 51 4 = 8
  · rw [if_pos c8] at e
    exact (steps_pair hS hQ hN hL c8).word e
  rw [if_neg c8] at e
  by_cases c9 : C 51 4 = 9
  · rw [if_pos c9] at e
    exact (will_pair hS hQ hN hL c9).word e
  rw [if_neg c9] at e
  exact bad e c5 c6 c7 c8 c9
/-- where both come to when the text is told, or fails -/
def RDo (n m w s : Int) (C R : em_M) (T U : Option (Int × em_M)) : Prop := ∃ C' R', T = f_Reader_readText_64 C' ∧ U = f_Model_read_171 R' ∧ (gBd n m C' R' ∨ ((C' 51 6 = 0 ∧ R' 439 12 = 0) ∧ gN m m C' R' ∧ ∃ k S P r, gLL w s m k S P r C' R')) ∧ fxC w C C' ∧ fxR s R R'
theorem gLL.up {t' : Int} (h : gLL w s t k0 S P r0 C R) (ht : t ≤ t') : gLL w s t' k0 S P r0 C R := by
  obtain ⟨l1, ⟨b1, ⟨b2', b3, b4⟩, b5, b6⟩, l3⟩ := h
  exact ⟨l1, ⟨b1, ⟨b2', b3, by omega⟩, b5, b6⟩, l3⟩
theorem read_loop : ∀ (f : Nat) (t turn k0 S P r0 : Int) (C R : em_M), m - t ≤ f → gST n m w s C R → gQ n m t C R → gN m t C R → gLL w s t k0 S P r0 C R → 0 ≤ turn → turn ≤ t → RDo n m w s C R (f_Reader_readText_33 1 turn C) (f_Model_read_149 R) := by
  intro f
  induction f with
  | zero =>
    intro t turn k0 S P r0 C R hf hS hQ hN hL u0 ut
    obtain ⟨⟨q1, q2, q3⟩, ⟨q4, q5⟩, ⟨q6, q7⟩, -, q9, -⟩ := id hQ
    have ht : t = m := by omega
    have e1 := q_Reader_readText_33 1 turn C
    have e2 := q_Model_read_149 R
    have h16 := (q9 ht).1
    simp only [em_cd] at e1 e2
    rw [if_neg (by omega), if_neg (by omega), if_pos h16] at e1
    rw [if_neg (fun z => z q7), m_is1 q7 q5 q1 (by omega) ((kd_end hS hQ).mp h16)] at e2
    simp only [Option.bind_some] at e2
    rw [if_pos (by omega)] at e2
    subst ht
    exact ⟨C, R, e1, e2, Or.inr ⟨⟨q6, q7⟩, hN, k0, S, P, r0, hL⟩, fxC.rf _ _, fxR.rf _ _⟩
  | succ f ih =>
    intro t turn k0 S P r0 C R hf hS hQ hN hL u0 ut
    obtain ⟨⟨q1, q2, q3⟩, ⟨q4, q5⟩, ⟨q6, q7⟩, -, q9, -⟩ := id hQ
    have e1 := q_Reader_readText_33 1 turn C
    have e2 := q_Model_read_149 R
    simp only [em_cd] at e1 e2
    rw [if_neg (by omega), if_neg (by omega)] at e1
    rw [if_neg (fun z => z q7)] at e2
    by_cases h16 : C 51 4 = 16
    · rw [if_pos h16] at e1
      rw [m_is1 q7 q5 q1 (by omega) ((kd_end hS hQ).mp h16)] at e2
      simp only [Option.bind_some] at e2
      rw [if_pos (by omega)] at e2
      exact ⟨C, R, e1, e2, Or.inr ⟨⟨q6, q7⟩, hN.up q2, k0, S, P, r0, hL.up q2⟩, fxC.rf _ _, fxR.rf _ _⟩
    · rw [if_neg h16] at e1
      rw [m_is0 q7 q5 q1 (by omega) (fun z => h16 ((kd_end hS hQ).mpr z))] at e2
      simp only [Option.bind_some] at e2
      rw [if_neg (fun z => z trivial)] at e2
      rcases tell_pair hS hQ hN hL with ⟨C', R', t', k', S', P', r', a1, a2, a3, ⟨a4, a5, a6⟩, a7, a8⟩ | ⟨C', R', a1, a2, a3, a4, a5⟩
      · rw [a1] at e1
        rw [a2] at e2
        simp only [Option.bind_some] at e1 e2
        rw [x32_s (x := turn + 1) (by omega) (by omega)] at e1
        obtain ⟨C2, R2, g1, g2, g3, g4, g5⟩ := ih t' (turn + 1) k' S' P' r' C' R' (by omega) (hS.fx a7 a8) a4 a5 a6 (by omega) (by omega)
        exact ⟨C2, R2, e1.trans g1, e2.trans g2, g3, a7.tr g4, a8.tr g5⟩
      · rw [a1] at e1
        rw [a2] at e2
        simp only [Option.bind_some] at e1 e2
        have e3 : f_Reader_readText_33 0 (x32 (turn + 1)) C' = f_Reader_readText_64 C' := by
          rw [q_Reader_readText_33]
          simp only [em_cd]
          by_cases z : 600 < x32 (turn + 1)
          · rw [if_pos z]
          · rw [if_neg z, if_pos trivial]
        have e4 : f_Model_read_149 R' = f_Model_read_171 R' := by
          rw [q_Model_read_149]
          simp only [em_cd]
          rw [if_pos (by have := a3.pos; omega)]
        exact ⟨C', R', e1.trans e3, e2.trans e4, Or.inl a3, a4, a5⟩
end
