/-! read: lists, item by item; all tells but kin. -/
section
variable {C R M : em_M} {n m t w s k0 S P r0 r : Int}
theorem list_loop {d rest f0 : Int} (hd : (d = 6 ∧ rest = 1) ∨ (d = 7 ∧ rest = 0)) (f00 : 0 ≤ f0) : ∀ (k : Nat) (a : Int), 0 ≤ a → a + k = 8 → LNx n m w s k0 S P r d rest a f0 := by
  intro k
  induction k with
  | zero =>
    intro a a0 ha t C R hS hQ hN hL hI hf
    obtain ⟨-, ⟨w1, w2⟩, s1, s2⟩ := id hS
    have rr := hL.2.2.1.2.2
    obtain ⟨⟨q1, q2, q3⟩, ⟨q4, q5⟩, ⟨q6, q7⟩, q8, q9, q10⟩ := id hQ
    have hkd := kd_name hS hQ
    have e1 := q_Reader_takeList_12 d a C
    have e1b := q_Reader_takeListed d a C
    have e2 := q_Model_tellList_11 (30 * s + r) rest a 1 f0 R
    simp only [em_cd, if_neg (show ¬ 8 < a by omega), if_neg (show ¬ a < 8 by omega), if_neg (show ¬ ¬ a = 8 by omega)] at e1 e1b e2
    rw [if_neg (by omega), if_neg (fun z => z q7)] at e2
    have e41 : ∀ Z : em_M, f_Model_tellList_41 (30 * s + r) rest a f0 Z = (f_Model_namedKin Z).bind fun r0 => if r0.2 439 12 ≤ 0 then f_Model_tellList_68 (30 * s + r) rest a f0 (Z 439 11) r0.1 0 f0 r0.2 else some (0, r0.2) := fun Z => by
      rw [q_Model_tellList_41]
      simp only [em_cd]
    by_cases c : C 51 4 = 14
    · rw [if_neg (fun z => z c), q_Reader_fail] at e1b
      simp only [Option.bind_some] at e1b
      rw [if_pos (by simp)] at e1b
      rw [e1b] at e1
      simp only [Option.bind_some] at e1
      rw [if_neg (fun z => z trivial)] at e1
      rw [m_isN1 q7 q5 q1 (by omega) (hkd.mp c)] at e2
      simp only [Option.bind_some] at e2
      rw [if_neg (by omega), m_fail0 2 q7 q5 q1 (by omega)] at e2
      simp only [Option.bind_some] at e2
      rw [e41, m_namedf (by rw [fuM_at.1]; omega)] at e2
      simp only [Option.bind_some] at e2
      rw [if_neg (by rw [fuM_at.1]; omega)] at e2
      refine Or.inr ⟨_, _, e1, ?_, gBd_mk hS hQ (k := 2) (by omega), (fnC_6 _).wd, (fnR_fl _ _).wd⟩
      rw [e2]
      simp only [Option.bind_some]
      exact m_168f (by rw [fuM_at.1]; omega)
    · rw [if_pos c, q_Reader_takeListed_21] at e1b
      rw [m_isN0 q7 q5 q1 (by omega) (fun z => c (hkd.mpr z))] at e2
      simp only [Option.bind_some] at e2
      rw [if_pos trivial, e41] at e2
      rcases told_pair hS hQ hN hL.1 with ⟨q, C1, R1, -, -, ⟨x, -⟩, -⟩ | ⟨C1, R1, d1, d2, d3, d4, d5⟩
      · exact absurd x c
      · rw [d1] at e1b
        rw [d2] at e2
        simp only [Option.bind_some, em_cd] at e1b e2
        rw [if_neg (fun z => z trivial)] at e1b
        have := d3.pos
        rw [if_neg (by omega)] at e2
        rw [e1b] at e1
        simp only [Option.bind_some] at e1
        rw [if_neg (fun z => z trivial)] at e1
        refine Or.inr ⟨C1, R1, e1, ?_, d3, d4.wd, d5.wd⟩
        rw [e2]
        simp only [Option.bind_some]
        exact m_168f d3.pos
  | succ k ih =>
    intro a a0 ha t C R hS hQ hN hL hI hf
    obtain ⟨-, ⟨w1, w2⟩, s1, s2⟩ := id hS
    have rr := hL.2.2.1.2.2
    have hw53 : 53 ≤ w := by omega
    obtain ⟨⟨q1, q2, q3⟩, ⟨q4, q5⟩, ⟨q6, q7⟩, q8, q9, q10⟩ := id hQ
    have hkd := kd_name hS hQ
    have e1 := q_Reader_takeList_12 d a C
    have e1b := q_Reader_takeListed d a C
    have e2 := q_Model_tellList_11 (30 * s + r) rest a 1 f0 R
    simp only [em_cd, if_neg (show ¬ 8 < a by omega), if_pos (show a < 8 by omega), if_pos (show ¬ a = 8 by omega), ite_self, x32_s (show -1000000 ≤ a + 1 by omega) (show a + 1 ≤ 1000000 by omega)] at e1 e1b e2
    rw [if_neg (by omega), if_neg (fun z => z q7)] at e2
    have e2' : f_Model_tellList_11 (30 * s + r) rest a 1 f0 R = f_Model_tellList_41 (30 * s + r) rest a f0 R := by
      rw [e2]
      by_cases c : C 51 4 = 14
      · rw [m_isN1 q7 q5 q1 (by omega) (hkd.mp c)]
        rfl
      · rw [m_isN0 q7 q5 q1 (by omega) (fun z => c (hkd.mpr z))]
        rfl
    rw [q_Model_tellList_41] at e2'
    rw [q_Reader_takeListed_21] at e1b
    simp only [em_cd] at e1b e2'
    clear e2
    rcases told_pair hS hQ hN hL.1 with ⟨q, C1, R1, d1, d2, ⟨c14, f2, f3, f4⟩, hQ1, hN1, mono1, ⟨fC1, -⟩, fR1⟩ | ⟨C1, R1, d1, d2, d3, d4, d5⟩
    case inr =>
      rw [d1] at e1b
      rw [d2] at e2'
      simp only [Option.bind_some] at e1b e2'
      rw [if_neg (fun z => z trivial)] at e1b
      have := d3.pos
      rw [if_neg (by omega)] at e2'
      rw [e1b] at e1
      simp only [Option.bind_some] at e1
      rw [if_neg (fun z => z trivial)] at e1
      refine Or.inr ⟨C1, R1, e1, ?_, d3, d4.wd, d5.wd⟩
      rw [e2']
      simp only [Option.bind_some]
      exact m_168f d3.pos
    obtain ⟨C2, R2, g1, g2, hN2, mono2, gC2, gR2⟩ := twice_pair (d := d) (a := a) (f0 := f0) (rest := rest) hS hQ hN hL hI a0 (by omega) f00 hf c14 d1 f2 f3 hQ1 hN1 mono1 f4 fC1 fR1
    rw [d1] at e1b
    rw [d2] at e2'
    simp only [Option.bind_some] at e1b e2'
    rw [if_pos (by omega), fC1 51 2 (by omega), w1, f2, q4] at e1b
    simp only [isO_law w2, Bool.and_self, cond_true] at e1b
    rw [g1] at e1b
    have r12 := hQ1.2.2.1.2
    rw [if_pos (by omega), q5, g2] at e2'
    rw [e1b] at e1
    have fC2 : fnC C1 C2 := fun c j hc => gC2 c j (by omega)
    have fR2 : fnR R1 R2 := fun c j hc => gR2 c j (by omega)
    have fC : fnC C C2 := fC1.tr fC2
    have fR : fnR R R2 := fR1.tr fR2
    have mono : ¬ C 51 8 = 0 → ¬ C2 51 8 = 0 := fun z => mono2 (mono1 z)
    have tm : t < m := by
      refine Classical.byContradiction (fun z => ?_)
      have := (q9 (by omega)).1
      omega
    have hS2 : gST n m w s C2 R2 := hS.fx fC.wd fR.wd
    have hQ2 : gQ n m (t + 1) C2 R2 := hQ1.fr (fun c j hc => gC2 c j (by omega)) (fun c j hc => gR2 c j (by omega))
    have hL2 : gLo w s (t + 1) k0 S P r C2 R2 := hL.inn w2 fC.inC fR.inR mono (by omega)
    have hI2 : LI w s r k0 d a f0 t C2 R2 := hI.fn hw53 rr.1 (by omega) fC (fun c j h0 h1 => fR c j (by omega)) mono (Int.le_refl _) (fun x x0 x1 => by omega)
    have z10 : C2 51 10 = q := by rw [gC2 _ _ (by omega)]; exact f2
    have z3 : C2 3 t = 14 := by rw [fC 3 t (by omega), ← (q8 tm).1]; exact c14
    have zk : isKin C2 k0 (C2 5 t) q := by
      rw [fC 5 t (by omega), ← (q8 tm).2]
      exact f3.fr (fun j => fC 52 j (by omega))
    have zz : C2 51 8 = 0 → 0 ≤ q ∧ q < k0 := fun z => (f3.rng hL.1.1.2.2.2).2.2 (fun y => mono2 (f4 y) z)
    have ih1 := ih (a + 1) (by omega) (by omega)
    have eU : ((f_Model_tellList_11 (30 * s + r) rest a 1 f0 R).bind fun x => f_Model_tell_168 x.2) = (f_Model_tellList_158 (30 * s + r) rest a f0 q R2).bind fun x => f_Model_tell_168 x.2 := by rw [e2']
    rcases hd with ⟨rfl, rfl⟩ | ⟨rfl, rfl⟩
    · exact (item6 hS2 hQ2 hN2 hL2 hI2 a0 (by omega) hf q1 z10 z3 zk zz ih1 e1 eU).tr (by omega) fC.wd fR.wd
    · exact (item7 hS2 hQ2 hN2 hL2 hI2 a0 (by omega) hf z10 z3 zk zz ih1 e1 eU).tr (by omega) fC.wd fR.wd
theorem list_pair {d : Int} (hd : d = 6 ∨ d = 7) (hS : gST n m w s C R) (hQ : gQ n m t C R) (hN : gN m t C R) (hL : gLL w s t k0 S P r0 C R) (h4 : C 51 4 = d) : TRo n m w s t C R (f_Reader_takeList d) f_Model_tell := by
  obtain ⟨-, ⟨-, w2⟩, -, s2⟩ := id hS
  have hw53 : 53 ≤ w := by omega
  have e1 := q_Reader_takeList d C
  simp only [em_cd] at e1
  rcases head_pair hS hQ hN hL (by omega) h4 with ⟨C1, r30, d1, ⟨-, -, d6, d7⟩, ⟨hQ1, hN1, hL1⟩, ⟨u1, u2⟩, fC1, fR1⟩ | ⟨C', R', d1, d2, d3, d4, d5⟩
  case inr =>
    rw [d1] at e1
    simp only [Option.bind_some] at e1
    rw [if_neg (fun z => z trivial)] at e1
    exact Or.inr ⟨C', R', e1, d2, d3, d4, d5⟩
  rw [d1] at e1
  simp only [Option.bind_some] at e1
  rw [if_pos (by omega)] at e1
  have hso : soR d = d - 4 := by
    unfold soR
    rw [if_neg (by omega)]
  have h455 : (xup (xup R 439 11 (t + 1)) 455 (30 * s + r0) (soR d)) 455 (30 * s + r0) = d - 4 := by rw [xup_eq]; exact hso
  generalize xup (xup R 439 11 (t + 1)) 455 (30 * s + r0) (soR d) = X at d6 d7 hQ1 hN1 hL1 fR1 h455
  have hS1 : gST n m w s C1 X := hS.fx fC1 fR1
  have rr := hL1.2.2.1.2.2
  have x11 : X 439 11 = t + 1 := hQ1.2.1.2
  have hI : LI w s r0 k0 d 0 (t + 1) (t + 1) C1 X := ⟨⟨h455, u1, u2⟩, fun i i0 i1 => by omega, fun x x0 x1 => by omega⟩
  have go : ∀ rest, ((d = 6 ∧ rest = 1) ∨ (d = 7 ∧ rest = 0)) → f_Model_tell R = (f_Model_tellList (30 * s + r0) rest X).bind (fun r1 => f_Model_tell_168 r1.2) → TRo n m w s t C R (f_Reader_takeList d) f_Model_tell := fun rest hr e2 => by
    rw [q_Model_tellList, x11] at e2
    rcases (list_loop (n := n) (m := m) (w := w) (s := s) (k0 := k0) (S := S) (P := P) (r := r0) hr (by have := hQ.1.1; omega) 8 0 (by omega) (by omega)) (t + 1) C1 X hS1 hQ1 hN1 hL1 hI (Int.le_refl _) with ⟨C', R', t', y1, y2, y3, y4, y5, y6⟩ | ⟨C', R', y1, y2, y3, y4, y5⟩
    · exact Or.inl ⟨C', R', t', k0, S, P, r0 + 1, e1.trans y1, e2.trans y2, by omega, y4, fC1.tr y5, fR1.tr y6⟩
    · exact Or.inr ⟨C', R', e1.trans y1, e2.trans y2, y3, fC1.tr y4, fR1.tr y5⟩
  rcases hd with rfl | rfl
  · exact go 1 (Or.inl ⟨rfl, rfl⟩) (d6 rfl)
  · exact go 0 (Or.inr ⟨rfl, rfl⟩) (d7 rfl)
end
