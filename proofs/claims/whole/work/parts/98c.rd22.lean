/-! read: kin, one step, whole. -/
section
variable {C R M : em_M} {n m t w s k0 S0 P0 S P b r0 v1 : Int}
theorem mp_low {k : Int} (h0 : 0 ≤ k) (h1 : k < 14) : (k ≤ 9 → mpW k ≤ 9) ∧ (10 ≤ k → mpW k = k) := by
  have h : (List.range 14).all (fun k => decide (((k : Int) ≤ 9 → mpW (k : Int) ≤ 9) ∧ (10 ≤ (k : Int) → mpW (k : Int) = (k : Int)))) = true := by decide +kernel
  have := List.all_eq_true.mp h k.toNat (List.mem_range.mpr (by omega))
  rw [decide_eq_true_eq, show ((k.toNat : Nat) : Int) = k by omega] at this
  exact this
theorem kd_begin (hS : gST n m w s C R) (hQ : gQ n m t C R) : (10 ≤ C 51 4 → C 51 4 ≤ 13 → R 442 t = 20 + C 51 4) ∧ (¬ (10 ≤ C 51 4 ∧ C 51 4 ≤ 13) → ¬ C 51 4 = 14 → R 442 t < 30 ∨ 33 < R 442 t) := by
  rcases (gk hS hQ).1 with (⟨a1, a2, a3⟩ | ⟨a1, -, ⟨a2, -⟩ | ⟨a2, -⟩ | ⟨a2, -⟩⟩ | ⟨a1, a2, -⟩ | ⟨a1, a2⟩ | ⟨a1, a2⟩ | ⟨a1, a2⟩ | ⟨a1, a2⟩ | ⟨a1, a2⟩ | ⟨a1, a2⟩ | ⟨a1, a2⟩) | ⟨a1, a2⟩
  · obtain ⟨l1, l2⟩ := mp_low a1 (by omega)
    refine ⟨fun z1 z2 => by rw [a3, l2 z1], fun z1 z2 => ?_⟩
    have := l1 (by omega)
    omega
  all_goals exact ⟨fun z1 z2 => by omega, fun z1 z2 => by omega⟩
theorem f_rowOfWord (κ : Int) (C : em_M) : f_Kinship_rowOfWord κ C = some (if 10 ≤ κ ∧ κ ≤ 13 then κ - 10 else -1, C) := by
  rw [q_Kinship_rowOfWord]
  simp only [em_cd]
  by_cases c1 : κ = 10
  · subst c1; simp
  · by_cases c2 : κ = 11
    · subst c2; simp
    · by_cases c3 : κ = 12
      · subst c3; simp
      · by_cases c4 : κ = 13
        · subst c4; simp
        · rw [if_neg c1, if_neg c2, if_neg c3, if_neg c4, if_neg (by omega)]
theorem m_p101f {v : Int} (hf : 0 < R 439 12) : f_Model_tellPath_101 v R = some (0, R) := by
  rw [q_Model_tellPath_101, em_cd, if_neg (by omega)]
theorem step_pair {v : Int} {T U : Option (Int × em_M)} (hS : gST n m w s C R) (hQ : gQ n m t C R) (hN : gN m t C R) (hI : KI w s k0 S0 P0 S P b C R) (hR : KR w s k0 S0 P0 r0 v1 C R) (hv : v = S - b) (v8 : v ≤ 8) (St : S ≤ t) (eT : T = f_Reader_takeStep v C) (eU : U = f_Model_tellPath_26 v 1 R) : StO n m w s t k0 S0 P0 S P b v C R T U := by
  obtain ⟨-, ⟨w1, w2⟩, s1, s2⟩ := id hS
  have hw53 : 53 ≤ w := by omega
  obtain ⟨⟨⟨a1, a2, a3⟩, ⟨a4, a5, a6⟩, a7, a8, a9⟩, -⟩ := id hI
  obtain ⟨⟨q1, q2, q3⟩, ⟨q4, q5⟩, ⟨q6, q7⟩, q8, q9, q10⟩ := id hQ
  have hkn := kd_name hS hQ
  obtain ⟨kb1, kb2⟩ := kd_begin hS hQ
  have hk0 := hR.1.1
  rw [q_Reader_takeStep, f_rowOfWord] at eT
  rw [q_Model_tellPath_26] at eU
  simp only [em_cd, Option.bind_some, q5, if_pos (show 0 ≤ t ∧ t < 603 by omega)] at eT eU
  rw [if_neg (by omega), if_neg (fun z => z q7)] at eU
  -- where it fails at once
  have bad : ∀ k, 1 ≤ k → T = some (0, xup C 51 6 k) → U = some (0, fuM R k t) → StO n m w s t k0 S0 P0 S P b v C R T U := fun k k1 z1 z2 => Or.inr ⟨_, _, z1, z2, gBd_mk hS hQ k1, (fnC_6 _).kiC, (fnR_fl _ _).kiR⟩
  have c28 : ∀ row, f_Reader_takeStep_28 v row C = if v < 8 then (if ¬ C 51 4 = 14 then f_Reader_takeStep_61 v row C else (f_Reader_findTold C).bind fun r0 => (f_Kinship_rowOfKin (r0.2 51 10) r0.2).bind fun r1 => f_Reader_takeStep_61 v r1.1 r1.2) else some (0, xup C 51 6 2) := fun row => by
    rw [q_Reader_takeStep_28, q_Reader_fail]
    simp only [em_cd, Option.bind_some]
    by_cases c : v < 8
    · rw [if_pos c, if_pos c]
    · rw [if_neg c, if_neg c, if_pos (by simp)]
  have m77 : f_Model_tellPath_77 v 1 R = if ¬ v = 8 then f_Model_tellPath_101 v R else some (0, fuM R 2 t) := by
    rw [q_Model_tellPath_77]
    simp only [em_cd]
    rw [if_pos (by omega)]
    by_cases c : v = 8
    · rw [if_neg (fun z => z c), if_neg (fun z => z c), m_fail0 2 q7 q5 q1 (by omega)]
      simp only [Option.bind_some]
      exact m_p101f (by rw [fuM_at.1]; omega)
    · rw [if_pos c, if_pos c]
  have m101 : f_Model_tellPath_101 v R = (f_Model_isName R).bind fun r0 => if r0.1 = 0 then f_Model_tellPath_153 v (700 * s + S) t (R 442 t - 30) R else f_Model_tellPath_153 v (700 * s + S) t (-1) R := by
    have hval : -1000000 ≤ R 442 t - 30 ∧ R 442 t - 30 ≤ 1000000 := by
      rcases (gk hS hQ).1 with (⟨x1, x2, x3⟩ | ⟨x1, -, ⟨x2, -⟩ | ⟨x2, -⟩ | ⟨x2, -⟩⟩ | ⟨x1, x2, -⟩ | ⟨x1, x2⟩ | ⟨x1, x2⟩ | ⟨x1, x2⟩ | ⟨x1, x2⟩ | ⟨x1, x2⟩ | ⟨x1, x2⟩ | ⟨x1, x2⟩) | ⟨x1, x2⟩
      · have := mp_rng x1 (by omega)
        omega
      all_goals omega
    rw [q_Model_tellPath_101, s1, a2, x32_s (x := 700 * s) (by omega) (by omega), x32_s (x := 700 * s + S) (by omega) (by omega), q5]
    simp only [em_cd]
    rw [if_pos (by omega)]
    by_cases c : C 51 4 = 14
    · rw [m_isN1 q7 q5 q1 (by omega) (hkn.mp c)]
      simp only [Option.bind_some]
      rw [if_neg (by omega), if_neg (by omega)]
    · rw [m_isN0 q7 q5 q1 (by omega) (fun z => c (hkn.mpr z))]
      simp only [Option.bind_some, if_true]
      rw [q5, if_pos (by omega), x32_s hval.1 hval.2]
  have m153 : ∀ s0, f_Model_tellPath_153 v (700 * s + S) t s0 R = (f_Model_next R).bind fun r0 => if ¬ s0 = -1 then f_Model_tellPath_198 v (700 * s + S) s0 r0.2 else (if 0 ≤ r0.2 439 18 ∧ r0.2 439 18 < 2 then (f_Model_kinOf t (r0.2 447 (r0.2 439 18)) r0.2).bind fun r1 => if ¬ r1.1 = -1 then f_Model_tellPath_198 v (700 * s + S) (x32 (4 + r1.1)) r1.2 else f_Model_tellPath_198 v (700 * s + S) 0 r1.2 else none) := fun s0 => by
    rw [q_Model_tellPath_153]
    simp only [em_cd]
  have c61 : ∀ (row : Int) (Z : em_M), f_Reader_takeStep_61 v row Z = (f_Reader_take (Z 51 4) Z).bind fun r0 => if ¬ r0.1 = 0 then (if ¬ r0.2 51 4 = 14 then f_Reader_takeStep_135 v row (-1) r0.2 else if x_cmp (r0.2 51 5) 13 = 0 then f_Reader_takeStep_107 v row r0.2 else if ¬ x_cmp (r0.2 51 5) 6 = 0 then f_Reader_takeStep_135 v row (-1) r0.2 else f_Reader_takeStep_107 v row r0.2) else some (0, r0.2) := fun row Z => by
    rw [q_Reader_takeStep_61]
    simp only [em_cd]
  by_cases cw : 10 ≤ C 51 4 ∧ C 51 4 ≤ 13
  · -- a word
    have hρ := kb1 cw.1 cw.2
    have c14 : ¬ C 51 4 = 14 := by omega
    rw [if_pos cw, if_pos (by omega), c28] at eT
    rw [m_isN0 q7 q5 q1 (by omega) (fun z => c14 (hkn.mpr z))] at eU
    simp only [Option.bind_some, if_true, not_true_eq_false, if_false] at eU
    rw [q5, if_pos (by omega), if_neg (by omega), if_pos (by omega), if_neg (by omega), m77] at eU
    by_cases cv : v < 8
    case neg =>
      rw [if_neg cv] at eT
      rw [if_neg (by omega)] at eU
      exact bad 2 (by omega) eT eU
    rw [if_pos cv, if_pos c14, c61] at eT
    rw [if_pos (by omega), m101, m_isN0 q7 q5 q1 (by omega) (fun z => c14 (hkn.mpr z))] at eU
    simp only [Option.bind_some, if_true] at eU
    rw [m153] at eU
    rcases tk_next hS hQ rfl (by omega) (by omega) with ⟨t6, d1, d2, hQ1⟩ | ⟨t6, d1, d2, d3⟩
    · rw [d1] at eT
      rw [d2] at eU
      simp only [Option.bind_some] at eT eU
      rw [if_pos (by omega)] at eT
      rw [if_pos (by omega)] at eU
      have fC1 : fnC C (goC C t) := fnC_go
      have fR1 : fnR R (xup R 439 11 (t + 1)) := fnR_go _
      have m8 : goC C t 51 8 = C 51 8 := goC_ne (by omega)
      rcases step_tail (row := C 51 4 - 10) (wh := R 442 t - 30) (hS.fx fC1.wd fR1.wd) hQ1 ((hN.up (by omega)).fr (fun c j hc => goC_ne (by omega)) (fun c j hc => xup_ne (by omega))) (hI.fn hw53 fC1 fR1 (fun z => by rw [m8]; exact z)) hv cv (by omega) (by omega) (fun _ => ⟨by omega, by omega, by omega⟩) eT eU with ⟨C', R', t', x1, x2, x3, x4, x5, x6, x7, x8⟩ | ⟨C', R', x1, x2, x3, x4, x5⟩
      · exact Or.inl ⟨C', R', t', x1, x2, by omega, x4, x5, fun z => x6 (by rw [m8]; exact z), fC1.kiC.tr x7, fR1.kiR.tr x8⟩
      · exact Or.inr ⟨C', R', x1, x2, x3, fC1.kiC.tr x4, fR1.kiR.tr x5⟩
    · rw [d1] at eT
      rw [d2] at eU
      simp only [Option.bind_some] at eT eU
      rw [if_neg (fun z => z trivial)] at eT
      rw [if_pos (by omega)] at eU
      obtain ⟨R', k1, k2, k3, k4⟩ := m_p198f (R := fuM R 2 t) (s := s) (P := P) (S := S) (v := v) (v4 := 700 * s + S) (v6 := R 442 t - 30) d3.pos (by rw [fuM_ne (by omega)]; exact s1) s2 (by rw [fuM_ne (by omega)]; exact a3) (by omega) (by omega) (by rw [fuM_ne (by omega)]; exact a2) (by omega) (by omega) (by omega) (by omega) rfl
      exact Or.inr ⟨_, R', eT, eU.trans k1, d3.fr (fun _ _ _ => rfl) ⟨k3, k4⟩, (fnC_6 _).kiC, (fnR_fl _ _).kiR.tr k2⟩
  rw [if_neg cw, if_neg (fun z => z rfl)] at eT
  by_cases c14 : C 51 4 = 14
  case neg =>
    rw [if_neg c14, q_Reader_fail] at eT
    simp only [Option.bind_some] at eT
    rw [if_pos (by simp)] at eT
    rw [m_isN0 q7 q5 q1 (by omega) (fun z => c14 (hkn.mpr z))] at eU
    simp only [Option.bind_some, if_true, not_true_eq_false, if_false] at eU
    have m770 : f_Model_tellPath_77 v 0 R = some (0, fuM R 1 t) := by
      rw [q_Model_tellPath_77]
      simp only [em_cd]
      rw [if_neg (by simp), m_fail0 1 q7 q5 q1 (by omega)]
      simp only [Option.bind_some]
      exact m_p101f (by rw [fuM_at.1]; omega)
    rw [q5, if_pos (by omega), m770] at eU
    have h := kb2 cw c14
    refine bad 1 (by omega) eT ?_
    rw [eU]
    by_cases c30 : R 442 t < 30
    · rw [if_pos c30]
    · rw [if_neg c30, if_pos (by omega), if_pos (by omega)]
  -- a name
  rw [if_pos c14, c28] at eT
  rw [m_isN1 q7 q5 q1 (by omega) (hkn.mp c14)] at eU
  simp only [Option.bind_some] at eU
  rw [if_pos (by omega), m77] at eU
  by_cases cv : v < 8
  case neg =>
    rw [if_neg cv] at eT
    rw [if_neg (by omega)] at eU
    exact bad 2 (by omega) eT eU
  rw [if_pos cv, if_neg (fun z => z c14)] at eT
  rw [if_pos (by omega), m101, m_isN1 q7 q5 q1 (by omega) (hkn.mp c14)] at eU
  simp only [Option.bind_some] at eU
  rw [if_neg (by omega), m153] at eU
  obtain ⟨q, C', f1, f2, f3, f4, f5, f6, f7⟩ := fd_pair hS hQ hN hR.gNm c14
  have qr := f3.rng (by omega)
  rw [f1] at eT
  simp only [Option.bind_some] at eT
  have erow : f_Kinship_rowOfKin (C' 51 10) C' = some (if 0 ≤ q then 4 + q else -1, C') := by
    rw [q_Kinship_rowOfKin, f2]
    simp only [em_cd]
    by_cases c : 0 ≤ q
    · rw [if_pos c, if_pos c, x32_s (by omega) (by omega)]
    · rw [if_neg c, if_neg c]
  rw [erow] at eT
  simp only [Option.bind_some] at eT
  rw [c61] at eT
  have fC : fnC C C' := fun c j hc => f7 c j (by omega)
  have hS' : gST n m w s C' R := hS.fx fC.wd (fxR.rf _ _)
  have hQ' : gQ n m t C' R := hQ.fr (fun c j hc => f7 c j (by omega)) (fun _ _ _ => rfl)
  have c14' : C' 51 4 = 14 := by rw [f7 51 4 (by omega)]; exact c14
  rw [c14'] at eT
  rcases tk_next hS' hQ' c14' (by omega) (by omega) with ⟨t6, d1, d2, hQ1⟩ | ⟨t6, d1, d2, d3⟩
  · rw [d1] at eT
    rw [d2] at eU
    simp only [Option.bind_some] at eT eU
    rw [if_pos (by omega)] at eT
    have x18 : xup R 439 11 (t + 1) 439 18 = s := by rw [xup_ne (by omega)]; exact s1
    have x447 : xup R 439 11 (t + 1) 447 s = k0 := by rw [xup_ne (by omega)]; exact hk0.2.1
    obtain ⟨R', g1, g2, g3⟩ := f4 (xup R 439 11 (t + 1)) (fun c j hc => xup_ne (by omega))
    rw [if_neg (fun z => z trivial), x18, if_pos (by omega), x447, g1] at eU
    simp only [Option.bind_some] at eU
    have eU' : U = f_Model_tellPath_198 v (700 * s + S) (if 0 ≤ q then 4 + q else 0) R' := by
      rw [eU]
      by_cases c : q = -1
      · rw [if_neg (fun z => z c), if_neg (by omega)]
      · rw [if_pos c, if_pos (qr.2.2 c).1, x32_s (by omega) (by omega)]
    have fC1 : fnC C (goC C' t) := fC.tr fnC_go
    have fR1 : fnR R R' := (fnR_go (R := R) (t + 1)).tr (fun c j hc => g3 c j (by omega))
    have m8 : goC C' t 51 8 = C' 51 8 := goC_ne (by omega)
    rcases step_tail (row := if 0 ≤ q then 4 + q else -1) (wh := if 0 ≤ q then 4 + q else 0) (hS.fx fC1.wd fR1.wd) (hQ1.fr (fun _ _ _ => rfl) (fun c j hc => g3 c j (by omega))) (g2.fr (fun c j hc => goC_ne (by omega)) (fun _ _ _ => rfl)) (hI.fn hw53 fC1 fR1 (fun z => by rw [m8]; exact f6 z)) hv cv (by omega) (by omega) (fun z => by
        rw [m8] at z
        have nq : ¬ q = -1 := fun y => f5 y z
        have := qr.2.2 nq
        rw [if_pos this.1, if_pos this.1]
        exact ⟨rfl, by omega, by omega⟩) eT eU' with ⟨C2, R2, t', x1, x2, x3, x4, x5, x6, x7, x8⟩ | ⟨C2, R2, x1, x2, x3, x4, x5⟩
    · exact Or.inl ⟨C2, R2, t', x1, x2, by omega, x4, x5, fun z => x6 (by rw [m8]; exact f6 z), fC1.kiC.tr x7, fR1.kiR.tr x8⟩
    · exact Or.inr ⟨C2, R2, x1, x2, x3, fC1.kiC.tr x4, fR1.kiR.tr x5⟩
  · rw [d1] at eT
    rw [d2] at eU
    simp only [Option.bind_some] at eT eU
    rw [if_neg (fun z => z trivial)] at eT
    have x18 : fuM R 2 t 439 18 = s := by rw [fuM_ne (by omega)]; exact s1
    have x447 : fuM R 2 t 447 s = k0 := by rw [fuM_ne (by omega)]; exact hk0.2.1
    rw [if_neg (fun z => z trivial), x18, if_pos (by omega), x447] at eU
    have hSf : gST n m w s C (fuM R 2 t) := hS.fx (fxC.rf _ _) (fnR_fl _ _).wd
    have hKf : gNm w s k0 C (fuM R 2 t) := hR.gNm.fr (fun _ _ _ => rfl) (fun c j hc => fuM_ne (by omega))
    obtain ⟨q', -, -, z3, z4⟩ := kn_pair (v := fuM R 2 t 445 t) (tok := t) hSf hKf rfl q1 (by omega) k0.toNat 0 (by omega) (by omega) (fun y y0 y1 => by omega)
    have hko : ∃ y, f_Model_kinOf t k0 (fuM R 2 t) = some (y, fuM R 2 t) := by
      rw [q_Model_kinOf]
      by_cases c : q' = -1
      · rw [z4 c, m_wrongf d3.pos q1 (by omega)]
        exact ⟨-1, rfl⟩
      · exact ⟨q', z3 c⟩
    obtain ⟨y, hy⟩ := hko
    rw [hy] at eU
    simp only [Option.bind_some] at eU
    have hw198 : ∃ wh, U = f_Model_tellPath_198 v (700 * s + S) wh (fuM R 2 t) := by
      by_cases c : y = -1
      · rw [if_neg (fun z => z c)] at eU
        exact ⟨_, eU⟩
      · rw [if_pos c] at eU
        exact ⟨_, eU⟩
    obtain ⟨wh, eU'⟩ := hw198
    obtain ⟨R', k1, k2, k3, k4⟩ := m_p198f (R := fuM R 2 t) (s := s) (P := P) (S := S) (v := v) (v4 := 700 * s + S) (v6 := wh) d3.pos x18 s2 (by rw [fuM_ne (by omega)]; exact a3) (by omega) (by omega) (by rw [fuM_ne (by omega)]; exact a2) (by omega) (by omega) (by omega) (by omega) rfl
    exact Or.inr ⟨_, R', eT, eU'.trans k1, d3.fr (fun _ _ _ => rfl) ⟨k3, k4⟩, fC.kiC.tr (fnC_6 _).kiC, (fnR_fl _ _).kiR.tr k2⟩
end
