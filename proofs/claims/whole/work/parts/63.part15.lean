/-! PARTING: the rest, the loops over the rules. -/
section
variable {M N : em_M}
def gC (M N : em_M) (a b : Option (Int × em_M)) : Prop := (∃ M' N', a = some (1, M') ∧ b = some (0, N') ∧ gOk M N M' N') ∨ (∃ M' N', a = some (0, M') ∧ b = some (0, N') ∧ gBad M N M' N')
theorem rest63 {t L p : Int} (hg : gPre M N t L p) : ∀ (m : Nat) (r : Int), 0 ≤ r → r ≤ M (M 0 11) 4 → M (M 0 11) 4 - r ≤ m → gC M N (f_Parting_giveRest_63 (M 0 11) r M) (f_Model_goesOn_23 3 (30 * M 439 17 + r) N) := by
  obtain ⟨hb, hp, hz, hR, ⟨h90, h91⟩, ⟨h17, h13, h16⟩, h494⟩ := id hg
  obtain ⟨nl, w1, w3, w6, w9, n17, n454⟩ := hb.laws
  intro m
  have fin : ∀ r, r = M (M 0 11) 4 → gC M N (f_Parting_giveRest_63 (M 0 11) r M) (f_Model_goesOn_23 3 (30 * M 439 17 + r) N) := fun r hr => by
    left
    refine ⟨xup M 127 16 (M 127 15), xup N 439 91 1, ?_, ?_, ?_, ⟨⟨?_, ?_, ?_, ?_⟩, ?_, ?_, ?_, ?_⟩, fun c j hc => xup_ne (by omega), fun c j hc => xup_ne (by omega), ⟨xup_ne (by omega), xup_ne (by omega)⟩, fun j j0 j1 => xup_ne (by omega), fun x _ _ z _ => (xup_ne (by omega)).trans z⟩
    · rw [q_Parting_giveRest_63, isO_law w1, cond_true, em_cd, if_pos (by omega)]
    · rw [q_Model_goesOn_23]
      simp only [em_cd, n17, n454]
      rw [if_pos (by omega), x32_s (x := 30 * M 439 17) (by omega) (by omega), x32_s (x := 30 * M 439 17 + M (M 0 11) 4) (by omega) (by omega), if_pos (by omega), x32_s (by omega) (by omega), q_Model_goesOn_2]
      simp only [em_cd, h90, eq_self, not_true_eq_false, if_false]
      rw [if_pos (by omega)]
    · rw [xup_ne (by omega)]; exact hz
    · intro x x0 x1
      rw [xup_ne (by omega)] at x1
      rw [xup_ne (by omega), xup_ne (by omega), xup_ne (by omega)]
      exact hp.1 x x0 x1
    · intro x x0 x1
      rw [xup_ne (by omega)] at x0
      rw [xup_ne (by omega)]
      exact hp.2.1 x x0 x1
    · rw [xup_ne (by omega), xup_ne (by omega)]
      refine hp.2.2.1.cong (fun x _ _ => ?_)
      rw [xup_ne (by omega)]
    · intro x x0 x1
      rw [xup_ne (by omega)] at x1
      rw [xup_ne (by omega), xup_ne (by omega)]
      exact hp.2.2.2 x x0 x1
    · rw [xup_ne (by omega), xup_ne (by omega), h17, h90]
    · right
      rw [xup_eq, xup_eq, xup_ne (by omega)]
      exact ⟨rfl, rfl⟩
    · rw [xup_ne (by omega), h13, xup_ne (by omega)]
      refine mk_0.cong (fun x x0 x1 => ⟨fun z => z.elim, fun z => z.2.2 ?_⟩)
      rw [xup_ne (by omega)]
      exact h494 x x0 z.1
    · intro x x0 x1
      rw [xup_ne (by omega)] at x1
      left
      rw [xup_ne (by omega)]
      exact h494 x x0 x1
  induction m with
  | zero =>
    intro r r0 r1 hm
    exact fin r (by omega)
  | succ m ih =>
    intro r r0 r1 hm
    by_cases q : M (M 0 11) 4 ≤ r
    · exact fin r (by omega)
    · clear fin
      obtain ⟨rr, -⟩ := hb.rule r0 (by omega)
      have e := q_Parting_giveRest_63 (M 0 11) r M
      rw [isO_law w1, f_isKind w1 r0 (by omega)] at e
      simp only [em_cd, cond_true, Bool.and_true, Option.bind_some, b2_z] at e
      rw [if_neg q, x32_s (by omega) (by omega)] at e
      have eM := q_Model_goesOn_23 3 (30 * M 439 17 + r) N
      simp only [em_cd, n17, n454] at eM
      rw [if_pos (by omega), x32_s (x := 30 * M 439 17) (by omega) (by omega), x32_s (x := 30 * M 439 17 + M (M 0 11) 4) (by omega) (by omega), if_neg (by omega), if_neg (fun z => z h90), if_pos (by omega), nl 455 _ (by omega) (by omega), x32_s (by omega) (by omega)] at eM
      have skip : f_Parting_giveRest_63 (M 0 11) r M = f_Parting_giveRest_63 (M 0 11) (r + 1) M → f_Model_goesOn_23 3 (30 * M 439 17 + r) N = f_Model_goesOn_23 3 (30 * M 439 17 + r + 1) N → gC M N (f_Parting_giveRest_63 (M 0 11) r M) (f_Model_goesOn_23 3 (30 * M 439 17 + r) N) := fun z1 z2 => by
        rw [z1, z2, show 30 * M 439 17 + r + 1 = 30 * M 439 17 + (r + 1) by omega]
        exact ih (r + 1) (by omega) (by omega) (by omega)
      have other : f_Parting_giveRest_63 (M 0 11) r M = f_Parting_giveRest_63 (M 0 11) r M → ¬ M (M 0 11 + 5) r = 7 → ¬ M 455 (30 * M 439 17 + r) = 3 → gC M N (f_Parting_giveRest_63 (M 0 11) r M) (f_Model_goesOn_23 3 (30 * M 439 17 + r) N) := fun _ z1 z2 => by
        rw [if_pos z1] at e
        rw [if_neg z2] at eM
        exact skip e eM
      rcases rr with ⟨k1, k2, -⟩ | ⟨k1, k2, -⟩ | ⟨k1, k2, -⟩ | ⟨k1, k2, kl⟩
      · exact other rfl (by omega) (by omega)
      · exact other rfl (by omega) (by omega)
      · exact other rfl (by omega) (by omega)
      · clear other
        rw [if_neg (fun z => z k2)] at e
        rw [if_pos k1, if_pos (by omega)] at eM
        have e83 : ∀ A, A 439 17 = M 439 17 → f_Model_goesOn_83 3 (30 * M 439 17 + r) 1 A = f_Model_goesOn_23 3 (30 * M 439 17 + r + 1) (xup A 439 90 r) := fun A hA => by
          rw [q_Model_goesOn_83]
          simp only [em_cd]
          rw [if_neg (by omega), hA, x32_s (x := 30 * M 439 17) (by omega) (by omega), x32_s (x := 30 * M 439 17 + r - 30 * M 439 17) (by omega) (by omega), x32_s (by omega) (by omega), show 30 * M 439 17 + r - 30 * M 439 17 = r by omega]
        obtain ⟨U, u1, ⟨u2, u3⟩ | ⟨u2, u3⟩⟩ := back_rule hg kl r0 (by omega)
        · rw [u1] at e
          simp only [Option.bind_some, u2, if_true] at e
          rw [u3] at eM
          simp only [Option.bind_some, q_Model_goesOn_83, em_cd, if_true] at eM
          rw [x32_s (by omega) (by omega)] at eM
          exact skip e eM
        · rw [u1] at e
          simp only [Option.bind_some, u2, u1] at e
          rw [if_neg (by omega)] at e
          rcases u3 with ⟨M', N', s1, s2, s3⟩ | ⟨M', N', s1, s2, s3⟩
          · rw [s1] at e
            simp only [Option.bind_some] at e
            rw [if_pos (by simp)] at e
            rw [s2] at eM
            simp only [Option.bind_some] at eM
            have h17' : N' 439 17 = M 439 17 := by
              have := s3.2.2.2.1 439 17 (by omega)
              rw [xup_ne (by omega), xup_ne (by omega)] at this
              rw [this]; exact n17
            have eM := eM.trans ((e83 N' h17').trans (m_done (N := xup N' 439 90 r) (Or.inr rfl) (by rw [xup_ne (by omega), h17']; exact w3) (by rw [xup_eq]; omega)))
            exact Or.inl ⟨M', _, e, eM, s3⟩
          · rw [s1] at e
            simp only [Option.bind_some] at e
            rw [if_pos (by simp)] at e
            rw [s2] at eM
            simp only [Option.bind_some] at eM
            have h17' : N' 439 17 = M 439 17 := by
              have := s3.2.2 439 17 (by omega)
              rw [xup_ne (by omega), xup_ne (by omega)] at this
              rw [this]; exact n17
            have eM := eM.trans ((e83 N' h17').trans (m_done (N := xup N' 439 90 r) (Or.inr rfl) (by rw [xup_ne (by omega), h17']; exact w3) (by rw [xup_eq]; omega)))
            exact Or.inr ⟨M', _, e, eM, s3⟩
theorem rest14 {t L p : Int} (hg : gPre M N t L p) : ∀ (m : Nat) (r : Int), 0 ≤ r → r ≤ M (M 0 11) 4 → M (M 0 11) 4 - r ≤ m → gC M N (f_Parting_giveRest_14 (M 0 11) r M) (f_Model_goesOn_23 2 (30 * M 439 17 + r) N) := by
  obtain ⟨hb, hp, hz, hR, ⟨h90, h91⟩, ⟨h17, h13, h16⟩, h494⟩ := id hg
  obtain ⟨nl, w1, w3, w6, w9, n17, n454⟩ := hb.laws
  intro m
  have fin : ∀ r, r = M (M 0 11) 4 → gC M N (f_Parting_giveRest_14 (M 0 11) r M) (f_Model_goesOn_23 2 (30 * M 439 17 + r) N) := fun r hr => by
    have e1 : f_Parting_giveRest_14 (M 0 11) r M = f_Parting_giveRest_63 (M 0 11) 0 M := by
      rw [q_Parting_giveRest_14, isO_law w1, cond_true, em_cd, if_pos (by omega)]
    have e2 : f_Model_goesOn_23 2 (30 * M 439 17 + r) N = f_Model_goesOn_23 3 (30 * M 439 17 + 0) N := by
      rw [q_Model_goesOn_23]
      simp only [em_cd, n17, n454]
      rw [if_pos (by omega), x32_s (x := 30 * M 439 17) (by omega) (by omega), x32_s (x := 30 * M 439 17 + M (M 0 11) 4) (by omega) (by omega), if_pos (by omega), x32_s (by omega) (by omega), q_Model_goesOn_2]
      simp only [em_cd, h90, eq_self, not_true_eq_false, if_false, n17]
      rw [if_neg (by omega), x32_s (by omega) (by omega), Int.add_zero]
      rfl
    rw [e1, e2]
    exact rest63 hg 30 0 (by omega) (by omega) (by omega)
  induction m with
  | zero =>
    intro r r0 r1 hm
    exact fin r (by omega)
  | succ m ih =>
    intro r r0 r1 hm
    by_cases q : M (M 0 11) 4 ≤ r
    · exact fin r (by omega)
    · clear fin
      obtain ⟨rr, -⟩ := hb.rule r0 (by omega)
      have e := q_Parting_giveRest_14 (M 0 11) r M
      rw [isO_law w1, f_isKind w1 r0 (by omega)] at e
      simp only [em_cd, cond_true, Bool.and_true, Option.bind_some, b2_z] at e
      rw [if_neg q, x32_s (by omega) (by omega)] at e
      have eM := q_Model_goesOn_23 2 (30 * M 439 17 + r) N
      simp only [em_cd, n17, n454] at eM
      rw [if_pos (by omega), x32_s (x := 30 * M 439 17) (by omega) (by omega), x32_s (x := 30 * M 439 17 + M (M 0 11) 4) (by omega) (by omega), if_neg (by omega), if_neg (fun z => z h90), if_pos (by omega), nl 455 _ (by omega) (by omega), x32_s (by omega) (by omega)] at eM
      have skip : f_Parting_giveRest_14 (M 0 11) r M = f_Parting_giveRest_14 (M 0 11) (r + 1) M → f_Model_goesOn_23 2 (30 * M 439 17 + r) N = f_Model_goesOn_23 2 (30 * M 439 17 + r + 1) N → gC M N (f_Parting_giveRest_14 (M 0 11) r M) (f_Model_goesOn_23 2 (30 * M 439 17 + r) N) := fun z1 z2 => by
        rw [z1, z2, show 30 * M 439 17 + r + 1 = 30 * M 439 17 + (r + 1) by omega]
        exact ih (r + 1) (by omega) (by omega) (by omega)
      have other : f_Parting_giveRest_14 (M 0 11) r M = f_Parting_giveRest_14 (M 0 11) r M → ¬ M (M 0 11 + 5) r = 6 → ¬ M 455 (30 * M 439 17 + r) = 2 → gC M N (f_Parting_giveRest_14 (M 0 11) r M) (f_Model_goesOn_23 2 (30 * M 439 17 + r) N) := fun _ z1 z2 => by
        rw [if_pos z1] at e
        rw [if_neg z2] at eM
        exact skip e eM
      rcases rr with ⟨k1, k2, -⟩ | ⟨k1, k2, -⟩ | ⟨k1, k2, kl⟩ | ⟨k1, k2, -⟩
      · exact other rfl (by omega) (by omega)
      · exact other rfl (by omega) (by omega)
      · clear other
        rw [if_neg (fun z => z k2)] at e
        rw [if_pos k1] at eM
        simp only [eq_self, not_true_eq_false, if_false] at eM
        have e83 : ∀ A, A 439 17 = M 439 17 → f_Model_goesOn_83 2 (30 * M 439 17 + r) 1 A = f_Model_goesOn_23 2 (30 * M 439 17 + r + 1) (xup A 439 90 r) := fun A hA => by
          rw [q_Model_goesOn_83]
          simp only [em_cd]
          rw [if_neg (by omega), hA, x32_s (x := 30 * M 439 17) (by omega) (by omega), x32_s (x := 30 * M 439 17 + r - 30 * M 439 17) (by omega) (by omega), x32_s (by omega) (by omega), show 30 * M 439 17 + r - 30 * M 439 17 = r by omega]
        obtain ⟨U, u1, ⟨u2, u3⟩ | ⟨u2, u3⟩⟩ := rest_rule hg kl (fun i i0 i1 => (kl.2 i i0 i1).2.2.2.2 k2) r0 (by omega)
        · rw [u1] at e
          simp only [Option.bind_some] at e
          rw [if_pos u2] at e
          rw [u3] at eM
          simp only [Option.bind_some, q_Model_goesOn_83, em_cd, if_true] at eM
          rw [x32_s (by omega) (by omega)] at eM
          exact skip e eM
        · rw [u1] at e
          simp only [Option.bind_some] at e
          rw [if_neg u2] at e
          rcases u3 with ⟨M', N', s1, s2, s3⟩ | ⟨M', N', s1, s2, s3⟩
          · rw [s1] at e
            simp only [Option.bind_some] at e
            rw [if_pos (by simp)] at e
            rw [s2] at eM
            simp only [Option.bind_some] at eM
            have h17' : N' 439 17 = M 439 17 := by
              have := s3.2.2.2.1 439 17 (by omega)
              rw [xup_ne (by omega), xup_ne (by omega)] at this
              rw [this]; exact n17
            have eM := eM.trans ((e83 N' h17').trans (m_done (N := xup N' 439 90 r) (Or.inl rfl) (by rw [xup_ne (by omega), h17']; exact w3) (by rw [xup_eq]; omega)))
            exact Or.inl ⟨M', _, e, eM, s3⟩
          · rw [s1] at e
            simp only [Option.bind_some] at e
            rw [if_pos (by simp)] at e
            rw [s2] at eM
            simp only [Option.bind_some] at eM
            have h17' : N' 439 17 = M 439 17 := by
              have := s3.2.2 439 17 (by omega)
              rw [xup_ne (by omega), xup_ne (by omega)] at this
              rw [this]; exact n17
            have eM := eM.trans ((e83 N' h17').trans (m_done (N := xup N' 439 90 r) (Or.inl rfl) (by rw [xup_ne (by omega), h17']; exact w3) (by rw [xup_eq]; omega)))
            exact Or.inr ⟨M', _, e, eM, s3⟩
      · exact other rfl (by omega) (by omega)
/-- the rest, whether there is one or none -/
theorem rest_both {t L p : Int} (hg : gPre M N t L p) : (∃ M' N', f_Parting_giveRest (M 0 11) M = some (1, M') ∧ restM N (M 127 15) = f_Model_parts_544 0 N' ∧ gOk M N M' N') ∨ (∃ M' N', f_Parting_giveRest (M 0 11) M = some (0, M') ∧ restM N (M 127 15) = some (0, N') ∧ gBad M N M' N') := by
  obtain ⟨hb, hp, hz, hR, ⟨h90, h91⟩, ⟨h17, h13, h16⟩, h494⟩ := id hg
  obtain ⟨nl, w1, w3, w6, w9, n17, n454⟩ := hb.laws
  rw [q_Parting_giveRest, f_isPositive M (fr_ok_lt hR.1)]
  simp only [Option.bind_some, em_cd, nnz]
  unfold restM
  by_cases c : 0 < fr_up (M 127 15)
  · rw [if_pos c, if_neg (by omega)]
    have e : f_Model_goesOn N = f_Model_goesOn_23 2 (30 * M 439 17 + 0) N := by
      rw [q_Model_goesOn, q_Model_goesOn_2]
      simp only [em_cd, h90, eq_self, not_true_eq_false, if_false, n17]
      rw [if_neg (by omega), x32_s (by omega) (by omega), Int.add_zero]
    rw [e]
    rcases rest14 hg 30 0 (by omega) (by omega) (by omega) with ⟨M', N', s1, s2, s3⟩ | ⟨M', N', s1, s2, s3⟩
    · exact Or.inl ⟨M', N', s1, by rw [s2]; rfl, s3⟩
    · exact Or.inr ⟨M', N', s1, by rw [s2]; exact m_544sp s3.1, s3⟩
  · rw [if_neg c, if_pos (by omega)]
    refine Or.inl ⟨M, N, rfl, rfl, hz, ⟨hp, by rw [h17, h90], Or.inl ⟨h91, h16⟩, ?_, fun x x0 x1 => Or.inl (h494 x x0 x1)⟩, qC.rf M, qM.rf N, ⟨rfl, rfl⟩, fun _ _ _ => rfl, zC.rf M⟩
    rw [h13]
    exact mk_0.cong (fun x x0 x1 => ⟨fun z => z.elim, fun z => z.2.2 (h494 x x0 z.1)⟩)
end
