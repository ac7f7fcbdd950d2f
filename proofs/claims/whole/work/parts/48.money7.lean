/-! MONEY: legacies, put together. -/
section
variable {M N : em_M}
theorem fC2.fC {E : Int} (h : fC2 E M N) : fC E M N := fun c j hc => h c j (by omega)
theorem fM2.fM (h : fM2 M N) : fM M N := fun c j hc => h c j (by omega)
theorem fr_le1_prd {x : Int} : fr_up 1048577 * fr_low x < fr_up x * fr_low 1048577 ↔ fr_low x < fr_up x := by
  have e1 : fr_up 1048577 = 1 := by decide
  have e2 : fr_low 1048577 = 1 := by decide
  rw [e1, e2, Int.one_mul, Int.mul_one]
/-- the end of the class's legacies -/
theorem f_209 {E G x : Int} (hE : isE E) (hG : fr_ok G) (hx : fr_ok x) : f_Settlement_payLegacies_209 E G E G x M = some (b2 (¬ fr_minus G (fr_times G x) < 0), xup (xup M E 5 (fr_times G x)) E 6 (fr_minus G (fr_times G x))) := by
  rw [q_Settlement_payLegacies_209, hE.k.1, f_times_eq M (Or.inr hG) (Or.inr hx)]
  simp only [Option.bind_some, cond_true, Bool.and_true, xup_eq, f_minus_eq _ (Or.inr hG) (fr_v_times _ _), f_isSpent, em_cd, nnz]
  by_cases h : fr_minus G (fr_times G x) < 0
  · rw [if_pos h, b2_f (fun z => z h)]
  · rw [if_neg h, b2_t h]
theorem fr_minus_m2 (x : Int) : fr_minus x (-1) = -1 := if_pos (Or.inr (by omega))
theorem legs_all {t L E p bd G : Int} (hE : isE E) (p0 : 0 ≤ p) (hbd : bd = M (M 0 11) 3) (hS : sRel M N t L) (hd : dRel M N E p t) (hp : p < M 6 0) (hs : N 439 44 = 0) (hG : M 135 p = G) (hGN : fr_is N G (N 439 100) (N 439 101)) :
    (∃ M' N', f_Settlement_payLegacies bd p L E M = some (1, M') ∧ f_Model_wills N = some (0, N') ∧ N' 439 44 = 0 ∧ dRel M' N' E p t ∧ fr_is N' (M' E 5) (N' 439 98) (N' 439 99) ∧ fr_is N' (M' E 6) (N' 439 100) (N' 439 101) ∧ fC E M M' ∧ fM N N') ∨ (∃ M' N', f_Settlement_payLegacies bd p L E M = some (0, M') ∧ f_Model_wills N = some (0, N') ∧ N' 439 44 = 1 ∧ fC E M M' ∧ fM N N') := by
  obtain ⟨⟨hP, hM, hO, hL, hW, hK⟩, hst, hl, ht⟩ := id hS
  obtain ⟨d1, ⟨d2, d3⟩, d4, d5, d6⟩ := id hd
  have hn := hP.2.2.1
  have hne := hE.ne
  have zer : fr_is N 1 0 1 := ⟨fr_ok_1.1, fr_ok_1.2.1.symm, fr_ok_1.2.2.symm⟩
  obtain ⟨all, a, b, N1, e1, e2, e3, ⟨x0, e4⟩, e5⟩ := wills7 (bd := bd) (E := E) hS d5 d6 60 0 1 0 1 N (fun _ _ _ => rfl) zer hs (by omega) (by have := hL.2.2.1; omega)
  rw [q_Settlement_payLegacies, q_Model_wills, e1, e2]
  have fN1 : fM2 N N1 := fun c j hc => e3 c j (by omega)
  -- the bound
  obtain ⟨w1, w2, w3, w4⟩ := id hW
  obtain ⟨b1, b2', b3, b4, b5⟩ := w4.2.2.2.2.1
  have ob : fr_ok bd := by rw [hbd, b1]; exact fr_of_small (by omega) (by omega) (by omega) (by omega)
  have ble : fr_up bd ≤ fr_low bd := by rw [hbd, b1]; exact fr_of_le1 (by omega) (by omega) (by omega) (by omega)
  have n17 : N1 439 17 = M 439 17 := by rw [e3 _ _ (by omega)]; exact hst _ _ (by unfold sStat; omega)
  have n466 : ∀ s, N1 466 s = M 466 s := fun s => by rw [e3 _ _ (by omega)]; exact hst _ _ (by unfold sStat; omega)
  have n467 : ∀ s, N1 467 s = M 467 s := fun s => by rw [e3 _ _ (by omega)]; exact hst _ _ (by unfold sStat; omega)
  have s1 : mSp N1 := by rcases e5 with ⟨z, -⟩ | ⟨z, -⟩; exact Or.inl z; exact Or.inr z
  obtain ⟨u, A, g1, ⟨g2, g3, g4⟩⟩ := m_lowest' (N := N1) s1 (a := M 466 (M 439 17)) (b := M 467 (M 439 17)) (by omega) (by omega) (by omega) (by omega)
  rw [← b1, ← hbd] at g2
  have eM := q_Model_wills_108 a b N1
  rw [n17, n466, n467, g1] at eM
  simp only [em_cd, Option.bind_some] at eM
  rw [if_pos (by omega), if_pos (by omega)] at eM
  rw [eM, q_Settlement_payLegacies_65, f_isSpent]
  have fA : fM2 N A := fun c j hc => by rw [g4 c j (by omega), e3 c j (by omega)]
  simp only [Option.bind_some, em_cd, zzz]
  rcases e5 with ⟨z1, z2⟩ | ⟨z1, z2⟩
  · have gz : A 439 44 = 0 ∧ u = bd := by
      rcases g2.zero z1 with ⟨y1, y2, y3⟩ | ⟨y1, y2⟩
      · exact ⟨y1, y2⟩
      · have := ob.1
        omega
    rw [gz.2] at g3
    have hall : fr_ok all := z2.1
    have allnn := hall.1
    rw [if_pos (by omega), if_pos (by omega), f_isAbove_eq M hall ob, if_neg (show ¬ ¬ A 439 44 = 0 by omega), g3.1, g3.2, z2.2.1, z2.2.2, m_isAbove A hall ob]
    simp only [Option.bind_some]
    generalize htm : (if fr_up bd * fr_low all < fr_up all * fr_low bd then (1 : Int) else 0) = tm
    have bn := fr_up_nn ob
    have hlb : 0 < fr_low bd := by have := ob.2.2.1; omega
    have hla : 0 < fr_low all := by have := hall.2.2.1; omega
    have htm2 : tm = 0 ∨ (tm = 1 ∧ 0 < fr_up all) := by
      by_cases h : fr_up bd * fr_low all < fr_up all * fr_low bd
      · rw [if_pos h] at htm
        refine Or.inr ⟨htm.symm, ?_⟩
        have h0 : 0 ≤ fr_up bd * fr_low all := Int.mul_nonneg bn (by omega)
        have h2 : 0 < fr_up all * fr_low bd := by omega
        exact Int.pos_of_mul_pos_left h2 (by omega)
      · rw [if_neg h] at htm
        exact Or.inl htm.symm
    have hle : fr_up (if tm = 0 then all else bd) ≤ fr_low (if tm = 0 then all else bd) := by
      by_cases h : fr_up bd * fr_low all < fr_up all * fr_low bd
      · rw [if_pos h] at htm
        rw [if_neg (by omega)]
        exact ble
      · rw [if_neg h] at htm
        rw [if_pos htm.symm]
        have h1 : fr_up all * fr_low bd ≤ fr_low bd * fr_low all := by
          have := Int.mul_le_mul_of_nonneg_right ble (by omega : 0 ≤ fr_low all)
          omega
        rw [Int.mul_comm (fr_low bd)] at h1
        exact Int.le_of_mul_le_mul_right h1 hlb
    have emod : (if tm = 0 then f_Model_wills_173 (fr_up all) (fr_low all) (fr_up bd) (fr_low bd) 0 0 A else f_Model_wills_173 (fr_up all) (fr_low all) (fr_up bd) (fr_low bd) 1 0 A) = f_Model_wills_173 (fr_up all) (fr_low all) (fr_up bd) (fr_low bd) tm 0 A := by
      rcases htm2 with h | ⟨h, -⟩
      · rw [if_pos h, h]
      · rw [if_neg (by omega), h]
    rw [emod, hG]
    have hSA : sRel M A t L := hS.fr hE (fC.rf E M) fA.fM
    have hdA : dRel M A E p t := by
      refine ⟨fun x x0 x1 => ?_, ⟨?_, ?_⟩, ?_, by rw [fA _ _ (by omega)]; exact d5, by rw [fA _ _ (by omega)]; exact d6⟩
      · have k : ∀ c j, ¬ (c = 439 ∧ 44 ≤ j ∧ j ≤ 46) → A c j = N c j := fun c j hc => by rw [g4 c j hc, e3 c j hc]
        rw [k 474 _ (by omega), k 475 _ (by omega), k 499 _ (by omega), k 500 _ (by omega), k 501 _ (by omega), k 502 _ (by omega)]
        exact d1 x x0 x1
      · rw [fA _ _ (by omega), fA _ _ (by omega)]; exact d2
      · rw [fA _ _ (by omega), fA _ _ (by omega)]; exact d3
      · rw [fA _ _ (by omega), fA _ _ (by omega)]; exact d4
    have hGA : fr_is A G (A 439 100) (A 439 101) := by rw [fA _ _ (by omega), fA _ _ (by omega)]; exact hGN
    have oG : fr_ok G := hGN.1
    have m387 : ∀ N2, (if tm = 0 then f_Model_wills_387 (fr_up all) (fr_low all) N2 else f_Model_wills_387 (fr_up bd) (fr_low bd) N2) = f_Model_wills_387 (fr_up (if tm = 0 then all else bd)) (fr_low (if tm = 0 then all else bd)) N2 := fun N2 => by
      by_cases h : tm = 0
      · rw [if_pos h, if_pos h]
      · rw [if_neg h, if_neg h]
    have ox : fr_ok (if tm = 0 then all else bd) := by
      by_cases h : tm = 0
      · rw [if_pos h]; exact hall
      · rw [if_neg h]; exact ob
    rcases legs_both (N := A) (t := t) (L := L) (E := E) (p := p) (bd := bd) (all := all) (G := G) (tm := tm) hE oG (⟨hall, rfl, rfl⟩ : fr_is A all (fr_up all) (fr_low all)) (⟨ob, rfl, rfl⟩ : fr_is A bd (fr_up bd) (fr_low bd)) htm2 60 0 M A hSA hdA hGA gz.1 (by omega) (by have := hL.2.2.1; omega) with ⟨M', N', k1, k2, k3, k4, k5, k6⟩ | ⟨M', N', k1, k2, k3, k5, k6⟩
    · rw [k1, k2, m387]
      generalize (if tm = 0 then all else bd) = x at *
      obtain ⟨u5, u6, s5, B, h1, h2, h3, h4, h5, h6⟩ := m_387 (N := N') (G := G) (x := x) (Or.inl k3) (by rw [k6 _ _ (by omega), k6 _ _ (by omega)]; exact hGA) ⟨ox, rfl, rfl⟩ (fun _ => hle)
      rw [h1, f_209 hE oG ox]
      have fCE : fC E M (xup (xup M' E 5 (fr_times G x)) E 6 (fr_minus G (fr_times G x))) := fun c j hc => by
        rw [xup_ne (by omega), xup_ne (by omega), k5 c j (by omega)]
      have fMB : fM N B := fun c j hc => by rw [h6 c j (by omega), k6 c j (by omega), fA c j (by omega)]
      rcases h2.zero k3 with ⟨y1, y2, y3⟩ | ⟨y1, y2⟩
      · rw [y2] at h3 h4
        rcases h3.zero y1 with ⟨v1, v2, v3⟩ | ⟨v1, v2⟩
        · left
          have vn := v3.1
          refine ⟨_, B, by rw [b2_t (by omega)], rfl, v1, ?_, ?_, ?_, fCE, fMB⟩
          · obtain ⟨q1, ⟨q2, q3⟩, q4, q5, q6⟩ := id k4
            have e60 : ∀ v w, xup (xup M' E 5 v) E 6 w 6 0 = M' 6 0 := fun v w => by rw [xup_ne (by omega), xup_ne (by omega)]
            refine ⟨fun y y0 y1 => ?_, ⟨?_, ?_⟩, ?_, by rw [h6 _ _ (by omega)]; exact q5, by rw [h6 _ _ (by omega)]; exact q6⟩
            · rw [e60] at y1
              rw [h6 474 _ (by omega), h6 475 _ (by omega), h6 499 _ (by omega), h6 500 _ (by omega), h6 501 _ (by omega), h6 502 _ (by omega)]
              simp (disch := omega) only [xup_ne]
              exact q1 y y0 y1
            · rw [h6 _ _ (by omega), h6 _ _ (by omega)]; simp (disch := omega) only [xup_ne]; exact q2
            · rw [h6 _ _ (by omega), h6 _ _ (by omega)]; simp (disch := omega) only [xup_ne]; exact q3
            · rw [h6 _ _ (by omega), h6 _ _ (by omega)]; simp (disch := omega) only [xup_ne]; exact q4
          · rw [xup_ne (by omega), xup_eq, h4.1, h4.2]
            exact ⟨y3, rfl, rfl⟩
          · rw [xup_eq, h5.1, h5.2, v2]
            exact ⟨v3, rfl, rfl⟩
        · right
          exact ⟨_, B, by rw [b2_f (by omega)], rfl, v1, fCE, fMB⟩
      · right
        rw [y1] at h3
        refine ⟨_, B, by rw [b2_f (by rw [y2, fr_minus_m2]; omega)], rfl, h3.one, fCE, fMB⟩
    · right
      rw [k1, k2, m387]
      obtain ⟨u5, u6, s5, B, h1, h2, h3, h4, h5, h6⟩ := m_387 (N := N') (G := G) (x := (if tm = 0 then all else bd)) (Or.inr k3) (by rw [k6 _ _ (by omega), k6 _ _ (by omega)]; exact hGA) ⟨ox, rfl, rfl⟩ (fun _ => hle)
      rw [k3] at h2
      rw [h2.one] at h3
      exact ⟨M', B, rfl, h1, h3.one, k5.fC, fun c j hc => by rw [h6 c j (by omega), k6 c j (by omega), fA c j (by omega)]⟩
  · right
    rw [z1] at g2
    have ga := g2.one
    rw [z2, if_neg (by omega), if_pos (by omega), m_173_sp ga, if_pos rfl]
    obtain ⟨u5, u6, s5, B, h1, h2, h3, h4, h5, h6⟩ := m_387 (N := A) (G := G) (x := x0) (a := a) (b := b) (Or.inr ga) (by rw [fA _ _ (by omega), fA _ _ (by omega)]; exact hGN) e4 (fun z => absurd z (by omega))
    rw [ga] at h2
    rw [h2.one] at h3
    exact ⟨M, B, rfl, h1, h3.one, fC.rf E M, fun c j hc => by rw [h6 c j (by omega), fA c j (by omega)]⟩
end
