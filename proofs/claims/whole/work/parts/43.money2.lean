/-! MONEY: debts. -/
theorem nnz {c : Prop} [Decidable c] : (¬ (if c then (1 : Int) else 0) = 0) = c := by
  apply propext
  by_cases h : c <;> simp [h]
theorem zzz {c : Prop} [Decidable c] : ((if c then (1 : Int) else 0) = 0) = ¬ c := by
  apply propext
  by_cases h : c <;> simp [h]
/-- what is paid of a by one who has P -/
def prd (a P : Int) : Int := if fr_up P * fr_low a < fr_up a * fr_low P then P else a
theorem prd_ok {a P : Int} (ha : fr_ok a) (hP : fr_ok P) : fr_ok (prd a P) ∧ fr_up (prd a P) * fr_low P ≤ fr_up P * fr_low (prd a P) := by
  unfold prd
  by_cases h : fr_up P * fr_low a < fr_up a * fr_low P
  · rw [if_pos h]
    exact ⟨hP, Int.le_refl _⟩
  · rw [if_neg h]
    exact ⟨ha, by omega⟩
section
variable {M N : em_M}
/-! the reference -/
theorem m_earns {q Q F : Int} (hs : mSp N) (q0 : 0 ≤ q) (q1 : q < 30) (hQ : fr_is N Q (N 474 q) (N 475 q)) (hF : fr_is N F (N 439 45) (N 439 46)) : ∃ u N', f_Model_earns q N = some (0, N') ∧ mSt (N 439 44) (N' 439 44) (fr_plus Q F) u ∧ (N' 439 45 = fr_up u ∧ N' 439 46 = fr_low u) ∧ (N' 474 q = fr_up u ∧ N' 475 q = fr_low u) ∧ ∀ c j, ¬ ((c = 439 ∧ 44 ≤ j ∧ j ≤ 46) ∨ ((c = 474 ∨ c = 475) ∧ j = q)) → N' c j = N c j := by
  obtain ⟨u, A, a1, a2, a3, a4⟩ := m_plus' hs hQ.1 hF.1 hQ.2.1 hQ.2.2 hF.2.1 hF.2.2
  refine ⟨u, xup (xup A 474 q (A 439 45)) 475 q (A 439 46), ?_, ?_, ?_, ?_, fun c j hc => ?_⟩
  · rw [q_Model_earns, a1]
    simp (disch := omega) only [em_cd, if_pos, Option.bind_some, xup_ne]
  · simp (disch := omega) only [xup_ne]; exact a2
  · simp (disch := omega) only [xup_ne]; exact a3
  · simp (disch := omega) only [xup_ne, xup_eq]; exact a3
  · rw [xup_ne (by omega), xup_ne (by omega), a4 c j (by omega)]
theorem m_earnsOut {w S F : Int} (hs : mSp N) (hw : w = 0 ∨ w = 1) (hQ : fr_is N S (N 487 w) (N 488 w)) (hF : fr_is N F (N 439 45) (N 439 46)) : ∃ u N', f_Model_earnsOut w N = some (0, N') ∧ mSt (N 439 44) (N' 439 44) (fr_plus S F) u ∧ (N' 439 45 = fr_up u ∧ N' 439 46 = fr_low u) ∧ (N' 487 w = fr_up u ∧ N' 488 w = fr_low u) ∧ ∀ c j, ¬ ((c = 439 ∧ 44 ≤ j ∧ j ≤ 46) ∨ ((c = 487 ∨ c = 488) ∧ j = w)) → N' c j = N c j := by
  obtain ⟨u, A, a1, a2, a3, a4⟩ := m_plus' hs hQ.1 hF.1 hQ.2.1 hQ.2.2 hF.2.1 hF.2.2
  refine ⟨u, xup (xup A 487 w (A 439 45)) 488 w (A 439 46), ?_, ?_, ?_, ?_, fun c j hc => ?_⟩
  · rw [q_Model_earnsOut, a1]
    simp (disch := omega) only [em_cd, if_pos, Option.bind_some, xup_ne]
  · simp (disch := omega) only [xup_ne]; exact a2
  · simp (disch := omega) only [xup_ne]; exact a3
  · simp (disch := omega) only [xup_ne, xup_eq]; exact a3
  · rw [xup_ne (by omega), xup_ne (by omega), a4 c j (by omega)]
theorem m_pays141 {p P T F a b : Int} (hs : mSp N) (hp : N 439 74 = p) (p0 : 0 ≤ p) (p1 : p < 30) (hP : fr_is N P (N 474 p) (N 475 p)) (hT : fr_is N T (N 439 96) (N 439 97)) (hF : fr_is N F a b) (hle : fr_up F * fr_low P ≤ fr_up P * fr_low F) : ∃ u v s N', f_Model_pays_141 a b N = some (0, N') ∧ mSt (N 439 44) s (fr_minus P F) u ∧ mSt s (N' 439 44) (fr_plus T F) v ∧ (N' 474 p = fr_up u ∧ N' 475 p = fr_low u) ∧ (N' 439 96 = fr_up v ∧ N' 439 97 = fr_low v) ∧ ∀ c j, ¬ ((c = 439 ∧ ((44 ≤ j ∧ j ≤ 46) ∨ j = 96 ∨ j = 97)) ∨ ((c = 474 ∨ c = 475) ∧ j = p)) → N' c j = N c j := by
  obtain ⟨u, A, a1, a2, a3, a4⟩ := m_minus' hs hP.1 hF.1 hle hP.2.1 hP.2.2 hF.2.1 hF.2.2
  have hB : ∀ c j, ¬ ((c = 439 ∧ 44 ≤ j ∧ j ≤ 46) ∨ ((c = 474 ∨ c = 475) ∧ j = p)) → xup (xup A 474 p (A 439 45)) 475 p (A 439 46) c j = N c j := fun c j hc => by
    rw [xup_ne (by omega), xup_ne (by omega), a4 c j (by omega)]
  have hBs : xup (xup A 474 p (A 439 45)) 475 p (A 439 46) 439 44 = A 439 44 := by simp (disch := omega) only [xup_ne]
  obtain ⟨v, D, d1, d2, d3, d4⟩ := m_plus' (N := xup (xup A 474 p (A 439 45)) 475 p (A 439 46)) (by unfold mSp; rw [hBs]; exact a2.sp) hT.1 hF.1 ((hB 439 96 (by omega)).trans hT.2.1) ((hB 439 97 (by omega)).trans hT.2.2) hF.2.1 hF.2.2
  refine ⟨u, v, A 439 44, xup (xup D 439 96 (D 439 45)) 439 97 (D 439 46), ?_, a2, ?_, ?_, ?_, fun c j hc => ?_⟩
  · have a74 : A 439 74 = p := by rw [a4 _ _ (by omega)]; exact hp
    rw [q_Model_pays_141, hp, a1]
    simp (disch := omega) only [em_cd, if_pos, Option.bind_some, xup_ne, a74, d1] at d1 ⊢
    simp (disch := omega) only [xup_ne, d1, Option.bind_some]
  · simp (disch := omega) only [xup_ne]
    rw [hBs] at d2
    exact d2
  · rw [xup_ne (by omega), xup_ne (by omega), xup_ne (by omega), xup_ne (by omega), d4 _ _ (by omega), d4 _ _ (by omega), xup_ne (by omega), xup_eq, xup_eq]
    exact a3
  · rw [xup_ne (by omega), xup_eq, xup_eq]
    exact d3
  · rw [xup_ne (by omega), xup_ne (by omega), d4 c j (by omega), hB c j (by omega)]
/-- a debt paid: what stands behind it, or that it was too much -/
def dPost (p q P T Q D S F : Int) (N N' : em_M) : Prop := (N' 439 44 = 0 ∧ fr_is N' (fr_minus P F) (N' 474 p) (N' 475 p) ∧ fr_is N' (fr_plus T F) (N' 439 96) (N' 439 97) ∧ (q = -1 → fr_is N' (fr_plus S F) (N' 487 0) (N' 488 0)) ∧ (¬ q = -1 → fr_is N' (fr_plus Q F) (N' 474 q) (N' 475 q) ∧ fr_is N' (fr_plus D F) (N' 499 q) (N' 500 q))) ∨ (N' 439 44 = 1 ∧ (fr_minus P F = -1 ∨ fr_plus T F = -1 ∨ (q = -1 ∧ fr_plus S F = -1) ∨ (¬ q = -1 ∧ (fr_plus Q F = -1 ∨ fr_plus D F = -1))))
theorem m_pays {i p q v P T Q D S : Int} (hs : N 439 44 = 0) (hp : N 439 74 = p) (p0 : 0 ≤ p) (p1 : p < 30) (i0 : 0 ≤ i) (i1 : i < 60) (hv : N 482 i = v) (v0 : 1 ≤ v) (v1 : v ≤ 100000) (hq : N 481 i = q) (q0 : -1 ≤ q) (q1 : q < 30) (hpq : ¬ q = p) (hP : fr_is N P (N 474 p) (N 475 p)) (hT : fr_is N T (N 439 96) (N 439 97)) (hS : fr_is N S (N 487 0) (N 488 0)) (hQ : ¬ q = -1 → fr_is N Q (N 474 q) (N 475 q)) (hD : ¬ q = -1 → fr_is N D (N 499 q) (N 500 q)) : ∃ N', f_Model_pays i N = some (0, N') ∧ dPost p q P T Q D S (prd (v * 1048576 + 1) P) N N' ∧ ∀ c j, ¬ ((c = 439 ∧ ((44 ≤ j ∧ j ≤ 46) ∨ j = 96 ∨ j = 97)) ∨ ((c = 474 ∨ c = 475) ∧ (j = p ∨ j = q)) ∨ ((c = 487 ∨ c = 488) ∧ j = 0 ∧ q = -1) ∨ ((c = 499 ∨ c = 500) ∧ j = q)) → N' c j = N c j := by
  obtain ⟨oa, oa1, oa2⟩ := fr_ok_int (v := v) (by omega) (by omega)
  generalize ha : v * 1048576 + 1 = a at oa oa1 oa2
  obtain ⟨oF, hle⟩ := prd_ok oa hP.1
  have e1 : f_Model_pays i N = f_Model_pays_59 i (fr_up (prd a P)) (fr_low (prd a P)) N := by
    have e := q_Model_pays i N
    rw [hp, hv, hP.2.1, hP.2.2, ← oa1, ← oa2, m_isAbove N oa hP.1] at e
    simp only [em_cd, Option.bind_some, hp, zzz] at e
    rw [if_pos (by omega), if_pos (by omega), if_pos (by omega)] at e
    unfold prd
    by_cases h : fr_up P * fr_low a < fr_up a * fr_low P
    · rw [if_neg (fun z => z h), if_pos (by omega), if_pos (by omega), hP.2.1, hP.2.2] at e
      rw [if_pos h]
      exact e
    · rw [if_pos h] at e
      rw [if_neg h]
      exact e
  rw [e1]
  generalize hF : prd a P = F at oF hle
  -- the state with F in up, low
  generalize hX : xup (xup N 439 45 (fr_up F)) 439 46 (fr_low F) = X
  have x1 : ∀ c j, ¬ (c = 439 ∧ 45 ≤ j ∧ j ≤ 46) → X c j = N c j := fun c j hc => by rw [← hX, xup_ne (by omega), xup_ne (by omega)]
  have x2 : X 439 45 = fr_up F ∧ X 439 46 = fr_low F := by rw [← hX]; simp (disch := omega) only [xup_ne, xup_eq, and_self]
  have xs : X 439 44 = 0 := by rw [x1 _ _ (by omega)]; exact hs
  by_cases c : q = -1
  · obtain ⟨u, A, a1, a2, a3, a4, a5⟩ := m_earnsOut (N := X) (w := 0) (S := S) (F := F) (Or.inl xs) (Or.inl rfl) (by rw [x1 _ _ (by omega), x1 _ _ (by omega)]; exact hS) ⟨oF, x2.1, x2.2⟩
    have fa : ∀ c j, ¬ ((c = 439 ∧ 44 ≤ j ∧ j ≤ 46) ∨ ((c = 487 ∨ c = 488) ∧ j = 0)) → A c j = N c j := fun c j hc => by rw [a5 c j (by omega), x1 c j (by omega)]
    obtain ⟨u2, u3, s, B, b1, b2', b3, b4, b5, b6⟩ := m_pays141 (N := A) (p := p) (P := P) (T := T) (F := F) (a := fr_up F) (b := fr_low F) a2.sp (by rw [fa _ _ (by omega)]; exact hp) p0 p1 (by rw [fa _ _ (by omega), fa _ _ (by omega)]; exact hP) (by rw [fa _ _ (by omega), fa _ _ (by omega)]; exact hT) ⟨oF, rfl, rfl⟩ hle
    refine ⟨B, ?_, ?_, fun c j hc => by rw [b6 c j (by omega), fa c j (by omega)]⟩
    · rw [q_Model_pays_59, hq]
      simp (disch := omega) only [em_cd, if_pos, if_neg]
      rw [hX, a1]
      exact b1
    · rw [xs] at a2
      rcases b2'.tr b3 with ⟨z1, z2, z3, z4⟩ | ⟨z1, z2⟩
      · left
        rcases a2.2 with ⟨y1, y2, y3⟩ | ⟨y1, y2⟩
        · refine ⟨z1, ⟨by rw [z3]; exact b2'.1, by rw [z3]; exact b4.1, by rw [z3]; exact b4.2⟩, ⟨by rw [z4]; exact b3.1, by rw [z4]; exact b5.1, by rw [z4]; exact b5.2⟩, fun _ => ⟨by rw [y3]; exact a2.1, by rw [b6 _ _ (by omega), y3]; exact a4.1, by rw [b6 _ _ (by omega), y3]; exact a4.2⟩, fun z => absurd c z⟩
        · omega
      · right
        refine ⟨z1, ?_⟩
        rcases z2 with z2 | z2 | z2
        · rcases a2.2 with ⟨y1, y2, y3⟩ | ⟨y1, y2⟩
          · omega
          · exact Or.inr (Or.inr (Or.inl ⟨c, by omega⟩))
        · exact Or.inl z2
        · exact Or.inr (Or.inl z2)
  · obtain ⟨u, A, a1, a2, a3, a4, a5⟩ := m_earns (N := X) (q := q) (Q := Q) (F := F) (Or.inl xs) (by omega) (by omega) (by rw [x1 _ _ (by omega), x1 _ _ (by omega)]; exact hQ c) ⟨oF, x2.1, x2.2⟩
    have fa : ∀ c j, ¬ ((c = 439 ∧ 44 ≤ j ∧ j ≤ 46) ∨ ((c = 474 ∨ c = 475) ∧ j = q)) → A c j = N c j := fun c j hc => by rw [a5 c j (by omega), x1 c j (by omega)]
    have hDc := hD c
    obtain ⟨w, G, g1, g2, g3, g4⟩ := m_plus' (N := A) a2.sp hDc.1 oF ((fa 499 q (by omega)).trans hDc.2.1) ((fa 500 q (by omega)).trans hDc.2.2) rfl rfl
    generalize hY : xup (xup G 499 q (G 439 45)) 500 q (G 439 46) = Y
    have fy : ∀ c j, ¬ ((c = 439 ∧ 44 ≤ j ∧ j ≤ 46) ∨ ((c = 474 ∨ c = 475) ∧ j = q) ∨ ((c = 499 ∨ c = 500) ∧ j = q)) → Y c j = N c j := fun c j hc => by rw [← hY, xup_ne (by omega), xup_ne (by omega), g4 c j (by omega), fa c j (by omega)]
    have y44 : Y 439 44 = G 439 44 := by rw [← hY]; simp (disch := omega) only [xup_ne]
    have y499 : Y 499 q = fr_up w ∧ Y 500 q = fr_low w := by rw [← hY]; simp (disch := omega) only [xup_ne, xup_eq]; exact g3
    have y474 : Y 474 q = fr_up u ∧ Y 475 q = fr_low u := by rw [← hY, xup_ne (by omega), xup_ne (by omega), xup_ne (by omega), xup_ne (by omega), g4 _ _ (by omega), g4 _ _ (by omega)]; exact a4
    obtain ⟨u2, u3, s, B, b1, b2', b3, b4, b5, b6⟩ := m_pays141 (N := Y) (p := p) (P := P) (T := T) (F := F) (a := fr_up F) (b := fr_low F) (by unfold mSp; rw [y44]; exact g2.sp) (by rw [fy _ _ (by omega)]; exact hp) p0 p1 (by rw [fy _ _ (by omega), fy _ _ (by omega)]; exact hP) (by rw [fy _ _ (by omega), fy _ _ (by omega)]; exact hT) ⟨oF, rfl, rfl⟩ hle
    refine ⟨B, ?_, ?_, fun c j hc => by rw [b6 c j (by omega), fy c j (by omega)]⟩
    · rw [q_Model_pays_59, hq]
      simp (disch := omega) only [em_cd, if_pos, if_neg]
      rw [hX, a1]
      simp only [Option.bind_some, g1]
      simp (disch := omega) only [xup_ne]
      rw [hY]
      exact b1
    · rw [xs] at a2
      rw [y44] at b2'
      rcases b2'.tr b3 with ⟨z1, z2, z3, z4⟩ | ⟨z1, z2⟩
      · left
        rcases a2.tr g2 with ⟨y1, y2, y3, y4⟩ | ⟨y1, y2⟩
        · refine ⟨z1, ⟨by rw [z3]; exact b2'.1, by rw [z3]; exact b4.1, by rw [z3]; exact b4.2⟩, ⟨by rw [z4]; exact b3.1, by rw [z4]; exact b5.1, by rw [z4]; exact b5.2⟩, fun z => absurd z c, fun _ => ⟨⟨by rw [y3]; exact a2.1, by rw [b6 _ _ (by omega), y3]; exact y474.1, by rw [b6 _ _ (by omega), y3]; exact y474.2⟩, ⟨by rw [y4]; exact g2.1, by rw [b6 _ _ (by omega), y4]; exact y499.1, by rw [b6 _ _ (by omega), y4]; exact y499.2⟩⟩⟩
        · omega
      · right
        refine ⟨z1, ?_⟩
        rcases z2 with z2 | z2 | z2
        · rcases a2.tr g2 with ⟨y1, y2, y3, y4⟩ | ⟨y1, y2⟩
          · omega
          · refine Or.inr (Or.inr (Or.inr ⟨c, ?_⟩))
            rcases y2 with y2 | y2 | y2
            · omega
            · exact Or.inl y2
            · exact Or.inr y2
        · exact Or.inl z2
        · exact Or.inr (Or.inl z2)
end
