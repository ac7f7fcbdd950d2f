/-! THE ARM would: the state in which the reference settles. -/
section
variable {M N : em_M}
theorem would_state {B Z : em_M} {t p L : Int} (h : Rel M) (t0 : 0 ≤ t) (t1 : t ≤ 100000) (p0 : 0 ≤ p) (p1 : p < M 6 0) (hk : kTab B t) (gB : ∀ c j, ¬ ((c = 25 ∧ 2 ≤ j ∧ j ≤ 4) ∨ (27 ≤ c ∧ c ≤ 50) ∨ c = 135 ∨ (c = 126 ∧ (j = 5 ∨ j = 6))) → B c j = M c j) (v1 : ∀ x, 0 ≤ x → x < 30 → B 135 x = M 12 x) (v2 : B 126 5 = M 136 2 ∧ B 126 6 = M 136 3) (hZ : zF B Z) (hL : mk L (fun x => ((x < M 6 0 ∧ M 10 x ≤ t) ∧ ¬ (¬ M 11 x = -1 ∧ M 11 x ≤ t)) ∧ ¬ x = p)) :
    ∃ N1, f_Model_saves 30 Z = some (0, N1) ∧ (sRel B (xup (xup (xup N1 439 44 0) 439 75 t) 472 p t) t L ∧ uR B (xup (xup (xup N1 439 44 0) 439 75 t) 472 p t) ∧ ¬ lvs (xup (xup (xup N1 439 44 0) 439 75 t) 472 p t) t p ∧ (xup (xup (xup N1 439 44 0) 439 75 t) 472 p t) 439 75 = t ∧ (xup (xup (xup N1 439 44 0) 439 75 t) 472 p t) 439 44 = 0) ∧ (∀ x, 0 ≤ x → x < 30 → N1 518 (960 + x) = M 474 x ∧ N1 519 (960 + x) = M 475 x) ∧ (N1 518 990 = M 487 0 ∧ N1 519 990 = M 488 0 ∧ N1 518 991 = M 487 1 ∧ N1 519 991 = M 488 1) ∧ ∀ c j, ¬ ((c = 518 ∨ c = 519) ∧ 960 ≤ j ∧ j < 992) → N1 c j = Z c j := by
  obtain ⟨hT, hP, hD, hM, hO, hL', hW, hK, hH, hS, hN, hF⟩ := id h
  have hn := hP.2.2.1
  have ez : ∀ c j, 439 ≤ c → Z c j = M c j := fun c j hc => by rw [hZ c j (by omega), gB c j (by omega)]
  obtain ⟨N1, a1, a2, a3, a4⟩ := m_saves' (M := Z) (t := 30) (by omega) (by omega)
  have fN : ∀ c j, ¬ ((c = 518 ∨ c = 519) ∧ 960 ≤ j ∧ j < 992) → N1 c j = Z c j := fun c j hc => a4 c j (by omega)
  refine ⟨N1, a1, ?_⟩
  generalize hX : xup (xup (xup N1 439 44 0) 439 75 t) 472 p t = X
  have fX : ∀ c j, ¬ (((c = 518 ∨ c = 519) ∧ 960 ≤ j ∧ j < 992) ∨ (c = 439 ∧ (j = 44 ∨ j = 75)) ∨ (c = 472 ∧ j = p)) → X c j = Z c j := fun c j hc => by rw [← hX, xup_ne (by omega), xup_ne (by omega), xup_ne (by omega), fN c j (by omega)]
  have vX : X 439 75 = t ∧ X 439 44 = 0 ∧ X 472 p = t := by rw [← hX]; simp (disch := omega) only [xup_ne, xup_eq, and_self]
  have gX : ∀ c j, 439 ≤ c → ¬ (((c = 518 ∨ c = 519) ∧ 960 ≤ j ∧ j < 992) ∨ (c = 439 ∧ (j = 44 ∨ j = 75)) ∨ (c = 472 ∧ j = p)) → X c j = M c j := fun c j hc hd => by rw [fX c j hd, ez c j hc]
  refine ⟨⟨?_, ⟨fun x x0 x1 => ?_, ?_, ?_⟩, ?_, vX.1, vX.2.1⟩, fun x x0 x1 => ?_, ?_, fN⟩
  · refine sRel_of h t0 t1 hk gB (fun c j hc => ?_) (hL.cong (fun x x0 x1 => ?_))
    · unfold sStat at hc
      rw [fX c j (by omega), hZ c j (by omega)]
    · have hst : x < M 6 0 → (X 471 x = M 10 x ∧ (¬ x = p → X 472 x = M 11 x)) := fun xn => by
        obtain ⟨-, -, -, q⟩ := hP.2.2.2 x x0 xn
        obtain ⟨⟨r, -⟩, -⟩ := hD.2 x x0 xn
        refine ⟨?_, fun xp => ?_⟩
        · rw [gX 471 x (by omega) (by omega)]; exact q.1
        · rw [gX 472 x (by omega) (by omega)]; exact r.1
      unfold lvs
      constructor
      · rintro ⟨⟨⟨y1, y2⟩, y3⟩, y4⟩
        obtain ⟨z1, z2⟩ := hst y1
        rw [z1, z2 y4]
        omega
      · rintro ⟨y1, y2, y3⟩
        obtain ⟨z1, z2⟩ := hst y1
        by_cases xp : x = p
        · rw [xp, vX.2.2] at y3
          omega
        · rw [z2 xp] at y3
          omega
  · rw [gB 6 0 (by omega)] at x1
    rw [v1 x x0 (by omega), gX 474 x (by omega) (by omega), gX 475 x (by omega) (by omega)]
    exact (hD.2 x x0 x1).2
  · rw [v2.1, gX 487 0 (by omega) (by omega), gX 488 0 (by omega) (by omega)]
    exact hH.2.2.1
  · rw [v2.2, gX 487 1 (by omega) (by omega), gX 488 1 (by omega) (by omega)]
    exact hH.2.2.2.1
  · unfold lvs
    rw [vX.2.2]
    omega
  · rw [show 960 + x = 32 * 30 + x by omega, (a2 x x0 x1).1, (a2 x x0 x1).2, ez 474 x (by omega), ez 475 x (by omega)]
    exact ⟨rfl, rfl⟩
  · have a3' : N1 518 990 = Z 487 0 ∧ N1 519 990 = Z 488 0 ∧ N1 518 991 = Z 487 1 ∧ N1 519 991 = Z 488 1 := a3
    rw [a3'.1, a3'.2.1, a3'.2.2.1, a3'.2.2.2, ez 487 0 (by omega), ez 488 0 (by omega), ez 487 1 (by omega), ez 488 1 (by omega)]
    exact ⟨rfl, rfl, rfl, rfl⟩
end
