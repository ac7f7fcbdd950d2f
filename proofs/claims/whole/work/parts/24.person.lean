/-! PERSONS: the call person of the two. -/
theorem Scr.rf (M : em_M) : Scr M M := ⟨fun _ => rfl, rfl⟩
theorem Scr.tr {A B C : em_M} (h : Scr A B) (k : Scr B C) : Scr A C := ⟨fun j => (k.1 j).trans (h.1 j), k.2.trans h.2⟩
theorem fr_ok_1 : fr_ok 1 ∧ fr_up 1 = 0 ∧ fr_low 1 = 1 := by
  unfold fr_ok
  decide +kernel
section UP
variable {M M' : em_M}
theorem RMp_up {i : Int} (h : RMp M i) (hn : M 6 0 ≤ M' 6 0) (e : ∀ c j, (13 ≤ c ∧ c ≤ 16 ∧ j = i) ∨ (476 ≤ c ∧ c ≤ 479 ∧ j = i) → M' c j = M c j) : RMp M' i := by
  unfold RMp at *
  simp (disch := omega) only [e]
  omega
theorem ROp_up {i : Int} (h : ROp M i) (hn : M 6 0 ≤ M' 6 0) (e : ∀ c j, (18 ≤ c ∧ c ≤ 20 ∧ j = i) ∨ (480 ≤ c ∧ c ≤ 482 ∧ j = i) → M' c j = M c j) : ROp M' i := by
  unfold ROp at *
  simp (disch := omega) only [e]
  omega
theorem RLp_up {i : Int} (h : RLp M i) (hn : M 6 0 ≤ M' 6 0) (e : ∀ c j, (22 ≤ c ∧ c ≤ 24 ∧ j = i) ∨ (483 ≤ c ∧ c ≤ 486 ∧ j = i) → M' c j = M c j) : RLp M' i := by
  obtain ⟨h1, h2, h3⟩ := h
  unfold RLp
  simp (disch := omega) only [e]
  exact ⟨by omega, by omega, h3⟩
end UP
def pX (M : em_M) (n a b c d : Int) : em_M := xup (xup (xup (xup (xup (xup (xup (xup (xup (xup (pE M a b c d) 468 n a) 469 n b) 470 n c) 471 n d) 472 n (-1)) 473 n 0) 474 n 0) 475 n 1) 506 n 0) 439 47 (n + 1)
theorem rel_person {M M2 : em_M} (h : Rel M) {n a b c d : Int} (hn : M 6 0 = n) (hc : pC M a b c d) (hM2 : M2 = pX M n a b c d) : Rel M2 := by
  obtain ⟨hT, hP, hD, hM, hO, hL, hW, hK, hH, hS, hN, hF⟩ := h
  obtain ⟨p1, p2, p3, p4⟩ := hP
  obtain ⟨c1, c2, c3, c4, c5⟩ := hc
  have e : ∀ c j, ¬ (c = 6 ∧ j = 0) → ¬ (c = 439 ∧ j = 47) → ¬ (c = 25 ∧ j = 2) → ¬ (j = n ∧ ((7 ≤ c ∧ c ≤ 12) ∨ (468 ≤ c ∧ c ≤ 475) ∨ c = 506)) → M2 c j = M c j := by
    intro c j h1 h2 h3 h4
    rw [hM2]
    unfold pX pE
    simp (disch := omega) only [xup_ne]
  have n1 : M2 6 0 = n + 1 := by
    rw [hM2]
    unfold pX pE
    simp (disch := omega) only [xup_ne, xup_eq]
    rw [hn]
  have n2 : M2 439 47 = n + 1 := by
    rw [hM2]
    unfold pX
    simp (disch := omega) only [xup_eq]
  have nw : (M2 7 n = a ∧ M2 8 n = b ∧ M2 9 n = c ∧ M2 10 n = d ∧ M2 11 n = -1 ∧ M2 12 n = 1) ∧ (M2 468 n = a ∧ M2 469 n = b ∧ M2 470 n = c ∧ M2 471 n = d ∧ M2 472 n = -1 ∧ M2 473 n = 0 ∧ M2 474 n = 0 ∧ M2 475 n = 1 ∧ M2 506 n = 0) ∧ M2 25 2 = -1 := by
    rw [hM2]
    unfold pX pE
    rw [hn]
    simp (disch := omega) only [xup_ne, xup_eq, and_self]
  obtain ⟨⟨a7, a8, a9, a10, a11, a12⟩, ⟨a468, a469, a470, a471, a472, a473, a474, a475, a506⟩, a25⟩ := nw
  obtain ⟨d1, d2⟩ := hD
  have dn : tb (M 6 1) n = false := by
    cases q : tb (M 6 1) n with
    | false => rfl
    | true =>
      have := (d1.at_ (x := n) (by omega) (by omega)).mp q
      omega
  obtain ⟨m1, m2, m3, m4⟩ := hM
  obtain ⟨o1, o2, o3, o4⟩ := hO
  obtain ⟨l1, l2, l3, l4⟩ := hL
  obtain ⟨g1, g2, g3, g4, g5, g6⟩ := hH
  refine ⟨RT_fr hT (fun c j hc => e c j (by omega) (by omega) (by omega) (by omega)), ⟨by omega, by omega, by omega, fun p q0 q1 => ?_⟩, ⟨?_, fun p q0 q1 => ?_⟩, ⟨?_, ?_, ?_, fun i q0 q1 => ?_⟩, ⟨?_, ?_, ?_, fun i q0 q1 => ?_⟩, ⟨?_, ?_, ?_, fun i q0 q1 => ?_⟩, RW_fr hW (fun c j hc => e c j (by omega) (by omega) (by omega) (by omega)), Or.inl a25, ⟨?_, ?_, ?_, ?_, fun j j0 j1 => ?_, fun p q0 q1 => ?_⟩, fun p q0 q1 q2 => ?_, RN_fr hN (fun c j hc => e c j (by omega) (by omega) (by omega) (by omega)), RF_fr hF (fun c j hc => e c j (by omega) (by omega) (by omega) (by omega))⟩
  · by_cases pn : p = n
    · subst pn
      unfold RPp
      rw [a7, a8, a9, a10, a468, a469, a470, a471]
      omega
    · exact RPp_fr (p4 p q0 (by omega)) (fun c hc => e c p (by omega) (by omega) (by omega) (by omega))
  · rw [e 6 1 (by omega) (by omega) (by omega) (by omega), n1]
    refine d1.cong (fun x x0 x1 => ⟨fun z => ⟨by omega, z.2⟩, fun z => ?_⟩)
    have := (d1.at_ x0 x1).mp z.2
    exact this
  · by_cases pn : p = n
    · subst pn
      refine ⟨?_, ?_⟩
      · unfold RDp
        rw [a472, a473, a506, a11, e 6 1 (by omega) (by omega) (by omega) (by omega), dn]
        decide
      · unfold RWp
        rw [a12, a474, a475]
        exact ⟨fr_ok_1.1, fr_ok_1.2.1.symm, fr_ok_1.2.2.symm⟩
    · have := d2 p q0 (by omega)
      exact ⟨RDp_fr this.1 (fun c j hc => e c j (by omega) (by omega) (by omega) (by omega)), RWp_fr this.2 (fun c hc => e c p (by omega) (by omega) (by omega) (by omega))⟩
  · rw [e 439 56 (by omega) (by omega) (by omega) (by omega), e 6 2 (by omega) (by omega) (by omega) (by omega)]; exact m1
  · rw [e 6 2 (by omega) (by omega) (by omega) (by omega)]; exact m2
  · rw [e 6 2 (by omega) (by omega) (by omega) (by omega)]; exact m3
  · rw [e 6 2 (by omega) (by omega) (by omega) (by omega)] at q1
    exact RMp_up (m4 i q0 q1) (by omega) (fun c j hc => e c j (by omega) (by omega) (by omega) (by omega))
  · rw [e 439 61 (by omega) (by omega) (by omega) (by omega), e 17 0 (by omega) (by omega) (by omega) (by omega)]; exact o1
  · rw [e 17 0 (by omega) (by omega) (by omega) (by omega)]; exact o2
  · rw [e 17 0 (by omega) (by omega) (by omega) (by omega)]; exact o3
  · rw [e 17 0 (by omega) (by omega) (by omega) (by omega)] at q1
    exact ROp_up (o4 i q0 q1) (by omega) (fun c j hc => e c j (by omega) (by omega) (by omega) (by omega))
  · rw [e 439 65 (by omega) (by omega) (by omega) (by omega), e 21 0 (by omega) (by omega) (by omega) (by omega)]; exact l1
  · rw [e 21 0 (by omega) (by omega) (by omega) (by omega)]; exact l2
  · rw [e 21 0 (by omega) (by omega) (by omega) (by omega)]; exact l3
  · rw [e 21 0 (by omega) (by omega) (by omega) (by omega)] at q1
    exact RLp_up (l4 i q0 q1) (by omega) (fun c j hc => e c j (by omega) (by omega) (by omega) (by omega))
  · simp (disch := omega) only [e]; exact g1
  · simp (disch := omega) only [e]; exact g2
  · unfold fr_is at *; simp (disch := omega) only [e]; exact g3
  · unfold fr_is at *; simp (disch := omega) only [e]; exact g4
  · rw [e 136 0 (by omega) (by omega) (by omega) (by omega)] at j1
    obtain ⟨h1, ⟨p, hp0, hp1, hp2, hp3⟩, h3, h4, h5, h6, h7⟩ := g5 j j0 j1
    refine ⟨?_, ⟨p, hp0, by omega, by rw [e 11 p (by omega) (by omega) (by omega) (by omega)]; exact hp2, by rw [e 517 p (by omega) (by omega) (by omega) (by omega)]; exact hp3⟩, ?_, ?_, ?_, ?_, fun p q0 q1 => ?_⟩
    · rw [e 137 j (by omega) (by omega) (by omega) (by omega), n1]
      refine h1.cong (fun x x0 x1 => ?_)
      rw [e 517 x (by omega) (by omega) (by omega) (by omega)]
      by_cases xn : x = n
      · subst xn
        rw [a11]
        omega
      · rw [e 11 x (by omega) (by omega) (by omega) (by omega)]
        omega
    · simp (disch := omega) only [e]; omega
    · simp (disch := omega) only [e]; exact h4
    · unfold fr_is at *; simp (disch := omega) only [e]; exact h5
    · unfold fr_is at *; simp (disch := omega) only [e]; exact h6
    · rw [e 138 j (by omega) (by omega) (by omega) (by omega)] at q1
      have := h7 p q0 q1
      unfold fr_is at *; simp (disch := omega) only [e]; exact this
  · by_cases pn : p = n
    · subst pn
      exact fun z => absurd a11 z
    · intro z
      rw [e 11 p (by omega) (by omega) (by omega) (by omega)] at z
      have := g6 p q0 (by omega) z
      simp (disch := omega) only [e]; exact this
  · by_cases pn : p = n
    · subst pn
      exact absurd a11 q2
    · rw [e 11 p (by omega) (by omega) (by omega) (by omega)] at q2
      exact RE_fr (hS p q0 (by omega) q2) (fun c j hc => e c j (by omega) (by omega) (by omega) (by omega))
theorem arm_person {M : em_M} (h : Rel M) (a b c d : Int) : Arm (f_EstateOffice_person a b c d) (f_Model_person a b c d) M := by
  obtain ⟨p1, p2, p3, p4⟩ := h.2.1
  have cd : pD M a b c d ↔ pC M a b c d := by
    unfold pC pD
    rw [p1]
    have hb : ∀ x, 0 ≤ x ∧ x < M 6 0 → M 468 x = M 7 x ∧ M 471 x = M 10 x := fun x hx => ⟨(p4 x hx.1 hx.2).1.1, (p4 x hx.1 hx.2).2.2.2.1⟩
    have hb1 := hb b
    have hc1 := hb c
    omega
  rcases f_person p2 p3 a b c d with ⟨hc, e1⟩ | ⟨hc, e1⟩
  · have e47 : pE M a b c d 439 47 = M 6 0 := by
      unfold pE
      simp (disch := omega) only [xup_ne]
      exact p1
    have hpd : pD (pE M a b c d) a b c d := by
      have := cd.mpr hc
      unfold pD at *
      rw [e47]
      rw [p1] at this
      unfold pE
      simp (disch := omega) only [xup_ne]
      exact this
    rcases m_person (M := pE M a b c d) (by omega) (by omega) a b c d with ⟨hd, e2⟩ | ⟨hd, e2⟩
    · refine ⟨M 6 0, pE M a b c d, pM (pE M a b c d) a b c d, e1, ?_, by rw [e2, e47], ?_, rel_person h rfl hc ?_⟩
      · unfold pE
        exact ⟨fun j => by simp (disch := omega) only [xup_ne], by simp (disch := omega) only [xup_ne]⟩
      · unfold pM pE
        exact ⟨fun j => by simp (disch := omega) only [xup_ne], by simp (disch := omega) only [xup_ne]⟩
      · unfold pM pX
        rw [e47]
    · exact absurd hpd hd
  · rcases m_person (M := M) (by omega) (by omega) a b c d with ⟨hd, e2⟩ | ⟨hd, e2⟩
    · exact absurd (cd.mp hd) hc
    · exact ⟨-1, M, M, e1, Scr.rf M, e2, Scr.rf M, h⟩
