/-! THE ARM settle: the class's end; how many deaths; the state ahead. -/
section
variable {M N C : em_M}
theorem f_enter {d t D : Int} (hd : C 136 0 = d) (d0 : 0 ≤ d) (d1 : d < 30) (n0 : 0 ≤ C 6 0) (hn : C 6 0 ≤ 30) : ∃ A, f_History_enter D t C = some (0, A) ∧ (A 137 d = D ∧ A 138 d = C 6 0 ∧ A 139 d = C 136 1 ∧ A 140 d = C 136 2 ∧ A 141 d = C 136 3) ∧ (∀ x, 0 ≤ x → x < 30 → A (143 + d) x = C 12 x) ∧ (A 136 0 = d + 1 ∧ A 136 1 = t ∧ A 6 1 = 0) ∧ (∀ x, 0 ≤ x → x < C 6 0 → A 11 x = if tb D x = true then t else C 11 x) ∧ ∀ c j, ¬ ((c = 6 ∧ j = 1) ∨ (c = 11 ∧ 0 ≤ j ∧ j < C 6 0) ∨ (c = 136 ∧ 0 ≤ j ∧ j ≤ 1) ∨ (137 ≤ c ∧ c ≤ 141 ∧ j = d) ∨ (c = 143 + d ∧ 0 ≤ j ∧ j < 30)) → A c j = C c j := by
  have hr := rowK_at d0 d1
  have e := q_History_enter D t C
  simp (disch := omega) only [em_cd, xup_ne, hd, if_neg (show ¬ d < 0 by omega), if_pos d1, if_pos (show 0 ≤ d ∧ d < 30 from ⟨d0, d1⟩)] at e
  generalize hX : xup (xup (xup (xup (xup C 137 d D) 138 d (C 6 0)) 139 d (C 136 1)) 140 d (C 136 2)) 141 d (C 136 3) = X at e
  have fX : ∀ c j, ¬ (137 ≤ c ∧ c ≤ 141 ∧ j = d) → X c j = C c j := fun c j hc => by rw [← hX]; simp (disch := omega) only [xup_ne]
  have vX : X 137 d = D ∧ X 138 d = C 6 0 ∧ X 139 d = C 136 1 ∧ X 140 d = C 136 2 ∧ X 141 d = C 136 3 := by rw [← hX]; simp (disch := omega) only [xup_ne, xup_eq, and_self]
  have e2 := q_History_enter_79 D t X
  rw [fX 136 0 (by omega), hd, show (142 + 1 + d * 1 : Int) = 143 + d by omega] at e2
  simp (disch := omega) only [em_cd, if_pos (show 0 ≤ d ∧ d < 30 from ⟨d0, d1⟩), hr.1, hr.2, em_kd12.1] at e2
  rw [show (Nat.beq 101 101 && (Nat.beq 101 100 || Nat.beq 101 101) && Nat.ble (em_cat []) 8) = true from rfl, Bool.true_and, decide_eq_true (by omega), cond_true] at e2
  generalize hY : xup (xup (xcpy X 12 0 (143 + d) 0 30) 136 0 (x32 ((xcpy X 12 0 (143 + d) 0 30) 136 0 + 1))) 136 1 t = Y at e2
  have x1 : xcpy X 12 0 (143 + d) 0 30 136 0 = d := by rw [xcpy_ne (by omega), fX 136 0 (by omega)]; exact hd
  rw [x1, x32_s (by omega) (by omega)] at hY
  have fY : ∀ c j, ¬ ((c = 136 ∧ 0 ≤ j ∧ j ≤ 1) ∨ (c = 143 + d ∧ 0 ≤ j ∧ j < 30)) → Y c j = X c j := fun c j hc => by rw [← hY, xup_ne (by omega), xup_ne (by omega), xcpy_ne (by omega)]
  have vY : Y 136 0 = d + 1 ∧ Y 136 1 = t := by rw [← hY]; simp (disch := omega) only [xup_ne, xup_eq, and_self]
  have wY : ∀ x, 0 ≤ x → x < 30 → Y (143 + d) x = C 12 x := fun x x0 x1 => by
    rw [← hY, xup_ne (by omega), xup_ne (by omega), rd4 (by omega) (by omega), show 0 + (x - 0) = x by omega, fX 12 x (by omega)]
  have y6 : Y 6 0 = C 6 0 := by rw [fY 6 0 (by omega), fX 6 0 (by omega)]
  rw [f_setDied D t (by rw [y6]; exact hn)] at e2
  simp only [Option.bind_some] at e2
  have nS : ∀ c j, ¬ (c = 11 ∧ 0 ≤ j ∧ j < C 6 0) → sdM Y D t 0 c j = Y c j := fun c j hc => sdM_ne (fun z => hc ⟨z.1, z.2.1, by rw [← y6]; exact z.2.2.1⟩)
  refine ⟨_, e.trans e2, ?_, fun x x0 x1 => ?_, ⟨?_, ?_, xup_eq _ _ _ _⟩, fun x x0 x1 => ?_, fun c j hc => ?_⟩
  · rw [xup_ne (by omega), xup_ne (by omega), xup_ne (by omega), xup_ne (by omega), xup_ne (by omega), nS _ _ (by omega), nS _ _ (by omega), nS _ _ (by omega), nS _ _ (by omega), nS _ _ (by omega), fY _ _ (by omega), fY _ _ (by omega), fY _ _ (by omega), fY _ _ (by omega), fY _ _ (by omega)]
    exact vX
  · rw [xup_ne (by omega), nS _ _ (by omega)]; exact wY x x0 x1
  · rw [xup_ne (by omega), nS _ _ (by omega)]; exact vY.1
  · rw [xup_ne (by omega), nS _ _ (by omega)]; exact vY.2
  · rw [xup_ne (by omega)]
    by_cases hb : tb D x = true
    · rw [if_pos hb, sdM_in ⟨x0, by rw [y6]; exact x1, hb⟩]
    · rw [if_neg hb, sdM_ne (fun z => hb z.2.2.2), fY _ _ (by omega), fX _ _ (by omega)]
  · rw [xup_ne (by omega), nS _ _ (by omega), fY _ _ (by omega), fX _ _ (by omega)]
/-- the class's end of a settlement -/
theorem f_150 {d t D : Int} {S : Int → Prop} (hS : mk D S) (hd : C 136 0 = d) (d0 : 0 ≤ d) (d1 : d < 30) (n0 : 0 ≤ C 6 0) (hn : C 6 0 ≤ 30) : ∃ A, f_EstateOffice_settle_150 t D C = some (cnt D 30, A) ∧ (A 137 d = D ∧ A 138 d = C 6 0 ∧ A 139 d = C 136 1 ∧ A 140 d = C 136 2 ∧ A 141 d = C 136 3) ∧ (∀ x, 0 ≤ x → x < 30 → A (143 + d) x = C 12 x) ∧ (A 136 0 = d + 1 ∧ A 136 1 = t ∧ A 6 1 = 0) ∧ (∀ x, 0 ≤ x → x < C 6 0 → A 11 x = if tb D x = true then t else C 11 x) ∧ (A 136 2 = C 126 5 ∧ A 136 3 = C 126 6) ∧ (∀ x, 0 ≤ x → x < 30 → A 12 x = C 135 x) ∧ ∀ c j, ¬ ((c = 6 ∧ j = 1) ∨ (c = 11 ∧ 0 ≤ j ∧ j < C 6 0) ∨ (c = 12 ∧ 0 ≤ j ∧ j < 30) ∨ (c = 136 ∧ 0 ≤ j ∧ j ≤ 3) ∨ (137 ≤ c ∧ c ≤ 141 ∧ j = d) ∨ (c = 143 + d ∧ 0 ≤ j ∧ j < 30)) → A c j = C c j := by
  obtain ⟨A, a1, a2, a3, a4, a5, a6⟩ := f_enter (t := t) (D := D) hd d0 d1 n0 hn
  have e := q_EstateOffice_settle_150 t D C
  rw [a1] at e
  simp only [Option.bind_some, q_Settlement_carryOut] at e
  generalize hB : xup (xup (xcpy A 135 0 12 0 30) 136 2 ((xcpy A 135 0 12 0 30) 126 5)) 136 3 ((xup (xcpy A 135 0 12 0 30) 136 2 ((xcpy A 135 0 12 0 30) 126 5)) 126 6) = B at e
  rw [f_bitCount hS] at e
  simp only [Option.bind_some] at e
  have fB : ∀ c j, ¬ ((c = 12 ∧ 0 ≤ j ∧ j < 30) ∨ (c = 136 ∧ (j = 2 ∨ j = 3))) → B c j = A c j := fun c j hc => by rw [← hB, xup_ne (by omega), xup_ne (by omega), xcpy_ne (by omega)]
  refine ⟨B, e, ?_, fun x x0 x1 => ?_, ?_, fun x x0 x1 => ?_, ?_, fun x x0 x1 => ?_, fun c j hc => by rw [fB c j (by omega), a6 c j (by omega)]⟩
  · rw [fB _ _ (by omega), fB _ _ (by omega), fB _ _ (by omega), fB _ _ (by omega), fB _ _ (by omega)]; exact a2
  · rw [fB _ _ (by omega)]; exact a3 x x0 x1
  · rw [fB _ _ (by omega), fB _ _ (by omega), fB _ _ (by omega)]; exact a4
  · rw [fB _ _ (by omega)]; exact a5 x x0 x1
  · rw [← hB, xup_ne (by omega), xup_eq, xup_eq, xup_ne (by omega), xcpy_ne (by omega), xcpy_ne (by omega), a6 _ _ (by omega), a6 _ _ (by omega)]
    exact ⟨rfl, rfl⟩
  · rw [← hB, xup_ne (by omega), xup_ne (by omega), rd4 (by omega) (by omega), show 0 + (x - 0) = x by omega, a6 _ _ (by omega)]
/-- each death has one of its own: there is room for one more -/
theorem deaths_lt {q : Int} (h : Rel M) (q0 : 0 ≤ q) (q1 : q < M 6 0) (hq : M 11 q = -1) : M 136 0 < 30 := by
  have hn := h.2.1.2.2.1
  have hH := h.2.2.2.2.2.2.2.2.1
  have hj := hH.2.2.2.2.1
  have d0 := hH.1.2.1
  have w : ∀ i : Nat, ∃ p : Nat, ((i : Int) < M 136 0 → (p : Int) < M 6 0 ∧ ¬ M 11 p = -1 ∧ M 517 p = i) ∧ (¬ (i : Int) < M 136 0 → (p : Int) = q) := fun i => by
    by_cases c : (i : Int) < M 136 0
    · obtain ⟨-, ⟨p, p0, p1, p2, p3⟩, -⟩ := hj i (by omega) c
      refine ⟨p.toNat, fun _ => ?_, fun z => absurd c z⟩
      rw [show ((p.toNat : Nat) : Int) = p by omega]
      exact ⟨p1, p2, p3⟩
    · exact ⟨q.toNat, fun z => absurd z c, fun _ => by omega⟩
  have ⟨f, hf⟩ := Classical.axiomOfChoice w
  have := fb_holes 30 ((M 136 0).toNat + 1) f (fun i hi => by
    by_cases c : (i : Int) < M 136 0
    · have := ((hf i).1 c).1
      omega
    · have := (hf i).2 c
      omega) (fun i j hij hj e => by
    have ci : (i : Int) < M 136 0 := by omega
    obtain ⟨-, a2, a3⟩ := (hf i).1 ci
    by_cases c : (j : Int) < M 136 0
    · obtain ⟨-, -, b3⟩ := (hf j).1 c
      rw [← e, a3] at b3
      omega
    · have b := (hf j).2 c
      rw [e, b] at a2
      exact a2 hq)
  omega
/-- what the class may have changed of B when the reference begins -/
def zF2 (B Z : em_M) : Prop := ∀ c j, ¬ ((c = 6 ∧ j = 1) ∨ c = 11 ∨ c = 12 ∨ (126 ≤ c ∧ c ≤ 353)) → Z c j = B c j
theorem zF2.rf (B : em_M) : zF2 B B := fun _ _ _ => rfl
theorem settle_state {B Z : em_M} {t L d : Int} (h : Rel M) (t0 : 0 ≤ t) (t1 : t ≤ 100000) (hd : M 136 0 = d) (d1 : d < 30) (hk : kTab B t) (gB : ∀ c j, ¬ ((c = 25 ∧ 2 ≤ j ∧ j ≤ 4) ∨ (27 ≤ c ∧ c ≤ 50) ∨ c = 135 ∨ (c = 126 ∧ (j = 5 ∨ j = 6))) → B c j = M c j) (v1 : ∀ x, 0 ≤ x → x < 30 → B 135 x = M 12 x) (v2 : B 126 5 = M 136 2 ∧ B 126 6 = M 136 3) (hZ : zF2 B Z) (hL : mk L (fun x => ((x < M 6 0 ∧ M 10 x ≤ t) ∧ ¬ (¬ M 11 x = -1 ∧ M 11 x ≤ t)) ∧ ¬ tb (M 6 1) x = true)) :
    ∃ X, (f_Model_saves d Z).bind (fun r => f_Model_settle_108 t 0 (xup (xup r.2 439 44 0) 439 75 t)) = f_Model_settle_147 t 0 0 X ∧ (sRel B X t L ∧ uR B X ∧ X 439 75 = t ∧ X 439 44 = 0 ∧ ∀ x, 0 ≤ x → x < M 6 0 → X 473 x = b2 (tb (M 6 1) x = true) ∧ (tb (M 6 1) x = true → ¬ lvs X t x)) ∧ (∀ x, 0 ≤ x → x < 30 → X 518 (32 * d + x) = M 474 x ∧ X 519 (32 * d + x) = M 475 x) ∧ (X 518 (32 * d + 30) = M 487 0 ∧ X 519 (32 * d + 30) = M 488 0 ∧ X 518 (32 * d + 31) = M 487 1 ∧ X 519 (32 * d + 31) = M 488 1) ∧ (∀ x, 0 ≤ x → x < M 6 0 → X 472 x = if tb (M 6 1) x = true then t else M 11 x) ∧ ∀ c j, ¬ (((c = 518 ∨ c = 519) ∧ 32 * d ≤ j ∧ j < 32 * d + 32) ∨ (c = 439 ∧ (j = 44 ∨ j = 75)) ∨ (c = 472 ∧ 0 ≤ j ∧ j < M 6 0)) → X c j = Z c j := by
  obtain ⟨hT, hP, hD, hM, hO, hL', hW, hK, hH, hS, hN, hF⟩ := id h
  have hn := hP.2.2.1
  have n0 := hP.2.1
  have d0 : 0 ≤ d := by rw [← hd]; exact hH.1.2.1
  have ez : ∀ c j, 439 ≤ c → Z c j = M c j := fun c j hc => by rw [hZ c j (by omega), gB c j (by omega)]
  obtain ⟨N1, a1, a2, a3, a4⟩ := m_saves' (M := Z) (t := d) (by omega) (by omega)
  obtain ⟨X, b1, b2', b3⟩ := m_108 (t := t) hn (M 6 0).toNat (xup (xup N1 439 44 0) 439 75 t) 0 (by rw [xup_ne (by omega), xup_ne (by omega), a4 _ _ (by omega), ez _ _ (by omega)]; exact hP.1) (by omega) (by omega)
  have fX : ∀ c j, ¬ (((c = 518 ∨ c = 519) ∧ 32 * d ≤ j ∧ j < 32 * d + 32) ∨ (c = 439 ∧ (j = 44 ∨ j = 75)) ∨ (c = 472 ∧ 0 ≤ j ∧ j < M 6 0)) → X c j = Z c j := fun c j hc => by rw [b3 c j (by omega), xup_ne (by omega), xup_ne (by omega), a4 c j (by omega)]
  have gX : ∀ c j, 439 ≤ c → ¬ (((c = 518 ∨ c = 519) ∧ 32 * d ≤ j ∧ j < 32 * d + 32) ∨ (c = 439 ∧ (j = 44 ∨ j = 75)) ∨ (c = 472 ∧ 0 ≤ j ∧ j < M 6 0)) → X c j = M c j := fun c j hc hd => by rw [fX c j hd, ez c j hc]
  have sv : ∀ c j, c = 518 ∨ c = 519 → X c j = N1 c j := fun c j hc => by rw [b3 c j (by omega), xup_ne (by omega), xup_ne (by omega)]
  have v75 : X 439 75 = t := by rw [b3 439 75 (by omega), xup_eq]
  have v44 : X 439 44 = 0 := by rw [b3 439 44 (by omega), xup_ne (by omega), xup_eq]
  have l473 : ∀ x, 0 ≤ x → x < M 6 0 → X 473 x = b2 (tb (M 6 1) x = true) := fun x x0 x1 => by
    rw [gX 473 x (by omega) (by omega)]
    exact (hD.2 x x0 x1).1.2.1.1
  have l472 : ∀ x, 0 ≤ x → x < M 6 0 → X 472 x = if tb (M 6 1) x = true then t else M 11 x := fun x x0 x1 => by
    rw [b2' x x0 x1]
    simp (disch := omega) only [xup_ne]
    rw [a4 473 x (by omega), a4 472 x (by omega), ez 473 x (by omega), ez 472 x (by omega), (hD.2 x x0 x1).1.2.1.1, (hD.2 x x0 x1).1.1.1]
    by_cases c : tb (M 6 1) x = true
    · rw [if_pos c, if_neg (by rw [b2_t c]; omega)]
    · rw [if_neg c, if_pos (b2_f c)]
  refine ⟨X, by rw [a1]; exact b1, ⟨?_, ⟨fun x x0 x1 => ?_, ?_, ?_⟩, v75, v44, fun x x0 x1 => ⟨l473 x x0 x1, fun c => ?_⟩⟩, fun x x0 x1 => ?_, ?_, l472, fX⟩
  · refine sRel_of h t0 t1 hk gB (fun c j hc => ?_) (hL.cong (fun x x0 x1 => ?_))
    · unfold sStat at hc
      rw [fX c j (by omega), hZ c j (by omega)]
    · unfold lvs
      constructor
      · rintro ⟨⟨⟨y1, y2⟩, y3⟩, y4⟩
        rw [l472 x x0 y1, if_neg y4, gX 471 x (by omega) (by omega), (hP.2.2.2 x x0 y1).2.2.2.1]
        omega
      · rintro ⟨y1, y2, y3⟩
        rw [gX 471 x (by omega) (by omega), (hP.2.2.2 x x0 y1).2.2.2.1] at y2
        rw [l472 x x0 y1] at y3
        by_cases c : tb (M 6 1) x = true
        · rw [if_pos c] at y3
          omega
        · rw [if_neg c] at y3
          refine ⟨⟨⟨y1, y2⟩, ?_⟩, c⟩
          omega
  · rw [gB 6 0 (by omega)] at x1
    rw [v1 x x0 (by omega), gX 474 x (by omega) (by omega), gX 475 x (by omega) (by omega)]
    exact (hD.2 x x0 x1).2
  · rw [v2.1, gX 487 0 (by omega) (by omega), gX 488 0 (by omega) (by omega)]
    exact hH.2.2.1
  · rw [v2.2, gX 487 1 (by omega) (by omega), gX 488 1 (by omega) (by omega)]
    exact hH.2.2.2.1
  · unfold lvs
    rw [l472 x x0 x1, if_pos c]
    omega
  · rw [sv 518 _ (Or.inl rfl), sv 519 _ (Or.inr rfl), (a2 x x0 x1).1, (a2 x x0 x1).2, ez 474 x (by omega), ez 475 x (by omega)]
    exact ⟨rfl, rfl⟩
  · rw [sv 518 _ (Or.inl rfl), sv 519 _ (Or.inr rfl), sv 518 _ (Or.inl rfl), sv 519 _ (Or.inr rfl), a3.1, a3.2.1, a3.2.2.1, a3.2.2.2, ez 487 0 (by omega), ez 488 0 (by omega), ez 487 1 (by omega), ez 488 1 (by omega)]
    exact ⟨rfl, rfl, rfl, rfl⟩
end
