/-! MONEY: an estate is kept. -/
section
variable {M N : em_M}
def REn (M N : em_M) (E e : Int) : Prop := (M E 0 = N 508 e ∧ 0 ≤ M E 0 ∧ M E 0 < 30) ∧ M E 1 = N 507 e ∧ (M E 2 = N 509 e ∧ 0 ≤ M E 2 ∧ M E 2 ≤ 30) ∧ M E 3 = N 510 e ∧ (fr_is N (M E 4) (N 511 (10 * e)) (N 511 (10 * e + 1)) ∧ fr_is N (M E 5) (N 511 (10 * e + 2)) (N 511 (10 * e + 3)) ∧ fr_is N (M E 6) (N 511 (10 * e + 4)) (N 511 (10 * e + 5)) ∧ fr_is N (M E 7) (N 511 (10 * e + 6)) (N 511 (10 * e + 7)) ∧ fr_is N (M E 8) (N 511 (10 * e + 8)) (N 511 (10 * e + 9))) ∧ ∀ q, 0 ≤ q → q < M E 2 → fr_is N (M (E + 1) q) (N 512 (180 * e + 6 * q)) (N 512 (180 * e + 6 * q + 1)) ∧ fr_is N (M (E + 2) q) (N 512 (180 * e + 6 * q + 2)) (N 512 (180 * e + 6 * q + 3)) ∧ fr_is N (M (E + 3) q) (N 512 (180 * e + 6 * q + 4)) (N 512 (180 * e + 6 * q + 5)) ∧ M (E + 4) q = N 513 (30 * e + q) ∧ M (E + 5) q = N 514 (30 * e + q)
theorem REn.re {E e : Int} (h : REn M M E e) : RE M E e := h
theorem keeps_both {E p t e : Int} (h : eR M N E p t) (p0 : 0 ≤ p) (p1 : p < 30) (e0 : 0 ≤ e) (e1 : e < 32) (n0 : 0 ≤ M 6 0) (hn : M 6 0 ≤ 30) (h47 : N 439 47 = M 6 0) (hs : M 439 17 = 0 ∨ M 439 17 = 1) (h17 : N 439 17 = M 439 17) (hK : N 447 (M 439 17) = M (M 0 11) 0) (K1 : M (M 0 11) 0 ≤ 20) : ∃ N', f_Model_keeps e N = some (0, N') ∧ REn M N' E e ∧ kF e N N' := by
  obtain ⟨⟨a1, a2, a3, a4⟩, ⟨b1, b2'⟩, ⟨c1, c2, c3, c4, c5⟩, d, U, u1, u2, u3⟩ := h
  have e1' := q_Model_keeps e N
  simp (disch := omega) only [em_cd, x32_s, xup_ne, xup_eq, if_pos] at e1'
  generalize hX : xup (xup (xup (xup (xup N 507 e (N 439 75)) 508 e (N 439 74)) 509 e (N 439 47)) 510 e (N 439 90)) 511 (10 * e) (N 439 96) = X at e1'
  have fX : ∀ a j, ¬ ((507 ≤ a ∧ a ≤ 510 ∧ j = e) ∨ (a = 511 ∧ j = 10 * e)) → X a j = N a j := fun a j ha => by rw [← hX]; simp (disch := omega) only [xup_ne]
  have vX : X 507 e = N 439 75 ∧ X 508 e = N 439 74 ∧ X 509 e = N 439 47 ∧ X 510 e = N 439 90 ∧ X 511 (10 * e) = N 439 96 := by rw [← hX]; simp (disch := omega) only [xup_ne, xup_eq, and_self]
  have e2' := q_Model_keeps_53 e X
  simp (disch := omega) only [em_cd, x32_s, xup_ne, xup_eq, if_pos] at e2'
  generalize hY : xup (xup (xup (xup (xup X 511 (10 * e + 1) (X 439 97)) 511 (10 * e + 2) (X 439 98)) 511 (10 * e + 3) (X 439 99)) 511 (10 * e + 4) (X 439 100)) 511 (10 * e + 5) (X 439 101) = Y at e2'
  have fY : ∀ a j, ¬ (a = 511 ∧ 10 * e + 1 ≤ j ∧ j ≤ 10 * e + 5) → Y a j = X a j := fun a j ha => by rw [← hY]; simp (disch := omega) only [xup_ne]
  have vY : Y 511 (10 * e + 1) = X 439 97 ∧ Y 511 (10 * e + 2) = X 439 98 ∧ Y 511 (10 * e + 3) = X 439 99 ∧ Y 511 (10 * e + 4) = X 439 100 ∧ Y 511 (10 * e + 5) = X 439 101 := by rw [← hY]; simp (disch := omega) only [xup_ne, xup_eq, and_self]
  have gY : ∀ j, Y 439 j = N 439 j := fun j => by rw [fY _ _ (by omega), fX _ _ (by omega)]
  have e3' := q_Model_keeps_128 e Y
  simp (disch := omega) only [em_cd, x32_s, xup_ne, xup_eq, if_pos] at e3'
  rw [gY, gY, gY, gY] at e3'
  generalize hZ : xup (xup Y 511 (10 * e + 6) (N 439 86)) 511 (10 * e + 7) (N 439 87) = Z at e3'
  have fZ : ∀ a j, ¬ (a = 511 ∧ 10 * e + 6 ≤ j ∧ j ≤ 10 * e + 7) → Z a j = Y a j := fun a j ha => by rw [← hZ]; simp (disch := omega) only [xup_ne]
  have vZ : Z 511 (10 * e + 6) = N 439 86 ∧ Z 511 (10 * e + 7) = N 439 87 := by rw [← hZ]; simp (disch := omega) only [xup_ne, xup_eq, and_self]
  have gZ : ∀ j, Z 439 j = N 439 j := fun j => by rw [fZ _ _ (by omega)]; exact gY j
  -- the crown
  have cr : ∃ W, f_Model_keeps e N = f_Model_keeps_218 e 0 0 W ∧ fr_is N (M E 8) (W 511 (10 * e + 8)) (W 511 (10 * e + 9)) ∧ ∀ a j, ¬ (a = 511 ∧ 10 * e + 8 ≤ j ∧ j ≤ 10 * e + 9) → W a j = Z a j := by
    rcases c5 with ⟨z1, z2⟩ | ⟨z1, z2⟩
    · rw [if_pos z1] at e3'
      have e4 := q_Model_keeps_186 e (10 * e + 8) 0 Z
      simp (disch := omega) only [em_cd, x32_s, xup_ne, xup_eq, if_pos] at e4
      rw [gZ, if_pos z1] at e4
      refine ⟨_, e1'.trans (e2'.trans (e3'.trans e4)), ?_, fun a j ha => by simp (disch := omega) only [xup_ne]⟩
      rw [z2]
      exact zer_is (by rw [xup_ne (by omega), xup_eq]) (by rw [xup_eq])
    · rw [if_neg (by omega)] at e3'
      have e4 := q_Model_keeps_186 e (10 * e + 8) (N 439 88) Z
      simp (disch := omega) only [em_cd, x32_s, xup_ne, xup_eq, if_pos] at e4
      rw [gZ, gZ, if_neg (by omega)] at e4
      refine ⟨_, e1'.trans (e2'.trans (e3'.trans e4)), ?_, fun a j ha => by simp (disch := omega) only [xup_ne]⟩
      rw [xup_ne (by omega), xup_eq, xup_eq]
      exact z2
  obtain ⟨W, w1, w2, w3⟩ := cr
  have gW : ∀ a j, ¬ ((507 ≤ a ∧ a ≤ 510 ∧ j = e) ∨ (a = 511 ∧ 10 * e ≤ j ∧ j < 10 * e + 10)) → W a j = N a j := fun a j ha => by rw [w3 a j (by omega), fZ a j (by omega), fY a j (by omega), fX a j (by omega)]
  obtain ⟨V, g1, g2⟩ := m_218 (N := W) (e := e) (n := 0) hs K1 (by rw [gW _ _ (by omega)]; exact h17) (by rw [gW _ _ (by omega)]; exact hK) (fun k k0 k1 => by rw [gW 491 k (by omega)]; exact u2 k k0 k1) 20 0 0 (fun _ => False) mk_0 (by omega) (by omega)
  have eU : V = U := g2.one (u1.cong (fun x _ _ => ⟨fun ⟨k, i0, i1, i2⟩ => Or.inr ⟨k, i0, i1, by rw [gW 491 k (by omega)]; exact i2⟩, fun z => z.elim (fun z => z.elim) (fun ⟨k, i0, i1, i2⟩ => ⟨k, i0, i1, by rw [gW 491 k (by omega)] at i2; exact i2⟩)⟩))
  obtain ⟨N', r1, r2, r3⟩ := m_248 (e := e) (U := V) (p := p) e0 e1 hn 30 0 W (by rw [gW _ _ (by omega)]; exact h47) (by rw [gW _ _ (by omega)]; exact b1) (by omega) (by omega)
  rw [eU] at r2
  have s1 : ∀ j, 507 ≤ j → j ≤ 511 → ∀ i, N' j i = W j i := fun j j0 j1 i => r3 j i (by omega)
  refine ⟨N', w1.trans (g1.trans r1), ⟨?_, ?_, ?_, ?_, ⟨?_, ?_, ?_, ?_, ?_⟩, fun q q0 q1 => ?_⟩, fun c j hc => by rw [r3 c j (by omega), gW c j (by omega)]⟩
  · rw [s1 508 (by omega) (by omega), w3 508 e (by omega), fZ 508 e (by omega), fY 508 e (by omega), vX.2.1, b1, a1]
    exact ⟨rfl, p0, p1⟩
  · rw [s1 507 (by omega) (by omega), w3 507 e (by omega), fZ 507 e (by omega), fY 507 e (by omega), vX.1, b2', a2]
  · rw [s1 509 (by omega) (by omega), w3 509 e (by omega), fZ 509 e (by omega), fY 509 e (by omega), vX.2.2.1, h47, a3]
    exact ⟨rfl, n0, hn⟩
  · rw [s1 510 (by omega) (by omega), w3 510 e (by omega), fZ 510 e (by omega), fY 510 e (by omega), vX.2.2.2.1, a4]
  · rw [s1 511 (by omega) (by omega), s1 511 (by omega) (by omega), w3 511 _ (by omega), w3 511 _ (by omega), fZ 511 _ (by omega), fZ 511 _ (by omega), fY 511 (10 * e) (by omega), vX.2.2.2.2, vY.1, fX 439 97 (by omega)]
    exact c1
  · rw [s1 511 (by omega) (by omega), s1 511 (by omega) (by omega), w3 511 _ (by omega), w3 511 _ (by omega), fZ 511 _ (by omega), fZ 511 _ (by omega), vY.2.1, vY.2.2.1, fX 439 98 (by omega), fX 439 99 (by omega)]
    exact c2
  · rw [s1 511 (by omega) (by omega), s1 511 (by omega) (by omega), w3 511 _ (by omega), w3 511 _ (by omega), fZ 511 _ (by omega), fZ 511 _ (by omega), vY.2.2.2.1, vY.2.2.2.2, fX 439 100 (by omega), fX 439 101 (by omega)]
    exact c3
  · rw [s1 511 (by omega) (by omega), s1 511 (by omega) (by omega), w3 511 _ (by omega), w3 511 _ (by omega), vZ.1, vZ.2]
    exact c4
  · rw [s1 511 (by omega) (by omega), s1 511 (by omega) (by omega)]
    exact w2
  · rw [a3] at q1
    obtain ⟨⟨⟨t1, t2⟩, ⟨t3, t4⟩, t5, t6⟩, t7, t8⟩ := r2 q (by omega) q1
    obtain ⟨h1, h2, h3⟩ := d q q0 q1
    obtain ⟨h4, h5⟩ := u3 q q0 q1
    have hr : rM W U p q = rM N U p q := by
      unfold rM
      rw [gW 497 q (by omega), gW 439 78 (by omega), gW 493 q (by omega), gW 494 q (by omega)]
    have hu : uM W (rM N U p q) q = uM N (rM N U p q) q := by
      unfold uM
      rw [gW 492 q (by omega), gW 493 q (by omega), gW 494 q (by omega)]
    rw [t1, t2, t3, t4, t5, t6, t7, t8, hr, hu, gW 497 q (by omega), gW 498 q (by omega), gW 499 q (by omega), gW 500 q (by omega), gW 501 q (by omega), gW 502 q (by omega)]
    rw [h4] at h5
    exact ⟨h1, h2, h3, h4, h5⟩
end
