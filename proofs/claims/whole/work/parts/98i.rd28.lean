/-! read: both, from the text to the law. -/
section
variable {C R M : em_M} {b : Int → Int} {n m t w s k0 S P r0 : Int}
/-- a law that was read -/
theorem gLL.law (hw : w = 53 ∨ w = 366) (hs : s = 0 ∨ s = 1) (h : gLL w s t k0 S P r0 C R) (z : C 51 8 = 0) : RLaw (mx C R) w s := by
  obtain ⟨⟨⟨a1, a2, a3, a4⟩, a5⟩, l2, ⟨l3, l3', l7, l8⟩, l4, l5, l6⟩ := h
  have g := l6 z
  refine ⟨⟨?_, ?_, ?_⟩, ⟨?_, ?_, ?_⟩, fun k h0 h1 => ?_, fun k h0 h1 => ?_, ?_, fun r h0 h1 => ?_⟩
  · rw [mx_r (by omega), mx_c (by omega), a2, a1]
  · rw [mx_c (by omega), a1]; exact a3
  · rw [mx_c (by omega), a1]; exact a4
  · rw [mx_r (by omega), mx_c (by omega), l3, l3']
  · rw [mx_c (by omega), l3]; exact l7
  · rw [mx_c (by omega), l3]; exact l8
  · rw [mx_c (by omega), a1] at h1
    exact (l2.2.2.2 z k h0 h1).1
  · rw [mx_r (by omega), mx_c (by omega)]
    exact l5 k h0 h1
  · rw [mx_c (by omega), mx_r (by omega), mx_r (by omega)]
    exact g
  · rw [mx_c (by omega), l3] at h1
    exact l4 z r h0 h1
/-- what reading may change, all told -/
def rdC (w : Int) (C C' : em_M) : Prop := ∀ c j, ¬ ((3 ≤ c ∧ c ≤ 5) ∨ (c = 1 ∧ j = 2) ∨ (c = 51 ∧ 3 ≤ j ∧ j ≤ 11) ∨ c = 52 ∨ (w ≤ c ∧ c ≤ w + 72)) → C' c j = C c j
def rdR (s : Int) (R R' : em_M) : Prop := ∀ c j, ¬ ((441 ≤ c ∧ c ≤ 445) ∨ (c = 439 ∧ (j = 2 ∨ j = 4 ∨ (10 ≤ j ∧ j ≤ 18) ∨ j = 26 ∨ j = 27 ∨ j = 42 ∨ j = 43)) ∨ gRx s c j) → R' c j = R c j
theorem read_both (hB : TB b n) (hC : TC b n C) (hw : w = 53 ∨ w = 366) (h2 : C 51 2 = w) (h2n : R 439 2 = n) (h40 : ∀ i, 0 ≤ i → i < n → R 440 i = b i) (hK : ∀ k, 0 ≤ k → k < 16 → R 446 k = kyW k) (s2 : R 439 17 = 0 ∨ R 439 17 = 1) (hs : s = 1 - R 439 17) : ∃ v C' R', f_Reader_readText C = some (v, C') ∧ f_Model_read R = some (v, R') ∧ (C' 51 7 = R' 439 16 ∧ R' 439 2 = 0) ∧ (v = 0 → R' 439 17 = s ∧ RLaw (mx C' R') w s) ∧ (¬ v = 0 → R' 439 17 = R 439 17) ∧ rdC w C C' ∧ rdR s R R' := by
  have s01 : s = 0 ∨ s = 1 := by omega
  obtain ⟨R1, p1, p2, p3⟩ := m_takes (b := b) hB.1.2 hB.2.1 n.toNat 0 (xup R 439 4 (R 439 2)) (by omega) (by have := hB.1.1; omega) (by rw [xup_eq]; exact h2n) (fun i i0 i1 => by rw [xup_ne (by omega)]; exact h40 i i0 i1) (fun i i0 i1 => by omega)
  have e2 := q_Model_read R
  rw [p1, q_Model_read_10] at e2
  simp only [em_cd] at e2
  rw [if_pos (by rw [p2.1]; omega)] at e2
  have hTM : TM b n (xup R1 439 2 0) := ⟨by rw [xup_ne (by omega)]; exact p2.1, fun i i0 i1 => by rw [xup_ne (by omega)]; exact p2.2 i i0 i1⟩
  obtain ⟨C2, R2, m, g1, g2, g3, g4, g5⟩ := tok_both hB hC hTM (fun k h0 h1 => by rw [xup_ne (by omega), p3 446 k (by omega), xup_ne (by omega)]; exact hK k h0 h1)
  rw [g2] at e2
  simp only [Option.bind_some] at e2
  have c2 : C2 51 2 = w := by rw [g4 51 2 (by omega)]; exact h2
  obtain ⟨C4, a1, ⟨⟨b1, b2', b3, b4, b5⟩, ⟨b6, b7, b8⟩, b9, b10⟩, a3⟩ := c_begins hw c2 g3
  have e1 := q_Reader_readText C
  rw [g1] at e1
  simp only [Option.bind_some] at e1
  rw [c2] at e1 a1
  simp only [isO_law hw, Bool.and_self, cond_true] at e1
  rw [a1] at e1
  have hx : ∀ c j, ¬ (c = 439 ∧ (j = 11 ∨ j = 12 ∨ j = 14)) → xup (xup (xup R2 439 11 0) 439 12 0) 439 14 0 c j = R2 c j := fun c j hc => by rw [xup_ne (by omega), xup_ne (by omega), xup_ne (by omega)]
  have hx2 : xup (xup (xup R2 439 11 0) 439 12 0) 439 14 0 439 11 = 0 ∧ xup (xup (xup R2 439 11 0) 439 12 0) 439 14 0 439 12 = 0 ∧ xup (xup (xup R2 439 11 0) 439 12 0) 439 14 0 439 14 = 0 := by
    simp (disch := omega) only [xup_ne, xup_eq, and_self]
  generalize xup (xup (xup R2 439 11 0) 439 12 0) 439 14 0 = R3 at e2 hx hx2
  have y17 : R3 439 17 = R 439 17 := by rw [hx 439 17 (by omega), g5 439 17 (by omega), xup_ne (by omega), p3 439 17 (by omega), xup_ne (by omega)]
  obtain ⟨R4, d1, ⟨⟨d2, d3, d4⟩, ⟨d5, d6⟩, ⟨d7, d8⟩, d9⟩, d10⟩ := m_begins (R := R3) (s := s) (by rw [y17]; exact s2) (by rw [y17]; exact hs)
  rw [d1] at e2
  have m6 := g3.2.1
  -- the state at the first token
  have hT4 : tkS n m C4 R4 := by
    obtain ⟨t1, t2, t3, t4, t5⟩ := g3
    refine ⟨by rw [a3 1 2 (by omega)]; exact t1, t2, fun i i0 i1 => ?_, fun i j i0 ij jm => ?_, fun z z2 => ?_⟩
    · obtain ⟨u1, u2⟩ := t3 i i0 i1
      refine ⟨tkOk_fr u1 (fun c c0 c1 => a3 c i (by omega)) (fun c c0 c1 => by rw [d10 c i (by omega), hx c i (by omega)]), ?_⟩
      rw [a3 4 i (by omega)]; exact u2
    · rw [a3 4 i (by omega), a3 4 j (by omega)]; exact t4 i j i0 ij jm
    · rw [d10 442 m (by omega), hx 442 m (by omega), d10 443 m (by omega), hx 443 m (by omega)]
      exact t5 z (fun i i0 i1 => by have := z2 i i0 i1; rw [a3 3 i (by omega)] at this; exact this)
  have hS4 : gST n m w s C4 R4 := ⟨⟨hT4, by rw [a3 1 1 (by omega), g4 1 1 (by omega)]; exact hC.1⟩, ⟨by rw [a3 51 2 (by omega)]; exact c2, hw⟩, d2, s01⟩
  have r11 : R4 439 11 = 0 := by rw [d10 _ _ (by omega)]; exact hx2.1
  have r12 : R4 439 12 = 0 := by rw [d10 _ _ (by omega)]; exact hx2.2.1
  have r14 : R4 439 14 = 0 := by rw [d10 _ _ (by omega)]; exact hx2.2.2
  have hQ4 : gQ n m 0 C4 R4 := by
    refine ⟨⟨by omega, by omega, by omega⟩, ⟨b8, r11⟩, ⟨b6, r12⟩, fun z => ?_, fun z => ?_, fun i i0 i1 => by omega⟩
    · rw [(b9 z).1, (b9 z).2, a3 3 0 (by omega), a3 5 0 (by omega)]; exact ⟨rfl, rfl⟩
    · obtain ⟨u1, u2⟩ := hT4.2.2.2.2 (by omega) (fun i i0 i1 => by omega)
      rw [← z] at u1 u2
      exact ⟨(b10 z).1, (b10 z).2, u1, u2⟩
  have hN4 : gN m 0 C4 R4 := Or.inl ⟨b7, r14⟩
  have hL4 : gLL w s 0 0 0 0 0 C4 R4 := by
    refine ⟨⟨⟨b1, d3, by omega, by omega⟩, fun k h0 h1 => by omega⟩, ⟨⟨b2', d6, d5⟩, ⟨by omega, by omega, by omega⟩, ⟨by unfold lw_from; rw [if_pos rfl], fun _ => rfl, fun z => by omega⟩, fun _ k h0 h1 => by omega⟩, ⟨b5, d4, by omega, by omega⟩, fun _ r h0 h1 => by omega, fun k h0 h1 => ?_, fun _ => ?_⟩
    · rw [d9 k h0 h1, b3, b2_f (by rw [tb_0]; exact fun z => by cases z)]
    · rw [b4, d7, d8, fr_of_01]
      omega
  obtain ⟨C5, R5, i1, i2, i3, i4, i5⟩ := read_loop (n := n) (m := m) m.toNat 0 0 0 0 0 0 C4 R4 (by omega) hS4 hQ4 hN4 hL4 (by omega) (by omega)
  have hS5 := hS4.fx i4 i5
  obtain ⟨v, C6, R6, j1, j2, j3, j4, j5, j6, j7⟩ := end_both hS5 i3
  have hfC : rdC w C C6 := fun c j hc => by rw [j6 c j (by omega), i4 c j (by omega), a3 c j (by omega), g4 c j (by omega)]
  have k5 : ∀ c j, ¬ gRx s c j → R5 c j = R4 c j := i5
  have hfR : rdR s R R6 := fun c j hc => by
    have h1 : ¬ gRx s c j := fun z => hc (Or.inr (Or.inr z))
    have hA : ¬ (441 ≤ c ∧ c ≤ 445) := fun z => hc (Or.inl z)
    have hB' : ¬ (c = 439 ∧ (j = 2 ∨ j = 4 ∨ (10 ≤ j ∧ j ≤ 18) ∨ j = 26 ∨ j = 27 ∨ j = 42 ∨ j = 43)) := fun z => hc (Or.inr (Or.inl z))
    have g47 : ¬ ((c = 447 ∨ c = 454 ∨ c = 466 ∨ c = 467) ∧ j = s) := fun z => h1 (Or.inr (Or.inl z))
    have g49 : ¬ (c = 449 ∧ 20 * s ≤ j ∧ j < 20 * s + 20) := fun z => h1 (Or.inr (Or.inr (Or.inl ⟨Or.inr z.1, z.2⟩)))
    exact (j7 c j (fun z => hB' ⟨z.1, by omega⟩)).trans ((k5 c j h1).trans ((d10 c j (fun z => by
      rcases z with z | z | z
      · exact hB' ⟨z.1, by clear hB' g47 g49 hc h1; omega⟩
      · exact g47 z
      · exact g49 z)).trans ((hx c j (fun z => hB' ⟨z.1, by omega⟩)).trans ((g5 c j (fun z => by
      rcases z with z | z
      · exact hA (by omega)
      · exact hB' ⟨z.1, by omega⟩)).trans ((xup_ne (fun z => hB' ⟨z.1, by omega⟩)).trans ((p3 c j (fun z => hA (by omega))).trans (xup_ne (fun z => hB' ⟨z.1, by omega⟩))))))))
  have x17 : ¬ gRx s 439 17 := by unfold gRx; omega
  have x2 : ¬ gRx s 439 2 := by unfold gRx; omega
  refine ⟨v, C6, R6, e1.trans (i1.trans j1), e2.trans (i2.trans j2), ⟨j3, ?_⟩, fun z => ?_, fun z => ?_, hfC, hfR⟩
  · rw [j7 439 2 (by omega), k5 439 2 x2, d10 439 2 (by omega), hx 439 2 (by omega), g5 439 2 (by omega), xup_eq]
  · obtain ⟨z1, z2, k, S', P', r, z3⟩ := j4 z
    refine ⟨z1, ?_⟩
    have hl := gLL.law hw s01 z3 z2
    exact RLaw_fr hl (fun c j hc => by rw [mx_c (by omega), mx_c (by omega), j6 c j (by omega)]) (fun c j hc => by rw [mx_r (by omega), mx_r (by omega), j7 c j (by omega)])
  · rw [j5 z, k5 439 17 x17, d10 439 17 (by omega), y17]
end
