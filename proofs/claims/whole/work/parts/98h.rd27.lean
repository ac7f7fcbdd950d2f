/-! read: how it begins and ends, in both. -/
section
variable {C R M : em_M} {b : Int → Int} {n m t w s k0 S P r0 : Int}
theorem i2b_id {v : Int} (h0 : -128 ≤ v) (h1 : v ≤ 127) : x_i2b v = v := by
  have h : (List.range 256).all (fun k => decide (x_i2b ((k : Int) - 128) = (k : Int) - 128)) = true := by decide +kernel
  have := List.all_eq_true.mp h (v + 128).toNat (List.mem_range.mpr (by omega))
  rw [decide_eq_true_eq, show (((v + 128).toNat : Nat) : Int) - 128 = v by omega] at this
  exact this
theorem f_goTo0 : f_Reader_goTo 0 C = some (0, goC C (-1)) := by
  have e := q_Reader_goTo 0 C
  simp (disch := omega) only [em_cd, if_neg (show ¬ (0 : Int) < 0 by omega), if_neg (show ¬ (600 : Int) < 0 by omega), xup_ne, if_true] at e
  unfold goC
  rw [show (-1 : Int) + 1 = 0 by omega]
  by_cases c : C 1 2 ≤ 0
  · rw [if_pos c] at e
    rw [e, q_Reader_goTo_52]
    rw [if_neg (by omega), if_neg (by omega)]
    simp only [em_cd, if_true]
  · rw [if_neg c, if_neg (by omega), if_pos (by omega)] at e
    rw [e]
    simp (disch := omega) only [q_Reader_goTo_52, em_cd, xup_ne, if_pos (show (0 : Int) ≤ 0 ∧ (0 : Int) < 601 by omega), if_neg (show ¬ (1 : Int) = 0 by omega)]
    rw [if_pos (show 0 < C 1 2 by omega), if_pos (show 0 < C 1 2 by omega)]
/-- the reference takes the tape over -/
theorem m_takes (hn : n ≤ 2000) (hb : ∀ i, -128 ≤ b i ∧ b i ≤ 127) : ∀ (f : Nat) (x : Int) (R : em_M), 0 ≤ x → x + f = n → R 439 4 = n → (∀ i, 0 ≤ i → i < n → R 440 i = b i) → (∀ i, 0 ≤ i → i < x → R 441 i = b i) → ∃ R', f_Model_read_10 x R = f_Model_read_10 n R' ∧ TM b n R' ∧ ∀ c j, ¬ c = 441 → R' c j = R c j := by
  intro f
  induction f with
  | zero =>
    intro x R x0 hx h4 h40 h41
    rw [show x = n by omega]
    exact ⟨R, rfl, ⟨h4, fun i i0 i1 => h41 i i0 (by omega)⟩, fun _ _ _ => rfl⟩
  | succ f ih =>
    intro x R x0 hx h4 h40 h41
    have e := q_Model_read_10 x R
    simp only [em_cd, h4, if_neg (show ¬ n ≤ x by omega), if_pos (show 0 ≤ x ∧ x < 2000 by omega), x32_s (show -1000000 ≤ x + 1 by omega) (show x + 1 ≤ 1000000 by omega), h40 x x0 (by omega), i2b_id (hb x).1 (hb x).2] at e
    obtain ⟨R', g1, g2, g3⟩ := ih (x + 1) (xup R 441 x (b x)) (by omega) (by omega) (by rw [xup_ne (by omega)]; exact h4) (fun i i0 i1 => by rw [xup_ne (by omega)]; exact h40 i i0 i1) (fun i i0 i1 => by
      by_cases z : i = x
      · subst z
        exact xup_eq _ _ _ _
      · rw [xup_ne (by omega)]
        exact h41 i i0 (by omega))
    exact ⟨R', e.trans g1, g2, fun c j hc => by rw [g3 c j hc, xup_ne (by omega)]⟩
/-- no kin is by steps -/
theorem m_nosteps (s2 : s = 0 ∨ s = 1) : ∀ (f : Nat) (x : Int) (R : em_M), 0 ≤ x → x + f = 20 → R 439 18 = s → (∀ k, 0 ≤ k → k < x → R 449 (20 * s + k) = 0) → ∃ R', f_Model_read_122 x R = f_Model_read_149 R' ∧ (∀ k, 0 ≤ k → k < 20 → R' 449 (20 * s + k) = 0) ∧ ∀ c j, ¬ (c = 449 ∧ 20 * s ≤ j ∧ j < 20 * s + 20) → R' c j = R c j := by
  intro f
  induction f with
  | zero =>
    intro x R x0 hx h18 hk
    have e := q_Model_read_122 x R
    simp only [em_cd, if_pos (show 20 ≤ x by omega)] at e
    exact ⟨R, e, fun k h0 h1 => hk k h0 (by omega), fun _ _ _ => rfl⟩
  | succ f ih =>
    intro x R x0 hx h18 hk
    have e := q_Model_read_122 x R
    simp only [em_cd, h18, if_neg (show ¬ 20 ≤ x by omega), x32_s (show -1000000 ≤ 20 * s by omega) (show 20 * s ≤ 1000000 by omega), x32_s (show -1000000 ≤ 20 * s + x by omega) (show 20 * s + x ≤ 1000000 by omega), x32_s (show -1000000 ≤ x + 1 by omega) (show x + 1 ≤ 1000000 by omega)] at e
    rw [if_pos (by omega)] at e
    obtain ⟨R', g1, g2, g3⟩ := ih (x + 1) (xup R 449 (20 * s + x) 0) (by omega) (by omega) (by rw [xup_ne (by omega)]; exact h18) (fun k h0 h1 => by
      by_cases z : k = x
      · subst z
        exact xup_eq _ _ _ _
      · rw [xup_ne (by omega)]
        exact hk k h0 (by omega))
    exact ⟨R', e.trans g1, g2, fun c j hc => by rw [g3 c j hc, xup_ne (by omega)]⟩
/-- the class begins -/
theorem c_begins (hw : w = 53 ∨ w = 366) (h2 : C 51 2 = w) (hT : tkS n m C R) : ∃ C', ((f_Law_clear (C 51 2) C).bind fun r1 => (f_Reader_goTo 0 (xup (xup r1.2 51 6 0) 51 8 0)).bind fun r2 => f_Reader_readText_33 1 0 r2.2) = f_Reader_readText_33 1 0 C' ∧ ((C' w 0 = 0 ∧ C' w 1 = 0 ∧ C' w 2 = 0 ∧ C' w 3 = 1 ∧ C' w 4 = 0) ∧ (C' 51 6 = 0 ∧ C' 51 8 = 0 ∧ C' 51 3 = 0) ∧ (0 < m → C' 51 4 = C 3 0 ∧ C' 51 5 = C 5 0) ∧ (0 = m → C' 51 4 = 16 ∧ C' 51 5 = 0)) ∧ ∀ c j, ¬ ((c = 51 ∧ (j = 3 ∨ j = 4 ∨ j = 5 ∨ j = 6 ∨ j = 8)) ∨ (c = w ∧ 0 ≤ j ∧ j ≤ 4)) → C' c j = C c j := by
  obtain ⟨C1, a1, ⟨a2, a3, a4, a5, a6⟩, a7⟩ := f_clear (C := C) hw
  have ht := hT.1
  rw [h2, a1]
  simp only [Option.bind_some, f_goTo0]
  have hg : ∀ c j, ¬ (c = 51 ∧ 3 ≤ j ∧ j ≤ 5) → goC (xup (xup C1 51 6 0) 51 8 0) (-1) c j = xup (xup C1 51 6 0) 51 8 0 c j := fun c j hc => goC_ne hc
  have hx : ∀ c j, ¬ (c = 51 ∧ (j = 6 ∨ j = 8)) → xup (xup C1 51 6 0) 51 8 0 c j = C1 c j := fun c j hc => by rw [xup_ne (by omega), xup_ne (by omega)]
  obtain ⟨b1, b2', b3⟩ := goC_at (C := xup (xup C1 51 6 0) 51 8 0) (t := -1)
  rw [show (-1 : Int) + 1 = 0 by omega, hx 1 2 (by omega), a7 1 2 (by omega), ht] at b2' b3
  rw [hx 3 0 (by omega), a7 3 0 (by omega)] at b2'
  rw [hx 5 0 (by omega), a7 5 0 (by omega)] at b3
  refine ⟨_, rfl, ⟨⟨?_, ?_, ?_, ?_, ?_⟩, ⟨?_, ?_, b1⟩, fun z => ⟨?_, ?_⟩, fun z => ⟨?_, ?_⟩⟩, fun c j hc => by rw [hg c j (by omega), hx c j (by omega), a7 c j (by omega)]⟩
  · rw [hg _ _ (by omega), hx _ _ (by omega)]; exact a2
  · rw [hg _ _ (by omega), hx _ _ (by omega)]; exact a3
  · rw [hg _ _ (by omega), hx _ _ (by omega)]; exact a4
  · rw [hg _ _ (by omega), hx _ _ (by omega)]; exact a5
  · rw [hg _ _ (by omega), hx _ _ (by omega)]; exact a6
  · rw [hg _ _ (by omega), xup_ne (by omega), xup_eq]
  · rw [hg _ _ (by omega), xup_eq]
  · rw [b2', if_pos z]
  · rw [b3, if_pos z]
  · rw [b2', if_neg (by omega)]
  · rw [b3, if_neg (by omega)]
/-- the reference begins -/
theorem m_begins (s2 : R 439 17 = 0 ∨ R 439 17 = 1) (hs : s = 1 - R 439 17) : ∃ R', f_Model_read_60 R = f_Model_read_149 R' ∧ ((R' 439 18 = s ∧ R' 447 s = 0 ∧ R' 454 s = 0) ∧ (R' 439 26 = 0 ∧ R' 439 27 = 0) ∧ (R' 466 s = 0 ∧ R' 467 s = 1) ∧ ∀ k, 0 ≤ k → k < 20 → R' 449 (20 * s + k) = 0) ∧ ∀ c j, ¬ ((c = 439 ∧ (j = 18 ∨ j = 26 ∨ j = 27)) ∨ ((c = 447 ∨ c = 454 ∨ c = 466 ∨ c = 467) ∧ j = s) ∨ (c = 449 ∧ 20 * s ≤ j ∧ j < 20 * s + 20)) → R' c j = R c j := by
  have s01 : s = 0 ∨ s = 1 := by omega
  have e1 := q_Model_read_60 R
  rw [x32_s (x := 1 - R 439 17) (by omega) (by omega), ← hs] at e1
  simp (disch := omega) only [em_cd, xup_ne, xup_eq] at e1
  rw [if_pos (by omega), if_pos (by omega)] at e1
  have hx : ∀ c j, ¬ ((c = 439 ∧ (j = 18 ∨ j = 26 ∨ j = 27)) ∨ ((c = 447 ∨ c = 454) ∧ j = s)) → xup (xup (xup (xup (xup R 439 18 s) 447 s 0) 454 s 0) 439 26 0) 439 27 0 c j = R c j := fun c j hc => by rw [xup_ne (by omega), xup_ne (by omega), xup_ne (by omega), xup_ne (by omega), xup_ne (by omega)]
  have hy : xup (xup (xup (xup (xup R 439 18 s) 447 s 0) 454 s 0) 439 26 0) 439 27 0 439 18 = s ∧ xup (xup (xup (xup (xup R 439 18 s) 447 s 0) 454 s 0) 439 26 0) 439 27 0 447 s = 0 ∧ xup (xup (xup (xup (xup R 439 18 s) 447 s 0) 454 s 0) 439 26 0) 439 27 0 454 s = 0 ∧ xup (xup (xup (xup (xup R 439 18 s) 447 s 0) 454 s 0) 439 26 0) 439 27 0 439 26 = 0 ∧ xup (xup (xup (xup (xup R 439 18 s) 447 s 0) 454 s 0) 439 26 0) 439 27 0 439 27 = 0 := by
    simp (disch := omega) only [xup_ne, xup_eq, and_self]
  generalize xup (xup (xup (xup (xup R 439 18 s) 447 s 0) 454 s 0) 439 26 0) 439 27 0 = A at e1 hx hy
  obtain ⟨y1, y2, y3, y4, y5⟩ := hy
  have e2 := q_Model_read_100 A
  simp (disch := omega) only [em_cd, xup_ne, xup_eq, y1] at e2
  rw [if_pos (by omega), if_pos (by omega)] at e2
  have hB : ∀ c j, ¬ ((c = 466 ∨ c = 467) ∧ j = s) → xup (xup A 466 s 0) 467 s 1 c j = A c j := fun c j hc => by rw [xup_ne (by omega), xup_ne (by omega)]
  have hB2 : xup (xup A 466 s 0) 467 s 1 466 s = 0 ∧ xup (xup A 466 s 0) 467 s 1 467 s = 1 := by
    simp (disch := omega) only [xup_ne, xup_eq, and_self]
  generalize xup (xup A 466 s 0) 467 s 1 = B at e2 hB hB2
  obtain ⟨R', g1, g2, g3⟩ := m_nosteps s01 20 0 B (by omega) (by omega) (by rw [hB 439 18 (by omega)]; exact y1) (fun k h0 h1 => by omega)
  refine ⟨R', e1.trans (e2.trans g1), ⟨⟨?_, ?_, ?_⟩, ⟨?_, ?_⟩, ⟨?_, ?_⟩, g2⟩, fun c j hc => by rw [g3 c j (by omega), hB c j (by omega), hx c j (by omega)]⟩
  · rw [g3 _ _ (by omega), hB _ _ (by omega)]; exact y1
  · rw [g3 _ _ (by omega), hB _ _ (by omega)]; exact y2
  · rw [g3 _ _ (by omega), hB _ _ (by omega)]; exact y3
  · rw [g3 _ _ (by omega), hB _ _ (by omega)]; exact y4
  · rw [g3 _ _ (by omega), hB _ _ (by omega)]; exact y5
  · rw [g3 _ _ (by omega)]; exact hB2.1
  · rw [g3 _ _ (by omega)]; exact hB2.2
/-- the end of both -/
theorem end_both (hS : gST n m w s C R) (h : gBd n m C R ∨ ((C 51 6 = 0 ∧ R 439 12 = 0) ∧ gN m m C R ∧ ∃ k S P r, gLL w s m k S P r C R)) : ∃ v C' R', f_Reader_readText_64 C = some (v, C') ∧ f_Model_read_171 R = some (v, R') ∧ C' 51 7 = R' 439 16 ∧ (v = 0 → R' 439 17 = s ∧ C 51 8 = 0 ∧ ∃ k S P r, gLL w s m k S P r C R) ∧ (¬ v = 0 → R' 439 17 = R 439 17) ∧ (∀ c j, ¬ (c = 51 ∧ (j = 6 ∨ j = 7)) → C' c j = C c j) ∧ ∀ c j, ¬ (c = 439 ∧ (j = 16 ∨ j = 17)) → R' c j = R c j := by
  obtain ⟨⟨⟨m1, m2, -⟩, hn⟩, -, s1, s2⟩ := id hS
  have e1 := q_Reader_readText_64 C
  have e2 := q_Model_read_171 R
  have e3 := fun x => q_Model_read_201 x R
  simp (disch := omega) only [em_cd, xup_ne, xup_eq] at e1 e2 e3
  rcases h with h | ⟨⟨h6, h12⟩, hN, hL⟩
  · obtain ⟨⟨b1, b2'⟩, ⟨b3, b4, b5⟩, b6, b7⟩ := id h
    rw [if_neg (by omega), q_Text_startAt] at e1
    simp only [em_cd] at e1
    rw [if_neg (by omega)] at e2
    rw [e3, if_neg (by omega)] at e2
    have hpl : (if C 51 3 < 0 then some (C 1 1, C) else if C 1 2 ≤ C 51 3 then some (C 1 1, C) else if 600 < C 51 3 then some (C 1 1, C) else if 0 ≤ C 51 3 ∧ C 51 3 < 601 then some (C 4 (C 51 3), C) else none) = some (R 439 13, C) := by
      rw [if_neg (by omega)]
      by_cases c : C 51 3 = m
      · rw [if_pos (by omega), b7 c, hn]
      · rw [if_neg (by omega), if_neg (by omega), if_pos (by omega), b6 (by omega)]
    rw [hpl] at e1
    simp (disch := omega) only [Option.bind_some, xup_ne, b1] at e1
    refine ⟨R 439 12, _, _, e1, e2, by rw [xup_eq, xup_eq], fun z => by omega, fun _ => xup_ne (by omega), fun c j hc => xup_ne (by omega), fun c j hc => xup_ne (by omega)⟩
  · rw [if_pos h6] at e1
    rw [if_pos (by omega)] at e2
    rcases hN with ⟨b1, b2'⟩ | ⟨b1, b2', ⟨b3, b4, b5⟩, b6⟩
    · rw [b1, if_neg (fun z => z rfl)] at e1
      rw [if_pos (by omega), e3, if_pos (by omega), if_pos (by omega)] at e2
      refine ⟨0, _, _, e1, e2, ?_, fun _ => ⟨?_, b1, hL⟩, fun z => absurd rfl z, fun c j hc => ?_, fun c j hc => ?_⟩
      · simp (disch := omega) only [xup_ne, xup_eq]
      · rw [xup_eq]; exact s1
      · rw [xup_ne (by omega), xup_ne (by omega)]
      · rw [xup_ne (by omega), xup_ne (by omega)]
    · rw [if_pos (by omega), q_Text_startAt] at e1
      simp (disch := omega) only [em_cd, xup_ne] at e1
      rw [if_neg (by omega), if_neg (by omega), if_neg (by omega), if_pos (by omega)] at e1
      rw [if_neg (by omega), e3, if_pos (by omega), if_neg (by omega)] at e2
      simp (disch := omega) only [Option.bind_some, xup_ne, xup_eq, b1] at e1
      refine ⟨R 439 14, _, _, e1, e2, ?_, fun z => by omega, fun _ => xup_ne (by omega), fun c j hc => ?_, fun c j hc => xup_ne (by omega)⟩
      · rw [xup_eq, xup_eq, b6]
      · rw [xup_ne (by omega), xup_ne (by omega)]
end
