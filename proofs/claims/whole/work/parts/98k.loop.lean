/-! THE LAW'S LOOP: call by call. Written by wip/gen/lawloop.py. -/
section
set_option maxRecDepth 20000 in
theorem law_run {L : Nat} (hL : L ≤ 3072) : ∀ (f : Nat) (i : Int) (M : em_M), Rel M → M (-2) 0 = (L : Int) → (∀ j, M (-1) j < 2147483648) → 0 ≤ i → (L : Int) - i ≤ f → ∃ M2, f_Lw_law_18 i M = some (1, M2) := by
  intro f
  induction f with
  | zero =>
    intro i M h h2 h1 i0 hi
    have e := q_Lw_law_18 i M
    rw [h2, x32_s (x := (L : Int) - 6) (by omega) (by omega), decide_eq_true (by omega : (L : Int) - 6 < i), cond_true] at e
    exact ⟨M, e⟩
  | succ f ih =>
    intro i M h h2 h1 i0 hi
    have e := q_Lw_law_18 i M
    rw [h2, x32_s (x := (L : Int) - 6) (by omega) (by omega)] at e
    by_cases c : (L : Int) - 6 < i
    · rw [decide_eq_true c, cond_true] at e
      exact ⟨M, e⟩
    rw [decide_eq_false c, cond_false] at e
    have fin : ∀ M2, Rel M2 → Scr M M2 → f_Lw_law_18 i M = f_Lw_law_18 (i + 6) M2 → ∃ M2, f_Lw_law_18 i M = some (1, M2) := fun M2 hR hs he => by
      obtain ⟨Mx, hx⟩ := ih (i + 6) M2 hR (by rw [hs.2]; exact h2) (fun j => by rw [hs.1]; exact h1 j) (by omega) (by omega)
      exact ⟨Mx, he.trans hx⟩
    have b0 : 0 ≤ i ∧ i < (L : Int) := by omega
    have b1 : 0 ≤ i + 1 ∧ i + 1 < (L : Int) := by omega
    have b2' : 0 ≤ i + 2 ∧ i + 2 < (L : Int) := by omega
    have b3 : 0 ≤ i + 3 ∧ i + 3 < (L : Int) := by omega
    have b4 : 0 ≤ i + 4 ∧ i + 4 < (L : Int) := by omega
    have b5 : 0 ≤ i + 5 ∧ i + 5 < (L : Int) := by omega
    rw [x32_s (x := i + 1) (by omega) (by omega), x32_s (x := i + 2) (by omega) (by omega), x32_s (x := i + 3) (by omega) (by omega), x32_s (x := i + 4) (by omega) (by omega), x32_s (x := i + 5) (by omega) (by omega), x32_s (x := i + 6) (by omega) (by omega)] at e
    simp only [em_cd, if_pos b0, if_pos b1, if_pos b2', if_pos b3, if_pos b4, if_pos b5, x_cmp_eq] at e
    by_cases c0 : x_and (M (-1) i) 31 = 0
    · rw [if_pos c0] at e
      obtain ⟨v, M1, M2, e1, ⟨s1, s1'⟩, e2, s2, hR⟩ := arm_feed h (M (-1) (i + 1)) (M (-1) (i + 2)) (M (-1) (i + 3)) (M (-1) (i + 4)) (M (-1) (i + 5))
      rw [e1] at e
      simp only [Option.bind_some, s1, s1', h2, if_pos b1, if_pos b2', if_pos b3, if_pos b4, if_pos b5, e2, if_true] at e
      exact fin M2 hR s2 e
    rw [if_neg c0] at e
    by_cases c1 : x_and (M (-1) i) 31 = 1
    · rw [if_pos c1] at e
      obtain ⟨v, M1, M2, e1, ⟨s1, s1'⟩, e2, s2, hR⟩ := arm_back h (M (-1) (i + 1))
      rw [e1] at e
      simp only [Option.bind_some, s1, s1', h2, if_pos b1, if_pos b2', if_pos b3, if_pos b4, if_pos b5, e2, if_true] at e
      exact fin M2 hR s2 e
    rw [if_neg c1] at e
    by_cases c2 : x_and (M (-1) i) 31 = 2
    · rw [if_pos c2] at e
      obtain ⟨v, M1, M2, e1, ⟨s1, s1'⟩, e2, s2, hR⟩ := arm_read h 
      rw [e1] at e
      simp only [Option.bind_some, s1, s1', h2, if_pos b1, if_pos b2', if_pos b3, if_pos b4, if_pos b5, e2, if_true] at e
      exact fin M2 hR s2 e
    rw [if_neg c2] at e
    by_cases c3 : x_and (M (-1) i) 31 = 3
    · rw [if_pos c3] at e
      obtain ⟨v, M1, M2, e1, ⟨s1, s1'⟩, e2, s2, hR⟩ := arm_place h 
      rw [e1] at e
      simp only [Option.bind_some, s1, s1', h2, if_pos b1, if_pos b2', if_pos b3, if_pos b4, if_pos b5, e2, if_true] at e
      exact fin M2 hR s2 e
    rw [if_neg c3] at e
    by_cases c4 : x_and (M (-1) i) 31 = 4
    · rw [if_pos c4] at e
      obtain ⟨v, M1, M2, e1, ⟨s1, s1'⟩, e2, s2, hR⟩ := arm_person h (M (-1) (i + 1)) (M (-1) (i + 2)) (M (-1) (i + 3)) (M (-1) (i + 4))
      rw [e1] at e
      simp only [Option.bind_some, s1, s1', h2, if_pos b1, if_pos b2', if_pos b3, if_pos b4, if_pos b5, e2, if_true] at e
      exact fin M2 hR s2 e
    rw [if_neg c4] at e
    by_cases c5 : x_and (M (-1) i) 31 = 5
    · rw [if_pos c5] at e
      obtain ⟨v, M1, M2, e1, ⟨s1, s1'⟩, e2, s2, hR⟩ := arm_mates h (M (-1) (i + 1)) (M (-1) (i + 2)) (M (-1) (i + 3)) (M (-1) (i + 4))
      rw [e1] at e
      simp only [Option.bind_some, s1, s1', h2, if_pos b1, if_pos b2', if_pos b3, if_pos b4, if_pos b5, e2, if_true] at e
      exact fin M2 hR s2 e
    rw [if_neg c5] at e
    by_cases c6 : x_and (M (-1) i) 31 = 6
    · rw [if_pos c6] at e
      obtain ⟨v, M1, M2, e1, ⟨s1, s1'⟩, e2, s2, hR⟩ := arm_wealth h (M (-1) (i + 1)) (M (-1) (i + 2))
      rw [e1] at e
      simp only [Option.bind_some, s1, s1', h2, if_pos b1, if_pos b2', if_pos b3, if_pos b4, if_pos b5, e2, if_true] at e
      exact fin M2 hR s2 e
    rw [if_neg c6] at e
    by_cases c7 : x_and (M (-1) i) 31 = 7
    · rw [if_pos c7] at e
      obtain ⟨v, M1, M2, e1, ⟨s1, s1'⟩, e2, s2, hR⟩ := arm_owes h (M (-1) (i + 1)) (M (-1) (i + 2)) (M (-1) (i + 3))
      rw [e1] at e
      simp only [Option.bind_some, s1, s1', h2, if_pos b1, if_pos b2', if_pos b3, if_pos b4, if_pos b5, e2, if_true] at e
      exact fin M2 hR s2 e
    rw [if_neg c7] at e
    by_cases c8 : x_and (M (-1) i) 31 = 8
    · rw [if_pos c8] at e
      obtain ⟨v, M1, M2, e1, ⟨s1, s1'⟩, e2, s2, hR⟩ := arm_leaves h (M (-1) (i + 1)) (M (-1) (i + 2)) (M (-1) (i + 3)) (M (-1) (i + 4))
      rw [e1] at e
      simp only [Option.bind_some, s1, s1', h2, if_pos b1, if_pos b2', if_pos b3, if_pos b4, if_pos b5, e2, if_true] at e
      exact fin M2 hR s2 e
    rw [if_neg c8] at e
    by_cases c9 : x_and (M (-1) i) 31 = 9
    · rw [if_pos c9] at e
      obtain ⟨v, M1, M2, e1, ⟨s1, s1'⟩, e2, s2, hR⟩ := arm_dies h (M (-1) (i + 1))
      rw [e1] at e
      simp only [Option.bind_some, s1, s1', h2, if_pos b1, if_pos b2', if_pos b3, if_pos b4, if_pos b5, e2, if_true] at e
      exact fin M2 hR s2 e
    rw [if_neg c9] at e
    by_cases c10 : x_and (M (-1) i) 31 = 10
    · rw [if_pos c10] at e
      obtain ⟨v, M1, M2, e1, ⟨s1, s1'⟩, e2, s2, hR⟩ := arm_settle h (M (-1) (i + 1))
      rw [e1] at e
      simp only [Option.bind_some, s1, s1', h2, if_pos b1, if_pos b2', if_pos b3, if_pos b4, if_pos b5, e2, if_true] at e
      exact fin M2 hR s2 e
    rw [if_neg c10] at e
    by_cases c11 : x_and (M (-1) i) 31 = 11
    · rw [if_pos c11] at e
      obtain ⟨v, M1, M2, e1, ⟨s1, s1'⟩, e2, s2, hR⟩ := arm_undo h 
      rw [e1] at e
      simp only [Option.bind_some, s1, s1', h2, if_pos b1, if_pos b2', if_pos b3, if_pos b4, if_pos b5, e2, if_true] at e
      exact fin M2 hR s2 e
    rw [if_neg c11] at e
    by_cases c12 : x_and (M (-1) i) 31 = 12
    · rw [if_pos c12] at e
      obtain ⟨v, M1, M2, e1, ⟨s1, s1'⟩, e2, s2, hR⟩ := arm_would h (M (-1) (i + 1)) (M (-1) (i + 2))
      rw [e1] at e
      simp only [Option.bind_some, s1, s1', h2, if_pos b1, if_pos b2', if_pos b3, if_pos b4, if_pos b5, e2, if_true] at e
      exact fin M2 hR s2 e
    rw [if_neg c12] at e
    by_cases c13 : x_and (M (-1) i) 31 = 13
    · rw [if_pos c13] at e
      obtain ⟨v, M1, M2, e1, ⟨s1, s1'⟩, e2, s2, hR⟩ := arm_open h (M (-1) (i + 1))
      rw [e1] at e
      simp only [Option.bind_some, s1, s1', h2, if_pos b1, if_pos b2', if_pos b3, if_pos b4, if_pos b5, e2, if_true] at e
      exact fin M2 hR s2 e
    rw [if_neg c13] at e
    by_cases c14 : x_and (M (-1) i) 31 = 14
    · rw [if_pos c14] at e
      obtain ⟨v, M1, M2, e1, ⟨s1, s1'⟩, e2, s2, hR⟩ := arm_estate h (M (-1) (i + 1))
      rw [e1] at e
      simp only [Option.bind_some, s1, s1', h2, if_pos b1, if_pos b2', if_pos b3, if_pos b4, if_pos b5, e2, if_true] at e
      exact fin M2 hR s2 e
    rw [if_neg c14] at e
    by_cases c15 : x_and (M (-1) i) 31 = 15
    · rw [if_pos c15] at e
      obtain ⟨v, M1, M2, e1, ⟨s1, s1'⟩, e2, s2, hR⟩ := arm_got h (M (-1) (i + 1)) (M (-1) (i + 2))
      rw [e1] at e
      simp only [Option.bind_some, s1, s1', h2, if_pos b1, if_pos b2', if_pos b3, if_pos b4, if_pos b5, e2, if_true] at e
      exact fin M2 hR s2 e
    rw [if_neg c15] at e
    by_cases c16 : x_and (M (-1) i) 31 = 16
    · rw [if_pos c16] at e
      obtain ⟨v, M1, M2, e1, ⟨s1, s1'⟩, e2, s2, hR⟩ := arm_why h (M (-1) (i + 1))
      rw [e1] at e
      simp only [Option.bind_some, s1, s1', h2, if_pos b1, if_pos b2', if_pos b3, if_pos b4, if_pos b5, e2, if_true] at e
      exact fin M2 hR s2 e
    rw [if_neg c16] at e
    by_cases c17 : x_and (M (-1) i) 31 = 17
    · rw [if_pos c17] at e
      obtain ⟨v, M1, M2, e1, ⟨s1, s1'⟩, e2, s2, hR⟩ := arm_rule h (M (-1) (i + 1))
      rw [e1] at e
      simp only [Option.bind_some, s1, s1', h2, if_pos b1, if_pos b2', if_pos b3, if_pos b4, if_pos b5, e2, if_true] at e
      exact fin M2 hR s2 e
    rw [if_neg c17] at e
    by_cases c18 : x_and (M (-1) i) 31 = 18
    · rw [if_pos c18] at e
      obtain ⟨v, M1, M2, e1, ⟨s1, s1'⟩, e2, s2, hR⟩ := arm_kin h (M (-1) (i + 1)) (M (-1) (i + 2)) (M (-1) (i + 3)) (M (-1) (i + 4)) (h1 _)
      rw [e1] at e
      simp only [Option.bind_some, s1, s1', h2, if_pos b1, if_pos b2', if_pos b3, if_pos b4, if_pos b5, e2, if_true] at e
      exact fin M2 hR s2 e
    rw [if_neg c18] at e
    by_cases c19 : x_and (M (-1) i) 31 = 19
    · rw [if_pos c19] at e
      obtain ⟨v, M1, M2, e1, ⟨s1, s1'⟩, e2, s2, hR⟩ := arm_told h (M (-1) (i + 1)) (M (-1) (i + 2))
      rw [e1] at e
      simp only [Option.bind_some, s1, s1', h2, if_pos b1, if_pos b2', if_pos b3, if_pos b4, if_pos b5, e2, if_true] at e
      exact fin M2 hR s2 e
    rw [if_neg c19] at e
    by_cases c20 : x_and (M (-1) i) 31 = 20
    · rw [if_pos c20] at e
      obtain ⟨v, M1, M2, e1, ⟨s1, s1'⟩, e2, s2, hR⟩ := arm_outside h (M (-1) (i + 1)) (M (-1) (i + 2))
      rw [e1] at e
      simp only [Option.bind_some, s1, s1', h2, if_pos b1, if_pos b2', if_pos b3, if_pos b4, if_pos b5, e2, if_true] at e
      exact fin M2 hR s2 e
    rw [if_neg c20] at e
    by_cases c21 : x_and (M (-1) i) 31 = 21
    · rw [if_pos c21] at e
      obtain ⟨v, M1, M2, e1, ⟨s1, s1'⟩, e2, s2, hR⟩ := arm_count h (M (-1) (i + 1))
      rw [e1] at e
      simp only [Option.bind_some, s1, s1', h2, if_pos b1, if_pos b2', if_pos b3, if_pos b4, if_pos b5, e2, if_true] at e
      exact fin M2 hR s2 e
    rw [if_neg c21] at e
    exact fin M h (Scr.rf M) e
end
