/-! FRACTIONS of the reference: up and low at 439 45, 46; spent at 439 44. -/
theorem m_gcd (M : em_M) : ∀ (n : Nat) (a b : Int), 0 ≤ a → a < 9223372036854775808 → 0 ≤ b → b < 9223372036854775808 → b ≤ (n : Int) → f_Model_common_6 a b M = some ((Int.gcd a b : Int), M) := by
  intro n
  induction n with
  | zero =>
    intro a b ha ha2 hb hb2 hn
    have hb0 : b = 0 := by omega
    subst hb0
    rw [q_Model_common_6, Int.gcd_zero_right]
    simp only [em_cd, x_cmp_eq, if_true]
    have : ((a.natAbs : Nat) : Int) = a := by omega
    rw [this]
  | succ n ih =>
    intro a b ha ha2 hb hb2 hn
    rw [q_Model_common_6]
    simp only [em_cd, x_cmp_eq]
    by_cases hb0 : b = 0
    · rw [if_pos hb0, hb0, Int.gcd_zero_right]
      have : ((a.natAbs : Nat) : Int) = a := by omega
      rw [this]
    · have hr0 : 0 ≤ a % b := Int.emod_nonneg _ hb0
      have hr1 : a % b < b := Int.emod_lt_of_pos _ (by omega)
      rw [if_neg hb0, if_pos hb0, x_lrem_pos ha ha2 (by omega) hb2, em_gcd_mod ha hb]
      exact ih _ _ hb hb2 hr0 (by omega) (by omega)
theorem m_common {a b : Int} (M : em_M) (ha : 0 ≤ a) (ha2 : a < 9223372036854775808) (hb : 0 ≤ b) (hb2 : b < 9223372036854775808) : f_Model_common a b M = some ((Int.gcd a b : Int), M) := by
  rw [q_Model_common]
  exact m_gcd M b.toNat a b ha ha2 hb hb2 (by omega)
def md_set (M : em_M) (s u l : Int) : em_M := xup (xup (xup M 439 44 s) 439 45 u) 439 46 l
/-- behind lowest: the fraction f, packed, or spent -/
def md_fr (M : em_M) (f : Int) : em_M := if M 439 44 = 0 ∧ 0 ≤ f then md_set M 0 (fr_up f) (fr_low f) else md_set M 1 0 1
theorem xup_same {M : em_M} {a i v : Int} (h : M a i = v) : xup M a i v = M := by
  funext b j
  unfold xup
  by_cases q : b = a ∧ j = i
  · rw [if_pos q, q.1, q.2, h]
  · rw [if_neg q]
theorem xup_twice (M : em_M) (a i v w : Int) : xup (xup M a i v) a i w = xup M a i w := by
  funext b j
  unfold xup
  by_cases q : b = a ∧ j = i
  · rw [if_pos q, if_pos q]
  · rw [if_neg q, if_neg q, if_neg q]
theorem xup_swap (M : em_M) {a i v c k w : Int} (h : ¬ (a = c ∧ i = k)) : xup (xup M a i v) c k w = xup (xup M c k w) a i v := by
  funext b j
  unfold xup
  by_cases q : b = c ∧ j = k
  · have : ¬ (b = a ∧ j = i) := fun z => h ⟨by omega, by omega⟩
    rw [if_pos q, if_neg this, if_pos q]
  · rw [if_neg q]
    by_cases z : b = a ∧ j = i
    · rw [if_pos z, if_pos z]
    · rw [if_neg z, if_neg z, if_neg q]
theorem xup_get (M : em_M) (a i v b j : Int) : xup M a i v b j = if b = a ∧ j = i then v else M b j := rfl
theorem fr_up_pack {u l : Int} (h1 : 0 ≤ l) (h2 : l < 1048576) : fr_up (u * 1048576 + l) = u := by unfold fr_up; omega
theorem fr_low_pack {u l : Int} (h1 : 0 ≤ l) (h2 : l < 1048576) : fr_low (u * 1048576 + l) = l := by unfold fr_low; omega
theorem m_lowest {a b : Int} (M : em_M) (hs : M 439 44 = 0 ∨ M 439 44 = 1) (ha : 0 ≤ a) (ha2 : a < 9223372036854775808) (hb : 0 < b) (hb2 : b < 9223372036854775808) : f_Model_lowest a b M = some (0, md_fr M (fr_of a b)) := by
  rw [q_Model_lowest, m_common M ha ha2 (by omega) hb2]
  have hg0 : 0 < Int.gcd a b := Int.gcd_pos_of_ne_zero_right a (by omega)
  have hg1 : (Int.gcd a b : Int) ≤ b := Int.gcd_le_right a (by omega)
  simp only [Option.bind_some, em_cd, q_Model_lowest_68, x_cmp_gt, x_cmp_le]
  rw [if_pos (by omega), if_pos (by omega), x_ldiv_pos ha ha2 (by omega) (by omega), x_ldiv_pos (by omega) hb2 (by omega) (by omega)]
  have hl0 : 0 ≤ b / (Int.gcd a b : Int) := Int.ediv_nonneg (by omega) (by omega)
  have hu0 : 0 ≤ a / (Int.gcd a b : Int) := Int.ediv_nonneg (by omega) (by omega)
  unfold fr_of
  rw [if_neg (by omega : ¬ a < 0), if_neg (by omega : ¬ b ≤ 0)]
  generalize a / (Int.gcd a b : Int) = u at hu0 ⊢
  generalize b / (Int.gcd a b : Int) = l at hl0 ⊢
  have e45 : (xup (xup M 439 45 u) 439 46 l) 439 45 = u := by simp [xup_get]
  have e46 : (xup (xup M 439 45 u) 439 46 l) 439 46 = l := by simp [xup_get]
  have e44 : (xup (xup M 439 45 u) 439 46 l) 439 44 = M 439 44 := by simp [xup_get]
  have es : (xup (xup (xup M 439 45 u) 439 46 l) 439 44 1) 439 44 = 1 := by simp [xup_get]
  rw [e45, e46, e44, es]
  have spent : xup (xup (xup (xup (xup M 439 45 u) 439 46 l) 439 44 1) 439 45 0) 439 46 1 = md_set M 1 0 1 := by
    funext b j
    simp only [md_set, xup_get]
    by_cases q1 : b = 439 ∧ j = 46
    · simp only [if_pos q1]
    · by_cases q2 : b = 439 ∧ j = 45
      · simp only [if_neg q1, if_pos q2]
      · simp only [if_neg q1, if_neg q2]
  by_cases h3 : 1000000000000 < u
  · rw [if_pos h3, if_pos (by decide), spent, if_pos (Or.inl h3)]
    unfold md_fr
    rw [if_neg (by omega)]
  · rw [if_neg h3]
    by_cases h4 : 1000000 < l
    · rw [if_neg (by omega), if_pos (by decide), spent, if_pos (Or.inr h4)]
      unfold md_fr
      rw [if_neg (by omega)]
    · rw [if_pos (by omega), if_neg (by omega : ¬ (1000000000000 < u ∨ 1000000 < l))]
      unfold md_fr
      rcases hs with h0 | h0
      · rw [if_neg (by omega), if_pos (by omega), fr_up_pack hl0 (by omega), fr_low_pack hl0 (by omega)]
        unfold md_set
        rw [xup_same h0]
      · rw [if_pos (by omega), if_neg (by omega)]
        congr 2
        funext b j
        simp only [md_set, xup_get]
        by_cases q1 : b = 439 ∧ j = 46
        · simp only [if_pos q1]
        · by_cases q2 : b = 439 ∧ j = 45
          · simp only [if_neg q1, if_pos q2]
          · simp only [if_neg q1, if_neg q2]
            by_cases q3 : b = 439 ∧ j = 44
            · rw [if_pos q3, q3.1, q3.2, h0]
            · rw [if_neg q3]
