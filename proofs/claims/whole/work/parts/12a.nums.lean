/-! NUMBERS: what the machine's operations are on numbers of their range. -/
theorem em_cd {α : Type} {q : Prop} [Decidable q] {a b : α} : (bif decide q then a else b) = if q then a else b := by
  by_cases h : q <;> simp [h]
theorem x_cmp_lt (a b : Int) : (x_cmp a b < 0) = (a < b) := by
  apply propext
  unfold x_cmp
  split
  · omega
  · split <;> omega
theorem x_cmp_ge (a b : Int) : (0 ≤ x_cmp a b) = (b ≤ a) := by
  apply propext
  unfold x_cmp
  split
  · omega
  · split <;> omega
theorem x_cmp_gt (a b : Int) : (0 < x_cmp a b) = (b < a) := by
  apply propext
  unfold x_cmp
  split
  · omega
  · split <;> omega
theorem x_cmp_le (a b : Int) : (x_cmp a b ≤ 0) = (a ≤ b) := by
  apply propext
  unfold x_cmp
  split
  · omega
  · split <;> omega
theorem x_cmp_eq (a b : Int) : (x_cmp a b = 0) = (a = b) := by
  apply propext
  unfold x_cmp
  split
  · omega
  · split <;> omega
theorem x32_id {x : Int} (h1 : -2147483648 ≤ x) (h2 : x < 2147483648) : x32 x = x := by
  unfold x32 Int.bmod
  dsimp only
  split <;> omega
theorem x64_id {x : Int} (h1 : -9223372036854775808 ≤ x) (h2 : x < 9223372036854775808) : x64 x = x := by
  unfold x64 Int.bmod
  dsimp only
  split <;> omega
theorem em_o64 {x : Int} (h1 : -9223372036854775808 ≤ x) (h2 : x < 9223372036854775808) : (Int64.ofInt x).toInt = x := by
  rw [Int64.toInt_ofInt]
  exact x64_id h1 h2
theorem em_o32 {x : Int} (h1 : -2147483648 ≤ x) (h2 : x < 2147483648) : (Int32.ofInt x).toInt = x := by
  rw [Int32.toInt_ofInt]
  exact x32_id h1 h2
theorem x_ldiv_pos {a b : Int} (ha : 0 ≤ a) (ha2 : a < 9223372036854775808) (hb : 0 < b) (hb2 : b < 9223372036854775808) : x_ldiv a b = a / b := by
  unfold x_ldiv
  rw [Int64.toInt_div, em_o64 (by omega) ha2, em_o64 (by omega) hb2, Int.tdiv_eq_ediv_of_nonneg ha]
  have h1 : 0 ≤ a / b := Int.ediv_nonneg ha (by omega)
  have h2 : a / b ≤ a := Int.ediv_le_self b ha
  exact x64_id (by omega) (by omega)
theorem x_lrem_pos {a b : Int} (ha : 0 ≤ a) (ha2 : a < 9223372036854775808) (hb : 0 < b) (hb2 : b < 9223372036854775808) : x_lrem a b = a % b := by
  unfold x_lrem
  have hq := x_ldiv_pos ha ha2 hb hb2
  unfold x_ldiv at hq
  have h1 : 0 ≤ a / b := Int.ediv_nonneg ha (by omega)
  have h2 : a / b * b ≤ a := Int.ediv_mul_le a (by omega)
  have h3 : 0 ≤ a / b * b := Int.mul_nonneg h1 (by omega)
  have h4 : a % b = a - a / b * b := by rw [Int.emod_def, Int.mul_comm]
  rw [Int64.toInt_sub, Int64.toInt_mul, hq, em_o64 (by omega) ha2, em_o64 (by omega) hb2]
  show x64 (a - x64 (a / b * b)) = a % b
  rw [show x64 (a / b * b) = a / b * b from x64_id (by omega) (by omega), x64_id (by omega) (by omega), h4]
theorem em_gcd_mod {a b : Int} (ha : 0 ≤ a) (hb : 0 ≤ b) : Int.gcd a b = Int.gcd b (a % b) := by
  obtain ⟨m, rfl⟩ : ∃ m : Nat, a = (m : Int) := ⟨a.toNat, by omega⟩
  obtain ⟨n, rfl⟩ : ∃ n : Nat, b = (n : Int) := ⟨b.toNat, by omega⟩
  have e : (m : Int) % (n : Int) = ((m % n : Nat) : Int) := by omega
  rw [e]
  show Nat.gcd m n = Nat.gcd n (m % n)
  rw [Nat.gcd_comm, Nat.gcd_rec, Nat.gcd_comm]
/-- Euclid's way: enough turns for a number below 2^k -/
theorem em_gcd (M : em_M) : ∀ (k : Nat) (a b t : Int), k ≤ 63 → 0 ≤ a → a < 9223372036854775808 → 0 ≤ b → b < 2 ^ k → 0 ≤ t → t + 2 * k ≤ 128 → f_Ratio_commonDivisor_3 a b t M = some ((Int.gcd a b : Int), M) := by
  intro k
  induction k with
  | zero =>
    intro a b t hk ha ha2 hb hb2 ht htk
    have hb0 : b = 0 := by
      have : (2 : Int) ^ 0 = 1 := rfl
      omega
    subst hb0
    rw [q_Ratio_commonDivisor_3]
    simp only [em_cd, x_cmp_eq, if_true]
    rw [Int.gcd_zero_right]
    have : ((a.natAbs : Nat) : Int) = a := by omega
    rw [this]
    split <;> rfl
  | succ k ih =>
    intro a b t hk ha ha2 hb hb2 ht htk
    have hpk : (2 : Int) ^ (k + 1) = 2 * 2 ^ k := by rw [Int.pow_succ]; omega
    have hk63 : (2 : Int) ^ (k + 1) ≤ 9223372036854775808 := by
      have h := Nat.pow_le_pow_right (n := 2) (by omega) hk
      have h2 : ((2 ^ (k + 1) : Nat) : Int) ≤ ((2 ^ 63 : Nat) : Int) := by exact_mod_cast h
      have e1 : ((2 ^ (k + 1) : Nat) : Int) = (2 : Int) ^ (k + 1) := by rw [Int.natCast_pow]; rfl
      have e2 : ((2 ^ 63 : Nat) : Int) = 9223372036854775808 := by decide
      omega
    rw [q_Ratio_commonDivisor_3]
    simp only [em_cd, x_cmp_eq]
    rw [if_neg (by omega)]
    by_cases hb0 : b = 0
    · rw [if_pos hb0, hb0, Int.gcd_zero_right]
      have : ((a.natAbs : Nat) : Int) = a := by omega
      rw [this]
    · rw [if_neg hb0, if_pos hb0, x_lrem_pos ha ha2 (by omega) (by omega), x32_id (by omega) (by omega)]
      have hr0 : 0 ≤ a % b := Int.emod_nonneg _ hb0
      have hr1 : a % b < b := Int.emod_lt_of_pos _ (by omega)
      have hg1 : Int.gcd a b = Int.gcd b (a % b) := em_gcd_mod ha hb
      rw [q_Ratio_commonDivisor_3]
      simp only [em_cd, x_cmp_eq]
      rw [if_neg (by omega)]
      by_cases hc0 : a % b = 0
      · rw [if_pos hc0, hg1, hc0, Int.gcd_zero_right]
        have : ((b.natAbs : Nat) : Int) = b := by omega
        rw [this]
      · rw [if_neg hc0, if_pos hc0, x_lrem_pos hb (by omega) (by omega) (by omega), x32_id (by omega) (by omega)]
        have hs0 : 0 ≤ b % (a % b) := Int.emod_nonneg _ hc0
        have hs1 : b % (a % b) < a % b := Int.emod_lt_of_pos _ (by omega)
        have hs2 : b % (a % b) ≤ b - a % b := by
          have h1 : b % (a % b) = b - (a % b) * (b / (a % b)) := Int.emod_def _ _
          have h2 : 1 ≤ b / (a % b) := (Int.le_ediv_iff_mul_le (by omega)).mpr (by omega)
          have h3 : (a % b) * 1 ≤ (a % b) * (b / (a % b)) := Int.mul_le_mul_of_nonneg_left h2 hr0
          omega
        have hg2 : Int.gcd b (a % b) = Int.gcd (a % b) (b % (a % b)) := em_gcd_mod hb hr0
        rw [hg1, hg2]
        exact ih _ _ _ (by omega) hr0 (by omega) hs0 (by omega) (by omega) (by omega)
