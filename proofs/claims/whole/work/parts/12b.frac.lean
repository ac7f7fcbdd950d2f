/-! FRACTIONS of the class: packed in one number, -1 is SPENT. -/
/-- the fraction a / b in lowest terms, packed; -1 -/
def fr_of (a b : Int) : Int := if a < 0 then -1 else if b ≤ 0 then -1 else if 1000000000000 < a / (Int.gcd a b : Int) ∨ 1000000 < b / (Int.gcd a b : Int) then -1 else a / (Int.gcd a b : Int) * 1048576 + b / (Int.gcd a b : Int)
def fr_up (x : Int) : Int := x / 1048576
def fr_low (x : Int) : Int := x % 1048576
/-- a packed fraction that isn't SPENT -/
def fr_ok (x : Int) : Prop := 0 ≤ x ∧ fr_up x ≤ 1000000000000 ∧ 1 ≤ fr_low x ∧ fr_low x ≤ 1000000 ∧ Int.gcd (fr_up x) (fr_low x) = 1
theorem x_lshr_20 {x : Int} (h : 0 ≤ x) (h2 : x < 4611686018427387904) : x_lshr x 20 = x / 1048576 := by
  obtain ⟨n, rfl⟩ : ∃ n : Nat, x = (n : Int) := ⟨x.toNat, by omega⟩
  unfold x_lshr
  have e : Int64.ofInt (n : Int) = lN n := rfl
  rw [e, pf_shr (d := 20) (D := (Int32.ofInt 20).toInt64 &&& 63) (by decide +kernel) (by omega)]
  rw [pk_lT (by omega)]
  omega
theorem x_land_20 {x : Int} (h : 0 ≤ x) (h2 : x < 4611686018427387904) : x_land x 1048575 = x % 1048576 := by
  obtain ⟨n, rfl⟩ : ∃ n : Nat, x = (n : Int) := ⟨x.toNat, by omega⟩
  unfold x_land
  have e : Int64.ofInt (n : Int) = lN n := rfl
  have e2 : Int64.ofInt 1048575 = lN (2 ^ 20 - 1) := rfl
  rw [e, e2, fb_maskL, pk_lT (by omega)]
  omega
theorem x_pack {u l : Int} (h : 0 ≤ u) (h2 : u ≤ 1000000000000) (h3 : 0 ≤ l) (h4 : l < 1048576) : x_lor (x_lshl u 20) l = u * 1048576 + l := by
  obtain ⟨n, rfl⟩ : ∃ n : Nat, u = (n : Int) := ⟨u.toNat, by omega⟩
  obtain ⟨k, rfl⟩ : ∃ k : Nat, l = (k : Int) := ⟨l.toNat, by omega⟩
  unfold x_lor x_lshl
  have e : Int64.ofInt (n : Int) = lN n := rfl
  have e2 : Int64.ofInt (k : Int) = lN k := rfl
  have e3 : lN n <<< ((Int32.ofInt 20).toInt64 &&& 63) = lN (n * 2 ^ 20) := wb_shl n (k := 20) (by omega)
  rw [e, e2, e3, pk_lT (by omega)]
  have e4 : Int64.ofInt ((n * 2 ^ 20 : Nat) : Int) = lN (2 ^ 20 * n) := by rw [Nat.mul_comm]; rfl
  rw [e4, fb_or_sumL n (by omega), pk_lT (by omega)]
  omega
theorem f_gcd {a b : Int} (M : em_M) (ha : 0 ≤ a) (ha2 : a < 9223372036854775808) (hb : 0 ≤ b) (hb2 : b < 9223372036854775808) : f_Ratio_commonDivisor a b M = some ((Int.gcd a b : Int), M) := by
  rw [q_Ratio_commonDivisor]
  exact em_gcd M 63 a b 0 (by omega) ha ha2 hb (by have : (2 : Int) ^ 63 = 9223372036854775808 := by decide
                                                   omega) (by omega) (by omega)
theorem f_of_eq {a b : Int} (M : em_M) (ha : -9223372036854775808 ≤ a) (ha2 : a < 9223372036854775808) (hb2 : b < 9223372036854775808) : f_Ratio_of a b M = some (fr_of a b, M) := by
  rw [q_Ratio_of]
  simp only [em_cd, x_cmp_lt, x_cmp_gt, x_cmp_le]
  unfold fr_of
  by_cases h1 : a < 0
  · rw [if_pos h1, if_pos h1]
  · rw [if_neg h1, if_neg h1]
    by_cases h2 : b ≤ 0
    · rw [if_neg (by omega), if_pos h2]
    · rw [if_pos (by omega), if_neg h2, f_gcd M (by omega) ha2 (by omega) hb2]
      simp only [Option.bind_some]
      have hg0 : 0 < Int.gcd a b := Int.gcd_pos_of_ne_zero_right a (by omega)
      have hg1 : (Int.gcd a b : Int) ≤ b := Int.gcd_le_right a (by omega)
      rw [if_pos (by omega), if_pos (by omega), if_pos (by omega), x_ldiv_pos (by omega) ha2 (by omega) (by omega), x_ldiv_pos (by omega) hb2 (by omega) (by omega)]
      have hl0 : 0 ≤ b / (Int.gcd a b : Int) := Int.ediv_nonneg (by omega) (by omega)
      have hu0 : 0 ≤ a / (Int.gcd a b : Int) := Int.ediv_nonneg (by omega) (by omega)
      by_cases h3 : 1000000000000 < a / (Int.gcd a b : Int)
      · rw [if_pos h3, if_pos (Or.inl h3)]
      · rw [if_neg h3]
        by_cases h4 : 1000000 < b / (Int.gcd a b : Int)
        · rw [if_neg (by omega), if_pos (Or.inr h4)]
        · rw [if_pos (by omega), if_neg (by omega), x_pack hu0 (by omega) hl0 (by omega)]
