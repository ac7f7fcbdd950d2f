/-! FRACTIONS: the product, of the class and of the reference. -/
def fr_times (x y : Int) : Int := if x < 0 ∨ y < 0 then -1 else fr_of (fr_up x * fr_up y) (fr_low x * fr_low y)
theorem fr_ok_nat {x : Int} (h : fr_ok x) : ∃ a b : Nat, fr_up x = (a : Int) ∧ fr_low x = (b : Int) ∧ a ≤ 1000000000000 ∧ 0 < b ∧ b ≤ 1000000 ∧ Nat.Coprime a b := by
  obtain ⟨h1, h2, h3, h4, h5⟩ := id h
  have h0 := fr_up_nn h
  refine ⟨(fr_up x).toNat, (fr_low x).toNat, by omega, by omega, by omega, by omega, by omega, ?_⟩
  have e1 : ((fr_up x).toNat : Int) = fr_up x := by omega
  have e2 : ((fr_low x).toNat : Int) = fr_low x := by omega
  rw [← e1, ← e2] at h5
  exact h5
theorem em_div_le {q p G : Nat} (hp : 0 < p) : (q ≤ G / p) ↔ p * q ≤ G := by
  rw [Nat.le_div_iff_mul_le hp, Nat.mul_comm]
theorem f_times_eq {x y : Int} (M : em_M) (hx : fr_v x) (hy : fr_v y) : f_Ratio_times x y M = some (fr_times x y, M) := by
  rw [q_Ratio_times, f_isSpent]
  simp only [Option.bind_some, em_cd, f_isSpent]
  unfold fr_times
  by_cases h1 : x < 0
  · rw [if_pos h1, if_pos (Or.inl h1)]; rfl
  · by_cases h2 : y < 0
    · rw [if_neg h1, if_pos h2, if_pos (Or.inr h2)]; rfl
    · rw [if_neg h1, if_neg h2, if_neg (by omega : ¬ (x < 0 ∨ y < 0))]
      have ox : fr_ok x := hx.resolve_left (by omega)
      have oy : fr_ok y := hy.resolve_left (by omega)
      obtain ⟨a, b, ea, eb, a1, b1, b2, c1⟩ := fr_ok_nat ox
      obtain ⟨c, d, ec, ed, a3, b3, b4, c2⟩ := fr_ok_nat oy
      have G1 : f_Ratio_commonDivisor (fr_up x) (fr_low y) M = some (((Nat.gcd a d : Nat) : Int), M) := by
        rw [ea, ed]
        exact f_gcd M (by omega) (by omega) (by omega) (by omega)
      have G2 : f_Ratio_commonDivisor (fr_up y) (fr_low x) M = some (((Nat.gcd c b : Nat) : Int), M) := by
        rw [ec, eb]
        exact f_gcd M (by omega) (by omega) (by omega) (by omega)
      simp only [f_upper M (fr_ok_lt ox), f_upper M (fr_ok_lt oy), f_lower M (fr_ok_lt ox), f_lower M (fr_ok_lt oy), G1, G2, Option.bind_some, x_cmp_le, x_cmp_gt, not_true_eq_false, if_true, if_false]
      rw [ea, eb, ec, ed]
      obtain ⟨p, q, r, s, hp, hq, hr, hs, r0, s0, hco, e1, e2, hk⟩ := fr_cross b1 b3 c1 c2
      have k1 : 0 < Nat.gcd a d := Nat.gcd_pos_of_pos_right a b3
      have k2 : 0 < Nat.gcd c b := Nat.gcd_pos_of_pos_right c b1
      have k3 : Nat.gcd a d ≤ d := Nat.gcd_le_right a b3
      have k4 : Nat.gcd c b ≤ b := Nat.gcd_le_right c b1
      have dp : x_ldiv (a : Int) ((Nat.gcd a d : Nat) : Int) = (p : Int) := by
        rw [x_ldiv_pos (by omega) (by omega) (by omega) (by omega), hp, Int.natCast_ediv]
      have dq : x_ldiv (c : Int) ((Nat.gcd c b : Nat) : Int) = (q : Int) := by
        rw [x_ldiv_pos (by omega) (by omega) (by omega) (by omega), hq, Int.natCast_ediv]
      have dr : x_ldiv (b : Int) ((Nat.gcd c b : Nat) : Int) = (r : Int) := by
        rw [x_ldiv_pos (by omega) (by omega) (by omega) (by omega), hr, Int.natCast_ediv]
      have ds : x_ldiv (d : Int) ((Nat.gcd a d : Nat) : Int) = (s : Int) := by
        rw [x_ldiv_pos (by omega) (by omega) (by omega) (by omega), hs, Int.natCast_ediv]
      rw [dp, dq, dr, ds]
      have pa : p ≤ a := by rw [hp]; exact Nat.div_le_self _ _
      have qc : q ≤ c := by rw [hq]; exact Nat.div_le_self _ _
      have rb : r ≤ b := by rw [hr]; exact Nat.div_le_self _ _
      have sd : s ≤ d := by rw [hs]; exact Nat.div_le_self _ _
      have rs2 : r * s ≤ 1000000 * 1000000 := Nat.mul_le_mul (by omega) (by omega)
      have rs1 : 0 < r * s := Nat.mul_pos r0 s0
      have tgt : fr_of ((a : Int) * (c : Int)) ((b : Int) * (d : Int)) = if 1000000000000 < ((p * q : Nat) : Int) ∨ 1000000 < ((r * s : Nat) : Int) then -1 else ((p * q : Nat) : Int) * 1048576 + ((r * s : Nat) : Int) := by
        have := fr_of_nat (a := a * c) (b := b * d) hk rs1 e1 e2 hco
        rw [← this]
        simp
      have own : fr_of ((p : Int) * (q : Int)) ((r : Int) * (s : Int)) = if 1000000000000 < ((p * q : Nat) : Int) ∨ 1000000 < ((r * s : Nat) : Int) then -1 else ((p * q : Nat) : Int) * 1048576 + ((r * s : Nat) : Int) := by
        have := fr_of_nat (a := p * q) (b := r * s) (k := 1) (by omega) rs1 (by simp) (by simp) hco
        rw [← this]
        simp
      have cpq : ((p * q : Nat) : Int) = (p : Int) * (q : Int) := by simp
      have crs : ((r * s : Nat) : Int) = (r : Int) * (s : Int) := by simp
      rw [if_neg (by omega), if_pos (by omega), if_pos (by omega), if_pos (by omega), tgt]
      have fin : p * q ≤ 1000000000000 → (f_Ratio_of (x64 ((p : Int) * (q : Int))) (x64 ((r : Int) * (s : Int))) M) = some (if 1000000000000 < ((p * q : Nat) : Int) ∨ 1000000 < ((r * s : Nat) : Int) then -1 else ((p * q : Nat) : Int) * 1048576 + ((r * s : Nat) : Int), M) := by
        intro h
        rw [x64_id (by omega) (by omega), x64_id (by omega) (by omega), f_of_eq M (by omega) (by omega) (by omega), own]
      by_cases p0 : p = 0
      · rw [if_pos (by omega), if_pos (by omega), if_pos (by omega), fin (by rw [p0]; simp)]
        rfl
      · rw [if_neg (by omega), if_pos (by omega), x_ldiv_pos (by omega) (by omega) (by omega) (by omega)]
        have cd2 : (1000000000000 : Int) / (p : Int) = ((1000000000000 / p : Nat) : Int) := (Int.natCast_ediv 1000000000000 p).symm
        rw [cd2]
        by_cases h5 : q ≤ 1000000000000 / p
        · have h6 := (em_div_le (by omega : 0 < p)).mp h5
          rw [if_pos (by omega), if_pos (by omega), if_pos (by omega), fin h6]
          rfl
        · have h6 : ¬ p * q ≤ 1000000000000 := fun z => h5 ((em_div_le (by omega : 0 < p)).mpr z)
          rw [if_neg (by omega), if_pos (Or.inl (by omega))]
