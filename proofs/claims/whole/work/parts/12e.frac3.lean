/-! FRACTIONS: crosswise products are in lowest terms. -/
theorem fr_cross {a b c d : Nat} (hb : 0 < b) (hd : 0 < d) (h1 : Nat.Coprime a b) (h2 : Nat.Coprime c d) : ∃ p q r s : Nat, p = a / Nat.gcd a d ∧ q = c / Nat.gcd c b ∧ r = b / Nat.gcd c b ∧ s = d / Nat.gcd a d ∧ 0 < r ∧ 0 < s ∧ Nat.Coprime (p * q) (r * s) ∧ a * c = Nat.gcd a d * Nat.gcd c b * (p * q) ∧ b * d = Nat.gcd a d * Nat.gcd c b * (r * s) ∧ 0 < Nat.gcd a d * Nat.gcd c b := by
  have hg : 0 < Nat.gcd a d := Nat.gcd_pos_of_pos_right a hd
  have hh : 0 < Nat.gcd c b := Nat.gcd_pos_of_pos_right c hb
  refine ⟨_, _, _, _, rfl, rfl, rfl, rfl, ?_, ?_, ?_, ?_, ?_, Nat.mul_pos hg hh⟩
  · exact Nat.div_pos (Nat.le_of_dvd hb (Nat.gcd_dvd_right c b)) hh
  · exact Nat.div_pos (Nat.le_of_dvd hd (Nat.gcd_dvd_right a d)) hg
  · have ps : Nat.Coprime (a / Nat.gcd a d) (d / Nat.gcd a d) := Nat.coprime_div_gcd_div_gcd hg
    have qr : Nat.Coprime (c / Nat.gcd c b) (b / Nat.gcd c b) := Nat.coprime_div_gcd_div_gcd hh
    have pr : Nat.Coprime (a / Nat.gcd a d) (b / Nat.gcd c b) := (h1.coprime_div_left (Nat.gcd_dvd_left a d)).coprime_div_right (Nat.gcd_dvd_right c b)
    have qs : Nat.Coprime (c / Nat.gcd c b) (d / Nat.gcd a d) := (h2.coprime_div_left (Nat.gcd_dvd_left c b)).coprime_div_right (Nat.gcd_dvd_right a d)
    exact Nat.Coprime.mul_left (Nat.Coprime.mul_right pr ps) (Nat.Coprime.mul_right qr qs)
  · have e1 := Nat.mul_div_cancel' (Nat.gcd_dvd_left a d)
    have e2 := Nat.mul_div_cancel' (Nat.gcd_dvd_left c b)
    calc a * c = (Nat.gcd a d * (a / Nat.gcd a d)) * (Nat.gcd c b * (c / Nat.gcd c b)) := by rw [e1, e2]
      _ = Nat.gcd a d * Nat.gcd c b * ((a / Nat.gcd a d) * (c / Nat.gcd c b)) := Nat.mul_mul_mul_comm _ _ _ _
  · have e1 := Nat.mul_div_cancel' (Nat.gcd_dvd_right a d)
    have e2 := Nat.mul_div_cancel' (Nat.gcd_dvd_right c b)
    calc b * d = (Nat.gcd c b * (b / Nat.gcd c b)) * (Nat.gcd a d * (d / Nat.gcd a d)) := by rw [e1, e2]
      _ = Nat.gcd c b * Nat.gcd a d * ((b / Nat.gcd c b) * (d / Nat.gcd a d)) := Nat.mul_mul_mul_comm _ _ _ _
      _ = Nat.gcd a d * Nat.gcd c b * ((b / Nat.gcd c b) * (d / Nat.gcd a d)) := by rw [Nat.mul_comm (Nat.gcd c b)]
/-- a fraction of whole numbers, its common part told -/
theorem fr_of_nat {a b k u l : Nat} (hk : 0 < k) (hl : 0 < l) (ha : a = k * u) (hb : b = k * l) (hc : Nat.Coprime u l) : fr_of (a : Int) (b : Int) = if 1000000000000 < (u : Int) ∨ 1000000 < (l : Int) then -1 else (u : Int) * 1048576 + (l : Int) := by
  have hb0 : 0 < b := by rw [hb]; exact Nat.mul_pos hk hl
  have hg : Nat.gcd a b = k := by rw [ha, hb, Nat.gcd_mul_left, hc.gcd_eq_one, Nat.mul_one]
  unfold fr_of
  rw [if_neg (by omega), if_neg (by omega)]
  have e : ((Int.gcd (a : Int) (b : Int) : Nat) : Int) = (k : Int) := by
    show ((Nat.gcd a b : Nat) : Int) = k
    rw [hg]
  have e1 : (a : Int) / (k : Int) = (u : Int) := by
    rw [ha]
    have : ((k * u : Nat) : Int) = (k : Int) * (u : Int) := by simp
    rw [this, Int.mul_ediv_cancel_left _ (by omega)]
  have e2 : (b : Int) / (k : Int) = (l : Int) := by
    rw [hb]
    have : ((k * l : Nat) : Int) = (k : Int) * (l : Int) := by simp
    rw [this, Int.mul_ediv_cancel_left _ (by omega)]
  rw [e, e1, e2]
theorem fr_of_range (a b : Int) : fr_v (fr_of a b) := by
  unfold fr_of
  split
  · exact Or.inl rfl
  · split
    · exact Or.inl rfl
    · split
      · exact Or.inl rfl
      · rename_i h1 h2 h3
        refine Or.inr ?_
        have hg0 : 0 < Int.gcd a b := Int.gcd_pos_of_ne_zero_right a (by omega)
        have hg1 : (Int.gcd a b : Int) ≤ b := Int.gcd_le_right a (by omega)
        have hu0 : 0 ≤ a / (Int.gcd a b : Int) := Int.ediv_nonneg (by omega) (by omega)
        have hl1 : 1 ≤ b / (Int.gcd a b : Int) := (Int.le_ediv_iff_mul_le (by omega)).mpr (by omega)
        have hc : Int.gcd (a / (Int.gcd a b : Int)) (b / (Int.gcd a b : Int)) = 1 := Int.gcd_ediv_gcd_ediv_gcd hg0
        generalize a / (Int.gcd a b : Int) = u at *
        generalize b / (Int.gcd a b : Int) = l at *
        refine ⟨by omega, ?_, ?_, ?_, ?_⟩
        · rw [fr_up_pack (by omega) (by omega)]; omega
        · rw [fr_low_pack (by omega) (by omega)]; omega
        · rw [fr_low_pack (by omega) (by omega)]; omega
        · rw [fr_up_pack (by omega) (by omega), fr_low_pack (by omega) (by omega)]; exact hc
