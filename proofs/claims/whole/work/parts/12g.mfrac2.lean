/-! FRACTIONS of the reference: its operations. -/
theorem md_set_44 (M : em_M) (v s u l : Int) : md_set (xup M 439 44 v) s u l = md_set M s u l := by
  unfold md_set
  rw [xup_twice]
theorem fr_of_01 : fr_of 0 1 = 1 := by decide +kernel
theorem m_low01 (M : em_M) (hs : M 439 44 = 0 ∨ M 439 44 = 1) : f_Model_lowest 0 1 M = some (0, md_fr M 1) := by
  rw [m_lowest M hs (by omega) (by omega) (by omega) (by omega), fr_of_01]
theorem m_low01s (M : em_M) (hs : M 439 44 = 1) : f_Model_lowest 0 1 M = some (0, md_set M 1 0 1) := by
  rw [m_low01 M (Or.inr hs)]
  unfold md_fr
  rw [if_neg (by omega)]
theorem fr_ok_nn {x : Int} (h : fr_ok x) : ¬ x < 0 := by have := h.1; omega
theorem m_plus {x y : Int} (M : em_M) (hs : M 439 44 = 0 ∨ M 439 44 = 1) (ox : fr_ok x) (oy : fr_ok y) : f_Model_plus (fr_up x) (fr_low x) (fr_up y) (fr_low y) M = some (0, md_fr M (fr_plus x y)) := by
  obtain ⟨x0, x2, x3, x4, -⟩ := id ox
  obtain ⟨y0, y2, y3, y4, -⟩ := id oy
  have x1 := fr_up_nn ox
  have y1 := fr_up_nn oy
  have m1 := em_mul_le x1 x2 (by omega : (0 : Int) ≤ fr_low y) y4
  have m2 := em_mul_le y1 y2 (by omega : (0 : Int) ≤ fr_low x) x4
  have m3 := em_mul_le (by omega : (0 : Int) ≤ fr_low x) x4 (by omega : (0 : Int) ≤ fr_low y) y4
  have m4 : 0 < fr_low x * fr_low y := Int.mul_pos (by omega) (by omega)
  rw [q_Model_plus, x64_id (x := fr_up x * fr_low y) (by omega) (by omega), x64_id (x := fr_up y * fr_low x) (by omega) (by omega), x64_id (x := fr_low x * fr_low y) (by omega) (by omega), x64_id (by omega) (by omega), m_lowest M hs (by omega) (by omega) m4 (by omega)]
  unfold fr_plus
  rw [if_neg (by omega)]
  rfl
theorem m_minus {x y : Int} (M : em_M) (hs : M 439 44 = 0 ∨ M 439 44 = 1) (ox : fr_ok x) (oy : fr_ok y) (hle : fr_up y * fr_low x ≤ fr_up x * fr_low y) : f_Model_minus (fr_up x) (fr_low x) (fr_up y) (fr_low y) M = some (0, md_fr M (fr_minus x y)) := by
  obtain ⟨x0, x2, x3, x4, -⟩ := id ox
  obtain ⟨y0, y2, y3, y4, -⟩ := id oy
  have x1 := fr_up_nn ox
  have y1 := fr_up_nn oy
  have m1 := em_mul_le x1 x2 (by omega : (0 : Int) ≤ fr_low y) y4
  have m2 := em_mul_le y1 y2 (by omega : (0 : Int) ≤ fr_low x) x4
  have m3 := em_mul_le (by omega : (0 : Int) ≤ fr_low x) x4 (by omega : (0 : Int) ≤ fr_low y) y4
  have m4 : 0 < fr_low x * fr_low y := Int.mul_pos (by omega) (by omega)
  rw [q_Model_minus, x64_id (x := fr_up x * fr_low y) (by omega) (by omega), x64_id (x := fr_up y * fr_low x) (by omega) (by omega), x64_id (x := fr_low x * fr_low y) (by omega) (by omega), x64_id (by omega) (by omega), m_lowest M hs (by omega) (by omega) m4 (by omega)]
  unfold fr_minus
  rw [if_neg (by omega)]
  rfl
/-- what times and over have in common -/
def md_x (p q r s : Nat) : Int := if 1000000000000 < ((p * q : Nat) : Int) ∨ 1000000 < ((r * s : Nat) : Int) then -1 else ((p * q : Nat) : Int) * 1048576 + ((r * s : Nat) : Int)
def md_ok (p q r s : Nat) (F : em_M → Option (Int × em_M)) : Prop := (∀ M, M 439 44 = 0 → p * q ≤ 1000000000000 → r * s ≤ 1000000 → F M = some (0, md_set M 0 ((p * q : Nat) : Int) ((r * s : Nat) : Int))) ∧ ∀ M, M 439 44 = 1 → F M = some (0, md_set M 1 0 1)
theorem md_x_ok {p q r s : Nat} (h1 : p * q ≤ 1000000000000) (h2 : r * s ≤ 1000000) : md_x p q r s = ((p * q : Nat) : Int) * 1048576 + ((r * s : Nat) : Int) := if_neg (by omega)
theorem md_x_no {p q r s : Nat} (h : ¬ (p * q ≤ 1000000000000 ∧ r * s ≤ 1000000)) : md_x p q r s = -1 := if_pos (by omega)
theorem md_good {p q r s : Nat} {F : em_M → Option (Int × em_M)} (M : em_M) (hs : M 439 44 = 0 ∨ M 439 44 = 1) (hF : md_ok p q r s F) (h1 : p * q ≤ 1000000000000) (h2 : r * s ≤ 1000000) : F M = some (0, md_fr M (md_x p q r s)) := by
  rw [md_x_ok h1 h2]
  unfold md_fr
  rcases hs with h | h
  · rw [if_pos ⟨h, by omega⟩, fr_up_pack (by omega) (by omega), fr_low_pack (by omega) (by omega)]
    exact hF.1 M h h1 h2
  · rw [if_neg (fun z => by omega)]
    exact hF.2 M h
theorem md_bad {p q r s : Nat} {F : em_M → Option (Int × em_M)} (M : em_M) (hF : md_ok p q r s F) (h : ¬ (p * q ≤ 1000000000000 ∧ r * s ≤ 1000000)) : F (xup M 439 44 1) = some (0, md_fr M (md_x p q r s)) := by
  rw [md_x_no h]
  unfold md_fr
  rw [if_neg (fun z => by omega), hF.2 (xup M 439 44 1) (by simp [xup_get]), md_set_44]
theorem md_F {p q r s : Nat} (r0 : 0 < r) (s0 : 0 < s) (hco : Nat.Coprime (p * q) (r * s)) {F : em_M → Option (Int × em_M)} (hF : ∀ M, F M = bif decide (M 439 44 = 0) then (f_Model_lowest (x64 ((p : Int) * (q : Int))) (x64 ((r : Int) * (s : Int))) M).bind fun r0 => some (0, r0.2) else (f_Model_lowest 0 1 M).bind fun r0 => some (0, r0.2)) : md_ok p q r s F := by
  constructor
  · intro M h0 h1 h2
    have cpq : ((p * q : Nat) : Int) = (p : Int) * (q : Int) := by simp
    have crs : ((r * s : Nat) : Int) = (r : Int) * (s : Int) := by simp
    have rs1 : 0 < r * s := Nat.mul_pos r0 s0
    rw [hF, em_cd, if_pos h0, ← cpq, ← crs, x64_id (by omega) (by omega), x64_id (by omega) (by omega), m_lowest M (Or.inl h0) (by omega) (by omega) (by omega) (by omega)]
    have own := fr_of_nat (a := p * q) (b := r * s) (k := 1) (by omega) rs1 (by simp) (by simp) hco
    rw [if_neg (by omega)] at own
    rw [own]
    unfold md_fr
    rw [if_pos ⟨h0, by omega⟩, fr_up_pack (by omega) (by omega), fr_low_pack (by omega) (by omega)]
    rfl
  · intro M h
    rw [hF, em_cd, if_neg (by omega), m_low01s M h]
    rfl
theorem em_div_lt {q p G : Nat} (hp : 0 < p) : (G / p < q) ↔ ¬ p * q ≤ G := by
  rw [← em_div_le hp]
  omega
theorem m_times {x y : Int} (M : em_M) (hs : M 439 44 = 0 ∨ M 439 44 = 1) (ox : fr_ok x) (oy : fr_ok y) : f_Model_times (fr_up x) (fr_low x) (fr_up y) (fr_low y) M = some (0, md_fr M (fr_times x y)) := by
  obtain ⟨a, b, ea, eb, a1, b1, b2, c1⟩ := fr_ok_nat ox
  obtain ⟨c, d, ec, ed, a3, b3, b4, c2⟩ := fr_ok_nat oy
  obtain ⟨p, q, r, s, hp, hq, hr, hs', r0, s0, hco, e1, e2, hk⟩ := fr_cross b1 b3 c1 c2
  have k1 : 0 < Nat.gcd a d := Nat.gcd_pos_of_pos_right a b3
  have k2 : 0 < Nat.gcd c b := Nat.gcd_pos_of_pos_right c b1
  have k3 : Nat.gcd a d ≤ d := Nat.gcd_le_right a b3
  have k4 : Nat.gcd c b ≤ b := Nat.gcd_le_right c b1
  have g1 : ((Int.gcd (a : Int) (d : Int) : Nat) : Int) = ((Nat.gcd a d : Nat) : Int) := rfl
  have g2 : ((Int.gcd (c : Int) (b : Int) : Nat) : Int) = ((Nat.gcd c b : Nat) : Int) := rfl
  have dp : x_ldiv (a : Int) ((Nat.gcd a d : Nat) : Int) = (p : Int) := by
    rw [x_ldiv_pos (by omega) (by omega) (by omega) (by omega), hp, Int.natCast_ediv]
  have dq : x_ldiv (c : Int) ((Nat.gcd c b : Nat) : Int) = (q : Int) := by
    rw [x_ldiv_pos (by omega) (by omega) (by omega) (by omega), hq, Int.natCast_ediv]
  have dr : x_ldiv (b : Int) ((Nat.gcd c b : Nat) : Int) = (r : Int) := by
    rw [x_ldiv_pos (by omega) (by omega) (by omega) (by omega), hr, Int.natCast_ediv]
  have ds : x_ldiv (d : Int) ((Nat.gcd a d : Nat) : Int) = (s : Int) := by
    rw [x_ldiv_pos (by omega) (by omega) (by omega) (by omega), hs', Int.natCast_ediv]
  have pa : p ≤ a := by rw [hp]; exact Nat.div_le_self _ _
  have qc : q ≤ c := by rw [hq]; exact Nat.div_le_self _ _
  have rb : r ≤ b := by rw [hr]; exact Nat.div_le_self _ _
  have sd : s ≤ d := by rw [hs']; exact Nat.div_le_self _ _
  have rs1 : 0 < r * s := Nat.mul_pos r0 s0
  have tgt : fr_times x y = md_x p q r s := by
    have := fr_of_nat (a := a * c) (b := b * d) hk rs1 e1 e2 hco
    unfold fr_times
    rw [if_neg (by have := fr_ok_nn ox; have := fr_ok_nn oy; omega), ea, eb, ec, ed]
    unfold md_x
    rw [← this]
    simp
  have hF : md_ok p q r s (f_Model_times_78 (p : Int) (q : Int) (r : Int) (s : Int)) := md_F r0 s0 hco (fun M => q_Model_times_78 _ _ _ _ M)
  rw [q_Model_times, ea, eb, ec, ed, m_common M (by omega) (by omega) (by omega) (by omega)]
  simp only [Option.bind_some]
  rw [m_common M (by omega) (by omega) (by omega) (by omega)]
  simp only [Option.bind_some, em_cd, g1, g2, dp, dq, dr, ds, x_cmp_eq, x_cmp_gt, x_cmp_le]
  rw [if_pos (by omega), if_pos (by omega), if_pos (by omega), if_pos (by omega), tgt]
  have cs : (1000000 : Int) / (s : Int) = ((1000000 / s : Nat) : Int) := (Int.natCast_ediv 1000000 s).symm
  rw [x_ldiv_pos (by omega) (by omega) (b := (s : Int)) (by omega) (by omega), cs]
  by_cases q0 : q = 0
  · rw [if_pos (by omega), if_pos (by omega)]
    have pq0 : p * q = 0 := by rw [q0]; rfl
    by_cases h5 : r ≤ 1000000 / s
    · rw [if_pos (by omega)]
      have h6 := (em_div_le s0).mp h5
      rw [Nat.mul_comm] at h6
      exact md_good M hs hF (by omega) h6
    · rw [if_neg (by omega)]
      have h6 := fun z => h5 ((em_div_le s0).mpr z)
      rw [Nat.mul_comm] at h6
      exact md_bad M hF (fun z => h6 z.2)
  · rw [if_neg (by omega), if_pos (by omega), x_ldiv_pos (by omega) (by omega) (by omega) (by omega)]
    have cd2 : (1000000000000 : Int) / (q : Int) = ((1000000000000 / q : Nat) : Int) := (Int.natCast_ediv 1000000000000 q).symm
    rw [cd2]
    by_cases h7 : p ≤ 1000000000000 / q
    · have h8 := (em_div_le (by omega : 0 < q)).mp h7
      rw [Nat.mul_comm] at h8
      rw [if_neg (by omega), if_pos (by omega)]
      by_cases h5 : r ≤ 1000000 / s
      · rw [if_pos (by omega)]
        have h6 := (em_div_le s0).mp h5
        rw [Nat.mul_comm] at h6
        exact md_good M hs hF h8 h6
      · rw [if_neg (by omega)]
        have h6 := fun z => h5 ((em_div_le s0).mpr z)
        rw [Nat.mul_comm] at h6
        exact md_bad M hF (fun z => h6 z.2)
    · have h8 := fun z => h7 ((em_div_le (by omega : 0 < q)).mpr z)
      rw [Nat.mul_comm] at h8
      rw [if_pos (by omega)]
      exact md_bad M hF (fun z => h8 z.1)
theorem m_over {x y : Int} (M : em_M) (hs : M 439 44 = 0 ∨ M 439 44 = 1) (ox : fr_ok x) (oy : fr_ok y) (hy : 0 < fr_up y) : f_Model_over (fr_up x) (fr_low x) (fr_up y) (fr_low y) M = some (0, md_fr M (fr_over x y)) := by
  obtain ⟨a, b, ea, eb, a1, b1, b2, c1⟩ := fr_ok_nat ox
  obtain ⟨c, d, ec, ed, a3, b3, b4, c2⟩ := fr_ok_nat oy
  have hc0 : 0 < c := by omega
  obtain ⟨p, q, r, s, hp, hq, hr, hs', r0, s0, hco, e1, e2, hk⟩ := fr_cross b1 hc0 c1 c2.symm
  have k1 : 0 < Nat.gcd a c := Nat.gcd_pos_of_pos_right a hc0
  have k2 : 0 < Nat.gcd d b := Nat.gcd_pos_of_pos_right d b1
  have k3 : Nat.gcd a c ≤ c := Nat.gcd_le_right a hc0
  have k4 : Nat.gcd d b ≤ b := Nat.gcd_le_right d b1
  have g1 : ((Int.gcd (a : Int) (c : Int) : Nat) : Int) = ((Nat.gcd a c : Nat) : Int) := rfl
  have g2 : ((Int.gcd (d : Int) (b : Int) : Nat) : Int) = ((Nat.gcd d b : Nat) : Int) := rfl
  have dp : x_ldiv (a : Int) ((Nat.gcd a c : Nat) : Int) = (p : Int) := by
    rw [x_ldiv_pos (by omega) (by omega) (by omega) (by omega), hp, Int.natCast_ediv]
  have dq : x_ldiv (d : Int) ((Nat.gcd d b : Nat) : Int) = (q : Int) := by
    rw [x_ldiv_pos (by omega) (by omega) (by omega) (by omega), hq, Int.natCast_ediv]
  have dr : x_ldiv (b : Int) ((Nat.gcd d b : Nat) : Int) = (r : Int) := by
    rw [x_ldiv_pos (by omega) (by omega) (by omega) (by omega), hr, Int.natCast_ediv]
  have ds : x_ldiv (c : Int) ((Nat.gcd a c : Nat) : Int) = (s : Int) := by
    rw [x_ldiv_pos (by omega) (by omega) (by omega) (by omega), hs', Int.natCast_ediv]
  have pa : p ≤ a := by rw [hp]; exact Nat.div_le_self _ _
  have qc : q ≤ d := by rw [hq]; exact Nat.div_le_self _ _
  have rb : r ≤ b := by rw [hr]; exact Nat.div_le_self _ _
  have sd : s ≤ c := by rw [hs']; exact Nat.div_le_self _ _
  have rs1 : 0 < r * s := Nat.mul_pos r0 s0
  have q1 : 0 < q := by rw [hq]; exact Nat.div_pos (Nat.gcd_le_left b b3) k2
  have tgt : fr_over x y = md_x p q r s := by
    have := fr_of_nat (a := a * d) (b := b * c) hk rs1 e1 e2 hco
    unfold fr_over
    rw [if_neg (by have := fr_ok_nn ox; have := fr_ok_nn oy; omega), ea, eb, ec, ed]
    unfold md_x
    rw [← this]
    simp
  have hF : md_ok p q r s (f_Model_over_99 (p : Int) (q : Int) (r : Int) (s : Int)) := md_F r0 s0 hco (fun M => q_Model_over_99 _ _ _ _ M)
  rw [q_Model_over, ea, eb, ec, ed]
  simp only [em_cd, x_cmp_eq]
  rcases hs with hs | hs
  case inr =>
    rw [if_pos (by omega), m_low01s M hs]
    unfold md_fr
    rw [if_neg (by omega)]
    rfl
  have hs : M 439 44 = 0 ∨ M 439 44 = 1 := Or.inl hs
  rw [if_neg (by omega), if_pos (by omega), m_common M (by omega) (by omega) (by omega) (by omega)]
  simp only [Option.bind_some]
  rw [m_common M (by omega) (by omega) (by omega) (by omega)]
  simp only [Option.bind_some, em_cd, g1, g2, dp, dq, dr, ds, x_cmp_eq, x_cmp_gt, x_cmp_le]
  rw [if_pos (by omega), if_pos (by omega), if_pos (by omega), if_pos (by omega), tgt]
  have cs : (1000000 : Int) / (s : Int) = ((1000000 / s : Nat) : Int) := (Int.natCast_ediv 1000000 s).symm
  rw [x_ldiv_pos (by omega) (by omega) (b := (s : Int)) (by omega) (by omega), cs]
  by_cases p0 : p = 0
  · rw [if_pos (by omega), if_pos (by omega)]
    have pq0 : p * q = 0 := by rw [p0, Nat.zero_mul]
    by_cases h5 : r ≤ 1000000 / s
    · rw [if_pos (by omega)]
      have h6 := (em_div_le s0).mp h5
      rw [Nat.mul_comm] at h6
      exact md_good M hs hF (by omega) h6
    · rw [if_neg (by omega)]
      have h6 := fun z => h5 ((em_div_le s0).mpr z)
      rw [Nat.mul_comm] at h6
      exact md_bad M hF (fun z => h6 z.2)
  · rw [if_neg (by omega), if_pos (by omega), x_ldiv_pos (by omega) (by omega) (by omega) (by omega)]
    have cd2 : (1000000000000 : Int) / (q : Int) = ((1000000000000 / q : Nat) : Int) := (Int.natCast_ediv 1000000000000 q).symm
    rw [cd2]
    by_cases h7 : p ≤ 1000000000000 / q
    · have h8 := (em_div_le (by omega : 0 < q)).mp h7
      rw [Nat.mul_comm] at h8
      rw [if_neg (by omega), if_pos (by omega)]
      by_cases h5 : r ≤ 1000000 / s
      · rw [if_pos (by omega)]
        have h6 := (em_div_le s0).mp h5
        rw [Nat.mul_comm] at h6
        exact md_good M hs hF h8 h6
      · rw [if_neg (by omega)]
        have h6 := fun z => h5 ((em_div_le s0).mpr z)
        rw [Nat.mul_comm] at h6
        exact md_bad M hF (fun z => h6 z.2)
    · have h8 := fun z => h7 ((em_div_le (by omega : 0 < q)).mpr z)
      rw [Nat.mul_comm] at h8
      rw [if_pos (by omega)]
      exact md_bad M hF (fun z => h8 z.1)
theorem m_isAbove {x y : Int} (M : em_M) (ox : fr_ok x) (oy : fr_ok y) : f_Model_isAbove (fr_up x) (fr_low x) (fr_up y) (fr_low y) M = some (if fr_up y * fr_low x < fr_up x * fr_low y then 1 else 0, M) := by
  obtain ⟨x0, x2, x3, x4, -⟩ := id ox
  obtain ⟨y0, y2, y3, y4, -⟩ := id oy
  have x1 := fr_up_nn ox
  have y1 := fr_up_nn oy
  have m1 := em_mul_le x1 x2 (by omega : (0 : Int) ≤ fr_low y) y4
  have m2 := em_mul_le y1 y2 (by omega : (0 : Int) ≤ fr_low x) x4
  rw [q_Model_isAbove, x64_id (by omega) (by omega), x64_id (by omega) (by omega)]
  simp only [em_cd, x_cmp_le]
  by_cases h : fr_up y * fr_low x < fr_up x * fr_low y
  · rw [if_neg (by omega), if_pos h]
  · rw [if_pos (by omega), if_neg h]
