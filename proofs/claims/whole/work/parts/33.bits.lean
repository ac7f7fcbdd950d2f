/-! HOW MANY: Integer.bitCount, and counting one by one. -/
def bc_f1 (b : Nat) : Nat := b - ((b / 2) &&& 85)
def bc_f2 (c : Nat) : Nat := (c &&& 51) + ((c / 4) &&& 51)
def bc_f3 (d : Nat) : Nat := (d + d / 16) &&& 15
def bc_pc (b : Nat) : Nat := b % 2 + b / 2 % 2 + b / 4 % 2 + b / 8 % 2 + b / 16 % 2 + b / 32 % 2 + b / 64 % 2 + b / 128 % 2
theorem bc_t1 : ∀ b, b < 256 → (b / 2) &&& 85 ≤ b ∧ bc_f1 b < 256 ∧ bc_f2 (bc_f1 b) ≤ 68 ∧ bc_f2 (bc_f1 b) % 16 ≤ 4 ∧ bc_f3 (bc_f2 (bc_f1 b)) = bc_pc b ∧ (b / 2 + 128) &&& 85 = (b / 2) &&& 85 := by decide +kernel
theorem bc_t2 : ∀ c, c < 256 → (c / 4 + 64) &&& 51 = (c / 4) &&& 51 ∧ (c / 4 + 128) &&& 51 = (c / 4) &&& 51 ∧ (c / 4 + 192) &&& 51 = (c / 4) &&& 51 ∧ c &&& 51 ≤ 51 ∧ (c / 4) &&& 51 ≤ 51 := by decide +kernel
theorem bc_and (a c x y : Nat) (ha : a < 256) (hc : c < 256) : (a + 256 * x) &&& (c + 256 * y) = (a &&& c) + 256 * (x &&& y) := by
  have h1 : a &&& c < 2 ^ 8 := Nat.and_lt_two_pow a (by omega)
  apply Nat.eq_of_testBit_eq
  intro i
  rw [Nat.testBit_and, Nat.add_comm a, Nat.add_comm c, Nat.add_comm (a &&& c)]
  have e1 : (256 * x + a).testBit i = if i < 8 then a.testBit i else x.testBit (i - 8) := Nat.testBit_two_pow_mul_add (i := 8) x (by omega) i
  have e2 : (256 * y + c).testBit i = if i < 8 then c.testBit i else y.testBit (i - 8) := Nat.testBit_two_pow_mul_add (i := 8) y (by omega) i
  have e3 : (256 * (x &&& y) + (a &&& c)).testBit i = if i < 8 then (a &&& c).testBit i else (x &&& y).testBit (i - 8) := Nat.testBit_two_pow_mul_add (i := 8) (x &&& y) h1 i
  rw [e1, e2, e3]
  by_cases h : i < 8
  · rw [if_pos h, if_pos h, if_pos h, Nat.testBit_and]
  · rw [if_neg h, if_neg h, if_neg h, Nat.testBit_and]
theorem bc_and4 {a0 a1 a2 a3 m n : Nat} (c : Nat) (h0 : a0 < 256) (h1 : a1 < 256) (h2 : a2 < 256) (h3 : a3 < 256) (hc : c < 256) (hn : n = a0 + 256 * (a1 + 256 * (a2 + 256 * a3))) (hm : m = c + 256 * (c + 256 * (c + 256 * c))) : n &&& m = (a0 &&& c) + 256 * ((a1 &&& c) + 256 * ((a2 &&& c) + 256 * (a3 &&& c))) := by
  rw [hn, hm, bc_and _ _ _ _ h0 hc, bc_and _ _ _ _ h1 hc, bc_and _ _ _ _ h2 hc]
theorem bc_m1 (b : Nat) (hb : b < 256) {c : Nat} (hc : c < 2) : (b / 2 + 128 * c) &&& 85 = (b / 2) &&& 85 := by
  have h : c = 0 ∨ c = 1 := by omega
  rcases h with rfl | rfl
  · rfl
  · exact (bc_t1 b hb).2.2.2.2.2
theorem bc_m2 (b : Nat) (hb : b < 256) {c : Nat} (hc : c < 4) : (b / 4 + 64 * c) &&& 51 = (b / 4) &&& 51 := by
  have h : c = 0 ∨ c = 1 ∨ c = 2 ∨ c = 3 := by omega
  have t := bc_t2 b hb
  rcases h with rfl | rfl | rfl | rfl
  · rfl
  · exact t.1
  · exact t.2.1
  · exact t.2.2.1
theorem bc_m3 (x y : Nat) : (x + 16 * y) &&& 15 = x &&& 15 := by
  have e : ∀ z : Nat, z &&& 15 = z % 16 := fun z => Nat.and_two_pow_sub_one_eq_mod z 4
  rw [e, e]
  omega
theorem bc_h16 {d0 d1 d2 d3 : Nat} (h0 : d0 ≤ 68) (h1 : d1 ≤ 68) (h2 : d2 ≤ 68) (h3 : d3 ≤ 68) : (d0 + 256 * (d1 + 256 * (d2 + 256 * d3))) / 16 = (d0 / 16 + 16 * (d1 % 16)) + 256 * ((d1 / 16 + 16 * (d2 % 16)) + 256 * ((d2 / 16 + 16 * (d3 % 16)) + 256 * (d3 / 16))) := by
  have e : d0 + 256 * (d1 + 256 * (d2 + 256 * d3)) = d0 + 16 * (16 * (d1 + 256 * (d2 + 256 * d3))) := by omega
  rw [e, Nat.add_mul_div_left _ _ (by omega)]
  omega
/-- the number of ones, by the bytes -/
theorem bc_nat {n b0 b1 b2 b3 : Nat} (h0 : b0 < 256) (h1 : b1 < 256) (h2 : b2 < 256) (h3 : b3 < 64) (hn : n = b0 + 256 * (b1 + 256 * (b2 + 256 * b3))) :
    ∃ s1 s2 s3 : Nat, s1 = n - ((n / 2) &&& 1431655765) ∧ (n / 2) &&& 1431655765 ≤ n ∧ s2 = (s1 &&& 858993459) + ((s1 / 4) &&& 858993459) ∧ s2 < 2000000000 ∧ s3 = (s2 + s2 / 16) &&& 252645135 ∧ s3 ≤ 252645135 ∧ (s3 + s3 / 256 + (s3 + s3 / 256) / 65536) &&& 63 = bc_pc b0 + bc_pc b1 + bc_pc b2 + bc_pc b3 := by
  obtain ⟨t0, u0, v0, x0, w0, -⟩ := bc_t1 b0 h0
  obtain ⟨t1, u1, v1, x1, w1, -⟩ := bc_t1 b1 h1
  obtain ⟨t2, u2, v2, x2, w2, -⟩ := bc_t1 b2 h2
  obtain ⟨t3, u3, v3, x3, w3, -⟩ := bc_t1 b3 (by omega)
  have a1 : (n / 2) &&& 1431655765 = ((b0 / 2) &&& 85) + 256 * (((b1 / 2) &&& 85) + 256 * (((b2 / 2) &&& 85) + 256 * ((b3 / 2) &&& 85))) := by
    rw [bc_and4 (a0 := b0 / 2 + 128 * (b1 % 2)) (a1 := b1 / 2 + 128 * (b2 % 2)) (a2 := b2 / 2 + 128 * (b3 % 2)) (a3 := b3 / 2) 85 (by omega) (by omega) (by omega) (by omega) (by omega) (by omega) (by decide), bc_m1 b0 h0 (by omega), bc_m1 b1 h1 (by omega), bc_m1 b2 h2 (by omega)]
  have s1e : n - ((n / 2) &&& 1431655765) = bc_f1 b0 + 256 * (bc_f1 b1 + 256 * (bc_f1 b2 + 256 * bc_f1 b3)) := by
    rw [a1]
    unfold bc_f1
    omega
  generalize hs1 : n - ((n / 2) &&& 1431655765) = s1 at s1e
  have a2 : s1 &&& 858993459 = (bc_f1 b0 &&& 51) + 256 * ((bc_f1 b1 &&& 51) + 256 * ((bc_f1 b2 &&& 51) + 256 * (bc_f1 b3 &&& 51))) := bc_and4 51 u0 u1 u2 u3 (by omega) s1e (by decide)
  have a3 : (s1 / 4) &&& 858993459 = ((bc_f1 b0 / 4) &&& 51) + 256 * (((bc_f1 b1 / 4) &&& 51) + 256 * (((bc_f1 b2 / 4) &&& 51) + 256 * ((bc_f1 b3 / 4) &&& 51))) := by
    rw [bc_and4 (a0 := bc_f1 b0 / 4 + 64 * (bc_f1 b1 % 4)) (a1 := bc_f1 b1 / 4 + 64 * (bc_f1 b2 % 4)) (a2 := bc_f1 b2 / 4 + 64 * (bc_f1 b3 % 4)) (a3 := bc_f1 b3 / 4) 51 (by omega) (by omega) (by omega) (by omega) (by omega) (by omega) (by decide), bc_m2 _ u0 (by omega), bc_m2 _ u1 (by omega), bc_m2 _ u2 (by omega)]
  have s2e : (s1 &&& 858993459) + ((s1 / 4) &&& 858993459) = bc_f2 (bc_f1 b0) + 256 * (bc_f2 (bc_f1 b1) + 256 * (bc_f2 (bc_f1 b2) + 256 * bc_f2 (bc_f1 b3))) := by
    rw [a2, a3]
    unfold bc_f2
    omega
  generalize hs2 : (s1 &&& 858993459) + ((s1 / 4) &&& 858993459) = s2 at s2e
  generalize hd0 : bc_f2 (bc_f1 b0) = d0 at v0 x0 w0 s2e
  generalize hd1 : bc_f2 (bc_f1 b1) = d1 at v1 x1 w1 s2e
  generalize hd2 : bc_f2 (bc_f1 b2) = d2 at v2 x2 w2 s2e
  generalize hd3 : bc_f2 (bc_f1 b3) = d3 at v3 x3 w3 s2e
  have h16 : s2 + s2 / 16 = (d0 + d0 / 16 + 16 * (d1 % 16)) + 256 * ((d1 + d1 / 16 + 16 * (d2 % 16)) + 256 * ((d2 + d2 / 16 + 16 * (d3 % 16)) + 256 * (d3 + d3 / 16))) := by
    rw [s2e, bc_h16 v0 v1 v2 v3]
    clear s2e hs2 a3 a2 s1e hs1 a1 hd0 hd1 hd2 hd3 w0 w1 w2 w3 u0 u1 u2 u3 t0 t1 t2 t3 hn
    omega
  have a4 : (s2 + s2 / 16) &&& 252645135 = bc_f3 d0 + 256 * (bc_f3 d1 + 256 * (bc_f3 d2 + 256 * bc_f3 d3)) := by
    rw [bc_and4 (a0 := d0 + d0 / 16 + 16 * (d1 % 16)) (a1 := d1 + d1 / 16 + 16 * (d2 % 16)) (a2 := d2 + d2 / 16 + 16 * (d3 % 16)) (a3 := d3 + d3 / 16) 15 (by omega) (by omega) (by omega) (by omega) (by omega) h16 (by decide), bc_m3, bc_m3, bc_m3]
    rfl
  refine ⟨s1, s2, (s2 + s2 / 16) &&& 252645135, by first | rfl | exact hs1.symm, ?_, by first | rfl | exact hs2.symm, by omega, rfl, ?_, ?_⟩
  · rw [a1]; omega
  · exact Nat.and_le_right
  · have e : ∀ z : Nat, z &&& 63 = z % 64 := fun z => Nat.and_two_pow_sub_one_eq_mod z 6
    rw [e, a4, w0, w1, w2, w3]
    have p : ∀ b, bc_pc b ≤ 8 := fun b => by unfold bc_pc; omega
    have p0 := p b0
    have p1 := p b1
    have p2 := p b2
    have p3 := p b3
    generalize bc_pc b0 = g0 at p0
    generalize bc_pc b1 = g1 at p1
    generalize bc_pc b2 = g2 at p2
    generalize bc_pc b3 = g3 at p3
    clear a4 h16 s2e hs2 a3 a2 s1e hs1 a1 hd0 hd1 hd2 hd3 w0 w1 w2 w3 u0 u1 u2 u3 t0 t1 t2 t3 v0 v1 v2 v3 hn
    have q1 : (g0 + 256 * (g1 + 256 * (g2 + 256 * g3))) / 256 = g1 + 256 * (g2 + 256 * g3) := by omega
    rw [q1]
    have q2 : (g0 + 256 * (g1 + 256 * (g2 + 256 * g3)) + (g1 + 256 * (g2 + 256 * g3))) / 65536 = g2 + g3 + 256 * g3 := by omega
    rw [q2]
    omega
theorem x_and_nat {a b : Nat} (ha : a < 2147483648) (hb : b < 2147483648) : x_and (a : Int) (b : Int) = ((a &&& b : Nat) : Int) := by
  unfold x_and
  have h := nx_and a b
  unfold nI at h
  have e1 : Int32.ofInt (a : Int) = Int32.ofNat a := rfl
  have e2 : Int32.ofInt (b : Int) = Int32.ofNat b := rfl
  rw [e1, e2, h]
  have := Nat.and_le_left (n := a) (m := b)
  exact nI_toInt (n := a &&& b) (by omega)
theorem x_ushr_nat {a k : Nat} (ha : a < 2147483648) (hk : k < 32) : x_ushr (a : Int) (k : Int) = ((a / 2 ^ k : Nat) : Int) := by
  unfold x_ushr
  have hk2 := s_u k hk
  have e1 : Int32.ofInt (a : Int) = nI a := rfl
  have e2 : Int32.ofInt (k : Int) = nI k := rfl
  rw [e1, e2]
  have h3 : ((nI a).toUInt32 >>> ((nI k).toUInt32 &&& Int32.toUInt32 31)).toInt32 = nI (a / 2 ^ k) := by
    apply Int32.toBitVec_inj.mp
    show (nI a).toBitVec >>> (((nI k).toUInt32 &&& Int32.toUInt32 31).toBitVec % 32) = _
    apply BitVec.eq_of_toNat_eq
    rw [BitVec.ushiftRight_eq', BitVec.toNat_ushiftRight, hk2]
    have h1 : (nI a).toBitVec.toNat = a := by
      show (BitVec.ofNat 32 a).toNat = a
      rw [BitVec.toNat_ofNat]; omega
    have hle : a / 2 ^ k ≤ a := Nat.div_le_self _ _
    have h2 : (nI (a / 2 ^ k)).toBitVec.toNat = a / 2 ^ k := by
      show (BitVec.ofNat 32 (a / 2 ^ k)).toNat = _
      rw [BitVec.toNat_ofNat]
      exact Nat.mod_eq_of_lt (Nat.lt_of_le_of_lt hle (by omega))
    rw [h1, h2, Nat.shiftRight_eq_div_pow]
  have hle : a / 2 ^ k ≤ a := Nat.div_le_self _ _
  rw [h3, nI_toInt (Nat.lt_of_le_of_lt hle ha)]
/-- how many of the first n are in v -/
def cnt (v : Int) : Nat → Int
  | 0 => 0
  | n + 1 => cnt v n + b2 (tb v (n : Int) = true)
theorem cnt_rng (v : Int) : ∀ n, 0 ≤ cnt v n ∧ cnt v n ≤ n
  | 0 => ⟨Int.le_refl _, Int.le_refl _⟩
  | n + 1 => by
    have h := cnt_rng v n
    unfold cnt
    have : 0 ≤ b2 (tb v (n : Int) = true) ∧ b2 (tb v (n : Int) = true) ≤ 1 := by
      unfold b2
      split <;> omega
    omega
theorem tb_nat {n x : Nat} (hn : n < 2147483648) (hx : x < 32) : tb (n : Int) (x : Int) = n.testBit x := by
  unfold tb bt
  show (BitVec.ofNat 32 n).getLsbD x = _
  rw [BitVec.getLsbD_ofNat, decide_eq_true hx, Bool.true_and]
theorem b2_bit {n x : Nat} (hn : n < 2147483648) (hx : x < 32) : b2 (tb (n : Int) (x : Int) = true) = ((n / 2 ^ x % 2 : Nat) : Int) := by
  rw [tb_nat hn hx, Nat.testBit_eq_decide_div_mod_eq]
  unfold b2
  by_cases h : n / 2 ^ x % 2 = 1
  · rw [if_pos (by rw [decide_eq_true h]), h]; rfl
  · rw [if_neg (by rw [decide_eq_false h]; simp)]
    omega
theorem mk.rng {v : Int} {S : Int → Prop} (h : mk v S) : 0 ≤ v ∧ v < 1073741824 := by
  have hr := x32_rng h.1
  have hf : ∀ x, 30 ≤ x → x < 32 → bt (Int32.ofInt v) x = false := fun x h1 h2 => by
    cases q : bt (Int32.ofInt v) x with
    | false => rfl
    | true =>
      have : tb v (x : Int) = true := by unfold tb; rw [Int.toNat_natCast]; exact q
      have := (h.2 (x : Int) (by omega) (by omega)).mp this
      omega
  have hlt : (Int32.ofInt v).toBitVec.toNat < 2 ^ 30 := by
    apply Nat.lt_pow_two_of_testBit
    intro i hi
    by_cases h2 : i < 32
    · exact hf i hi h2
    · exact BitVec.getLsbD_of_ge _ _ (by omega)
  have e : (Int32.ofInt v).toInt = ((Int32.ofInt v).toBitVec.toNat : Int) := by
    show (Int32.ofInt v).toBitVec.toInt = _
    exact BitVec.toInt_eq_toNat_of_lt (by omega)
  rw [em_o32 hr.1 hr.2] at e
  omega
theorem f_bitCount {v : Int} {S : Int → Prop} (h : mk v S) (M : em_M) : f_Integer_bitCount v M = some (cnt v 30, M) := by
  obtain ⟨r0, r1⟩ := h.rng
  obtain ⟨n, rfl⟩ : ∃ n : Nat, v = (n : Int) := ⟨v.toNat, by omega⟩
  have hn : n < 1073741824 := by omega
  obtain ⟨s1, s2, s3, e1, l1, e2, l2, e3, l3, e4⟩ := bc_nat (n := n) (b0 := n % 256) (b1 := n / 256 % 256) (b2 := n / 65536 % 256) (b3 := n / 16777216) (by omega) (by omega) (by omega) (by omega) (by omega)
  have u1 : x_ushr (n : Int) 1 = ((n / 2 : Nat) : Int) := x_ushr_nat (k := 1) (by omega) (by omega)
  have k1 : x32 ((n : Int) - x_and (x_ushr (n : Int) 1) 1431655765) = (s1 : Int) := by
    rw [u1, show (1431655765 : Int) = ((1431655765 : Nat) : Int) from rfl, x_and_nat (by omega) (by omega), x32_id (by omega) (by omega)]
    omega
  have u2 : x_ushr (s1 : Int) 2 = ((s1 / 4 : Nat) : Int) := x_ushr_nat (k := 2) (by omega) (by omega)
  have q2 : s1 &&& 858993459 ≤ 858993459 := Nat.and_le_right
  have q3 : (s1 / 4) &&& 858993459 ≤ 858993459 := Nat.and_le_right
  have k2 : x32 (x_and (s1 : Int) 858993459 + x_and (x_ushr (s1 : Int) 2) 858993459) = (s2 : Int) := by
    rw [u2, show (858993459 : Int) = ((858993459 : Nat) : Int) from rfl, x_and_nat (by omega) (by omega), x_and_nat (by omega) (by omega), x32_id (by omega) (by omega)]
    omega
  have u3 : x_ushr (s2 : Int) 4 = ((s2 / 16 : Nat) : Int) := x_ushr_nat (k := 4) (by omega) (by omega)
  have k3 : x_and (x32 ((s2 : Int) + x_ushr (s2 : Int) 4)) 252645135 = (s3 : Int) := by
    rw [u3, x32_id (by omega) (by omega), show ((s2 : Int) + ((s2 / 16 : Nat) : Int)) = ((s2 + s2 / 16 : Nat) : Int) by omega, show (252645135 : Int) = ((252645135 : Nat) : Int) from rfl, x_and_nat (by omega) (by omega), ← e3]
  have u4 : x_ushr (s3 : Int) 8 = ((s3 / 256 : Nat) : Int) := x_ushr_nat (k := 8) (by omega) (by omega)
  have k4 : x32 ((s3 : Int) + x_ushr (s3 : Int) 8) = ((s3 + s3 / 256 : Nat) : Int) := by
    rw [u4, x32_id (by omega) (by omega)]
    omega
  have u5 : x_ushr ((s3 + s3 / 256 : Nat) : Int) 16 = (((s3 + s3 / 256) / 65536 : Nat) : Int) := x_ushr_nat (k := 16) (by omega) (by omega)
  have k5 : x_and (x32 (((s3 + s3 / 256 : Nat) : Int) + x_ushr ((s3 + s3 / 256 : Nat) : Int) 16)) 63 = ((bc_pc (n % 256) + bc_pc (n / 256 % 256) + bc_pc (n / 65536 % 256) + bc_pc (n / 16777216) : Nat) : Int) := by
    rw [u5, x32_id (by omega) (by omega), show (((s3 + s3 / 256 : Nat) : Int) + (((s3 + s3 / 256) / 65536 : Nat) : Int)) = ((s3 + s3 / 256 + (s3 + s3 / 256) / 65536 : Nat) : Int) by omega, show (63 : Int) = ((63 : Nat) : Int) from rfl, x_and_nat (by omega) (by omega), e4]
  have kc : cnt (n : Int) 30 = ((bc_pc (n % 256) + bc_pc (n / 256 % 256) + bc_pc (n / 65536 % 256) + bc_pc (n / 16777216) : Nat) : Int) := by
    have hb : ∀ x : Nat, x < 32 → b2 (tb (n : Int) (x : Int) = true) = ((n / 2 ^ x % 2 : Nat) : Int) := fun x hx => b2_bit (by omega) hx
    simp only [cnt]
    rw [hb 0 (by omega), hb 1 (by omega), hb 2 (by omega), hb 3 (by omega), hb 4 (by omega), hb 5 (by omega), hb 6 (by omega), hb 7 (by omega), hb 8 (by omega), hb 9 (by omega), hb 10 (by omega), hb 11 (by omega), hb 12 (by omega), hb 13 (by omega), hb 14 (by omega), hb 15 (by omega), hb 16 (by omega), hb 17 (by omega), hb 18 (by omega), hb 19 (by omega), hb 20 (by omega), hb 21 (by omega), hb 22 (by omega), hb 23 (by omega), hb 24 (by omega), hb 25 (by omega), hb 26 (by omega), hb 27 (by omega), hb 28 (by omega), hb 29 (by omega)]
    have hp : ∀ m : Nat, bc_pc (m % 256) = m % 2 + m / 2 % 2 + m / 4 % 2 + m / 8 % 2 + m / 16 % 2 + m / 32 % 2 + m / 64 % 2 + m / 128 % 2 := fun m => by
      unfold bc_pc
      rw [show m % 256 % 2 = m % 2 by omega, show m % 256 / 2 % 2 = m / 2 % 2 by omega, show m % 256 / 4 % 2 = m / 4 % 2 by omega, show m % 256 / 8 % 2 = m / 8 % 2 by omega, show m % 256 / 16 % 2 = m / 16 % 2 by omega, show m % 256 / 32 % 2 = m / 32 % 2 by omega, show m % 256 / 64 % 2 = m / 64 % 2 by omega, show m % 256 / 128 % 2 = m / 128 % 2 by omega]
    have h3 : n / 16777216 = n / 16777216 % 256 := by omega
    have hp3 := hp (n / 16777216)
    rw [← h3] at hp3
    rw [hp n, hp (n / 256), hp (n / 65536), hp3]
    have z1 : n / 16777216 / 64 % 2 = 0 := by omega
    have z2 : n / 16777216 / 128 % 2 = 0 := by omega
    rw [z1, z2]
    simp only [Nat.div_div_eq_div_mul, Nat.reduceMul, Nat.reducePow, Nat.div_one]
    generalize n % 2 = y0
    generalize n / 2 % 2 = y1
    generalize n / 4 % 2 = y2
    generalize n / 8 % 2 = y3
    generalize n / 16 % 2 = y4
    generalize n / 32 % 2 = y5
    generalize n / 64 % 2 = y6
    generalize n / 128 % 2 = y7
    generalize n / 256 % 2 = y8
    generalize n / 512 % 2 = y9
    generalize n / 1024 % 2 = y10
    generalize n / 2048 % 2 = y11
    generalize n / 4096 % 2 = y12
    generalize n / 8192 % 2 = y13
    generalize n / 16384 % 2 = y14
    generalize n / 32768 % 2 = y15
    generalize n / 65536 % 2 = y16
    generalize n / 131072 % 2 = y17
    generalize n / 262144 % 2 = y18
    generalize n / 524288 % 2 = y19
    generalize n / 1048576 % 2 = y20
    generalize n / 2097152 % 2 = y21
    generalize n / 4194304 % 2 = y22
    generalize n / 8388608 % 2 = y23
    generalize n / 16777216 % 2 = y24
    generalize n / 33554432 % 2 = y25
    generalize n / 67108864 % 2 = y26
    generalize n / 134217728 % 2 = y27
    generalize n / 268435456 % 2 = y28
    generalize n / 536870912 % 2 = y29
    clear hb hp hp3 h3 z1 z2 k1 k2 k3 k4 k5 u1 u2 u3 u4 u5 e1 e2 e3 e4 l1 l2 l3 q2 q3
    omega
  rw [q_Integer_bitCount]
  congr 2
  rw [k1, k2, k3, k4, k5, kc]
