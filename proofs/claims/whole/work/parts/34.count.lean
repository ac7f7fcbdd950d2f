/-! count of the two; loops that count. -/
def sumI (g : Int → Int) : Nat → Int
  | 0 => 0
  | n + 1 => sumI g n + g (n : Int)
theorem sumI_cong {g h : Int → Int} : ∀ {n : Nat}, (∀ x : Int, 0 ≤ x → x < n → g x = h x) → sumI g n = sumI h n
  | 0, _ => rfl
  | n + 1, e => by
    unfold sumI
    rw [sumI_cong (fun x h0 h1 => e x h0 (by omega)), e n (by omega) (by omega)]
theorem sumI_rng {g : Int → Int} (hg : ∀ x, 0 ≤ g x ∧ g x ≤ 1) : ∀ n : Nat, 0 ≤ sumI g n ∧ sumI g n ≤ n
  | 0 => ⟨Int.le_refl _, Int.le_refl _⟩
  | n + 1 => by
    have h := sumI_rng hg n
    have h2 := hg n
    unfold sumI
    omega
theorem b2_rng (c : Prop) [Decidable c] : 0 ≤ b2 c ∧ b2 c ≤ 1 := by
  unfold b2
  split <;> omega
theorem cnt_sum (v : Int) : ∀ n : Nat, cnt v n = sumI (fun x => b2 (tb v x = true)) n
  | 0 => rfl
  | n + 1 => by
    unfold cnt sumI
    rw [cnt_sum v n]
theorem sumI_more {g : Int → Int} {n : Nat} : ∀ {m : Nat}, n ≤ m → (∀ x : Int, (n : Int) ≤ x → x < m → g x = 0) → sumI g m = sumI g n
  | 0, h, _ => by
    have : n = 0 := by omega
    rw [this]
  | m + 1, h, e => by
    by_cases q : n = m + 1
    · rw [q]
    · show sumI g m + g (m : Int) = _
      rw [sumI_more (by omega) (fun x h0 h1 => e x h0 (by omega)), e m (by omega) (by omega), Int.add_zero]
/-- a set of those below n, counted -/
theorem cnt_n {v : Int} {S : Int → Prop} (h : mk v S) {n : Int} (h0 : 0 ≤ n) (h1 : n ≤ 30) (hS : ∀ x, S x → x < n) : cnt v 30 = sumI (fun x => b2 (tb v x = true)) n.toNat := by
  rw [cnt_sum]
  refine sumI_more (by omega) (fun x x0 x1 => b2_f (fun z => ?_))
  have := hS x ((h.at_ (x := x) (by omega) (by omega)).mp z)
  omega
theorem sum_loop {F : Int → Int → em_M → Option (Int × em_M)} {g : Int → Int} {n : Int} {M : em_M} (hg : ∀ x, 0 ≤ g x ∧ g x ≤ 1) (h0 : 0 ≤ n) (hn : n ≤ 30) (hF : ∀ s i, 0 ≤ s → s ≤ 100 → 0 ≤ i → i ≤ 30 → F s i M = if n ≤ i then some (s, M) else F (s + g i) (i + 1) M) : F 0 0 M = some (sumI g n.toNat, M) := by
  have key : ∀ k : Nat, k ≤ n.toNat → F (sumI g (n.toNat - k)) (((n.toNat - k : Nat)) : Int) M = some (sumI g n.toNat, M) := by
    intro k
    induction k with
    | zero =>
      intro _
      have hr := sumI_rng hg n.toNat
      rw [Nat.sub_zero, hF _ _ hr.1 (by omega) (by omega) (by omega), if_pos (by omega)]
    | succ k ih =>
      intro hk
      have hr := sumI_rng hg (n.toNat - (k + 1))
      rw [hF _ _ hr.1 (by omega) (by omega) (by omega), if_neg (by omega)]
      have e : n.toNat - k = n.toNat - (k + 1) + 1 := by omega
      have h2 := ih (by omega)
      rw [e] at h2
      have e2 : sumI g (n.toNat - (k + 1)) + g ((n.toNat - (k + 1) : Nat) : Int) = sumI g (n.toNat - (k + 1) + 1) := rfl
      have e3 : (((n.toNat - (k + 1) : Nat)) : Int) + 1 = ((n.toNat - (k + 1) + 1 : Nat) : Int) := by omega
      rw [e2, e3]
      exact h2
  have := key n.toNat (Nat.le_refl _)
  rw [Nat.sub_self] at this
  exact this
section
variable {M : em_M}
theorem f_deadCount (h0 : 0 ≤ M 6 0) (hn : M 6 0 ≤ 30) : f_Register_deadCount M = some (sumI (fun x => b2 (¬ M 11 x = -1)) (M 6 0).toNat, M) := by
  rw [q_Register_deadCount]
  refine sum_loop (fun x => b2_rng _) h0 hn (fun s i s0 s1 i0 i1 => ?_)
  rw [q_Register_deadCount_4]
  simp only [em_cd]
  by_cases q : M 6 0 ≤ i
  · rw [if_pos q, if_pos q]
  · rw [if_neg q, if_neg q, if_neg (by omega), if_pos (by omega)]
    by_cases r : M 11 i = -1
    · rw [if_neg (by omega), b2_f (fun z => z r), x32_s (by omega) (by omega), x32_s (by omega) (by omega)]
    · rw [if_pos (by omega), b2_t r, x32_s (by omega) (by omega), x32_s (by omega) (by omega)]
theorem m_count6 (h0 : 0 ≤ M 439 47) (hn : M 439 47 ≤ 30) : f_Model_count1_102 0 0 M = some (sumI (fun x => b2 (¬ M 473 x = 0)) (M 439 47).toNat, M) := by
  refine sum_loop (fun x => b2_rng _) h0 hn (fun s i s0 s1 i0 i1 => ?_)
  rw [q_Model_count1_102]
  simp only [em_cd]
  by_cases q : M 439 47 ≤ i
  · rw [if_pos q, if_pos q]
  · rw [if_neg q, if_neg q, if_pos (by omega)]
    by_cases r : M 473 i = 0
    · rw [if_pos r, b2_f (fun z => z r), x32_s (by omega) (by omega), x32_s (by omega) (by omega)]
    · rw [if_neg r, b2_t r, x32_s (by omega) (by omega), x32_s (by omega) (by omega)]
theorem m_count7 (h0 : 0 ≤ M 439 47) (hn : M 439 47 ≤ 30) : f_Model_count1_137 0 0 M = some (sumI (fun x => b2 (¬ M 506 x = 0)) (M 439 47).toNat, M) := by
  refine sum_loop (fun x => b2_rng _) h0 hn (fun s i s0 s1 i0 i1 => ?_)
  rw [q_Model_count1_137]
  simp only [em_cd]
  by_cases q : M 439 47 ≤ i
  · rw [if_pos q, if_pos q]
  · rw [if_neg q, if_neg q, if_pos (by omega)]
    by_cases r : M 506 i = 0
    · rw [if_pos r, b2_f (fun z => z r), x32_s (by omega) (by omega), x32_s (by omega) (by omega)]
    · rw [if_neg r, b2_t r, x32_s (by omega) (by omega), x32_s (by omega) (by omega)]
theorem m_count {v n : Int} (h0 : 0 ≤ n) (hn : n ≤ 30) : f_Model_count v n M = some (sumI (fun x => b2 (tb v x = true)) n.toNat, M) := by
  rw [q_Model_count]
  refine sum_loop (F := fun s i M => f_Model_count_4 v n s i M) (fun x => b2_rng _) h0 hn (fun s i s0 s1 i0 i1 => ?_)
  show f_Model_count_4 v n s i M = _
  rw [q_Model_count_4]
  simp only [em_cd]
  by_cases q : n ≤ i
  · rw [if_pos q, if_pos q]
  · have := b2_rng (tb v i = true)
    rw [if_neg q, if_neg q, x_bit i0 (by omega), x32_s (by omega) (by omega), x32_s (by omega) (by omega)]
theorem isO_law {w : Int} (h : w = 53 ∨ w = 366) : em_isO w 4 = true := by
  rcases h with rfl | rfl <;> decide +kernel
theorem arm_count (h : Rel M) (w : Int) : Arm (f_EstateOffice_count w) (f_Model_count1 w) M := by
  obtain ⟨hT, hP, hD, hM, hO, hL, hW, hK, hH, hS, hN, hF⟩ := id h
  obtain ⟨p1, p2, p3, p4⟩ := id hP
  have hl := isO_law hW.1
  have c6 : cnt (M 6 1) 30 = sumI (fun x => b2 (¬ M 473 x = 0)) (M 439 47).toNat := by
    rw [cnt_n hD.1 p2 p3 (fun x hx => hx.1), p1]
    refine sumI_cong (fun x x0 x1 => b2_cong ?_)
    have := (hD.2 x x0 (by omega)).1.2.1.1
    rw [this, b2_z, nn]
  have c7 : sumI (fun x => b2 (¬ M 11 x = -1)) (M 6 0).toNat = sumI (fun x => b2 (¬ M 506 x = 0)) (M 439 47).toNat := by
    rw [p1]
    refine sumI_cong (fun x x0 x1 => b2_cong ?_)
    have := (hD.2 x x0 (by omega)).1.2.2
    rw [this, b2_z, nn]
  have key : ∃ v, f_EstateOffice_count w M = some (v, M) ∧ f_Model_count1 w M = some (v, M) := by
    rw [q_EstateOffice_count, q_Model_count1, hl, f_bitCount hD.1, f_deadCount p2 p3, m_count6 (by omega) (by omega), m_count7 (by omega) (by omega), ← c6, ← c7]
    simp only [em_cd, cond_true, Option.bind_some]
    by_cases hw : 0 ≤ w ∧ w ≤ 10
    · have hw : w = 0 ∨ w = 1 ∨ w = 2 ∨ w = 3 ∨ w = 4 ∨ w = 5 ∨ w = 6 ∨ w = 7 ∨ w = 8 ∨ w = 9 ∨ w = 10 := by omega
      have h17 := hW.2.2.1
      rcases hw with rfl | rfl | rfl | rfl | rfl | rfl | rfl | rfl | rfl | rfl | rfl
      · exact ⟨M 6 0, rfl, congrArg (fun z => some (z, M)) p1⟩
      · exact ⟨M 6 2, rfl, congrArg (fun z => some (z, M)) hM.1⟩
      · exact ⟨M 17 0, rfl, congrArg (fun z => some (z, M)) hO.1⟩
      · exact ⟨M 21 0, rfl, congrArg (fun z => some (z, M)) hL.1⟩
      · refine ⟨M (M 0 11) 0, rfl, ?_⟩
        show (if 0 ≤ M 439 17 ∧ M 439 17 < 2 then some (M 447 (M 439 17), M) else none) = _
        rw [if_pos (by omega), hW.2.2.2.1.1]
      · refine ⟨M (M 0 11) 4, rfl, ?_⟩
        show (if 0 ≤ M 439 17 ∧ M 439 17 < 2 then some (M 454 (M 439 17), M) else none) = _
        rw [if_pos (by omega), hW.2.2.2.2.1.1]
      · exact ⟨cnt (M 6 1) 30, rfl, rfl⟩
      · exact ⟨_, rfl, rfl⟩
      · exact ⟨M 136 0, rfl, congrArg (fun z => some (z, M)) hH.1.1⟩
      · exact ⟨M 136 1, rfl, congrArg (fun z => some (z, M)) hH.2.1.1⟩
      · exact ⟨M 1 1, rfl, congrArg (fun z => some (z, M)) hT.1⟩
    · refine ⟨-1, ?_, ?_⟩
      · simp (disch := omega) only [if_neg]
      · simp (disch := omega) only [if_neg]
  obtain ⟨v, k1, k2⟩ := key
  exact ⟨v, M, M, k1, Scr.rf M, k2, Scr.rf M, h⟩
end
