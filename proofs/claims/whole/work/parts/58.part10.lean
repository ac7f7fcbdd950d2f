/-! PARTING: the kin that a rule lists. -/
section
variable {M N : em_M}
def lsR (M N : em_M) (w r q sz K n : Int) : Prop := (M (w + 10) r = sz ∧ N 463 q = sz ∧ 1 ≤ sz ∧ sz ≤ 8) ∧ (∀ i, 0 ≤ i → i < sz → (N 464 (8 * q + i) = M (w + 12 + r) i ∧ 0 ≤ M (w + 12 + r) i ∧ M (w + 12 + r) i < K) ∧ (N 465 (8 * q + i) = M (w + 43 + r) i ∧ 0 ≤ M (w + 43 + r) i ∧ M (w + 43 + r) i ≤ 999)) ∧ (∀ k, 0 ≤ k → k < K → M 128 k = N 491 k ∧ mk (N 491 k) (fun x => x < n ∧ tb (N 491 k) x = true))
theorem lsR.fr {M' N' : em_M} {w r q sz K n : Int} (h : lsR M N w r q sz K n) (hw : w = 53 ∨ w = 366) (r0 : 0 ≤ r) (r1 : r < 30) (hC : qC M M') (hM : qM N N') : lsR M' N' w r q sz K n := by
  obtain ⟨⟨a1, a2, a3⟩, b, c⟩ := h
  unfold qC at hC
  unfold qM at hM
  refine ⟨⟨by rw [hC _ _ (by omega)]; exact a1, by rw [hM _ _ (by omega)]; exact a2, a3⟩, fun i i0 i1 => ?_, fun k k0 k1 => ?_⟩
  · rw [hM 464 _ (by omega), hM 465 _ (by omega), hC (w + 12 + r) _ (by omega), hC (w + 43 + r) _ (by omega)]
    exact b i i0 i1
  · rw [hC 128 _ (by omega), hM 491 _ (by omega)]
    exact c k k0 k1
theorem f_named {w r q sz K n : Int} (h : lsR M N w r q sz K n) (hw : w = 53 ∨ w = 366) (K1 : K ≤ 20) (r0 : 0 ≤ r) (r1 : r < 30) : ∀ (m : Nat) (i acc : Int) (A : Int → Prop), mk acc A → 0 ≤ i → i ≤ sz → sz - i ≤ m → ∃ U, f_Parting_headsNamedIn_5 w r acc i M = some (U, M) ∧ mk U (fun x => A x ∨ ∃ j, i ≤ j ∧ j < sz ∧ tb (N 491 (N 464 (8 * q + j))) x = true) := by
  obtain ⟨⟨a1, a2, a3, a4⟩, b, c⟩ := h
  have fin : ∀ (i acc : Int) (A : Int → Prop), mk acc A → i = sz → ∃ U, f_Parting_headsNamedIn_5 w r acc i M = some (U, M) ∧ mk U (fun x => A x ∨ ∃ j, i ≤ j ∧ j < sz ∧ tb (N 491 (N 464 (8 * q + j))) x = true) := fun i acc A hA hi => by
    refine ⟨acc, ?_, hA.cong (fun x _ _ => ⟨Or.inl, fun z => z.elim id (fun ⟨j, u, v, _⟩ => by omega)⟩)⟩
    rw [q_Parting_headsNamedIn_5, isO_law hw, f_sizeOf hw r0 r1]
    simp only [cond_true, Bool.and_true, Option.bind_some, em_cd]
    rw [if_pos (by omega)]
  intro m
  induction m with
  | zero =>
    intro i acc A hA i0 i1 hm
    exact fin i acc A hA (by omega)
  | succ m ih =>
    intro i acc A hA i0 i1 hm
    by_cases z : i = sz
    · exact fin i acc A hA z
    · obtain ⟨⟨b1, b2', b3⟩, -⟩ := b i i0 (by omega)
      obtain ⟨c1, c2⟩ := c _ b2' b3
      have e := q_Parting_headsNamedIn_5 w r acc i M
      rw [isO_law hw, f_sizeOf hw r0 r1] at e
      simp only [cond_true, Bool.and_true, Option.bind_some, em_cd, f_kinIn hw r0 r1 i0 (show i < 8 by omega)] at e
      rw [if_neg (by omega), if_neg (by omega), f_headsOf b2' (by omega), x32_s (by omega) (by omega)] at e
      simp only [Option.bind_some] at e
      rw [c1, ← b1] at e
      obtain ⟨U, h1, h2⟩ := ih (i + 1) _ _ (hA.or (by rw [← b1] at c2; exact c2)) (by omega) (by omega) (by omega)
      refine ⟨U, e.trans h1, h2.cong (fun x x0 x1 => ?_)⟩
      constructor
      · rintro ((u | u) | ⟨j, u, v, y⟩)
        · exact Or.inl u
        · exact Or.inr ⟨i, by omega, by omega, u.2⟩
        · exact Or.inr ⟨j, by omega, v, y⟩
      · rintro (u | ⟨j, u, v, y⟩)
        · exact Or.inl (Or.inl u)
        · by_cases ji : j = i
          · rw [ji] at y
            have hk := c2.at_ x0 x1
            rw [← b1] at hk
            exact Or.inl (Or.inr (hk.mp y))
          · exact Or.inr ⟨j, by omega, v, y⟩
theorem m_named {w r q sz K n v3 : Int} (h : lsR M N w r q sz K n) (K1 : K ≤ 20) (q0 : 0 ≤ q) (q1 : q < 60) : ∀ (m : Nat) (i acc : Int) (A : Int → Prop), mk acc A → 0 ≤ i → i ≤ sz → sz - i ≤ m → ∃ U, f_Model_backOf_7 q acc v3 i N = f_Model_backOf_47 U v3 0 N ∧ mk U (fun x => A x ∨ ∃ j, i ≤ j ∧ j < sz ∧ tb (N 491 (N 464 (8 * q + j))) x = true) := by
  obtain ⟨⟨a1, a2, a3, a4⟩, b, c⟩ := h
  have fin : ∀ (i acc : Int) (A : Int → Prop), mk acc A → i = sz → ∃ U, f_Model_backOf_7 q acc v3 i N = f_Model_backOf_47 U v3 0 N ∧ mk U (fun x => A x ∨ ∃ j, i ≤ j ∧ j < sz ∧ tb (N 491 (N 464 (8 * q + j))) x = true) := fun i acc A hA hi => by
    refine ⟨acc, ?_, hA.cong (fun x _ _ => ⟨Or.inl, fun z => z.elim id (fun ⟨j, u, v, _⟩ => by omega)⟩)⟩
    rw [q_Model_backOf_7]
    simp only [em_cd]
    rw [if_pos (by omega), if_pos (by omega)]
  intro m
  induction m with
  | zero =>
    intro i acc A hA i0 i1 hm
    exact fin i acc A hA (by omega)
  | succ m ih =>
    intro i acc A hA i0 i1 hm
    by_cases z : i = sz
    · exact fin i acc A hA z
    · obtain ⟨⟨b1, b2', b3⟩, -⟩ := b i i0 (by omega)
      obtain ⟨c1, c2⟩ := c _ b2' b3
      have e := q_Model_backOf_7 q acc v3 i N
      simp only [em_cd] at e
      rw [x32_s (x := 8 * q) (by omega) (by omega), x32_s (x := 8 * q + i) (by omega) (by omega), x32_s (x := i + 1) (by omega) (by omega), if_pos (by omega), if_neg (by omega), if_pos (by omega), if_pos (by omega)] at e
      rw [← b1] at c2
      obtain ⟨U, h1, h2⟩ := ih (i + 1) _ _ (hA.or c2) (by omega) (by omega) (by omega)
      refine ⟨U, e.trans h1, h2.cong (fun x x0 x1 => ?_)⟩
      constructor
      · rintro ((u | u) | ⟨j, u, v, y⟩)
        · exact Or.inl u
        · exact Or.inr ⟨i, by omega, by omega, u.2⟩
        · exact Or.inr ⟨j, by omega, v, y⟩
      · rintro (u | ⟨j, u, v, y⟩)
        · exact Or.inl (Or.inl u)
        · by_cases ji : j = i
          · rw [ji] at y
            exact Or.inl (Or.inr ((c2.at_ x0 x1).mp y))
          · exact Or.inr ⟨j, by omega, v, y⟩
/-- the weight of x in the list of q: that of the first of its kins that x is a head of -/
def wtOf (N : em_M) (q x v : Int) : Prop := ∃ i, 0 ≤ i ∧ i < N 463 q ∧ tb (N 491 (N 464 (8 * q + i))) x = true ∧ (∀ j, 0 ≤ j → j < i → ¬ tb (N 491 (N 464 (8 * q + j))) x = true) ∧ v = N 465 (8 * q + i)
theorem wtOf.one {q x u v : Int} (h : wtOf N q x u) (k : wtOf N q x v) : u = v := by
  obtain ⟨i, a1, a2, a3, a4, a5⟩ := h
  obtain ⟨j, b1, b2', b3, b4, b5⟩ := k
  by_cases l : i < j
  · exact absurd a3 (b4 i a1 l)
  · by_cases l2 : j < i
    · exact absurd b3 (a4 j b1 l2)
    · rw [a5, b5, show i = j by omega]
/-- the class's weights of those who are new -/
theorem f_50 {w r V B i wt : Int} (hw : w = 53 ∨ w = 366) (r0 : 0 ≤ r) (r1 : r < 30) (i0 : 0 ≤ i) (i1 : i < 8) (h0 : 0 ≤ wt) (h1 : wt ≤ 999) : ∀ (m : Nat) (c v4 : Int) (M : em_M), ¬ M (w + 10) r ≤ i → M (w + 43 + r) i = wt → 0 ≤ c → c ≤ 30 → 30 - c ≤ m → 0 ≤ v4 → v4 ≤ 300000 + 1000 * c → ∃ M', f_Parting_shareByWeights_50 w r V v4 i B c M = f_Parting_shareByWeights_13 w r (x_or V B) (v4 + wt * (cnt B 30 - cnt B c.toNat)) (i + 1) M' ∧ (∀ x, c ≤ x → x < 30 → tb B x = true → M' 131 x = wt) ∧ ∀ a j, ¬ (a = 131 ∧ c ≤ j ∧ j < 30 ∧ tb B j = true) → M' a j = M a j := by
  have fin : ∀ (c v4 : Int) (M : em_M), c = 30 → ∃ M', f_Parting_shareByWeights_50 w r V v4 i B c M = f_Parting_shareByWeights_13 w r (x_or V B) (v4 + wt * (cnt B 30 - cnt B c.toNat)) (i + 1) M' ∧ (∀ x, c ≤ x → x < 30 → tb B x = true → M' 131 x = wt) ∧ ∀ a j, ¬ (a = 131 ∧ c ≤ j ∧ j < 30 ∧ tb B j = true) → M' a j = M a j := fun c v4 M hc => by
    refine ⟨M, ?_, fun x x0 x1 => by omega, fun _ _ _ => rfl⟩
    have hz : cnt B 30 - cnt B c.toNat = 0 := by
      rw [hc]
      show cnt B 30 - cnt B 30 = 0
      omega
    rw [q_Parting_shareByWeights_50, em_cd, if_pos (by omega), x32_s (by omega) (by omega), hz, Int.mul_zero, Int.add_zero]
  intro m
  induction m with
  | zero =>
    intro c v4 M g1 g2 c0 c1 hm v0 v1
    exact fin c v4 M (by omega)
  | succ m ih =>
    intro c v4 M g1 g2 c0 c1 hm v0 v1
    by_cases z : c = 30
    · exact fin c v4 M z
    · have e := q_Parting_shareByWeights_50 w r V v4 i B c M
      rw [f_holds, isO_law hw] at e
      simp only [em_cd, cond_true, Bool.and_true, Option.bind_some, b2_z, f_weightIn hw r0 r1 i0 i1, g2] at e
      rw [if_neg (by omega), x32_s (by omega) (by omega), if_neg g1, xup_eq, x64_id (by omega) (by omega)] at e
      have hstep : cnt B (c + 1).toNat = cnt B c.toNat + b2 (tb B c = true) := by
        rw [show (c + 1).toNat = c.toNat + 1 by omega]
        show cnt B c.toNat + b2 (tb B (c.toNat : Int) = true) = _
        rw [show ((c.toNat : Nat) : Int) = c by omega]
      by_cases f : tb B c = true
      · rw [if_neg (fun y => y ⟨c0, by omega, f⟩), if_pos (by omega), if_pos (by omega)] at e
        have hne : ¬ w + 10 = 131 ∧ ¬ w + 43 + r = 131 := by omega
        obtain ⟨M', k1, k2, k3⟩ := ih (c + 1) (v4 + wt) (xup M 131 c wt) (by rw [xup_ne (by omega)]; exact g1) (by rw [xup_ne (by omega)]; exact g2) (by omega) (by omega) (by omega) (by omega) (by omega)
        rw [hstep, b2_t f] at k1
        refine ⟨M', e.trans (k1.trans ?_), fun x x0 x1 x2 => ?_, fun a j ha => ?_⟩
        · have : v4 + wt + wt * (cnt B 30 - (cnt B c.toNat + 1)) = v4 + wt * (cnt B 30 - cnt B c.toNat) := by
            rw [show cnt B 30 - (cnt B c.toNat + 1) = (cnt B 30 - cnt B c.toNat) - 1 by omega, Int.mul_sub, Int.mul_one]
            omega
          rw [this]
        · by_cases xc : x = c
          · rw [xc, k3 131 c (by omega), xup_eq]
          · exact k2 x (by omega) x1 x2
        · have hj : ¬ (a = 131 ∧ j = c) := fun y => by
            rw [y.2] at ha
            exact ha ⟨y.1, by omega, by omega, f⟩
          rw [k3 a j (fun y => ha ⟨y.1, by omega, y.2.2⟩), xup_ne hj]
      · rw [if_pos (fun y => f y.2.2)] at e
        obtain ⟨M', k1, k2, k3⟩ := ih (c + 1) v4 M g1 g2 (by omega) (by omega) (by omega) v0 (by omega)
        rw [hstep, b2_f f, Int.add_zero] at k1
        refine ⟨M', e.trans k1, fun x x0 x1 x2 => ?_, fun a j ha => k3 a j (fun y => ha ⟨y.1, by omega, y.2.2⟩)⟩
        by_cases xc : x = c
        · rw [xc] at x2
          exact absurd x2 f
        · exact k2 x (by omega) x1 x2
end
