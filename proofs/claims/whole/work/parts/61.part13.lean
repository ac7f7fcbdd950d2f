/-! PARTING: what goes back to those who have a part. -/
theorem fr_plus_pos {x y : Int} (ox : fr_ok x) (oy : fr_ok y) (ot : fr_ok (fr_plus x y)) (h : 0 < fr_up x ∨ 0 < fr_up y) : 0 < fr_up (fr_plus x y) := by
  have e : fr_plus x y = fr_of (fr_up x * fr_low y + fr_up y * fr_low x) (fr_low x * fr_low y) := by
    unfold fr_plus
    rw [if_neg (by have := ox.1; have := oy.1; omega)]
  have x0 := fr_up_nn ox
  have y0 := fr_up_nn oy
  have x1 : 0 < fr_low x := by have := ox.2.2.1; omega
  have y1 : 0 < fr_low y := by have := oy.2.2.1; omega
  have t1 : 0 < fr_low (fr_plus x y) := by have := ot.2.2.1; omega
  have a1 : 0 ≤ fr_up x * fr_low y := Int.mul_nonneg x0 (by omega)
  have a2 : 0 ≤ fr_up y * fr_low x := Int.mul_nonneg y0 (by omega)
  have a3 : 0 < fr_up x * fr_low y + fr_up y * fr_low x := by
    rcases h with h | h
    · have := Int.mul_pos h y1
      omega
    · have := Int.mul_pos h x1
      omega
  have hc := fr_of_cross (by omega) (Int.mul_pos x1 y1) e.symm ot.1
  have h1 := Int.mul_pos a3 t1
  rw [← hc] at h1
  exact Int.pos_of_mul_pos_left h1 (by have := Int.mul_pos x1 y1; omega)
section
variable {M N : em_M}
theorem f_hasPart {U : Int} (hp : ∀ x, 0 ≤ x → x < 30 → fr_ok (M 133 x)) : ∀ (m : Nat) (c : Int), 0 ≤ c → 30 - c ≤ m → ((∃ x, c ≤ x ∧ x < 30 ∧ tb U x = true ∧ 0 < fr_up (M 133 x)) ∧ f_Parting_hasPart_2 U c M = some (1, M)) ∨ ((∀ x, c ≤ x → x < 30 → tb U x = true → ¬ 0 < fr_up (M 133 x)) ∧ f_Parting_hasPart_2 U c M = some (0, M)) := by
  intro m
  induction m with
  | zero =>
    intro c c0 hm
    exact Or.inr ⟨fun x x0 x1 => by omega, by rw [q_Parting_hasPart_2, em_cd, if_pos (by omega)]⟩
  | succ m ih =>
    intro c c0 hm
    by_cases q : 30 ≤ c
    · exact Or.inr ⟨fun x x0 x1 => by omega, by rw [q_Parting_hasPart_2, em_cd, if_pos q]⟩
    · have e := q_Parting_hasPart_2 U c M
      rw [f_holds] at e
      simp only [em_cd, Option.bind_some, b2_z, f_isPositive M (fr_ok_lt (hp c c0 (by omega))), zzz] at e
      rw [if_neg q, x32_s (by omega) (by omega)] at e
      have next : (tb U c = true → ¬ 0 < fr_up (M 133 c)) → f_Parting_hasPart_2 U c M = f_Parting_hasPart_2 U (c + 1) M → ((∃ x, c ≤ x ∧ x < 30 ∧ tb U x = true ∧ 0 < fr_up (M 133 x)) ∧ f_Parting_hasPart_2 U c M = some (1, M)) ∨ ((∀ x, c ≤ x → x < 30 → tb U x = true → ¬ 0 < fr_up (M 133 x)) ∧ f_Parting_hasPart_2 U c M = some (0, M)) := fun z1 z2 => by
        rcases ih (c + 1) (by omega) (by omega) with ⟨⟨x, x0, x1, x2⟩, h2⟩ | ⟨h1, h2⟩
        · exact Or.inl ⟨⟨x, by omega, x1, x2⟩, z2.trans h2⟩
        · refine Or.inr ⟨fun x x0 x1 x2 => ?_, z2.trans h2⟩
          by_cases xc : x = c
          · rw [xc] at x2 ⊢
            exact z1 x2
          · exact h1 x (by omega) x1 x2
      by_cases f : tb U c = true
      · rw [if_neg (fun y => y ⟨c0, by omega, f⟩), if_pos (by omega)] at e
        by_cases g : 0 < fr_up (M 133 c)
        · rw [if_neg (fun y => y g)] at e
          exact Or.inl ⟨⟨c, by omega, by omega, f, g⟩, e⟩
        · rw [if_pos g] at e
          exact next (fun _ => g) e
      · rw [if_pos (fun y => f y.2.2)] at e
        exact next (fun z => absurd z f) e
theorem m_47b {U n : Int} (hn : n ≤ 30) (h47 : N 439 47 = n) : ∀ (m : Nat) (c : Int), 0 ≤ c → n - c ≤ m → f_Model_backOf_47 U 1 c N = f_Model_backOf_108 U 0 1 0 N := by
  intro m
  induction m with
  | zero =>
    intro c c0 hm
    rw [q_Model_backOf_47]
    simp only [em_cd]
    rw [if_pos (by omega), if_pos (by omega)]
  | succ m ih =>
    intro c c0 hm
    have e := q_Model_backOf_47 U 1 c N
    simp only [em_cd] at e
    by_cases q : n ≤ c
    · rw [if_pos (by omega), if_pos (by omega)] at e
      exact e
    · rw [if_neg (by omega), if_pos (by omega), x32_s (by omega) (by omega)] at e
      rw [e]
      exact ih (c + 1) (by omega) (by omega)
theorem m_47 {U n : Int} (n0 : 0 ≤ n) (hn : n ≤ 30) (h47 : N 439 47 = n) : ∀ (m : Nat) (c : Int), 0 ≤ c → n - c ≤ m → ((∃ x, c ≤ x ∧ x < n ∧ tb U x = true ∧ 0 < N 495 x) ∧ f_Model_backOf_47 U 0 c N = f_Model_backOf_108 U 0 1 0 N) ∨ ((∀ x, c ≤ x → x < n → tb U x = true → ¬ 0 < N 495 x) ∧ f_Model_backOf_47 U 0 c N = some (0, N)) := by
  intro m
  have fin : ∀ c, n ≤ c → f_Model_backOf_47 U 0 c N = some (0, N) := fun c hc => by
    rw [q_Model_backOf_47]
    simp only [em_cd, eq_self, not_true_eq_false, if_false]
    rw [if_pos (by omega)]
  induction m with
  | zero =>
    intro c c0 hm
    exact Or.inr ⟨fun x x0 x1 => by omega, fin c (by omega)⟩
  | succ m ih =>
    intro c c0 hm
    by_cases q : n ≤ c
    · exact Or.inr ⟨fun x x0 x1 => by omega, fin c q⟩
    · have e := q_Model_backOf_47 U 0 c N
      rw [f_Mhas N c0 (by omega)] at e
      simp only [em_cd, Option.bind_some, b2_z, x_cmp_le, eq_self, not_true_eq_false, if_false] at e
      rw [if_neg (by omega), x32_s (by omega) (by omega)] at e
      have next : (tb U c = true → ¬ 0 < N 495 c) → f_Model_backOf_47 U 0 c N = f_Model_backOf_47 U 0 (c + 1) N → ((∃ x, c ≤ x ∧ x < n ∧ tb U x = true ∧ 0 < N 495 x) ∧ f_Model_backOf_47 U 0 c N = f_Model_backOf_108 U 0 1 0 N) ∨ ((∀ x, c ≤ x → x < n → tb U x = true → ¬ 0 < N 495 x) ∧ f_Model_backOf_47 U 0 c N = some (0, N)) := fun z1 z2 => by
        rcases ih (c + 1) (by omega) (by omega) with ⟨⟨x, x0, x1, x2⟩, h2⟩ | ⟨h1, h2⟩
        · exact Or.inl ⟨⟨x, by omega, x1, x2⟩, z2.trans h2⟩
        · refine Or.inr ⟨fun x x0 x1 x2 => ?_, z2.trans h2⟩
          by_cases xc : x = c
          · rw [xc] at x2 ⊢
            exact z1 x2
          · exact h1 x (by omega) x1 x2
      by_cases f : tb U c = true
      · rw [if_neg (fun y => y f), if_pos (by omega)] at e
        by_cases g : N 495 c ≤ 0
        · rw [if_pos g] at e
          exact next (fun _ => by omega) e
        · rw [if_neg g, m_47b hn h47 30 (c + 1) (by omega) (by omega)] at e
          exact Or.inl ⟨⟨c, by omega, by omega, f, by omega⟩, e⟩
      · rw [if_pos f] at e
        exact next (fun z => absurd z f) e
theorem m_108n {U a b x n : Int} (hn : n ≤ 30) (h47 : N 439 47 = n) (x0 : 0 ≤ x) (h : ¬ (x < n ∧ tb U x = true)) : f_Model_backOf_108 U a b x N = f_Model_backOf_108 U a b (x + 1) N := by
  by_cases xn : n ≤ x
  · rw [q_Model_backOf_108, q_Model_backOf_108, em_cd, em_cd, if_pos (by omega), if_pos (by omega)]
  · have e := q_Model_backOf_108 U a b x N
    rw [f_Mhas N x0 (by omega)] at e
    simp only [em_cd, Option.bind_some, b2_z] at e
    rw [if_neg (by omega), if_neg (fun y => y (fun z => h ⟨by omega, z⟩)), x32_s (by omega) (by omega)] at e
    exact e
theorem m_108y {U a b x n A P : Int} (hn : n ≤ 30) (hs : mSp N) (h47 : N 439 47 = n) (x0 : 0 ≤ x) (x1 : x < n) (f : tb U x = true) (hA : fr_is N A a b) (hP : fr_is N P (N 495 x) (N 496 x)) : ∃ u N', f_Model_backOf_108 U a b x N = f_Model_backOf_108 U (fr_up u) (fr_low u) (x + 1) N' ∧ mSt (N 439 44) (N' 439 44) (fr_plus A P) u ∧ ∀ c j, ¬ (c = 439 ∧ 44 ≤ j ∧ j ≤ 46) → N' c j = N c j := by
  have e := q_Model_backOf_108 U a b x N
  rw [f_Mhas N x0 (by omega)] at e
  obtain ⟨u, B, g1, ⟨g2, g3, g4⟩⟩ := m_plus' (N := N) hs hA.1 hP.1 hA.2.1 hA.2.2 hP.2.1 hP.2.2
  simp only [em_cd, Option.bind_some, b2_z, g1] at e
  rw [if_neg (by omega), if_pos (fun y => y f), if_pos (by omega), if_pos (by omega), x32_s (by omega) (by omega), g3.1, g3.2] at e
  exact ⟨u, B, e, g2, g4⟩
theorem f_10n {U all x : Int} (x1 : x < 30) (x0 : 0 ≤ x) (f : ¬ tb U x = true) : f_Parting_giveBack_10 U all x M = f_Parting_giveBack_10 U all (x + 1) M := by
  have e := q_Parting_giveBack_10 U all x M
  rw [f_holds] at e
  simp only [em_cd, Option.bind_some, b2_z] at e
  rw [if_neg (by omega), if_pos (fun y => f y.2.2), x32_s (by omega) (by omega)] at e
  exact e
theorem f_10y {U all x : Int} (x1 : x < 30) (x0 : 0 ≤ x) (f : tb U x = true) (ha : fr_v all) (hP : fr_ok (M 133 x)) : f_Parting_giveBack_10 U all x M = f_Parting_giveBack_10 U (fr_plus all (M 133 x)) (x + 1) M := by
  have e := q_Parting_giveBack_10 U all x M
  rw [f_holds] at e
  simp only [em_cd, Option.bind_some, b2_z, f_plus_eq M ha (Or.inr hP)] at e
  rw [if_neg (by omega), if_neg (fun y => y ⟨x0, x1, f⟩), if_pos (by omega), x32_s (by omega) (by omega)] at e
  exact e
/-- the sum of the parts, once spent -/
theorem back_sumsp {U n : Int} (n0 : 0 ≤ n) (hn : n ≤ 30) (h47 : N 439 47 = n) (hU : ∀ x, n ≤ x → x < 30 → ¬ tb U x = true) (hp : ∀ x, 0 ≤ x → x < n → fr_is N (M 133 x) (N 495 x) (N 496 x)) : ∀ (m : Nat) (x a b : Int) (N1 : em_M), (∀ c j, ¬ (c = 439 ∧ 44 ≤ j ∧ j ≤ 46) → N1 c j = N c j) → N1 439 44 = 1 → (∃ y, fr_is N y a b) → 0 ≤ x → 30 - x ≤ m → ∃ a' b' N', f_Parting_giveBack_10 U (-1) x M = f_Parting_giveBack_51 U (-1) 0 M ∧ f_Model_backOf_108 U a b x N1 = f_Model_backOf_172 U a' b' 0 N' ∧ (∀ c j, ¬ (c = 439 ∧ 44 ≤ j ∧ j ≤ 46) → N' c j = N c j) ∧ N' 439 44 = 1 := by
  intro m
  have fin : ∀ (x a b : Int) (N1 : em_M), (∀ c j, ¬ (c = 439 ∧ 44 ≤ j ∧ j ≤ 46) → N1 c j = N c j) → N1 439 44 = 1 → 30 ≤ x → ∃ a' b' N', f_Parting_giveBack_10 U (-1) x M = f_Parting_giveBack_51 U (-1) 0 M ∧ f_Model_backOf_108 U a b x N1 = f_Model_backOf_172 U a' b' 0 N' ∧ (∀ c j, ¬ (c = 439 ∧ 44 ≤ j ∧ j ≤ 46) → N' c j = N c j) ∧ N' 439 44 = 1 := fun x a b N1 hF hc hx => by
    refine ⟨a, b, N1, ?_, ?_, hF, hc⟩
    · rw [q_Parting_giveBack_10, em_cd, if_pos hx]
    · rw [q_Model_backOf_108, em_cd, if_pos (by rw [hF _ _ (by omega)]; omega)]
  induction m with
  | zero =>
    intro x a b N1 hF hc hy x0 hm
    exact fin x a b N1 hF hc (by omega)
  | succ m ih =>
    intro x a b N1 hF hc hy x0 hm
    by_cases q : 30 ≤ x
    · exact fin x a b N1 hF hc q
    · clear fin
      by_cases f : x < n ∧ tb U x = true
      · have hPx := hp x x0 f.1
        obtain ⟨y, hy⟩ := hy
        obtain ⟨u, A, g1, g2, g3⟩ := m_108y (N := N1) (A := y) hn (Or.inr hc) (by rw [hF _ _ (by omega)]; exact h47) x0 f.1 f.2 hy (by rw [hF 495 _ (by omega), hF 496 _ (by omega)]; exact hPx)
        rw [hc] at g2
        obtain ⟨a', b', N', h1, h2, h3, h4⟩ := ih (x + 1) _ _ A (fun c j hc => by rw [g3 c j hc, hF c j hc]) g2.one ⟨u, g2.1, rfl, rfl⟩ (by omega) (by omega)
        refine ⟨a', b', N', ?_, g1.trans h2, h3, h4⟩
        rw [f_10y (by omega) x0 f.2 (Or.inl rfl) hPx.1, fr_plus_m1]
        exact h1
      · obtain ⟨a', b', N', h1, h2, h3, h4⟩ := ih (x + 1) a b N1 hF hc hy (by omega) (by omega)
        refine ⟨a', b', N', (f_10n (by omega) x0 (fun z => ?_)).trans h1, (m_108n hn (by rw [hF _ _ (by omega)]; exact h47) x0 f).trans h2, h3, h4⟩
        by_cases xn : x < n
        · exact f ⟨xn, z⟩
        · exact hU x (by omega) (by omega) z
/-- the sum of the parts -/
theorem back_sum {U n : Int} (n0 : 0 ≤ n) (hn : n ≤ 30) (h47 : N 439 47 = n) (hU : ∀ x, n ≤ x → x < 30 → ¬ tb U x = true) (hp : ∀ x, 0 ≤ x → x < n → fr_is N (M 133 x) (N 495 x) (N 496 x)) : ∀ (m : Nat) (x all a b : Int) (N1 : em_M), (∀ c j, ¬ (c = 439 ∧ 44 ≤ j ∧ j ≤ 46) → N1 c j = N c j) → N1 439 44 = 0 → fr_is N all a b → 0 ≤ x → 30 - x ≤ m → ∃ all' a' b' N', f_Parting_giveBack_10 U all x M = f_Parting_giveBack_51 U all' 0 M ∧ f_Model_backOf_108 U a b x N1 = f_Model_backOf_172 U a' b' 0 N' ∧ (∀ c j, ¬ (c = 439 ∧ 44 ≤ j ∧ j ≤ 46) → N' c j = N c j) ∧ ((N' 439 44 = 0 ∧ fr_is N all' a' b' ∧ ((0 < fr_up all ∨ ∃ y, x ≤ y ∧ y < n ∧ tb U y = true ∧ 0 < fr_up (M 133 y)) → 0 < fr_up all')) ∨ (N' 439 44 = 1 ∧ all' = -1)) := by
  intro m
  have fin : ∀ (x all a b : Int) (N1 : em_M), (∀ c j, ¬ (c = 439 ∧ 44 ≤ j ∧ j ≤ 46) → N1 c j = N c j) → N1 439 44 = 0 → fr_is N all a b → 30 ≤ x → ∃ all' a' b' N', f_Parting_giveBack_10 U all x M = f_Parting_giveBack_51 U all' 0 M ∧ f_Model_backOf_108 U a b x N1 = f_Model_backOf_172 U a' b' 0 N' ∧ (∀ c j, ¬ (c = 439 ∧ 44 ≤ j ∧ j ≤ 46) → N' c j = N c j) ∧ ((N' 439 44 = 0 ∧ fr_is N all' a' b' ∧ ((0 < fr_up all ∨ ∃ y, x ≤ y ∧ y < n ∧ tb U y = true ∧ 0 < fr_up (M 133 y)) → 0 < fr_up all')) ∨ (N' 439 44 = 1 ∧ all' = -1)) := fun x all a b N1 hF hc h2 hx => by
    refine ⟨all, a, b, N1, ?_, ?_, hF, Or.inl ⟨hc, h2, fun z => z.elim id (fun ⟨y, u, v, _⟩ => by omega)⟩⟩
    · rw [q_Parting_giveBack_10, em_cd, if_pos hx]
    · rw [q_Model_backOf_108, em_cd, if_pos (by rw [hF _ _ (by omega)]; omega)]
  induction m with
  | zero =>
    intro x all a b N1 hF hc ha x0 hm
    exact fin x all a b N1 hF hc ha (by omega)
  | succ m ih =>
    intro x all a b N1 hF hc ha x0 hm
    by_cases q : 30 ≤ x
    · exact fin x all a b N1 hF hc ha q
    · clear fin
      by_cases f : x < n ∧ tb U x = true
      · have hPx := hp x x0 f.1
        obtain ⟨u, A, g1, g2, g3⟩ := m_108y (N := N1) (A := all) hn (Or.inl hc) (by rw [hF _ _ (by omega)]; exact h47) x0 f.1 f.2 ha (by rw [hF 495 _ (by omega), hF 496 _ (by omega)]; exact hPx)
        have fA : ∀ c j, ¬ (c = 439 ∧ 44 ≤ j ∧ j ≤ 46) → A c j = N c j := fun c j hc => by rw [g3 c j hc, hF c j hc]
        rw [f_10y (by omega) x0 f.2 (Or.inr ha.1) hPx.1, g1]
        rcases g2.zero hc with ⟨t1, t2, t3⟩ | ⟨t1, t2⟩
        · rw [t2]
          obtain ⟨al, a', b', N', h1, h2, h3, h4⟩ := ih (x + 1) (fr_plus all (M 133 x)) _ _ A fA t1 ⟨t3, rfl, rfl⟩ (by omega) (by omega)
          refine ⟨al, a', b', N', h1, h2, h3, h4.imp (fun z => ⟨z.1, z.2.1, fun y => z.2.2 ?_⟩) id⟩
          rcases y with y | ⟨y, y0, y1, y2, y3⟩
          · exact Or.inl (fr_plus_pos ha.1 hPx.1 t3 (Or.inl y))
          · by_cases yx : y = x
            · rw [yx] at y3
              exact Or.inl (fr_plus_pos ha.1 hPx.1 t3 (Or.inr y3))
            · exact Or.inr ⟨y, by omega, y1, y2, y3⟩
        · rw [t2]
          obtain ⟨a', b', N', h1, h2, h3, h4⟩ := back_sumsp n0 hn h47 hU hp 30 (x + 1) (fr_up u) (fr_low u) A fA t1 ⟨u, g2.1, rfl, rfl⟩ (by omega) (by omega)
          exact ⟨-1, a', b', N', h1, h2, h3, Or.inr ⟨h4, rfl⟩⟩
      · have fu : ¬ tb U x = true := fun z => by
          by_cases xn : x < n
          · exact f ⟨xn, z⟩
          · exact hU x (by omega) (by omega) z
        obtain ⟨al, a', b', N', h1, h2, h3, h4⟩ := ih (x + 1) all a b N1 hF hc ha (by omega) (by omega)
        refine ⟨al, a', b', N', (f_10n (by omega) x0 fu).trans h1, (m_108n hn (by rw [hF _ _ (by omega)]; exact h47) x0 f).trans h2, h3, h4.imp (fun z => ⟨z.1, z.2.1, fun y => z.2.2 (y.imp id (fun ⟨y, y0, y1, y2, y3⟩ => ⟨y, ?_, y1, y2, y3⟩))⟩) id⟩
        by_cases yx : y = x
        · rw [yx] at y2
          exact absurd y2 fu
        · omega
/-- one step of the class's giving back -/
theorem f_51n {U all x : Int} (x1 : x < 30) (x0 : 0 ≤ x) (f : ¬ tb U x = true) : f_Parting_giveBack_51 U all x M = f_Parting_giveBack_51 U all (x + 1) M := by
  have e := q_Parting_giveBack_51 U all x M
  rw [f_holds] at e
  simp only [em_cd, Option.bind_some, b2_z] at e
  rw [if_neg (by omega), if_pos (fun y => f y.2.2), x32_s (by omega) (by omega)] at e
  exact e
theorem f_51y {U all x R : Int} (x1 : x < 30) (x0 : 0 ≤ x) (f : tb U x = true) (ha : fr_v all) (hR : M 127 15 = R) (oR : fr_ok R) (hP : fr_ok (M 133 x)) : f_Parting_giveBack_51 U all x M = if ¬ fr_plus (M 133 x) (fr_times R (fr_over (M 133 x) all)) < 0 then f_Parting_giveBack_51 U all (x + 1) (xup M 133 x (fr_plus (M 133 x) (fr_times R (fr_over (M 133 x) all)))) else some (0, xup M 133 x (fr_plus (M 133 x) (fr_times R (fr_over (M 133 x) all)))) := by
  have e := q_Parting_giveBack_51 U all x M
  rw [f_holds] at e
  simp only [em_cd, Option.bind_some, b2_z, f_over_eq M (Or.inr hP) ha, hR, f_times_eq M (Or.inr oR) (fr_v_over _ _), f_plus_eq M (Or.inr hP) (fr_v_times _ _), xup_eq, f_isSpent, zzz] at e
  rw [if_neg (by omega), if_neg (fun y => y ⟨x0, x1, f⟩), if_pos (by omega), if_pos (by omega), if_pos (by omega), if_pos (by omega), x32_s (by omega) (by omega)] at e
  exact e
theorem f_51e {U all n : Int} (hU : ∀ x, n ≤ x → x < 30 → ¬ tb U x = true) : ∀ (m : Nat) (x : Int), n ≤ x → 0 ≤ x → 30 - x ≤ m → f_Parting_giveBack_51 U all x M = some (1, M) := by
  intro m
  induction m with
  | zero =>
    intro x hx x0 hm
    rw [q_Parting_giveBack_51, em_cd, if_pos (by omega)]
  | succ m ih =>
    intro x hx x0 hm
    by_cases z : 30 ≤ x
    · rw [q_Parting_giveBack_51, em_cd, if_pos z]
    · rw [f_51n (by omega) x0 (hU x hx (by omega))]
      exact ih (x + 1) (by omega) (by omega) (by omega)
/-- the class, when the sum was spent -/
theorem f_51sp {U R : Int} (hR : M 127 15 = R) (oR : fr_ok R) (hp : ∀ x, 0 ≤ x → x < 30 → fr_ok (M 133 x)) : ∀ (m : Nat) (x : Int), 0 ≤ x → 30 - x ≤ m → (∃ y, x ≤ y ∧ y < 30 ∧ tb U y = true) → ∃ y v, f_Parting_giveBack_51 U (-1) x M = some (0, xup M 133 y v) ∧ 0 ≤ y ∧ y < 30 ∧ tb U y = true := by
  intro m
  induction m with
  | zero =>
    rintro x x0 hm ⟨y, y0, y1, _⟩
    omega
  | succ m ih =>
    rintro x x0 hm ⟨y, y0, y1, y2⟩
    by_cases f : tb U x = true
    · refine ⟨x, -1, ?_, x0, by omega, f⟩
      have h1 : fr_over (M 133 x) (-1) = -1 := if_pos (Or.inr (by omega))
      rw [f_51y (by omega) x0 f (Or.inl rfl) hR oR (hp x x0 (by omega)), h1, fr_times_m2, fr_plus_m2, if_neg (by omega)]
    · rw [f_51n (by omega) x0 f]
      refine ih (x + 1) (by omega) (by omega) ⟨y, ?_, y1, y2⟩
      by_cases yx : y = x
      · rw [yx] at y2
        exact absurd y2 f
      · omega
theorem m_172n {U a b x n : Int} (hn : n ≤ 30) (hz : N 439 44 = 0) (h47 : N 439 47 = n) (x0 : 0 ≤ x) (x1 : x < n) (f : ¬ tb U x = true) : f_Model_backOf_172 U a b x N = f_Model_backOf_172 U a b (x + 1) N := by
  have e := q_Model_backOf_172 U a b x N
  rw [f_Mhas N x0 (by omega)] at e
  simp only [em_cd, Option.bind_some, b2_z] at e
  rw [if_neg (by omega), if_neg (fun y => y hz), if_neg (fun y => y f), x32_s (by omega) (by omega)] at e
  exact e
theorem m_172sp {U a b x : Int} (hz : N 439 44 = 1) : f_Model_backOf_172 U a b x N = some (1, N) := by
  rw [q_Model_backOf_172]
  simp only [em_cd]
  by_cases c : N 439 47 ≤ x
  · rw [if_pos c]
  · rw [if_neg c, if_pos (by omega)]
theorem m_172y {U a b x n A P R : Int} (hn : n ≤ 30) (hz : N 439 44 = 0) (h47 : N 439 47 = n) (x0 : 0 ≤ x) (x1 : x < n) (f : tb U x = true) (hA : fr_is N A a b) (hA0 : 0 < fr_up A) (hP : fr_is N P (N 495 x) (N 496 x)) (hR : fr_is N R (N 439 88) (N 439 89)) : ∃ u1 u2 u3 s1 s2 N', f_Model_backOf_172 U a b x N = f_Model_backOf_172 U a b (x + 1) N' ∧ mSt 0 s1 (fr_over P A) u1 ∧ mSt s1 s2 (fr_times R u1) u2 ∧ mSt s2 (N' 439 44) (fr_plus P u2) u3 ∧ (N' 495 x = fr_up u3 ∧ N' 496 x = fr_low u3) ∧ ∀ a j, ¬ ((a = 439 ∧ 44 ≤ j ∧ j ≤ 46) ∨ ((a = 495 ∨ a = 496) ∧ j = x)) → N' a j = N a j := by
  have e := q_Model_backOf_172 U a b x N
  rw [f_Mhas N x0 (by omega)] at e
  obtain ⟨u1, B, d1, ⟨d2, d3, d4⟩⟩ := m_over' (N := N) (Or.inl hz) hP.1 hA.1 hA0 hP.2.1 hP.2.2 hA.2.1 hA.2.2
  obtain ⟨u2, C, g1, ⟨g2, g3, g4⟩⟩ := m_times' (N := B) (x := R) (y := u1) d2.sp hR.1 d2.1 ((d4 439 88 (by omega)).trans hR.2.1) ((d4 439 89 (by omega)).trans hR.2.2) d3.1 d3.2
  obtain ⟨u3, D, i1, ⟨i2, i3, i4⟩⟩ := m_plus' (N := C) (x := P) (y := u2) g2.sp hP.1 g2.1 (((g4 495 x (by omega)).trans (d4 495 x (by omega))).trans hP.2.1) (((g4 496 x (by omega)).trans (d4 496 x (by omega))).trans hP.2.2) g3.1 g3.2
  simp only [em_cd, Option.bind_some, b2_z, d1, g1, i1, q_Model_setPart] at e
  rw [if_neg (by omega), if_neg (fun y => y hz), if_pos (fun y => y f), if_pos (by omega), if_pos (by omega), if_pos (by omega), if_pos (by omega), if_pos (by omega), if_pos (by omega), x32_s (by omega) (by omega)] at e
  simp only [Option.bind_some] at e
  rw [hz] at d2
  refine ⟨u1, u2, u3, B 439 44, C 439 44, _, e, d2, g2, ?_, ?_, fun a j ha => ?_⟩
  · simp (disch := omega) only [xup_ne]
    exact i2
  · simp (disch := omega) only [xup_ne, xup_eq]
    exact i3
  · rw [xup_ne (by omega), xup_ne (by omega), i4 a j (by omega), g4 a j (by omega), d4 a j (by omega)]
theorem back_loop {U n R A a b : Int} (n0 : 0 ≤ n) (hn : n ≤ 30) (hU : ∀ x, n ≤ x → x < 30 → ¬ tb U x = true) (hA : fr_ok A ∧ a = fr_up A ∧ b = fr_low A) (hA0 : 0 < fr_up A) (oR : fr_ok R) : ∀ (m : Nat) (x : Int) (M N : em_M), N 439 47 = n → M 127 15 = R → fr_is N R (N 439 88) (N 439 89) → N 439 44 = 0 → (∀ y, 0 ≤ y → y < n → fr_is N (M 133 y) (N 495 y) (N 496 y)) → 0 ≤ x → n - x ≤ m →
    (∃ M' N', f_Parting_giveBack_51 U A x M = some (1, M') ∧ f_Model_backOf_172 U a b x N = some (1, N') ∧ N' 439 44 = 0 ∧ (∀ y, 0 ≤ y → y < n → fr_is N' (M' 133 y) (N' 495 y) (N' 496 y)) ∧ (∀ c j, ¬ (c = 133 ∧ 0 ≤ j ∧ j < n) → M' c j = M c j) ∧ lF N N' ∧ (∀ y, M 133 y = 1 → M' 133 y = 1)) ∨ (∃ M' N', f_Parting_giveBack_51 U A x M = some (0, M') ∧ f_Model_backOf_172 U a b x N = some (1, N') ∧ N' 439 44 = 1 ∧ (∀ c j, ¬ (c = 133 ∧ 0 ≤ j ∧ j < n) → M' c j = M c j) ∧ lF N N') := by
  intro m
  have fin : ∀ (x : Int) (M N : em_M), N 439 47 = n → N 439 44 = 0 → (∀ y, 0 ≤ y → y < n → fr_is N (M 133 y) (N 495 y) (N 496 y)) → 0 ≤ x → n ≤ x → (∃ M' N', f_Parting_giveBack_51 U A x M = some (1, M') ∧ f_Model_backOf_172 U a b x N = some (1, N') ∧ N' 439 44 = 0 ∧ (∀ y, 0 ≤ y → y < n → fr_is N' (M' 133 y) (N' 495 y) (N' 496 y)) ∧ (∀ c j, ¬ (c = 133 ∧ 0 ≤ j ∧ j < n) → M' c j = M c j) ∧ lF N N' ∧ (∀ y, M 133 y = 1 → M' 133 y = 1)) := fun x M N h47 hz hp x0 hx =>
    ⟨M, N, f_51e hU 30 x hx x0 (by omega), by rw [q_Model_backOf_172, em_cd, if_pos (by omega)], hz, hp, fun _ _ _ => rfl, fun _ _ _ => rfl, fun _ z => z⟩
  induction m with
  | zero =>
    intro x M N h47 h15 hR hz hp x0 hm
    exact Or.inl (fin x M N h47 hz hp x0 (by omega))
  | succ m ih =>
    intro x M N h47 h15 hR hz hp x0 hm
    by_cases xe : n ≤ x
    · exact Or.inl (fin x M N h47 hz hp x0 xe)
    · clear fin
      by_cases f : tb U x = true
      · have hPx := hp x x0 (by omega)
        obtain ⟨u1, u2, u3, s1, s2, B, a1, a2, a3, a4, a5, a6⟩ := m_172y (a := a) (b := b) (A := A) hn hz h47 x0 (by omega) f ⟨hA.1, hA.2.1, hA.2.2⟩ hA0 hPx hR
        have fB : lF N B := fun c j hc => a6 c j (by omega)
        have e := f_51y (all := A) (by omega) x0 f (Or.inr hA.1) h15 oR hPx.1
        have fail : fr_plus (M 133 x) (fr_times R (fr_over (M 133 x) A)) = -1 → B 439 44 = 1 → (∃ M' N', f_Parting_giveBack_51 U A x M = some (0, M') ∧ f_Model_backOf_172 U a b x N = some (1, N') ∧ N' 439 44 = 1 ∧ (∀ c j, ¬ (c = 133 ∧ 0 ≤ j ∧ j < n) → M' c j = M c j) ∧ lF N N') := fun z1 z2 => by
          rw [z1, if_neg (by omega)] at e
          exact ⟨_, B, e, a1.trans (m_172sp z2), z2, fun c j hc => xup_ne (by omega), fB⟩
        rcases a2.zero rfl with ⟨y1, y2, y3⟩ | ⟨y1, y2⟩
        · rcases a3.zero y1 with ⟨v1, v2, v3⟩ | ⟨v1, v2⟩
          · rcases a4.zero v1 with ⟨t1, t2, t3⟩ | ⟨t1, t2⟩
            · clear fail
              rw [y2] at v2 v3
              rw [v2] at t2 t3
              have t4 := t3.1
              rw [if_pos (by omega)] at e
              rw [e, a1]
              rcases ih (x + 1) (xup M 133 x (fr_plus (M 133 x) (fr_times R (fr_over (M 133 x) A)))) B (by rw [fB _ _ (by omega)]; exact h47) (by rw [xup_ne (by omega)]; exact h15) (by rw [fB _ _ (by omega), fB _ _ (by omega)]; exact hR) t1 (fun y y0 y1 => by
                by_cases yx : y = x
                · rw [yx, xup_eq, a5.1, a5.2, t2]
                  exact ⟨t3, rfl, rfl⟩
                · rw [xup_ne (by omega), a6 495 y (by omega), a6 496 y (by omega)]
                  exact hp y y0 y1) (by omega) (by omega) with ⟨C, D, s1, s2, s3, s4, s5, s6, s7⟩ | ⟨C, D, s1, s2, s3, s5, s6⟩
              · refine Or.inl ⟨C, D, s1, s2, s3, s4, fun c j hc => by rw [s5 c j hc, xup_ne (by omega)], fun c j hc => by rw [s6 c j hc, fB c j hc], fun y hy => s7 y ?_⟩
                by_cases yx : y = x
                · rw [yx, xup_eq]
                  rw [yx] at hy
                  rw [hy, fr_over_0 hA.1 hA0, fr_times_0 oR]
                  exact fr_plus_0
                · rw [xup_ne (by omega)]
                  exact hy
              · exact Or.inr ⟨C, D, s1, s2, s3, fun c j hc => by rw [s5 c j hc, xup_ne (by omega)], fun c j hc => by rw [s6 c j hc, fB c j hc]⟩
            · rw [y2] at v2
              rw [v2] at t2
              exact Or.inr (fail t2 t1)
          · rw [y2] at v2
            rw [v1] at a4
            refine Or.inr (fail ?_ a4.one)
            rw [v2]
            exact fr_plus_m2 _
        · rw [y1] at a3
          have k1 := a3.one
          rw [k1] at a4
          refine Or.inr (fail ?_ a4.one)
          rw [y2, fr_times_m2]
          exact fr_plus_m2 _
      · rw [f_51n (by omega) x0 f, m_172n hn hz h47 x0 (by omega) f]
        exact ih (x + 1) M N h47 h15 hR hz hp (by omega) (by omega)
end
