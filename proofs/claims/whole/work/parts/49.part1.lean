/-! PARTING: the reference's lines, heads and who is barred. -/
section
variable {M N : em_M}
/-- c is of the line of y -/
def lin (N : em_M) (t y c : Int) : Prop := (N 469 c = y ∨ N 470 c = y) ∧ (lvs N t c ∨ (N 471 c ≤ t ∧ ¬ N 490 c = 0))
theorem lin.cong {t y c : Int} (e : ∀ b, 469 ≤ b → b ≤ 472 → N b c = M b c) (e2 : N 490 c = M 490 c) : lin N t y c ↔ lin M t y c := by
  unfold lin lvs
  rw [e 469 (by omega) (by omega), e 470 (by omega) (by omega), e 471 (by omega) (by omega), e 472 (by omega) (by omega), e2]
theorem m_l30 {t i n : Int} (hn : n ≤ 30) (i0 : 0 ≤ i) (i1 : i < 30) : ∀ (k : Nat) (c : Int) (N : em_M), N 439 47 = n → N 439 75 = t → i < c → n - c ≤ k → ∃ N', f_Model_findsHeads_30 i c N = f_Model_findsHeads_15 (i - 1) N' ∧ (∀ a j, ¬ (a = 490 ∧ j = i) → N' a j = N a j) ∧ (N' 490 i = N 490 i ∨ N' 490 i = 1) ∧ (¬ N' 490 i = 0 ↔ ¬ N 490 i = 0 ∨ ∃ x, c ≤ x ∧ x < n ∧ lin N t i x) := by
  intro k
  induction k with
  | zero =>
    intro c N h47 ht hc hk
    refine ⟨N, ?_, fun _ _ _ => rfl, Or.inl rfl, ⟨Or.inl, fun z => z.elim id (fun ⟨x, x0, x1, _⟩ => by omega)⟩⟩
    rw [q_Model_findsHeads_30, em_cd, if_pos (by omega), x32_s (by omega) (by omega), Int.sub_eq_add_neg]
  | succ k ih =>
    intro c N h47 ht hc hk
    by_cases q : n ≤ c
    · refine ⟨N, ?_, fun _ _ _ => rfl, Or.inl rfl, ⟨Or.inl, fun z => z.elim id (fun ⟨x, x0, x1, _⟩ => by omega)⟩⟩
      rw [q_Model_findsHeads_30, em_cd, if_pos (by omega), x32_s (by omega) (by omega), Int.sub_eq_add_neg]
    · have e := q_Model_findsHeads_30 i c N
      simp only [em_cd] at e
      rw [if_neg (by omega), if_pos (by omega), x32_s (by omega) (by omega)] at e
      have no : ¬ lin N t i c → f_Model_findsHeads_30 i c N = f_Model_findsHeads_30 i (c + 1) N → ∃ N', f_Model_findsHeads_30 i c N = f_Model_findsHeads_15 (i - 1) N' ∧ (∀ a j, ¬ (a = 490 ∧ j = i) → N' a j = N a j) ∧ (N' 490 i = N 490 i ∨ N' 490 i = 1) ∧ (¬ N' 490 i = 0 ↔ ¬ N 490 i = 0 ∨ ∃ x, c ≤ x ∧ x < n ∧ lin N t i x) := fun z1 z2 => by
        obtain ⟨N', h1, h2, h3, h4⟩ := ih (c + 1) N h47 ht (by omega) (by omega)
        refine ⟨N', z2.trans h1, h2, h3, h4.trans ⟨fun z => z.imp id (fun ⟨x, x0, x1, x2⟩ => ⟨x, by omega, x1, x2⟩), fun z => z.imp id (fun ⟨x, x0, x1, x2⟩ => ⟨x, ?_, x1, x2⟩)⟩⟩
        by_cases xc : x = c
        · rw [xc] at x2
          exact absurd x2 z1
        · omega
      have yes : lin N t i c → f_Model_findsHeads_30 i c N = f_Model_findsHeads_30 i (c + 1) (xup N 490 i 1) → ∃ N', f_Model_findsHeads_30 i c N = f_Model_findsHeads_15 (i - 1) N' ∧ (∀ a j, ¬ (a = 490 ∧ j = i) → N' a j = N a j) ∧ (N' 490 i = N 490 i ∨ N' 490 i = 1) ∧ (¬ N' 490 i = 0 ↔ ¬ N 490 i = 0 ∨ ∃ x, c ≤ x ∧ x < n ∧ lin N t i x) := fun z1 z2 => by
        obtain ⟨N', h1, h2, h3, h4⟩ := ih (c + 1) (xup N 490 i 1) (by rw [xup_ne (by omega)]; exact h47) (by rw [xup_ne (by omega)]; exact ht) (by omega) (by omega)
        rw [xup_eq] at h3 h4
        have hne : ¬ N' 490 i = 0 := h4.mpr (Or.inl (by omega))
        refine ⟨N', z2.trans h1, fun a j ha => by rw [h2 a j ha, xup_ne ha], Or.inr (h3.elim id id), ⟨fun _ => Or.inr ⟨c, by omega, by omega, z1⟩, fun _ => hne⟩⟩
      have e58 := q_Model_findsHeads_58 i c N
      rw [ht] at e58
      have fin : (N 469 c = i ∨ N 470 c = i) → f_Model_findsHeads_30 i c N = f_Model_findsHeads_58 i c N → ∃ N', f_Model_findsHeads_30 i c N = f_Model_findsHeads_15 (i - 1) N' ∧ (∀ a j, ¬ (a = 490 ∧ j = i) → N' a j = N a j) ∧ (N' 490 i = N 490 i ∨ N' 490 i = 1) ∧ (¬ N' 490 i = 0 ↔ ¬ N 490 i = 0 ∨ ∃ x, c ≤ x ∧ x < n ∧ lin N t i x) := fun z1 z2 => by
        rw [e58] at z2
        rcases m_lives (N := N) (x := c) (t := t) (by omega) (by omega) with ⟨l1, l2⟩ | ⟨l1, l2⟩
        · rw [l2] at z2
          simp only [Option.bind_some, em_cd] at z2
          rw [if_pos (by omega), if_pos (by omega), x32_s (by omega) (by omega)] at z2
          exact yes ⟨z1, Or.inl l1⟩ z2
        · rw [l2] at z2
          simp only [Option.bind_some, em_cd, ht, eq_self, not_true_eq_false, if_false] at z2
          rw [if_pos (by omega), x32_s (by omega) (by omega)] at z2
          by_cases b1 : t < N 471 c
          · rw [if_pos b1] at z2
            exact no (fun z => z.2.elim l1 (fun z => by omega)) z2
          · rw [if_neg b1, if_pos (by omega)] at z2
            by_cases b2 : N 490 c = 0
            · rw [if_pos b2] at z2
              exact no (fun z => z.2.elim l1 (fun z => z.2 b2)) z2
            · rw [if_neg b2, if_pos (by omega)] at z2
              exact yes ⟨z1, Or.inr ⟨by omega, b2⟩⟩ z2
      by_cases f1 : N 469 c = i
      · rw [if_pos f1] at e
        exact fin (Or.inl f1) e
      · rw [if_neg f1, if_pos (by omega)] at e
        by_cases f2 : N 470 c = i
        · rw [if_neg (fun z => z f2)] at e
          exact fin (Or.inr f2) e
        · rw [if_pos f2] at e
          exact no (fun z => z.1.elim f1 f2) e
/-- what 490 tells of y -/
def lnOk (N : em_M) (t n y : Int) : Prop := (N 490 y = 0 ∨ N 490 y = 1) ∧ (¬ N 490 y = 0 ↔ ∃ c, 0 ≤ c ∧ c < n ∧ lin N t y c)
theorem m_l15 {t n : Int} (hn : n ≤ 30) : ∀ (k : Nat) (i : Int) (N : em_M), N 439 47 = n → N 439 75 = t → (∀ c, 0 ≤ c → c < n → N 469 c < c ∧ N 470 c < c) → -1 ≤ i → i < n → i + 1 ≤ k → (∀ y, i < y → y < n → lnOk N t n y) → ∃ N', f_Model_findsHeads_15 i N = f_Model_findsHeads_113 0 N' ∧ (∀ a j, ¬ a = 490 → N' a j = N a j) ∧ ∀ y, 0 ≤ y → y < n → lnOk N' t n y := by
  intro k
  induction k with
  | zero =>
    intro i N h47 ht hpar i0 i1 hk hy
    refine ⟨N, ?_, fun _ _ _ => rfl, fun y y0 y1 => hy y (by omega) y1⟩
    rw [q_Model_findsHeads_15, em_cd, if_pos (by omega)]
  | succ k ih =>
    intro i N h47 ht hpar i0 i1 hk hy
    by_cases q : i < 0
    · refine ⟨N, ?_, fun _ _ _ => rfl, fun y y0 y1 => hy y (by omega) y1⟩
      rw [q_Model_findsHeads_15, em_cd, if_pos q]
    · obtain ⟨A, a1, a2, a3, a4⟩ := m_l30 (t := t) (n := n) hn (by omega : 0 ≤ i) (by omega) 30 (i + 1) (xup N 490 i 0) (by rw [xup_ne (by omega)]; exact h47) (by rw [xup_ne (by omega)]; exact ht) (by omega) (by omega)
      rw [xup_eq] at a3 a4
      have fA : ∀ a j, ¬ (a = 490 ∧ j = i) → A a j = N a j := fun a j ha => by rw [a2 a j ha, xup_ne ha]
      have c1 : ∀ y c, ¬ c = i → (lin A t y c ↔ lin N t y c) := fun y c hc => lin.cong (fun b b0 b1 => fA b c (by omega)) (fA 490 c (by omega))
      have c2 : ∀ y c, ¬ c = i → (lin (xup N 490 i 0) t y c ↔ lin N t y c) := fun y c hc => lin.cong (fun b b0 b1 => xup_ne (by omega)) (xup_ne (by omega))
      obtain ⟨N', h1, h2, h3⟩ := ih (i - 1) A (by rw [fA _ _ (by omega)]; exact h47) (by rw [fA _ _ (by omega)]; exact ht) (fun c c0 c1 => by rw [fA _ _ (by omega), fA _ _ (by omega)]; exact hpar c c0 c1) (by omega) (by omega) (by omega) (fun y y0 y1 => by
        by_cases yi : y = i
        · rw [yi]
          refine ⟨a3, a4.trans ⟨fun z => z.elim (fun z => absurd rfl z) (fun ⟨x, x0, x1, x2⟩ => ⟨x, by omega, x1, (c1 _ _ (by omega)).mpr ((c2 _ _ (by omega)).mp x2)⟩), fun ⟨x, x0, x1, x2⟩ => Or.inr ⟨x, ?_, x1, ?_⟩⟩⟩
          · have hp := hpar x x0 x1
            rcases x2.1 with z | z
            · rw [fA _ _ (by omega)] at z
              omega
            · rw [fA _ _ (by omega)] at z
              omega
          · have hp := hpar x x0 x1
            have xi : ¬ x = i := by
              rcases x2.1 with z | z
              · rw [fA _ _ (by omega)] at z
                omega
              · rw [fA _ _ (by omega)] at z
                omega
            exact (c2 _ _ xi).mpr ((c1 _ _ xi).mp x2)
        · have hyy := hy y (by omega) y1
          have hx : ∀ c, 0 ≤ c → c < n → (lin A t y c ↔ lin N t y c) := fun c c0 c1' => by
            by_cases ci : c = i
            · have hp := hpar c c0 c1'
              refine ⟨fun z => ?_, fun z => ?_⟩
              · rcases z.1 with z | z
                · rw [fA _ _ (by omega)] at z
                  omega
                · rw [fA _ _ (by omega)] at z
                  omega
              · rcases z.1 with z | z <;> omega
            · exact c1 _ _ ci
          unfold lnOk at hyy ⊢
          rw [fA 490 y (by omega)]
          exact ⟨hyy.1, hyy.2.trans ⟨fun ⟨c, w0, w1, w2⟩ => ⟨c, w0, w1, (hx c w0 w1).mpr w2⟩, fun ⟨c, w0, w1, w2⟩ => ⟨c, w0, w1, (hx c w0 w1).mp w2⟩⟩⟩)
      refine ⟨N', ?_, fun a j ha => by rw [h2 a j ha, fA a j (by omega)], h3⟩
      rw [← h1, ← a1, q_Model_findsHeads_15]
      simp only [em_cd]
      rw [if_neg q, if_pos (by omega), x32_s (by omega) (by omega)]
end
