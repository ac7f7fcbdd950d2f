/-! THE ARM settle: the reference's loops. -/
section
variable {M N : em_M}
theorem m_39 {t g p s : Int} (p0 : 0 ≤ p) (p1 : p < 30) : ∃ g1, f_Model_settle_39 t g p s M = f_Model_settle_11 t s g1 (p + 1) M ∧ (¬ g1 = 0 ↔ ¬ g = 0 ∧ (¬ M 473 p = 0 → M 471 p ≤ t)) := by
  have e := q_Model_settle_39 t g p s M
  simp (disch := omega) only [em_cd, x32_s, if_pos (show 0 ≤ p ∧ p < 30 from ⟨p0, p1⟩)] at e
  by_cases c1 : g = 0
  · rw [if_pos c1] at e
    exact ⟨0, e, ⟨fun z => absurd rfl z, fun z => absurd c1 z.1⟩⟩
  · rw [if_neg c1] at e
    by_cases c2 : M 473 p = 0
    · rw [if_pos c2] at e
      exact ⟨1, e, ⟨fun _ => ⟨c1, fun z => absurd c2 z⟩, fun _ => by omega⟩⟩
    · rw [if_neg c2] at e
      by_cases c3 : t < M 471 p
      · rw [if_pos c3] at e
        exact ⟨0, e, ⟨fun z => absurd rfl z, fun z => by have := z.2 c2; omega⟩⟩
      · rw [if_neg c3] at e
        exact ⟨1, e, ⟨fun _ => ⟨c1, fun _ => by omega⟩, fun _ => by omega⟩⟩
theorem m_11s {t a g p : Int} (p0 : 0 ≤ p) (p1 : p < 30) (hp : p < M 439 47) : ∃ a1 g1, f_Model_settle_11 t a g p M = f_Model_settle_11 t a1 g1 (p + 1) M ∧ (¬ a1 = 0 ↔ ¬ a = 0 ∨ ¬ M 473 p = 0) ∧ (¬ g1 = 0 ↔ ¬ g = 0 ∧ (¬ M 473 p = 0 → M 471 p ≤ t)) := by
  have e := q_Model_settle_11 t a g p M
  simp (disch := omega) only [em_cd, if_neg (show ¬ M 439 47 ≤ p by omega), if_pos (show 0 ≤ p ∧ p < 30 from ⟨p0, p1⟩)] at e
  by_cases c1 : a = 0
  · rw [if_neg (fun z => z c1)] at e
    by_cases c2 : M 473 p = 0
    · rw [if_pos c2] at e
      obtain ⟨g1, k1, k2⟩ := m_39 (M := M) (t := t) (g := g) (s := 0) p0 p1
      exact ⟨0, g1, e.trans k1, ⟨fun z => absurd rfl z, fun z => z.elim (fun z => absurd c1 z) (fun z => absurd c2 z)⟩, k2⟩
    · rw [if_neg c2] at e
      obtain ⟨g1, k1, k2⟩ := m_39 (M := M) (t := t) (g := g) (s := 1) p0 p1
      exact ⟨1, g1, e.trans k1, ⟨fun _ => Or.inr c2, fun _ => by omega⟩, k2⟩
  · rw [if_pos c1] at e
    obtain ⟨g1, k1, k2⟩ := m_39 (M := M) (t := t) (g := g) (s := 1) p0 p1
    exact ⟨1, g1, e.trans k1, ⟨fun _ => Or.inl c1, fun _ => by omega⟩, k2⟩
theorem m_11 {t n : Int} (hn : n ≤ 30) (h47 : M 439 47 = n) : ∀ (k : Nat) (a g p : Int), 0 ≤ p → p + k = n → ∃ a1 g1, f_Model_settle_11 t a g p M = f_Model_settle_11 t a1 g1 n M ∧ (¬ a1 = 0 ↔ ¬ a = 0 ∨ ∃ x, p ≤ x ∧ x < n ∧ ¬ M 473 x = 0) ∧ (¬ g1 = 0 ↔ ¬ g = 0 ∧ ∀ x, p ≤ x → x < n → ¬ M 473 x = 0 → M 471 x ≤ t)
  | 0, a, g, p, p0, hp => by
    have : p = n := by omega
    subst this
    exact ⟨a, g, rfl, ⟨fun z => Or.inl z, fun z => z.elim id (fun ⟨x, x0, x1, _⟩ => by omega)⟩, ⟨fun z => ⟨z, fun x x0 x1 => by omega⟩, fun z => z.1⟩⟩
  | k + 1, a, g, p, p0, hp => by
    obtain ⟨a1, g1, k1, k2, k3⟩ := m_11s (M := M) (t := t) (a := a) (g := g) p0 (by omega) (by omega)
    obtain ⟨a2, g2, l1, l2, l3⟩ := m_11 hn h47 k a1 g1 (p + 1) (by omega) (by omega)
    refine ⟨a2, g2, k1.trans l1, l2.trans ?_, l3.trans ?_⟩
    · rw [k2]
      constructor
      · rintro ((z | z) | ⟨x, x0, x1, x2⟩)
        · exact Or.inl z
        · exact Or.inr ⟨p, by omega, by omega, z⟩
        · exact Or.inr ⟨x, by omega, x1, x2⟩
      · rintro (z | ⟨x, x0, x1, x2⟩)
        · exact Or.inl (Or.inl z)
        · by_cases q : x = p
          · subst q
            exact Or.inl (Or.inr x2)
          · exact Or.inr ⟨x, by omega, x1, x2⟩
    · rw [k3]
      constructor
      · rintro ⟨⟨z1, z2⟩, z3⟩
        refine ⟨z1, fun x x0 x1 x2 => ?_⟩
        by_cases q : x = p
        · subst q
          exact z2 x2
        · exact z3 x (by omega) x1 x2
      · rintro ⟨z1, z2⟩
        exact ⟨⟨z1, z2 p (by omega) (by omega)⟩, fun x x0 x1 => z2 x (by omega) x1⟩
theorem m_108 {t n : Int} (hn : n ≤ 30) : ∀ (k : Nat) (M : em_M) (p : Int), M 439 47 = n → 0 ≤ p → p + k = n → ∃ M', f_Model_settle_108 t p M = f_Model_settle_147 t 0 0 M' ∧ (∀ x, p ≤ x → x < n → M' 472 x = if M 473 x = 0 then M 472 x else t) ∧ ∀ c j, ¬ (c = 472 ∧ p ≤ j ∧ j < n) → M' c j = M c j
  | 0, M, p, h47, p0, hp => by
    have e := q_Model_settle_108 t p M
    simp (disch := omega) only [em_cd, if_pos (show M 439 47 ≤ p by omega)] at e
    exact ⟨M, e, fun x x0 x1 => by omega, fun _ _ _ => rfl⟩
  | k + 1, M, p, h47, p0, hp => by
    have e := q_Model_settle_108 t p M
    simp (disch := omega) only [em_cd, x32_s, if_neg (show ¬ M 439 47 ≤ p by omega), if_pos (show 0 ≤ p ∧ p < 30 from ⟨p0, by omega⟩)] at e
    by_cases c : M 473 p = 0
    · rw [if_pos c] at e
      obtain ⟨M', k1, k2, k3⟩ := m_108 hn k M (p + 1) h47 (by omega) (by omega)
      refine ⟨M', e.trans k1, fun x x0 x1 => ?_, fun c j hc => k3 c j (by omega)⟩
      by_cases q : x = p
      · subst q
        rw [k3 _ _ (by omega), if_pos c]
      · exact k2 x (by omega) x1
    · rw [if_neg c] at e
      obtain ⟨M', k1, k2, k3⟩ := m_108 hn k (xup M 472 p t) (p + 1) (by rw [xup_ne (by omega)]; exact h47) (by omega) (by omega)
      refine ⟨M', e.trans k1, fun x x0 x1 => ?_, fun c j hc => by rw [k3 c j (by omega), xup_ne (by omega)]⟩
      by_cases q : x = p
      · subst q
        rw [k3 _ _ (by omega), if_neg c, xup_eq]
      · rw [k2 x (by omega) x1, xup_ne (by omega), xup_ne (by omega)]
theorem m_214 {n d : Int} (hn : n ≤ 30) : ∀ (k : Nat) (M : em_M) (p : Int), M 439 47 = n → M 439 115 = d → 0 ≤ p → p + k = n → ∃ M', f_Model_settle_214 p M = (f_Model_takesBack d n M').bind (fun r => some (-2, r.2)) ∧ (∀ x, p ≤ x → x < n → M' 472 x = if M 473 x = 0 then M 472 x else -1) ∧ ∀ c j, ¬ (c = 472 ∧ p ≤ j ∧ j < n) → M' c j = M c j
  | 0, M, p, h47, hd, p0, hp => by
    have e := q_Model_settle_214 p M
    simp (disch := omega) only [em_cd, if_pos (show M 439 47 ≤ p by omega)] at e
    rw [h47, hd] at e
    exact ⟨M, e, fun x x0 x1 => by omega, fun _ _ _ => rfl⟩
  | k + 1, M, p, h47, hd, p0, hp => by
    have e := q_Model_settle_214 p M
    simp (disch := omega) only [em_cd, x32_s, if_neg (show ¬ M 439 47 ≤ p by omega), if_pos (show 0 ≤ p ∧ p < 30 from ⟨p0, by omega⟩)] at e
    by_cases c : M 473 p = 0
    · rw [if_pos c] at e
      obtain ⟨M', k1, k2, k3⟩ := m_214 (d := d) hn k M (p + 1) h47 hd (by omega) (by omega)
      refine ⟨M', e.trans k1, fun x x0 x1 => ?_, fun c j hc => k3 c j (by omega)⟩
      by_cases q : x = p
      · subst q
        rw [k3 _ _ (by omega), if_pos c]
      · exact k2 x (by omega) x1
    · rw [if_neg c] at e
      obtain ⟨M', k1, k2, k3⟩ := m_214 (d := d) hn k (xup M 472 p (-1)) (p + 1) (by rw [xup_ne (by omega)]; exact h47) (by rw [xup_ne (by omega)]; exact hd) (by omega) (by omega)
      refine ⟨M', e.trans k1, fun x x0 x1 => ?_, fun c j hc => by rw [k3 c j (by omega), xup_ne (by omega)]⟩
      by_cases q : x = p
      · subst q
        rw [k3 _ _ (by omega), if_neg c, xup_eq]
      · rw [k2 x (by omega) x1, xup_ne (by omega), xup_ne (by omega)]
theorem m_s265 {t m n d : Int} (hn : n ≤ 30) (d0 : 0 ≤ d) (d1 : d < 30) : ∀ (k : Nat) (M : em_M) (p : Int), M 439 47 = n → M 439 115 = d → 0 ≤ p → p + k = n → ∃ M', f_Model_settle_265 t m p M = some (m, M') ∧ (∀ x, p ≤ x → x < n → (¬ M 473 x = 0 → M' 473 x = 0 ∧ M' 506 x = 1 ∧ M' 517 x = d) ∧ (M 473 x = 0 → M' 473 x = 0 ∧ M' 506 x = M 506 x ∧ M' 517 x = M 517 x)) ∧ (M' 515 d = M 439 72 ∧ M' 516 d = n ∧ M' 439 72 = t ∧ M' 439 115 = d + 1) ∧ ∀ c j, ¬ (((c = 473 ∨ c = 506 ∨ c = 517) ∧ p ≤ j ∧ j < n) ∨ ((c = 515 ∨ c = 516) ∧ j = d) ∨ (c = 439 ∧ (j = 72 ∨ j = 115))) → M' c j = M c j
  | 0, M, p, h47, hd, p0, hp => by
    have e := q_Model_settle_265 t m p M
    simp (disch := omega) only [em_cd, x32_s, if_pos (show M 439 47 ≤ p by omega), if_pos (show n ≤ p by omega), xup_ne, hd, h47, if_pos (show 0 ≤ d ∧ d < 30 from ⟨d0, d1⟩), q_Model_settle_346] at e
    refine ⟨_, e, fun x x0 x1 => by omega, ?_, fun c j hc => ?_⟩
    · simp (disch := omega) only [xup_ne, xup_eq, and_self]
    · simp (disch := omega) only [xup_ne]
  | k + 1, M, p, h47, hd, p0, hp => by
    have e := q_Model_settle_265 t m p M
    simp (disch := omega) only [em_cd, x32_s, if_neg (show ¬ M 439 47 ≤ p by omega), xup_ne, hd, if_pos (show 0 ≤ p ∧ p < 30 from ⟨p0, by omega⟩), if_pos (show 0 ≤ p ∧ p < 32 from ⟨p0, by omega⟩)] at e
    by_cases c : M 473 p = 0
    · rw [if_neg (fun z => z c)] at e
      obtain ⟨M', k1, k2, k3, k4⟩ := m_s265 hn d0 d1 k M (p + 1) h47 hd (by omega) (by omega)
      refine ⟨M', e.trans k1, fun x x0 x1 => ?_, k3, fun c j hc => k4 c j (by omega)⟩
      by_cases q : x = p
      · subst q
        rw [k4 473 x (by omega), k4 506 x (by omega), k4 517 x (by omega)]
        exact ⟨fun z => absurd c z, fun z => ⟨z, rfl, rfl⟩⟩
      · exact k2 x (by omega) x1
    · rw [if_pos c] at e
      obtain ⟨M', k1, k2, k3, k4⟩ := m_s265 hn d0 d1 k (xup (xup (xup M 473 p 0) 506 p 1) 517 p d) (p + 1) (by simp (disch := omega) only [xup_ne]; exact h47) (by simp (disch := omega) only [xup_ne]; exact hd) (by omega) (by omega)
      refine ⟨M', e.trans k1, fun x x0 x1 => ?_, ?_, fun c j hc => by rw [k4 c j (by omega), xup_ne (by omega), xup_ne (by omega), xup_ne (by omega)]⟩
      · by_cases q : x = p
        · subst q
          rw [k4 473 x (by omega), k4 506 x (by omega), k4 517 x (by omega)]
          simp (disch := omega) only [xup_ne, xup_eq]
          exact ⟨fun _ => by simp, fun z => absurd z c⟩
        · have h2 := k2 x (by omega) x1
          simp (disch := omega) only [xup_ne] at h2
          exact h2
      · simp (disch := omega) only [xup_ne] at k3
        exact k3
end
