/-! read: the bytes of the text, blanks, where tokens end. -/
section
variable {C R M : em_M} {b : Int → Int} {n : Int}
/-- a text: its bytes, 0 behind its end -/
def TB (b : Int → Int) (n : Int) : Prop := (0 ≤ n ∧ n ≤ 2000) ∧ (∀ i, -128 ≤ b i ∧ b i ≤ 127) ∧ ∀ i, n ≤ i → b i = 0
def TC (b : Int → Int) (n : Int) (C : em_M) : Prop := C 1 1 = n ∧ ∀ i, 0 ≤ i → i < n → C 2 i = b i
def TM (b : Int → Int) (n : Int) (R : em_M) : Prop := R 439 4 = n ∧ ∀ i, 0 ≤ i → i < n → R 441 i = b i
def tk_l (x : Int) : Prop := 97 ≤ x ∧ x ≤ 122
def tk_d (x : Int) : Prop := 48 ≤ x ∧ x ≤ 57
def tk_a (x : Int) : Prop := tk_l x ∨ tk_d x
def tk_b (x : Int) : Prop := x = 32 ∨ x = 9 ∨ x = 10 ∨ x = 13
def ub (x : Int) : Int := if x < 0 then x + 256 else x
theorem x_and255 {x : Int} (h1 : -128 ≤ x) (h2 : x ≤ 127) : x_and x 255 = ub x := by
  have k : ∀ k : Nat, k < 256 → x_and ((k : Int) - 128) 255 = ub ((k : Int) - 128) := by decide +kernel
  have := k (x + 128).toNat (by omega)
  rw [show (((x + 128).toNat : Nat) : Int) - 128 = x by omega] at this
  exact this
theorem f_L1 {x : Int} (M : em_M) (h : tk_l x) : f_Text_isLetter x M = some (1, M) := by
  unfold tk_l at h
  rw [q_Text_isLetter]
  simp (disch := omega) only [em_cd, if_neg]
theorem f_L0 {x : Int} (M : em_M) (h : ¬ tk_l x) : f_Text_isLetter x M = some (0, M) := by
  unfold tk_l at h
  rw [q_Text_isLetter]
  by_cases c : x < 97
  · simp only [em_cd, if_pos c]
  · simp (disch := omega) only [em_cd, if_neg c, if_pos]
theorem f_D1 {x : Int} (M : em_M) (h : tk_d x) : f_Text_isDigit x M = some (1, M) := by
  unfold tk_d at h
  rw [q_Text_isDigit]
  simp (disch := omega) only [em_cd, if_neg]
theorem f_D0 {x : Int} (M : em_M) (h : ¬ tk_d x) : f_Text_isDigit x M = some (0, M) := by
  unfold tk_d at h
  rw [q_Text_isDigit]
  by_cases c : x < 48
  · simp only [em_cd, if_pos c]
  · simp (disch := omega) only [em_cd, if_neg c, if_pos]
theorem m_L1 {x : Int} (M : em_M) (h : tk_l x) : f_Model_isLetter x M = some (1, M) := by
  unfold tk_l at h
  rw [q_Model_isLetter]
  simp (disch := omega) only [em_cd, if_neg]
theorem m_L0 {x : Int} (M : em_M) (h : ¬ tk_l x) : f_Model_isLetter x M = some (0, M) := by
  unfold tk_l at h
  rw [q_Model_isLetter]
  by_cases c : x < 97
  · simp only [em_cd, if_pos c]
  · simp (disch := omega) only [em_cd, if_neg c, if_pos]
theorem m_D1 {x : Int} (M : em_M) (h : tk_d x) : f_Model_isDigit x M = some (1, M) := by
  unfold tk_d at h
  rw [q_Model_isDigit]
  simp (disch := omega) only [em_cd, if_neg]
theorem m_D0 {x : Int} (M : em_M) (h : ¬ tk_d x) : f_Model_isDigit x M = some (0, M) := by
  unfold tk_d at h
  rw [q_Model_isDigit]
  by_cases c : x < 48
  · simp only [em_cd, if_pos c]
  · simp (disch := omega) only [em_cd, if_neg c, if_pos]
theorem f_B1 {x : Int} (M : em_M) (h : tk_b x) : f_Text_isBlank x M = some (1, M) := by
  unfold tk_b at h
  rw [q_Text_isBlank]
  rcases h with rfl | rfl | rfl | rfl <;> simp only [em_cd] <;> rfl
theorem f_B0 {x : Int} (M : em_M) (h : ¬ tk_b x) : f_Text_isBlank x M = some (0, M) := by
  unfold tk_b at h
  rw [q_Text_isBlank]
  simp (disch := omega) only [em_cd, if_neg, if_pos]
theorem ub_l {x : Int} (h1 : -128 ≤ x) (h2 : x ≤ 127) : tk_l (ub x) ↔ tk_l x := by
  unfold tk_l ub
  by_cases c : x < 0
  · rw [if_pos c]; omega
  · rw [if_neg c]
theorem ub_d {x : Int} (h1 : -128 ≤ x) (h2 : x ≤ 127) : tk_d (ub x) ↔ tk_d x := by
  unfold tk_d ub
  by_cases c : x < 0
  · rw [if_pos c]; omega
  · rw [if_neg c]
theorem ub_id {x : Int} (h : 0 ≤ x) : ub x = x := if_neg (by omega)
theorem f_at (hB : TB b n) (hT : TC b n C) {i : Int} (i0 : 0 ≤ i) : f_Text_byteAt i C = some (b i, C) := by
  have h2 := hB.1.2
  rw [q_Text_byteAt, hT.1]
  simp only [em_cd, if_neg (show ¬ i < 0 by omega)]
  by_cases c : n ≤ i
  · rw [if_pos c, hB.2.2 i c]
  · rw [if_neg c, if_neg (by omega), if_pos (by omega), hT.2 i i0 (by omega)]
theorem m_at (hB : TB b n) (hT : TM b n R) {i : Int} (i0 : 0 ≤ i) : f_Model_at i R = some (ub (b i), R) := by
  have h2 := hB.1.2
  have h3 := hB.2.1 i
  rw [q_Model_at, hT.1]
  simp only [em_cd]
  by_cases c : n ≤ i
  · rw [if_pos c, hB.2.2 i c]
    rfl
  · rw [if_neg c, if_pos (by omega), hT.2 i i0 (by omega), x_and255 h3.1 h3.2]
/-- the class skips blanks -/
theorem c_skip (hB : TB b n) (hT : TC b n C) : ∀ (k : Nat) (i : Int), 0 ≤ i → i ≤ n → n - i ≤ k → ∃ j, f_Text_skipBlanks_2 i C = some (j, C) ∧ i ≤ j ∧ j ≤ n ∧ (∀ x, i ≤ x → x < j → tk_b (b x)) ∧ (j < n → ¬ tk_b (b j)) := by
  intro k
  induction k with
  | zero =>
    intro i i0 i1 hk
    refine ⟨i, ?_, by omega, by omega, fun x x0 x1 => by omega, fun z => by omega⟩
    rw [q_Text_skipBlanks_2, hT.1, em_cd, if_pos (by omega)]
  | succ k ih =>
    intro i i0 i1 hk
    have h2 := hB.1.2
    have e := q_Text_skipBlanks_2 i C
    rw [hT.1, f_at hB hT i0] at e
    simp only [em_cd, Option.bind_some] at e
    by_cases c : n ≤ i
    · rw [if_pos c] at e
      exact ⟨i, e, by omega, by omega, fun x x0 x1 => by omega, fun z => by omega⟩
    · rw [if_neg c] at e
      by_cases c2 : tk_b (b i)
      · rw [f_B1 C c2] at e
        simp only [Option.bind_some] at e
        rw [if_neg (by omega), x32_s (by omega) (by omega)] at e
        obtain ⟨j, k1, k2, k3, k4, k5⟩ := ih (i + 1) (by omega) (by omega) (by omega)
        refine ⟨j, e.trans k1, by omega, k3, fun x x0 x1 => ?_, k5⟩
        by_cases q : x = i
        · subst q
          exact c2
        · exact k4 x (by omega) x1
      · rw [f_B0 C c2] at e
        simp only [Option.bind_some] at e
        rw [if_pos trivial] at e
        exact ⟨i, e, by omega, by omega, fun x x0 x1 => by omega, fun _ => c2⟩
/-- the reference does -/
theorem m_skip (hB : TB b n) (hT : TM b n R) (h10 : ¬ 600 < R 439 10) : ∀ (k : Nat) (i j : Int), 0 ≤ i → i ≤ j → j ≤ n → j - i ≤ k → (∀ x, i ≤ x → x < j → tk_b (b x)) → f_Model_cut_7 i R = f_Model_cut_7 j R := by
  intro k
  induction k with
  | zero =>
    intro i j i0 i1 i2 hk hb
    rw [show i = j by omega]
  | succ k ih =>
    intro i j i0 i1 i2 hk hb
    by_cases q : i = j
    · rw [q]
    · have h2 := hB.1.2
      have hbi := hb i (by omega) (by omega)
      have e := q_Model_cut_7 i R
      rw [m_at hB hT i0] at e
      simp only [em_cd, Option.bind_some, if_neg h10, hT.1] at e
      unfold tk_b at hbi
      rw [if_pos (by omega), ub_id (by omega), x32_s (by omega) (by omega)] at e
      have e2 : f_Model_cut_7 i R = f_Model_cut_7 (i + 1) R := by
        rw [e]
        rcases hbi with z | z | z | z
        · rw [if_neg (by omega), if_neg (by omega), if_neg (by omega), if_neg (by omega)]
        · rw [if_pos (by omega)]
        · rw [if_neg (by omega), if_pos (by omega)]
        · rw [if_neg (by omega), if_neg (by omega), if_pos (by omega)]
      rw [e2]
      exact ih (i + 1) j (by omega) (by omega) i2 (by omega) (fun x x0 x1 => hb x (by omega) x1)
theorem tk_a0 : ¬ tk_a 0 := by
  unfold tk_a tk_l tk_d
  omega
theorem tk_d0 : ¬ tk_d 0 := by
  unfold tk_d
  omega
theorem c_end15 (hB : TB b n) (hT : TC b n C) : ∀ (k : Nat) (i : Int), 0 ≤ i → i ≤ n → n - i ≤ k → ∃ e, f_Text_tokenEnd_15 i C = some (e, C) ∧ i ≤ e ∧ e ≤ n ∧ (∀ x, i ≤ x → x < e → tk_a (b x)) ∧ ¬ tk_a (b e) := by
  intro k
  induction k with
  | zero =>
    intro i i0 i1 hk
    refine ⟨i, ?_, by omega, by omega, fun x x0 x1 => by omega, ?_⟩
    · rw [q_Text_tokenEnd_15, hT.1, em_cd, if_pos (by omega)]
    · rw [hB.2.2 i (by omega)]; exact tk_a0
  | succ k ih =>
    intro i i0 i1 hk
    have h2 := hB.1.2
    have e := q_Text_tokenEnd_15 i C
    rw [hT.1, f_at hB hT i0] at e
    simp only [em_cd, Option.bind_some] at e
    by_cases c : n ≤ i
    · rw [if_pos c] at e
      exact ⟨i, e, by omega, by omega, fun x x0 x1 => by omega, by rw [hB.2.2 i c]; exact tk_a0⟩
    · rw [if_neg c] at e
      have go : tk_a (b i) → f_Text_tokenEnd_15 i C = f_Text_tokenEnd_15 (i + 1) C → ∃ e, f_Text_tokenEnd_15 i C = some (e, C) ∧ i ≤ e ∧ e ≤ n ∧ (∀ x, i ≤ x → x < e → tk_a (b x)) ∧ ¬ tk_a (b e) := fun ha hx => by
        obtain ⟨j, k1, k2, k3, k4, k5⟩ := ih (i + 1) (by omega) (by omega) (by omega)
        refine ⟨j, hx.trans k1, by omega, k3, fun x x0 x1 => ?_, k5⟩
        by_cases q : x = i
        · subst q
          exact ha
        · exact k4 x (by omega) x1
      by_cases c2 : tk_l (b i)
      · rw [f_L1 C c2] at e
        simp only [Option.bind_some] at e
        rw [if_pos (by omega), x32_s (by omega) (by omega)] at e
        exact go (Or.inl c2) e
      · rw [f_L0 C c2] at e
        simp only [Option.bind_some] at e
        rw [if_neg (fun z => z trivial), f_at hB hT i0] at e
        simp only [Option.bind_some] at e
        by_cases c3 : tk_d (b i)
        · rw [f_D1 C c3] at e
          simp only [Option.bind_some] at e
          rw [if_neg (by omega), x32_s (by omega) (by omega)] at e
          exact go (Or.inr c3) e
        · rw [f_D0 C c3] at e
          simp only [Option.bind_some] at e
          rw [if_pos trivial] at e
          exact ⟨i, e, by omega, by omega, fun x x0 x1 => by omega, fun z => z.elim c2 c3⟩
theorem c_end62 (hB : TB b n) (hT : TC b n C) : ∀ (k : Nat) (i : Int), 0 ≤ i → i ≤ n → n - i ≤ k → ∃ e, f_Text_tokenEnd_62 i C = some (e, C) ∧ i ≤ e ∧ e ≤ n ∧ (∀ x, i ≤ x → x < e → tk_d (b x)) ∧ ¬ tk_d (b e) := by
  intro k
  induction k with
  | zero =>
    intro i i0 i1 hk
    refine ⟨i, ?_, by omega, by omega, fun x x0 x1 => by omega, ?_⟩
    · rw [q_Text_tokenEnd_62, hT.1, em_cd, if_pos (by omega)]
    · rw [hB.2.2 i (by omega)]; exact tk_d0
  | succ k ih =>
    intro i i0 i1 hk
    have h2 := hB.1.2
    have e := q_Text_tokenEnd_62 i C
    rw [hT.1, f_at hB hT i0] at e
    simp only [em_cd, Option.bind_some] at e
    by_cases c : n ≤ i
    · rw [if_pos c] at e
      exact ⟨i, e, by omega, by omega, fun x x0 x1 => by omega, by rw [hB.2.2 i c]; exact tk_d0⟩
    · rw [if_neg c] at e
      by_cases c3 : tk_d (b i)
      · rw [f_D1 C c3] at e
        simp only [Option.bind_some] at e
        rw [if_neg (by omega), x32_s (by omega) (by omega)] at e
        obtain ⟨j, k1, k2, k3, k4, k5⟩ := ih (i + 1) (by omega) (by omega) (by omega)
        refine ⟨j, e.trans k1, by omega, k3, fun x x0 x1 => ?_, k5⟩
        by_cases q : x = i
        · subst q
          exact c3
        · exact k4 x (by omega) x1
      · rw [f_D0 C c3] at e
        simp only [Option.bind_some] at e
        rw [if_pos trivial] at e
        exact ⟨i, e, by omega, by omega, fun x x0 x1 => by omega, c3⟩
/-- where the class ends a token -/
theorem c_end (hB : TB b n) (hT : TC b n C) {j : Int} (j0 : 0 ≤ j) (j1 : j < n) : ∃ e, f_Text_tokenEnd j C = some (e, C) ∧ j < e ∧ e ≤ n ∧ (tk_l (b j) → (∀ x, j ≤ x → x < e → tk_a (b x)) ∧ ¬ tk_a (b e)) ∧ (tk_d (b j) → (∀ x, j ≤ x → x < e → tk_d (b x)) ∧ ¬ tk_d (b e)) ∧ (¬ tk_l (b j) → ¬ tk_d (b j) → e = j + 1) := by
  have h2 := hB.1.2
  have q := q_Text_tokenEnd j C
  rw [f_at hB hT j0] at q
  simp only [em_cd, Option.bind_some] at q
  have ld : tk_l (b j) → ¬ tk_d (b j) := fun z => by
    unfold tk_l at z
    unfold tk_d
    omega
  by_cases c : tk_l (b j)
  · rw [f_L1 C c] at q
    simp only [Option.bind_some] at q
    rw [if_neg (by omega), x32_s (by omega) (by omega)] at q
    obtain ⟨e, k1, k2, k3, k4, k5⟩ := c_end15 hB hT (n - (j + 1)).toNat (j + 1) (by omega) (by omega) (by omega)
    refine ⟨e, q.trans k1, by omega, k3, fun _ => ⟨fun x x0 x1 => ?_, k5⟩, fun z => absurd z (ld c), fun z => absurd c z⟩
    by_cases w : x = j
    · subst w
      exact Or.inl c
    · exact k4 x (by omega) x1
  · rw [f_L0 C c] at q
    simp only [Option.bind_some] at q
    rw [if_pos trivial, f_at hB hT j0] at q
    simp only [Option.bind_some] at q
    by_cases c3 : tk_d (b j)
    · rw [f_D1 C c3] at q
      simp only [Option.bind_some] at q
      rw [if_neg (by omega), x32_s (by omega) (by omega)] at q
      obtain ⟨e, k1, k2, k3, k4, k5⟩ := c_end62 hB hT (n - (j + 1)).toNat (j + 1) (by omega) (by omega) (by omega)
      refine ⟨e, q.trans k1, by omega, k3, fun z => absurd z c, fun _ => ⟨fun x x0 x1 => ?_, k5⟩, fun _ z => absurd c3 z⟩
      by_cases w : x = j
      · subst w
        exact c3
      · exact k4 x (by omega) x1
    · rw [f_D0 C c3] at q
      simp only [Option.bind_some] at q
      rw [if_pos trivial, x32_s (by omega) (by omega)] at q
      exact ⟨j + 1, q, by omega, by omega, fun z => absurd z c, fun z => absurd z c3, fun _ _ => rfl⟩
end
