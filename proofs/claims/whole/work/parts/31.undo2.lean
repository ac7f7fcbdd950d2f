/-! undo of the reference; what it saves and takes back. -/
section
variable {M : em_M}
def tkM (M : em_M) (t m i : Int) : em_M := fun c j => if c = 474 ∧ i ≤ j ∧ j < m then M 518 (32 * t + j) else if c = 475 ∧ i ≤ j ∧ j < m then M 519 (32 * t + j) else M c j
def toM (M : em_M) (t : Int) : em_M := xup (xup (xup (xup M 487 0 (M 518 (32 * t + 30))) 488 0 (M 519 (32 * t + 30))) 487 1 (M 518 (32 * t + 31))) 488 1 (M 519 (32 * t + 31))
theorem tkM_end {t m i : Int} (h : m ≤ i) : tkM M t m i = M := by
  funext c j
  unfold tkM
  rw [if_neg (by omega), if_neg (by omega)]
theorem tkM_step {t m i : Int} (h : i < m) : tkM (xup (xup M 474 i (M 518 (32 * t + i))) 475 i (M 519 (32 * t + i))) t m (i + 1) = tkM M t m i := by
  funext c j
  unfold tkM
  simp (disch := omega) only [rd1]
  by_cases q : c = 474 ∧ i ≤ j ∧ j < m
  · rw [if_pos q]
    by_cases r : i + 1 ≤ j
    · rw [if_pos (by omega)]
    · have : j = i := by omega
      subst this
      rw [if_neg (by omega), if_neg (by omega), q.1, rd1 (by omega), xup_eq]
  · rw [if_neg q]
    by_cases q2 : c = 475 ∧ i ≤ j ∧ j < m
    · rw [if_pos q2, if_neg (by omega)]
      by_cases r : i + 1 ≤ j
      · rw [if_pos (by omega)]
      · have : j = i := by omega
        subst this
        rw [if_neg (by omega), q2.1, xup_eq]
    · rw [if_neg q2, if_neg (by omega), if_neg (by omega), xup_ne (by omega), xup_ne (by omega)]
theorem m_tk49 {t : Int} (t0 : 0 ≤ t) (t1 : t ≤ 30) : f_Model_takesBack_49 t 0 M = some (0, toM M t) := by
  have st : ∀ (o : Int) (A : em_M), 0 ≤ o → o < 2 → f_Model_takesBack_49 t o A = f_Model_takesBack_49 t (o + 1) (xup (xup A 487 o (A 518 (32 * t + 30 + o))) 488 o (A 519 (32 * t + 30 + o))) := fun o A o0 o1 => by
    rw [q_Model_takesBack_49]
    simp (disch := omega) only [em_cd, if_pos, if_neg, x32_s, xup_ne]
  rw [st 0 M (by omega) (by omega), st _ _ (by omega) (by omega), q_Model_takesBack_49]
  simp (disch := omega) only [em_cd, if_pos]
  unfold toM
  simp (disch := omega) only [xup_ne, Int.add_zero, Int.zero_add]
  rw [show 32 * t + 30 + 1 = 32 * t + 31 by omega]
theorem m_tk_i {t m : Int} (t0 : 0 ≤ t) (t1 : t ≤ 30) (m1 : m ≤ 30) : ∀ (k : Nat) (M : em_M) (i : Int), 0 ≤ i → m - i ≤ k → f_Model_takesBack_2 t m i M = some (0, toM (tkM M t m i) t) := by
  intro k
  induction k with
  | zero =>
    intro M i i0 hk
    rw [q_Model_takesBack_2, em_cd, if_pos (by omega), m_tk49 t0 t1, tkM_end (by omega)]
  | succ k ih =>
    intro M i i0 hk
    by_cases q : m ≤ i
    · rw [q_Model_takesBack_2, em_cd, if_pos (by omega), m_tk49 t0 t1, tkM_end (by omega)]
    · rw [q_Model_takesBack_2]
      simp (disch := omega) only [em_cd, if_pos, if_neg, x32_s, xup_ne]
      rw [ih _ _ (by omega) (by omega), tkM_step (by omega)]
theorem m_takesBack {t m : Int} (t0 : 0 ≤ t) (t1 : t ≤ 30) (m0 : 0 ≤ m) (m1 : m ≤ 30) : f_Model_takesBack t m M = some (0, toM (tkM M t m 0) t) := by
  rw [q_Model_takesBack]
  exact m_tk_i t0 t1 m1 30 M 0 (by omega) (by omega)
theorem tkM_ne {t m i c j : Int} (h : ¬ ((c = 474 ∨ c = 475) ∧ i ≤ j ∧ j < m)) : tkM M t m i c j = M c j := by
  unfold tkM
  rw [if_neg (by omega), if_neg (by omega)]
theorem tkM_u {t m i j : Int} (h : i ≤ j) (h2 : j < m) : tkM M t m i 474 j = M 518 (32 * t + j) := if_pos ⟨rfl, h, h2⟩
theorem tkM_l {t m i j : Int} (h : i ≤ j) (h2 : j < m) : tkM M t m i 475 j = M 519 (32 * t + j) := by
  unfold tkM
  rw [if_neg (by omega), if_pos ⟨rfl, h, h2⟩]
theorem toM_ne {t c j : Int} (h : ¬ ((c = 487 ∨ c = 488) ∧ (j = 0 ∨ j = 1))) : toM M t c j = M c j := by
  unfold toM
  simp (disch := omega) only [xup_ne]
theorem toM_at {t : Int} : toM M t 487 0 = M 518 (32 * t + 30) ∧ toM M t 488 0 = M 519 (32 * t + 30) ∧ toM M t 487 1 = M 518 (32 * t + 31) ∧ toM M t 488 1 = M 519 (32 * t + 31) := by
  unfold toM
  simp (disch := omega) only [xup_ne, xup_eq, and_self]
/-! saves -/
def svM (M : em_M) (t i : Int) : em_M := fun c j => if c = 518 ∧ 32 * t + i ≤ j ∧ j < 32 * t + 30 then M 474 (j - 32 * t) else if c = 519 ∧ 32 * t + i ≤ j ∧ j < 32 * t + 30 then M 475 (j - 32 * t) else M c j
def soM (M : em_M) (t : Int) : em_M := xup (xup (xup (xup M 518 (32 * t + 30) (M 487 0)) 519 (32 * t + 30) (M 488 0)) 518 (32 * t + 31) (M 487 1)) 519 (32 * t + 31) (M 488 1)
theorem svM_end {t i : Int} (h : 30 ≤ i) : svM M t i = M := by
  funext c j
  unfold svM
  rw [if_neg (by omega), if_neg (by omega)]
theorem svM_step {t i : Int} (h : i < 30) : svM (xup (xup M 518 (32 * t + i) (M 474 i)) 519 (32 * t + i) (M 475 i)) t (i + 1) = svM M t i := by
  funext c j
  unfold svM
  simp (disch := omega) only [rd1]
  by_cases q : c = 518 ∧ 32 * t + i ≤ j ∧ j < 32 * t + 30
  · rw [if_pos q]
    by_cases r : 32 * t + (i + 1) ≤ j
    · rw [if_pos (by omega)]
    · have : j = 32 * t + i := by omega
      subst this
      rw [if_neg (by omega), if_neg (by omega), q.1, rd1 (by omega), xup_eq, show 32 * t + i - 32 * t = i by omega]
  · rw [if_neg q]
    by_cases q2 : c = 519 ∧ 32 * t + i ≤ j ∧ j < 32 * t + 30
    · rw [if_pos q2, if_neg (by omega)]
      by_cases r : 32 * t + (i + 1) ≤ j
      · rw [if_pos (by omega)]
      · have : j = 32 * t + i := by omega
        subst this
        rw [if_neg (by omega), q2.1, xup_eq, show 32 * t + i - 32 * t = i by omega]
    · rw [if_neg q2, if_neg (by omega), if_neg (by omega), xup_ne (by omega), xup_ne (by omega)]
theorem m_sv50 {t : Int} (t0 : 0 ≤ t) (t1 : t ≤ 30) : f_Model_saves_50 t 0 M = some (0, soM M t) := by
  have st : ∀ (o : Int) (A : em_M), 0 ≤ o → o < 2 → f_Model_saves_50 t o A = f_Model_saves_50 t (o + 1) (xup (xup A 518 (32 * t + 30 + o) (A 487 o)) 519 (32 * t + 30 + o) (A 488 o)) := fun o A o0 o1 => by
    rw [q_Model_saves_50]
    simp (disch := omega) only [em_cd, if_pos, if_neg, x32_s, xup_ne]
  rw [st 0 M (by omega) (by omega), st _ _ (by omega) (by omega), q_Model_saves_50]
  simp (disch := omega) only [em_cd, if_pos]
  unfold soM
  simp (disch := omega) only [xup_ne, Int.add_zero, Int.zero_add]
  rw [show 32 * t + 30 + 1 = 32 * t + 31 by omega]
theorem m_sv_i {t : Int} (t0 : 0 ≤ t) (t1 : t ≤ 30) : ∀ (k : Nat) (M : em_M) (i : Int), 0 ≤ i → 30 - i ≤ k → f_Model_saves_2 t i M = some (0, soM (svM M t i) t) := by
  intro k
  induction k with
  | zero =>
    intro M i i0 hk
    rw [q_Model_saves_2, em_cd, if_pos (by omega), m_sv50 t0 t1, svM_end (by omega)]
  | succ k ih =>
    intro M i i0 hk
    by_cases q : 30 ≤ i
    · rw [q_Model_saves_2, em_cd, if_pos (by omega), m_sv50 t0 t1, svM_end (by omega)]
    · rw [q_Model_saves_2]
      simp (disch := omega) only [em_cd, if_pos, if_neg, x32_s, xup_ne]
      rw [ih _ _ (by omega) (by omega), svM_step (by omega)]
theorem m_saves {t : Int} (t0 : 0 ≤ t) (t1 : t ≤ 30) : f_Model_saves t M = some (0, soM (svM M t 0) t) := by
  rw [q_Model_saves]
  exact m_sv_i t0 t1 30 M 0 (by omega) (by omega)
/-- what saves keeps -/
theorem m_saves' {t : Int} (t0 : 0 ≤ t) (t1 : t ≤ 30) : ∃ M', f_Model_saves t M = some (0, M') ∧ (∀ p, 0 ≤ p → p < 30 → M' 518 (32 * t + p) = M 474 p ∧ M' 519 (32 * t + p) = M 475 p) ∧ (M' 518 (32 * t + 30) = M 487 0 ∧ M' 519 (32 * t + 30) = M 488 0 ∧ M' 518 (32 * t + 31) = M 487 1 ∧ M' 519 (32 * t + 31) = M 488 1) ∧ ∀ c j, ¬ ((c = 518 ∨ c = 519) ∧ 32 * t ≤ j ∧ j < 32 * t + 32) → M' c j = M c j := by
  refine ⟨_, m_saves t0 t1, fun p q0 q1 => ?_, ?_, fun c j hc => ?_⟩
  · unfold soM svM
    rw [xup_ne (by omega), xup_ne (by omega), xup_ne (by omega), xup_ne (by omega), xup_ne (by omega), xup_ne (by omega), xup_ne (by omega), xup_ne (by omega), if_pos (by omega), if_neg (by omega), if_pos (by omega), show 32 * t + p - 32 * t = p by omega]
    exact ⟨rfl, rfl⟩
  · unfold soM
    simp (disch := omega) only [xup_ne, xup_eq]
    unfold svM
    simp (disch := omega) only [if_neg, and_self]
  · unfold soM svM
    rw [xup_ne (by omega), xup_ne (by omega), xup_ne (by omega), xup_ne (by omega), if_neg (by omega), if_neg (by omega)]
/-- what takesBack brings -/
theorem m_takesBack' {t m : Int} (t0 : 0 ≤ t) (t1 : t ≤ 30) (m0 : 0 ≤ m) (m1 : m ≤ 30) : ∃ M', f_Model_takesBack t m M = some (0, M') ∧ (∀ p, 0 ≤ p → p < m → M' 474 p = M 518 (32 * t + p) ∧ M' 475 p = M 519 (32 * t + p)) ∧ (M' 487 0 = M 518 (32 * t + 30) ∧ M' 488 0 = M 519 (32 * t + 30) ∧ M' 487 1 = M 518 (32 * t + 31) ∧ M' 488 1 = M 519 (32 * t + 31)) ∧ ∀ c j, ¬ (((c = 474 ∨ c = 475) ∧ 0 ≤ j ∧ j < m) ∨ ((c = 487 ∨ c = 488) ∧ (j = 0 ∨ j = 1))) → M' c j = M c j := by
  refine ⟨_, m_takesBack t0 t1 m0 m1, fun p q0 q1 => ?_, ?_, fun c j hc => ?_⟩
  · rw [toM_ne (by omega), toM_ne (by omega), tkM_u q0 q1, tkM_l q0 q1]
    exact ⟨rfl, rfl⟩
  · have := toM_at (M := tkM M t m 0) (t := t)
    rw [tkM_ne (by omega), tkM_ne (by omega), tkM_ne (by omega), tkM_ne (by omega)] at this
    exact this
  · rw [toM_ne (by omega), tkM_ne (by omega)]
/-! the loop of undo -/
def unC (M : em_M) (t j : Int) : Prop := ¬ M 506 j = 0 ∧ M 517 j = t
theorem m_undo_e {i : Int} (h : M 439 47 ≤ i) : f_Model_undo_21 i M = bif decide (0 ≤ M 439 115 ∧ M 439 115 < 30) then f_Model_undo_101 (xup M 439 72 (M 515 (M 439 115))) else none := by
  rw [q_Model_undo_21, em_cd, if_pos h]
theorem m_undo_end {i : Int} (h : M 439 47 ≤ i) (hn : M 439 47 ≤ 30) : f_Model_undo_21 i M = f_Model_undo_21 30 M := by
  rw [m_undo_e h, m_undo_e hn]
theorem m_undo_i {t : Int} : ∀ (k : Nat) (M : em_M) (i : Int), 0 ≤ i → M 439 47 ≤ 30 → M 439 115 = t → M 439 47 - i ≤ k → ∃ M', f_Model_undo_21 i M = f_Model_undo_21 30 M' ∧ (∀ j, i ≤ j → j < M 439 47 → (unC M t j → M' 473 j = 1 ∧ M' 506 j = 0 ∧ M' 472 j = -1) ∧ (¬ unC M t j → M' 473 j = 0 ∧ M' 506 j = M 506 j ∧ M' 472 j = M 472 j)) ∧ ∀ c j, ¬ ((c = 472 ∨ c = 473 ∨ c = 506) ∧ i ≤ j ∧ j < M 439 47) → M' c j = M c j := by
  intro k
  induction k with
  | zero =>
    intro M i i0 hn ht hk
    refine ⟨M, ?_, fun j j0 j1 => absurd j1 (by omega), fun _ _ _ => rfl⟩
    exact m_undo_end (by omega) hn
  | succ k ih =>
    intro M i i0 hn ht hk
    by_cases q : M 439 47 ≤ i
    · refine ⟨M, ?_, fun j j0 j1 => absurd j1 (by omega), fun _ _ _ => rfl⟩
      exact m_undo_end (by omega) hn
    · by_cases hc : unC M t i
      · obtain ⟨M', k1, k2, k3⟩ := ih (xup (xup (xup (xup M 473 i 0) 506 i 0) 472 i (-1)) 473 i 1) (i + 1) (by omega) (by simp (disch := omega) only [xup_ne]; exact hn) (by simp (disch := omega) only [xup_ne]; exact ht) (by simp (disch := omega) only [xup_ne]; omega)
        refine ⟨M', ?_, fun j j0 j1 => ?_, fun c j hj => ?_⟩
        · rw [← k1, q_Model_undo_21]
          obtain ⟨c1, c2⟩ := hc
          simp (disch := omega) only [em_cd, if_neg, if_pos, xup_ne, x32_s]
        · by_cases ji : j = i
          · subst ji
            refine ⟨fun _ => ?_, fun z => absurd hc z⟩
            rw [k3 473 j (by simp (disch := omega) only [xup_ne]; omega), k3 506 j (by simp (disch := omega) only [xup_ne]; omega), k3 472 j (by simp (disch := omega) only [xup_ne]; omega)]
            simp (disch := omega) only [xup_ne, xup_eq, and_self]
          · have := k2 j (by omega) (by simp (disch := omega) only [xup_ne]; exact j1)
            unfold unC at this ⊢
            simp (disch := omega) only [xup_ne] at this
            exact this
        · rw [k3 c j (by simp (disch := omega) only [xup_ne]; omega)]
          simp (disch := omega) only [xup_ne]
      · obtain ⟨M', k1, k2, k3⟩ := ih (xup M 473 i 0) (i + 1) (by omega) (by simp (disch := omega) only [xup_ne]; exact hn) (by simp (disch := omega) only [xup_ne]; exact ht) (by simp (disch := omega) only [xup_ne]; omega)
        refine ⟨M', ?_, fun j j0 j1 => ?_, fun c j hj => ?_⟩
        · rw [← k1, q_Model_undo_21]
          by_cases c1 : M 506 i = 0
          · simp (disch := omega) only [em_cd, if_neg, if_pos, xup_ne, x32_s]
          · have c2 : ¬ M 517 i = t := fun z => hc ⟨c1, z⟩
            simp (disch := omega) only [em_cd, if_neg, if_pos, xup_ne, x32_s]
        · by_cases ji : j = i
          · subst ji
            refine ⟨fun z => absurd z hc, fun _ => ?_⟩
            rw [k3 473 j (by simp (disch := omega) only [xup_ne]; omega), k3 506 j (by simp (disch := omega) only [xup_ne]; omega), k3 472 j (by simp (disch := omega) only [xup_ne]; omega)]
            simp (disch := omega) only [xup_ne, xup_eq, and_self]
          · have := k2 j (by omega) (by simp (disch := omega) only [xup_ne]; exact j1)
            unfold unC at this ⊢
            simp (disch := omega) only [xup_ne] at this
            exact this
        · rw [k3 c j (by simp (disch := omega) only [xup_ne]; omega)]
          simp (disch := omega) only [xup_ne]
theorem m_undo {t : Int} (ht : M 439 115 = t + 1) (t0 : 0 ≤ t) (t1 : t < 30) (n0 : 0 ≤ M 439 47) (hn : M 439 47 ≤ 30) (h0 : 0 ≤ M 516 t) (h1 : M 516 t ≤ 30) : ∃ M', f_Model_undo M = some (1, M') ∧ M' 439 115 = t ∧ M' 439 72 = M 515 t ∧ (∀ j, 0 ≤ j → j < M 439 47 → (unC M t j → M' 473 j = 1 ∧ M' 506 j = 0 ∧ M' 472 j = -1) ∧ (¬ unC M t j → M' 473 j = 0 ∧ M' 506 j = M 506 j ∧ M' 472 j = M 472 j)) ∧ (∀ p, 0 ≤ p → p < M 516 t → M' 474 p = M 518 (32 * t + p) ∧ M' 475 p = M 519 (32 * t + p)) ∧ (M' 487 0 = M 518 (32 * t + 30) ∧ M' 488 0 = M 519 (32 * t + 30) ∧ M' 487 1 = M 518 (32 * t + 31) ∧ M' 488 1 = M 519 (32 * t + 31)) ∧ ∀ c j, ¬ ((c = 439 ∧ (j = 72 ∨ j = 115)) ∨ ((c = 472 ∨ c = 473 ∨ c = 506) ∧ 0 ≤ j ∧ j < M 439 47) ∨ ((c = 474 ∨ c = 475) ∧ 0 ≤ j ∧ j < M 516 t) ∨ ((c = 487 ∨ c = 488) ∧ (j = 0 ∨ j = 1))) → M' c j = M c j := by
  obtain ⟨A, k1, k2, k3⟩ := m_undo_i (t := t) 30 (xup M 439 115 t) 0 (by omega) (by rw [xup_ne (by omega)]; exact hn) (xup_eq _ _ _ _) (by rw [xup_ne (by omega)]; omega)
  have n47 : xup M 439 115 t 439 47 = M 439 47 := xup_ne (by omega)
  rw [n47] at k2 k3
  have a115 : A 439 115 = t := by rw [k3 _ _ (by omega), xup_eq]
  have a47 : A 439 47 = M 439 47 := by rw [k3 _ _ (by omega), xup_ne (by omega)]
  have a515 : A 515 t = M 515 t := by rw [k3 _ _ (by omega), xup_ne (by omega)]
  have a516 : A 516 t = M 516 t := by rw [k3 _ _ (by omega), xup_ne (by omega)]
  have e0 : f_Model_undo M = f_Model_undo_21 0 (xup M 439 115 t) := by
    rw [q_Model_undo, em_cd, if_pos (by omega), x32_s (by omega) (by omega), show M 439 115 - 1 = t by omega]
  obtain ⟨B, g1, g2, g3, g4⟩ := m_takesBack' (M := xup A 439 72 (M 515 t)) (t := t) (m := M 516 t) t0 (by omega) h0 h1
  have e1 : f_Model_undo_21 30 A = some (1, B) := by
    rw [q_Model_undo_21]
    simp (disch := omega) only [em_cd, if_pos]
    rw [a115, a515, q_Model_undo_101]
    simp (disch := omega) only [xup_ne, em_cd, a115, if_pos, a516, g1, Option.bind_some]
  refine ⟨B, by rw [e0, k1, e1], ?_, ?_, fun j j0 j1 => ?_, fun p q0 q1 => ?_, ?_, fun c j hc => ?_⟩
  · rw [g4 _ _ (by omega), xup_ne (by omega)]; exact a115
  · rw [g4 _ _ (by omega), xup_eq]
  · have := k2 j j0 j1
    unfold unC at this ⊢
    rw [g4 473 _ (by omega), g4 506 _ (by omega), g4 472 _ (by omega), xup_ne (by omega), xup_ne (by omega), xup_ne (by omega)]
    simp (disch := omega) only [xup_ne] at this
    exact this
  · have := g2 p q0 q1
    simp (disch := omega) only [xup_ne] at this
    rw [k3 518 _ (by omega), k3 519 _ (by omega), xup_ne (by omega), xup_ne (by omega)] at this
    exact this
  · simp (disch := omega) only [xup_ne] at g3
    rw [k3 518 _ (by omega), k3 519 _ (by omega), k3 518 _ (by omega), k3 519 _ (by omega), xup_ne (by omega), xup_ne (by omega), xup_ne (by omega), xup_ne (by omega)] at g3
    exact g3
  · rw [g4 c j (by omega), xup_ne (by omega), k3 c j (by omega), xup_ne (by omega)]
end
