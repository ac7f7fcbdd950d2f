/-! read: names and numbers as numbers. -/
section
variable {C R M : em_M} {b : Int → Int} {n : Int}
/-- a sign of a name as a number -/
def sgn (x : Int) : Int := if 97 ≤ x then x - 96 else x - 21
def nmG (g : Nat → Int) : Nat → Int
  | 0 => 0
  | m + 1 => 37 * nmG g m + g m
def dgG (g : Nat → Int) : Nat → Int
  | 0 => 0
  | m + 1 => 10 * dgG g m + g m
def pw37 : Nat → Int
  | 0 => 1
  | m + 1 => 37 * pw37 m
theorem sgn_rng {x : Int} (h : tk_a x) : 1 ≤ sgn x ∧ sgn x ≤ 36 := by
  unfold tk_a tk_l tk_d at h
  unfold sgn
  split <;> omega
theorem sgn_inj {x y : Int} (hx : tk_a x) (hy : tk_a y) (h : sgn x = sgn y) : x = y := by
  unfold tk_a tk_l tk_d at hx hy
  unfold sgn at h
  split at h <;> split at h <;> omega
theorem pw_pos : ∀ m, 1 ≤ pw37 m
  | 0 => by unfold pw37; omega
  | m + 1 => by have := pw_pos m; unfold pw37; omega
theorem pw_mono {m : Nat} : ∀ k, pw37 m ≤ pw37 (m + k)
  | 0 => Int.le_refl _
  | k + 1 => by
    have := pw_mono (m := m) k
    have p := pw_pos (m + k)
    show pw37 m ≤ 37 * pw37 (m + k)
    omega
theorem nm_rng {g : Nat → Int} : ∀ m, (∀ i, i < m → 1 ≤ g i ∧ g i ≤ 36) → 0 ≤ nmG g m ∧ nmG g m + 1 ≤ pw37 m
  | 0, _ => by unfold nmG pw37; omega
  | m + 1, h => by
    have := nm_rng m (fun i hi => h i (by omega))
    have := h m (by omega)
    unfold nmG pw37
    omega
theorem nm_low {g : Nat → Int} : ∀ m, (∀ i, i < m + 1 → 1 ≤ g i ∧ g i ≤ 36) → pw37 m ≤ nmG g (m + 1)
  | 0, h => by
    have := h 0 (by omega)
    unfold nmG pw37 nmG
    omega
  | m + 1, h => by
    have := nm_low m (fun i hi => h i (by omega))
    have := h (m + 1) (by omega)
    show 37 * pw37 m ≤ 37 * nmG g (m + 1) + g (m + 1)
    omega
theorem nm_10 {g : Nat → Int} {m : Nat} (hm : m ≤ 10) (h : ∀ i, i < m → 1 ≤ g i ∧ g i ≤ 36) : 0 ≤ nmG g m ∧ nmG g m < 4808584372417849 := by
  have h1 := nm_rng m h
  have h2 := pw_mono (m := m) (10 - m)
  rw [show m + (10 - m) = 10 by omega] at h2
  have h3 : pw37 10 = 4808584372417849 := by decide +kernel
  omega
theorem nm_cong {g h : Nat → Int} : ∀ m, (∀ i, i < m → g i = h i) → nmG g m = nmG h m
  | 0, _ => rfl
  | m + 1, e => by
    unfold nmG
    rw [nm_cong m (fun i hi => e i (by omega)), e m (by omega)]
theorem nm_inj {g h : Nat → Int} : ∀ m k, (∀ i, i < m → 1 ≤ g i ∧ g i ≤ 36) → (∀ i, i < k → 1 ≤ h i ∧ h i ≤ 36) → nmG g m = nmG h k → m = k ∧ ∀ i, i < m → g i = h i
  | 0, 0, _, _, _ => ⟨rfl, fun i hi => by omega⟩
  | 0, k + 1, _, hh, e => by
    have := nm_rng k (fun i hi => hh i (by omega))
    have := hh k (by omega)
    unfold nmG at e
    omega
  | m + 1, 0, hg, _, e => by
    have := nm_rng m (fun i hi => hg i (by omega))
    have := hg m (by omega)
    unfold nmG at e
    omega
  | m + 1, k + 1, hg, hh, e => by
    have h1 := hg m (by omega)
    have h2 := hh k (by omega)
    have e' : 37 * nmG g m + g m = 37 * nmG h k + h k := e
    obtain ⟨k1, k2⟩ := nm_inj m k (fun i hi => hg i (by omega)) (fun i hi => hh i (by omega)) (by omega)
    subst k1
    refine ⟨rfl, fun i hi => ?_⟩
    by_cases q : i = m
    · subst q
      omega
    · exact k2 i (by omega)
theorem dg_3 {g : Nat → Int} {m : Nat} (hm : m ≤ 3) (h : ∀ i, i < m → 0 ≤ g i ∧ g i ≤ 9) : 0 ≤ dgG g m ∧ dgG g m ≤ 999 := by
  have cs : m = 0 ∨ m = 1 ∨ m = 2 ∨ m = 3 := by omega
  rcases cs with rfl | rfl | rfl | rfl
  · simp only [dgG]; omega
  · have := h 0 (by omega); simp only [dgG]; omega
  · have := h 0 (by omega); have := h 1 (by omega); simp only [dgG]; omega
  · have := h 0 (by omega); have := h 1 (by omega); have := h 2 (by omega); simp only [dgG]; omega
/-- the number of the name at j -/
def nmB (b : Int → Int) (j : Int) (m : Nat) : Int := nmG (fun i => sgn (b (j + i))) m
def dgB (b : Int → Int) (j : Int) (m : Nat) : Int := dgG (fun i => b (j + i) - 48) m
theorem nmB_succ (j : Int) (m : Nat) : nmB b j (m + 1) = 37 * nmB b j m + sgn (b (j + m)) := rfl
theorem dgB_succ (j : Int) (m : Nat) : dgB b j (m + 1) = 10 * dgB b j m + (b (j + m) - 48) := rfl
theorem f_sign {x : Int} (M : em_M) (h : tk_a x) : f_Text_signNumber x M = some (sgn x, M) := by
  rw [q_Text_signNumber]
  have h' := h
  unfold tk_a tk_l tk_d at h'
  by_cases c : tk_l x
  · rw [f_L1 M c]
    unfold tk_l at c
    simp only [em_cd, Option.bind_some]
    rw [if_neg (by omega), x32_s (x := x - 97) (by omega) (by omega), x32_s (by omega) (by omega)]
    unfold sgn
    rw [if_pos (by omega)]
    congr 2
    omega
  · rw [f_L0 M c]
    unfold tk_l at c
    simp only [em_cd, Option.bind_some]
    rw [if_pos trivial, x32_s (x := x - 48) (by omega) (by omega), x32_s (by omega) (by omega)]
    unfold sgn
    rw [if_neg (by omega)]
    congr 2
    omega
/-- a name as the class counts it -/
theorem c_name (hB : TB b n) (hT : TC b n C) {j : Int} {L : Nat} (j0 : 0 ≤ j) (hL : L ≤ 10) (hj : j + L ≤ n) (ha : ∀ x, j ≤ x → x < j + L → tk_a (b x)) : ∀ (k m : Nat), m + k = L → f_Text_nameNumber_5 (j + L) (nmB b j m) (j + m) C = some (nmB b j L, C) := by
  intro k
  induction k with
  | zero =>
    intro m hm
    rw [q_Text_nameNumber_5, em_cd, if_pos (by omega), show m = L by omega]
  | succ k ih =>
    intro m hm
    have h2 := hB.1.2
    have hx := ha (j + m) (by omega) (by omega)
    have hr := sgn_rng hx
    have hg : ∀ i : Nat, i < m → 1 ≤ (fun i : Nat => sgn (b (j + i))) i ∧ (fun i : Nat => sgn (b (j + i))) i ≤ 36 := fun i hi => sgn_rng (ha (j + i) (by omega) (by omega))
    have h3 : 0 ≤ nmB b j m ∧ nmB b j m < 4808584372417849 := nm_10 (by omega) hg
    have hg' : ∀ i : Nat, i < m + 1 → 1 ≤ (fun i : Nat => sgn (b (j + i))) i ∧ (fun i : Nat => sgn (b (j + i))) i ≤ 36 := fun i hi => sgn_rng (ha (j + i) (by omega) (by omega))
    have h4 : 0 ≤ nmB b j (m + 1) ∧ nmB b j (m + 1) < 4808584372417849 := nm_10 (by omega) hg'
    have h5 := nmB_succ (b := b) j m
    rw [q_Text_nameNumber_5, em_cd, if_neg (by omega), f_at hB hT (by omega)]
    simp only [Option.bind_some]
    rw [f_sign C hx]
    simp only [Option.bind_some]
    rw [x64_id (x := nmB b j m * 37) (by omega) (by omega), x64_id (by omega) (by omega), x32_s (by omega) (by omega), show nmB b j m * 37 + sgn (b (j + m)) = nmB b j (m + 1) by omega, show j + (m : Int) + 1 = j + ((m + 1 : Nat) : Int) by omega]
    exact ih (m + 1) (by omega)
/-- a number as the class counts it -/
theorem c_number (hB : TB b n) (hT : TC b n C) {j : Int} {L : Nat} (j0 : 0 ≤ j) (hL : L ≤ 3) (hj : j + L ≤ n) (ha : ∀ x, j ≤ x → x < j + L → tk_d (b x)) : ∀ (k m : Nat), m + k = L → f_Text_number_5 (j + L) (dgB b j m) (j + m) C = some (dgB b j L, C) := by
  intro k
  induction k with
  | zero =>
    intro m hm
    rw [q_Text_number_5, em_cd, if_pos (by omega), show m = L by omega]
  | succ k ih =>
    intro m hm
    have h2 := hB.1.2
    have hx := ha (j + m) (by omega) (by omega)
    unfold tk_d at hx
    have h3 : 0 ≤ dgB b j m ∧ dgB b j m ≤ 999 := dg_3 (by omega) (fun i hi => by
      have := ha (j + i) (by omega) (by omega)
      unfold tk_d at this
      show 0 ≤ b (j + i) - 48 ∧ b (j + i) - 48 ≤ 9
      omega)
    have h5 := dgB_succ (b := b) j m
    rw [q_Text_number_5, em_cd, if_neg (by omega), f_at hB hT (by omega)]
    simp only [Option.bind_some]
    rw [x64_id (x := dgB b j m * 10) (by omega) (by omega), x64_id (x := dgB b j m * 10 + b (j + m)) (by omega) (by omega), x64_id (by omega) (by omega), x32_s (by omega) (by omega), show dgB b j m * 10 + b (j + m) - 48 = dgB b j (m + 1) by omega, show j + (m : Int) + 1 = j + ((m + 1 : Nat) : Int) by omega]
    exact ih (m + 1) (by omega)
theorem tk_a_ub {x : Int} (h : tk_a x) : ub x = x := by
  unfold tk_a tk_l tk_d at h
  exact ub_id (by omega)
/-- the reference counts one sign of a name more -/
theorem m_more {x v : Int} (M : em_M) (h : tk_a x) (v0 : 0 ≤ v) (v1 : 37 * v + sgn x < 4808584372417849) : f_Model_more v x M = some (37 * v + sgn x, M) := by
  have hr := sgn_rng h
  have h' := h
  unfold tk_a tk_l tk_d at h'
  rw [q_Model_more, em_cd, if_pos (by omega)]
  by_cases c : tk_d x
  · rw [m_D1 M c]
    unfold tk_d at c
    simp only [em_cd, Option.bind_some]
    have hs : sgn x = x - 21 := if_neg (by omega)
    rw [if_neg (by omega), x64_id (x := 37 * v) (by omega) (by omega), x32_s (x := x - 48) (by omega) (by omega), x32_s (by omega) (by omega), show x - 48 + 27 = sgn x by omega, x64_id (by omega) (by omega)]
  · rw [m_D0 M c]
    unfold tk_d at c
    simp only [em_cd, Option.bind_some]
    have hs : sgn x = x - 96 := if_pos (by omega)
    rw [if_pos trivial, x64_id (x := 37 * v) (by omega) (by omega), x32_s (x := x - 97) (by omega) (by omega), x32_s (by omega) (by omega), show x - 97 + 1 = sgn x by omega, x64_id (by omega) (by omega)]
/-- a name as the reference counts it -/
theorem m_85 (hB : TB b n) (hT : TM b n R) {j : Int} {L : Nat} (j0 : 0 ≤ j) (hj : j + L ≤ n) (ha : ∀ x, j ≤ x → x < j + L → tk_a (b x)) (he : ¬ tk_a (b (j + L))) : ∀ (k m : Nat), m + k = L → f_Model_cut_85 j m (nmB b j (min m 10)) R = f_Model_cut_148 j L (nmB b j (min L 10)) (if L ≤ 10 then 1 else 3) R := by
  have h2 := hB.1.2
  have bl := fun x => hB.2.1 x
  intro k
  induction k with
  | zero =>
    intro m hm
    have hmL : m = L := by omega
    subst hmL
    have e := q_Model_cut_85 j m (nmB b j (min m 10)) R
    rw [x32_s (by omega) (by omega), m_at hB hT (by omega)] at e
    simp only [em_cd, Option.bind_some] at e
    rw [m_L0 R (fun z => he (Or.inl ((ub_l (bl _).1 (bl _).2).mp z)))] at e
    simp only [Option.bind_some] at e
    rw [if_neg (fun z => z trivial), m_at hB hT (by omega)] at e
    simp only [Option.bind_some] at e
    rw [m_D0 R (fun z => he (Or.inr ((ub_d (bl _).1 (bl _).2).mp z)))] at e
    simp only [Option.bind_some] at e
    rw [if_pos trivial] at e
    rw [e]
    by_cases c : m ≤ 10
    · rw [if_pos (by omega), if_pos c]
    · rw [if_neg (by omega), if_neg c]
  | succ k ih =>
    intro m hm
    have hx := ha (j + m) (by omega) (by omega)
    have e := q_Model_cut_85 j m (nmB b j (min m 10)) R
    have e1 : f_Model_cut_85 j m (nmB b j (min m 10)) R = f_Model_cut_111 j m (nmB b j (min m 10)) R := by
      rw [x32_s (by omega) (by omega), m_at hB hT (by omega), tk_a_ub hx] at e
      simp only [em_cd, Option.bind_some] at e
      by_cases c : tk_l (b (j + m))
      · rw [m_L1 R c] at e
        simp only [Option.bind_some] at e
        rw [if_pos (by omega)] at e
        exact e
      · rw [m_L0 R c] at e
        simp only [Option.bind_some] at e
        rw [if_neg (fun z => z trivial), m_at hB hT (by omega), tk_a_ub hx] at e
        simp only [Option.bind_some] at e
        rw [m_D1 R (hx.resolve_left c)] at e
        simp only [Option.bind_some] at e
        rw [if_neg (by omega)] at e
        exact e
    rw [e1, q_Model_cut_111, em_cd, x32_s (x := (m : Int) + 1) (by omega) (by omega), show (m : Int) + 1 = ((m + 1 : Nat) : Int) by omega]
    by_cases c : 10 ≤ m
    · rw [if_pos (by omega), show min m 10 = min (m + 1) 10 by omega]
      exact ih (m + 1) (by omega)
    · have hg' : ∀ i : Nat, i < m + 1 → 1 ≤ (fun i : Nat => sgn (b (j + i))) i ∧ (fun i : Nat => sgn (b (j + i))) i ≤ 36 := fun i hi => sgn_rng (ha (j + i) (by omega) (by omega))
      have h4 : 0 ≤ nmB b j (m + 1) ∧ nmB b j (m + 1) < 4808584372417849 := nm_10 (by omega) hg'
      have h3 : 0 ≤ nmB b j m ∧ nmB b j m < 4808584372417849 := nm_10 (by omega) (fun i hi => hg' i (by omega))
      have h5 := nmB_succ (b := b) j m
      rw [if_neg (by omega), x32_s (by omega) (by omega), m_at hB hT (by omega), tk_a_ub hx]
      simp only [Option.bind_some]
      rw [show min m 10 = m by omega, m_more R hx h3.1 (by omega)]
      simp only [Option.bind_some]
      have := ih (m + 1) (by omega)
      rw [show min (m + 1) 10 = m + 1 by omega, h5] at this
      exact this
/-- a number as the reference counts it -/
theorem m_221 (hB : TB b n) (hT : TM b n R) {j : Int} {L : Nat} (j0 : 0 ≤ j) (hj : j + L ≤ n) (ha : ∀ x, j ≤ x → x < j + L → tk_d (b x)) (he : ¬ tk_d (b (j + L))) : ∀ (k m : Nat), m + k = L → f_Model_cut_221 j m (dgB b j (min m 3)) R = (f_Model_token (if L ≤ 3 then 2 else 3) j (dgB b j (min L 3)) 0 R).bind fun r => f_Model_cut_7 (j + L) r.2 := by
  have h2 := hB.1.2
  have bl := fun x => hB.2.1 x
  intro k
  induction k with
  | zero =>
    intro m hm
    have hmL : m = L := by omega
    subst hmL
    have e := q_Model_cut_221 j m (dgB b j (min m 3)) R
    rw [x32_s (by omega) (by omega), m_at hB hT (by omega)] at e
    simp only [em_cd, Option.bind_some] at e
    rw [m_D0 R (fun z => he ((ub_d (bl _).1 (bl _).2).mp z))] at e
    simp only [Option.bind_some] at e
    rw [if_pos trivial] at e
    rw [e]
    by_cases c : m ≤ 3
    · rw [if_pos (by omega), if_pos c]
    · rw [if_neg (by omega), if_neg c]
  | succ k ih =>
    intro m hm
    have hx := ha (j + m) (by omega) (by omega)
    have hx' := hx
    unfold tk_d at hx'
    have e := q_Model_cut_221 j m (dgB b j (min m 3)) R
    rw [x32_s (x := j + m) (by omega) (by omega), m_at hB hT (by omega), ub_id (by omega)] at e
    simp only [em_cd, Option.bind_some] at e
    rw [m_D1 R hx] at e
    simp only [Option.bind_some] at e
    rw [if_neg (by omega), x32_s (x := (m : Int) + 1) (by omega) (by omega), show (m : Int) + 1 = ((m + 1 : Nat) : Int) by omega] at e
    by_cases c : 3 ≤ m
    · rw [if_pos (by omega), show min m 3 = min (m + 1) 3 by omega] at e
      rw [show min m 3 = min (m + 1) 3 by omega]
      exact e.trans (ih (m + 1) (by omega))
    · have hg : ∀ i : Nat, i < m + 1 → 0 ≤ b (j + i) - 48 ∧ b (j + i) - 48 ≤ 9 := fun i hi => by
        have := ha (j + i) (by omega) (by omega)
        unfold tk_d at this
        omega
      have h3 : 0 ≤ dgB b j m ∧ dgB b j m ≤ 999 := dg_3 (by omega) (fun i hi => hg i (by omega))
      have h5 := dgB_succ (b := b) j m
      rw [if_neg (by omega), m_at hB hT (by omega), ub_id (by omega)] at e
      simp only [Option.bind_some] at e
      rw [show min m 3 = m by omega, x32_s (x := 10 * dgB b j m) (by omega) (by omega), x32_s (x := 10 * dgB b j m + b (j + m)) (by omega) (by omega), x32_s (by omega) (by omega), show 10 * dgB b j m + b (j + m) - 48 = dgB b j (m + 1) by omega] at e
      rw [show min m 3 = m by omega]
      have := ih (m + 1) (by omega)
      rw [show min (m + 1) 3 = m + 1 by omega] at this
      exact e.trans this
end
