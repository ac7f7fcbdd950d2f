/-! read: words and signs. -/
section
variable {C R M : em_M} {b : Int → Int} {n : Int}
theorem sx_tab : (List.range 16).all (fun w => decide (x_shr (em_slen (w : Int)) 0 = em_slen (w : Int)) && (List.range (em_slen (w : Int)).toNat).all (fun i => decide (x_i2c (x_and (em_chr (w : Int) (i : Int)) 255) = em_chr (w : Int) (i : Int) ∧ 0 ≤ em_chr (w : Int) (i : Int) ∧ em_chr (w : Int) (i : Int) < 128 ∧ (w = 0 ∨ 97 ≤ em_chr (w : Int) (i : Int) ∧ em_chr (w : Int) (i : Int) ≤ 122)))) = true := by decide +kernel
theorem sx_at {w : Int} (w0 : 0 ≤ w) (w1 : w < 16) : x_shr (em_slen w) 0 = em_slen w ∧ ∀ i, 0 ≤ i → i < em_slen w → x_i2c (x_and (em_chr w i) 255) = em_chr w i ∧ 0 ≤ em_chr w i ∧ em_chr w i < 128 ∧ (w = 0 ∨ 97 ≤ em_chr w i ∧ em_chr w i ≤ 122) := by
  have h := List.all_eq_true.mp sx_tab w.toNat (List.mem_range.mpr (by omega))
  rw [Bool.and_eq_true, decide_eq_true_eq, show ((w.toNat : Nat) : Int) = w by omega] at h
  refine ⟨h.1, fun i i0 i1 => ?_⟩
  have h2 := List.all_eq_true.mp h.2 i.toNat (List.mem_range.mpr (by omega))
  rw [decide_eq_true_eq, show ((i.toNat : Nat) : Int) = i by omega] at h2
  exact ⟨h2.1, h2.2.1, h2.2.2.1, h2.2.2.2.imp (fun z => by omega) id⟩
theorem f_coder {w : Int} (M : em_M) (w0 : 0 ≤ w) (w1 : w < 16) : f_String_coder w M = some (0, M) := by
  rw [q_String_coder]
  simp [w0, w1]
theorem f_latin {w : Int} (M : em_M) (w0 : 0 ≤ w) (w1 : w < 16) : f_String_isLatin1 w M = some (1, M) := by
  rw [q_String_isLatin1]
  simp [w0, w1]
theorem f_slen {w : Int} (M : em_M) (w0 : 0 ≤ w) (w1 : w < 16) : f_String_length w M = some (em_slen w, M) := by
  have h := (sx_at w0 w1).1
  rw [q_String_length]
  simp only [em_cd, if_pos (show 0 ≤ w ∧ w < 16 from ⟨w0, w1⟩), if_pos (show 16 ≤ w + 16 ∧ w + 16 < 32 by omega), decide_eq_true (show 0 ≤ w ∧ w < 16 from ⟨w0, w1⟩), Bool.and_self, cond_true]
  rw [f_coder M w0 w1]
  simp only [Option.bind_some]
  rw [show w + 16 - 16 = w by omega, h]
theorem f_schr {w i : Int} (M : em_M) (w0 : 0 ≤ w) (w1 : w < 16) (i0 : 0 ≤ i) (i1 : i < em_slen w) : f_String_charAt w i M = some (em_chr w i, M) := by
  obtain ⟨h1, h2, h3, -⟩ := (sx_at w0 w1).2 i i0 i1
  rw [q_String_charAt]
  simp only [em_cd, if_pos (show 0 ≤ w ∧ w < 16 from ⟨w0, w1⟩), decide_eq_true (show 0 ≤ w ∧ w < 16 from ⟨w0, w1⟩), Bool.and_self, cond_true]
  rw [f_latin M w0 w1]
  simp only [Option.bind_some]
  rw [if_neg (by omega), q_StringLatin1_charAt, show w + 16 - 16 = w by omega]
  simp only [em_cd, if_pos (show 16 ≤ w + 16 ∧ w + 16 < 32 by omega), decide_eq_true (show 16 ≤ w + 16 ∧ w + 16 < 32 by omega), decide_eq_true (show 0 ≤ i ∧ i < em_slen w from ⟨i0, i1⟩), Bool.and_self, cond_true]
  rw [q_String_checkIndex, q_Preconditions_checkIndex]
  simp only [em_cd, if_neg (show ¬ i < 0 by omega), if_pos i1, Option.bind_some, h1, if_pos (show 0 ≤ em_chr w i ∧ em_chr w i < 128 from ⟨h2, h3⟩)]
/-- whether a word stands at j -/
theorem f_spells15 (hB : TB b n) (hT : TC b n C) {j w : Int} (j0 : 0 ≤ j) (j1 : j ≤ 2000) (w0 : 0 ≤ w) (w1 : w < 16) (hs : em_slen w ≤ 100) : ∀ (k : Nat) (i : Int), 0 ≤ i → i + k = em_slen w → ∃ r, f_Text_spells_15 j w i C = some (r, C) ∧ (¬ r = 0 ↔ ∀ x, i ≤ x → x < em_slen w → em_chr w x = b (j + x)) := by
  intro k
  induction k with
  | zero =>
    intro i i0 hk
    refine ⟨1, ?_, fun _ x x0 x1 => by omega, fun _ => by omega⟩
    rw [q_Text_spells_15]
    simp only [em_cd, decide_eq_true (show 0 ≤ w ∧ w < 16 from ⟨w0, w1⟩), Bool.and_self, cond_true, f_slen C w0 w1, Option.bind_some, if_pos (show em_slen w ≤ i by omega)]
  | succ k ih =>
    intro i i0 hk
    have e := q_Text_spells_15 j w i C
    simp only [em_cd, decide_eq_true (show 0 ≤ w ∧ w < 16 from ⟨w0, w1⟩), Bool.and_self, cond_true, f_slen C w0 w1, Option.bind_some, if_neg (show ¬ em_slen w ≤ i by omega), f_schr C w0 w1 i0 (show i < em_slen w by omega)] at e
    rw [x32_s (by omega) (by omega), f_at hB hT (by omega)] at e
    simp only [Option.bind_some] at e
    by_cases c : em_chr w i = b (j + i)
    · rw [if_pos c, x32_s (by omega) (by omega)] at e
      obtain ⟨r, k1, k2⟩ := ih (i + 1) (by omega) (by omega)
      refine ⟨r, e.trans k1, k2.trans ⟨fun h x x0 x1 => ?_, fun h x x0 x1 => h x (by omega) x1⟩⟩
      by_cases q : x = i
      · subst q
        exact c
      · exact h x (by omega) x1
    · rw [if_neg c] at e
      exact ⟨0, e, fun z => absurd rfl z, fun z => absurd (z i (by omega) (by omega)) c⟩
theorem slen_le {w : Int} (w0 : 0 ≤ w) (w1 : w < 16) : 0 ≤ em_slen w ∧ em_slen w ≤ 6 := by
  have h : (List.range 16).all (fun w => decide (0 ≤ em_slen (w : Int) ∧ em_slen (w : Int) ≤ 6)) = true := by decide +kernel
  have := List.all_eq_true.mp h w.toNat (List.mem_range.mpr (by omega))
  rw [decide_eq_true_eq, show ((w.toNat : Nat) : Int) = w by omega] at this
  exact this
/-- a word's place among the reference's keys -/
def mpW (k : Int) : Int := if k = 0 then 0 else if k = 1 then 1 else if k = 2 then 7 else if k = 3 then 8 else if k = 4 then 9 else if k = 5 then 2 else if k = 6 then 3 else if k = 7 then 4 else if k = 8 then 5 else if k = 9 then 6 else k
theorem wk_eq {k : Int} (k0 : 0 ≤ k) (k1 : k < 14) : nmG (fun i => sgn (em_chr (k + 1) (i : Int))) (em_slen (k + 1)).toNat = kyW (mpW k) := by
  have h : (List.range 14).all (fun k => decide (nmG (fun i => sgn (em_chr ((k : Int) + 1) (i : Int))) (em_slen ((k : Int) + 1)).toNat = kyW (mpW (k : Int)))) = true := by decide +kernel
  have := List.all_eq_true.mp h k.toNat (List.mem_range.mpr (by omega))
  rw [decide_eq_true_eq, show ((k.toNat : Nat) : Int) = k by omega] at this
  exact this
theorem ky_inj {x y : Int} (x0 : 0 ≤ x) (x1 : x < 16) (y0 : 0 ≤ y) (y1 : y < 16) (h : kyW x = kyW y) : x = y := by
  have k : (List.range 16).all (fun x => (List.range 16).all (fun y => decide (kyW (x : Int) = kyW (y : Int) → x = y))) = true := by decide +kernel
  have := List.all_eq_true.mp (List.all_eq_true.mp k x.toNat (List.mem_range.mpr (by omega))) y.toNat (List.mem_range.mpr (by omega))
  rw [decide_eq_true_eq, show ((x.toNat : Nat) : Int) = x by omega, show ((y.toNat : Nat) : Int) = y by omega] at this
  have := this h
  omega
theorem ky_max {x : Int} (x0 : 0 ≤ x) (x1 : x < 16) : kyW x < 2565726409 := by
  have k : (List.range 16).all (fun x => decide (kyW (x : Int) < 2565726409)) = true := by decide +kernel
  have := List.all_eq_true.mp k x.toNat (List.mem_range.mpr (by omega))
  rw [decide_eq_true_eq, show ((x.toNat : Nat) : Int) = x by omega] at this
  exact this
theorem mp_rng {k : Int} (k0 : 0 ≤ k) (k1 : k < 14) : 0 ≤ mpW k ∧ mpW k < 14 := by
  unfold mpW
  repeat' split
  all_goals omega
theorem mp_onto {x : Int} (x0 : 0 ≤ x) (x1 : x < 14) : ∃ k, 0 ≤ k ∧ k < 14 ∧ mpW k = x := by
  have k : (List.range 14).all (fun x => (List.range 14).any (fun k => decide (mpW (k : Int) = (x : Int)))) = true := by decide +kernel
  have := List.all_eq_true.mp k x.toNat (List.mem_range.mpr (by omega))
  obtain ⟨y, y1, y2⟩ := List.any_eq_true.mp this
  rw [decide_eq_true_eq] at y2
  have := List.mem_range.mp y1
  exact ⟨(y : Int), by omega, by omega, by omega⟩
/-- a word stands at j: its number tells -/
theorem f_spells (hB : TB b n) (hT : TC b n C) {j k : Int} {L : Nat} (j0 : 0 ≤ j) (hL : L ≤ 10) (hj : j + L ≤ n) (ha : ∀ x, j ≤ x → x < j + L → tk_a (b x)) (k0 : 0 ≤ k) (k1 : k < 14) : ∃ r, f_Text_spells j (j + L) (k + 1) C = some (r, C) ∧ (¬ r = 0 ↔ nmB b j L = kyW (mpW k)) := by
  have h2 := hB.1.2
  have hs := slen_le (w := k + 1) (by omega) (by omega)
  have hst := sx_at (w := k + 1) (by omega) (by omega)
  have e := q_Text_spells j (j + L) (k + 1) C
  simp only [em_cd, decide_eq_true (show 0 ≤ k + 1 ∧ k + 1 < 16 by omega), Bool.and_self, cond_true, f_slen C (show 0 ≤ k + 1 by omega) (show k + 1 < 16 by omega), Option.bind_some] at e
  rw [x32_s (by omega) (by omega), show j + (L : Int) - j = L by omega] at e
  have hlet : ∀ i : Nat, i < (em_slen (k + 1)).toNat → tk_a (em_chr (k + 1) (i : Int)) := fun i hi => by
    obtain ⟨-, -, -, q⟩ := hst.2 i (by omega) (by omega)
    unfold tk_a tk_l
    omega
  have key : nmB b j L = kyW (mpW k) ↔ em_slen (k + 1) = L ∧ ∀ x, 0 ≤ x → x < em_slen (k + 1) → em_chr (k + 1) x = b (j + x) := by
    rw [← wk_eq k0 k1]
    constructor
    · intro z
      obtain ⟨z1, z2⟩ := nm_inj L (em_slen (k + 1)).toNat (fun i hi => sgn_rng (ha (j + i) (by omega) (by omega))) (fun i hi => sgn_rng (hlet i hi)) z
      refine ⟨by omega, fun x x0 x1 => ?_⟩
      have := z2 x.toNat (by omega)
      rw [show ((x.toNat : Nat) : Int) = x by omega] at this
      have hl := hlet x.toNat (by omega)
      rw [show ((x.toNat : Nat) : Int) = x by omega] at hl
      exact (sgn_inj (ha (j + x) (by omega) (by omega)) hl this).symm
    · rintro ⟨z1, z2⟩
      rw [show (em_slen (k + 1)).toNat = L by omega]
      exact nm_cong L (fun i hi => by rw [z2 i (by omega) (by omega)])
  by_cases c : em_slen (k + 1) = L
  · rw [if_pos c] at e
    obtain ⟨r, k1', k2⟩ := f_spells15 hB hT (j := j) (w := k + 1) j0 (by omega) (by omega) (by omega) (by omega) (em_slen (k + 1)).toNat 0 (by omega) (by omega)
    exact ⟨r, e.trans k1', k2.trans ⟨fun z => key.mpr ⟨c, z⟩, fun z => (key.mp z).2⟩⟩
  · rw [if_neg c] at e
    exact ⟨0, e, fun z => absurd rfl z, fun z => absurd (key.mp z).1 c⟩
theorem f_word {k : Int} (M : em_M) (k0 : 0 ≤ k) (k1 : k < 14) : f_Text_word k M = some (k + 1, M) := by
  rw [q_Text_word]
  have cs : k = 0 ∨ k = 1 ∨ k = 2 ∨ k = 3 ∨ k = 4 ∨ k = 5 ∨ k = 6 ∨ k = 7 ∨ k = 8 ∨ k = 9 ∨ k = 10 ∨ k = 11 ∨ k = 12 ∨ k = 13 := by omega
  rcases cs with rfl | rfl | rfl | rfl | rfl | rfl | rfl | rfl | rfl | rfl | rfl | rfl | rfl | rfl <;> rfl
/-- the class's kind of a name or word -/
theorem f_wordKind (hB : TB b n) (hT : TC b n C) {j : Int} {L : Nat} (j0 : 0 ≤ j) (hL : L ≤ 10) (hj : j + L ≤ n) (ha : ∀ x, j ≤ x → x < j + L → tk_a (b x)) : ∀ (m : Nat) (k : Int), 0 ≤ k → k + m = 14 → ∃ r, f_Text_wordKind_2 j (j + L) k C = some (r, C) ∧ ((k ≤ r ∧ r < 14 ∧ nmB b j L = kyW (mpW r)) ∨ (r = 14 ∧ ∀ x, k ≤ x → x < 14 → ¬ nmB b j L = kyW (mpW x))) := by
  intro m
  induction m with
  | zero =>
    intro k k0 hk
    refine ⟨14, ?_, Or.inr ⟨rfl, fun x x0 x1 => by omega⟩⟩
    rw [q_Text_wordKind_2, em_cd, if_pos (by omega)]
  | succ m ih =>
    intro k k0 hk
    obtain ⟨r, s1, s2⟩ := f_spells hB hT j0 hL hj ha k0 (by omega : k < 14)
    have e := q_Text_wordKind_2 j (j + L) k C
    simp only [em_cd, if_neg (show ¬ 14 ≤ k by omega), f_word C k0 (show k < 14 by omega), Option.bind_some, s1] at e
    by_cases c : r = 0
    · rw [if_pos c, x32_s (by omega) (by omega)] at e
      obtain ⟨q, t1, t2⟩ := ih (k + 1) (by omega) (by omega)
      refine ⟨q, e.trans t1, t2.imp (fun z => ⟨by omega, z.2⟩) (fun z => ⟨z.1, fun x x0 x1 => ?_⟩)⟩
      by_cases w : x = k
      · subst w
        exact fun y => s2.mpr y c
      · exact z.2 x (by omega) x1
    · rw [if_neg c] at e
      exact ⟨k, e, Or.inl ⟨Int.le_refl _, by omega, s2.mp c⟩⟩
/-- the reference's keys -/
theorem m_159 {j v N : Int} {L : Nat} (hK : ∀ k, 0 ≤ k → k < 16 → R 446 k = kyW k) : ∀ (m : Nat) (k κ : Int), 0 ≤ k → k + m = 16 → ∃ r, f_Model_cut_159 j L N κ k R = (f_Model_token r j 0 N R).bind (fun r0 => f_Model_cut_7 (x32 (j + L)) r0.2) ∧ ((∃ x, k ≤ x ∧ x < 16 ∧ kyW x = N ∧ r = 20 + x) ∨ (r = κ ∧ ∀ x, k ≤ x → x < 16 → ¬ kyW x = N)) := by
  intro m
  induction m with
  | zero =>
    intro k κ k0 hk
    refine ⟨κ, ?_, Or.inr ⟨rfl, fun x x0 x1 => by omega⟩⟩
    rw [q_Model_cut_159, em_cd, if_pos (by omega)]
  | succ m ih =>
    intro k κ k0 hk
    have e := q_Model_cut_159 j L N κ k R
    simp only [em_cd, if_neg (show ¬ 16 ≤ k by omega), if_pos (show 0 ≤ k ∧ k < 16 by omega), x_cmp_eq, hK k k0 (by omega), x32_s (show -1000000 ≤ k + 1 by omega) (show k + 1 ≤ 1000000 by omega), x32_s (show -1000000 ≤ 20 + k by omega) (show 20 + k ≤ 1000000 by omega)] at e
    by_cases c : kyW k = N
    · rw [if_neg (fun z => z c)] at e
      obtain ⟨r, t1, t2⟩ := ih (k + 1) (20 + k) (by omega) (by omega)
      refine ⟨r, e.trans t1, Or.inl ?_⟩
      rcases t2 with ⟨x, x0, x1, x2, x3⟩ | ⟨z1, z2⟩
      · exact ⟨x, by omega, x1, x2, x3⟩
      · exact ⟨k, by omega, by omega, c, z1⟩
    · rw [if_pos c] at e
      obtain ⟨r, t1, t2⟩ := ih (k + 1) κ (by omega) (by omega)
      refine ⟨r, e.trans t1, t2.imp (fun ⟨x, x0, x1, x2, x3⟩ => ⟨x, by omega, x1, x2, x3⟩) (fun ⟨z1, z2⟩ => ⟨z1, fun x x0 x1 => ?_⟩)⟩
      by_cases w : x = k
      · subst w
        exact c
      · exact z2 x (by omega) x1
/-- signs -/
def tk_s (x : Int) : Prop := x = 61 ∨ x = 124 ∨ x = 46 ∨ x = 44 ∨ x = 59 ∨ x = 47
theorem i2c_tab : ∀ x : Nat, x < 128 → x_i2c (x : Int) = x ∧ x_i2b (x : Int) = x := by decide +kernel
theorem sg_tab : em_slen 0 = 6 ∧ em_chr 0 0 = 61 ∧ em_chr 0 1 = 124 ∧ em_chr 0 2 = 46 ∧ em_chr 0 3 = 44 ∧ em_chr 0 4 = 59 ∧ em_chr 0 5 = 47 := by decide +kernel
theorem f_indexOf {x : Int} (M : em_M) (x0 : 1 ≤ x) (x1 : x ≤ 127) : ∃ r, f_String_indexOf1 0 (x_i2c x) M = some (r, M) ∧ (r < 0 ↔ ¬ tk_s x) := by
  have h := i2c_tab x.toNat (by omega)
  rw [show ((x.toNat : Nat) : Int) = x by omega] at h
  obtain ⟨g1, g2, g3, g4, g5, g6, g7⟩ := sg_tab
  have lp : ∀ i : Int, 0 ≤ i → i < 6 → f_StringLatin1_indexOfChar_7 16 6 x i M = if ¬ em_chr 0 i = x then f_StringLatin1_indexOfChar_7 16 6 x (i + 1) M else some (i, M) := fun i i0 i1 => by
    have e := q_StringLatin1_indexOfChar_7 16 6 x i M
    simp only [em_cd, if_neg (show ¬ 6 ≤ i by omega), show (16 : Int) - 16 = 0 by omega, g1, decide_eq_true (show (16 : Int) ≤ 16 ∧ (16 : Int) < 32 by omega), decide_eq_true (show 0 ≤ i ∧ i < 6 from ⟨i0, i1⟩), Bool.and_self, cond_true, x32_s (show -1000000 ≤ i + 1 by omega) (show i + 1 ≤ 1000000 by omega)] at e
    exact e
  have l6 : f_StringLatin1_indexOfChar_7 16 6 x 6 M = some (-1, M) := by
    rw [q_StringLatin1_indexOfChar_7, em_cd, if_pos (by omega)]
  have e : ∃ r, f_StringLatin1_indexOfChar_7 16 6 x 0 M = some (r, M) ∧ (r < 0 ↔ ¬ tk_s x) := by
    unfold tk_s
    rw [lp 0 (by omega) (by omega), g2]
    by_cases c1 : (61 : Int) = x
    · rw [if_neg (fun z => z c1)]; exact ⟨0, rfl, by omega⟩
    rw [if_pos c1, lp _ (by omega) (by omega), show (0 : Int) + 1 = 1 by omega, g3]
    by_cases c2 : (124 : Int) = x
    · rw [if_neg (fun z => z c2)]; exact ⟨1, rfl, by omega⟩
    rw [if_pos c2, lp _ (by omega) (by omega), show (1 : Int) + 1 = 2 by omega, g4]
    by_cases c3 : (46 : Int) = x
    · rw [if_neg (fun z => z c3)]; exact ⟨2, rfl, by omega⟩
    rw [if_pos c3, lp _ (by omega) (by omega), show (2 : Int) + 1 = 3 by omega, g5]
    by_cases c4 : (44 : Int) = x
    · rw [if_neg (fun z => z c4)]; exact ⟨3, rfl, by omega⟩
    rw [if_pos c4, lp _ (by omega) (by omega), show (3 : Int) + 1 = 4 by omega, g6]
    by_cases c5 : (59 : Int) = x
    · rw [if_neg (fun z => z c5)]; exact ⟨4, rfl, by omega⟩
    rw [if_pos c5, lp _ (by omega) (by omega), show (4 : Int) + 1 = 5 by omega, g7]
    by_cases c6 : (47 : Int) = x
    · rw [if_neg (fun z => z c6)]; exact ⟨5, rfl, by omega⟩
    rw [if_pos c6, show (5 : Int) + 1 = 6 by omega, l6]
    exact ⟨-1, rfl, by omega⟩
  obtain ⟨r, e1, e2⟩ := e
  refine ⟨r, ?_, e2⟩
  rw [q_String_indexOf1]
  simp only [decide_eq_true (show (0 : Int) ≤ 0 ∧ (0 : Int) < 16 by omega), Bool.and_self, cond_true]
  rw [q_String_indexOf]
  simp only [em_cd, if_pos (show (0 : Int) ≤ 0 ∧ (0 : Int) < 16 by omega), decide_eq_true (show (0 : Int) ≤ 0 ∧ (0 : Int) < 16 by omega), Bool.and_self, cond_true]
  rw [f_latin M (show (0 : Int) ≤ 0 by omega) (show (0 : Int) < 16 by omega)]
  simp only [Option.bind_some, f_slen M (show (0 : Int) ≤ 0 by omega) (show (0 : Int) < 16 by omega), g1]
  rw [if_neg (by omega)]
  rw [q_StringLatin1_indexOf, q_StringLatin1_canEncode]
  simp only [em_cd, show (0 : Int) + 16 - 16 = 0 by omega, g1, h.1, if_neg (show ¬ x < 0 by omega), if_neg (show ¬ 255 < x by omega), Option.bind_some, if_pos (show ¬ (1 : Int) = 0 by omega), if_pos (show (16 : Int) ≤ 0 + 16 ∧ (0 : Int) + 16 < 32 by omega)]
  rw [if_pos (by omega), show max (0 : Int) 0 = 0 by omega, show min (6 : Int) 6 = 6 by omega, q_StringLatin1_indexOfChar, h.2, show (0 : Int) + 16 = 16 by omega, e1]
  rfl
end
