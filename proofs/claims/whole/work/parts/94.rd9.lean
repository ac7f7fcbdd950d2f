/-! read: how the class writes a law. -/
section
variable {C R M : em_M} {w S r k : Int}
theorem f_clear (hw : w = 53 ∨ w = 366) : ∃ C', f_Law_clear w C = some (0, C') ∧ (C' w 0 = 0 ∧ C' w 1 = 0 ∧ C' w 2 = 0 ∧ C' w 3 = 1 ∧ C' w 4 = 0) ∧ ∀ c j, ¬ (c = w ∧ 0 ≤ j ∧ j ≤ 4) → C' c j = C c j := by
  have e := q_Law_clear w C
  simp only [isO_law hw, Bool.and_self, cond_true, q_Law_clear_25] at e
  refine ⟨_, e, ?_, fun c j hc => ?_⟩
  · simp (disch := omega) only [xup_ne, xup_eq, and_self]
  · rw [xup_ne (by omega), xup_ne (by omega), xup_ne (by omega), xup_ne (by omega), xup_ne (by omega)]
theorem f_addStep {row sx o : Int} (hw : w = 53 ∨ w = 366) (hS : C w 1 = S) (S0 : 0 ≤ S) (S1 : S < 600) (ho : o = 0 ∨ o = 1) : ∃ C', f_Law_addStep w row sx o C = some (0, C') ∧ (C' (w + 2) S = row ∧ C' (w + 3) S = sx ∧ C' (w + 4) S = o ∧ C' w 1 = S + 1) ∧ ∀ c j, ¬ ((w + 2 ≤ c ∧ c ≤ w + 4 ∧ j = S) ∨ (c = w ∧ j = 1)) → C' c j = C c j := by
  obtain ⟨-, ⟨k1, k2⟩, ⟨k3, k4⟩, k5, k6⟩ := lawK w hw
  have e := q_Law_addStep w row sx o C
  simp (disch := omega) only [isO_law hw, em_cd, cond_true, hS, k1, k2, k3, k4, k5, k6, xup_ne, if_neg (show ¬ S < 0 by omega), if_pos S1, decide_eq_true (show 0 ≤ S ∧ S < 600 from ⟨S0, S1⟩), decide_eq_true ho, Bool.and_self, Bool.and_true, x32_s] at e
  have e2 : f_Law_addStep w row sx o C = some (0, xup (xup (xup (xup C (w + 2) S row) (w + 3) S sx) (w + 4) S o) w 1 (S + 1)) := e
  refine ⟨_, e2, ?_, fun c j hc => ?_⟩
  · simp (disch := omega) only [xup_ne, xup_eq, and_self]
  · rw [xup_ne (by omega), xup_ne (by omega), xup_ne (by omega), xup_ne (by omega)]
theorem f_closeKin (hw : w = 53 ∨ w = 366) (hk : C w 0 = k) (k0 : 0 ≤ k) (k1 : k < 20) : ∃ C', f_Law_closeKin w C = some (0, C') ∧ (C' w 0 = k + 1 ∧ C' (w + 1) (k + 1) = C w 1) ∧ ∀ c j, ¬ ((c = w ∧ j = 0) ∨ (c = w + 1 ∧ j = k + 1)) → C' c j = C c j := by
  obtain ⟨⟨h1, h2⟩, -⟩ := lawK w hw
  have e := q_Law_closeKin w C
  simp (disch := omega) only [isO_law hw, em_cd, cond_true, hk, h1, h2, xup_ne, xup_eq, if_neg (show ¬ k < 0 by omega), if_neg (show ¬ 20 ≤ k by omega), Bool.and_self, Bool.and_true, x32_s, decide_eq_true (show 0 ≤ k + 1 ∧ k + 1 < 21 by omega)] at e
  have e2 : f_Law_closeKin w C = some (0, xup (xup C w 0 (k + 1)) (w + 1) (k + 1) (C w 1)) := e
  refine ⟨_, e2, ?_, fun c j hc => ?_⟩
  · simp (disch := omega) only [xup_ne, xup_eq, and_self]
  · rw [xup_ne (by omega), xup_ne (by omega)]
theorem f_addRule {d : Int} (hw : w = 53 ∨ w = 366) (hr : C w 4 = r) (r0 : 0 ≤ r) (r1 : r < 30) : ∃ C', f_Law_addRule w d C = some (0, C') ∧ (C' (w + 5) r = d ∧ C' (w + 10) r = 0 ∧ C' w 4 = r + 1) ∧ ∀ c j, ¬ ((w + 5 ≤ c ∧ c ≤ w + 10 ∧ j = r) ∨ (c = w ∧ j = 4)) → C' c j = C c j := by
  obtain ⟨⟨a1, a2⟩, ⟨a3, a4⟩, ⟨a5, a6⟩, ⟨a7, a8⟩, ⟨a9, b1⟩, ⟨b2', b3⟩, -⟩ := lawR w hw
  have hx : (bif Nat.beq (em_kd (w + 7)) 102 then x_i2b 0 else 0) = 0 := by
    rcases a5 with z | z
    · rw [z]; decide +kernel
    · rw [z]; rfl
  have hy : (Nat.beq (em_kd (w + 7)) 102 || (Nat.beq (em_kd (w + 7)) 103 && decide ((0 : Int) = 0 ∨ (0 : Int) = 1))) = true := by
    rcases a5 with z | z <;> rw [z] <;> rfl
  have hy5 : (Nat.beq (em_kd (w + 7)) 102 || Nat.beq (em_kd (w + 7)) 103) = true := by
    rcases a5 with z | z <;> rw [z] <;> rfl
  have e := q_Law_addRule w d C
  rw [hx] at e
  simp (disch := omega) only [isO_law hw, em_cd, cond_true, hr, hy, a1, a2, a3, a4, a6, a7, a8, a9, b1, xup_ne, if_neg (show ¬ r < 0 by omega), if_pos r1, decide_eq_true (show 0 ≤ r ∧ r < 30 from ⟨r0, r1⟩), Bool.and_self, Bool.and_true] at e
  simp only [true_or, decide_true, Bool.and_true, hy5, cond_true] at e
  have e2 : f_Law_addRule w d C = f_Law_addRule_67 w (xup (xup (xup (xup (xup C (w + 5) r d) (w + 6) r 1) (w + 7) r 0) (w + 8) r (-1)) (w + 9) r (-1)) := e
  rw [q_Law_addRule_67] at e2
  simp (disch := omega) only [isO_law hw, em_cd, cond_true, hr, b2', b3, xup_ne, decide_eq_true (show 0 ≤ r ∧ r < 30 from ⟨r0, r1⟩), Bool.and_self, Bool.and_true, x32_s] at e2
  have e3 : f_Law_addRule w d C = some (0, xup (xup (xup (xup (xup (xup (xup C (w + 5) r d) (w + 6) r 1) (w + 7) r 0) (w + 8) r (-1)) (w + 9) r (-1)) (w + 10) r 0) w 4 (r + 1)) := e2
  refine ⟨_, e3, ?_, fun c j hc => ?_⟩
  · simp (disch := omega) only [xup_ne, xup_eq, and_self]
  · rw [xup_ne (by omega), xup_ne (by omega), xup_ne (by omega), xup_ne (by omega), xup_ne (by omega), xup_ne (by omega), xup_ne (by omega)]
theorem f_setFixed {v o a b : Int} (hw : w = 53 ∨ w = 366) (hr : C w 4 = r + 1) (r0 : 0 ≤ r) (r1 : r < 30) (ho : o = 0 ∨ o = 1) : ∃ C', f_Law_setFixed w v o a b C = some (0, C') ∧ (C' (w + 6) r = v ∧ C' (w + 7) r = o ∧ C' (w + 8) r = a ∧ C' (w + 9) r = b) ∧ ∀ c j, ¬ (w + 6 ≤ c ∧ c ≤ w + 9 ∧ j = r) → C' c j = C c j := by
  obtain ⟨⟨a1, a2⟩, ⟨a3, a4⟩, ⟨a5, a6⟩, ⟨a7, a8⟩, ⟨a9, b1⟩, ⟨b2', b3⟩, -⟩ := lawR w hw
  have hx : (bif Nat.beq (em_kd (w + 7)) 102 then x_i2b o else o) = o := by
    rcases a5 with z | z
    · rw [z]; rcases ho with rfl | rfl <;> decide +kernel
    · rw [z]; rfl
  have hy : (Nat.beq (em_kd (w + 7)) 102 || (Nat.beq (em_kd (w + 7)) 103 && decide (o = 0 ∨ o = 1))) = true := by
    rw [decide_eq_true ho]
    rcases a5 with z | z <;> rw [z] <;> rfl
  have e := q_Law_setFixed w v o a b C
  rw [hx] at e
  simp (disch := omega) only [isO_law hw, em_cd, cond_true, hr, hy, a3, a4, a6, a7, a8, a9, b1, x32_s, show r + 1 - 1 = r by omega, if_neg (show ¬ r < 0 by omega), if_pos r1, decide_eq_true (show 0 ≤ r ∧ r < 30 from ⟨r0, r1⟩), Bool.and_self, Bool.and_true] at e
  have e2 : f_Law_setFixed w v o a b C = some (0, xup (xup (xup (xup C (w + 6) r v) (w + 7) r o) (w + 8) r a) (w + 9) r b) := e
  refine ⟨_, e2, ?_, fun c j hc => ?_⟩
  · simp (disch := omega) only [xup_ne, xup_eq, and_self]
  · rw [xup_ne (by omega), xup_ne (by omega), xup_ne (by omega), xup_ne (by omega)]
theorem f_addToList {q v a : Int} (hw : w = 53 ∨ w = 366) (hr : C w 4 = r + 1) (r0 : 0 ≤ r) (r1 : r < 30) (ha : C (w + 10) r = a) (a0 : 0 ≤ a) (a1 : a < 8) : ∃ C', f_Law_addToList w q v C = some (0, C') ∧ (C' (w + 12 + r) a = q ∧ C' (w + 43 + r) a = v ∧ C' (w + 10) r = a + 1) ∧ ∀ c j, ¬ (((c = w + 12 + r ∨ c = w + 43 + r) ∧ j = a) ∨ (c = w + 10 ∧ j = r)) → C' c j = C c j := by
  obtain ⟨-, -, -, -, -, ⟨b2', b3⟩, ⟨k1, k2⟩, k3, k4⟩ := lawR w hw
  obtain ⟨⟨l1, l2⟩, l3, l4⟩ := lawKin hw r0 r1
  have e1 : (Nat.beq (em_kd (w + 11)) 110 || (Nat.beq (em_kd (w + 11)) 111 || Nat.beq (em_kd (w + 11)) 112)) = true := by rcases k1 with k | k <;> rw [k] <;> rfl
  have f1 : (bif Nat.beq (em_kd (w + 11)) 112 then (6 : Int) else 1) = 1 := by rcases k1 with k | k <;> rw [k] <;> rfl
  have e3 : (Nat.beq (em_kd (w + 42)) 110 || (Nat.beq (em_kd (w + 42)) 111 || Nat.beq (em_kd (w + 42)) 112)) = true := by rcases k3 with k | k <;> rw [k] <;> rfl
  have f3 : (bif Nat.beq (em_kd (w + 42)) 112 then (6 : Int) else 1) = 1 := by rcases k3 with k | k <;> rw [k] <;> rfl
  have e := q_Law_addToList w q v C
  simp (disch := omega) only [isO_law hw, hr, x32_s, show r + 1 - 1 = r by omega, f1, f3, e1, e3, Int.mul_one, show w + 11 + 1 + r = w + 12 + r by omega, show w + 42 + 1 + r = w + 43 + r by omega, b2', b3, k2, k4, l1, l2, l3, l4, ha, em_cd, cond_true, if_neg (show ¬ r < 0 by omega), if_pos r1, if_neg (show ¬ a < 0 by omega), if_pos a1, decide_eq_true (show 0 ≤ r ∧ r < 30 from ⟨r0, r1⟩), decide_eq_true (show 0 ≤ a ∧ a < 8 from ⟨a0, a1⟩), Bool.and_self, Bool.and_true, Bool.true_and] at e
  have e2 : f_Law_addToList w q v C = some (0, xup (xup (xup C (w + 12 + r) a q) (w + 43 + r) a v) (w + 10) r (a + 1)) := e
  refine ⟨_, e2, ?_, fun c j hc => ?_⟩
  · simp (disch := omega) only [xup_ne, xup_eq, and_self]
  · rw [xup_ne (by omega), xup_ne (by omega), xup_ne (by omega)]
/-- whether the latest rule has this kin -/
theorem f_lists {q a : Int} (hw : w = 53 ∨ w = 366) (hr : C w 4 = r + 1) (r0 : 0 ≤ r) (r1 : r < 30) (ha : C (w + 10) r = a) (a1 : a ≤ 8) : ∃ z, f_Law_lists w q C = some (z, C) ∧ (¬ z = 0 ↔ ∃ i, 0 ≤ i ∧ i < a ∧ C (w + 12 + r) i = q) := by
  have lp : ∀ (f : Nat) (i : Int), 0 ≤ i → a - i ≤ f → ∃ z, f_Law_lists_9 w q r i C = some (z, C) ∧ (¬ z = 0 ↔ ∃ x, i ≤ x ∧ x < a ∧ C (w + 12 + r) x = q) := by
    intro f
    induction f with
    | zero =>
      intro i i0 hf
      have e := q_Law_lists_9 w q r i C
      simp only [isO_law hw, Bool.and_self, cond_true, f_sizeOf hw r0 r1, ha, Option.bind_some, em_cd, if_pos (show a ≤ i by omega)] at e
      exact ⟨0, e, fun z => absurd rfl z, fun ⟨x, x0, x1, _⟩ => by omega⟩
    | succ f ih =>
      intro i i0 hf
      by_cases c : a ≤ i
      · have e := q_Law_lists_9 w q r i C
        simp only [isO_law hw, Bool.and_self, cond_true, f_sizeOf hw r0 r1, ha, Option.bind_some, em_cd, if_pos c] at e
        exact ⟨0, e, fun z => absurd rfl z, fun ⟨x, x0, x1, _⟩ => by omega⟩
      · have e := q_Law_lists_9 w q r i C
        simp only [isO_law hw, Bool.and_self, cond_true, f_sizeOf hw r0 r1, ha, Option.bind_some, em_cd, if_neg c, f_kinIn hw r0 r1 i0 (show i < 8 by omega), x32_s (show -1000000 ≤ i + 1 by omega) (show i + 1 ≤ 1000000 by omega)] at e
        by_cases c2 : C (w + 12 + r) i = q
        · rw [if_neg (fun z => z c2)] at e
          exact ⟨1, e, fun _ => ⟨i, Int.le_refl _, by omega, c2⟩, fun _ => by omega⟩
        · rw [if_pos c2] at e
          obtain ⟨z, k1, k2⟩ := ih (i + 1) (by omega) (by omega)
          refine ⟨z, e.trans k1, k2.trans ⟨fun ⟨x, x0, x1, x2⟩ => ⟨x, by omega, x1, x2⟩, fun ⟨x, x0, x1, x2⟩ => ⟨x, ?_, x1, x2⟩⟩⟩
          by_cases y : x = i
          · subst y
            exact absurd x2 c2
          · omega
  have e := q_Law_lists w q C
  simp only [isO_law hw, cond_true, hr, show r + 1 - 1 = r by omega, x32_s (show -1000000 ≤ r by omega) (show r ≤ 1000000 by omega)] at e
  obtain ⟨z, k1, k2⟩ := lp a.toNat 0 (by omega) (by omega)
  exact ⟨z, e.trans k1, k2⟩
theorem f_setBySteps {q : Int} (hw : w = 53 ∨ w = 366) (q0 : -1 ≤ q) (q1 : q < 20) : f_Law_setBySteps w q C = some (0, if q = -1 then C else xup C w 2 (x_or (C w 2) (x_shl 1 q))) := by
  rw [q_Law_setBySteps]
  simp only [isO_law hw, Bool.and_self, cond_true, em_cd]
  by_cases c : q = -1
  · rw [if_pos (by omega), if_pos c]
  · rw [if_neg (by omega), if_neg (by omega), if_neg c]
end
