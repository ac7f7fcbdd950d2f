/-! open, undo of the two. -/
section
variable {M : em_M}
theorem RE_copy {M M2 : em_M} {E e : Int} (h : RE M E e) (e0 : 0 ≤ e) (h1 : ∀ j, 0 ≤ j → j < 9 → M2 360 j = M E j) (h2 : ∀ c j, 1 ≤ c → c ≤ 5 → 0 ≤ j → j < 30 → M2 (360 + c) j = M (E + c) j) (h3 : M2 507 31 = M 507 e ∧ M2 508 31 = M 508 e ∧ M2 509 31 = M 509 e ∧ M2 510 31 = M 510 e) (h4 : ∀ k, 0 ≤ k → k < 10 → M2 511 (310 + k) = M 511 (10 * e + k)) (h5 : ∀ k, 0 ≤ k → k < 180 → M2 512 (5580 + k) = M 512 (180 * e + k)) (h6 : ∀ k, 0 ≤ k → k < 30 → M2 513 (930 + k) = M 513 (30 * e + k) ∧ M2 514 (930 + k) = M 514 (30 * e + k)) : RE M2 360 31 := by
  obtain ⟨a, b, c, d, ⟨f1, f2, f3, f4, f5⟩, g⟩ := h
  obtain ⟨i1, i2, i3, i4⟩ := h3
  have k0 : ∀ k, 0 ≤ k → k < 10 → M2 511 (10 * 31 + k) = M 511 (10 * e + k) := h4
  have k1 := k0 0 (by omega) (by omega)
  rw [Int.add_zero, Int.add_zero] at k1
  refine ⟨by rw [h1 0 (by omega) (by omega), i2]; exact a, by rw [h1 1 (by omega) (by omega), i1]; exact b, by rw [h1 2 (by omega) (by omega), i3]; exact c, by rw [h1 3 (by omega) (by omega), i4]; exact d, ⟨?_, ?_, ?_, ?_, ?_⟩, fun q q0 q1 => ?_⟩
  · rw [h1 4 (by omega) (by omega), k1, k0 1 (by omega) (by omega)]; exact f1
  · rw [h1 5 (by omega) (by omega), k0 2 (by omega) (by omega), k0 3 (by omega) (by omega)]; exact f2
  · rw [h1 6 (by omega) (by omega), k0 4 (by omega) (by omega), k0 5 (by omega) (by omega)]; exact f3
  · rw [h1 7 (by omega) (by omega), k0 6 (by omega) (by omega), k0 7 (by omega) (by omega)]; exact f4
  · rw [h1 8 (by omega) (by omega), k0 8 (by omega) (by omega), k0 9 (by omega) (by omega)]; exact f5
  · rw [h1 2 (by omega) (by omega)] at q1
    obtain ⟨g1, g2, g3, g4, g5⟩ := g q q0 q1
    have z : ∀ x, 0 ≤ x → x ≤ 5 → M2 512 (180 * 31 + 6 * q + x) = M 512 (180 * e + 6 * q + x) := fun x x0 x1 => by
      rw [show 180 * 31 + 6 * q + x = 5580 + (6 * q + x) by omega, h5 _ (by omega) (by omega), show 180 * e + 6 * q + x = 180 * e + (6 * q + x) by omega]
    have z0 := z 0 (by omega) (by omega)
    rw [Int.add_zero, Int.add_zero] at z0
    rw [h2 1 q (by omega) (by omega) q0 (by omega), h2 2 q (by omega) (by omega) q0 (by omega), h2 3 q (by omega) (by omega) q0 (by omega), h2 4 q (by omega) (by omega) q0 (by omega), h2 5 q (by omega) (by omega) q0 (by omega), z0, z 1 (by omega) (by omega), z 2 (by omega) (by omega), z 3 (by omega) (by omega), z 4 (by omega) (by omega), z 5 (by omega) (by omega), show 30 * 31 + q = 930 + q by omega, (h6 q q0 (by omega)).1, (h6 q q0 (by omega)).2]
    exact ⟨g1, g2, g3, g4, g5⟩
theorem arm_open (h : Rel M) (p : Int) : Arm (f_EstateOffice_open p) (f_Model_open p) M := by
  obtain ⟨hT, hP, hD, hM, hO, hL, hW, hK, hH, hS, hN, hF⟩ := id h
  obtain ⟨p1, p2, p3, p4⟩ := id hP
  have e1 : f_EstateOffice_open p M = if (0 ≤ p ∧ p < M 6 0 ∧ ¬ M 11 p = -1) then (f_Estate_copy 360 (174 + 6 * p) M).bind fun r2 => some (1, r2.2) else some (0, M) := by
    rw [q_EstateOffice_open, f_has30 p3]
    simp only [em_cd, Option.bind_some, b2_z, f_undead p3]
    rw [show 173 + 1 + p * 6 = 174 + 6 * p by omega]
    repeat' split
    all_goals first | rfl | omega
  by_cases hc : 0 ≤ p ∧ p < M 6 0 ∧ ¬ M 11 p = -1
  · obtain ⟨c0, c1, c2⟩ := hc
    rw [if_pos ⟨c0, c1, c2⟩] at e1
    obtain ⟨M1, g1, g2, g3, g4⟩ := f_Ecopy (M := M) (isE_p c0 (by omega)) (by omega)
    obtain ⟨N, k1, k2, k3, k4, k5, k6⟩ := m_copies (M := M1) c0 (by omega : p < 31)
    have hE := hS p c0 c1 c2
    have hst := (hD.2 p c0 c1).1.2.2
    have s506 : M1 506 p = 1 := by rw [g4 506 p (by omega), hst, b2_t c2]
    refine ⟨1, M1, xup N 439 114 1, by rw [e1, g1]; rfl, ⟨fun j => g4 _ _ (by omega), g4 _ _ (by omega)⟩, ?_, ⟨fun j => by rw [xup_ne (by omega), k6 _ _ (by omega), g4 _ _ (by omega)], by rw [xup_ne (by omega), k6 _ _ (by omega), g4 _ _ (by omega)]⟩, ?_⟩
    · rw [q_Model_open, m_isPerson, g4 439 47 (by omega), p1]
      simp only [Option.bind_some, em_cd, b2_z]
      rw [if_neg (fun z => z ⟨c0, c1⟩), if_pos (by omega), if_pos (by omega), k1]
      rfl
    have ex : ∀ c j, ¬ ((360 ≤ c ∧ c ≤ 365) ∨ (507 ≤ c ∧ c ≤ 510 ∧ j = 31) ∨ (c = 511 ∧ 310 ≤ j) ∨ (c = 512 ∧ 5580 ≤ j) ∨ (513 ≤ c ∧ c ≤ 514 ∧ 930 ≤ j) ∨ (c = 439 ∧ j = 114)) → xup N 439 114 1 c j = M c j := fun c j hc => by
      rw [xup_ne (by omega), k6 c j (by omega), g4 c j (by omega)]
    refine ⟨RT_fr hT (fun c j hc => ex c j (by omega)), RP_fr hP (fun c j hc => ex c j (by omega)), RD_fr hD (fun c j hc => ex c j (by omega)), RM_fr hM (fun c j hc => ex c j (by omega)), RO_fr hO (fun c j hc => ex c j (by omega)), RL_fr hL (fun c j hc => ex c j (by omega)), RW_fr hW (fun c j hc => ex c j (by omega)), RK_fr hK hW (fun c j hc => ex c j (by omega)), RH_fr hH (fun c j hc => ex c j (by omega)), ?_, Or.inr ⟨xup_eq _ _ _ _, ?_⟩, RF_fr hF (fun c j hc => ex c j (by omega))⟩
    · intro x x0 x1 x2
      rw [ex 6 0 (by omega)] at x1
      rw [ex 11 x (by omega)] at x2
      exact RE_fr2 (hS x x0 x1 x2) (fun c j hc => ex c j (by omega))
    · refine RE_copy hE c0 (fun j j0 j1 => ?_) (fun c j q0 q1 j0 j1 => ?_) ?_ (fun k q0 q1 => ?_) (fun k q0 q1 => ?_) (fun k q0 q1 => ?_)
      · rw [xup_ne (by omega), k6 _ _ (by omega)]; exact g2 j j0 j1
      · rw [xup_ne (by omega), k6 _ _ (by omega)]; exact g3 c j q0 q1 j0 j1
      · rw [xup_ne (by omega), xup_ne (by omega), xup_ne (by omega), xup_ne (by omega), k2.1, k2.2.1, k2.2.2.1, k2.2.2.2]
        exact ⟨g4 _ _ (by omega), g4 _ _ (by omega), g4 _ _ (by omega), g4 _ _ (by omega)⟩
      · rw [xup_ne (by omega), k3 k q0 q1]; exact g4 _ _ (by omega)
      · rw [xup_ne (by omega), k4 k q0 q1]; exact g4 _ _ (by omega)
      · rw [xup_ne (by omega), xup_ne (by omega), (k5 k q0 q1).1, (k5 k q0 q1).2]
        exact ⟨g4 _ _ (by omega), g4 _ _ (by omega)⟩
  · rw [if_neg hc] at e1
    refine ⟨0, M, M, e1, Scr.rf M, ?_, Scr.rf M, h⟩
    rw [q_Model_open, m_isPerson, p1]
    simp only [Option.bind_some, em_cd, b2_z]
    by_cases hp : 0 ≤ p ∧ p < M 6 0
    · have hst := (hD.2 p hp.1 hp.2).1.2.2
      have c2 : M 11 p = -1 := Decidable.byContradiction (fun z => hc ⟨hp.1, hp.2, z⟩)
      rw [b2_f (fun z => z c2)] at hst
      rw [if_neg (fun z => z hp), if_pos (by omega), if_neg (by omega)]
    · rw [if_pos hp]
/-! undo -/
def sdM (M : em_M) (s d i : Int) : em_M := fun c j => if c = 11 ∧ i ≤ j ∧ j < M 6 0 ∧ tb s j = true then d else M c j
theorem f_setDied_i {s d : Int} : ∀ (k : Nat) (M : em_M) (i : Int), 0 ≤ i → M 6 0 ≤ 30 → M 6 0 - i ≤ k → f_Register_setDied_2 s d i M = some (0, sdM M s d i) := by
  intro k
  induction k with
  | zero =>
    intro M i i0 hn hk
    rw [q_Register_setDied_2, em_cd, if_pos (by omega)]
    congr 2
    funext c j
    unfold sdM
    rw [if_neg (by omega)]
  | succ k ih =>
    intro M i i0 hn hk
    rw [q_Register_setDied_2]
    simp only [em_cd, f_holds, Option.bind_some, b2_z]
    by_cases q : M 6 0 ≤ i
    · rw [if_pos q]
      congr 2
      funext c j
      unfold sdM
      rw [if_neg (by omega)]
    · rw [if_neg q, if_neg (by omega), x32_s (by omega) (by omega)]
      cases hb : tb s i with
      | true =>
        rw [if_neg (fun z => z ⟨i0, by omega, rfl⟩), if_pos (by omega), ih _ _ (by omega) (by rw [xup_ne (by omega)]; exact hn) (by rw [xup_ne (by omega)]; omega)]
        congr 2
        funext c j
        unfold sdM
        rw [xup_ne (b := 6) (by omega)]
        by_cases r : c = 11 ∧ i + 1 ≤ j ∧ j < M 6 0 ∧ tb s j = true
        · rw [if_pos r, if_pos ⟨r.1, by omega, r.2.2⟩]
        · rw [if_neg r]
          by_cases t : c = 11 ∧ j = i
          · rw [t.1, t.2, xup_eq, if_pos ⟨rfl, by omega, by omega, hb⟩]
          · rw [xup_ne t, if_neg (fun z => r ⟨z.1, by omega, z.2.2⟩)]
      | false =>
        rw [if_pos (by simp), ih _ _ (by omega) hn (by omega)]
        congr 2
        funext c j
        unfold sdM
        by_cases r : c = 11 ∧ i + 1 ≤ j ∧ j < M 6 0 ∧ tb s j = true
        · rw [if_pos r, if_pos ⟨r.1, by omega, r.2.2⟩]
        · rw [if_neg r, if_neg (fun z => r ⟨z.1, by
            have : ¬ j = i := fun w => by rw [w, hb] at z; exact absurd z.2.2.2 (by simp)
            omega, z.2.2⟩)]
theorem f_setDied (s d : Int) (hn : M 6 0 ≤ 30) : f_Register_setDied s d M = some (0, sdM M s d 0) := by
  rw [q_Register_setDied]
  exact f_setDied_i 30 M 0 (by omega) hn (by omega)
theorem sdM_in {s d i j : Int} (h : i ≤ j ∧ j < M 6 0 ∧ tb s j = true) : sdM M s d i 11 j = d := if_pos ⟨rfl, h⟩
theorem sdM_ne {s d i c j : Int} (h : ¬ (c = 11 ∧ i ≤ j ∧ j < M 6 0 ∧ tb s j = true)) : sdM M s d i c j = M c j := if_neg h
theorem rowK : (List.range 30).all (fun k => Nat.beq (em_kd (143 + (k : Int))) 101 && decide (em_ln (143 + (k : Int)) = 30)) = true := by decide +kernel
theorem rowK_at {j : Int} (h : 0 ≤ j) (h2 : j < 30) : em_kd (143 + j) = 101 ∧ em_ln (143 + j) = 30 := by
  have := List.all_eq_true.mp rowK j.toNat (List.mem_range.mpr (by omega))
  rw [show ((j.toNat : Nat) : Int) = j by omega, Bool.and_eq_true, decide_eq_true_eq] at this
  exact ⟨Nat.eq_of_beq_eq_true this.1, this.2⟩
theorem em_kd12 : em_kd 12 = 101 ∧ em_ln 12 = 30 := by decide +kernel
/-- the class's undo -/
theorem f_takeBack {t : Int} (ht : M 136 0 = t + 1) (t0 : 0 ≤ t) (t1 : t < 30) (hn : M 6 0 ≤ 30) (h0 : 0 ≤ M 138 t) (h1 : M 138 t ≤ M 6 0) : ∃ M', f_EstateOffice_undo M = some (1, M') ∧ M' 136 0 = t ∧ M' 136 1 = M 139 t ∧ M' 136 2 = M 140 t ∧ M' 136 3 = M 141 t ∧ M' 6 1 = M 137 t ∧ (∀ p, 0 ≤ p → p < M 6 0 → M' 11 p = if tb (M 137 t) p = true then -1 else M 11 p) ∧ (∀ p, M' 12 p = if 0 ≤ p ∧ p < M 138 t then M (143 + t) p else M 12 p) ∧ ∀ c j, ¬ ((c = 136 ∧ 0 ≤ j ∧ j < 4) ∨ (c = 6 ∧ j = 1) ∨ c = 11 ∨ c = 12) → M' c j = M c j := by
  have hx : x32 (M 136 0 - 1) = t := by rw [x32_s (by omega) (by omega)]; omega
  have hr := rowK_at t0 t1
  have e0 : (142 + 1 + t * 1 : Int) = 143 + t := by omega
  have k1 : f_History_takeBack M = f_History_takeBack_86 t (xcpy (xup (xup (xup (xup M 136 0 t) 136 1 (M 139 t)) 136 2 (M 140 t)) 136 3 (M 141 t)) (143 + t) 0 12 0 (M 138 t)) := by
    have z : max 0 (min (M 138 t) 30) = M 138 t := by omega
    rw [q_History_takeBack, hx]
    simp (disch := omega) only [em_cd, if_pos, if_neg, xup_ne, z, e0, hr.1, hr.2, em_kd12.1, em_kd12.2]
    rw [show (Nat.beq 101 101 && (Nat.beq 101 100 || Nat.beq 101 101) && Nat.ble (em_cat []) 8) = true from rfl, Bool.true_and, decide_eq_true (by omega), cond_true]
  generalize hA : xcpy (xup (xup (xup (xup M 136 0 t) 136 1 (M 139 t)) 136 2 (M 140 t)) 136 3 (M 141 t)) (143 + t) 0 12 0 (M 138 t) = A at k1
  have a1 : ∀ c j, ¬ (c = 136 ∧ 0 ≤ j ∧ j < 4) → ¬ (c = 12 ∧ 0 ≤ j ∧ j < M 138 t) → A c j = M c j := fun c j q1 q2 => by
    rw [← hA]
    simp (disch := omega) only [xcpy_ne, xup_ne]
  have a2 : A 136 0 = t ∧ A 136 1 = M 139 t ∧ A 136 2 = M 140 t ∧ A 136 3 = M 141 t := by
    rw [← hA]
    simp (disch := omega) only [xcpy_ne, xup_ne, xup_eq, and_self]
  have a3 : ∀ p, 0 ≤ p → p < M 138 t → A 12 p = M (143 + t) p := fun p q1 q2 => by
    rw [← hA, rd4 (by omega) (by omega), show 0 + (p - 0) = p by omega]
    simp (disch := omega) only [xup_ne]
  rw [q_EstateOffice_undo, k1, q_History_takeBack_86, em_cd, if_pos (by omega), a1 137 t (by omega) (by omega), f_setDied _ _ (by rw [a1 6 0 (by omega) (by omega)]; exact hn)]
  simp only [Option.bind_some, em_cd]
  rw [if_pos (c := 0 ≤ t ∧ t < 30) (by omega)]
  simp only [Option.bind_some, or_true, if_true]
  have s1 : sdM A (M 137 t) (-1) 0 137 t = M 137 t := by rw [sdM_ne (by omega), a1 _ _ (by omega) (by omega)]
  rw [s1]
  refine ⟨_, rfl, ?_, ?_, ?_, ?_, xup_eq _ _ _ _, fun p q0 q1 => ?_, fun p => ?_, fun c j hc => ?_⟩
  · rw [xup_ne (by omega), sdM_ne (by omega)]; exact a2.1
  · rw [xup_ne (by omega), sdM_ne (by omega)]; exact a2.2.1
  · rw [xup_ne (by omega), sdM_ne (by omega)]; exact a2.2.2.1
  · rw [xup_ne (by omega), sdM_ne (by omega)]; exact a2.2.2.2
  · rw [xup_ne (by omega)]
    by_cases hb : tb (M 137 t) p = true
    · rw [if_pos hb, sdM_in ⟨q0, by rw [a1 6 0 (by omega) (by omega)]; exact q1, hb⟩]
    · rw [if_neg hb, sdM_ne (fun z => hb z.2.2.2), a1 _ _ (by omega) (by omega)]
  · rw [xup_ne (by omega), sdM_ne (by omega)]
    by_cases hb : 0 ≤ p ∧ p < M 138 t
    · rw [if_pos hb]; exact a3 p hb.1 hb.2
    · rw [if_neg hb]; exact a1 _ _ (by omega) (by omega)
  · rw [xup_ne (by omega), sdM_ne (by omega), a1 _ _ (by omega) (by omega)]
end
