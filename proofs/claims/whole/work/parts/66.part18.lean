/-! PARTING: all of it. -/
section
variable {M N : em_M}
theorem f_passE {n : Int} (hp : ∀ x, n ≤ x → x < 30 → M 133 x = 1) : ∀ (m : Nat) (c : Int), n ≤ c → 0 ≤ c → 30 - c ≤ m → f_Parting_passAll_2 c M = some (1, M) := by
  intro m
  induction m with
  | zero =>
    intro c hc c0 hm
    rw [q_Parting_passAll_2, em_cd, if_pos (by omega)]
  | succ m ih =>
    intro c hc c0 hm
    by_cases z : 30 ≤ c
    · rw [q_Parting_passAll_2, em_cd, if_pos z]
    · have e := q_Parting_passAll_2 c M
      rw [hp c hc (by omega), f_isPositive M (fr_ok_lt fr_ok_1.1), fr_ok_1.2.1] at e
      simp only [em_cd, Option.bind_some, zzz] at e
      rw [if_neg z, if_pos (by omega), if_pos (by omega), x32_s (by omega) (by omega)] at e
      rw [e]
      exact ih (c + 1) (by omega) (by omega) (by omega)
theorem all_both {t L n : Int} : ∀ (m : Nat) (c : Int) (M N : em_M), dn M N t L n → sh M N n → N 439 44 = 0 → (∀ x, 0 ≤ x → x < n → fr_is N (M 133 x) (N 495 x) (N 496 x)) → (∀ x, n ≤ x → x < 30 → M 133 x = 1) → (∀ x, 0 ≤ x → x < n → 0 < fr_up (M 133 x) → onl N t x) → 0 ≤ c → c ≤ n → n - c ≤ m →
    (∃ M' N', f_Parting_passAll_2 c M = some (1, M') ∧ f_Model_parts_544 c N = some (0, N') ∧ N' 439 44 = 0 ∧ sh M' N' n ∧ dF M M' ∧ dG 0 N N') ∨ (∃ M' N', f_Parting_passAll_2 c M = some (0, M') ∧ f_Model_parts_544 c N = some (0, N') ∧ N' 439 44 = 1 ∧ dF M M' ∧ dG 0 N N') := by
  intro m
  have fin : ∀ (c : Int) (M N : em_M), dn M N t L n → sh M N n → N 439 44 = 0 → (∀ x, n ≤ x → x < 30 → M 133 x = 1) → 0 ≤ c → c = n → (∃ M' N', f_Parting_passAll_2 c M = some (1, M') ∧ f_Model_parts_544 c N = some (0, N') ∧ N' 439 44 = 0 ∧ sh M' N' n ∧ dF M M' ∧ dG 0 N N') := fun c M N k hs hz h1 c0 hc => by
    refine ⟨M, N, f_passE h1 30 c (by omega) c0 (by omega), ?_, hz, hs, dF.rf M, dG.rf 0 N⟩
    rw [q_Model_parts_544, em_cd, if_pos (by rw [k.2.1.1]; omega)]
  induction m with
  | zero =>
    intro c M N k hs hz hp h1 hon c0 c1 hm
    exact Or.inl (fin c M N k hs hz h1 c0 (by omega))
  | succ m ih =>
    intro c M N k hs hz hp h1 hon c0 c1 hm
    by_cases q : c = n
    · exact Or.inl (fin c M N k hs hz h1 c0 q)
    · clear fin
      have hn := k.1.2
      have hPc := hp c c0 (by omega)
      have e := q_Parting_passAll_2 c M
      rw [f_isPositive M (fr_ok_lt hPc.1)] at e
      simp only [em_cd, Option.bind_some, zzz] at e
      rw [if_neg (by omega), if_pos (by omega), x32_s (by omega) (by omega)] at e
      have eM := q_Model_parts_544 c N
      rw [k.2.1.1, hPc.2.1] at eM
      simp only [em_cd, x_cmp_le] at eM
      rw [if_neg (by omega), if_neg (fun z => z hz), if_pos (by omega), x32_s (by omega) (by omega)] at eM
      by_cases pos : 0 < fr_up (M 133 c)
      · rw [if_neg (fun z => z pos), if_pos (by omega)] at e
        rw [if_neg (by omega), q_Model_goesDown] at eM
        simp only [em_cd] at eM
        rw [if_pos (by omega), if_pos (by omega)] at eM
        generalize hX : xup (xup (xup N 503 0 c) 504 0 ((xup N 503 0 c) 495 c)) 505 0 ((xup (xup N 503 0 c) 504 0 ((xup N 503 0 c) 495 c)) 496 c) = X at eM
        have fX : ∀ a j, ¬ (503 ≤ a ∧ a ≤ 505 ∧ j = 0) → X a j = N a j := fun a j ha => by rw [← hX, xup_ne (by omega), xup_ne (by omega), xup_ne (by omega)]
        have vX : stk X 0 c (M 133 c) := by
          refine ⟨?_, hPc.1, ?_, ?_⟩
          · rw [← hX]; simp (disch := omega) only [xup_ne, xup_eq]
          · rw [← hX]; simp (disch := omega) only [xup_ne, xup_eq]; exact hPc.2.1
          · rw [← hX]; simp (disch := omega) only [xup_ne, xup_eq]; exact hPc.2.2
        have gX : dG 0 N X := fun a j ha => fX a j (by omega)
        have onX : onl X t c := by
          have := hon c c0 (by omega) pos
          unfold onl lvs at this ⊢
          rw [fX 471 _ (by omega), fX 472 _ (by omega), fX 490 _ (by omega)]
          exact this
        have shX : sh M X n := ⟨fun x x0 x1 => by
          rw [fX 497 x (by omega), fX 498 x (by omega)]
          exact hs.1 x x0 x1, hs.2⟩
        have res := pass_both (t := t) (L := L) (n := n) 30 c 37 0 (M 133 c) 0 M X (k.fr (dF.rf M) gX) shX (by rw [fX _ _ (by omega)]; exact hz) c0 (by omega) onX vX (by omega) (by omega) (by omega) (by omega) (by omega) (by omega) c0
        rw [show (0 : Int) + 1 = 1 from rfl] at res
        rcases res with ⟨A, B, s1, s2, s3, s4, s5, s6⟩ | ⟨A, B, s1, s2, s3, s5, s6⟩
        · rw [show (37 : Nat) + 8 = 45 from rfl] at s1
          rw [s1] at e
          simp only [Option.bind_some] at e
          rw [if_pos (by omega)] at e
          rw [s2, q_Model_goesDown_33, em_cd, if_pos (by omega)] at eM
          simp only [Option.bind_some] at eM
          have s6' := gX.tr s6
          have hF : ∀ x, A 133 x = M 133 x := fun x => s5 133 x (by omega)
          have := ih (c + 1) A B ((k.fr (dF.rf M) gX).fr s5 s6) s4 s3 (fun x x0 x1 => by
            rw [hF, s6' 495 x (by omega), s6' 496 x (by omega)]
            exact hp x x0 x1) (fun x x0 x1 => by rw [hF]; exact h1 x x0 x1) (fun x x0 x1 x2 => by
            rw [hF] at x2
            have := hon x x0 x1 x2
            unfold onl lvs at this ⊢
            rw [s6' 471 _ (by omega), s6' 472 _ (by omega), s6' 490 _ (by omega)]
            exact this) (by omega) (by omega) (by omega)
          rw [e, eM]
          rcases this with ⟨C, D, r1, r2, r3, r4, r5, r6⟩ | ⟨C, D, r1, r2, r3, r5, r6⟩
          · exact Or.inl ⟨C, D, r1, r2, r3, r4, s5.tr r5, s6'.tr r6⟩
          · exact Or.inr ⟨C, D, r1, r2, r3, s5.tr r5, s6'.tr r6⟩
        · rw [show (37 : Nat) + 8 = 45 from rfl] at s1
          rw [s1] at e
          simp only [Option.bind_some, eq_self, not_true_eq_false, if_false] at e
          rw [s2] at eM
          simp only [Option.bind_some] at eM
          exact Or.inr ⟨A, B, e, eM.trans (m_544sp s3), s3, s5, gX.tr s6⟩
      · rw [if_pos pos] at e
        rw [if_pos (by omega)] at eM
        rw [e, eM]
        exact ih (c + 1) M N k hs hz hp h1 hon (by omega) (by omega) (by omega)
/-! the beginning -/
theorem f_fillJ_i {a v : Int} (ha : em_kd a = 101) (hl : em_ln a = 30) : ∀ (k : Nat) (M : em_M) (i : Int), 0 ≤ i → 30 - i ≤ k → f_Arrays_fillJ_6 a v i 30 M = some (0, flM M a i v) := by
  intro k
  induction k with
  | zero =>
    intro M i i0 hk
    rw [q_Arrays_fillJ_6, em_cd, if_pos (by omega)]
    congr 1
    congr 1
    funext c j
    unfold flM
    rw [if_neg (by omega)]
  | succ k ih =>
    intro M i i0 hk
    by_cases q : 30 ≤ i
    · rw [q_Arrays_fillJ_6, em_cd, if_pos q]
      congr 1
      congr 1
      funext c j
      unfold flM
      rw [if_neg (by omega)]
    · rw [q_Arrays_fillJ_6, ha, hl, em_cd, if_neg q, decide_eq_true (show 0 ≤ i ∧ i < 30 by omega), x32_s (by omega) (by omega)]
      show f_Arrays_fillJ_6 a v (i + 1) 30 (xup M a i v) = _
      rw [ih _ (i + 1) (by omega) (by omega)]
      congr 1
      congr 1
      funext c j
      unfold flM
      by_cases h : c = a ∧ i + 1 ≤ j ∧ j < 30
      · rw [if_pos h, if_pos (by omega)]
      · rw [if_neg h]
        by_cases h2 : c = a ∧ j = i
        · rw [h2.1, h2.2, xup_eq, if_pos (by omega)]
        · rw [xup_ne h2, if_neg (by omega)]
theorem f_fillJ {a v : Int} (ha : em_kd a = 101) (hl : em_ln a = 30) : f_Arrays_fillJ a v M = some (0, flM M a 0 v) := by
  rw [q_Arrays_fillJ, ha, hl]
  exact f_fillJ_i ha hl 30 M 0 (by omega) (by omega)
theorem m_p18 {v1 n s : Int} (hn : n ≤ 30) (hs : s = 0 ∨ s = 1) : ∀ (m : Nat) (c : Int) (N : em_M), N 439 47 = n → N 439 17 = s → 0 ≤ c → n - c ≤ m → (∀ x, 0 ≤ x → x < c → x < n → (N 493 x = -1 ∧ N 494 x = -1) ∧ (N 495 x = 0 ∧ N 496 x = 1) ∧ N 497 x = 0 ∧ N 498 x = 1) → ∃ N', f_Model_parts_18 v1 c N = f_Model_parts_82 v1 (30 * s) N' ∧ (∀ x, 0 ≤ x → x < n → (N' 493 x = -1 ∧ N' 494 x = -1) ∧ (N' 495 x = 0 ∧ N' 496 x = 1) ∧ N' 497 x = 0 ∧ N' 498 x = 1) ∧ ∀ a j, ¬ (493 ≤ a ∧ a ≤ 498) → N' a j = N a j := by
  intro m
  have fin : ∀ (c : Int) (N : em_M), N 439 47 = n → N 439 17 = s → n ≤ c → (∀ x, 0 ≤ x → x < c → x < n → (N 493 x = -1 ∧ N 494 x = -1) ∧ (N 495 x = 0 ∧ N 496 x = 1) ∧ N 497 x = 0 ∧ N 498 x = 1) → ∃ N', f_Model_parts_18 v1 c N = f_Model_parts_82 v1 (30 * s) N' ∧ (∀ x, 0 ≤ x → x < n → (N' 493 x = -1 ∧ N' 494 x = -1) ∧ (N' 495 x = 0 ∧ N' 496 x = 1) ∧ N' 497 x = 0 ∧ N' 498 x = 1) ∧ ∀ a j, ¬ (493 ≤ a ∧ a ≤ 498) → N' a j = N a j := fun c N h47 h17 hc hx => by
    refine ⟨N, ?_, fun x x0 x1 => hx x x0 (by omega) x1, fun _ _ _ => rfl⟩
    rw [q_Model_parts_18, em_cd, if_pos (by omega), h17, x32_s (by omega) (by omega)]
  induction m with
  | zero =>
    intro c N h47 h17 c0 hm hx
    exact fin c N h47 h17 (by omega) hx
  | succ m ih =>
    intro c N h47 h17 c0 hm hx
    by_cases q : n ≤ c
    · exact fin c N h47 h17 q hx
    · clear fin
      have e := q_Model_parts_18 v1 c N
      simp only [em_cd, q_Model_parts_61] at e
      rw [if_neg (by omega), if_pos (by omega), if_pos (by omega), if_pos (by omega), if_pos (by omega), if_pos (by omega), if_pos (by omega), x32_s (by omega) (by omega)] at e
      obtain ⟨N', h1, h2, h3⟩ := ih (c + 1) (xup (xup (xup (xup (xup (xup N 493 c (-1)) 494 c (-1)) 495 c 0) 496 c 1) 497 c 0) 498 c 1) (by simp (disch := omega) only [xup_ne]; exact h47) (by simp (disch := omega) only [xup_ne]; exact h17) (by omega) (by omega) (fun x x0 x1 x2 => by
        by_cases xc : x = c
        · rw [xc]
          simp (disch := omega) only [xup_ne, xup_eq, and_self]
        · simp (disch := omega) only [xup_ne]
          exact hx x x0 (by omega) x2)
      refine ⟨N', e.trans h1, h2, fun a j ha => ?_⟩
      rw [h3 a j ha]
      simp (disch := omega) only [xup_ne]
end
