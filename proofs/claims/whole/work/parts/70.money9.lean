/-! MONEY: an estate, the two side by side. -/
section
variable {M N : em_M}
theorem f_begin {E p t n : Int} (hE : isE E) : ∃ M', f_Estate_begin E p t n M = some (0, M') ∧ (M' E 0 = p ∧ M' E 1 = t ∧ M' E 2 = n ∧ M' E 4 = 1) ∧ (∀ x, 0 ≤ x → x < 30 → M' (E + 2) x = 1 ∧ M' (E + 3) x = 1) ∧ ∀ c j, ¬ ((c = E ∧ (j = 0 ∨ j = 1 ∨ j = 2 ∨ j = 4)) ∨ c = E + 2 ∨ c = E + 3) → M' c j = M c j := by
  have hne := hE.ne
  obtain ⟨k0, -, ⟨k1, k2⟩, ⟨k3, k4⟩, -⟩ := hE.k
  refine ⟨flM (flM (xup (xup (xup (xup M E 0 p) E 1 t) E 2 n) E 4 1) (E + 2) 0 1) (E + 3) 0 1, ?_, ?_, fun x x0 x1 => ?_, fun c j hc => ?_⟩
  · rw [q_Estate_begin, k0]
    simp only [cond_true, Bool.and_true]
    rw [f_fillJ k1 k2]
    simp only [Option.bind_some]
    rw [f_fillJ k3 k4]
    rfl
  · simp (disch := omega) only [flM_ne, xup_ne, xup_eq, and_self]
  · rw [flM_ne (by omega), flM_in x0 x1, flM_in x0 x1]
    exact ⟨rfl, rfl⟩
  · rw [flM_ne (by omega), flM_ne (by omega), xup_ne (by omega), xup_ne (by omega), xup_ne (by omega), xup_ne (by omega)]
theorem m_se7 {p n : Int} (hn : n ≤ 30) : ∀ (m : Nat) (c : Int) (N : em_M), N 439 47 = n → 0 ≤ c → n - c ≤ m → (∀ x, 0 ≤ x → x < c → x < n → (N 499 x = 0 ∧ N 500 x = 1) ∧ N 501 x = 0 ∧ N 502 x = 1) → ∃ N', f_Model_settles_7 p c N = f_Model_settles_61 p 0 N' ∧ (∀ x, 0 ≤ x → x < n → (N' 499 x = 0 ∧ N' 500 x = 1) ∧ N' 501 x = 0 ∧ N' 502 x = 1) ∧ (N' 439 96 = 0 ∧ N' 439 97 = 1) ∧ ∀ a j, ¬ ((499 ≤ a ∧ a ≤ 502) ∨ (a = 439 ∧ (j = 96 ∨ j = 97))) → N' a j = N a j := by
  intro m
  have fin : ∀ (c : Int) (N : em_M), N 439 47 = n → n ≤ c → (∀ x, 0 ≤ x → x < c → x < n → (N 499 x = 0 ∧ N 500 x = 1) ∧ N 501 x = 0 ∧ N 502 x = 1) → ∃ N', f_Model_settles_7 p c N = f_Model_settles_61 p 0 N' ∧ (∀ x, 0 ≤ x → x < n → (N' 499 x = 0 ∧ N' 500 x = 1) ∧ N' 501 x = 0 ∧ N' 502 x = 1) ∧ (N' 439 96 = 0 ∧ N' 439 97 = 1) ∧ ∀ a j, ¬ ((499 ≤ a ∧ a ≤ 502) ∨ (a = 439 ∧ (j = 96 ∨ j = 97))) → N' a j = N a j := fun c N h47 hc hx => by
    refine ⟨xup (xup N 439 96 0) 439 97 1, ?_, fun x x0 x1 => ?_, ?_, fun a j ha => by rw [xup_ne (by omega), xup_ne (by omega)]⟩
    · rw [q_Model_settles_7, em_cd, if_pos (by omega), q_Model_settles_54]
    · simp (disch := omega) only [xup_ne]
      exact hx x x0 (by omega) x1
    · simp (disch := omega) only [xup_ne, xup_eq, and_self]
  induction m with
  | zero =>
    intro c N h47 c0 hm hx
    exact fin c N h47 (by omega) hx
  | succ m ih =>
    intro c N h47 c0 hm hx
    by_cases q : n ≤ c
    · exact fin c N h47 q hx
    · clear fin
      have e := q_Model_settles_7 p c N
      simp only [em_cd] at e
      rw [if_neg (by omega), if_pos (by omega), if_pos (by omega), if_pos (by omega), if_pos (by omega), x32_s (by omega) (by omega)] at e
      obtain ⟨N', h1, h2, h3, h4⟩ := ih (c + 1) (xup (xup (xup (xup N 499 c 0) 500 c 1) 501 c 0) 502 c 1) (by simp (disch := omega) only [xup_ne]; exact h47) (by omega) (by omega) (fun x x0 x1 x2 => by
        by_cases xc : x = c
        · rw [xc]
          simp (disch := omega) only [xup_ne, xup_eq, and_self]
        · simp (disch := omega) only [xup_ne]
          exact hx x x0 (by omega) x2)
      refine ⟨N', e.trans h1, h2, h3, fun a j ha => ?_⟩
      rw [h4 a j ha]
      simp (disch := omega) only [xup_ne]
/-- the money of the two between two estates -/
def uR (M N : em_M) : Prop := (∀ x, 0 ≤ x → x < M 6 0 → fr_is N (M 135 x) (N 474 x) (N 475 x)) ∧ fr_is N (M 126 5) (N 487 0) (N 488 0) ∧ fr_is N (M 126 6) (N 487 1) (N 488 1)
/-- the reference's reason of x, and the rule of it -/
def rM (N : em_M) (U p x : Int) : Int := if x = p then 6 else if ¬ tb U x = true then (if 0 < N 497 x then 5 else 0) else if tb (N 439 78) x = true then 1 else if ¬ N 493 x = -1 then 2 else if ¬ N 494 x = -1 then 3 else 4
def uM (N : em_M) (r x : Int) : Int := if r = 1 then N 492 x else if r = 2 then N 493 x else if r = 3 then N 494 x else -1
theorem rsn_eq {t L p x : Int} (h : tR M N t L p) (x0 : 0 ≤ x) (x1 : x < M 6 0) : rsn M p x = rM N (M 127 10) p x ∧ rul M p x = uM N (rsn M p x) x := by
  obtain ⟨hsh, h134, hsum, hcr, hb, hp, h17, h16, h13, h494⟩ := h
  obtain ⟨-, ⟨-, -, -, -, -, ⟨b1, b2'⟩, b3⟩, -⟩ := id hb
  have hn := hb.1.1.1.2.2.1
  have hs := hsh.1 x x0 x1
  have t12 := hp.2.2.1.at_ x0 (by omega)
  have t13 := h13.at_ x0 (by omega)
  have t78 := b2'.at_ x0 (by omega)
  have e1 : rsn M p x = rM N (M 127 10) p x := by
    unfold rsn rM
    rw [b1, hs.2.1]
    by_cases c0 : x = p
    · rw [if_pos c0, if_pos c0]
    · rw [if_neg c0, if_neg c0]
      by_cases c1 : ¬ tb (M 127 10) x = true
      · rw [if_pos c1, if_pos c1]
      · rw [if_neg c1, if_neg c1]
        by_cases c2 : tb (N 439 78) x = true
        · rw [if_pos c2, if_pos c2]
        · rw [if_neg c2, if_neg c2]
          by_cases c3 : N 493 x = -1
          · rw [if_neg (show ¬ tb (M 127 12) x = true from fun z => (t12.mp z).2 c3), if_neg (show ¬ ¬ N 493 x = -1 from fun z => z c3)]
            by_cases c4 : N 494 x = -1
            · rw [if_neg (show ¬ tb (M 127 13) x = true from fun z => (t13.mp z).2.2 c4), if_neg (show ¬ ¬ N 494 x = -1 from fun z => z c4)]
            · rw [if_pos (t13.mpr ⟨x1, c3, c4⟩), if_pos c4]
          · rw [if_pos (t12.mpr ⟨x1, c3⟩), if_pos c3]
  refine ⟨e1, ?_⟩
  unfold rul uM
  by_cases r1 : rsn M p x = 1
  · rw [if_pos r1, if_pos r1]
    have : tb (N 439 78) x = true := by
      rw [e1] at r1
      unfold rM at r1
      by_cases c2 : tb (N 439 78) x = true
      · exact c2
      · rw [if_neg c2] at r1
        split at r1
        · omega
        · split at r1
          · split at r1 <;> omega
          · split at r1
            · omega
            · split at r1 <;> omega
    exact b3 x x0 x1 (t78.mp this).2
  · rw [if_neg r1, if_neg r1]
    by_cases r2 : rsn M p x = 2
    · rw [if_pos r2, if_pos r2]
      refine hp.2.2.2 x x0 x1 (fun c3 => ?_)
      rw [e1] at r2
      unfold rM at r2
      rw [if_neg (show ¬ ¬ N 493 x = -1 from fun z => z c3)] at r2
      split at r2
      · omega
      · split at r2
        · split at r2 <;> omega
        · split at r2
          · omega
          · split at r2 <;> omega
    · rw [if_neg r2, if_neg r2]
      by_cases r3 : rsn M p x = 3
      · rw [if_pos r3, if_pos r3, h17]
        rcases h494 x x0 x1 with z | z
        · rw [e1] at r3
          unfold rM at r3
          rw [if_neg (show ¬ ¬ N 494 x = -1 from fun y => y z)] at r3
          split at r3
          · omega
          · split at r3
            · split at r3 <;> omega
            · split at r3
              · omega
              · split at r3 <;> omega
        · exact z.symm
      · rw [if_neg r3, if_neg r3]
/-- an estate as the class has it and as the reference will keep it -/
def eR (M N : em_M) (E p t : Int) : Prop := (M E 0 = p ∧ M E 1 = t ∧ M E 2 = M 6 0 ∧ M E 3 = N 439 90) ∧ (N 439 74 = p ∧ N 439 75 = t) ∧ (fr_is N (M E 4) (N 439 96) (N 439 97) ∧ fr_is N (M E 5) (N 439 98) (N 439 99) ∧ fr_is N (M E 6) (N 439 100) (N 439 101) ∧ fr_is N (M E 7) (N 439 86) (N 439 87) ∧ ((N 439 91 = 0 ∧ M E 8 = 1) ∨ (N 439 91 = 1 ∧ fr_is N (M E 8) (N 439 88) (N 439 89)))) ∧ (∀ q, 0 ≤ q → q < M 6 0 → fr_is N (M (E + 1) q) (N 497 q) (N 498 q) ∧ fr_is N (M (E + 2) q) (N 501 q) (N 502 q) ∧ fr_is N (M (E + 3) q) (N 499 q) (N 500 q)) ∧ ∃ U, mk U (fun x => ∃ k, 0 ≤ k ∧ k < M (M 0 11) 0 ∧ tb (N 491 k) x = true) ∧ (∀ k, 0 ≤ k → k < M (M 0 11) 0 → mk (N 491 k) (fun x => tb (N 491 k) x = true)) ∧ ∀ x, 0 ≤ x → x < M 6 0 → M (E + 4) x = rM N U p x ∧ M (E + 5) x = uM N (M (E + 4) x) x
end
