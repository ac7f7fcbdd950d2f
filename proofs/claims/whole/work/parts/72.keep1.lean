/-! MONEY: what the reference keeps of an estate. -/
section
variable {M N : em_M}
theorem m_444 {e U c r : Int} (e0 : 0 ≤ e) (e1 : e < 32) (c0 : 0 ≤ c) (c1 : c < 30) : f_Model_keeps_444 e U c r N = f_Model_keeps_248 e U (c + 1) (xup (xup N 513 (30 * e + c) r) 514 (30 * e + c) (uM N r c)) := by
  have e' := q_Model_keeps_444 e U c r N
  simp (disch := omega) only [em_cd, x32_s, xup_ne] at e'
  rw [if_pos (by omega)] at e'
  rw [e']
  unfold uM
  by_cases c1 : r = 1
  · rw [if_neg (fun z => z c1), if_pos c1, if_pos (by omega), if_pos (by omega)]
  · rw [if_pos c1, if_neg c1]
    by_cases c2 : r = 2
    · rw [if_neg (fun z => z c2), if_pos c2, if_pos (by omega), if_pos (by omega)]
    · rw [if_pos c2, if_neg c2]
      by_cases c3 : r = 3
      · rw [if_neg (fun z => z c3), if_pos c3, if_pos (by omega), if_pos (by omega)]
      · rw [if_pos c3, if_neg c3, if_pos (by omega)]
theorem m_341 {e U c v p : Int} (e0 : 0 ≤ e) (e1 : e < 32) (c0 : 0 ≤ c) (c1 : c < 30) (hv : v = 180 * e + 6 * c) (hp : N 439 74 = p) : f_Model_keeps_341 e U c v N = f_Model_keeps_444 e U c (rM N U p c) (xup N 512 (v + 5) (N 500 c)) := by
  have e' := q_Model_keeps_341 e U c v N
  simp (disch := omega) only [em_cd, x32_s] at e'
  rw [if_pos (by omega), if_pos (by omega)] at e'
  generalize hX : xup N 512 (v + 5) (N 500 c) = X at e' ⊢
  have fX : ∀ a j, ¬ a = 512 → X a j = N a j := fun a j ha => by rw [← hX, xup_ne (by omega)]
  rw [f_Mhas X c0 (by omega)] at e'
  simp only [Option.bind_some, b2_z, nn, fX 439 74 (by omega), hp, fX 439 78 (by omega), f_Mhas X c0 (show c < 32 by omega), fX 493 c (by omega), fX 494 c (by omega), fX 497 c (by omega), x_cmp_le] at e'
  rw [e']
  unfold rM
  by_cases k0 : c = p
  · rw [if_neg (fun z => z k0), if_pos k0]
  · rw [if_pos k0, if_neg k0]
    by_cases k1 : tb U c = true
    · rw [if_pos k1, if_neg (show ¬ ¬ tb U c = true from fun z => z k1)]
      by_cases k2 : tb (N 439 78) c = true
      · rw [if_neg (show ¬ ¬ tb (N 439 78) c = true from fun z => z k2), if_pos k2]
      · rw [if_pos k2, if_neg k2, if_pos (by omega)]
        by_cases k3 : N 493 c = -1
        · rw [if_pos k3, if_neg (show ¬ ¬ N 493 c = -1 from fun z => z k3), if_pos (by omega)]
          by_cases k4 : N 494 c = -1
          · rw [if_pos k4, if_neg (show ¬ ¬ N 494 c = -1 from fun z => z k4)]
          · rw [if_neg k4, if_pos k4]
        · rw [if_neg k3, if_pos k3]
    · rw [if_neg k1, if_pos k1, if_pos (by omega)]
      by_cases k2 : N 497 c ≤ 0
      · rw [if_pos k2, if_neg (by omega)]
      · rw [if_neg k2, if_pos (by omega)]
/-- the cells of the place e -/
def kF (e : Int) (N N' : em_M) : Prop := ∀ c j, ¬ ((507 ≤ c ∧ c ≤ 510 ∧ j = e) ∨ (c = 511 ∧ 10 * e ≤ j ∧ j < 10 * e + 10) ∨ (c = 512 ∧ 180 * e ≤ j ∧ j < 180 * e + 180) ∨ (513 ≤ c ∧ c ≤ 514 ∧ 30 * e ≤ j ∧ j < 30 * e + 30)) → N' c j = N c j
/-- what is kept of x -/
def kX (N N' : em_M) (e U p x : Int) : Prop := ((N' 512 (180 * e + 6 * x) = N 497 x ∧ N' 512 (180 * e + 6 * x + 1) = N 498 x) ∧ (N' 512 (180 * e + 6 * x + 2) = N 501 x ∧ N' 512 (180 * e + 6 * x + 3) = N 502 x) ∧ N' 512 (180 * e + 6 * x + 4) = N 499 x ∧ N' 512 (180 * e + 6 * x + 5) = N 500 x) ∧ N' 513 (30 * e + x) = rM N U p x ∧ N' 514 (30 * e + x) = uM N (rM N U p x) x
theorem m_248 {e U p n : Int} (e0 : 0 ≤ e) (e1 : e < 32) (hn : n ≤ 30) : ∀ (m : Nat) (c : Int) (N : em_M), N 439 47 = n → N 439 74 = p → 0 ≤ c → n - c ≤ m → ∃ N', f_Model_keeps_248 e U c N = some (0, N') ∧ (∀ x, c ≤ x → x < n → kX N N' e U p x) ∧ ∀ a j, ¬ ((a = 512 ∧ 180 * e + 6 * c ≤ j ∧ j < 180 * e + 180) ∨ (513 ≤ a ∧ a ≤ 514 ∧ 30 * e + c ≤ j ∧ j < 30 * e + 30)) → N' a j = N a j := by
  intro m
  induction m with
  | zero =>
    intro c N h47 hp c0 hm
    exact ⟨N, by rw [q_Model_keeps_248, em_cd, if_pos (by omega)], fun x x0 x1 => by omega, fun _ _ _ => rfl⟩
  | succ m ih =>
    intro c N h47 hp c0 hm
    by_cases q : n ≤ c
    · exact ⟨N, by rw [q_Model_keeps_248, em_cd, if_pos (by omega)], fun x x0 x1 => by omega, fun _ _ _ => rfl⟩
    · have e' := q_Model_keeps_248 e U c N
      simp (disch := omega) only [em_cd, x32_s, xup_ne, if_pos] at e'
      rw [if_neg (by omega)] at e'
      generalize hX : xup (xup (xup (xup (xup N 512 (180 * e + 6 * c) (N 497 c)) 512 (180 * e + 6 * c + 1) (N 498 c)) 512 (180 * e + 6 * c + 2) (N 501 c)) 512 (180 * e + 6 * c + 3) (N 502 c)) 512 (180 * e + 6 * c + 4) (N 499 c) = X at e'
      have fX : ∀ a j, ¬ (a = 512 ∧ 180 * e + 6 * c ≤ j ∧ j < 180 * e + 6 * c + 5) → X a j = N a j := fun a j ha => by
        rw [← hX]
        simp (disch := omega) only [xup_ne]
      have vX : ((X 512 (180 * e + 6 * c) = N 497 c ∧ X 512 (180 * e + 6 * c + 1) = N 498 c) ∧ (X 512 (180 * e + 6 * c + 2) = N 501 c ∧ X 512 (180 * e + 6 * c + 3) = N 502 c) ∧ X 512 (180 * e + 6 * c + 4) = N 499 c) := by
        rw [← hX]
        simp (disch := omega) only [xup_ne, xup_eq, and_self]
      rw [m_341 (N := X) (p := p) e0 e1 c0 (by omega) rfl (by rw [fX _ _ (by omega)]; exact hp), m_444 e0 e1 c0 (by omega)] at e'
      have hr : rM X U p c = rM N U p c := by
        unfold rM
        rw [fX 497 c (by omega), fX 439 78 (by omega), fX 493 c (by omega), fX 494 c (by omega)]
      rw [hr, fX 500 c (by omega)] at e'
      have hu : uM (xup X 512 (180 * e + 6 * c + 5) (N 500 c)) (rM N U p c) c = uM N (rM N U p c) c := by
        unfold uM
        rw [xup_ne (by omega), xup_ne (by omega), xup_ne (by omega), fX 492 c (by omega), fX 493 c (by omega), fX 494 c (by omega)]
      rw [hu] at e'
      generalize hY : xup (xup (xup X 512 (180 * e + 6 * c + 5) (N 500 c)) 513 (30 * e + c) (rM N U p c)) 514 (30 * e + c) (uM N (rM N U p c) c) = Y at e'
      have fY : ∀ a j, ¬ ((a = 512 ∧ 180 * e + 6 * c ≤ j ∧ j < 180 * e + 6 * c + 6) ∨ (513 ≤ a ∧ a ≤ 514 ∧ j = 30 * e + c)) → Y a j = N a j := fun a j ha => by
        rw [← hY, xup_ne (by omega), xup_ne (by omega), xup_ne (by omega), fX a j (by omega)]
      have vY : kX N Y e U p c := by
        obtain ⟨⟨q1, q2⟩, ⟨q3, q4⟩, q5⟩ := vX
        unfold kX
        rw [← hY]
        simp (disch := omega) only [xup_ne, xup_eq, q1, q2, q3, q4, q5, and_self]
      obtain ⟨N', h1, h2, h3⟩ := ih (c + 1) Y (by rw [fY _ _ (by omega)]; exact h47) (by rw [fY _ _ (by omega)]; exact hp) (by omega) (by omega)
      refine ⟨N', e'.trans h1, fun x x0 x1 => ?_, fun a j ha => by rw [h3 a j (by omega), fY a j (by omega)]⟩
      by_cases xc : x = c
      · rw [xc]
        unfold kX at vY ⊢
        rw [h3 512 _ (by omega), h3 512 _ (by omega), h3 512 _ (by omega), h3 512 _ (by omega), h3 512 _ (by omega), h3 512 _ (by omega), h3 513 _ (by omega), h3 514 _ (by omega)]
        exact vY
      · have h := h2 x (by omega) x1
        unfold kX rM uM at h ⊢
        rw [fY 497 x (by omega), fY 498 x (by omega), fY 499 x (by omega), fY 500 x (by omega), fY 501 x (by omega), fY 502 x (by omega), fY 439 78 (by omega), fY 492 x (by omega), fY 493 x (by omega), fY 494 x (by omega)] at h
        exact h
theorem m_218 {e n K s : Int} (hs : s = 0 ∨ s = 1) (K1 : K ≤ 20) (h17 : N 439 17 = s) (hK : N 447 s = K) (hk : ∀ k, 0 ≤ k → k < K → mk (N 491 k) (fun x => tb (N 491 k) x = true)) : ∀ (m : Nat) (k acc : Int) (A : Int → Prop), mk acc A → 0 ≤ k → K - k ≤ m → ∃ U, f_Model_keeps_218 e acc k N = f_Model_keeps_248 e U 0 N ∧ mk U (fun x => A x ∨ ∃ j, k ≤ j ∧ j < K ∧ tb (N 491 j) x = true) := by
  intro m
  have fin : ∀ (k acc : Int) (A : Int → Prop), mk acc A → K ≤ k → ∃ U, f_Model_keeps_218 e acc k N = f_Model_keeps_248 e U 0 N ∧ mk U (fun x => A x ∨ ∃ j, k ≤ j ∧ j < K ∧ tb (N 491 j) x = true) := fun k acc A hA hk => by
    refine ⟨acc, ?_, hA.cong (fun x _ _ => ⟨Or.inl, fun z => z.elim id (fun ⟨j, u, v, _⟩ => by omega)⟩)⟩
    rw [q_Model_keeps_218]
    simp only [em_cd, h17, hK]
    rw [if_pos (by omega), if_pos hk]
  induction m with
  | zero =>
    intro k acc A hA k0 hm
    exact fin k acc A hA (by omega)
  | succ m ih =>
    intro k acc A hA k0 hm
    by_cases q : K ≤ k
    · exact fin k acc A hA q
    · have e' := q_Model_keeps_218 e acc k N
      simp only [em_cd, h17, hK] at e'
      rw [if_pos (by omega), if_neg q, if_pos (by omega), x32_s (by omega) (by omega)] at e'
      have mk1 := hk k k0 (by omega)
      obtain ⟨U, h1, h2⟩ := ih (k + 1) _ _ (hA.or mk1) (by omega) (by omega)
      refine ⟨U, e'.trans h1, h2.cong (fun x x0 x1 => ?_)⟩
      constructor
      · rintro ((u | u) | ⟨j, u, v, y⟩)
        · exact Or.inl u
        · exact Or.inr ⟨k, by omega, by omega, u⟩
        · exact Or.inr ⟨j, by omega, v, y⟩
      · rintro (u | ⟨j, u, v, y⟩)
        · exact Or.inl (Or.inl u)
        · by_cases jk : j = k
          · rw [jk] at y
            exact Or.inl (Or.inr y)
          · exact Or.inr ⟨j, by omega, v, y⟩
end
