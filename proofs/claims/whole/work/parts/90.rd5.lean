/-! read: all tokens of both. -/
section
variable {C R M : em_M} {b : Int → Int} {n : Int}
def tkOk (C R : em_M) (i : Int) : Prop := (tkR (C 3 i) (C 5 i) (R 442 i) (R 444 i) (R 445 i) ∧ 0 ≤ C 5 i ∧ C 5 i < 4808584372417849) ∧ R 443 i = C 4 i
/-- m tokens stand -/
def tkS (n m : Int) (C R : em_M) : Prop := C 1 2 = m ∧ (0 ≤ m ∧ m ≤ 601) ∧ (∀ i, 0 ≤ i → i < m → tkOk C R i ∧ 0 ≤ C 4 i ∧ C 4 i < n) ∧ (∀ i j, 0 ≤ i → i < j → j < m → C 4 i < C 4 j) ∧ (m ≤ 600 → (∀ i, 0 ≤ i → i < m → ¬ C 3 i = 17) → R 442 m = 0 ∧ R 443 m = n)
theorem TM_fr {R' : em_M} (h : TM b n R) (e : ∀ c i, c = 441 ∨ (c = 439 ∧ i = 4) → R' c i = R c i) : TM b n R' := ⟨by rw [e 439 4 (by omega)]; exact h.1, fun i i0 i1 => by rw [e 441 i (by omega)]; exact h.2 i i0 i1⟩
theorem TC_fr {C' : em_M} (h : TC b n C) (e : ∀ c i, c = 2 ∨ (c = 1 ∧ i = 1) → C' c i = C c i) : TC b n C' := ⟨by rw [e 1 1 (by omega)]; exact h.1, fun i i0 i1 => by rw [e 2 i (by omega)]; exact h.2 i i0 i1⟩
theorem m_tend {k : Int} (hB : TB b n) (hR : TM b n R) (hk : R 439 10 = k) (k0 : 0 ≤ k) (k1 : k ≤ 600) : f_Model_cut_7 n R = some (0, tokM R k 0 n 0 0) := by
  have e := q_Model_cut_7 n R
  rw [m_at hB hR hB.1.1] at e
  simp only [em_cd, Option.bind_some, hk, hR.1, if_neg (show ¬ 600 < k by omega), if_neg (Int.lt_irrefl n), m_token 0 n 0 0 hk k0 (show k ≤ 602 by omega)] at e
  exact e
theorem m_tfull {j : Int} (h : R 439 10 = 601) : f_Model_cut_7 j R = some (0, R) := by
  rw [q_Model_cut_7, em_cd, if_pos (by omega)]
/-- the reference comes to an end -/
theorem m_tot (hB : TB b n) (hC : TC b n C) : ∀ (f : Nat) (j k : Int) (R : em_M), TM b n R → (∀ k, 0 ≤ k → k < 16 → R 446 k = kyW k) → 0 ≤ j → j ≤ n → n - j ≤ f → R 439 10 = k → 0 ≤ k → k ≤ 601 → ∃ R', f_Model_cut_7 j R = some (0, R') ∧ ∀ c i, ¬ ((442 ≤ c ∧ c ≤ 445 ∧ k ≤ i) ∨ (c = 439 ∧ i = 10)) → R' c i = R c i := by
  intro f
  induction f with
  | zero =>
    intro j k R hR hK j0 j1 hf hk k0 k1
    have : j = n := by omega
    subst this
    by_cases q : k = 601
    · exact ⟨R, m_tfull (by omega), fun _ _ _ => rfl⟩
    · exact ⟨_, m_tend hB hR hk k0 (by omega), fun c i hc => tokM_ne (by omega)⟩
  | succ f ih =>
    intro j k R hR hK j0 j1 hf hk k0 k1
    by_cases q : k = 601
    · exact ⟨R, m_tfull (by omega), fun _ _ _ => rfl⟩
    · obtain ⟨j', -, s2, s3, s4, s5⟩ := c_skip hB hC (n - j).toNat j j0 j1 (by omega)
      rw [m_skip hB hR (by omega) (j' - j).toNat j j' j0 s2 s3 (by omega) s4]
      by_cases c : j' < n
      · obtain ⟨e, κ, v, ρ, tv, nm, t1, t2, -, -, t5⟩ := tok_step hB hC hR hK (by omega) c (s5 c) hk k0 (by omega)
        obtain ⟨R', u1, u2⟩ := ih e (k + 1) (tokM R k ρ j' tv nm) (TM_fr hR (fun c i hc => tokM_ne (by omega))) (fun x x0 x1 => by rw [tokM_ne (by omega)]; exact hK x x0 x1) (by omega) t2 (by omega) tokM_at.2.2.2.2 (by omega) (by omega)
        exact ⟨R', t5.trans u1, fun c i hc => by rw [u2 c i (by omega), tokM_ne (by omega)]⟩
      · have : j' = n := by omega
        subst this
        exact ⟨_, m_tend hB hR hk k0 (by omega), fun c i hc => tokM_ne (by omega)⟩
theorem tkOk_fr {C' R' : em_M} {i : Int} (h : tkOk C R i) (e1 : ∀ c, 3 ≤ c → c ≤ 5 → C' c i = C c i) (e2 : ∀ c, 442 ≤ c → c ≤ 445 → R' c i = R c i) : tkOk C' R' i := by
  unfold tkOk at h ⊢
  rw [e1 3 (by omega) (by omega), e1 4 (by omega) (by omega), e1 5 (by omega) (by omega), e2 442 (by omega) (by omega), e2 443 (by omega) (by omega), e2 444 (by omega) (by omega), e2 445 (by omega) (by omega)]
  exact h
/-- the tokens, one behind the other -/
theorem tok_all (hB : TB b n) : ∀ (f : Nat) (j k : Int) (C R : em_M), TC b n C → TM b n R → (∀ k, 0 ≤ k → k < 16 → R 446 k = kyW k) → 0 ≤ j → j ≤ n → n - j ≤ f → (j < n → ¬ tk_b (b j)) → R 439 10 = k → C 1 2 = k → 0 ≤ k → k ≤ 601 → (∀ i, 0 ≤ i → i < k → tkOk C R i ∧ 0 ≤ C 4 i ∧ C 4 i < j ∧ ¬ C 3 i = 17) → (∀ x y, 0 ≤ x → x < y → y < k → C 4 x < C 4 y) →
    ∃ C' R' m, f_Text_split_13 j k C = some (0, C') ∧ f_Model_cut_7 j R = some (0, R') ∧ tkS n m C' R' ∧ (∀ c i, ¬ ((3 ≤ c ∧ c ≤ 5) ∨ (c = 1 ∧ i = 2)) → C' c i = C c i) ∧ ∀ c i, ¬ ((442 ≤ c ∧ c ≤ 445) ∨ (c = 439 ∧ i = 10)) → R' c i = R c i := by
  intro f
  induction f with
  | zero =>
    intro j k C R hC hR hK j0 j1 hf hb hk hk2 k0 k1 hi hm
    have : j = n := by omega
    subst this
    have e := q_Text_split_13 j k C
    simp only [em_cd, hC.1, if_pos (Int.le_refl j), ite_self] at e
    by_cases q : k = 601
    · exact ⟨C, R, k, e, m_tfull (by omega), ⟨hk2, ⟨k0, k1⟩, fun i i0 i1 => ⟨(hi i i0 i1).1, (hi i i0 i1).2.1, (hi i i0 i1).2.2.1⟩, hm, fun z => by omega⟩, fun _ _ _ => rfl, fun _ _ _ => rfl⟩
    · refine ⟨C, _, k, e, m_tend hB hR hk k0 (by omega), ⟨hk2, ⟨k0, k1⟩, fun i i0 i1 => ⟨tkOk_fr (hi i i0 i1).1 (fun _ _ _ => rfl) (fun c c0 c1 => tokM_ne (by omega)), (hi i i0 i1).2.1, (hi i i0 i1).2.2.1⟩, hm, fun _ _ => ⟨tokM_at.1, tokM_at.2.1⟩⟩, fun _ _ _ => rfl, fun c i hc => tokM_ne (by omega)⟩
  | succ f ih =>
    intro j k C R hC hR hK j0 j1 hf hb hk hk2 k0 k1 hi hm
    have h2 := hB.1.2
    have e := q_Text_split_13 j k C
    simp only [em_cd, hC.1] at e
    by_cases q : k = 601
    · rw [if_pos (by omega)] at e
      exact ⟨C, R, k, e, m_tfull (by omega), ⟨hk2, ⟨k0, k1⟩, fun i i0 i1 => ⟨(hi i i0 i1).1, (hi i i0 i1).2.1, by have := (hi i i0 i1).2.2.1; omega⟩, hm, fun z => by omega⟩, fun _ _ _ => rfl, fun _ _ _ => rfl⟩
    rw [if_neg (by omega)] at e
    by_cases c : j < n
    case neg =>
      have : j = n := by omega
      subst this
      rw [if_pos (by omega)] at e
      refine ⟨C, _, k, e, m_tend hB hR hk k0 (by omega), ⟨hk2, ⟨k0, k1⟩, fun i i0 i1 => ⟨tkOk_fr (hi i i0 i1).1 (fun _ _ _ => rfl) (fun c c0 c1 => tokM_ne (by omega)), (hi i i0 i1).2.1, (hi i i0 i1).2.2.1⟩, hm, fun _ _ => ⟨tokM_at.1, tokM_at.2.1⟩⟩, fun _ _ _ => rfl, fun c i hc => tokM_ne (by omega)⟩
    rw [if_neg (by omega)] at e
    obtain ⟨d, κ, v, ρ, tv, nm, t1, t2, t3, ⟨a1, a2, a3, a4, a5⟩, t5⟩ := tok_step hB hC hR hK j0 c (hb c) hk k0 (by omega)
    rw [a1] at e
    simp only [Option.bind_some] at e
    rw [a2] at e
    simp only [Option.bind_some] at e
    rw [if_pos (by omega), if_pos (by omega)] at e
    have hC1 : TC b n (xup (xup C 3 k κ) 4 k j) := TC_fr hC (fun c i hc => by rw [xup_ne (by omega), xup_ne (by omega)])
    have e1 : f_Text_split_13 j k C = f_Text_split_95 k d κ k v (xup (xup C 3 k κ) 4 k j) := by
      rw [e]
      by_cases c15 : κ = 15
      · rw [if_neg (fun z => z c15), a3 c15 _ hC1]
        rfl
      · rw [if_pos c15]
        by_cases c14 : κ = 14
        · rw [if_neg (fun z => z c14), a4 c14 _ hC1]
          rfl
        · rw [if_pos c14, a5 c15 c14]
    rw [q_Text_split_95] at e1
    simp only [em_cd, if_pos (show 0 ≤ k ∧ k < 601 by omega), x32_s (show -1000000 ≤ k + 1 by omega) (show k + 1 ≤ 1000000 by omega)] at e1
    generalize hX : xup (xup (xup (xup C 3 k κ) 4 k j) 5 k v) 1 2 (k + 1) = X at e1
    have fX : ∀ c i, ¬ ((3 ≤ c ∧ c ≤ 5 ∧ i = k) ∨ (c = 1 ∧ i = 2)) → X c i = C c i := fun c i hc => by rw [← hX, xup_ne (by omega), xup_ne (by omega), xup_ne (by omega), xup_ne (by omega)]
    have vX : X 3 k = κ ∧ X 4 k = j ∧ X 5 k = v ∧ X 1 2 = k + 1 := by rw [← hX]; simp (disch := omega) only [xup_ne, xup_eq, and_self]
    have hCX : TC b n X := TC_fr hC (fun c i hc => fX c i (by omega))
    have hRY : TM b n (tokM R k ρ j tv nm) := TM_fr hR (fun c i hc => tokM_ne (by omega))
    have hKY : ∀ x, 0 ≤ x → x < 16 → tokM R k ρ j tv nm 446 x = kyW x := fun x x0 x1 => by rw [tokM_ne (by omega)]; exact hK x x0 x1
    have hkY : tokM R k ρ j tv nm 439 10 = k + 1 := tokM_at.2.2.2.2
    have okk : tkOk X (tokM R k ρ j tv nm) k := by
      unfold tkOk
      rw [vX.1, vX.2.1, vX.2.2.1, tokM_at.1, tokM_at.2.1, tokM_at.2.2.1, tokM_at.2.2.2.1]
      exact ⟨t3, rfl⟩
    have ok : ∀ i, 0 ≤ i → i < k + 1 → tkOk X (tokM R k ρ j tv nm) i ∧ 0 ≤ X 4 i ∧ X 4 i < d := fun i i0 i1 => by
      by_cases z : i = k
      · subst z
        exact ⟨okk, by rw [vX.2.1]; exact j0, by rw [vX.2.1]; exact t1⟩
      · obtain ⟨y1, y2, y3, y4⟩ := hi i i0 (by omega)
        exact ⟨tkOk_fr y1 (fun c c0 c1 => fX c i (by omega)) (fun c c0 c1 => tokM_ne (by omega)), by rw [fX 4 i (by omega)]; exact y2, by rw [fX 4 i (by omega)]; omega⟩
    have inc : ∀ x y, 0 ≤ x → x < y → y < k + 1 → X 4 x < X 4 y := fun x y x0 xy yk => by
      by_cases z : y = k
      · subst z
        rw [vX.2.1, fX 4 x (by omega)]
        exact (hi x x0 xy).2.2.1
      · rw [fX 4 x (by omega), fX 4 y (by omega)]
        exact hm x y x0 xy (by omega)
    by_cases c17 : κ = 17
    · rw [if_neg (fun z => z c17)] at e1
      obtain ⟨R', u1, u2⟩ := m_tot hB hCX (n - d).toNat d (k + 1) _ hRY hKY (by omega) t2 (by omega) hkY (by omega) (by omega)
      refine ⟨X, R', k + 1, e1, t5.trans u1, ⟨vX.2.2.2, ⟨by omega, by omega⟩, fun i i0 i1 => ?_, inc, fun _ z => absurd (vX.1.trans c17) (z k k0 (by omega))⟩, fun c i hc => fX c i (by omega), fun c i hc => by rw [u2 c i (by omega), tokM_ne (by omega)]⟩
      obtain ⟨y1, y2, y3⟩ := ok i i0 i1
      exact ⟨tkOk_fr y1 (fun _ _ _ => rfl) (fun c c0 c1 => u2 c i (by omega)), y2, by omega⟩
    · rw [if_pos c17, q_Text_skipBlanks] at e1
      obtain ⟨j', s1, s2, s3, s4, s5⟩ := c_skip hB hCX (n - d).toNat d (by omega) t2 (by omega)
      rw [s1] at e1
      simp only [Option.bind_some] at e1
      have e2 : f_Model_cut_7 d (tokM R k ρ j tv nm) = f_Model_cut_7 j' (tokM R k ρ j tv nm) := by
        by_cases z : k + 1 = 601
        · rw [m_tfull (hkY.trans z), m_tfull (hkY.trans z)]
        · exact m_skip hB hRY (by omega) (j' - d).toNat d j' (by omega) s2 s3 (by omega) s4
      obtain ⟨C', R', m, w1, w2, w3, w4, w5⟩ := ih j' (k + 1) X _ hCX hRY hKY (by omega) s3 (by omega) s5 hkY vX.2.2.2 (by omega) (by omega) (fun i i0 i1 => by
        obtain ⟨y1, y2, y3⟩ := ok i i0 i1
        refine ⟨y1, y2, by omega, ?_⟩
        by_cases z : i = k
        · subst z
          rw [vX.1]
          exact c17
        · rw [fX 3 i (by omega)]
          exact (hi i i0 (by omega)).2.2.2) inc
      exact ⟨C', R', m, e1.trans w1, t5.trans (e2.trans w2), w3, fun c i hc => by rw [w4 c i hc, fX c i (by omega)], fun c i hc => by rw [w5 c i hc, tokM_ne (by omega)]⟩
/-- split and cut -/
theorem tok_both (hB : TB b n) (hC : TC b n C) (hR : TM b n R) (hK : ∀ k, 0 ≤ k → k < 16 → R 446 k = kyW k) : ∃ C' R' m, f_Text_split C = some (0, C') ∧ f_Model_cut R = some (0, R') ∧ tkS n m C' R' ∧ (∀ c i, ¬ ((3 ≤ c ∧ c ≤ 5) ∨ (c = 1 ∧ i = 2)) → C' c i = C c i) ∧ ∀ c i, ¬ ((442 ≤ c ∧ c ≤ 445) ∨ (c = 439 ∧ i = 10)) → R' c i = R c i := by
  have e1 := q_Text_split C
  have e2 := q_Model_cut R
  have hC0 : TC b n (xup C 1 2 0) := TC_fr hC (fun c i hc => xup_ne (by omega))
  have hR0 : TM b n (xup R 439 10 0) := TM_fr hR (fun c i hc => xup_ne (by omega))
  obtain ⟨j, s1, s2, s3, s4, s5⟩ := c_skip hB hC0 n.toNat 0 (by omega) hB.1.1 (by omega)
  rw [q_Text_skipBlanks, s1] at e1
  simp only [Option.bind_some] at e1
  rw [m_skip hB hR0 (by rw [xup_eq]; omega) j.toNat 0 j (by omega) s2 s3 (by omega) s4] at e2
  obtain ⟨C', R', m, w1, w2, w3, w4, w5⟩ := tok_all hB (n - j).toNat j 0 _ _ hC0 hR0 (fun x x0 x1 => by rw [xup_ne (by omega)]; exact hK x x0 x1) s2 s3 (by omega) s5 (xup_eq _ _ _ _) (xup_eq _ _ _ _) (by omega) (by omega) (fun i i0 i1 => by omega) (fun x y x0 xy yk => by omega)
  exact ⟨C', R', m, e1.trans w1, e2.trans w2, w3, fun c i hc => by rw [w4 c i hc, xup_ne (by omega)], fun c i hc => by rw [w5 c i hc, xup_ne (by omega)]⟩
end
