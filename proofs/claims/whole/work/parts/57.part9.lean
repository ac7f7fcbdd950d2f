/-! PARTING: too much is lessened, or there is a rest. -/
theorem fr_of_0 {b : Int} (h : 0 < b) : fr_of 0 b = 1 := by
  unfold fr_of
  rw [if_neg (by omega), if_neg (by omega)]
  have e : (Int.gcd 0 b : Int) = b := by
    rw [Int.gcd_zero_left]
    omega
  rw [e, Int.zero_ediv, Int.ediv_self (by omega), if_neg (by omega)]
  rfl
theorem fr_over_0 {S : Int} (h : fr_ok S) (h0 : 0 < fr_up S) : fr_over 1 S = 1 := by
  have e : fr_up 1 = 0 ∧ fr_low 1 = 1 := ⟨fr_ok_1.2.1, fr_ok_1.2.2⟩
  unfold fr_over
  rw [if_neg (by have := h.1; omega), e.1, e.2, Int.zero_mul, Int.one_mul]
  exact fr_of_0 h0
theorem fr_times_0 {S : Int} (h : fr_ok S) : fr_times S 1 = 1 := by
  have e : fr_up 1 = 0 ∧ fr_low 1 = 1 := ⟨fr_ok_1.2.1, fr_ok_1.2.2⟩
  unfold fr_times
  rw [if_neg (by have := h.1; omega), e.1, e.2, Int.mul_zero, Int.mul_one]
  exact fr_of_0 (by have := h.2.2.1; omega)
theorem fr_plus_0 : fr_plus 1 1 = 1 := by decide +kernel
section
variable {M N : em_M}
def okP (N : em_M) (n : Int) : Prop := ∀ x, 0 ≤ x → x < n → ∃ P, fr_is N P (N 495 x) (N 496 x)
/-- one step of a part of the reference: x's part becomes u -/
theorem m_442s {g n c : Int} {S : Int} (hn : n ≤ 30) (hs : mSp N) (h47 : N 439 47 = n) (c0 : 0 ≤ c) (c1 : c < n) (hS : fr_is N S (N 439 86) (N 439 87)) (hS0 : 0 < fr_up S) {P : Int} (hP : fr_is N P (N 495 c) (N 496 c)) (hg : tb g c = true) : ∃ u N', f_Model_parts_442 g c N = f_Model_parts_442 g (c + 1) N' ∧ mSt (N 439 44) (N' 439 44) (fr_over P S) u ∧ (N' 495 c = fr_up u ∧ N' 496 c = fr_low u) ∧ ∀ a j, ¬ ((a = 439 ∧ 44 ≤ j ∧ j ≤ 46) ∨ ((a = 495 ∨ a = 496) ∧ j = c)) → N' a j = N a j := by
  obtain ⟨u, A, a1, ⟨a2, a3, a4⟩⟩ := m_over' hs hP.1 hS.1 hS0 hP.2.1 hP.2.2 hS.2.1 hS.2.2
  have e := q_Model_parts_442 g c N
  rw [f_Mhas N c0 (by omega)] at e
  simp only [em_cd, Option.bind_some, b2_z, a1, q_Model_setPart] at e
  rw [if_neg (by omega), if_pos (fun z => z hg), if_pos (by omega), if_pos (by omega), if_pos (by omega), if_pos (by omega), x32_s (by omega) (by omega)] at e
  simp only [Option.bind_some] at e
  refine ⟨u, _, e, ?_, ?_, fun a j ha => ?_⟩
  · simp (disch := omega) only [xup_ne]
    exact a2
  · rw [xup_ne (by omega), xup_eq, xup_eq, xup_ne (by omega)]
    exact a3
  · rw [xup_ne (by omega), xup_ne (by omega), a4 a j (by omega)]
theorem m_442n {g n c : Int} (hn : n ≤ 30) (h47 : N 439 47 = n) (c0 : 0 ≤ c) (c1 : c < n) (hg : ¬ tb g c = true) : f_Model_parts_442 g c N = f_Model_parts_442 g (c + 1) N := by
  have e := q_Model_parts_442 g c N
  rw [f_Mhas N c0 (by omega)] at e
  simp only [em_cd, Option.bind_some, b2_z] at e
  rw [if_neg (by omega), if_neg (fun z => z hg), x32_s (by omega) (by omega)] at e
  exact e
def lF (N N' : em_M) : Prop := ∀ a j, ¬ ((a = 439 ∧ 44 ≤ j ∧ j ≤ 46) ∨ a = 495 ∨ a = 496) → N' a j = N a j
theorem m_442sp {g n S : Int} (hn : n ≤ 30) (hS : fr_ok S) (hS0 : 0 < fr_up S) : ∀ (m : Nat) (c : Int) (N : em_M), N 439 47 = n → fr_is N S (N 439 86) (N 439 87) → N 439 44 = 1 → okP N n → 0 ≤ c → c ≤ n → n - c ≤ m → ∃ N', f_Model_parts_442 g c N = f_Model_parts_442 g n N' ∧ N' 439 44 = 1 ∧ lF N N' := by
  intro m
  induction m with
  | zero =>
    intro c N h47 h86 hs hp c0 c1 hm
    exact ⟨N, by rw [show c = n by omega], hs, fun _ _ _ => rfl⟩
  | succ m ih =>
    intro c N h47 h86 hs hp c0 c1 hm
    by_cases q : n ≤ c
    · exact ⟨N, by rw [show c = n by omega], hs, fun _ _ _ => rfl⟩
    · by_cases f : tb g c = true
      · obtain ⟨P, hP⟩ := hp c c0 (by omega)
        obtain ⟨u, A, a1, a2, a3, a4⟩ := m_442s hn (Or.inr hs) h47 c0 (by omega) h86 hS0 hP f
        rw [hs] at a2
        obtain ⟨N', b1, b2', b3⟩ := ih (c + 1) A (by rw [a4 _ _ (by omega)]; exact h47) (by rw [a4 _ _ (by omega), a4 _ _ (by omega)]; exact h86) a2.one (fun x x0 x1 => by
          by_cases xc : x = c
          · rw [xc]
            exact ⟨u, a2.1, a3.1, a3.2⟩
          · rw [a4 495 x (by omega), a4 496 x (by omega)]
            exact hp x x0 x1) (by omega) (by omega) (by omega)
        exact ⟨N', a1.trans b1, b2', fun a j ha => by rw [b3 a j ha, a4 a j (by omega)]⟩
      · obtain ⟨N', b1, b2', b3⟩ := ih (c + 1) N h47 h86 hs hp (by omega) (by omega) (by omega)
        exact ⟨N', (m_442n hn h47 c0 (by omega) f).trans b1, b2', b3⟩
theorem lessen_loop {n S G : Int} (n0 : 0 ≤ n) (hn : n ≤ 30) (hS : fr_ok S) (hS0 : 0 < fr_up S) (hG : ∀ x, n ≤ x → x < 30 → ¬ tb G x = true) : ∀ (m : Nat) (c : Int) (M N : em_M), N 439 47 = n → M 127 12 = G → M 127 14 = S → fr_is N S (N 439 86) (N 439 87) → N 439 44 = 0 → (∀ x, 0 ≤ x → x < n → fr_is N (M 133 x) (N 495 x) (N 496 x)) → 0 ≤ c → c ≤ n → n - c ≤ m → (∃ M' N', f_Parting_lessen_50 c M = some (1, M') ∧ f_Model_parts_442 G c N = f_Model_parts_442 G n N' ∧ N' 439 44 = 0 ∧ (∀ x, 0 ≤ x → x < n → fr_is N' (M' 133 x) (N' 495 x) (N' 496 x)) ∧ (∀ a j, ¬ (a = 133 ∧ 0 ≤ j ∧ j < n) → M' a j = M a j) ∧ lF N N' ∧ (∀ y, M 133 y = 1 → M' 133 y = 1)) ∨ (∃ M' N', f_Parting_lessen_50 c M = some (0, M') ∧ f_Model_parts_442 G c N = f_Model_parts_442 G n N' ∧ N' 439 44 = 1 ∧ (∀ a j, ¬ (a = 133 ∧ 0 ≤ j ∧ j < n) → M' a j = M a j) ∧ lF N N') := by
  -- the class's end
  have endC : ∀ (k : Nat) (c : Int) (M : em_M), M 127 12 = G → n ≤ c → 30 - c ≤ k → f_Parting_lessen_50 c M = some (1, M) := by
    intro k
    induction k with
    | zero =>
      intro c M hg hc hk
      rw [q_Parting_lessen_50, em_cd, if_pos (by omega)]
    | succ k ih =>
      intro c M hg hc hk
      rw [q_Parting_lessen_50, f_holds, hg]
      simp only [em_cd, Option.bind_some, b2_z]
      by_cases q : 30 ≤ c
      · rw [if_pos q]
      · rw [if_neg q, if_pos (fun z => hG c hc (by omega) z.2.2), x32_s (by omega) (by omega)]
        exact ih (c + 1) M hg (by omega) (by omega)
  intro m
  induction m with
  | zero =>
    intro c M N h47 hg h14 h86 hs hp c0 c1 hm
    exact Or.inl ⟨M, N, endC 30 c M hg (by omega) (by omega), by rw [show c = n by omega], hs, hp, fun _ _ _ => rfl, fun _ _ _ => rfl, fun _ z => z⟩
  | succ m ih =>
    intro c M N h47 hg h14 h86 hs hp c0 c1 hm
    by_cases q : n ≤ c
    · exact Or.inl ⟨M, N, endC 30 c M hg (by omega) (by omega), by rw [show c = n by omega], hs, hp, fun _ _ _ => rfl, fun _ _ _ => rfl, fun _ z => z⟩
    · have e := q_Parting_lessen_50 c M
      have hPc := hp c c0 (by omega)
      rw [f_holds, hg] at e
      simp only [em_cd, Option.bind_some, b2_z, h14, f_over_eq M (Or.inr hPc.1) (Or.inr hS), xup_eq, f_isSpent, zzz] at e
      rw [if_neg (by omega), x32_s (by omega) (by omega)] at e
      by_cases f : tb G c = true
      · rw [if_neg (fun z => z ⟨c0, by omega, f⟩), if_pos (by omega), if_pos (by omega), if_pos (by omega)] at e
        obtain ⟨u, A, a1, a2, a3, a4⟩ := m_442s hn (Or.inl hs) h47 c0 (by omega) h86 hS0 hPc f
        have fA : lF N A := fun a j ha => a4 a j (by omega)
        rcases a2.zero hs with ⟨y1, y2, y3⟩ | ⟨y1, y2⟩
        · have y4 := y3.1
          rw [if_pos (by omega)] at e
          have := ih (c + 1) (xup M 133 c (fr_over (M 133 c) S)) A (by rw [a4 _ _ (by omega)]; exact h47) (by rw [xup_ne (by omega)]; exact hg) (by rw [xup_ne (by omega)]; exact h14) (by rw [a4 _ _ (by omega), a4 _ _ (by omega)]; exact h86) y1 (fun x x0 x1 => by
            by_cases xc : x = c
            · rw [xc, xup_eq, a3.1, a3.2, y2]
              exact ⟨y3, rfl, rfl⟩
            · rw [xup_ne (by omega), a4 495 x (by omega), a4 496 x (by omega)]
              exact hp x x0 x1) (by omega) (by omega) (by omega)
          rw [e, a1]
          rcases this with ⟨B, D, s1, s2, s3, s4, s5, s6, s7⟩ | ⟨B, D, s1, s2, s3, s5, s6⟩
          · refine Or.inl ⟨B, D, s1, s2, s3, s4, fun a j ha => by rw [s5 a j ha, xup_ne (by omega)], fun a j ha => by rw [s6 a j ha, fA a j ha], fun y hy => s7 y ?_⟩
            by_cases yc : y = c
            · rw [yc, xup_eq]
              rw [yc] at hy
              rw [hy]
              exact fr_over_0 hS hS0
            · rw [xup_ne (by omega)]
              exact hy
          · exact Or.inr ⟨B, D, s1, s2, s3, fun a j ha => by rw [s5 a j ha, xup_ne (by omega)], fun a j ha => by rw [s6 a j ha, fA a j ha]⟩
        · rw [if_neg (by omega)] at e
          obtain ⟨D, b1, b2', b3⟩ := m_442sp (g := G) hn hS hS0 30 (c + 1) A (by rw [a4 _ _ (by omega)]; exact h47) (by rw [a4 _ _ (by omega), a4 _ _ (by omega)]; exact h86) y1 (fun x x0 x1 => by
            by_cases xc : x = c
            · rw [xc]
              exact ⟨u, a2.1, a3.1, a3.2⟩
            · rw [a4 495 x (by omega), a4 496 x (by omega)]
              exact ⟨_, hp x x0 x1⟩) (by omega) (by omega) (by omega)
          exact Or.inr ⟨_, D, e, a1.trans b1, b2', fun a j ha => xup_ne (by omega), fun a j ha => by rw [b3 a j ha, fA a j ha]⟩
      · rw [if_pos (fun z => f z.2.2)] at e
        rw [e, m_442n hn h47 c0 (by omega) f]
        exact ih (c + 1) M N h47 hg h14 h86 hs hp (by omega) (by omega) (by omega)
theorem m_minus1 (hs : mSp N) {x y a b c d : Int} (ox : fr_ok x) (oy : fr_ok y) (hle : fr_up y * fr_low x ≤ fr_up x * fr_low y) (ha : a = fr_up x) (hb : b = fr_low x) (hc : c = fr_up y) (hd : d = fr_low y) : ∃ u N', f_Model_minus a b c d N = some (0, N') ∧ mRes N N' (fr_minus x y) u ∧ (N' 439 44 = 1 → u = 1) := by
  subst ha hb hc hd
  obtain ⟨u, h, h2⟩ := md_fr_res1 hs (fr_v_minus x y)
  exact ⟨u, _, m_minus N hs ox oy hle, h, h2⟩
theorem m_544sp {v : Int} (h : N 439 44 = 1) : f_Model_parts_544 v N = some (0, N) := by
  rw [q_Model_parts_544]
  simp only [em_cd]
  by_cases c : N 439 47 ≤ v
  · rw [if_pos c]
  · rw [if_neg c, if_pos (by omega)]
/-- the reference after the fixed parts -/
noncomputable def restM (N : em_M) (R : Int) : Option (Int × em_M) := if fr_up R ≤ 0 then f_Model_parts_544 0 N else (f_Model_goesOn N).bind fun r => f_Model_parts_544 0 r.2
theorem lessen_both {t L p : Int} (hb : bR M N t L p) (hp : pR M N) (hs : N 439 44 = 0) (hsum : fr_is N (M 127 14) (N 439 86) (N 439 87)) : (∃ M' N', f_Parting_lessen M = some (1, M') ∧ f_Model_parts_400 (M 127 12) N = restM N' (M' 127 15) ∧ N' 439 44 = 0 ∧ fr_is N' (M' 127 15) (N' 439 88) (N' 439 89) ∧ (N' 439 90 = -1 ∧ N' 439 91 = 0) ∧ pR M' N' ∧ fr_is N' (M' 127 14) (N' 439 86) (N' 439 87) ∧ (∀ a j, ¬ ((a = 133 ∧ 0 ≤ j ∧ j < 30) ∨ (a = 127 ∧ j = 15)) → M' a j = M a j) ∧ qM N N' ∧ zC M M' ∧ ∀ x, N' 494 x = N 494 x) ∨ (∃ M' N', f_Parting_lessen M = some (0, M') ∧ f_Model_parts_400 (M 127 12) N = some (0, N') ∧ N' 439 44 = 1 ∧ qC M M' ∧ qM N N') := by
  obtain ⟨oS, S1, S2⟩ := hsum
  have hn := hb.1.1.1.2.2.1
  have n0 := hb.1.1.1.2.1
  have f47 : N 439 47 = M 6 0 := by rw [hb.1.2.1 _ _ (by unfold sStat; omega)]; exact hb.1.1.1.1
  have o1 : fr_ok 1048577 := (fr_ok_int (v := 1) (by omega) (by omega)).1
  have e := q_Parting_lessen M
  rw [f_isAbove_eq M oS o1] at e
  simp only [Option.bind_some, em_cd, f_minus_eq M (Or.inr o1) (Or.inr oS), xup_eq, f_isSpent, nnz] at e
  have eM := q_Model_parts_400 (M 127 12) N
  generalize hX : xup (xup (xup (xup N 439 90 (-1)) 439 91 0) 439 88 0) 439 89 1 = X at eM
  have fX : ∀ a j, ¬ (a = 439 ∧ 88 ≤ j ∧ j ≤ 91) → X a j = N a j := fun a j ha => by rw [← hX, xup_ne (by omega), xup_ne (by omega), xup_ne (by omega), xup_ne (by omega)]
  have vX : (X 439 90 = -1 ∧ X 439 91 = 0) ∧ X 439 88 = 0 ∧ X 439 89 = 1 := by rw [← hX]; simp (disch := omega) only [xup_ne, xup_eq, and_self]
  rw [fX 439 44 (by omega), hs, fX 439 86 (by omega), fX 439 87 (by omega), S1, S2] at eM
  simp only [em_cd, x_cmp_le] at eM
  rw [if_pos True.intro] at eM
  have u1 : fr_up 1048577 = 1 := by decide
  have l1 : fr_low 1048577 = 1 := by decide
  rw [u1, l1, Int.one_mul, Int.mul_one] at e
  have qX : qM N X := fun c j hc => fX c j (by omega)
  by_cases ab : fr_low (M 127 14) < fr_up (M 127 14)
  · rw [if_pos ab] at e
    rw [if_neg (by omega)] at eM
    have l0 : 0 < fr_up (M 127 14) := by have := oS.2.2.1; omega
    have hG : ∀ x, M 6 0 ≤ x → x < 30 → ¬ tb (M 127 12) x = true := fun x x0 x1 z => by
      have := (hp.2.2.1.at_ (by omega) x1).mp z
      omega
    have pX : ∀ x, 0 ≤ x → x < M 6 0 → fr_is X ((xup M 127 15 1) 133 x) (X 495 x) (X 496 x) := fun x x0 x1 => by
      rw [xup_ne (by omega), fX 495 x (by omega), fX 496 x (by omega)]
      exact hp.1 x x0 x1
    rcases lessen_loop (n := M 6 0) (S := M 127 14) (G := M 127 12) n0 hn oS l0 hG 30 0 (xup M 127 15 1) X (by rw [fX _ _ (by omega)]; exact f47) (xup_ne (by omega)) (xup_ne (by omega)) ⟨oS, by rw [fX _ _ (by omega)]; exact S1, by rw [fX _ _ (by omega)]; exact S2⟩ (by rw [fX _ _ (by omega)]; exact hs) pX (by omega) n0 (by omega) with ⟨A, B, s1, s2, s3, s4, s5, s6, s7⟩ | ⟨A, B, s1, s2, s3, s5, s6⟩
    · left
      have a15 : A 127 15 = 1 := by rw [s5 _ _ (by omega), xup_eq]
      have hr : ∀ c j, ¬ ((c = 133 ∧ 0 ≤ j ∧ j < 30) ∨ (c = 127 ∧ j = 15)) → A c j = M c j := fun c j hc => by rw [s5 c j (by omega), xup_ne (by omega)]
      refine ⟨A, B, e.trans s1, ?_, s3, ?_, ?_, ⟨?_, ?_, ?_, ?_⟩, ?_, hr, ?_, fun x _ _ z _ => s7 x (by rw [xup_ne (by omega)]; exact z), fun x => by rw [s6 494 x (by omega), fX 494 x (by omega)]⟩
      · rw [eM, s2, a15, q_Model_parts_442]
        simp only [em_cd, x_cmp_le]
        unfold restM
        rw [fr_ok_1.2.1, if_pos (by rw [s6 _ _ (by omega), fX _ _ (by omega)]; omega), if_pos (by rw [s6 _ _ (by omega), vX.2.1]; omega), if_pos (by omega)]
      · rw [a15, s6 439 88 (by omega), s6 439 89 (by omega), vX.2.1, vX.2.2]
        exact ⟨fr_ok_1.1, fr_ok_1.2.1.symm, fr_ok_1.2.2.symm⟩
      · rw [s6 _ _ (by omega), s6 _ _ (by omega)]
        exact vX.1
      · rw [hr 6 0 (by omega)]
        exact s4
      · rw [hr 6 0 (by omega)]
        intro x x0 x1
        rw [s5 133 x (by omega), xup_ne (by omega)]
        exact hp.2.1 x x0 x1
      · rw [hr 127 12 (by omega), hr 6 0 (by omega)]
        refine hp.2.2.1.cong (fun x _ _ => ?_)
        rw [s6 493 x (by omega), fX 493 x (by omega)]
      · rw [hr 6 0 (by omega)]
        intro x x0 x1
        rw [s6 493 x (by omega), fX 493 x (by omega), hr 130 x (by omega)]
        exact hp.2.2.2 x x0 x1
      · rw [hr 127 14 (by omega), s6 439 86 (by omega), s6 439 87 (by omega), fX 439 86 (by omega), fX 439 87 (by omega)]
        exact ⟨oS, S1, S2⟩
      · exact fun c j hc => by rw [s6 c j (by omega), fX c j (by omega)]
    · right
      refine ⟨A, B, e.trans s1, ?_, s3, fun c j hc => by rw [s5 c j (by omega), xup_ne (by omega)], fun c j hc => by rw [s6 c j (by omega), fX c j (by omega)]⟩
      rw [eM, s2, q_Model_parts_442]
      simp only [em_cd, x_cmp_le]
      rw [if_pos (by rw [s6 _ _ (by omega), fX _ _ (by omega)]; omega), if_pos (by rw [s6 _ _ (by omega), vX.2.1]; omega), m_544sp s3]
  · rw [if_neg ab] at e
    rw [if_pos (by omega)] at eM
    obtain ⟨u, A, a1, ⟨a2, a3, a4⟩, a5⟩ := m_minus1 (N := X) (x := 1048577) (y := M 127 14) (a := 1) (b := 1) (Or.inl (by rw [fX _ _ (by omega)]; exact hs)) o1 oS (by rw [u1, l1]; omega) u1.symm l1.symm rfl rfl
    rw [a1] at eM
    simp only [Option.bind_some] at eM
    generalize hY : xup (xup A 439 88 (A 439 45)) 439 89 ((xup A 439 88 (A 439 45)) 439 46) = Y at eM
    have fY : ∀ a j, ¬ (a = 439 ∧ 88 ≤ j ∧ j ≤ 89) → Y a j = A a j := fun a j ha => by rw [← hY, xup_ne (by omega), xup_ne (by omega)]
    have vY : Y 439 88 = fr_up u ∧ Y 439 89 = fr_low u := by rw [← hY, xup_ne (by omega), xup_eq, xup_eq, xup_ne (by omega)]; exact a3
    have gY : ∀ a j, ¬ (a = 439 ∧ ((44 ≤ j ∧ j ≤ 46) ∨ (88 ≤ j ∧ j ≤ 91))) → Y a j = N a j := fun a j ha => by rw [fY a j (by omega), a4 a j (by omega), fX a j (by omega)]
    have qY : qM N Y := fun c j hc => gY c j (by omega)
    rw [vY.1] at eM
    have eM2 : f_Model_parts_400 (M 127 12) N = restM Y u := eM
    rcases a2.zero (by rw [fX _ _ (by omega)]; exact hs) with ⟨y1, y2, y3⟩ | ⟨y1, y2⟩
    · left
      have y4 := y3.1
      rw [if_neg (by omega)] at e
      refine ⟨_, Y, e, ?_, by rw [fY _ _ (by omega)]; exact y1, ?_, ?_, ⟨?_, ?_, ?_, ?_⟩, ?_, fun a j ha => xup_ne (by omega), qY, fun x _ _ z _ => by rw [xup_ne (by omega)]; exact z, fun x => gY 494 x (by omega)⟩
      · rw [xup_eq, eM2, y2]
      · rw [xup_eq, vY.1, vY.2, y2]
        exact ⟨y3, rfl, rfl⟩
      · rw [fY _ _ (by omega), fY _ _ (by omega), a4 _ _ (by omega), a4 _ _ (by omega)]
        exact vX.1
      · rw [xup_ne (by omega)]
        intro x x0 x1
        rw [xup_ne (by omega), gY 495 x (by omega), gY 496 x (by omega)]
        exact hp.1 x x0 x1
      · rw [xup_ne (by omega)]
        intro x x0 x1
        rw [xup_ne (by omega)]
        exact hp.2.1 x x0 x1
      · rw [xup_ne (by omega), xup_ne (by omega)]
        refine hp.2.2.1.cong (fun x _ _ => ?_)
        rw [gY 493 x (by omega)]
      · rw [xup_ne (by omega)]
        intro x x0 x1
        rw [gY 493 x (by omega), xup_ne (by omega)]
        exact hp.2.2.2 x x0 x1
      · rw [xup_ne (by omega), gY 439 86 (by omega), gY 439 87 (by omega)]
        exact ⟨oS, S1, S2⟩
    · right
      rw [if_pos (by omega)] at e
      have yz : Y 439 44 = 1 := by rw [fY _ _ (by omega)]; exact y1
      have u1' : u = 1 := a5 y1
      refine ⟨_, Y, e, ?_, yz, fun c j hc => xup_ne (by omega), qY⟩
      rw [eM2, u1']
      unfold restM
      rw [fr_ok_1.2.1, if_pos (by omega), m_544sp yz]
end
