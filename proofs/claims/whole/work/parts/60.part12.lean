/-! PARTING: the rest by weights, the two side by side. -/
section
variable {M N : em_M}
theorem m_93n {q W V x n : Int} (hn : n ≤ 30) (h47 : N 439 47 = n) (x0 : 0 ≤ x) (x1 : x < n) (hV : ¬ tb V x = true) : f_Model_restOf_93 q W V x N = f_Model_restOf_93 q W V (x + 1) N := by
  have e := q_Model_restOf_93 q W V x N
  rw [f_Mhas N x0 (by omega)] at e
  simp only [em_cd, Option.bind_some, b2_z] at e
  rw [if_neg (by omega), if_neg (fun y => y hV), x32_s (by omega) (by omega)] at e
  exact e
theorem m_93e {q W V x n : Int} (h47 : N 439 47 = n) (x1 : n ≤ x) : f_Model_restOf_93 q W V x N = some (1, N) := by
  rw [q_Model_restOf_93, em_cd, if_pos (by omega)]
/-- what is static in the loop -/
def wS (N : em_M) (q W V r s n R : Int) : Prop := (N 439 47 = n ∧ N 439 17 = s) ∧ fr_is N R (N 439 88) (N 439 89) ∧ ∀ x, 0 ≤ x → x < 30 → tb V x = true → x < n ∧ (∃ j, 0 ≤ j ∧ j < N 463 q ∧ tb (N 491 (N 464 (8 * q + j))) x = true)
theorem wtOf.fr {q x v : Int} {N' : em_M} (h : wtOf N q x v) (e : ∀ a j, (463 ≤ a ∧ a ≤ 465) ∨ a = 491 → N' a j = N a j) : wtOf N' q x v := by
  obtain ⟨i, a1, a2, a3, a4, a5⟩ := h
  refine ⟨i, a1, by rw [e 463 _ (by omega)]; exact a2, by rw [e 464 _ (by omega), e 491 _ (by omega)]; exact a3, fun j j0 j1 => by rw [e 464 _ (by omega), e 491 _ (by omega)]; exact a4 j j0 j1, by rw [e 465 _ (by omega)]; exact a5⟩
def wF (N N' : em_M) : Prop := ∀ a j, ¬ ((a = 439 ∧ 44 ≤ j ∧ j ≤ 46) ∨ a = 494 ∨ a = 495 ∨ a = 496) → N' a j = N a j
theorem wS.fr {q W V r s n R : Int} {N' : em_M} (h : wS N q W V r s n R) (e : wF N N') : wS N' q W V r s n R := by
  obtain ⟨⟨a1, a2⟩, a3, a4⟩ := h
  unfold wF at e
  refine ⟨⟨by rw [e _ _ (by omega)]; exact a1, by rw [e _ _ (by omega)]; exact a2⟩, by rw [e _ _ (by omega), e _ _ (by omega)]; exact a3, fun x x0 x1 x2 => ?_⟩
  obtain ⟨u, j, j0, j1, j2⟩ := a4 x x0 x1 x2
  exact ⟨u, j, j0, by rw [e 463 _ (by omega)]; exact j1, by rw [e 464 _ (by omega), e 491 _ (by omega)]; exact j2⟩
theorem lsR.frN {N' : em_M} {w r q sz K n : Int} (h : lsR M N w r q sz K n) (e : wF N N') : lsR M N' w r q sz K n := by
  obtain ⟨⟨a1, a2, a3⟩, b, c⟩ := h
  unfold wF at e
  refine ⟨⟨a1, by rw [e _ _ (by omega)]; exact a2, a3⟩, fun i i0 i1 => ?_, fun k k0 k1 => ?_⟩
  · rw [e 464 _ (by omega), e 465 _ (by omega)]
    exact b i i0 i1
  · rw [e 491 _ (by omega)]
    exact c k k0 k1
theorem wt_ex {q x sz K n w r : Int} (h : lsR M N w r q sz K n) (hk : ∃ j, 0 ≤ j ∧ j < sz ∧ tb (N 491 (N 464 (8 * q + j))) x = true) : ∃ v, wtOf N q x v := by
  obtain ⟨⟨a1, a2, a3, a4⟩, b, c⟩ := h
  have key : ∀ (m : Nat) (j : Int), 0 ≤ j → j < sz → j ≤ m → tb (N 491 (N 464 (8 * q + j))) x = true → ∃ v, wtOf N q x v := by
    intro m
    induction m with
    | zero =>
      intro j j0 j1 jm h
      exact ⟨_, j, j0, by omega, h, fun i i0 i1 => by omega, rfl⟩
    | succ m ih =>
      intro j j0 j1 jm h
      by_cases lo : ∃ i, 0 ≤ i ∧ i < j ∧ tb (N 491 (N 464 (8 * q + i))) x = true
      · obtain ⟨i, i0, i1, i2⟩ := lo
        exact ih i i0 (by omega) (by omega) i2
      · exact ⟨_, j, j0, by omega, h, fun i i0 i1 i2 => lo ⟨i, i0, i1, i2⟩, rfl⟩
  obtain ⟨j, j0, j1, j2⟩ := hk
  exact key j.toNat j j0 j1 (by omega) j2
theorem m_93sp {q W V r s n R sz K w : Int} (hn : n ≤ 30) (K1 : K ≤ 20) (hs : s = 0 ∨ s = 1) (hq : q = 30 * s + r) (r0 : 0 ≤ r) (r1 : r < 30) (W1 : 1 ≤ W) (W2 : W ≤ 300000) : ∀ (m : Nat) (x : Int) (N : em_M), lsR M N w r q sz K n → wS N q W V r s n R → N 439 44 = 1 → okP N n → 0 ≤ x → n - x ≤ m → ∃ N', f_Model_restOf_93 q W V x N = some (1, N') ∧ N' 439 44 = 1 ∧ wF N N' := by
  intro m
  induction m with
  | zero =>
    intro x N hl hS hz hp x0 hm
    exact ⟨N, m_93e hS.1.1 (by omega), hz, fun _ _ _ => rfl⟩
  | succ m ih =>
    intro x N hl hS hz hp x0 hm
    by_cases z : n ≤ x
    · exact ⟨N, m_93e hS.1.1 z, hz, fun _ _ _ => rfl⟩
    · by_cases f : tb V x = true
      · obtain ⟨P, hP⟩ := hp x x0 (by omega)
        obtain ⟨-, hk⟩ := hS.2.2 x x0 (by omega) f
        rw [hl.1.2.1] at hk
        obtain ⟨wt, hwt⟩ := wt_ex hl hk
        obtain ⟨u1, u2, u3, s1, s2, A, a1, a2, a3, a4, a5, a6, a7⟩ := m_93s hl K1 hs hq r0 r1 hn (Or.inr hz) hS.1.1 hS.1.2 x0 (by omega) f hk hwt hP hS.2.1 W1 W2
        rw [hz] at a2
        rw [a2.one] at a3
        rw [a3.one] at a4
        have fA : wF N A := fun a j ha => a7 a j (by omega)
        obtain ⟨B, b1, b2', b3⟩ := ih (x + 1) A (hl.frN fA) (hS.fr fA) a4.one (fun y y0 y1 => by
          by_cases yx : y = x
          · rw [yx]
            exact ⟨u3, a4.1, a5.1, a5.2⟩
          · rw [a7 495 y (by omega), a7 496 y (by omega)]
            exact hp y y0 y1) (by omega) (by omega)
        exact ⟨B, a1.trans b1, b2', fun a j ha => by rw [b3 a j ha, fA a j ha]⟩
      · rw [m_93n hn hS.1.1 x0 (by omega) f]
        exact ih (x + 1) N hl hS hz hp (by omega) (by omega)
theorem f_126e {V W n : Int} (hV : ∀ x, n ≤ x → x < 30 → ¬ tb V x = true) : ∀ (m : Nat) (x : Int), n ≤ x → 0 ≤ x → 30 - x ≤ m → f_Parting_shareByWeights_126 V W x M = some (1, M) := by
  intro m
  induction m with
  | zero =>
    intro x hx x0 hm
    rw [q_Parting_shareByWeights_126, em_cd, if_pos (by omega)]
  | succ m ih =>
    intro x hx x0 hm
    rw [q_Parting_shareByWeights_126, f_holds]
    simp only [em_cd, Option.bind_some, b2_z]
    by_cases z : 30 ≤ x
    · rw [if_pos z]
    · rw [if_neg z, if_pos (fun y => hV x hx (by omega) y.2.2), x32_s (by omega) (by omega)]
      exact ih (x + 1) (by omega) (by omega) (by omega)
theorem rest_loop {q W V r s n R sz K w : Int} (n0 : 0 ≤ n) (hn : n ≤ 30) (K1 : K ≤ 20) (hs : s = 0 ∨ s = 1) (hq : q = 30 * s + r) (r0 : 0 ≤ r) (r1 : r < 30) (W1 : 1 ≤ W) (W2 : W ≤ 300000) (hw : w = 53 ∨ w = 366) : ∀ (m : Nat) (x : Int) (M N : em_M), lsR M N w r q sz K n → wS N q W V r s n R → M 127 15 = R → (∀ y, 0 ≤ y → y < 30 → tb V y = true → wtOf N q y (M 131 y)) → N 439 44 = 0 → (∀ y, 0 ≤ y → y < n → fr_is N (M 133 y) (N 495 y) (N 496 y)) → 0 ≤ x → n - x ≤ m →
    (∃ M' N', f_Parting_shareByWeights_126 V W x M = some (1, M') ∧ f_Model_restOf_93 q W V x N = some (1, N') ∧ N' 439 44 = 0 ∧ (∀ y, 0 ≤ y → y < n → fr_is N' (M' 133 y) (N' 495 y) (N' 496 y)) ∧ (∀ y, x ≤ y → y < n → tb V y = true → N' 494 y = r) ∧ (∀ y, ¬ (x ≤ y ∧ y < n ∧ tb V y = true) → N' 494 y = N 494 y) ∧ (∀ a j, ¬ (a = 133 ∧ 0 ≤ j ∧ j < n ∧ tb V j = true) → M' a j = M a j) ∧ wF N N') ∨ (∃ M' N', f_Parting_shareByWeights_126 V W x M = some (0, M') ∧ f_Model_restOf_93 q W V x N = some (1, N') ∧ N' 439 44 = 1 ∧ (∀ a j, ¬ (a = 133 ∧ 0 ≤ j ∧ j < n ∧ tb V j = true) → M' a j = M a j) ∧ wF N N') := by
  intro m
  have fin : ∀ (x : Int) (M N : em_M), lsR M N w r q sz K n → wS N q W V r s n R → N 439 44 = 0 → (∀ y, 0 ≤ y → y < n → fr_is N (M 133 y) (N 495 y) (N 496 y)) → 0 ≤ x → n ≤ x → (∃ M' N', f_Parting_shareByWeights_126 V W x M = some (1, M') ∧ f_Model_restOf_93 q W V x N = some (1, N') ∧ N' 439 44 = 0 ∧ (∀ y, 0 ≤ y → y < n → fr_is N' (M' 133 y) (N' 495 y) (N' 496 y)) ∧ (∀ y, x ≤ y → y < n → tb V y = true → N' 494 y = r) ∧ (∀ y, ¬ (x ≤ y ∧ y < n ∧ tb V y = true) → N' 494 y = N 494 y) ∧ (∀ a j, ¬ (a = 133 ∧ 0 ≤ j ∧ j < n ∧ tb V j = true) → M' a j = M a j) ∧ wF N N') := fun x M N hl hS hz hp x0 hx => by
    refine ⟨M, N, f_126e (n := n) (fun y y0 y1 y2 => ?_) 30 x hx x0 (by omega), m_93e hS.1.1 hx, hz, hp, fun y y0 y1 => by omega, fun _ _ => rfl, fun _ _ _ => rfl, fun _ _ _ => rfl⟩
    have := (hS.2.2 y (by omega) y1 y2).1
    omega
  induction m with
  | zero =>
    intro x M N hl hS h15 hwt hz hp x0 hm
    exact Or.inl (fin x M N hl hS hz hp x0 (by omega))
  | succ m ih =>
    intro x M N hl hS h15 hwt hz hp x0 hm
    by_cases xe : n ≤ x
    · exact Or.inl (fin x M N hl hS hz hp x0 xe)
    · clear fin
      have hPx := hp x x0 (by omega)
      have e := q_Parting_shareByWeights_126 V W x M
      rw [f_holds] at e
      simp only [em_cd, Option.bind_some, b2_z] at e
      rw [if_neg (by omega), x32_s (by omega) (by omega)] at e
      by_cases f : tb V x = true
      · obtain ⟨-, hk⟩ := hS.2.2 x x0 (by omega) f
        rw [hl.1.2.1] at hk
        have hw1 := hwt x x0 (by omega) f
        have wr : 0 ≤ M 131 x ∧ M 131 x ≤ 999 := by
          obtain ⟨i, i0, i1, -, -, i2⟩ := hw1
          rw [hl.1.2.1] at i1
          obtain ⟨-, ⟨b4, b5, b6⟩⟩ := hl.2.1 i i0 i1
          omega
        obtain ⟨u1, u2, u3, s1, s2, A, a1, a2, a3, a4, a5, a6, a7⟩ := m_93s hl K1 hs hq r0 r1 hn (Or.inl hz) hS.1.1 hS.1.2 x0 (by omega) f hk hw1 hPx hS.2.1 W1 W2
        have fA : wF N A := fun a j ha => a7 a j (by omega)
        rw [if_neg (fun y => y ⟨x0, by omega, f⟩), if_pos (by omega), f_of_eq M (by omega) (by omega) (by omega), h15] at e
        simp only [Option.bind_some, f_times_eq M (Or.inr hS.2.1.1) (fr_of_range _ _), f_plus_eq M (Or.inr hPx.1) (fr_v_times _ _), xup_eq, f_isSpent, zzz] at e
        rw [if_pos (by omega), if_pos (by omega), if_pos (by omega)] at e
        have hxn : ∀ a j : Int, ¬ (a = 133 ∧ 0 ≤ j ∧ j < n ∧ tb V j = true) → ¬ (a = 133 ∧ j = x) := fun a j ha z => by
          rw [z.2] at ha
          exact ha ⟨z.1, x0, by omega, f⟩
        have okA : okP A n := fun y y0 y1 => by
          by_cases yx : y = x
          · rw [yx]
            exact ⟨u3, a4.1, a5.1, a5.2⟩
          · rw [a7 495 y (by omega), a7 496 y (by omega)]
            exact ⟨_, hp y y0 y1⟩
        have fail : fr_plus (M 133 x) (fr_times R (fr_of (M 131 x) W)) = -1 → A 439 44 = 1 → (∃ M' N', f_Parting_shareByWeights_126 V W x M = some (0, M') ∧ f_Model_restOf_93 q W V x N = some (1, N') ∧ N' 439 44 = 1 ∧ (∀ a j, ¬ (a = 133 ∧ 0 ≤ j ∧ j < n ∧ tb V j = true) → M' a j = M a j) ∧ wF N N') := fun z1 z2 => by
          rw [z1, if_neg (by omega)] at e
          obtain ⟨B, b1, b2', b3⟩ := m_93sp (M := M) hn K1 hs hq r0 r1 W1 W2 30 (x + 1) A (hl.frN fA) (hS.fr fA) z2 okA (by omega) (by omega)
          exact ⟨_, B, e, a1.trans b1, b2', fun a j ha => xup_ne (hxn a j ha), fun a j ha => by rw [b3 a j ha, fA a j ha]⟩
        rcases a2.zero hz with ⟨y1, y2, y3⟩ | ⟨y1, y2⟩
        · rcases a3.zero y1 with ⟨v1, v2, v3⟩ | ⟨v1, v2⟩
          · rcases a4.zero v1 with ⟨t1, t2, t3⟩ | ⟨t1, t2⟩
            · clear fail
              rw [y2] at v2 v3
              rw [v2] at t2 t3
              have t4 := t3.1
              rw [if_pos (by omega)] at e
              have hCx : qC M (xup M 133 x (fr_plus (M 133 x) (fr_times R (fr_of (M 131 x) W)))) := fun c j hc => xup_ne (by omega)
              have := ih (x + 1) (xup M 133 x (fr_plus (M 133 x) (fr_times R (fr_of (M 131 x) W)))) A (hl.fr hw r0 r1 hCx (fun c j hc => fA c j (by omega))) (hS.fr fA) (by rw [xup_ne (by omega)]; exact h15) (fun y y0 y1 y2 => by
                rw [xup_ne (by omega)]
                exact (hwt y y0 y1 y2).fr (fun a j ha => fA a j (by omega))) t1 (fun y y0 y1 => by
                by_cases yx : y = x
                · rw [yx, xup_eq, a5.1, a5.2, t2]
                  exact ⟨t3, rfl, rfl⟩
                · rw [xup_ne (by omega), a7 495 y (by omega), a7 496 y (by omega)]
                  exact hp y y0 y1) (by omega) (by omega)
              rw [e, a1]
              rcases this with ⟨B, D, s1, s2, s3, s4, s5, s6, s7, s8⟩ | ⟨B, D, s1, s2, s3, s7, s8⟩
              · refine Or.inl ⟨B, D, s1, s2, s3, s4, fun y y0 y1 y2 => ?_, fun y y0 => ?_, fun a j ha => by rw [s7 a j ha, xup_ne (hxn a j ha)], fun a j ha => by rw [s8 a j ha, fA a j ha]⟩
                · by_cases yx : y = x
                  · rw [yx, s6 x (by omega)]
                    exact a6
                  · exact s5 y (by omega) y1 y2
                · have yx : ¬ y = x := fun z => by
                    rw [z] at y0
                    exact y0 ⟨by omega, by omega, f⟩
                  rw [s6 y (fun z => y0 ⟨by omega, z.2⟩), a7 494 y (by omega)]
              · exact Or.inr ⟨B, D, s1, s2, s3, fun a j ha => by rw [s7 a j ha, xup_ne (hxn a j ha)], fun a j ha => by rw [s8 a j ha, fA a j ha]⟩
            · rw [y2] at v2
              rw [v2] at t2
              exact Or.inr (fail t2 t1)
          · rw [y2] at v2
            rw [v1] at a4
            refine Or.inr (fail ?_ a4.one)
            rw [v2]
            exact fr_plus_m2 _
        · rw [y1] at a3
          have k1 := a3.one
          rw [k1] at a4
          refine Or.inr (fail ?_ a4.one)
          rw [y2, fr_times_m2]
          exact fr_plus_m2 _
      · rw [if_pos (fun y => f y.2.2)] at e
        rw [e, m_93n hn hS.1.1 x0 (by omega) f]
        rcases ih (x + 1) M N hl hS h15 hwt hz hp (by omega) (by omega) with ⟨B, D, s1, s2, s3, s4, s5, s6, s7, s8⟩ | ⟨B, D, s1, s2, s3, s7, s8⟩
        · refine Or.inl ⟨B, D, s1, s2, s3, s4, fun y y0 y1 y2 => ?_, fun y y0 => s6 y (fun z => y0 ⟨by omega, z.2⟩), s7, s8⟩
          by_cases yx : y = x
          · rw [yx] at y2
            exact absurd y2 f
          · exact s5 y (by omega) y1 y2
        · exact Or.inr ⟨B, D, s1, s2, s3, s7, s8⟩
end
