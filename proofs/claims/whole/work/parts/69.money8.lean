/-! MONEY: the shares are paid. -/
theorem fr_plus_z {x : Int} (ox : fr_ok x) : fr_plus x 1 = x := by
  have e : fr_up 1 = 0 ∧ fr_low 1 = 1 := ⟨fr_ok_1.2.1, fr_ok_1.2.2⟩
  obtain ⟨h0, h1, h2, h3, h4⟩ := ox
  unfold fr_plus
  rw [if_neg (by omega), e.1, e.2, Int.mul_one, Int.zero_mul, Int.add_zero, Int.mul_one]
  have u0 : 0 ≤ fr_up x := fr_up_nn ⟨h0, h1, h2, h3, h4⟩
  unfold fr_of
  rw [if_neg (by omega), if_neg (by omega), h4]
  simp only [Int.natCast_one, Int.ediv_one]
  rw [if_neg (by omega)]
  unfold fr_up fr_low
  omega
section
variable {M N : em_M}
/-- the purses of all but p -/
def puR (M N : em_M) (n p : Int) : Prop := ∀ x, 0 ≤ x → x < n → ¬ x = p → fr_is N (M 135 x) (N 474 x) (N 475 x)
def eF (N N' : em_M) : Prop := ∀ a j, ¬ ((a = 439 ∧ 44 ≤ j ∧ j ≤ 46) ∨ a = 474 ∨ a = 475) → N' a j = N a j
theorem m_gives66sp (hz : N 439 44 = 1) : f_Model_gives_66 N = some (0, N) := by
  rw [q_Model_gives_66]
  simp only [em_cd]
  by_cases c : N 439 91 = 0
  · rw [if_pos c]
  · rw [if_neg c, if_neg (by omega)]
theorem f_payE {E n : Int} (hE : isE E) (h1 : ∀ x, n ≤ x → x < 30 → M (E + 1) x = 1) : ∀ (m : Nat) (x : Int), n ≤ x → 0 ≤ x → x ≤ 30 → 30 - x ≤ m → f_Settlement_payParts_2 E x M = f_Settlement_payParts_2 E 30 M := by
  obtain ⟨k0, ⟨k1, k2⟩, -⟩ := hE.k
  intro m
  induction m with
  | zero =>
    intro x hx x0 x1 hm
    rw [show x = 30 by omega]
  | succ m ih =>
    intro x hx x0 x1 hm
    by_cases z : x = 30
    · rw [z]
    · have e := q_Settlement_payParts_2 E x M
      rw [k0, k1, k2, h1 x hx (by omega), f_isPositive M (fr_ok_lt fr_ok_1.1), fr_ok_1.2.1, decide_eq_true (show 0 ≤ x ∧ x < 30 by omega)] at e
      simp only [em_cd, cond_true, Option.bind_some, zzz, show (Nat.beq 101 101 && true) = true from rfl] at e
      rw [if_neg (by omega), if_pos (by omega), x32_s (by omega) (by omega)] at e
      rw [e]
      exact ih (x + 1) (by omega) (by omega) (by omega) (by omega)
theorem pay_loop {E n p G : Int} (hE : isE E) (n0 : 0 ≤ n) (hn : n ≤ 30) : ∀ (m : Nat) (x : Int) (M N : em_M), N 439 47 = n → N 439 44 = 0 → M E 6 = G → fr_is N G (N 439 100) (N 439 101) → (∀ y, 0 ≤ y → y < n → fr_is N (M (E + 1) y) (N 497 y) (N 498 y)) → (∀ y, n ≤ y → y < 30 → M (E + 1) y = 1) → M (E + 1) p = 1 → puR M N n p → 0 ≤ x → x ≤ n → n - x ≤ m →
    (∃ M' N', f_Settlement_payParts_2 E x M = f_Settlement_payParts_2 E 30 M' ∧ f_Model_gives_2 x N = f_Model_gives_66 N' ∧ N' 439 44 = 0 ∧ puR M' N' n p ∧ (∀ a j, ¬ (a = 135 ∧ ¬ j = p) → M' a j = M a j) ∧ eF N N') ∨ (∃ M' N', f_Settlement_payParts_2 E x M = some (0, M') ∧ f_Model_gives_2 x N = f_Model_gives_66 N' ∧ N' 439 44 = 1 ∧ (∀ a j, ¬ a = 135 → M' a j = M a j) ∧ eF N N') := by
  have hne := hE.ne
  obtain ⟨k0, ⟨k1, k2⟩, -⟩ := hE.k
  intro m
  have fin : ∀ (x : Int) (M N : em_M), N 439 47 = n → N 439 44 = 0 → (∀ y, n ≤ y → y < 30 → M (E + 1) y = 1) → puR M N n p → 0 ≤ x → x = n → (∃ M' N', f_Settlement_payParts_2 E x M = f_Settlement_payParts_2 E 30 M' ∧ f_Model_gives_2 x N = f_Model_gives_66 N' ∧ N' 439 44 = 0 ∧ puR M' N' n p ∧ (∀ a j, ¬ (a = 135 ∧ ¬ j = p) → M' a j = M a j) ∧ eF N N') := fun x M N h47 hz h1 hu x0 hx =>
    ⟨M, N, f_payE hE h1 30 x (by omega) x0 (by omega) (by omega), by rw [q_Model_gives_2, em_cd, if_pos (by omega)], hz, hu, fun _ _ _ => rfl, fun _ _ _ => rfl⟩
  induction m with
  | zero =>
    intro x M N h47 hz hG6 hG hs h1 hp1 hu x0 x1 hm
    exact Or.inl (fin x M N h47 hz h1 hu x0 (by omega))
  | succ m ih =>
    intro x M N h47 hz hG6 hG hs h1 hp1 hu x0 x1 hm
    by_cases q : x = n
    · exact Or.inl (fin x M N h47 hz h1 hu x0 q)
    · clear fin
      have hsx := hs x x0 (by omega)
      have unn := fr_up_nn hsx.1
      have e := q_Settlement_payParts_2 E x M
      rw [k0, k1, k2, f_isPositive M (fr_ok_lt hsx.1), decide_eq_true (show 0 ≤ x ∧ x < 30 by omega)] at e
      simp only [em_cd, cond_true, Option.bind_some, zzz, show (Nat.beq 101 101 && true) = true from rfl, hG6, f_times_eq M (Or.inr hG.1) (Or.inr hsx.1)] at e
      rw [if_neg (by omega), x32_s (by omega) (by omega)] at e
      have eM := q_Model_gives_2 x N
      rw [hsx.2.1] at eM
      simp only [em_cd, x_cmp_eq] at eM
      rw [if_neg (by omega), if_neg (fun z => z hz), if_pos (by omega), x32_s (by omega) (by omega)] at eM
      by_cases pos : 0 < fr_up (M (E + 1) x)
      · have xp : ¬ x = p := fun z => by
          rw [z, hp1, fr_ok_1.2.1] at pos
          omega
        have hux := hu x x0 (by omega) xp
        rw [if_neg (fun z => z pos), f_addTo x0 (by omega) (Or.inr hux.1) (fr_v_times _ _)] at e
        simp only [Option.bind_some, b2_z, nn] at e
        rw [if_pos (by omega), if_pos (by omega), if_pos (by omega)] at eM
        obtain ⟨u1, A, a1, ⟨a2, a3, a4⟩⟩ := m_times' (N := N) (Or.inl hz) hG.1 hsx.1 hG.2.1 hG.2.2 rfl hsx.2.2
        rw [a1] at eM
        simp only [Option.bind_some] at eM
        obtain ⟨u2, B, b1, b2', b3, b4, b5⟩ := m_earns (N := A) (q := x) (Q := M 135 x) (F := u1) a2.sp x0 (by omega) (by rw [a4 _ _ (by omega), a4 _ _ (by omega)]; exact hux) ⟨a2.1, a3.1, a3.2⟩
        rw [b1] at eM
        simp only [Option.bind_some] at eM
        have fB : ∀ a j, ¬ ((a = 439 ∧ 44 ≤ j ∧ j ≤ 46) ∨ ((a = 474 ∨ a = 475) ∧ j = x)) → B a j = N a j := fun a j ha => by rw [b5 a j (by omega), a4 a j (by omega)]
        have eB : eF N B := fun a j ha => fB a j (by omega)
        rw [hz] at a2
        have fail : fr_plus (M 135 x) (fr_times G (M (E + 1) x)) = -1 → B 439 44 = 1 → (∃ M' N', f_Settlement_payParts_2 E x M = some (0, M') ∧ f_Model_gives_2 x N = f_Model_gives_66 N' ∧ N' 439 44 = 1 ∧ (∀ a j, ¬ a = 135 → M' a j = M a j) ∧ eF N N') := fun z1 z2 => by
          rw [z1, if_neg (fun z => z (by omega))] at e
          refine ⟨_, B, e, ?_, z2, fun a j ha => xup_ne (by omega), eB⟩
          rw [eM, q_Model_gives_2]
          simp only [em_cd]
          by_cases c : B 439 47 ≤ x + 1
          · rw [if_pos c]
          · rw [if_neg c, if_pos (by omega)]
        rcases a2.zero rfl with ⟨y1, y2, y3⟩ | ⟨y1, y2⟩
        · rcases b2'.zero y1 with ⟨v1, v2, v3⟩ | ⟨v1, v2⟩
          · clear fail
            rw [y2] at v2 v3
            have v4 := v3.1
            rw [if_pos (by omega)] at e
            generalize hX : xup M 135 x (fr_plus (M 135 x) (fr_times G (M (E + 1) x))) = X at e
            have fX : ∀ a j, ¬ (a = 135 ∧ j = x) → X a j = M a j := fun a j ha => by rw [← hX, xup_ne ha]
            have vX : X 135 x = u2 := by rw [← hX, xup_eq, v2]
            rw [e, eM]
            rcases ih (x + 1) X B (by rw [fB _ _ (by omega)]; exact h47) v1 (by rw [fX _ _ (by omega)]; exact hG6) (by rw [fB _ _ (by omega), fB _ _ (by omega)]; exact hG) (fun y y0 y1 => by
              rw [fX (E + 1) y (by omega), fB 497 y (by omega), fB 498 y (by omega)]
              exact hs y y0 y1) (fun y y0 y1 => by rw [fX (E + 1) y (by omega)]; exact h1 y y0 y1) (by rw [fX (E + 1) p (by omega)]; exact hp1) (fun y y0 y1 y2' => by
              by_cases yx : y = x
              · rw [yx, vX, b4.1, b4.2]
                exact ⟨b2'.1, rfl, rfl⟩
              · rw [fX 135 y (by omega), fB 474 y (by omega), fB 475 y (by omega)]
                exact hu y y0 y1 y2') (by omega) (by omega) (by omega) with ⟨C, D, s1, s2, s3, s4, s5, s6⟩ | ⟨C, D, s1, s2, s3, s5, s6⟩
            · exact Or.inl ⟨C, D, s1, s2, s3, s4, fun a j ha => by rw [s5 a j ha, fX a j (by omega)], fun a j ha => by rw [s6 a j ha, eB a j ha]⟩
            · exact Or.inr ⟨C, D, s1, s2, s3, fun a j ha => by rw [s5 a j ha, fX a j (by omega)], fun a j ha => by rw [s6 a j ha, eB a j ha]⟩
          · rw [y2] at v2
            exact Or.inr (fail v2 v1)
        · rw [y1] at b2'
          refine Or.inr (fail ?_ b2'.one)
          rw [y2]
          exact fr_plus_m2 _
      · rw [if_pos pos] at e
        rw [if_neg (by omega)] at eM
        rw [e, eM]
        exact ih (x + 1) M N h47 hz hG6 hG hs h1 hp1 hu (by omega) (by omega) (by omega)
theorem pay_both {E n p G : Int} (hE : isE E) (n0 : 0 ≤ n) (hn : n ≤ 30) (h47 : N 439 47 = n) (hz : N 439 44 = 0) (hG6 : M E 6 = G) (hG : fr_is N G (N 439 100) (N 439 101)) (hs : ∀ y, 0 ≤ y → y < n → fr_is N (M (E + 1) y) (N 497 y) (N 498 y)) (h1 : ∀ y, n ≤ y → y < 30 → M (E + 1) y = 1) (hp1 : M (E + 1) p = 1) (hu : puR M N n p) (hc : fr_is N (M 126 6) (N 487 1) (N 488 1)) (h8 : (N 439 91 = 0 ∧ M E 8 = 1) ∨ (N 439 91 = 1 ∧ fr_is N (M E 8) (N 439 88) (N 439 89))) :
    (∃ M' N', f_Settlement_payParts E M = some (1, M') ∧ f_Model_gives N = some (0, N') ∧ N' 439 44 = 0 ∧ puR M' N' n p ∧ fr_is N' (M' 126 6) (N' 487 1) (N' 488 1) ∧ (∀ a j, ¬ ((a = 135 ∧ ¬ j = p) ∨ (a = 126 ∧ j = 6)) → M' a j = M a j) ∧ ∀ a j, ¬ ((a = 439 ∧ 44 ≤ j ∧ j ≤ 46) ∨ a = 474 ∨ a = 475 ∨ ((a = 487 ∨ a = 488) ∧ j = 1)) → N' a j = N a j) ∨ (∃ M' N', f_Settlement_payParts E M = some (0, M') ∧ f_Model_gives N = some (0, N') ∧ N' 439 44 = 1 ∧ (∀ a j, ¬ (a = 135 ∨ (a = 126 ∧ j = 6)) → M' a j = M a j) ∧ ∀ a j, ¬ ((a = 439 ∧ 44 ≤ j ∧ j ≤ 46) ∨ a = 474 ∨ a = 475 ∨ ((a = 487 ∨ a = 488) ∧ j = 1)) → N' a j = N a j) := by
  have hne := hE.ne
  obtain ⟨k0, ⟨k1, k2⟩, -⟩ := hE.k
  rw [q_Settlement_payParts, q_Model_gives]
  rcases pay_loop (G := G) hE n0 hn 30 0 M N h47 hz hG6 hG hs h1 hp1 hu (by omega) n0 (by omega) with ⟨A, B, s1, s2, s3, s4, s5, s6⟩ | ⟨A, B, s1, s2, s3, s5, s6⟩
  · rw [s1, s2]
    have cA : A 126 6 = M 126 6 := s5 _ _ (by omega)
    have gA : A E 6 = G := by rw [s5 _ _ (by omega)]; exact hG6
    have o8 : fr_ok (A E 8) := by
      rw [s5 _ _ (by omega)]
      rcases h8 with ⟨-, z⟩ | ⟨-, z⟩
      · rw [z]; exact fr_ok_1.1
      · exact z.1
    have e := q_Settlement_payParts_2 E 30 A
    rw [k0] at e
    simp only [em_cd, cond_true, gA, f_times_eq A (Or.inr hG.1) (Or.inr o8), Option.bind_some, f_plus_eq A (show fr_v (A 126 6) by rw [cA]; exact Or.inr hc.1) (fr_v_times _ _), xup_eq, f_isSpent, nnz] at e
    rw [if_pos (by omega), cA] at e
    have e66 := q_Model_gives_66 B
    simp only [em_cd] at e66
    have b91 : B 439 91 = N 439 91 := s6 _ _ (by omega)
    rw [b91] at e66
    rcases h8 with ⟨z1, z2⟩ | ⟨z1, z2⟩
    · rw [if_pos z1] at e66
      have c8 : A E 8 = 1 := by rw [s5 _ _ (by omega)]; exact z2
      rw [c8, fr_times_0 hG.1, fr_plus_z hc.1, if_neg (by have := hc.1.1; omega)] at e
      refine Or.inl ⟨_, B, e, e66, s3, fun x x0 x1 x2 => ?_, ?_, fun a j ha => ?_, fun a j ha => s6 a j (by omega)⟩
      · rw [xup_ne (by omega)]
        exact s4 x x0 x1 x2
      · rw [xup_eq, s6 487 1 (by omega), s6 488 1 (by omega)]
        exact hc
      · rw [xup_ne (by omega), s5 a j (by omega)]
    · have c8 : A E 8 = M E 8 := s5 _ _ (by omega)
      rw [c8] at e
      obtain ⟨u1, C, a1, ⟨a2, a3, a4⟩⟩ := m_times' (N := B) (x := G) (y := M E 8) (Or.inl s3) hG.1 z2.1 ((s6 439 100 (by omega)).trans hG.2.1) ((s6 439 101 (by omega)).trans hG.2.2) ((s6 439 88 (by omega)).trans z2.2.1) ((s6 439 89 (by omega)).trans z2.2.2)
      obtain ⟨u2, D, b1, b2', b3, b4, b5⟩ := m_earnsOut (N := C) (w := 1) (S := M 126 6) (F := u1) a2.sp (Or.inr rfl) (by rw [a4 _ _ (by omega), a4 _ _ (by omega), s6 _ _ (by omega), s6 _ _ (by omega)]; exact hc) ⟨a2.1, a3.1, a3.2⟩
      rw [if_neg (by omega), if_pos s3, a1] at e66
      simp only [Option.bind_some, b1] at e66
      have fD : ∀ a j, ¬ ((a = 439 ∧ 44 ≤ j ∧ j ≤ 46) ∨ a = 474 ∨ a = 475 ∨ ((a = 487 ∨ a = 488) ∧ j = 1)) → D a j = N a j := fun a j ha => by rw [b5 a j (by omega), a4 a j (by omega), s6 a j (by omega)]
      have gD : ∀ a j, ¬ ((a = 439 ∧ 44 ≤ j ∧ j ≤ 46) ∨ ((a = 487 ∨ a = 488) ∧ j = 1)) → D a j = B a j := fun a j ha => by rw [b5 a j (by omega), a4 a j (by omega)]
      rw [s3] at a2
      have fail : fr_plus (M 126 6) (fr_times G (M E 8)) = -1 → D 439 44 = 1 → (∃ M' N', f_Settlement_payParts_2 E 30 A = some (0, M') ∧ f_Model_gives_66 B = some (0, N') ∧ N' 439 44 = 1 ∧ (∀ a j, ¬ (a = 135 ∨ (a = 126 ∧ j = 6)) → M' a j = M a j) ∧ ∀ a j, ¬ ((a = 439 ∧ 44 ≤ j ∧ j ≤ 46) ∨ a = 474 ∨ a = 475 ∨ ((a = 487 ∨ a = 488) ∧ j = 1)) → N' a j = N a j) := fun y1 y2 => by
        rw [y1, if_pos (by omega)] at e
        exact ⟨_, D, e, e66, y2, fun a j ha => by rw [xup_ne (by omega), s5 a j (by omega)], fD⟩
      rcases a2.zero rfl with ⟨y1, y2, y3⟩ | ⟨y1, y2⟩
      · rcases b2'.zero y1 with ⟨v1, v2, v3⟩ | ⟨v1, v2⟩
        · rw [y2] at v2 v3
          have v4 := v3.1
          rw [if_neg (by omega)] at e
          refine Or.inl ⟨_, D, e, e66, v1, fun x x0 x1 x2 => ?_, ?_, fun a j ha => ?_, fD⟩
          · rw [xup_ne (by omega), gD 474 x (by omega), gD 475 x (by omega)]
            exact s4 x x0 x1 x2
          · rw [xup_eq, b4.1, b4.2, v2]
            exact ⟨v3, rfl, rfl⟩
          · rw [xup_ne (by omega), s5 a j (by omega)]
        · rw [y2] at v2
          exact Or.inr (fail v2 v1)
      · rw [y1] at b2'
        refine Or.inr (fail ?_ b2'.one)
        rw [y2]
        exact fr_plus_m2 _
  · rw [s1, s2, m_gives66sp s3]
    exact Or.inr ⟨A, B, rfl, rfl, s3, fun a j ha => s5 a j (by omega), fun a j ha => s6 a j (by omega)⟩
end
