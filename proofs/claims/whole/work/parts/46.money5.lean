/-! MONEY: legacies, the two side by side. -/
theorem fr_of_small {a b : Int} (ha : 0 ≤ a) (ha2 : a ≤ 1000000) (hb : 1 ≤ b) (hb2 : b ≤ 1000000) : fr_ok (fr_of a b) := by
  refine (fr_of_range a b).resolve_left (fun h => ?_)
  unfold fr_of at h
  have hg0 : 0 < Int.gcd a b := Int.gcd_pos_of_ne_zero_right a (by omega)
  have h1 : a / (Int.gcd a b : Int) ≤ a := Int.ediv_le_self _ ha
  have h2 : b / (Int.gcd a b : Int) ≤ b := Int.ediv_le_self _ (by omega)
  have h3 : 0 ≤ a / (Int.gcd a b : Int) := Int.ediv_nonneg ha (by omega)
  have h4 : 0 ≤ b / (Int.gcd a b : Int) := Int.ediv_nonneg (by omega) (by omega)
  rw [if_neg (by omega), if_neg (by omega), if_neg (by omega)] at h
  omega
/-- a fraction told as a part is 1 at most -/
theorem fr_of_le1 {a b : Int} (ha : 0 ≤ a) (hab : a ≤ b) (hb : 1 ≤ b) (hb2 : b ≤ 1000000) : fr_up (fr_of a b) ≤ fr_low (fr_of a b) := by
  have ok := fr_of_small ha (by omega) hb hb2
  have hc := fr_of_cross ha (by omega) rfl ok.1
  have h3 := ok.2.2.1
  have h2 : a * fr_low (fr_of a b) ≤ b * fr_low (fr_of a b) := Int.mul_le_mul_of_nonneg_right hab (by omega)
  rw [← hc, Int.mul_comm b] at h2
  exact Int.le_of_mul_le_mul_right h2 (by omega)
theorem fr_plus_m1 (y : Int) : fr_plus (-1) y = -1 := if_pos (Or.inl (by omega))
theorem fr_plus_m2 (x : Int) : fr_plus x (-1) = -1 := if_pos (Or.inr (by omega))
theorem fr_times_m1 (y : Int) : fr_times (-1) y = -1 := if_pos (Or.inl (by omega))
theorem fr_times_m2 (x : Int) : fr_times x (-1) = -1 := if_pos (Or.inr (by omega))
section
variable {M N : em_M}
theorem f_isLeft {i p L : Int} (hL : RL M) (hn : M 6 0 ≤ 30) (i0 : 0 ≤ i) (i1 : i < M 21 0) : f_Settlement_isLeft i p L M = some (b2 (M 22 i = p ∧ tb L (M 23 i) = true), M) := by
  obtain ⟨l1, l2, l3, l4⟩ := hL
  obtain ⟨-, ⟨-, b1, b2', -⟩, -⟩ := l4 i i0 i1
  rw [q_Settlement_isLeft]
  simp only [em_cd, f_holds, Option.bind_some, b2_z]
  rw [if_neg (by omega), if_neg (by omega), if_neg (by omega), if_pos (by omega)]
  by_cases c1 : M 22 i = p
  · rw [if_neg (fun z => z c1), if_pos (by omega)]
    by_cases c2 : tb L (M 23 i) = true
    · rw [if_neg (fun z => z ⟨b1, by omega, c2⟩), b2_t ⟨c1, c2⟩]
    · rw [if_pos (fun z => c2 z.2.2), b2_f (fun z => c2 z.2)]
  · rw [if_pos c1, b2_f (fun z => c1 z.1)]
theorem f_leg6_sp {bd p L E : Int} (hL : RL M) (hn : M 6 0 ≤ 30) : ∀ (k : Nat) (i : Int), 0 ≤ i → M 21 0 - i ≤ k → f_Settlement_payLegacies_6 bd p L E (-1) i M = f_Settlement_payLegacies_65 bd p L E (-1) M := by
  intro k
  induction k with
  | zero =>
    intro i i0 hk
    rw [q_Settlement_payLegacies_6, em_cd, if_pos (by omega)]
  | succ k ih =>
    intro i i0 hk
    by_cases q : M 21 0 ≤ i
    · rw [q_Settlement_payLegacies_6, em_cd, if_pos q]
    · have h60 := hL.2.2.1
      have ok := (hL.2.2.2 i i0 (by omega)).2.2
      have o24 : fr_v (M 24 i) := by rw [ok.1]; exact fr_of_range _ _
      rw [q_Settlement_payLegacies_6, f_isLeft hL hn i0 (by omega)]
      simp only [em_cd, Option.bind_some, b2_z, f_plus_eq M (Or.inl rfl) o24, fr_plus_m1]
      rw [if_neg q, if_neg (by omega), x32_s (by omega) (by omega), ih (i + 1) (by omega) (by omega)]
      by_cases c : M 22 i = p ∧ tb L (M 23 i) = true
      · rw [if_neg (fun z => z c), if_pos (by omega)]
      · rw [if_pos c]
theorem wills7 {t L E p bd : Int} (hS : sRel M N t L) (hp : N 439 74 = p) (hd : N 439 75 = t) : ∀ (k : Nat) (i all a b : Int) (N1 : em_M), (∀ c j, ¬ (c = 439 ∧ 44 ≤ j ∧ j ≤ 46) → N1 c j = N c j) → fr_is N all a b → N1 439 44 = 0 → 0 ≤ i → M 21 0 - i ≤ k → ∃ all' a' b' N', f_Settlement_payLegacies_6 bd p L E all i M = f_Settlement_payLegacies_65 bd p L E all' M ∧ f_Model_wills_7 a b i N1 = f_Model_wills_108 a' b' N' ∧ (∀ c j, ¬ (c = 439 ∧ 44 ≤ j ∧ j ≤ 46) → N' c j = N c j) ∧ (∃ x, fr_is N x a' b') ∧ ((N' 439 44 = 0 ∧ fr_is N all' a' b') ∨ (N' 439 44 = 1 ∧ all' = -1)) := by
  obtain ⟨⟨hP, hM, hO, hL, hW, hK⟩, hst, hl, ht⟩ := id hS
  obtain ⟨l1, l2, l3, l4⟩ := id hL
  have hn := hP.2.2.1
  have e65 : N 439 65 = M 21 0 := by rw [hst _ _ (by unfold sStat; omega)]; exact l1
  intro k
  induction k with
  | zero =>
    intro i all a b N1 hf ha hs i0 hk
    refine ⟨all, a, b, N1, ?_, ?_, hf, ⟨all, ha⟩, Or.inl ⟨hs, ha⟩⟩
    · rw [q_Settlement_payLegacies_6, em_cd, if_pos (by omega)]
    · rw [q_Model_wills_7, em_cd, if_pos (by rw [hf _ _ (by omega)]; omega)]
  | succ k ih =>
    intro i all a b N1 hf ha hs i0 hk
    by_cases q : M 21 0 ≤ i
    · refine ⟨all, a, b, N1, ?_, ?_, hf, ⟨all, ha⟩, Or.inl ⟨hs, ha⟩⟩
      · rw [q_Settlement_payLegacies_6, em_cd, if_pos q]
      · rw [q_Model_wills_7, em_cd, if_pos (by rw [hf _ _ (by omega)]; omega)]
    · obtain ⟨⟨a1, a2, a3⟩, ⟨b1, b2', b3, b4⟩, ⟨c1, c2, c3, c4⟩⟩ := l4 i i0 (by omega)
      have o24 : fr_ok (M 24 i) := by rw [c1]; exact fr_of_small (by omega) (by omega) (by omega) (by omega)
      have eC := q_Settlement_payLegacies_6 bd p L E all i M
      rw [f_isLeft hL hn i0 (by omega)] at eC
      simp only [em_cd, Option.bind_some, b2_z, f_plus_eq M (Or.inr ha.1) (Or.inr o24)] at eC
      rw [if_neg q, if_neg (by omega), x32_s (by omega) (by omega)] at eC
      have n483 : N1 483 i = M 22 i := by rw [hf _ _ (by omega), hst _ _ (by unfold sStat; omega)]; exact a1
      have n484 : N1 484 i = M 23 i := by rw [hf _ _ (by omega), hst _ _ (by unfold sStat; omega)]; exact b1
      have n485 : N1 485 i = M 485 i := by rw [hf _ _ (by omega), hst _ _ (by unfold sStat; omega)]
      have n486 : N1 486 i = M 486 i := by rw [hf _ _ (by omega), hst _ _ (by unfold sStat; omega)]
      have n74 : N1 439 74 = p := by rw [hf _ _ (by omega)]; exact hp
      have n75 : N1 439 75 = t := by rw [hf _ _ (by omega)]; exact hd
      have n65 : N1 439 65 = M 21 0 := by rw [hf _ _ (by omega)]; exact e65
      have eM := q_Model_wills_7 a b i N1
      rw [n483, n484, n74, n75, n65] at eM
      simp only [em_cd] at eM
      rw [if_neg q, if_neg (by omega), if_pos (by omega), x32_s (by omega) (by omega)] at eM
      by_cases f1 : M 22 i = p
      · rw [if_neg (fun z => z f1), if_pos (by omega)] at eM
        have hlv : lvs N1 t (M 23 i) ↔ lvs N t (M 23 i) := by
          unfold lvs
          rw [hf 471 _ (by omega), hf 472 _ (by omega)]
        rcases m_lives (N := N1) (x := M 23 i) (t := t) (by omega) (by omega) with ⟨x1, x2⟩ | ⟨x1, x2⟩
        · have hb : tb L (M 23 i) = true := (hl.at_ (by omega) (by omega)).mpr ⟨b3, hlv.mp x1⟩
          rw [if_neg (fun z => z ⟨f1, hb⟩), if_pos (by omega)] at eC
          rw [x2] at eM
          simp only [Option.bind_some, n485, n486] at eM
          obtain ⟨u1, A, g1, ⟨g2, g3, g4⟩⟩ := m_lowest' (N := N1) (Or.inl hs) (a := M 485 i) (b := M 486 i) (by omega) (by omega) (by omega) (by omega)
          have gz : A 439 44 = 0 ∧ u1 = M 24 i := by
            rw [← c1] at g2
            rcases g2.zero hs with ⟨y1, y2, y3⟩ | ⟨y1, y2⟩
            · exact ⟨y1, y2⟩
            · have := o24.1
              omega
          rw [gz.2] at g3
          have fA : ∀ c j, ¬ (c = 439 ∧ 44 ≤ j ∧ j ≤ 46) → A c j = N c j := fun c j hc => by rw [g4 c j hc, hf c j hc]
          obtain ⟨u2, B, h1, ⟨h2, h3, h4⟩⟩ := m_plus' (N := A) (x := all) (y := M 24 i) (Or.inl gz.1) ha.1 o24 ha.2.1 ha.2.2 g3.1 g3.2
          rw [if_pos (by omega), if_pos (by omega), if_pos (by omega), g1] at eM
          simp only [Option.bind_some, h1] at eM
          rw [h3.1, h3.2] at eM
          have fB : ∀ c j, ¬ (c = 439 ∧ 44 ≤ j ∧ j ≤ 46) → B c j = N c j := fun c j hc => by rw [h4 c j hc, fA c j hc]
          rw [eC, eM]
          rcases h2.zero gz.1 with ⟨y1, y2, y3⟩ | ⟨y1, y2⟩
          · exact ih (i + 1) _ _ _ B fB ⟨y3, by rw [y2], by rw [y2]⟩ y1 (by omega) (by omega)
          · rw [y2]
            refine ⟨-1, fr_up u2, fr_low u2, B, f_leg6_sp hL hn k (i + 1) (by omega) (by omega), ?_, fB, ⟨u2, h2.1, rfl, rfl⟩, Or.inr ⟨y1, rfl⟩⟩
            rw [q_Model_wills_7]
            simp only [em_cd]
            by_cases w : B 439 65 ≤ i + 1
            · rw [if_pos w]
            · rw [if_neg w, if_pos (by omega)]
        · have hb : ¬ (M 22 i = p ∧ tb L (M 23 i) = true) := fun z => x1 (hlv.mpr ((hl.at_ (by omega) (by omega)).mp z.2).2)
          rw [if_pos hb] at eC
          rw [x2] at eM
          simp only [Option.bind_some, eq_self, not_true_eq_false, if_false] at eM
          rw [eC, eM]
          exact ih (i + 1) all a b N1 hf ha hs (by omega) (by omega)
      · rw [if_pos f1] at eM
        rw [if_pos (fun z => f1 z.1)] at eC
        rw [eC, eM]
        exact ih (i + 1) all a b N1 hf ha hs (by omega) (by omega)
theorem f_payLegacy {E q F : Int} (hE : isE E) (q0 : 0 ≤ q) (q1 : q < 30) (hD : fr_v (M (E + 2) q)) (hQ : fr_v (M 135 q)) (hF : fr_v F) : f_Settlement_payLegacy q F E M = if fr_plus (M (E + 2) q) F < 0 then some (0, xup M (E + 2) q (fr_plus (M (E + 2) q) F)) else some (b2 (¬ fr_plus (M 135 q) F < 0), xup (xup M (E + 2) q (fr_plus (M (E + 2) q) F)) 135 q (fr_plus (M 135 q) F)) := by
  have hn := hE.ne
  have e135 : xup M (E + 2) q (fr_plus (M (E + 2) q) F) 135 q = M 135 q := xup_ne (by omega)
  have ha := f_addTo (M := xup M (E + 2) q (fr_plus (M (E + 2) q) F)) q0 q1 (by rw [e135]; exact hQ) hF
  rw [e135] at ha
  rw [q_Settlement_payLegacy, hE.k.1, eIn hE (by omega) q0 q1, f_plus_eq M hD hF]
  simp only [em_cd, cond_true, Option.bind_some, xup_eq, f_isSpent, nnz, ha, b2_z, nn]
  rw [if_neg (by omega), if_pos (by omega)]
  by_cases h : fr_plus (M (E + 2) q) F < 0
  · rw [if_pos h, if_pos h]
  · rw [if_neg h, if_neg h]
    by_cases h2 : fr_plus (M 135 q) F < 0
    · rw [if_pos h2, b2_f (fun z => z h2)]
    · rw [if_neg h2, b2_t h2]
theorem m_173_sp {a b c d v i : Int} (h : N 439 44 = 1) : f_Model_wills_173 a b c d v i N = if v = 0 then f_Model_wills_387 a b N else f_Model_wills_387 c d N := by
  rw [q_Model_wills_173]
  simp only [em_cd]
  by_cases q : N 439 65 ≤ i
  · rw [if_pos q]
  · rw [if_neg q, if_pos (by omega)]
/-- one legacy of the reference, its part in up, low -/
theorem m_279 {a b c d v i q G x Q D : Int} (hs : mSp N) (i0 : 0 ≤ i) (i1 : i < 60) (hq : N 484 i = q) (q0 : 0 ≤ q) (q1 : q < 30) (hG : fr_is N G (N 439 100) (N 439 101)) (hx : fr_is N x (N 439 45) (N 439 46)) (hQ : fr_is N Q (N 474 q) (N 475 q)) (hD : fr_is N D (N 501 q) (N 502 q)) : ∃ u1 u2 u3 s1 s2 N', f_Model_wills_279 a b c d v i N = f_Model_wills_173 a b c d v (i + 1) N' ∧ mSt (N 439 44) s1 (fr_times G x) u1 ∧ mSt s1 s2 (fr_plus Q u1) u2 ∧ mSt s2 (N' 439 44) (fr_plus D u1) u3 ∧ (N' 474 q = fr_up u2 ∧ N' 475 q = fr_low u2) ∧ (N' 501 q = fr_up u3 ∧ N' 502 q = fr_low u3) ∧ ∀ c j, ¬ ((c = 439 ∧ 44 ≤ j ∧ j ≤ 46) ∨ ((c = 474 ∨ c = 475 ∨ c = 501 ∨ c = 502) ∧ j = q)) → N' c j = N c j := by
  obtain ⟨u1, A, a1, a2, a3, a4⟩ := m_times' hs hG.1 hx.1 hG.2.1 hG.2.2 hx.2.1 hx.2.2
  obtain ⟨u2, B, b1, b2', b3, b4, b5⟩ := m_earns (N := A) (q := q) (Q := Q) (F := u1) a2.sp q0 q1 (by rw [a4 _ _ (by omega), a4 _ _ (by omega)]; exact hQ) ⟨a2.1, a3.1, a3.2⟩
  obtain ⟨u3, C, c1, c2, c3, c4⟩ := m_plus' (N := B) (x := D) (y := u1) b2'.sp hD.1 a2.1 ((b5 501 q (by omega)).trans ((a4 501 q (by omega)).trans hD.2.1)) ((b5 502 q (by omega)).trans ((a4 502 q (by omega)).trans hD.2.2)) a3.1 a3.2
  have aq : A 484 i = q := by rw [a4 _ _ (by omega)]; exact hq
  refine ⟨u1, u2, u3, A 439 44, B 439 44, xup (xup C 501 q (C 439 45)) 502 q (C 439 46), ?_, a2, b2', ?_, ?_, ?_, fun c j hc => ?_⟩
  · rw [q_Model_wills_279, a1]
    simp only [Option.bind_some, aq, b1, c1]
    simp (disch := omega) only [em_cd, if_pos, x32_s, xup_ne]
  · simp (disch := omega) only [xup_ne]
    exact c2
  · rw [xup_ne (by omega), xup_ne (by omega), xup_ne (by omega), xup_ne (by omega), c4 _ _ (by omega), c4 _ _ (by omega)]
    exact b4
  · rw [xup_ne (by omega), xup_eq, xup_eq]
    exact c3
  · rw [xup_ne (by omega), xup_ne (by omega), c4 c j (by omega), b5 c j (by omega), a4 c j (by omega)]
end
