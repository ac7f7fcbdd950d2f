/-! PARTING: all fixed parts. -/
section
variable {M N : em_M}
/-- the law as it stands on both sides -/
theorem bR.rule {t L p r : Int} (h : bR M N t L p) (r0 : 0 ≤ r) (r1 : r < M (M 0 11) 4) : RRule M (M 0 11) (M 439 17) r ∧ (∀ c j, 447 ≤ c → c ≤ 467 → N c j = M c j) ∧ (M 0 11 = 53 ∨ M 0 11 = 366) ∧ (M 439 17 = 0 ∨ M 439 17 = 1) ∧ M (M 0 11) 0 ≤ 20 ∧ M (M 0 11) 4 ≤ 30 ∧ N 439 17 = M 439 17 ∧ N 454 (M 439 17) = M (M 0 11) 4 := by
  obtain ⟨⟨⟨-, -, -, -, hW, -⟩, hst, -⟩, -⟩ := h
  obtain ⟨w1, w2, w3, ⟨⟨w4, w5, w6⟩, ⟨w7, w8, w9⟩, wk, wb, -, wr⟩⟩ := hW
  exact ⟨wr r r0 r1, fun c j z0 z1 => hst c j (by unfold sStat; omega), w1, w3, w6, w9, hst _ _ (by unfold sStat; omega), by rw [hst _ _ (by unfold sStat; omega)]; exact w7⟩
theorem bR.laws {t L p : Int} (h : bR M N t L p) : (∀ c j, 447 ≤ c → c ≤ 467 → N c j = M c j) ∧ (M 0 11 = 53 ∨ M 0 11 = 366) ∧ (M 439 17 = 0 ∨ M 439 17 = 1) ∧ M (M 0 11) 0 ≤ 20 ∧ (0 ≤ M (M 0 11) 4 ∧ M (M 0 11) 4 ≤ 30) ∧ N 439 17 = M 439 17 ∧ N 454 (M 439 17) = M (M 0 11) 4 := by
  obtain ⟨⟨⟨-, -, -, -, hW, -⟩, hst, -⟩, -⟩ := h
  obtain ⟨w1, w2, w3, ⟨⟨w4, w5, w6⟩, ⟨w7, w8, w9⟩, wk, wb, -, wr⟩⟩ := hW
  exact ⟨fun c j z0 z1 => hst c j (by unfold sStat; omega), w1, w3, w6, ⟨w8, w9⟩, hst _ _ (by unfold sStat; omega), by rw [hst _ _ (by unfold sStat; omega)]; exact w7⟩
theorem bR.head {t L p k : Int} (h : bR M N t L p) (k0 : 0 ≤ k) (k1 : k < M (M 0 11) 0) : M 128 k = N 491 k ∧ mk (N 491 k) (fun x => x < M 6 0 ∧ hd N t p (M 439 17) k x) := by
  obtain ⟨⟨⟨-, -, -, -, hW, -⟩, hst, -⟩, ⟨-, -, -, a5, a7, -⟩, -⟩ := h
  have := hW.2.2.2.1.2.2
  exact ⟨(a5.1 k k0 (by omega) (by omega)).1 k1, a7 k k0 k1⟩
theorem RRule.kin0 {w s r : Int} (h : RRule M w s r) : 1 ≤ M (w + 10) r ∧ 0 ≤ M (w + 12 + r) 0 ∧ M (w + 12 + r) 0 < M w 0 := by
  rcases h with ⟨-, -, h⟩ | ⟨-, -, h⟩ | ⟨-, -, h⟩ | ⟨-, -, h⟩
  · obtain ⟨a, ⟨-, b, c⟩, -⟩ := h
    exact ⟨by omega, b, c⟩
  · obtain ⟨a, ⟨-, b, c⟩, -⟩ := h
    exact ⟨by omega, b, c⟩
  · obtain ⟨⟨-, a, -⟩, k⟩ := h
    obtain ⟨⟨-, b, c⟩, -⟩ := k 0 (by omega) (by omega)
    exact ⟨a, b, c⟩
  · obtain ⟨⟨-, a, -⟩, k⟩ := h
    obtain ⟨⟨-, b, c⟩, -⟩ := k 0 (by omega) (by omega)
    exact ⟨a, b, c⟩
theorem qC.law {M' : em_M} (h : qC M M') (w : M 0 11 = 53 ∨ M 0 11 = 366) : M' 0 11 = M 0 11 ∧ M' 439 17 = M 439 17 ∧ ∀ c j, M 0 11 ≤ c → c ≤ M 0 11 + 72 → M' c j = M c j := ⟨h _ _ (by omega), h _ _ (by omega), fun c j z0 z1 => h c j (by omega)⟩
theorem fixed_both {t L p : Int} : ∀ (m : Nat) (r : Int) (M N : em_M), bR M N t L p → pR M N → N 439 44 = 0 → fr_is N (M 127 14) (N 439 86) (N 439 87) → 0 ≤ r → r ≤ M (M 0 11) 4 → M (M 0 11) 4 - r ≤ m →
    (∃ M' N', f_Parting_giveFixed_2 (M 0 11) r M = some (1, M') ∧ f_Model_parts_82 (M 127 12) (30 * M 439 17 + r) N = f_Model_parts_400 (M' 127 12) N' ∧ N' 439 44 = 0 ∧ pR M' N' ∧ fr_is N' (M' 127 14) (N' 439 86) (N' 439 87) ∧ qC M M' ∧ qM N N' ∧ xC M N M' N') ∨ (∃ g M' N', f_Parting_giveFixed_2 (M 0 11) r M = some (0, M') ∧ f_Model_parts_82 (M 127 12) (30 * M 439 17 + r) N = f_Model_parts_400 g N' ∧ N' 439 44 = 1 ∧ qC M M' ∧ qM N N') := by
  have fin : ∀ (r : Int) (M N : em_M), bR M N t L p → pR M N → N 439 44 = 0 → fr_is N (M 127 14) (N 439 86) (N 439 87) → r = M (M 0 11) 4 → (∃ M' N', f_Parting_giveFixed_2 (M 0 11) r M = some (1, M') ∧ f_Model_parts_82 (M 127 12) (30 * M 439 17 + r) N = f_Model_parts_400 (M' 127 12) N' ∧ N' 439 44 = 0 ∧ pR M' N' ∧ fr_is N' (M' 127 14) (N' 439 86) (N' 439 87) ∧ qC M M' ∧ qM N N' ∧ xC M N M' N') := fun r M N hb hp hs hsum hr => by
    obtain ⟨-, w1, w3, -, w9, n17, n454⟩ := hb.laws
    refine ⟨M, N, ?_, ?_, hs, hp, hsum, qC.rf M, qM.rf N, xC.rf M N⟩
    · rw [q_Parting_giveFixed_2, isO_law w1, cond_true, em_cd, if_pos (by omega)]
    · rw [q_Model_parts_82]
      simp only [em_cd, n17, n454]
      rw [if_pos (by omega), x32_s (x := 30 * M 439 17) (by omega) (by omega), x32_s (by omega) (by omega), if_pos (by omega)]
  intro m
  induction m with
  | zero =>
    intro r M N hb hp hs hsum r0 r1 hm
    exact Or.inl (fin r M N hb hp hs hsum (by omega))
  | succ m ih =>
    intro r M N hb hp hs hsum r0 r1 hm
    by_cases q : M (M 0 11) 4 ≤ r
    · exact Or.inl (fin r M N hb hp hs hsum (by omega))
    · obtain ⟨rr, nl, w1, w3, w6, w9, n17, n454⟩ := hb.rule r0 (by omega)
      obtain ⟨z1, z2, z3⟩ := rr.kin0
      obtain ⟨hd1, hd2⟩ := hb.head z2 z3
      have e := q_Parting_giveFixed_2 (M 0 11) r M
      rw [isO_law w1, f_kinIn w1 r0 (by omega) (by omega) (by omega)] at e
      simp only [em_cd, cond_true, Bool.and_true, Option.bind_some] at e
      rw [if_neg (by omega), if_neg (by omega), if_neg (by omega), f_headsOf z2 (by omega)] at e
      simp only [Option.bind_some, f_isKind w1 r0 (show r < 30 by omega), b2_z] at e
      rw [x32_s (by omega) (by omega)] at e
      have skip : f_Parting_giveFixed_2 (M 0 11) r M = f_Parting_giveFixed_2 (M 0 11) (r + 1) M → f_Model_parts_82 (M 127 12) (30 * M 439 17 + r) N = f_Model_parts_82 (M 127 12) (30 * M 439 17 + r + 1) N → (∃ M' N', f_Parting_giveFixed_2 (M 0 11) r M = some (1, M') ∧ f_Model_parts_82 (M 127 12) (30 * M 439 17 + r) N = f_Model_parts_400 (M' 127 12) N' ∧ N' 439 44 = 0 ∧ pR M' N' ∧ fr_is N' (M' 127 14) (N' 439 86) (N' 439 87) ∧ qC M M' ∧ qM N N' ∧ xC M N M' N') ∨ (∃ g M' N', f_Parting_giveFixed_2 (M 0 11) r M = some (0, M') ∧ f_Model_parts_82 (M 127 12) (30 * M 439 17 + r) N = f_Model_parts_400 g N' ∧ N' 439 44 = 1 ∧ qC M M' ∧ qM N N') := fun z1 z2 => by
        rw [z1, z2, show 30 * M 439 17 + r + 1 = 30 * M 439 17 + (r + 1) by omega]
        exact ih (r + 1) M N hb hp hs hsum (by omega) (by omega) (by omega)
      have e82 := m_82 (g := M 127 12) (q := 30 * M 439 17 + r) n17 w3 n454 (by omega) w9 (by omega) (by omega) hs (fun z => by
        rcases rr with ⟨k1, k2, kf⟩ | ⟨k1, -, -⟩ | ⟨k1, -, -⟩ | ⟨k1, -, -⟩
        · obtain ⟨-, -, -, -, ⟨f1, f2, f3⟩, ⟨f4, f5, f6⟩⟩ := kf
          rw [nl 461 _ (by omega) (by omega), nl 462 _ (by omega) (by omega)]
          omega
        · rw [nl 455 _ (by omega) (by omega)] at z
          omega
        · rw [nl 455 _ (by omega) (by omega)] at z
          omega
        · rw [nl 455 _ (by omega) (by omega)] at z
          omega)
      rw [nl 455 _ (by omega) (by omega), nl 461 _ (by omega) (by omega), nl 462 _ (by omega) (by omega)] at e82
      have other : ¬ M (M 0 11 + 5) r = 1 → ¬ M 455 (30 * M 439 17 + r) = 0 → (∃ M' N', f_Parting_giveFixed_2 (M 0 11) r M = some (1, M') ∧ f_Model_parts_82 (M 127 12) (30 * M 439 17 + r) N = f_Model_parts_400 (M' 127 12) N' ∧ N' 439 44 = 0 ∧ pR M' N' ∧ fr_is N' (M' 127 14) (N' 439 86) (N' 439 87) ∧ qC M M' ∧ qM N N' ∧ xC M N M' N') ∨ (∃ g M' N', f_Parting_giveFixed_2 (M 0 11) r M = some (0, M') ∧ f_Model_parts_82 (M 127 12) (30 * M 439 17 + r) N = f_Model_parts_400 g N' ∧ N' 439 44 = 1 ∧ qC M M' ∧ qM N N') := fun y1 y2 => by
        rw [if_pos y1] at e
        rw [if_neg (fun z => y2 z.1)] at e82
        exact skip e e82
      rcases rr with ⟨k1, k2, kf⟩ | ⟨k1, k2, -⟩ | ⟨k1, k2, -⟩ | ⟨k1, k2, -⟩
      · obtain ⟨f0, ⟨f1, f2, f3⟩, ⟨f4, f5, f6, f7, f8⟩, ⟨f9, f10⟩, ⟨f11, f12, f13⟩, ⟨f14, f15, f16⟩⟩ := kf
        clear other
        rw [if_neg (fun z => z k2), f_applies w1 r0 (by omega) f12 (by omega) f15 (by omega)] at e
        simp only [Option.bind_some, b2_z] at e
        have hap : ((M (M 0 11 + 8) r = -1 ∨ ¬ M 128 (M (M 0 11 + 8) r) = 0) ∧ (M (M 0 11 + 9) r = -1 ∨ M 128 (M (M 0 11 + 9) r) = 0)) ↔ ((M 461 (30 * M 439 17 + r) = -1 ∨ ¬ N 491 (M 461 (30 * M 439 17 + r)) = 0) ∧ (M 462 (30 * M 439 17 + r) = -1 ∨ N 491 (M 462 (30 * M 439 17 + r)) = 0)) := by
          rw [f11, f14]
          have q1 : ¬ M (M 0 11 + 8) r = -1 → M 128 (M (M 0 11 + 8) r) = N 491 (M (M 0 11 + 8) r) := fun z => (hb.head (by omega) f13).1
          have q2 : ¬ M (M 0 11 + 9) r = -1 → M 128 (M (M 0 11 + 9) r) = N 491 (M (M 0 11 + 9) r) := fun z => (hb.head (by omega) f16).1
          refine and_congr ?_ ?_
          · by_cases c : M (M 0 11 + 8) r = -1
            · exact ⟨fun _ => Or.inl c, fun _ => Or.inl c⟩
            · rw [q1 c]
          · by_cases c : M (M 0 11 + 9) r = -1
            · exact ⟨fun _ => Or.inl c, fun _ => Or.inl c⟩
            · rw [q2 c]
        by_cases ap : (M (M 0 11 + 8) r = -1 ∨ ¬ M 128 (M (M 0 11 + 8) r) = 0) ∧ (M (M 0 11 + 9) r = -1 ∨ M 128 (M (M 0 11 + 9) r) = 0)
        · rw [if_neg (fun z => z ap)] at e
          rw [if_pos ⟨k1, hap.mp ap⟩] at e82
          clear hap ap
          obtain ⟨-, ⟨-, -, -, -, -, ⟨hb1, hb2⟩, -⟩, -⟩ := id hb
          have h170 := q_Model_parts_170 (M 127 12) (30 * M 439 17 + r) N
          rw [em_cd, if_pos (by omega), em_cd, if_pos (by rw [nl 456 _ (by omega) (by omega)]; omega), nl 456 _ (by omega) (by omega), f1] at h170
          rw [hd1, hb1] at e
          have mT := (hd2.minus (w := N 439 78) (T := fun x => x < M 6 0 ∧ ¬ N 492 x = -1) (fun x x0 x1 => hb2.at_ x0 x1)).minus (w := M 127 12) (T := fun x => x < M 6 0 ∧ ¬ N 493 x = -1) (fun x x0 x1 => hp.2.2.1.at_ x0 x1)
          generalize hTT : x_and (x_and (N 491 (M (M 0 11 + 12 + r) 0)) (x_xor (N 439 78) (-1))) (x_xor (M 127 12) (-1)) = T at e h170 mT
          obtain ⟨-, ⟨k3, k4⟩, ⟨k5, k6⟩, -⟩ := lawR (M 0 11) w1
          have oW : fr_ok (M (M 0 11 + 6) r) := by rw [f4]; exact fr_of_small (by omega) (by omega) (by omega) (by omega)
          by_cases tz : T = 0
          · rw [if_pos tz] at e
            have hn := hb.1.1.1.2.2.1
            have n0 := hb.1.1.1.2.1
            have f47 : N 439 47 = M 6 0 := by rw [hb.1.2.1 _ _ (by unfold sStat; omega)]; exact hb.1.1.1.1
            have mc := m_count (v := T) (M := N) n0 hn
            rw [← cnt_n mT n0 hn (fun x z => z.1.1.1), (cnt_zero mT).mpr tz] at mc
            rw [f47, mc] at h170
            simp only [Option.bind_some, em_cd] at h170
            simp only [eq_self, not_true_eq_false, if_false] at h170
            rw [x32_s (by omega) (by omega)] at h170
            exact skip e (e82.trans h170)
          · rw [if_neg tz, k3, k4, decide_eq_true (show 0 ≤ r ∧ r < 30 by omega)] at e
            have kb : ((Nat.beq (em_kd (M 0 11 + 7)) 102 || Nat.beq (em_kd (M 0 11 + 7)) 103) && decide (0 ≤ r ∧ r < em_ln (M 0 11 + 7))) = true := by
              rw [k6, decide_eq_true (show 0 ≤ r ∧ r < 30 by omega)]
              rcases k5 with k5 | k5 <;> rw [k5] <;> rfl
            rw [kb] at e
            have e' : f_Parting_giveFixed_2 (M 0 11) r M = (f_Parting_give r T (M (M 0 11 + 6) r) (M (M 0 11 + 7) r) M).bind fun r4 => if ¬ r4.1 = 0 then f_Parting_giveFixed_2 (M 0 11) (r + 1) r4.2 else some (0, r4.2) := e
            have hTh : ∀ x, 0 ≤ x → x < 30 → tb T x = true → ∃ k, 0 ≤ k ∧ k < 20 ∧ tb (M 128 k) x = true := fun x x0 x1 x2 => ⟨M (M 0 11 + 12 + r) 0, z2, by omega, by
              rw [hd1]
              exact (hd2.at_ x0 x1).mpr ((mT.at_ x0 x1).mp x2).1.1⟩
            obtain ⟨v, M', N', g1, g2, g3, g4, gz, g5, g6⟩ := give_both (ea := M (M 0 11 + 7) r) hb hp hs hsum r0 (by omega) mT (fun x z => z.1.1.1) tz hTh oW (by rw [nl 458 _ (by omega) (by omega), nl 459 _ (by omega) (by omega)]; exact f4) (by rw [nl 458 _ (by omega) (by omega), nl 459 _ (by omega) (by omega)]; omega) (by rw [nl 460 _ (by omega) (by omega)]; exact f9.symm) h170
            rw [g1] at e'
            simp only [Option.bind_some] at e'
            obtain ⟨f11', f17', fww⟩ := g3.law w1
            have fw : M' (M 0 11) 4 = M (M 0 11) 4 := fww _ _ (by omega) (by omega)
            clear fww
            rcases g6 with ⟨v1, y1, y2, y3⟩ | ⟨v0, y1⟩
            · rw [v1, if_pos (by omega)] at e'
              rw [e', e82, g2, ← g5]
              have := ih (r + 1) M' N' (hb.fr g3 g4) y2 y1 y3 (by omega) (by rw [f11', fw]; omega) (by rw [f11', fw]; omega)
              rw [f11', f17'] at this
              rw [show 30 * M 439 17 + r + 1 = 30 * M 439 17 + (r + 1) by omega]
              rcases this with ⟨A, B, s1, s2, s3, s4, s5, s6, s7, s8⟩ | ⟨g, A, B, s1, s2, s3, s6, s7⟩
              · exact Or.inl ⟨A, B, s1, s2, s3, s4, s5, g3.tr s6, g4.tr s7, gz.tr g3 s8⟩
              · exact Or.inr ⟨g, A, B, s1, s2, s3, g3.tr s6, g4.tr s7⟩
            · rw [v0, if_neg (by omega)] at e'
              right
              refine ⟨x_or (M 127 12) T, M', N', e', ?_, y1, g3, g4⟩
              rw [e82, g2, q_Model_parts_82]
              have n17' : N' 439 17 = M 439 17 := by rw [g4 _ _ (by omega)]; exact n17
              have n454' : N' 454 (M 439 17) = M (M 0 11) 4 := by rw [g4 _ _ (by omega)]; exact n454
              simp only [em_cd, n17', n454']
              rw [if_pos (by omega)]
              by_cases c : x32 (x32 (30 * M 439 17) + M (M 0 11) 4) ≤ 30 * M 439 17 + r + 1
              · rw [if_pos c]
              · rw [if_neg c, if_pos (by omega)]
        · rw [if_pos ap] at e
          rw [if_neg (fun z => ap (hap.mpr z.2))] at e82
          exact skip e e82
      · exact other (by omega) (by omega)
      · exact other (by omega) (by omega)
      · exact other (by omega) (by omega)
end
