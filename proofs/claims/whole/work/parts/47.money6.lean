/-! MONEY: legacies, the whole of it. -/
section
variable {M N : em_M}
theorem f_158 {bd p L E all G tm i s q : Int} (hE : isE E) (i0 : 0 ≤ i) (i1 : i < 60) (hq : M 23 i = q) (q0 : 0 ≤ q) (q1 : q < 30) (hG : fr_v G) (hs : fr_v s) (hD : fr_v (M (E + 2) q)) (hQ : fr_v (M 135 q)) : f_Settlement_payLegacies_158 bd p L E all G tm i s M = if fr_plus (M (E + 2) q) (fr_times G s) < 0 then some (0, xup M (E + 2) q (fr_plus (M (E + 2) q) (fr_times G s))) else if fr_plus (M 135 q) (fr_times G s) < 0 then some (0, xup (xup M (E + 2) q (fr_plus (M (E + 2) q) (fr_times G s))) 135 q (fr_plus (M 135 q) (fr_times G s))) else f_Settlement_payLegacies_94 bd p L E all G tm (i + 1) (xup (xup M (E + 2) q (fr_plus (M (E + 2) q) (fr_times G s))) 135 q (fr_plus (M 135 q) (fr_times G s))) := by
  rw [q_Settlement_payLegacies_158, em_cd, if_pos (by omega), f_times_eq M hG hs, hq]
  simp only [Option.bind_some]
  rw [f_payLegacy hE q0 q1 hD hQ (fr_v_times _ _)]
  by_cases h : fr_plus (M (E + 2) q) (fr_times G s) < 0
  · rw [if_pos h, if_pos h]
    simp only [Option.bind_some, em_cd, eq_self, not_true_eq_false, if_false]
  · rw [if_neg h, if_neg h]
    simp only [Option.bind_some, em_cd, b2_z, nn]
    rw [x32_s (by omega) (by omega)]
    by_cases h2 : fr_plus (M 135 q) (fr_times G s) < 0
    · rw [if_neg (fun z => z h2), if_pos h2]
    · rw [if_pos h2, if_neg h2]
/-- the part of a legacy, lessened if there is too much -/
def lesG (own all bd tm : Int) : Int := if tm = 0 then own else fr_times (fr_over own all) bd
theorem fr_v_les {own all bd tm : Int} (h : fr_ok own) : fr_v (lesG own all bd tm) := by
  unfold lesG
  split
  · exact Or.inr h
  · exact fr_v_times _ _
def fC2 (E : Int) (M M' : em_M) : Prop := ∀ c j, ¬ (c = 135 ∨ c = E + 2) → M' c j = M c j
def fM2 (N N' : em_M) : Prop := ∀ c j, ¬ ((c = 439 ∧ 44 ≤ j ∧ j ≤ 46) ∨ c = 474 ∨ c = 475 ∨ c = 501 ∨ c = 502) → N' c j = N c j
theorem legs_both {t L E p bd all G tm a b c d : Int} (hE : isE E) (hG : fr_ok G) (hall : fr_is N all a b) (hbd : fr_is N bd c d) (htm : tm = 0 ∨ (tm = 1 ∧ 0 < fr_up all)) : ∀ (k : Nat) (i : Int) (M N : em_M), sRel M N t L → dRel M N E p t → fr_is N G (N 439 100) (N 439 101) → N 439 44 = 0 → 0 ≤ i → M 21 0 - i ≤ k →
    (∃ M' N', f_Settlement_payLegacies_94 bd p L E all G tm i M = f_Settlement_payLegacies_209 E G E G (if tm = 0 then all else bd) M' ∧ f_Model_wills_173 a b c d tm i N = (if tm = 0 then f_Model_wills_387 a b N' else f_Model_wills_387 c d N') ∧ N' 439 44 = 0 ∧ dRel M' N' E p t ∧ fC2 E M M' ∧ fM2 N N') ∨ (∃ M' N', f_Settlement_payLegacies_94 bd p L E all G tm i M = some (0, M') ∧ f_Model_wills_173 a b c d tm i N = (if tm = 0 then f_Model_wills_387 a b N' else f_Model_wills_387 c d N') ∧ N' 439 44 = 1 ∧ fC2 E M M' ∧ fM2 N N') := by
  have endC : ∀ (i : Int) (M : em_M), M 21 0 ≤ i → f_Settlement_payLegacies_94 bd p L E all G tm i M = f_Settlement_payLegacies_209 E G E G (if tm = 0 then all else bd) M := fun i M h => by
    rw [q_Settlement_payLegacies_94]
    simp only [em_cd]
    rw [if_pos h]
    by_cases z : tm = 0
    · rw [if_pos z, if_pos z]
    · rw [if_neg z, if_neg z]
  have endM : ∀ (i : Int) (N : em_M), N 439 65 ≤ i → f_Model_wills_173 a b c d tm i N = (if tm = 0 then f_Model_wills_387 a b N else f_Model_wills_387 c d N) := fun i N h => by
    rw [q_Model_wills_173]
    simp only [em_cd]
    rw [if_pos h]
  have hne := hE.ne
  intro k
  induction k with
  | zero =>
    intro i M N hS hd hGN hs i0 hk
    have e65 : N 439 65 = M 21 0 := by rw [hS.2.1 _ _ (by unfold sStat; omega)]; exact hS.1.2.2.2.1.1
    exact Or.inl ⟨M, N, endC i M (by omega), endM i N (by omega), hs, hd, fun _ _ _ => rfl, fun _ _ _ => rfl⟩
  | succ k ih =>
    intro i M N hS hd hGN hs i0 hk
    obtain ⟨⟨hP, hM, hO, hL, hW, hK⟩, hst, hl, ht⟩ := id hS
    obtain ⟨l1, l2, l3, l4⟩ := id hL
    have hn := hP.2.2.1
    have e65 : N 439 65 = M 21 0 := by rw [hst _ _ (by unfold sStat; omega)]; exact l1
    by_cases q : M 21 0 ≤ i
    · exact Or.inl ⟨M, N, endC i M q, endM i N (by omega), hs, hd, fun _ _ _ => rfl, fun _ _ _ => rfl⟩
    · obtain ⟨⟨a1, a2, a3⟩, ⟨b1, b2', b3, b4⟩, ⟨c1, c2, c3, c4⟩⟩ := l4 i i0 (by omega)
      obtain ⟨d1, ⟨d2, d3⟩, d4, d5, d6⟩ := id hd
      have o24 : fr_ok (M 24 i) := by rw [c1]; exact fr_of_small (by omega) (by omega) (by omega) (by omega)
      have eC := q_Settlement_payLegacies_94 bd p L E all G tm i M
      rw [f_isLeft hL hn i0 (by omega)] at eC
      simp only [em_cd, Option.bind_some, b2_z, f_over_eq M (Or.inr o24) (Or.inr hall.1), f_times_eq M (fr_v_over _ _) (Or.inr hbd.1)] at eC
      rw [if_neg q, if_neg (by omega), x32_s (by omega) (by omega)] at eC
      have n483 : N 483 i = M 22 i := by rw [hst _ _ (by unfold sStat; omega)]; exact a1
      have n484 : N 484 i = M 23 i := by rw [hst _ _ (by unfold sStat; omega)]; exact b1
      have n485 : N 485 i = M 485 i := hst _ _ (by unfold sStat; omega)
      have n486 : N 486 i = M 486 i := hst _ _ (by unfold sStat; omega)
      have eM := q_Model_wills_173 a b c d tm i N
      rw [n483, n484, d5, d6, e65] at eM
      simp only [em_cd] at eM
      rw [if_neg q, if_neg (by omega), if_pos (by omega), x32_s (by omega) (by omega)] at eM
      by_cases f1 : M 22 i = p
      · rw [if_neg (fun z => z f1), if_pos (by omega)] at eM
        rcases m_lives (N := N) (x := M 23 i) (t := t) (by omega) (by omega) with ⟨x1, x2⟩ | ⟨x1, x2⟩
        · have hb : tb L (M 23 i) = true := (hl.at_ (by omega) (by omega)).mpr ⟨b3, x1⟩
          rw [if_neg (fun z => z ⟨f1, hb⟩), if_pos (by omega)] at eC
          have eC2 : f_Settlement_payLegacies_94 bd p L E all G tm i M = f_Settlement_payLegacies_158 bd p L E all G tm i (lesG (M 24 i) all bd tm) M := by
            rw [eC]
            unfold lesG
            by_cases z : tm = 0
            · rw [if_pos z, if_pos z]
            · rw [if_neg z, if_neg z]
          rw [x2] at eM
          simp only [Option.bind_some, n485, n486] at eM
          rw [if_pos (by omega), if_pos (by omega), if_pos (by omega)] at eM
          -- the part in up, low
          have part : ∃ x N2, f_Model_wills_173 a b c d tm i N = f_Model_wills_279 a b c d tm i N2 ∧ mSt 0 (N2 439 44) (lesG (M 24 i) all bd tm) x ∧ (N2 439 45 = fr_up x ∧ N2 439 46 = fr_low x) ∧ ∀ c j, ¬ (c = 439 ∧ 44 ≤ j ∧ j ≤ 46) → N2 c j = N c j := by
            obtain ⟨u1, A, g1, ⟨g2, g3, g4⟩⟩ := m_lowest' (N := N) (Or.inl hs) (a := M 485 i) (b := M 486 i) (by omega) (by omega) (by omega) (by omega)
            have gz : A 439 44 = 0 ∧ u1 = M 24 i := by
              rw [← c1] at g2
              rcases g2.zero hs with ⟨y1, y2, y3⟩ | ⟨y1, y2⟩
              · exact ⟨y1, y2⟩
              · have := o24.1
                omega
            rw [gz.2] at g3
            rw [g1] at eM
            simp only [Option.bind_some] at eM
            unfold lesG
            rcases htm with htm | ⟨htm, hpos⟩
            · rw [if_pos htm] at eM
              rw [if_pos htm]
              exact ⟨M 24 i, A, eM, ⟨o24, Or.inl ⟨gz.1, rfl, rfl⟩⟩, g3, g4⟩
            · rw [if_neg (by omega)] at eM
              rw [if_neg (by omega)]
              obtain ⟨u2, B, h1, ⟨h2, h3, h4⟩⟩ := m_over' (N := A) (Or.inl gz.1) o24 hall.1 hpos g3.1 g3.2 hall.2.1 hall.2.2
              obtain ⟨u3, C, k1, ⟨k2, k3, k4⟩⟩ := m_times' (N := B) h2.sp h2.1 hbd.1 h3.1 h3.2 hbd.2.1 hbd.2.2
              rw [h1] at eM
              simp only [Option.bind_some, k1] at eM
              refine ⟨u3, C, eM, ?_, k3, fun c j hc => by rw [k4 c j hc, h4 c j hc, g4 c j hc]⟩
              rcases h2.zero gz.1 with ⟨y1, y2, y3⟩ | ⟨y1, y2⟩
              · rw [y1, y2] at k2
                exact k2
              · rw [y2, fr_times_m1]
                rw [y1] at k2
                exact ⟨k2.1, Or.inr ⟨k2.one, Or.inr rfl⟩⟩
          obtain ⟨x, N2, r1, r2, r3, r4⟩ := part
          obtain ⟨hQ, -, hD⟩ := d1 (M 23 i) b2' b3
          obtain ⟨u1, u2, u3, s1, s2, N3, w1, w2, w3, w4, w5, w6, w7⟩ := m_279 (N := N2) (a := a) (b := b) (c := c) (d := d) (v := tm) (G := G) (x := x) (Q := M 135 (M 23 i)) (D := M (E + 2) (M 23 i)) r2.sp i0 (by omega) (by rw [r4 _ _ (by omega)]; exact n484) b2' (by omega) (by rw [r4 _ _ (by omega), r4 _ _ (by omega)]; exact hGN) ⟨r2.1, r3.1, r3.2⟩ (by rw [r4 _ _ (by omega), r4 _ _ (by omega)]; exact hQ) (by rw [r4 _ _ (by omega), r4 _ _ (by omega)]; exact hD)
          have fN : fM2 N N3 := fun c j hc => by rw [w7 c j (by omega), r4 c j (by omega)]
          have eC3 := f_158 (bd := bd) (p := p) (L := L) (all := all) (tm := tm) hE i0 (by omega) rfl b2' (by omega) (Or.inr hG) (fr_v_les (all := all) (bd := bd) (tm := tm) o24) (Or.inr hD.1) (Or.inr hQ.1)
          rw [eC2, eC3, r1, w1]
          have fail : (fr_plus (M (E + 2) (M 23 i)) (fr_times G (lesG (M 24 i) all bd tm)) = -1 ∨ fr_plus (M 135 (M 23 i)) (fr_times G (lesG (M 24 i) all bd tm)) = -1) → N3 439 44 = 1 → (∃ M' N', (if fr_plus (M (E + 2) (M 23 i)) (fr_times G (lesG (M 24 i) all bd tm)) < 0 then some ((0 : Int), xup M (E + 2) (M 23 i) (fr_plus (M (E + 2) (M 23 i)) (fr_times G (lesG (M 24 i) all bd tm)))) else if fr_plus (M 135 (M 23 i)) (fr_times G (lesG (M 24 i) all bd tm)) < 0 then some (0, xup (xup M (E + 2) (M 23 i) (fr_plus (M (E + 2) (M 23 i)) (fr_times G (lesG (M 24 i) all bd tm)))) 135 (M 23 i) (fr_plus (M 135 (M 23 i)) (fr_times G (lesG (M 24 i) all bd tm)))) else f_Settlement_payLegacies_94 bd p L E all G tm (i + 1) (xup (xup M (E + 2) (M 23 i) (fr_plus (M (E + 2) (M 23 i)) (fr_times G (lesG (M 24 i) all bd tm)))) 135 (M 23 i) (fr_plus (M 135 (M 23 i)) (fr_times G (lesG (M 24 i) all bd tm))))) = some (0, M') ∧ f_Model_wills_173 a b c d tm (i + 1) N3 = (if tm = 0 then f_Model_wills_387 a b N' else f_Model_wills_387 c d N') ∧ N' 439 44 = 1 ∧ fC2 E M M' ∧ fM2 N N') := fun z1 z2 => by
            by_cases y : fr_plus (M (E + 2) (M 23 i)) (fr_times G (lesG (M 24 i) all bd tm)) < 0
            · rw [if_pos y]
              exact ⟨_, N3, rfl, m_173_sp z2, z2, fun c j hc => xup_ne (by omega), fN⟩
            · rw [if_neg y, if_pos (by omega)]
              exact ⟨_, N3, rfl, m_173_sp z2, z2, fun c j hc => by rw [xup_ne (by omega), xup_ne (by omega)], fN⟩
          rcases r2.zero rfl with ⟨y1, y2, y3⟩ | ⟨y1, y2⟩
          · rcases w2.zero y1 with ⟨v1, v2, v3⟩ | ⟨v1, v2⟩
            · rw [y2] at v2 v3
              rcases w3.zero v1 with ⟨t1, t2, t3⟩ | ⟨t1, t2⟩
              · rw [v2] at t2 t3
                rcases w4.zero t1 with ⟨z1, z2, z3⟩ | ⟨z1, z2⟩
                · rw [v2] at z2 z3
                  have z3' := z3.1
                  have t3' := t3.1
                  rw [if_neg (by omega), if_neg (by omega)]
                  generalize hX : xup (xup M (E + 2) (M 23 i) (fr_plus (M (E + 2) (M 23 i)) (fr_times G (lesG (M 24 i) all bd tm)))) 135 (M 23 i) (fr_plus (M 135 (M 23 i)) (fr_times G (lesG (M 24 i) all bd tm))) = X
                  have fX : ∀ c j, ¬ ((c = 135 ∨ c = E + 2) ∧ j = M 23 i) → X c j = M c j := fun c j hc => by rw [← hX, xup_ne (by omega), xup_ne (by omega)]
                  have vX : X 135 (M 23 i) = u2 ∧ X (E + 2) (M 23 i) = u3 := by
                    rw [← hX, xup_eq, xup_ne (by omega), xup_eq, t2, z2]
                    exact ⟨rfl, rfl⟩
                  have hS' : sRel X N3 t L := hS.fr hE (fun c j hc => fX c j (by omega)) (fun c j hc => fN c j (by omega))
                  have e60 : X 6 0 = M 6 0 := fX _ _ (by omega)
                  have hd' : dRel X N3 E p t := by
                    refine ⟨fun x x0 x1 => ?_, ⟨?_, ?_⟩, ?_, by rw [fN _ _ (by omega)]; exact d5, by rw [fN _ _ (by omega)]; exact d6⟩
                    · rw [e60] at x1
                      obtain ⟨h1, h2, h3⟩ := d1 x x0 x1
                      by_cases xq : x = M 23 i
                      · rw [xq, vX.1, vX.2, fX (E + 3) _ (by omega), fN 499 _ (by omega), fN 500 _ (by omega)]
                        rw [xq] at h2
                        exact ⟨⟨w3.1, w5.1, w5.2⟩, h2, ⟨w4.1, w6.1, w6.2⟩⟩
                      · have g : ∀ c j, ¬ ((c = 439 ∧ 44 ≤ j ∧ j ≤ 46) ∨ ((c = 474 ∨ c = 475 ∨ c = 501 ∨ c = 502) ∧ j = M 23 i)) → N3 c j = N c j := fun c j hc => by rw [w7 c j hc, r4 c j (by omega)]
                        rw [fX 135 _ (by omega), fX (E + 3) _ (by omega), fX (E + 2) _ (by omega), g 474 _ (by omega), g 475 _ (by omega), g 499 _ (by omega), g 500 _ (by omega), g 501 _ (by omega), g 502 _ (by omega)]
                        exact ⟨h1, h2, h3⟩
                    · rw [fX _ _ (by omega), fN _ _ (by omega), fN _ _ (by omega)]; exact d2
                    · rw [fX _ _ (by omega), fN _ _ (by omega), fN _ _ (by omega)]; exact d3
                    · rw [fX _ _ (by omega), fN _ _ (by omega), fN _ _ (by omega)]; exact d4
                  have := ih (i + 1) X N3 hS' hd' (by rw [fN _ _ (by omega), fN _ _ (by omega)]; exact hGN) z1 (by omega) (by rw [fX _ _ (by omega)]; omega)
                  rcases this with ⟨A, B, s1, s2, s3, s4, s5, s6⟩ | ⟨A, B, s1, s2, s3, s5, s6⟩
                  · exact Or.inl ⟨A, B, s1, s2, s3, s4, fun c j hc => by rw [s5 c j hc, fX c j (by omega)], fun c j hc => by rw [s6 c j hc, fN c j hc]⟩
                  · exact Or.inr ⟨A, B, s1, s2, s3, fun c j hc => by rw [s5 c j hc, fX c j (by omega)], fun c j hc => by rw [s6 c j hc, fN c j hc]⟩
                · rw [v2] at z2
                  exact Or.inr (fail (Or.inl z2) z1)
              · rw [v2] at t2
                rw [t1] at w4
                exact Or.inr (fail (Or.inr t2) w4.one)
            · rw [y2] at v2
              rw [v1] at w3
              have k1 := w3.one
              rw [k1] at w4
              refine Or.inr (fail (Or.inl ?_) w4.one)
              rw [v2]
              exact fr_plus_m2 _
          · rw [y1] at w2
            have k0 := w2.one
            rw [k0] at w3
            have k1 := w3.one
            rw [k1] at w4
            refine Or.inr (fail (Or.inl ?_) w4.one)
            rw [y2, fr_times_m2]
            exact fr_plus_m2 _
        · have hb : ¬ (M 22 i = p ∧ tb L (M 23 i) = true) := fun z => x1 ((hl.at_ (by omega) (by omega)).mp z.2).2
          rw [if_pos hb] at eC
          rw [x2] at eM
          simp only [Option.bind_some, eq_self, not_true_eq_false, if_false] at eM
          rw [eC, eM]
          exact ih (i + 1) M N hS hd hGN hs (by omega) (by omega)
      · rw [if_pos f1] at eM
        rw [if_pos (fun z => f1 z.1)] at eC
        rw [eC, eM]
        exact ih (i + 1) M N hS hd hGN hs (by omega) (by omega)
end
