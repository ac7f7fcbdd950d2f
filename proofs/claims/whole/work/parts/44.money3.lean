/-! MONEY: debts, the two side by side. -/
section
variable {M N : em_M}
theorem f_addTo {q F : Int} (q0 : 0 ≤ q) (q1 : q < 30) (hQ : fr_v (M 135 q)) (hF : fr_v F) : f_Settlement_addTo q F M = some (b2 (¬ fr_plus (M 135 q) F < 0), xup M 135 q (fr_plus (M 135 q) F)) := by
  rw [q_Settlement_addTo, f_plus_eq M hQ hF]
  simp only [em_cd, Option.bind_some, xup_eq, f_isSpent, nnz]
  rw [if_neg (by omega), if_pos (by omega), if_pos (by omega), if_pos (by omega), if_pos (by omega)]
  by_cases h : fr_plus (M 135 q) F < 0
  · rw [if_pos h, b2_f (fun z => z h)]
  · rw [if_neg h, b2_t h]
theorem isE.ne {E : Int} (h : isE E) : 174 ≤ E ∧ E ≤ 360 := by
  obtain ⟨k, k0, k1, rfl⟩ := h
  omega
theorem eIn {E k : Int} (hE : isE E) (hk : 1 ≤ k ∧ k ≤ 3) {q : Int} (q0 : 0 ≤ q) (q1 : q < 30) : (Nat.beq (em_kd (E + k)) 101 && decide (0 ≤ q ∧ q < em_ln (E + k))) = true := by
  obtain ⟨-, h1, h2, h3, -⟩ := hE.k
  have hk : k = 1 ∨ k = 2 ∨ k = 3 := by omega
  rcases hk with rfl | rfl | rfl
  · rw [h1.1, h1.2, decide_eq_true ⟨q0, q1⟩]; rfl
  · rw [h2.1, h2.2, decide_eq_true ⟨q0, q1⟩]; rfl
  · rw [h3.1, h3.2, decide_eq_true ⟨q0, q1⟩]; rfl
theorem f_payDebt10 {F : Int} (hS : fr_v (M 126 5)) (hF : fr_v F) : f_Settlement_payDebt_10 F M = some (b2 (¬ fr_plus (M 126 5) F < 0), xup M 126 5 (fr_plus (M 126 5) F)) := by
  rw [q_Settlement_payDebt_10, f_plus_eq M hS hF]
  simp only [em_cd, Option.bind_some, xup_eq, f_isSpent, nnz]
  by_cases h : fr_plus (M 126 5) F < 0
  · rw [if_pos h, b2_f (fun z => z h)]
  · rw [if_neg h, b2_t h]
theorem f_payDebt {E q F : Int} (hE : isE E) (q0 : 0 ≤ q) (q1 : q < 30) (hD : fr_v (M (E + 3) q)) (hQ : fr_v (M 135 q)) (hF : fr_v F) : f_Settlement_payDebt q F E M = if fr_plus (M (E + 3) q) F < 0 then some (0, xup M (E + 3) q (fr_plus (M (E + 3) q) F)) else some (b2 (¬ fr_plus (M 135 q) F < 0), xup (xup M (E + 3) q (fr_plus (M (E + 3) q) F)) 135 q (fr_plus (M 135 q) F)) := by
  have hn := hE.ne
  have e135 : xup M (E + 3) q (fr_plus (M (E + 3) q) F) 135 q = M 135 q := xup_ne (by omega)
  have ha := f_addTo (M := xup M (E + 3) q (fr_plus (M (E + 3) q) F)) q0 q1 (by rw [e135]; exact hQ) hF
  rw [e135] at ha
  rw [q_Settlement_payDebt, hE.k.1, eIn hE (by omega) q0 q1, f_plus_eq M hD hF]
  simp only [em_cd, cond_true, Option.bind_some, xup_eq, f_isSpent, nnz, ha, b2_z, nn]
  rw [if_neg (by omega), if_pos (by omega)]
  by_cases h : fr_plus (M (E + 3) q) F < 0
  · rw [if_pos h, if_pos h]
  · rw [if_neg h, if_neg h]
    by_cases h2 : fr_plus (M 135 q) F < 0
    · rw [if_pos h2, b2_f (fun z => z h2)]
    · rw [if_neg h2, b2_t h2]
theorem f_debt {p L E i q a : Int} (hE : isE E) (p0 : 0 ≤ p) (p1 : p < 30) (i0 : 0 ≤ i) (i1 : i < 60) (ha : M 20 i = a) (oa : fr_ok a) (hP : fr_ok (M 135 p)) (hT : fr_ok (M E 4)) (q0 : -1 ≤ q) (q1 : q < 30) (hpq : ¬ q = p) (hS : fr_ok (M 126 5)) (hQ : ¬ q = -1 → fr_ok (M 135 q)) (hD : ¬ q = -1 → fr_ok (M (E + 3) q)) :
    (((0 ≤ fr_minus (M 135 p) (prd a (M 135 p)) ∧ 0 ≤ fr_plus (M E 4) (prd a (M 135 p))) ∧ (q = -1 → 0 ≤ fr_plus (M 126 5) (prd a (M 135 p))) ∧ (¬ q = -1 → 0 ≤ fr_plus (M 135 q) (prd a (M 135 p)) ∧ 0 ≤ fr_plus (M (E + 3) q) (prd a (M 135 p)))) ∧ ∃ M', f_Settlement_payDebts_63 p L E i q M = f_Settlement_payDebts_3 p L E (i + 1) M' ∧ M' 135 p = fr_minus (M 135 p) (prd a (M 135 p)) ∧ M' E 4 = fr_plus (M E 4) (prd a (M 135 p)) ∧ (q = -1 → M' 126 5 = fr_plus (M 126 5) (prd a (M 135 p))) ∧ (¬ q = -1 → M' 135 q = fr_plus (M 135 q) (prd a (M 135 p)) ∧ M' (E + 3) q = fr_plus (M (E + 3) q) (prd a (M 135 p))) ∧ ∀ c j, ¬ ((c = 135 ∧ (j = p ∨ j = q)) ∨ (c = E ∧ j = 4) ∨ (c = 126 ∧ j = 5 ∧ q = -1) ∨ (c = E + 3 ∧ j = q)) → M' c j = M c j) ∨
    ((fr_minus (M 135 p) (prd a (M 135 p)) = -1 ∨ fr_plus (M E 4) (prd a (M 135 p)) = -1 ∨ (q = -1 ∧ fr_plus (M 126 5) (prd a (M 135 p)) = -1) ∨ (¬ q = -1 ∧ (fr_plus (M 135 q) (prd a (M 135 p)) = -1 ∨ fr_plus (M (E + 3) q) (prd a (M 135 p)) = -1))) ∧ ∃ M', f_Settlement_payDebts_63 p L E i q M = some (0, M') ∧ fC E M M') := by
  have hn := hE.ne
  obtain ⟨oF, -⟩ := prd_ok oa hP
  have e := q_Settlement_payDebts_63 p L E i q M
  rw [ha, f_lesser_eq M oa hP] at e
  have hprd : (if fr_up (M 135 p) * fr_low a < fr_up a * fr_low (M 135 p) then M 135 p else a) = prd a (M 135 p) := rfl
  rw [hprd] at e
  generalize hF : prd a (M 135 p) = F at oF e ⊢
  have vF : fr_v F := Or.inr oF
  simp only [em_cd, Option.bind_some, f_minus_eq M (Or.inr hP) vF] at e
  generalize hd2 : fr_minus (M 135 p) F = d2 at e ⊢
  have v2 : fr_v d2 := by rw [← hd2]; exact fr_v_minus _ _
  have eT : xup M 135 p d2 E 4 = M E 4 := xup_ne (by omega)
  rw [if_pos (by omega), if_pos (by omega), if_pos (by omega), if_pos (by omega), hE.k.1, eT, f_plus_eq _ (Or.inr hT) vF] at e
  simp only [Option.bind_some, cond_true, Bool.and_true] at e
  generalize hd3 : fr_plus (M E 4) F = d3 at e ⊢
  have v3 : fr_v d3 := by rw [← hd3]; exact fr_v_plus _ _
  generalize hX : xup (xup M 135 p d2) E 4 d3 = X at e
  have x1 : ∀ c j, ¬ ((c = 135 ∧ j = p) ∨ (c = E ∧ j = 4)) → X c j = M c j := fun c j hc => by rw [← hX, xup_ne (by omega), xup_ne (by omega)]
  have x2 : X 135 p = d2 ∧ X E 4 = d3 := by rw [← hX]; simp (disch := omega) only [xup_ne, xup_eq, and_self]
  have fX : fC E M X := fun c j hc => x1 c j (by omega)
  rw [if_pos (by omega), x2.1, f_isSpent] at e
  simp only [Option.bind_some, nnz, x2.2, f_isSpent] at e
  by_cases c2 : d2 < 0
  · rw [if_pos c2] at e
    exact Or.inr ⟨Or.inl ((fr_nn v2).mp c2), X, e, fX⟩
  rw [if_neg c2] at e
  by_cases c3 : d3 < 0
  · rw [if_pos c3] at e
    exact Or.inr ⟨Or.inr (Or.inl ((fr_nn v3).mp c3)), X, e, fX⟩
  rw [if_neg c3] at e
  by_cases cq : q = -1
  · have e5 : X 126 5 = M 126 5 := x1 _ _ (by omega)
    have k : f_Settlement_payDebt q F E X = f_Settlement_payDebt_10 F X := by rw [q_Settlement_payDebt, em_cd, if_pos (by omega)]
    rw [k, f_payDebt10 (by rw [e5]; exact Or.inr hS) vF, e5] at e
    simp only [Option.bind_some, b2_z, nn] at e
    by_cases c4 : fr_plus (M 126 5) F < 0
    · rw [if_neg (fun z => z c4)] at e
      exact Or.inr ⟨Or.inr (Or.inr (Or.inl ⟨cq, (fr_nn (fr_v_plus _ _)).mp c4⟩)), _, e, fun c j hc => by rw [xup_ne (by omega)]; exact fX c j hc⟩
    · rw [if_pos c4, x32_s (by omega) (by omega)] at e
      refine Or.inl ⟨⟨⟨by omega, by omega⟩, fun _ => by omega, fun z => absurd cq z⟩, _, e, ?_, ?_, fun _ => xup_eq _ _ _ _, fun z => absurd cq z, fun c j hc => by rw [xup_ne (by omega)]; exact x1 c j (by omega)⟩
      · rw [xup_ne (by omega)]; exact x2.1
      · rw [xup_ne (by omega)]; exact x2.2
  · have eD : X (E + 3) q = M (E + 3) q := x1 _ _ (by omega)
    have eQ : X 135 q = M 135 q := x1 _ _ (by omega)
    have hk := f_payDebt (M := X) (F := F) hE (by omega) q1 (by rw [eD]; exact Or.inr (hD cq)) (by rw [eQ]; exact Or.inr (hQ cq)) vF
    rw [eD, eQ] at hk
    rw [hk] at e
    by_cases c4 : fr_plus (M (E + 3) q) F < 0
    · rw [if_pos c4] at e
      simp only [Option.bind_some, eq_self, not_true_eq_false, if_false] at e
      exact Or.inr ⟨Or.inr (Or.inr (Or.inr ⟨cq, Or.inr ((fr_nn (fr_v_plus _ _)).mp c4)⟩)), _, e, fun c j hc => by rw [xup_ne (by omega)]; exact fX c j hc⟩
    · rw [if_neg c4] at e
      simp only [Option.bind_some, b2_z, nn] at e
      by_cases c5 : fr_plus (M 135 q) F < 0
      · rw [if_neg (fun z => z c5)] at e
        exact Or.inr ⟨Or.inr (Or.inr (Or.inr ⟨cq, Or.inl ((fr_nn (fr_v_plus _ _)).mp c5)⟩)), _, e, fun c j hc => by rw [xup_ne (by omega), xup_ne (by omega)]; exact fX c j hc⟩
      · rw [if_pos c5, x32_s (by omega) (by omega)] at e
        refine Or.inl ⟨⟨⟨by omega, by omega⟩, fun z => absurd z cq, fun _ => ⟨by omega, by omega⟩⟩, _, e, ?_, ?_, fun z => absurd z cq, fun _ => ⟨xup_eq _ _ _ _, ?_⟩, fun c j hc => by rw [xup_ne (by omega), xup_ne (by omega)]; exact x1 c j (by omega)⟩
        · rw [xup_ne (by omega), xup_ne (by omega)]; exact x2.1
        · rw [xup_ne (by omega), xup_ne (by omega)]; exact x2.2
        · rw [xup_ne (by omega), xup_eq]
/-- the money of the two (E: the class's estate; p: the dead one) -/
def dRel (M N : em_M) (E p t : Int) : Prop := (∀ x, 0 ≤ x → x < M 6 0 → fr_is N (M 135 x) (N 474 x) (N 475 x) ∧ fr_is N (M (E + 3) x) (N 499 x) (N 500 x) ∧ fr_is N (M (E + 2) x) (N 501 x) (N 502 x)) ∧ (fr_is N (M 126 5) (N 487 0) (N 488 0) ∧ fr_is N (M 126 6) (N 487 1) (N 488 1)) ∧ fr_is N (M E 4) (N 439 96) (N 439 97) ∧ N 439 74 = p ∧ N 439 75 = t
theorem m_61_sp {p i : Int} (h : N 439 44 = 1) : f_Model_settles_61 p i N = f_Model_settles_124 p N := by
  rw [q_Model_settles_61]
  simp only [em_cd]
  by_cases q : N 439 61 ≤ i
  · rw [if_pos q]
  · rw [if_neg q, if_pos (by omega)]
theorem debts_both {t L E p : Int} (hE : isE E) (p0 : 0 ≤ p) : ∀ (k : Nat) (i : Int) (M N : em_M), sRel M N t L → dRel M N E p t → N 439 44 = 0 → p < M 6 0 → 0 ≤ i → M 17 0 - i ≤ k →
    (∃ M' N', f_Settlement_payDebts_3 p L E i M = some (1, M') ∧ f_Model_settles_61 p i N = f_Model_settles_124 p N' ∧ dRel M' N' E p t ∧ N' 439 44 = 0 ∧ fC E M M' ∧ fM N N') ∨ (∃ M' N', f_Settlement_payDebts_3 p L E i M = some (0, M') ∧ f_Model_settles_61 p i N = f_Model_settles_124 p N' ∧ N' 439 44 = 1 ∧ fC E M M' ∧ fM N N') := by
  intro k
  induction k with
  | zero =>
    intro i M N hS hd hs hp i0 hk
    left
    refine ⟨M, N, ?_, ?_, hd, hs, fC.rf E M, fM.rf N⟩
    · rw [q_Settlement_payDebts_3, em_cd, if_pos (by omega)]
    · have e61 : N 439 61 = M 17 0 := by rw [hS.2.1 _ _ (by unfold sStat; omega)]; exact hS.1.2.2.1.1
      rw [q_Model_settles_61, em_cd, if_pos (by omega)]
  | succ k ih =>
    intro i M N hS hd hs hp i0 hk
    obtain ⟨⟨hP, hM, hO, hL, hW, hK⟩, hst, hl, ht⟩ := id hS
    obtain ⟨o1, o2, o3, o4⟩ := id hO
    have e61 : N 439 61 = M 17 0 := by rw [hst _ _ (by unfold sStat; omega)]; exact o1
    by_cases q : M 17 0 ≤ i
    · left
      refine ⟨M, N, ?_, ?_, hd, hs, fC.rf E M, fM.rf N⟩
      · rw [q_Settlement_payDebts_3, em_cd, if_pos q]
      · rw [q_Model_settles_61, em_cd, if_pos (by omega)]
    · obtain ⟨⟨a1, a2, a3⟩, ⟨b1, b2', b3, b4⟩, ⟨c1, c2, c3⟩⟩ := o4 i i0 (by omega)
      have hn := hP.2.2.1
      have eC := q_Settlement_payDebts_3 p L E i M
      have eM := q_Model_settles_61 p i N
      have n480 : N 480 i = M 18 i := by rw [hst _ _ (by unfold sStat; omega)]; exact a1
      have n481 : N 481 i = M 19 i := by rw [hst _ _ (by unfold sStat; omega)]; exact b1
      have n482 : N 482 i = M 482 i := hst _ _ (by unfold sStat; omega)
      rw [n480, n481, e61] at eM
      simp only [em_cd, f_holds, Option.bind_some, b2_z] at eC
      simp only [em_cd] at eM
      rw [if_neg q, if_neg (by omega), if_pos (by omega), if_pos (by omega), x32_s (by omega) (by omega)] at eC
      rw [if_neg q, if_neg (by omega), if_pos (by omega), x32_s (by omega) (by omega)] at eM
      have skip : f_Settlement_payDebts_3 p L E i M = f_Settlement_payDebts_3 p L E (i + 1) M → f_Model_settles_61 p i N = f_Model_settles_61 p (i + 1) N → (∃ M' N', f_Settlement_payDebts_3 p L E i M = some (1, M') ∧ f_Model_settles_61 p i N = f_Model_settles_124 p N' ∧ dRel M' N' E p t ∧ N' 439 44 = 0 ∧ fC E M M' ∧ fM N N') ∨ (∃ M' N', f_Settlement_payDebts_3 p L E i M = some (0, M') ∧ f_Model_settles_61 p i N = f_Model_settles_124 p N' ∧ N' 439 44 = 1 ∧ fC E M M' ∧ fM N N') := fun z1 z2 => by
        rw [z1, z2]
        exact ih (i + 1) M N hS hd hs hp (by omega) (by omega)
      by_cases f1 : M 18 i = p
      · rw [if_neg (fun z => z f1)] at eC
        rw [if_neg (fun z => z f1), if_pos (by omega)] at eM
        -- the debt is paid
        have pay : f_Settlement_payDebts_3 p L E i M = f_Settlement_payDebts_63 p L E i (M 19 i) M → f_Model_settles_61 p i N = (f_Model_pays i N).bind (fun r0 => f_Model_settles_61 p (i + 1) r0.2) → (∃ M' N', f_Settlement_payDebts_3 p L E i M = some (1, M') ∧ f_Model_settles_61 p i N = f_Model_settles_124 p N' ∧ dRel M' N' E p t ∧ N' 439 44 = 0 ∧ fC E M M' ∧ fM N N') ∨ (∃ M' N', f_Settlement_payDebts_3 p L E i M = some (0, M') ∧ f_Model_settles_61 p i N = f_Model_settles_124 p N' ∧ N' 439 44 = 1 ∧ fC E M M' ∧ fM N N') := fun z1 z2 => by
          obtain ⟨d1, ⟨d2, d3⟩, d4, d5, d6⟩ := id hd
          have hne := hE.ne
          have hQ : ¬ M 19 i = -1 → fr_is N (M 135 (M 19 i)) (N 474 (M 19 i)) (N 475 (M 19 i)) := fun z => (d1 _ (by omega) b3).1
          have hD : ¬ M 19 i = -1 → fr_is N (M (E + 3) (M 19 i)) (N 499 (M 19 i)) (N 500 (M 19 i)) := fun z => (d1 _ (by omega) b3).2.1
          obtain ⟨Np, g1, g2, g3⟩ := m_pays (p := p) (q := M 19 i) (v := M 482 i) (P := M 135 p) (T := M E 4) (Q := M 135 (M 19 i)) (D := M (E + 3) (M 19 i)) (S := M 126 5) hs d5 p0 (by omega) i0 (by omega) n482 c2 c3 n481 b2' (by omega) (by omega) (d1 p p0 hp).1 d4 d2 hQ hD
          have fN : fM N Np := fun c j hc => g3 c j (by omega)
          have hm := f_debt (L := L) (q := M 19 i) (a := M 482 i * 1048576 + 1) hE p0 (by omega) i0 (by omega) c1 (fr_ok_int (by omega) (by omega)).1 (d1 p p0 hp).1.1 d4.1 b2' (by omega) (by omega) d2.1 (fun z => (hQ z).1) (fun z => (hD z).1)
          rw [z1, z2, g1]
          rcases hm with ⟨⟨⟨w1, w2⟩, w3, w4⟩, M', e1, v1, v2, v3, v4, v5⟩ | ⟨w, M', e1, fCM⟩
          · rcases g2 with ⟨y1, y2, y3, y4, y5⟩ | ⟨y1, y2⟩
            · have fCM : fC E M M' := fun c j hc => v5 c j (by omega)
              have hS' := hS.fr hE fCM fN
              have e60 : M' 6 0 = M 6 0 := v5 _ _ (by omega)
              have e17 : M' 17 0 = M 17 0 := v5 _ _ (by omega)
              have hd' : dRel M' Np E p t := by
                refine ⟨fun x x0 x1 => ?_, ⟨?_, ?_⟩, ?_, by rw [g3 _ _ (by omega)]; exact d5, by rw [g3 _ _ (by omega)]; exact d6⟩
                · rw [e60] at x1
                  obtain ⟨h1, h2, h3⟩ := d1 x x0 x1
                  refine ⟨?_, ?_, ?_⟩
                  · by_cases xp : x = p
                    · rw [xp, v1]; exact y2
                    · by_cases xq : x = M 19 i
                      · have : ¬ M 19 i = -1 := by omega
                        rw [xq, (v4 this).1]; exact (y5 this).1
                      · rw [v5 _ _ (by omega), g3 _ _ (by omega), g3 _ _ (by omega)]; exact h1
                  · by_cases xq : x = M 19 i
                    · have : ¬ M 19 i = -1 := by omega
                      rw [xq, (v4 this).2]; exact (y5 this).2
                    · rw [v5 _ _ (by omega), g3 _ _ (by omega), g3 _ _ (by omega)]; exact h2
                  · rw [v5 _ _ (by omega), g3 _ _ (by omega), g3 _ _ (by omega)]; exact h3
                · by_cases xq : M 19 i = -1
                  · rw [v3 xq]; exact y4 xq
                  · rw [v5 _ _ (by omega), g3 _ _ (by omega), g3 _ _ (by omega)]; exact d2
                · rw [v5 _ _ (by omega), g3 _ _ (by omega), g3 _ _ (by omega)]; exact d3
                · rw [v2]; exact y3
              have := ih (i + 1) M' Np hS' hd' y1 (by omega) (by omega) (by omega)
              rw [e1]
              rcases this with ⟨A, B, s1, s2, s3, s4, s5, s6⟩ | ⟨A, B, s1, s2, s4, s5, s6⟩
              · exact Or.inl ⟨A, B, s1, s2, s3, s4, fCM.tr s5, fN.tr s6⟩
              · exact Or.inr ⟨A, B, s1, s2, s4, fCM.tr s5, fN.tr s6⟩
            · rcases y2 with y2 | y2 | ⟨y2, y3⟩ | ⟨y2, y3⟩
              · omega
              · omega
              · have := w3 y2
                omega
              · have := w4 y2
                omega
          · right
            rcases g2 with ⟨y1, y2, y3, y4, y5⟩ | ⟨y1, y2⟩
            · rcases w with w | w | ⟨w, w'⟩ | ⟨w, w'⟩
              · have := y2.1.1; omega
              · have := y3.1.1; omega
              · have := (y4 w).1.1; omega
              · have h1 := (y5 w).1.1.1
                have h2 := (y5 w).2.1.1
                omega
            · refine ⟨M', Np, e1, ?_, y1, fCM, fN⟩
              show f_Model_settles_61 p (i + 1) Np = _
              exact m_61_sp y1
        by_cases f2 : M 19 i = -1
        · rw [if_pos f2] at eC eM
          exact pay eC eM
        · rw [if_neg f2] at eC eM
          rw [if_pos (by omega)] at eM
          rcases m_lives (N := N) (x := M 19 i) (t := t) (by omega) (by omega) with ⟨l1, l2⟩ | ⟨l1, l2⟩
          · rw [hd.2.2.2.2, l2] at eM
            simp only [Option.bind_some] at eM
            rw [if_neg (by omega)] at eM
            rw [if_neg (fun z => z ⟨by omega, by omega, (hl.at_ (by omega) (by omega)).mpr ⟨b3, l1⟩⟩)] at eC
            exact pay eC eM
          · rw [hd.2.2.2.2, l2] at eM
            simp only [Option.bind_some, if_true] at eM
            rw [if_pos (fun z => l1 ((hl.at_ (by omega) (by omega)).mp z.2.2).2)] at eC
            exact skip eC eM
      · rw [if_pos f1] at eC
        rw [if_pos f1] at eM
        exact skip eC eM
end
