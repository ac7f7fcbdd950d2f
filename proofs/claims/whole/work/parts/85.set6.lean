/-! THE ARM settle. -/
section
variable {M N C : em_M}
theorem arm_settle (h : Rel M) (t : Int) : Arm (f_EstateOffice_settle t) (f_Model_settle t) M := by
  obtain ⟨hT, hP, hD, hM, hO, hL', hW, hK, hH, hS, hN, hF⟩ := id h
  have hn := hP.2.2.1
  have n0 := hP.2.1
  have no : f_EstateOffice_settle t M = some (-1, M) → ¬ duS M t → Arm (f_EstateOffice_settle t) (f_Model_settle t) M := fun z1 z2 => ⟨-1, M, M, z1, Scr.rf M, (m_settle h (fun _ _ _ => rfl)).2 z2, Scr.rf M, h⟩
  have e1 := q_EstateOffice_settle t M
  obtain ⟨bv, bb1, bb2⟩ := f_bornBy (M := M) hn t
  simp only [em_cd, q_History_allows] at e1
  by_cases c1 : M 6 1 = 0
  · rw [if_pos c1] at e1
    exact no e1 (fun z => z.1 c1)
  rw [if_neg c1] at e1
  by_cases c2 : t < M 136 1
  · rw [if_pos c2] at e1
    simp only [Option.bind_some, if_true] at e1
    exact no e1 (fun z => z.2.1 c2)
  rw [if_neg c2] at e1
  by_cases c3 : 100000 < t
  · rw [if_pos c3] at e1
    simp only [Option.bind_some, if_true] at e1
    exact no e1 (fun z => z.2.2.1 c3)
  rw [if_neg c3] at e1
  simp only [Option.bind_some, bb1] at e1
  rw [if_neg (by omega)] at e1
  have hm := hD.1.minus (w := bv) (fun x x0 x1 => bb2.at_ x0 x1)
  by_cases c4 : ∀ x, 0 ≤ x → x < M 6 0 → tb (M 6 1) x = true → M 10 x ≤ t
  case neg =>
    rw [if_neg (fun z => c4 (fun x x0 x1 x2 => Classical.byContradiction (fun w => hm.zero.mp z x x0 (by omega) ⟨⟨x1, x2⟩, fun y => w y.2⟩)))] at e1
    exact no e1 (fun z => c4 z.2.2.2)
  rw [if_pos (hm.zero.mpr (fun x x0 x1 y => y.2 ⟨y.1.1, c4 x x0 y.1.1 y.1.2⟩))] at e1
  have hdu : duS M t := ⟨c1, c2, c3, c4⟩
  have t0 : 0 ≤ t := by have := hH.2.1.2.1; omega
  have t1 : t ≤ 100000 := by omega
  have hex : ∃ q, 0 ≤ q ∧ q < M 6 0 ∧ M 11 q = -1 := Classical.byContradiction (fun z => c1 (hD.1.zero.mpr (fun x x0 x1 y => z ⟨x, x0, y.1, (hD.2 x x0 y.1).1.2.1.2 y.2⟩)))
  obtain ⟨q, hq0, hq1, hq2⟩ := hex
  have d1 := deaths_lt h hq0 hq1 hq2
  have d0 := hH.1.2.1
  obtain ⟨B, v, z1, ⟨z2, z2'⟩, z3, z4, z5, z6⟩ := set_prep h (t := t) t0 t1
  have e1' := e1.trans (z1 _)
  simp only [] at e1'
  have hL : mk (x_and v (x_xor (M 6 1) (-1))) (fun x => ((x < M 6 0 ∧ M 10 x ≤ t) ∧ ¬ (¬ M 11 x = -1 ∧ M 11 x ≤ t)) ∧ ¬ tb (M 6 1) x = true) := z3.minus (fun x x0 x1 => Iff.rfl)
  generalize x_and v (x_xor (M 6 1) (-1)) = L at e1' hL
  obtain ⟨X, s1, ⟨s2, s3, s4, s5, s6⟩, -⟩ := settle_state h t0 t1 rfl d1 z2 z6 z4 z5 (zF2.rf B) hL
  rcases settle_pair (D := M 6 1) hn (M 6 0).toNat 0 0 B X (z6 _ _ (by omega)) (by omega) (by omega) s2 s3 s4 s5 s6 rfl with ⟨C', R', q1, q2, -, -, -, q6, -⟩ | ⟨C', R', q1, q2, -, q6, -⟩
  · have cM : ∀ c j, ¬ ((c = 25 ∧ 2 ≤ j ∧ j ≤ 4) ∨ (27 ≤ c ∧ c ≤ 50) ∨ (126 ≤ c ∧ c ≤ 135) ∨ (174 ≤ c ∧ c ≤ 353)) → C' c j = M c j := fun c j hc => by rw [q6.1 c j (by omega), z6 c j (by omega)]
    obtain ⟨A, a1, a2, a3, a4, a5, a6, a7, a8⟩ := f_150 (C := C') (t := t) hD.1 (cM 136 0 (by omega)) d0 d1 (by rw [cM 6 0 (by omega)]; exact n0) (by rw [cM 6 0 (by omega)]; exact hn)
    have e3 := e1'.trans (q2.trans a1)
    have ez : ∀ c j, 439 ≤ c → A c j = M c j := fun c j hc => by rw [a8 c j (by omega), cM c j (by omega)]
    have zF1 : zF2 B A := fun c j hc => by rw [a8 c j (by rw [cM 6 0 (by omega)]; omega), q6.1 c j (by omega)]
    obtain ⟨Y, u1, ⟨u2, u3, u4, u5, u6⟩, u7, u8, u9, u10⟩ := settle_state h t0 t1 rfl d1 z2 z6 z4 z5 zF1 hL
    have e2 := (m_settle h ez).1 hdu
    rw [u1] at e2
    rcases settle_pair (D := M 6 1) hn (M 6 0).toNat 0 0 B Y (z6 _ _ (by omega)) (by omega) (by omega) u2 u3 u4 u5 u6 rfl with ⟨C'', R'', w1, w2, w3, w4, w5, w6, w7⟩ | ⟨C'', R'', w1, -⟩
    case inr =>
      rw [q1] at w1
      cases w1
    rw [q1] at w1
    have eC : C' = C'' := by
      cases w1
      rfl
    subst eC
    rw [w3] at e2
    have r115 : R'' 439 115 = M 136 0 := by rw [w7.1 _ _ (by omega), u10 _ _ (by omega), ez _ _ (by omega)]; exact hH.1.1
    have r47 : R'' 439 47 = M 6 0 := by rw [w7.1 _ _ (by omega), u10 _ _ (by omega), ez _ _ (by omega)]; exact hP.1
    obtain ⟨Z, k1, k2, k3, k4⟩ := m_s265 (t := t) (m := sumI (fun x => b2 (tb (M 6 1) x = true)) (M 6 0).toNat) hn d0 d1 (M 6 0).toNat R'' 0 r47 r115 (by omega) (by omega)
    rw [k1, ← cnt_n hD.1 n0 hn (fun x hx => hx.1)] at e2
    obtain ⟨y1, y2⟩ := settle_rel h t0 hdu rfl d1 z2 z2' z6 q6 a2 a3 a4 a5 a6 a7 a8 u6 u7 u8 u9 u10 w4 w5 w7 k2 k3 k4
    have sc : Scr M A := ⟨fun j => by rw [a8 _ _ (by omega), cM _ _ (by omega)], by rw [a8 _ _ (by omega), cM _ _ (by omega)]⟩
    exact ⟨cnt (M 6 1) 30, A, Z, e3, sc, e2, ⟨fun j => (y1.1 j).trans (sc.1 j), y1.2.trans sc.2⟩, y2⟩
  · have e3 := e1'.trans q2
    obtain ⟨Z, y1, y2, y3⟩ := settle_fail h t0 hdu d1 z2 z2' z6 z4 z5 q6 hL q1
    have sc : Scr M C' := ⟨fun j => by rw [q6.1 _ _ (by omega), z6 _ _ (by omega)], by rw [q6.1 _ _ (by omega), z6 _ _ (by omega)]⟩
    exact ⟨-2, C', Z, e3, sc, y1, ⟨fun j => (y2.1 j).trans (sc.1 j), y2.2.trans sc.2⟩, y3⟩
end
