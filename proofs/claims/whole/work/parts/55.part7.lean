/-! PARTING: fixed parts, the two side by side. -/
section
variable {M N : em_M}
theorem f_ap40 {k : Int} (k0 : -1 ≤ k) (k1 : k < 20) : f_Parting_applies_40 k M = some (b2 (k = -1 ∨ M 128 k = 0), M) := by
  rw [q_Parting_applies_40]
  simp only [em_cd]
  by_cases c : k = -1
  · rw [if_pos c, b2_t (Or.inl c)]
  · rw [if_neg c, f_headsOf (by omega) k1]
    simp only [Option.bind_some]
    by_cases d : M 128 k = 0
    · rw [if_neg (fun z => z d), b2_t (Or.inr d)]
    · rw [if_pos d, b2_f (fun z => z.elim c d)]
theorem f_applies {w r : Int} (hw : w = 53 ∨ w = 366) (r0 : 0 ≤ r) (r1 : r < 30) (a0 : -1 ≤ M (w + 8) r) (a1 : M (w + 8) r < 20) (b0 : -1 ≤ M (w + 9) r) (b1 : M (w + 9) r < 20) : f_Parting_applies w r M = some (b2 ((M (w + 8) r = -1 ∨ ¬ M 128 (M (w + 8) r) = 0) ∧ (M (w + 9) r = -1 ∨ M 128 (M (w + 9) r) = 0)), M) := by
  obtain ⟨-, -, -, ⟨k1, k2⟩, ⟨k3, k4⟩, -⟩ := lawR w hw
  have e := q_Parting_applies w r M
  rw [isO_law hw, k1, k2, k3, k4, decide_eq_true (show 0 ≤ r ∧ r < 30 from ⟨r0, r1⟩)] at e
  simp only [em_cd, cond_true] at e
  rw [if_neg (by omega), if_pos (by omega), f_ap40 b0 b1] at e
  have e' : f_Parting_applies w r M = if M (w + 8) r = -1 then some (b2 (M (w + 9) r = -1 ∨ M 128 (M (w + 9) r) = 0), M) else (f_Parting_headsOf (M (w + 8) r) M).bind fun r0 => if r0.1 = 0 then some (0, r0.2) else f_Parting_applies_40 (M (w + 9) r) r0.2 := e
  rw [e']
  by_cases c : M (w + 8) r = -1
  · rw [if_pos c]
    exact congrArg (fun z => some (z, M)) (b2_cong ⟨fun z => ⟨Or.inl c, z⟩, fun z => z.2⟩)
  · rw [if_neg c, f_headsOf (by omega) a1]
    simp only [Option.bind_some, f_ap40 b0 b1]
    by_cases d : M 128 (M (w + 8) r) = 0
    · rw [if_pos d, b2_f (fun z => z.1.elim c (fun z => z d))]
    · rw [if_neg d]
      exact congrArg (fun z => some (z, M)) (b2_cong ⟨fun z => ⟨Or.inr d, z⟩, fun z => z.2⟩)
theorem m_82 {g q s R : Int} (h17 : N 439 17 = s) (hs : s = 0 ∨ s = 1) (hR : N 454 s = R) (R0 : 0 ≤ R) (R1 : R ≤ 30) (q0 : 30 * s ≤ q) (q1 : q < 30 * s + R) (h44 : N 439 44 = 0) (ha : N 455 q = 0 → (-1 ≤ N 461 q ∧ N 461 q < 20) ∧ (-1 ≤ N 462 q ∧ N 462 q < 20)) : f_Model_parts_82 g q N = if N 455 q = 0 ∧ (N 461 q = -1 ∨ ¬ N 491 (N 461 q) = 0) ∧ (N 462 q = -1 ∨ N 491 (N 462 q) = 0) then f_Model_parts_170 g q N else f_Model_parts_82 g (q + 1) N := by
  have e := q_Model_parts_82 g q N
  have e2 := q_Model_parts_143 g q N
  simp only [em_cd, h17, hR] at e e2
  rw [x32_s (x := 30 * s) (by omega) (by omega), x32_s (x := 30 * s + R) (by omega) (by omega), x32_s (x := q + 1) (by omega) (by omega), if_pos (by omega), if_neg (by omega), if_neg (fun z => z h44), if_pos (by omega)] at e
  rw [x32_s (x := q + 1) (by omega) (by omega), if_pos (by omega)] at e2
  by_cases c1 : N 455 q = 0
  · obtain ⟨⟨a0, a1⟩, b0, b1⟩ := ha c1
    rw [if_neg (fun z => z c1), if_pos (by omega)] at e
    have e3 : f_Model_parts_143 g q N = if N 462 q = -1 ∨ N 491 (N 462 q) = 0 then f_Model_parts_170 g q N else f_Model_parts_82 g (q + 1) N := by
      by_cases c2 : N 462 q = -1
      · rw [if_pos c2] at e2
        rw [e2, if_pos (Or.inl c2)]
      · rw [if_neg c2, if_pos (by omega), if_pos (by omega)] at e2
        by_cases c3 : N 491 (N 462 q) = 0
        · rw [if_pos c3] at e2
          rw [e2, if_pos (Or.inr c3)]
        · rw [if_neg c3] at e2
          rw [e2, if_neg (fun z => z.elim c2 c3)]
    rw [e3] at e
    by_cases c2 : N 461 q = -1
    · rw [if_pos c2] at e
      rw [e]
      by_cases c3 : N 462 q = -1 ∨ N 491 (N 462 q) = 0
      · rw [if_pos c3, if_pos ⟨c1, Or.inl c2, c3⟩]
      · rw [if_neg c3, if_neg (fun z => c3 z.2.2)]
    · rw [if_neg c2, if_pos (by omega), if_pos (by omega)] at e
      by_cases c4 : N 491 (N 461 q) = 0
      · rw [if_pos c4] at e
        rw [e, if_neg (fun z => z.2.1.elim c2 (fun z => z c4))]
      · rw [if_neg c4] at e
        rw [e]
        by_cases c3 : N 462 q = -1 ∨ N 491 (N 462 q) = 0
        · rw [if_pos c3, if_pos ⟨c1, Or.inr c4, c3⟩]
        · rw [if_neg c3, if_neg (fun z => c3 z.2.2)]
  · rw [if_pos c1] at e
    rw [e, if_neg (fun z => c1 z.1)]
/-- what one fixed part comes to -/
theorem give_both {t L p r T g W ea : Int} {ST : Int → Prop} (hb : bR M N t L p) (hp : pR M N) (hs : N 439 44 = 0) (hsum : fr_is N (M 127 14) (N 439 86) (N 439 87)) (r0 : 0 ≤ r) (r1 : r < 30) (hT : mk T ST) (hTn : ∀ x, ST x → x < M 6 0) (hT0 : ¬ T = 0) (hTh : ∀ x, 0 ≤ x → x < 30 → tb T x = true → ∃ k, 0 ≤ k ∧ k < 20 ∧ tb (M 128 k) x = true) (oW : fr_ok W) (hW : W = fr_of (N 458 (30 * M 439 17 + r)) (N 459 (30 * M 439 17 + r))) (hW2 : (0 ≤ N 458 (30 * M 439 17 + r) ∧ N 458 (30 * M 439 17 + r) ≤ 1000) ∧ 1 ≤ N 459 (30 * M 439 17 + r) ∧ N 459 (30 * M 439 17 + r) ≤ 1000) (hea : ea = N 460 (30 * M 439 17 + r)) (h170 : f_Model_parts_170 g (30 * M 439 17 + r) N = (f_Model_count T (N 439 47) N).bind fun r0 => bif decide (¬ r0.1 = 0) then bif decide (0 ≤ 30 * M 439 17 + r ∧ 30 * M 439 17 + r < 60) then bif decide (0 ≤ 30 * M 439 17 + r ∧ 30 * M 439 17 + r < 60) then (f_Model_lowest (r0.2 458 (30 * M 439 17 + r)) (r0.2 459 (30 * M 439 17 + r)) r0.2).bind fun r1 => bif decide (0 ≤ 30 * M 439 17 + r ∧ 30 * M 439 17 + r < 60) then bif decide (¬ r1.2 460 (30 * M 439 17 + r) = 0) then f_Model_parts_265 g (30 * M 439 17 + r) T r0.1 (r1.2 439 45) (r1.2 439 46) 0 r1.2 else (f_Model_over (r1.2 439 45) (r1.2 439 46) r0.1 1 r1.2).bind fun r2 => f_Model_parts_265 g (30 * M 439 17 + r) T r0.1 (r1.2 439 45) (r1.2 439 46) 0 r2.2 else none else none else none else f_Model_parts_82 g (x32 (30 * M 439 17 + r + 1)) r0.2) :
    ∃ v M' N', f_Parting_give r T W ea M = some (v, M') ∧ f_Model_parts_170 g (30 * M 439 17 + r) N = f_Model_parts_82 (x_or g T) (30 * M 439 17 + r + 1) N' ∧ qC M M' ∧ qM N N' ∧ xC M N M' N' ∧ M' 127 12 = x_or (M 127 12) T ∧ ((v = 1 ∧ N' 439 44 = 0 ∧ pR M' N' ∧ fr_is N' (M' 127 14) (N' 439 86) (N' 439 87)) ∨ (v = 0 ∧ N' 439 44 = 1)) := by
  obtain ⟨hS, hH, -, p0, p1⟩ := id hb
  obtain ⟨⟨hP, -, -, -, hWW, -⟩, hst, -⟩ := id hS
  have w3 := hWW.2.2.1
  have n0 := hP.2.1
  have hn := hP.2.2.1
  have f47 : N 439 47 = M 6 0 := by rw [hst _ _ (by unfold sStat; omega)]; exact hP.1
  have f17 : N 439 17 = M 439 17 := hst _ _ (by unfold sStat; omega)
  generalize hs' : M 439 17 = s at *
  generalize hn' : M 6 0 = n at *
  have ec := cnt_n hT n0 hn hTn
  have c0 := cnt_rng T 30
  have cz := cnt_zero hT
  have mc := m_count (v := T) (M := N) n0 hn
  rw [← ec] at mc
  rw [f47, mc] at h170
  generalize hcc : cnt T 30 = ct at *
  have c1 : 1 ≤ ct ∧ ct ≤ 30 := by omega
  obtain ⟨oC, C1, C2⟩ := fr_ok_int (v := ct) (by omega) (by omega)
  have eC : fr_of ct 1 = ct * 1048576 + 1 := fr_of_1 (by omega) (by omega)
  generalize hCC : ct * 1048576 + 1 = C at *
  simp only [Option.bind_some, em_cd] at h170
  rw [if_pos (by omega), if_pos (by omega), if_pos (by omega)] at h170
  obtain ⟨u0, A, a1, ⟨a2, a3, a4⟩⟩ := m_lowest' (N := N) (Or.inl hs) (a := N 458 (30 * s + r)) (b := N 459 (30 * s + r)) (by omega) (by omega) (by omega) (by omega)
  have az : A 439 44 = 0 ∧ u0 = W := by
    rw [← hW] at a2
    rcases a2.zero hs with ⟨y1, y2, y3⟩ | ⟨y1, y2⟩
    · exact ⟨y1, y2⟩
    · have := oW.1
      omega
  rw [az.2] at a3
  rw [a1] at h170
  simp only [Option.bind_some, a3.1, a3.2] at h170
  rw [a4 460 _ (by omega), ← hea, if_pos (by omega)] at h170
  -- the class
  have eG : f_Parting_give r T W ea M = f_Parting_give_57 r T (if ea = 0 then fr_over W C else W) 0 (xup M 127 14 (fr_plus (M 127 14) (if ea = 0 then W else fr_times W C))) := by
    rw [q_Parting_give, f_bitCount hT, hcc]
    simp only [Option.bind_some, f_of_eq M (show -9223372036854775808 ≤ ct by omega) (show ct < 9223372036854775808 by omega) (show (1 : Int) < 9223372036854775808 by omega), eC, em_cd, f_over_eq M (Or.inr oW) (Or.inr oC)]
    by_cases z : ea = 0
    · rw [if_pos z, if_pos z, if_pos z, q_Parting_give_26]
      simp only [em_cd]
      rw [if_pos z, f_plus_eq M (Or.inr hsum.1) (Or.inr oW)]
      rfl
    · rw [if_neg z, if_neg z, if_neg z, q_Parting_give_26]
      simp only [em_cd]
      rw [if_neg z, f_times_eq M (Or.inr oW) (Or.inr oC)]
      simp only [Option.bind_some]
      rw [f_plus_eq M (Or.inr hsum.1) (fr_v_times _ _)]
      rfl
  generalize hown : (if ea = 0 then fr_over W C else W) = own at eG
  generalize hadd : (if ea = 0 then W else fr_times W C) = add at eG
  obtain ⟨M', g1, g2, g3, g4⟩ := f_give57 (r := r) (T := T) (own := own) 30 0 (xup M 127 14 (fr_plus (M 127 14) add)) (by omega) (by omega) (by omega)
  rw [xup_eq] at g1
  rw [xup_ne (by omega)] at g3
  have fC' : ∀ a j, ¬ ((a = 130 ∨ a = 133) ∧ 0 ≤ j ∧ j < 30 ∧ tb T j = true) → ¬ (a = 127 ∧ (j = 12 ∨ j = 14)) → M' a j = M a j := fun a j ha hb => by rw [g4 a j ha (by omega), xup_ne (by omega)]
  have s14 : M' 127 14 = fr_plus (M 127 14) add := by rw [g4 127 14 (by omega) (by omega), xup_eq]
  have qCM : qC M M' := fun c j hc => fC' c j (by omega) (by omega)
  -- the reference: what is in up, low ahead of the loop
  have pre : ∃ u1 B, f_Model_parts_170 g (30 * s + r) N = f_Model_parts_265 g (30 * s + r) T ct (fr_up W) (fr_low W) 0 B ∧ mSt 0 (B 439 44) own u1 ∧ (B 439 45 = fr_up u1 ∧ B 439 46 = fr_low u1) ∧ ∀ c j, ¬ (c = 439 ∧ 44 ≤ j ∧ j ≤ 46) → B c j = N c j := by
    by_cases z : ea = 0
    · rw [if_neg (fun y => y z)] at h170
      rw [if_pos z] at hown
      obtain ⟨u1, B, b1, ⟨b2', b3, b4⟩⟩ := m_over' (N := A) (x := W) (y := C) (c := ct) (d := 1) (Or.inl az.1) oW oC (by omega) rfl rfl C1.symm C2.symm
      rw [b1] at h170
      rw [az.1, hown] at b2'
      exact ⟨u1, B, h170, b2', b3, fun c j hc => by rw [b4 c j hc, a4 c j hc]⟩
    · rw [if_pos z] at h170
      rw [if_neg z] at hown
      refine ⟨W, A, h170, ⟨oW, Or.inl ⟨az.1, rfl, hown.symm⟩⟩, a3, a4⟩
  obtain ⟨u1, B, b1, b2', b3, b4⟩ := pre
  obtain ⟨D, d1, d2, d3⟩ := m_265 (g := g) (r := r) (s := s) (T := T) (ct := ct) (up := fr_up W) (low := fr_low W) (n := n) hn w3 r0 r1 30 0 B (by rw [b4 _ _ (by omega)]; exact f47) (by rw [b4 _ _ (by omega)]; exact f17) (by omega) n0 (by omega)
  have fD : ∀ a j, ¬ ((a = 493 ∨ a = 495 ∨ a = 496) ∧ 0 ≤ j ∧ j < n ∧ tb T j = true) → ¬ (a = 439 ∧ 44 ≤ j ∧ j ≤ 46) → D a j = N a j := fun a j ha hb => by rw [d3 a j ha, b4 a j hb]
  have d44 : D 439 44 = B 439 44 := d3 _ _ (by omega)
  have oU : fr_ok u1 := b2'.1
  have eL := q_Model_parts_265 g (30 * s + r) T ct (fr_up W) (fr_low W) n D
  simp only [em_cd] at eL
  rw [if_pos (by rw [fD 439 47 (by omega) (by omega)]; omega), if_pos (by omega), fD 460 _ (by omega) (by omega), ← hea, fD 439 86 (by omega) (by omega), fD 439 87 (by omega) (by omega), x32_s (x := 30 * s + r + 1) (by omega) (by omega)] at eL
  have post : ∃ u3 s2 G, f_Model_parts_265 g (30 * s + r) T ct (fr_up W) (fr_low W) n D = f_Model_parts_82 (x_or g T) (30 * s + r + 1) G ∧ (∃ u2, mSt (D 439 44) s2 add u2 ∧ mSt s2 (G 439 44) (fr_plus (M 127 14) u2) u3) ∧ (G 439 86 = fr_up u3 ∧ G 439 87 = fr_low u3) ∧ ∀ c j, ¬ (c = 439 ∧ ((44 ≤ j ∧ j ≤ 46) ∨ j = 86 ∨ j = 87)) → G c j = D c j := by
    by_cases z : ea = 0
    · rw [if_pos z] at eL hadd
      obtain ⟨u3, G, e1, ⟨e2, e3, e4⟩⟩ := m_plus' (N := D) (x := M 127 14) (y := W) (by unfold mSp; rw [d44]; exact b2'.sp) hsum.1 oW hsum.2.1 hsum.2.2 rfl rfl
      rw [e1] at eL
      simp only [Option.bind_some] at eL
      refine ⟨u3, D 439 44, _, eL, ⟨W, ⟨oW, ?_⟩, ?_⟩, ?_, fun c j hc => ?_⟩
      · rw [d44]
        rcases b2'.sp with k | k
        · exact Or.inl ⟨k, k, hadd.symm⟩
        · exact Or.inr ⟨k, Or.inl k⟩
      · simp (disch := omega) only [xup_ne]
        exact e2
      · rw [xup_ne (by omega), xup_eq, xup_eq, xup_ne (by omega)]
        exact e3
      · rw [xup_ne (by omega), xup_ne (by omega), e4 c j (by omega)]
    · rw [if_neg z] at eL hadd
      obtain ⟨u2, F, f1, ⟨f2, f3, f4⟩⟩ := m_times' (N := D) (x := W) (y := C) (c := ct) (d := 1) (by unfold mSp; rw [d44]; exact b2'.sp) oW oC rfl rfl C1.symm C2.symm
      obtain ⟨u3, G, e1, ⟨e2, e3, e4⟩⟩ := m_plus' (N := F) (x := M 127 14) (y := u2) f2.sp hsum.1 f2.1 ((f4 439 86 (by omega)).trans ((fD 439 86 (by omega) (by omega)).trans hsum.2.1)) ((f4 439 87 (by omega)).trans ((fD 439 87 (by omega) (by omega)).trans hsum.2.2)) f3.1 f3.2
      rw [f1] at eL
      simp only [Option.bind_some, e1] at eL
      rw [hadd] at f2
      refine ⟨u3, F 439 44, _, eL, ⟨u2, f2, ?_⟩, ?_, fun c j hc => ?_⟩
      · simp (disch := omega) only [xup_ne]
        exact e2
      · rw [xup_ne (by omega), xup_eq, xup_eq, xup_ne (by omega)]
        exact e3
      · rw [xup_ne (by omega), xup_ne (by omega), e4 c j (by omega), f4 c j (by omega)]
  obtain ⟨u3, s2, G, h1, ⟨u2, h2, h3⟩, h4, h5⟩ := post
  have qMN : qM N G := fun c j hc => by rw [h5 c j (by omega), fD c j (by omega) (by omega)]
  refine ⟨_, M', G, eG.trans g1, b1.trans (d1.trans h1), qCM, qMN, ⟨fun x x0 x1 e f => ?_, fun j j0 j1 => fC' 127 j (by omega) (by omega), fun x => by rw [h5 494 x (by omega), fD 494 x (by omega) (by omega)]⟩, g3, ?_⟩
  · rw [fC' 133 x (fun z => ?_) (by omega)]
    · exact e
    · obtain ⟨k, k0, k1, k2⟩ := hTh x x0 x1 z.2.2.2
      exact f k k0 k1 k2
  rw [d44] at h2
  have oS := hsum.1
  rcases b2'.zero rfl with ⟨y1, y2, y3⟩ | ⟨y1, y2⟩
  · rcases h2.zero y1 with ⟨x1, x2, x3⟩ | ⟨x1, x2⟩
    · rw [x2] at h3
      rcases h3.zero x1 with ⟨z1, z2, z3⟩ | ⟨z1, z2⟩
      · left
        have q1 := y3.1
        have q2 := z3.1
        refine ⟨b2_t ⟨by omega, by omega⟩, z1, ⟨fun x x0 x1 => ?_, fun x x0 x1 => ?_, ?_, fun x x0 x1 => ?_⟩, ?_⟩
        · rw [qCM 6 0 (by omega), hn'] at x1
          rw [h5 495 x (by omega), h5 496 x (by omega)]
          by_cases tx : tb T x = true
          · rw [(g2 x x0 (by omega) tx).1, (d2 x x0 x1 tx).1.1, (d2 x x0 x1 tx).1.2, b3.1, b3.2, y2]
            exact ⟨y3, rfl, rfl⟩
          · rw [fC' 133 x (fun z => tx z.2.2.2) (by omega), fD 495 x (fun z => tx z.2.2.2) (by omega), fD 496 x (fun z => tx z.2.2.2) (by omega)]
            exact hp.1 x x0 (by omega)
        · rw [qCM 6 0 (by omega), hn'] at x0
          have tx : ¬ tb T x = true := fun z => by
            have := hTn x ((hT.at_ (by omega) x1).mp z)
            omega
          rw [fC' 133 x (fun z => tx z.2.2.2) (by omega)]
          exact hp.2.1 x (by omega) x1
        · rw [g3, qCM 6 0 (by omega), hn']
          refine (hp.2.2.1.or hT).cong (fun x x0 x1 => ?_)
          rw [h5 493 x (by omega), hn']
          by_cases tx : tb T x = true
          · have hx := (hT.at_ x0 x1).mp tx
            rw [(d2 x x0 (hTn x hx) tx).2]
            exact ⟨fun _ => ⟨hTn x hx, by omega⟩, fun _ => Or.inr hx⟩
          · have hx : ¬ ST x := fun z => tx ((hT.at_ x0 x1).mpr z)
            rw [fD 493 x (fun z => tx z.2.2.2) (by omega)]
            exact ⟨fun z => z.elim id (fun z => absurd z hx), Or.inl⟩
        · rw [qCM 6 0 (by omega), hn'] at x1
          rw [h5 493 x (by omega)]
          by_cases tx : tb T x = true
          · rw [(g2 x x0 (by omega) tx).2, (d2 x x0 x1 tx).2]
            exact fun _ => rfl
          · rw [fC' 130 x (fun z => tx z.2.2.2) (by omega), fD 493 x (fun z => tx z.2.2.2) (by omega)]
            exact hp.2.2.2 x x0 (by omega)
        · rw [s14, h4.1, h4.2, z2]
          exact ⟨z3, rfl, rfl⟩
      · exact Or.inr ⟨b2_f (fun z => z.2 (by omega)), z1⟩
    · rw [x1] at h3
      refine Or.inr ⟨b2_f (fun z => z.2 ?_), h3.one⟩
      rw [x2, fr_plus_m2]
      omega
  · rw [y1] at h2
    have k1 := h2.one
    rw [k1] at h3
    exact Or.inr ⟨b2_f (fun z => z.1 (by omega)), h3.one⟩
end
