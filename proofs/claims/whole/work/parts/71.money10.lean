/-! MONEY: an estate, put together. -/
section
variable {M N : em_M}
theorem zer_is {a b : Int} (ha : a = 0) (hb : b = 1) : fr_is N 1 a b := ⟨fr_ok_1.1, by rw [ha]; exact fr_ok_1.2.1.symm, by rw [hb]; exact fr_ok_1.2.2.symm⟩
theorem m_166sp {p : Int} (p0 : 0 ≤ p) (p1 : p < 30) (hz : N 439 44 = 1) : f_Model_settles_166 p N = some (0, xup (xup N 474 p 0) 475 p 1) := by
  rw [q_Model_settles_166]
  simp only [em_cd]
  rw [if_pos (by omega), if_pos (by omega), if_pos (by omega)]
theorem m_124sp {p : Int} (p0 : 0 ≤ p) (p1 : p < 30) (hz : N 439 44 = 1) : ∃ N', f_Model_settles_124 p N = some (0, N') ∧ N' 439 44 = 1 ∧ fM N N' := by
  have e := q_Model_settles_124 p N
  generalize hX : xup (xup N 439 100 (N 474 p)) 439 101 ((xup N 439 100 (N 474 p)) 475 p) = X at e
  have fX : ∀ c j, ¬ (c = 439 ∧ (j = 100 ∨ j = 101)) → X c j = N c j := fun c j hc => by rw [← hX, xup_ne (by omega), xup_ne (by omega)]
  have zX : X 439 44 = 1 := by rw [fX _ _ (by omega)]; exact hz
  simp only [em_cd, zX] at e
  rw [if_pos (by omega), if_pos (by omega), if_pos (by omega), if_pos (by omega), m_166sp p0 p1 zX] at e
  exact ⟨_, e, by rw [xup_ne (by omega), xup_ne (by omega)]; exact zX, fun c j hc => by rw [xup_ne (by omega), xup_ne (by omega), fX c j (by omega)]⟩
theorem work_both {t L p E : Int} (hE : isE E) (hS : sRel M N t L) (hu : uR M N) (p0 : 0 ≤ p) (p1 : p < M 6 0) (hnl : ¬ lvs N t p) (h75 : N 439 75 = t) (hz : N 439 44 = 0) :
    (∃ M' N', f_Settlement_workOut (M 0 11) p t L E M = some (1, M') ∧ f_Model_settles p N = some (0, N') ∧ N' 439 44 = 0 ∧ uR M' N' ∧ eR M' N' E p t ∧ fCw E M M' ∧ fM N N') ∨ (∃ M' N', f_Settlement_workOut (M 0 11) p t L E M = some (0, M') ∧ f_Model_settles p N = some (0, N') ∧ N' 439 44 = 1 ∧ fCw E M M' ∧ fM N N') := by
  have hne := hE.ne
  obtain ⟨⟨hP, hM, hO, hL, hW, hK⟩, hst, hl, ht⟩ := id hS
  have hn := hP.2.2.1
  have n0 := hP.2.1
  have hw := hW.1
  have w6 : M (M 0 11) 0 ≤ 20 := hW.2.2.2.1.2.2
  have f47 : N 439 47 = M 6 0 := by rw [hst _ _ (by unfold sStat; omega)]; exact hP.1
  -- the class's beginning
  have eC := q_Settlement_workOut (M 0 11) p t L E M
  have ehas : f_Register_has p M = some (1, M) := by
    rw [q_Register_has]
    simp only [em_cd]
    rw [if_neg (by omega), if_neg (by omega), if_neg (by omega)]
  rw [ehas, hE.k.1, isO_law hw] at eC
  simp only [Option.bind_some, em_cd, cond_true, Bool.and_true] at eC
  rw [if_pos (by omega)] at eC
  obtain ⟨M1, a1, ⟨a2, a3, a4, a5⟩, a6, a7⟩ := f_begin (M := M) (p := p) (t := t) (n := M 6 0) hE
  rw [a1] at eC
  simp only [Option.bind_some] at eC
  have w1 : fCw E M M1 := fun c j hc => a7 c j (by omega)
  -- the reference's beginning
  have eM := q_Model_settles p N
  obtain ⟨N1, b1, b2', b3, b4⟩ := m_se7 (p := p) (n := M 6 0) hn 30 0 (xup N 439 74 p) (by rw [xup_ne (by omega)]; exact f47) (by omega) (by omega) (fun x x0 x1 => by omega)
  rw [b1] at eM
  have m1 : ∀ c j, ¬ ((499 ≤ c ∧ c ≤ 502) ∨ (c = 439 ∧ (j = 74 ∨ j = 96 ∨ j = 97))) → N1 c j = N c j := fun c j hc => by rw [b4 c j (by omega), xup_ne (by omega)]
  have fm1 : fM N N1 := fun c j hc => m1 c j (by omega)
  have hS1 : sRel M1 N1 t L := hS.frw hE w1 fm1
  have e60 : M1 6 0 = M 6 0 := a7 _ _ (by omega)
  have hd1 : dRel M1 N1 E p t := by
    refine ⟨fun x x0 x1 => ?_, ⟨?_, ?_⟩, ?_, ?_, ?_⟩
    · rw [e60] at x1
      obtain ⟨q1, q2⟩ := a6 x x0 (by omega)
      obtain ⟨⟨r1, r2⟩, r3, r4⟩ := b2' x x0 x1
      rw [q1, q2, a7 135 x (by omega), m1 474 x (by omega), m1 475 x (by omega)]
      exact ⟨hu.1 x x0 x1, zer_is r1 r2, zer_is r3 r4⟩
    · rw [a7 126 5 (by omega), m1 487 0 (by omega), m1 488 0 (by omega)]; exact hu.2.1
    · rw [a7 126 6 (by omega), m1 487 1 (by omega), m1 488 1 (by omega)]; exact hu.2.2
    · rw [a5]; exact zer_is b3.1 b3.2
    · rw [b4 439 74 (by omega), xup_eq]
    · rw [m1 439 75 (by omega)]; exact h75
  have z1 : N1 439 44 = 0 := by rw [m1 _ _ (by omega)]; exact hz
  have h17 : M1 17 0 ≤ 60 := by rw [a7 17 0 (by omega)]; exact hO.2.2.1
  rw [q_Settlement_payDebts] at eC
  rcases debts_both (L := L) hE p0 60 0 M1 N1 hS1 hd1 z1 (by omega) (by omega) (by omega) with ⟨M2, N2, c1, c2, c3, c4, c5, c6⟩ | ⟨M2, N2, c1, c2, c4, c5, c6⟩
  · rw [c1] at eC
    simp only [Option.bind_some, em_cd] at eC
    rw [if_neg (by omega)] at eC
    rw [c2, q_Model_settles_124] at eM
    simp only [em_cd] at eM
    rw [if_pos (by omega), if_pos (by omega)] at eM
    have g60 : M2 6 0 = M 6 0 := by rw [c5 _ _ (by omega)]; exact e60
    have e75 : (xup N2 439 100 (N2 474 p)) 475 p = N2 475 p := xup_ne (by omega)
    rw [e75] at eM
    generalize hX : xup (xup N2 439 100 (N2 474 p)) 439 101 (N2 475 p) = X at eM
    have fX : ∀ c j, ¬ (c = 439 ∧ (j = 100 ∨ j = 101)) → X c j = N2 c j := fun c j hc => by rw [← hX, xup_ne (by omega), xup_ne (by omega)]
    have vX : X 439 100 = N2 474 p ∧ X 439 101 = N2 475 p := by rw [← hX, xup_ne (by omega), xup_eq, xup_eq]; exact ⟨rfl, rfl⟩
    have zX : X 439 44 = 0 := by rw [fX _ _ (by omega)]; exact c4
    have mX : fM N2 X := fun c j hc => fX c j (by omega)
    rw [zX] at eM
    simp only [eq_self, not_true_eq_false, if_false] at eM
    have hS2 : sRel M2 X t L := hS1.fr hE c5 (c6.tr mX)
    have hd2 : dRel M2 X E p t := by
      obtain ⟨d1, ⟨d2, d3⟩, d4, d5, d6⟩ := c3
      refine ⟨fun x x0 x1 => ?_, ⟨?_, ?_⟩, ?_, ?_, ?_⟩
      · rw [fX 474 x (by omega), fX 475 x (by omega), fX 499 x (by omega), fX 500 x (by omega), fX 501 x (by omega), fX 502 x (by omega)]
        exact d1 x x0 x1
      · rw [fX 487 0 (by omega), fX 488 0 (by omega)]; exact d2
      · rw [fX 487 1 (by omega), fX 488 1 (by omega)]; exact d3
      · rw [fX 439 96 (by omega), fX 439 97 (by omega)]; exact d4
      · rw [fX 439 74 (by omega)]; exact d5
      · rw [fX 439 75 (by omega)]; exact d6
    have hGX : fr_is X (M2 135 p) (X 439 100) (X 439 101) := by rw [vX.1, vX.2]; exact (c3.1 p p0 (by omega)).1
    have g11 : M2 0 11 = M 0 11 := by rw [c5 _ _ (by omega), a7 _ _ (by omega)]
    have bdw : M2 (M 0 11) 3 = M2 (M2 0 11) 3 := by rw [g11]
    rcases legs_all hE p0 bdw hS2 hd2 (by omega) zX rfl hGX with ⟨M3, N3, d1, d2, d3, d4, d5, d6, d7, d8⟩ | ⟨M3, N3, d1, d2, d3, d7, d8⟩
    · rw [d1] at eC
      simp only [Option.bind_some, em_cd] at eC
      rw [if_pos (by omega), if_pos (by omega)] at eC
      rw [d2] at eM
      simp only [Option.bind_some, d3, eq_self, not_true_eq_false, if_false] at eM
      have m12 : fC E M1 M3 := c5.tr d7
      have n12 : fM N1 N3 := (c6.tr mX).tr d8
      generalize hY : xup M3 135 p 1 = Y at eC
      have fY : ∀ c j, ¬ (c = 135 ∧ j = p) → Y c j = M3 c j := fun c j hc => by rw [← hY, xup_ne hc]
      have vY : Y 135 p = 1 := by rw [← hY, xup_eq]
      have hSY : sRel Y N3 t L := (hS1.fr hE m12 n12).fr hE (fun c j hc => fY c j (by omega)) (fM.rf N3)
      have y60 : Y 6 0 = M 6 0 := by rw [fY _ _ (by omega), m12 _ _ (by omega)]; exact e60
      have y11 : Y 0 11 = M 0 11 := by rw [fY _ _ (by omega), m12 _ _ (by omega), a7 _ _ (by omega)]
      have pb := parts_both (p := p) hSY p0 (by omega) d4.2.2.2.1 d4.2.2.2.2 d3
      rw [y11] at pb
      rcases pb with ⟨M4, N4, e1, e2, e3, e4, e5, e6⟩ | ⟨M4, N4, e1, e2, e3, e5, e6⟩
      · rw [e1] at eC
        simp only [Option.bind_some, em_cd] at eC
        rw [if_pos (by omega)] at eC
        rw [e2] at eM
        simp only [Option.bind_some] at eM
        rw [q_Model_settles_166, e3] at eM
        simp only [em_cd, eq_self, not_true_eq_false, if_false] at eM
        have h60 : M4 6 0 = M 6 0 := by rw [e5 _ _ (by omega)]; exact y60
        have h11 : M4 0 11 = M 0 11 := by rw [e5 _ _ (by omega)]; exact y11
        have q0 : M4 E 0 = p := by rw [e5 _ _ (by omega), fY _ _ (by omega), m12 _ _ (by omega)]; exact a2
        have okS : ∀ y, 0 ≤ y → y < 30 → fr_ok (M4 134 y) := fun y y0 y1 => by
          by_cases c : y < M4 6 0
          · exact (e4.1.1 y y0 c).1
          · have : ¬ tb L y = true := fun z => by
              have := ((hl.at_ y0 y1).mp z).1
              omega
            rw [e4.2.1 y y0 y1 this]
            exact fr_ok_1.1
        obtain ⟨M5, g1, ⟨g2, g3, g4⟩, g5, g6⟩ := f_report (p := p) hE q0 okS
        rw [g1] at eC
        simp only [Option.bind_some] at eC
        have u1 : ∀ c j, ¬ ((127 ≤ c ∧ c ≤ 134) ∨ (c = 135 ∧ j = p) ∨ (c = E + 1 ∨ c = E + 4 ∨ c = E + 5) ∨ (c = E ∧ (j = 3 ∨ j = 7 ∨ j = 8))) → M5 c j = M3 c j := fun c j hc => by rw [g6 c j (by omega), e5 c j (by omega), fY c j (by omega)]
        have k60 : M5 6 0 = M 6 0 := by rw [g6 _ _ (by omega)]; exact h60
        have k11 : M5 0 11 = M 0 11 := by rw [g6 _ _ (by omega)]; exact h11
        have m3_60 : M3 6 0 = M 6 0 := by rw [m12 _ _ (by omega)]; exact e60
        have k47 : N4 439 47 = M 6 0 := by rw [e6 _ _ (by omega), n12 _ _ (by omega), m1 _ _ (by omega)]; exact f47
        have npL : ∀ x, ¬ lvs N t x → 0 ≤ x → x < 30 → M4 134 x = 1 := fun x hx x0 x1 => e4.2.1 x x0 x1 (fun z => hx ((hl.at_ x0 x1).mp z).2)
        have hG5 : fr_is N4 (M5 E 6) (N4 439 100) (N4 439 101) := by rw [u1 E 6 (by omega), e6 439 100 (by omega), e6 439 101 (by omega)]; exact d6
        have hs5 : ∀ y, 0 ≤ y → y < M 6 0 → fr_is N4 (M5 (E + 1) y) (N4 497 y) (N4 498 y) := fun y y0 y1 => by
          rw [(g5 y y0 (by omega)).1]
          exact e4.1.1 y y0 (by omega)
        have h15 : ∀ y, M 6 0 ≤ y → y < 30 → M5 (E + 1) y = 1 := fun y y0 y1 => by
          rw [(g5 y (by omega) y1).1]
          refine e4.2.1 y (by omega) y1 (fun z => ?_)
          have := ((hl.at_ (by omega) y1).mp z).1
          omega
        have hp5 : M5 (E + 1) p = 1 := by
          rw [(g5 p p0 (by omega)).1]
          exact npL p hnl p0 (by omega)
        have hu5 : puR M5 N4 (M 6 0) p := fun x x0 x1 xp => by
          rw [u1 135 x (by omega), e6 474 x (by omega), e6 475 x (by omega)]
          exact (d4.1 x x0 (by omega)).1
        have hc5 : fr_is N4 (M5 126 6) (N4 487 1) (N4 488 1) := by
          rw [u1 126 6 (by omega), e6 487 1 (by omega), e6 488 1 (by omega)]
          exact d4.2.1.2
        have h85 : (N4 439 91 = 0 ∧ M5 E 8 = 1) ∨ (N4 439 91 = 1 ∧ fr_is N4 (M5 E 8) (N4 439 88) (N4 439 89)) := by
          rw [g3]
          exact e4.2.2.2.1
        have wA : ∀ (Z : em_M), (∀ a j, ¬ (a = 135 ∨ (a = 126 ∧ j = 6)) → Z a j = M5 a j) → fCw E M Z := fun Z hZ c j hc => by
          rw [hZ c j (by omega), u1 c j (by omega), m12 c j (by omega), a7 c j (by omega)]
        have wB : ∀ (Z : em_M), (∀ a j, ¬ ((a = 439 ∧ 44 ≤ j ∧ j ≤ 46) ∨ a = 474 ∨ a = 475 ∨ ((a = 487 ∨ a = 488) ∧ j = 1)) → Z a j = N4 a j) → fM N (xup (xup Z 474 p 0) 475 p 1) := fun Z hZ c j hc => by
          rw [xup_ne (by omega), xup_ne (by omega), hZ c j (by omega), e6 c j (by omega), n12 c j (by omega), m1 c j (by omega)]
        rcases pay_both (p := p) hE n0 hn k47 e3 rfl hG5 hs5 h15 hp5 hu5 hc5 h85 with ⟨M6, N5, r1, r2, r3, r4, r5, r6, r7⟩ | ⟨M6, N5, r1, r2, r3, r6, r7⟩
        · left
          rw [r1] at eC
          simp only [Option.bind_some] at eC
          rw [if_pos (by simp)] at eC
          rw [r2] at eM
          simp only [Option.bind_some] at eM
          rw [if_pos (by omega), if_pos (by omega)] at eM
          have v1 : ∀ c j, ¬ ((c = 439 ∧ 44 ≤ j ∧ j ≤ 46) ∨ c = 474 ∨ c = 475 ∨ ((c = 487 ∨ c = 488) ∧ j = 1)) → (xup (xup N5 474 p 0) 475 p 1) c j = N4 c j := fun c j hc => by rw [xup_ne (by omega), xup_ne (by omega), r7 c j (by omega)]
          have v60 : M6 6 0 = M 6 0 := by rw [r6 _ _ (by omega)]; exact k60
          refine ⟨M6, _, eC, eM, by rw [xup_ne (by omega), xup_ne (by omega)]; exact r3, ⟨fun x x0 x1 => ?_, ?_, ?_⟩, ⟨⟨?_, ?_, ?_, ?_⟩, ⟨?_, ?_⟩, ⟨?_, ?_, ?_, ?_, ?_⟩, fun x x0 x1 => ?_, ?_⟩, wA M6 (fun a j ha => r6 a j (by omega)), wB N5 r7⟩
          · rw [v60] at x1
            by_cases xp : x = p
            · rw [xp, r6 135 p (by omega), g6 135 p (by omega), e5 135 p (by omega), vY]
              exact zer_is (by rw [xup_ne (by omega), xup_eq]) (by rw [xup_eq])
            · rw [xup_ne (by omega), xup_ne (by omega), xup_ne (by omega), xup_ne (by omega)]
              exact r4 x x0 x1 xp
          · rw [r6 126 5 (by omega), u1 126 5 (by omega), v1 487 0 (by omega), v1 488 0 (by omega), e6 487 0 (by omega), e6 488 0 (by omega)]
            exact d4.2.1.1
          · rw [xup_ne (by omega), xup_ne (by omega), xup_ne (by omega), xup_ne (by omega)]
            exact r5
          · rw [r6 E 0 (by omega), g6 E 0 (by omega)]; exact q0
          · rw [r6 E 1 (by omega), u1 E 1 (by omega), m12 E 1 (by omega)]; exact a3
          · rw [r6 E 2 (by omega), u1 E 2 (by omega), m12 E 2 (by omega), v60]; exact a4
          · rw [r6 E 3 (by omega), g4, v1 439 90 (by omega)]
            exact e4.2.2.2.2.2.2.1
          · rw [v1 439 74 (by omega), e6 439 74 (by omega)]; exact d4.2.2.2.1
          · rw [v1 439 75 (by omega), e6 439 75 (by omega)]; exact d4.2.2.2.2
          · rw [r6 E 4 (by omega), u1 E 4 (by omega), v1 439 96 (by omega), v1 439 97 (by omega), e6 439 96 (by omega), e6 439 97 (by omega)]
            exact d4.2.2.1
          · rw [r6 E 5 (by omega), u1 E 5 (by omega), v1 439 98 (by omega), v1 439 99 (by omega), e6 439 98 (by omega), e6 439 99 (by omega)]
            exact d5
          · rw [r6 E 6 (by omega), v1 439 100 (by omega), v1 439 101 (by omega)]
            exact hG5
          · rw [r6 E 7 (by omega), g2, v1 439 86 (by omega), v1 439 87 (by omega)]
            exact e4.2.2.1
          · rw [r6 E 8 (by omega), v1 439 91 (by omega), v1 439 88 (by omega), v1 439 89 (by omega)]
            exact h85
          · rw [v60] at x1
            rw [r6 (E + 1) x (by omega), r6 (E + 2) x (by omega), r6 (E + 3) x (by omega), u1 (E + 2) x (by omega), u1 (E + 3) x (by omega), v1 497 x (by omega), v1 498 x (by omega), v1 499 x (by omega), v1 500 x (by omega), v1 501 x (by omega), v1 502 x (by omega), e6 499 x (by omega), e6 500 x (by omega), e6 501 x (by omega), e6 502 x (by omega)]
            have hd := d4.1 x x0 (by omega)
            exact ⟨hs5 x x0 x1, hd.2.2, hd.2.1⟩
          · obtain ⟨-, ⟨-, -, -, ⟨-, hsU⟩, hsK, -⟩, -⟩ := e4.2.2.2.2.1
            have v11 : M6 0 11 = M 0 11 := by rw [r6 _ _ (by omega)]; exact k11
            have vw : M6 (M 0 11) 0 = M4 (M 0 11) 0 := by rw [r6 _ _ (by omega), g6 _ _ (by omega)]
            have vw4 : M4 (M 0 11) 0 = M (M 0 11) 0 := by rw [e5 _ _ (by omega), fY _ _ (by omega), m12 _ _ (by omega), a7 _ _ (by omega)]
            rw [h11] at hsU hsK
            rw [v11, vw, v60]
            refine ⟨M4 127 10, hsU.cong (fun x _ _ => ⟨fun ⟨k, i0, i1, i2, i3⟩ => ⟨k, i0, i2, by rw [v1 491 k (by omega)]; exact i3⟩, fun ⟨k, i0, i2, i3⟩ => ⟨k, i0, by omega, i2, by rw [v1 491 k (by omega)] at i3; exact i3⟩⟩), fun k i0 i1 => by rw [v1 491 k (by omega)]; exact (hsK k i0 i1).self, fun x x0 x1 => ?_⟩
            obtain ⟨o1, o2⟩ := rsn_eq e4 x0 (by omega)
            obtain ⟨-, o3, o4⟩ := g5 x x0 (by omega)
            rw [r6 (E + 4) x (by omega), r6 (E + 5) x (by omega), o3, o4, o2, o1]
            unfold rM uM
            rw [v1 497 x (by omega), v1 439 78 (by omega), v1 493 x (by omega), v1 494 x (by omega), v1 492 x (by omega)]
            exact ⟨rfl, rfl⟩
        · right
          rw [r1] at eC
          simp only [Option.bind_some] at eC
          rw [if_pos (by simp)] at eC
          rw [r2] at eM
          simp only [Option.bind_some] at eM
          rw [if_pos (by omega), if_pos (by omega)] at eM
          exact ⟨M6, _, eC, eM, by rw [xup_ne (by omega), xup_ne (by omega)]; exact r3, wA M6 r6, wB N5 r7⟩
      · right
        rw [e1] at eC
        simp only [Option.bind_some, em_cd, eq_self, not_true_eq_false, if_false] at eC
        rw [e2] at eM
        simp only [Option.bind_some] at eM
        rw [m_166sp p0 (by omega) e3] at eM
        exact ⟨M4, _, eC, eM, by rw [xup_ne (by omega), xup_ne (by omega)]; exact e3, fun c j hc => by rw [e5 c j (by omega), fY c j (by omega), m12 c j (by omega), a7 c j (by omega)], fun c j hc => by rw [xup_ne (by omega), xup_ne (by omega), e6 c j (by omega), n12 c j (by omega), m1 c j (by omega)]⟩
    · right
      rw [d1] at eC
      simp only [Option.bind_some, em_cd, eq_self, not_true_eq_false, if_false] at eC
      rw [d2] at eM
      simp only [Option.bind_some] at eM
      rw [if_pos (by omega), m_166sp p0 (by omega) d3] at eM
      exact ⟨M3, _, eC, eM, by rw [xup_ne (by omega), xup_ne (by omega)]; exact d3, w1.tr ((c5.tr d7).w), fun c j hc => by rw [xup_ne (by omega), xup_ne (by omega), ((c6.tr mX).tr d8) c j (by omega), m1 c j (by omega)]⟩
  · right
    rw [c1] at eC
    simp only [Option.bind_some, em_cd, if_true] at eC
    obtain ⟨N3, s1, s2, s3⟩ := m_124sp p0 (by omega) c4
    rw [c2, s1] at eM
    exact ⟨M2, N3, eC, eM, s2, w1.tr c5.w, (fm1.tr c6).tr s3⟩
end
