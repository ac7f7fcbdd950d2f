/-! PARTING: the whole of it, the two side by side. -/
section
variable {M N : em_M}
def tC (M M' : em_M) : Prop := ∀ c j, ¬ (127 ≤ c ∧ c ≤ 134) → M' c j = M c j
def tM (N N' : em_M) : Prop := ∀ c j, ¬ ((c = 439 ∧ ((44 ≤ j ∧ j ≤ 46) ∨ j = 78 ∨ (86 ≤ j ∧ j ≤ 91))) ∨ (489 ≤ c ∧ c ≤ 498) ∨ (503 ≤ c ∧ c ≤ 505)) → N' c j = N c j
/-- what a parting leaves -/
def tR (M N : em_M) (t L p : Int) : Prop := sh M N (M 6 0) ∧ (∀ x, 0 ≤ x → x < 30 → ¬ tb L x = true → M 134 x = 1) ∧ fr_is N (M 127 14) (N 439 86) (N 439 87) ∧ ((N 439 91 = 0 ∧ M 127 16 = 1) ∨ (N 439 91 = 1 ∧ fr_is N (M 127 16) (N 439 88) (N 439 89))) ∧ bR M N t L p ∧ gR M N
theorem parts_both {t L p : Int} (hS : sRel M N t L) (p0 : 0 ≤ p) (p1 : p < M 6 0) (h74 : N 439 74 = p) (h75 : N 439 75 = t) (hz : N 439 44 = 0) :
    (∃ M' N', f_Parting_work (M 0 11) p L M = some (1, M') ∧ f_Model_parts N = some (0, N') ∧ N' 439 44 = 0 ∧ tR M' N' t L p ∧ tC M M' ∧ tM N N') ∨ (∃ M' N', f_Parting_work (M 0 11) p L M = some (0, M') ∧ f_Model_parts N = some (0, N') ∧ N' 439 44 = 1 ∧ tC M M' ∧ tM N N') := by
  have hw := hS.1.2.2.2.2.1.1
  -- the class's beginning
  have eC := q_Parting_work (M 0 11) p L M
  rw [f_fillJ (a := 133) (v := 1) (by decide) (by decide)] at eC
  simp only [Option.bind_some] at eC
  rw [f_fillJ (a := 134) (v := 1) (by decide) (by decide)] at eC
  simp only [Option.bind_some, q_Parting_work_41] at eC
  generalize hM1 : xup (xup (xup (xup (xup (flM (flM (xup M 127 8 L) 133 0 1) 134 0 1) 127 12 0) 127 13 0) 127 14 1) 127 16 1) 127 17 (-1) = M1 at eC
  have f1 : ∀ c j, ¬ (c = 133 ∨ c = 134 ∨ (c = 127 ∧ (j = 8 ∨ j = 12 ∨ j = 13 ∨ j = 14 ∨ j = 16 ∨ j = 17))) → M1 c j = M c j := fun c j hc => by
    rw [← hM1, xup_ne (by omega), xup_ne (by omega), xup_ne (by omega), xup_ne (by omega), xup_ne (by omega), flM_ne (by omega), flM_ne (by omega), xup_ne (by omega)]
  have v8 : M1 127 8 = L := by
    rw [← hM1]
    rw [xup_ne (by omega), xup_ne (by omega), xup_ne (by omega), xup_ne (by omega), xup_ne (by omega), flM_ne (by omega), flM_ne (by omega), xup_eq]
  have v127 : (M1 127 12 = 0 ∧ M1 127 13 = 0) ∧ M1 127 14 = 1 ∧ M1 127 16 = 1 ∧ M1 127 17 = -1 := by
    rw [← hM1]
    simp (disch := omega) only [xup_ne, xup_eq, and_self]
  have v133 : ∀ x, 0 ≤ x → x < 30 → M1 133 x = 1 ∧ M1 134 x = 1 := fun x x0 x1 => by
    rw [← hM1, xup_ne (by omega), xup_ne (by omega), xup_ne (by omega), xup_ne (by omega), xup_ne (by omega), flM_ne (by omega), flM_in x0 x1, xup_ne (by omega), xup_ne (by omega), xup_ne (by omega), xup_ne (by omega), xup_ne (by omega), flM_in x0 x1]
    exact ⟨rfl, rfl⟩
  have hS1 : sRel M1 N t L := hS.fr (E := 174) ⟨0, by omega, by omega, by omega⟩ (fun c j hc => f1 c j (by omega)) (fM.rf N)
  have e11 : M1 0 11 = M 0 11 := f1 _ _ (by omega)
  have e60 : M1 6 0 = M 6 0 := f1 _ _ (by omega)
  have e17 : M1 439 17 = M 439 17 := f1 _ _ (by omega)
  obtain ⟨M2, N2, a1, a2, a3, a4, a5⟩ := heads_both (E := 174) ⟨0, by omega, by omega, by omega⟩ hS1 p0 (by omega) h74 h75 v8
  rw [e11] at a1
  rw [a1] at eC
  simp only [] at eC
  have hS2 : sRel M2 N2 t L := hS1.fr (E := 174) ⟨0, by omega, by omega, by omega⟩ (fun c j hc => a4 c j (by omega)) (fun c j hc => a5 c j (by omega))
  have g60 : M2 6 0 = M 6 0 := by rw [a4 _ _ (by omega)]; exact e60
  have g11 : M2 0 11 = M 0 11 := by rw [a4 _ _ (by omega)]; exact e11
  have g17 : M2 439 17 = M 439 17 := by rw [a4 _ _ (by omega)]; exact e17
  have hb2 : bR M2 N2 t L p := ⟨hS2, a3, ⟨by rw [a5 _ _ (by omega)]; exact h74, by rw [a5 _ _ (by omega)]; exact h75⟩, p0, by omega⟩
  have hn := hS2.1.1.2.2.1
  have n0 := hS2.1.1.2.1
  have f47 : N2 439 47 = M2 6 0 := by rw [hS2.2.1 _ _ (by unfold sStat; omega)]; exact hS2.1.1.1
  obtain ⟨nl, w1, w3, w6, w9, n17, n454⟩ := hb2.laws
  -- the reference's beginning
  have eM := q_Model_parts N
  rw [a2] at eM
  simp only [Option.bind_some] at eM
  generalize hN2 : xup (xup N2 439 86 0) 439 87 1 = N2' at eM
  have f2 : ∀ c j, ¬ (c = 439 ∧ (j = 86 ∨ j = 87)) → N2' c j = N2 c j := fun c j hc => by rw [← hN2, xup_ne (by omega), xup_ne (by omega)]
  have v86 : N2' 439 86 = 0 ∧ N2' 439 87 = 1 := by rw [← hN2]; simp (disch := omega) only [xup_ne, xup_eq, and_self]
  obtain ⟨N3, b1, b2', b3⟩ := m_p18 (v1 := 0) (n := M2 6 0) (s := M2 439 17) hn w3 30 0 N2' (by rw [f2 _ _ (by omega)]; exact f47) (by rw [f2 _ _ (by omega)]; exact n17) (by omega) (by omega) (fun x x0 x1 => by omega)
  rw [b1] at eM
  have f3 : ∀ c j, ¬ ((c = 439 ∧ (j = 86 ∨ j = 87)) ∨ (493 ≤ c ∧ c ≤ 498)) → N3 c j = N2 c j := fun c j hc => by rw [b3 c j (by omega), f2 c j (by omega)]
  have hb3 : bR M2 N3 t L p := hb2.frw (fun _ _ _ => rfl) (fun c j hc => f3 c j (by omega))
  have c127 : ∀ j, ¬ (9 ≤ j ∧ j ≤ 11) → M2 127 j = M1 127 j := fun j hj => a4 127 j (by omega)
  have p2 : pR M2 N3 := by
    refine ⟨fun x x0 x1 => ?_, fun x x0 x1 => ?_, ?_, fun x x0 x1 z => absurd (b2' x x0 x1).1.1 z⟩
    · obtain ⟨-, ⟨q1, q2⟩, -⟩ := b2' x x0 x1
      rw [a4 133 x (by omega), (v133 x x0 (by omega)).1, q1, q2]
      exact ⟨fr_ok_1.1, fr_ok_1.2.1.symm, fr_ok_1.2.2.symm⟩
    · rw [a4 133 x (by omega)]
      exact (v133 x (by omega) x1).1
    · rw [c127 12 (by omega), v127.1.1]
      exact mk_0.cong (fun x x0 x1 => ⟨fun z => z.elim, fun z => z.2 (b2' x x0 z.1).1.1⟩)
  have z3 : N3 439 44 = 0 := by rw [f3 _ _ (by omega), a5 _ _ (by omega)]; exact hz
  have s3 : fr_is N3 (M2 127 14) (N3 439 86) (N3 439 87) := by
    rw [c127 14 (by omega), v127.2.1, b3 439 86 (by omega), b3 439 87 (by omega), v86.1, v86.2]
    exact ⟨fr_ok_1.1, fr_ok_1.2.1.symm, fr_ok_1.2.2.symm⟩
  have tM3 : tM N N3 := fun c j hc => by rw [f3 c j (by omega), a5 c j (by omega)]
  have tC2 : tC M M2 := fun c j hc => by rw [a4 c j (by omega), f1 c j (by omega)]
  -- fixed parts
  have fx := fixed_both (t := t) (L := L) (p := p) 30 0 M2 N3 hb3 p2 z3 s3 (by omega) w9.1 (by omega)
  rw [g11, c127 12 (by omega), v127.1.1, Int.add_zero] at fx
  rw [q_Parting_giveFixed] at eC
  have qt : ∀ {A B : em_M}, qC A B → tC M A → tC M B := fun h k c j hc => by rw [h c j (by omega), k c j hc]
  have qt2 : ∀ {A B : em_M}, qM A B → tM N A → tM N B := fun h k c j hc => by rw [h c j (by omega), k c j hc]
  rcases fx with ⟨M3, N4, u1, u2, u3, u4, u5, u6, u7, u8⟩ | ⟨g, M3, N4, u1, u2, u3, u6, u7⟩
  · rw [u1] at eC
    simp only [Option.bind_some, em_cd] at eC
    rw [if_neg (by omega)] at eC
    rw [u2] at eM
    rcases lessen_both (hb3.fr u6 u7) u4 u3 u5 with ⟨M4, N5, x1, x2, x3, x4, x5, x6, x7, x8, x9, x10, x11⟩ | ⟨M4, N5, x1, x2, x3, x4, x5⟩
    · rw [x1] at eC
      simp only [Option.bind_some, em_cd] at eC
      rw [if_neg (by omega)] at eC
      rw [x2] at eM
      have x8q : qC M3 M4 := fun c j hc => x8 c j (by omega)
      have hb5 : bR M4 N5 t L p := (hb3.fr u6 u7).fr x8q x9
      have l11 : M4 0 11 = M 0 11 := by rw [x8q _ _ (by omega), u6 _ _ (by omega)]; exact g11
      have l60 : M4 6 0 = M2 6 0 := by rw [x8q _ _ (by omega), u6 _ _ (by omega)]
      have gp : gPre M4 N5 t L p := by
        refine ⟨hb5, x6, x3, x4, x5, ⟨?_, ?_, ?_⟩, fun x x0 x1 => ?_⟩
        · rw [x8 127 17 (by omega), u8.2.1 17 (by omega) (by omega), c127 17 (by omega)]; exact v127.2.2.2
        · rw [x8 127 13 (by omega), u8.2.1 13 (by omega) (by omega), c127 13 (by omega)]; exact v127.1.2
        · rw [x8 127 16 (by omega), u8.2.1 16 (by omega) (by omega), c127 16 (by omega)]; exact v127.2.2.1
        · rw [x11, u8.2.2]
          exact (b2' x x0 (by omega)).1.2
      have rb := rest_both gp
      rw [l11] at rb
      rcases rb with ⟨M5, N6, y1, y2, y3, y4, y5, y6, ⟨y7, y8⟩, y9, y10⟩ | ⟨M5, N6, y1, y2, y3, y4, y5⟩
      · rw [y1] at eC
        simp only [Option.bind_some, em_cd] at eC
        rw [if_neg (by omega), q_Parting_passAll] at eC
        rw [y2] at eM
        have hb6 : bR M5 N6 t L p := hb5.fr y5 y6
        have qAll : qC M2 M5 := (u6.tr x8q).tr y5
        have qAllM : qM N3 N6 := (u7.tr x9).tr y6
        have zAll : zC M2 M5 := ((u8.1.tr u6 x10)).tr (u6.tr x8q) y10
        have m60 : M5 6 0 = M2 6 0 := qAll _ _ (by omega)
        have m11 : M5 0 11 = M2 0 11 := qAll _ _ (by omega)
        have k60 : N6 439 47 = M2 6 0 := by rw [qAllM _ _ (by omega), f3 _ _ (by omega)]; exact f47
        have hdn : dn M5 N6 t L (M2 6 0) := by
          obtain ⟨⟨-, hst, hl, -⟩, ⟨q1, ⟨q2, -⟩, q3, -⟩, ⟨q4, q5⟩, -⟩ := hb6
          rw [m60] at q1 q2 hl
          refine ⟨⟨n0, hn⟩, ⟨k60, q5, q3⟩, hl, fun y y0 y1 => q2 y y0 y1, fun c c0 c1 => ?_, q1⟩
          obtain ⟨-, r1, r2, -⟩ := hS2.1.1.2.2.2 c c0 c1
          rw [qAllM 469 c (by omega), qAllM 470 c (by omega), f3 469 c (by omega), f3 470 c (by omega), hS2.2.1 469 c (by unfold sStat; omega), hS2.2.1 470 c (by unfold sStat; omega)]
          omega
        have hsh : sh M5 N6 (M2 6 0) := ⟨fun x x0 x1 => by
          obtain ⟨-, -, ⟨q1, q2⟩⟩ := b2' x x0 x1
          rw [qAll 134 x (by omega), a4 134 x (by omega), (v133 x x0 (by omega)).2, qAllM 497 x (by omega), qAllM 498 x (by omega), q1, q2]
          exact ⟨fr_ok_1.1, fr_ok_1.2.1.symm, fr_ok_1.2.2.symm⟩, fun x x0 x1 _ => by
          rw [qAll 134 x (by omega), a4 134 x (by omega)]
          exact (v133 x (by omega) x1).2⟩
        have hon : ∀ x, 0 ≤ x → x < M2 6 0 → 0 < fr_up (M5 133 x) → onl N6 t x := fun x x0 x1 pos => by
          have ex : ∃ k, 0 ≤ k ∧ k < 20 ∧ tb (M2 128 k) x = true := Classical.byContradiction (fun no => by
            have := zAll x x0 (by omega) (by rw [a4 133 x (by omega)]; exact (v133 x x0 (by omega)).1) (fun k k0 k1 k2 => no ⟨k, k0, k1, k2⟩)
            rw [this, fr_ok_1.2.1] at pos
            omega)
          obtain ⟨k, k0, k1, k2⟩ := ex
          have hs5 := hb3.2.1.2.2.2.1.1 k k0 (by omega) k1
          by_cases kK : k < M2 (M2 0 11) 0
          · rw [hs5.1 kK] at k2
            have hd1 := (hb3.head k0 kK).2
            have hx := ((hd1.at_ x0 (by omega)).mp k2).2.2
            unfold onl lvs at *
            rw [qAllM 471 x (by omega), qAllM 472 x (by omega), qAllM 490 x (by omega)]
            exact hx.imp id (fun z => z.2)
          · rw [hs5.2 (by omega), tb_0] at k2
            cases k2
        have pp := y4.1
        rcases all_both 30 0 M5 N6 hdn hsh y3 (fun x x0 x1 => pp.1 x x0 (by omega)) (fun x x0 x1 => pp.2.1 x (by omega) x1) hon (by omega) n0 (by omega) with ⟨M6, N7, z1, z2, z3', z4, z5, z6⟩ | ⟨M6, N7, z1, z2, z3', z5, z6⟩
        · left
          rw [z1] at eC
          simp only [Option.bind_some, em_cd] at eC
          rw [if_neg (by omega)] at eC
          rw [z2] at eM
          have hb7 : bR M6 N7 t L p := hb6.frw (fun c j hc => z5 c j (by omega)) (fun c j hc => z6 c j (by omega))
          have o60 : M6 6 0 = M2 6 0 := by rw [z5 _ _ (by omega)]; exact m60
          refine ⟨M6, N7, eC, eM, z3', ⟨by rw [o60]; exact z4, fun x x0 x1 x2 => z4.2 x x0 x1 (by rw [hb7.2.1.2.2.1]; exact x2), ?_, ?_, hb7, ⟨?_, ?_, ?_, ?_⟩, ?_, ?_, ?_, ?_⟩, fun c j hc => ?_, fun c j hc => ?_⟩
          · rw [z5 127 14 (by omega), z6 439 86 (by omega), z6 439 87 (by omega), y7, y9 86 (by omega) (by omega), y9 87 (by omega) (by omega)]
            exact x7
          · rw [z6 439 91 (by omega), z6 439 88 (by omega), z6 439 89 (by omega), z5 127 16 (by omega), y9 88 (by omega) (by omega), y9 89 (by omega) (by omega)]
            rcases y4.2.2.1 with q | ⟨q1, q2⟩
            · exact Or.inl q
            · refine Or.inr ⟨q1, ?_⟩
              rw [q2, y8]
              exact x4
          · rw [o60]
            intro x x0 x1
            rw [z5 133 x (by omega), z6 495 x (by omega), z6 496 x (by omega)]
            exact pp.1 x x0 (by omega)
          · rw [o60]
            intro x x0 x1
            rw [z5 133 x (by omega)]
            exact pp.2.1 x (by omega) x1
          · rw [o60, z5 127 12 (by omega)]
            have := pp.2.2.1
            rw [m60] at this
            refine this.cong (fun x _ _ => ?_)
            rw [z6 493 x (by omega)]
          · rw [o60]
            intro x x0 x1
            rw [z6 493 x (by omega), z5 130 x (by omega)]
            exact pp.2.2.2 x x0 (by omega)
          · rw [z5 127 17 (by omega), z6 439 90 (by omega)]
            exact y4.2.1
          · rw [z6 439 91 (by omega), z5 127 16 (by omega), z5 127 15 (by omega)]
            exact y4.2.2.1
          · rw [o60, z5 127 13 (by omega)]
            have := y4.2.2.2.1
            rw [m60] at this
            refine this.cong (fun x _ _ => ?_)
            rw [z6 493 x (by omega), z6 494 x (by omega)]
          · rw [o60]
            intro x x0 x1
            rw [z6 494 x (by omega), z6 439 90 (by omega)]
            exact y4.2.2.2.2 x x0 (by omega)
          · rw [z5 c j (by omega), qAll c j (by omega), tC2 c j hc]
          · rw [z6 c j (by omega), qAllM c j (by omega), tM3 c j hc]
        · right
          rw [z1] at eC
          simp only [Option.bind_some, em_cd, if_true] at eC
          rw [z2] at eM
          exact ⟨M6, N7, eC, eM, z3', fun c j hc => by rw [z5 c j (by omega), qAll c j (by omega), tC2 c j hc], fun c j hc => by rw [z6 c j (by omega), qAllM c j (by omega), tM3 c j hc]⟩
      · right
        rw [y1] at eC
        simp only [Option.bind_some, em_cd, if_true] at eC
        rw [y2] at eM
        exact ⟨M5, N6, eC, eM, y3, qt y4 (qt x8q (qt u6 tC2)), qt2 y5 (qt2 x9 (qt2 u7 tM3))⟩
    · right
      rw [x1] at eC
      simp only [Option.bind_some, em_cd, if_true] at eC
      rw [x2] at eM
      exact ⟨M4, N5, eC, eM, x3, qt x4 (qt u6 tC2), qt2 x5 (qt2 u7 tM3)⟩
  · right
    rw [u1] at eC
    simp only [Option.bind_some, em_cd, if_true] at eC
    rw [u2] at eM
    have e400 := q_Model_parts_400 g N4
    generalize hX : xup (xup (xup (xup N4 439 90 (-1)) 439 91 0) 439 88 0) 439 89 1 = X at e400
    have fX : ∀ a j, ¬ (a = 439 ∧ 88 ≤ j ∧ j ≤ 91) → X a j = N4 a j := fun a j ha => by rw [← hX, xup_ne (by omega), xup_ne (by omega), xup_ne (by omega), xup_ne (by omega)]
    have zX : X 439 44 = 1 := by rw [fX _ _ (by omega)]; exact u3
    rw [zX] at e400
    simp only [em_cd] at e400
    rw [if_neg (by omega)] at e400
    exact ⟨M3, X, eC, eM.trans e400, zX, qt u6 tC2, fun c j hc => by rw [fX c j (by omega), qt2 u7 tM3 c j hc]⟩
end
