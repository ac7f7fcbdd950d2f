/-! THE ARM would, put together. -/
section
variable {M N : em_M}
/-- the reference's would, when it is to be worked out, from any state with its cells -/
theorem would_open {Z : em_M} {p t : Int} (h : Rel M) (hZ : ∀ c j, 439 ≤ c → Z c j = M c j) (p0 : 0 ≤ p) (p1 : p < M 6 0) (c2 : M 11 p = -1) (c3 : ¬ t < M 136 1) (c4 : ¬ 100000 < t) (c5 : M 10 p ≤ t) : f_Model_would p t Z = (f_Model_saves 30 Z).bind fun r2 => (f_Model_settles p (xup (xup (xup r2.2 439 44 0) 439 75 t) 472 p t)).bind fun r3 => if ¬ (xup r3.2 472 p (-1)) 439 44 = 0 then f_Model_would_99 (xup r3.2 472 p (-1)) else (f_Model_keeps 30 (xup r3.2 472 p (-1))).bind fun r4 => (f_Model_copies 30 31 r4.2).bind fun r5 => f_Model_would_99 (xup r5.2 439 114 1) := by
  obtain ⟨hT, hP, hD, hM, hO, hL, hW, hK, hH, hS, hN, hF⟩ := id h
  have hn := hP.2.2.1
  have h72 := hH.2.1.1
  have d472 : M 472 p = M 11 p := (hD.2 p p0 p1).1.1.1
  have d471 : M 471 p = M 10 p := (hP.2.2.2 p p0 p1).2.2.2.1
  have e2 := q_Model_would p t Z
  simp only [em_cd, m_isPerson, Option.bind_some, b2_z, q_Model_isDue, hZ 439 47 (by omega), hZ 439 72 (by omega), hZ 472 p (by omega), hZ 471 p (by omega), hP.1] at e2
  rw [if_neg (fun z => z ⟨p0, p1⟩), if_pos (by omega), d472, if_neg (fun z => z c2), h72, if_neg c3, if_neg c4] at e2
  simp only [Option.bind_some, hZ 471 p (by omega)] at e2
  rw [if_neg (by omega), if_pos (by omega), d471, if_pos c5] at e2
  rw [e2]
  congr 1
  funext r2
  rw [if_pos (by omega)]
  congr 1
  funext r3
  rw [if_pos (by omega)]
/-- would, when it is SPENT -/
theorem would_fail {B M1 : em_M} {t p L : Int} (h : Rel M) (t0 : 0 ≤ t) (t1 : t ≤ 100000) (p0 : 0 ≤ p) (p1 : p < M 6 0) (c2 : M 11 p = -1) (c3 : ¬ t < M 136 1) (c5 : M 10 p ≤ t) (hk : kTab B t) (h25 : B 25 2 = t) (gB : ∀ c j, ¬ ((c = 25 ∧ 2 ≤ j ∧ j ≤ 4) ∨ (27 ≤ c ∧ c ≤ 50) ∨ c = 135 ∨ (c = 126 ∧ (j = 5 ∨ j = 6))) → B c j = M c j) (v1 : ∀ x, 0 ≤ x → x < 30 → B 135 x = M 12 x) (v2 : B 126 5 = M 136 2 ∧ B 126 6 = M 136 3) (zB : fCw 354 B M1) (hL : mk L (fun x => ((x < M 6 0 ∧ M 10 x ≤ t) ∧ ¬ (¬ M 11 x = -1 ∧ M 11 x ≤ t)) ∧ ¬ x = p)) (w : f_Settlement_workOut (B 0 11) p t L 354 B = some (0, M1)) : ∃ M2, f_Model_would p t M1 = some (-2, M2) ∧ Scr M1 M2 ∧ Rel M2 := by
  have hn := h.2.1.2.2.1
  have n0 := h.2.1.2.1
  have hw := h.2.2.2.2.2.2.1.1
  have hw20 := h.2.2.2.2.2.2.1.2.2.2.1.2.2
  have zF1 : zF B M1 := fun c j hc => zB c j (by omega)
  have ez : ∀ c j, 439 ≤ c → M1 c j = M c j := fun c j hc => by rw [zB c j (by omega), gB c j (by omega)]
  have hE : isE 354 := ⟨30, by omega, by omega, by omega⟩
  have B6 : B 6 0 = M 6 0 := gB _ _ (by omega)
  obtain ⟨N1, s1, ⟨s2, s3, s4, s5, s6⟩, s7, s8, s9⟩ := would_state h t0 t1 p0 p1 hk gB v1 v2 zF1 hL
  have e2 := would_open h ez p0 p1 c2 c3 (by omega) c5
  rw [s1] at e2
  simp only [Option.bind_some] at e2
  generalize hX : xup (xup (xup N1 439 44 0) 439 75 t) 472 p t = X at e2 s2 s3 s4 s5 s6
  have fX : ∀ c j, ¬ (((c = 518 ∨ c = 519) ∧ 960 ≤ j ∧ j < 992) ∨ (c = 439 ∧ (j = 44 ∨ j = 75)) ∨ (c = 472 ∧ j = p)) → X c j = M1 c j := fun c j hc => by rw [← hX, xup_ne (by omega), xup_ne (by omega), xup_ne (by omega), s9 c j (by omega)]
  have gX : ∀ c j, c = 518 ∨ c = 519 → X c j = N1 c j := fun c j hc => by rw [← hX, xup_ne (by omega), xup_ne (by omega), xup_ne (by omega)]
  rcases work_both hE s2 s3 p0 (by omega) s4 s5 s6 with ⟨A, Nf, w1, -⟩ | ⟨A, Nf, w1, w2, w3, w4, w5⟩
  · rw [w] at w1
    cases w1
  · rw [w2] at e2
    simp only [Option.bind_some] at e2
    have z44 : (xup Nf 472 p (-1)) 439 44 = 1 := by rw [xup_ne (by omega)]; exact w3
    rw [z44, if_pos (by omega), q_Model_would_99] at e2
    have f47 : (xup Nf 472 p (-1)) 439 47 = M 6 0 := by rw [xup_ne (by omega), w5 _ _ (by omega), fX _ _ (by omega), ez _ _ (by omega)]; exact h.2.1.1
    obtain ⟨Z, k1, k2, k3, k4⟩ := m_takesBack' (M := xup Nf 472 p (-1)) (t := 30) (m := M 6 0) (by omega) (by omega) n0 hn
    rw [f47, k1] at e2
    simp only [Option.bind_some, em_cd] at e2
    rw [k4 439 44 (by omega), z44, if_neg (by omega)] at e2
    have fZ : ∀ c j, ¬ (((c = 474 ∨ c = 475) ∧ 0 ≤ j ∧ j < M 6 0) ∨ ((c = 487 ∨ c = 488) ∧ (j = 0 ∨ j = 1)) ∨ (c = 472 ∧ j = p)) → Z c j = Nf c j := fun c j hc => by rw [k4 c j (by omega), xup_ne (by omega)]
    have sv : ∀ c j, c = 518 ∨ c = 519 → (xup Nf 472 p (-1)) c j = N1 c j := fun c j hc => by rw [xup_ne (by omega), w5 c j (by omega), gX c j hc]
    have cls : ∀ c j, c ≤ 438 → Z c j = M1 c j := fun c j hc => by rw [fZ c j (by omega), w5 c j (by omega), fX c j (by omega)]
    have k3' : Z 487 0 = (xup Nf 472 p (-1)) 518 990 ∧ Z 488 0 = (xup Nf 472 p (-1)) 519 990 ∧ Z 487 1 = (xup Nf 472 p (-1)) 518 991 ∧ Z 488 1 = (xup Nf 472 p (-1)) 519 991 := k3
    rw [sv 518 _ (Or.inl rfl), sv 519 _ (Or.inr rfl), sv 518 _ (Or.inl rfl), sv 519 _ (Or.inr rfl), s8.1, s8.2.1, s8.2.2.1, s8.2.2.2] at k3'
    have rc : ∀ c j, 439 ≤ c → ¬ ((c = 439 ∧ ((44 ≤ j ∧ j ≤ 46) ∨ (74 ≤ j ∧ j ≤ 101) ∨ j = 114)) ∨ (489 ≤ c ∧ c ≤ 505) ∨ (507 ≤ c ∧ c ≤ 510 ∧ 30 ≤ j) ∨ (c = 511 ∧ 300 ≤ j) ∨ (c = 512 ∧ 5400 ≤ j) ∨ (513 ≤ c ∧ c ≤ 514 ∧ 900 ≤ j) ∨ ((c = 518 ∨ c = 519) ∧ 960 ≤ j) ∨ (c = 472 ∧ j = p) ∨ (474 ≤ c ∧ c ≤ 475) ∨ (487 ≤ c ∧ c ≤ 488)) → Z c j = M c j := by
      refine ref_chain (p := p) ez fX w5 (fun c j c0 hc => ?_)
      clear ez fX gX sv cls w5 k2 k3 k3' s7 s8 s9 s2 s3
      exact fZ c j (by omega)
    have fin : aF M Z := by
      refine aF_of (p := p) gB (fun c j c0 hc => ?_) rc ?_ (fun j j0 j1 => ?_) ⟨⟨k3'.1, k3'.2.1⟩, k3'.2.2.1, k3'.2.2.2⟩
      · rw [cls c j c0]
        clear cls sv gX fX ez rc s9 w5 k4 fZ
        exact zB c j (by omega)
      · rw [k4 472 p (by omega), xup_eq, (h.2.2.1.2 p p0 p1).1.1.1, c2]
      · have hk2 := k2 j j0 j1
        have hs7 := s7 j j0 (by omega)
        rw [hk2.1, hk2.2, sv 518 _ (Or.inl rfl), sv 519 _ (Or.inr rfl), show 32 * 30 + j = 960 + j by omega]
        exact hs7
    refine ⟨Z, e2, ⟨fun j => cls _ _ (by omega), cls _ _ (by omega)⟩, fin.rel h t0 t1 (kTab_fr hk ?_ ?_ (fun c j hc => ?_)) ?_ ?_⟩
    · rw [gB 0 11 (by omega)]; exact hw
    · rw [gB 0 11 (by omega), gB (M 0 11) 0 (by omega)]; exact hw20
    · rw [cls c j (by omega), zB c j (by omega)]
    · rw [cls 25 2 (by omega), zB 25 2 (by omega)]; exact h25
    · have hRN := h.2.2.2.2.2.2.2.2.2.2.1
      have w5' := w5
      unfold fM at w5'
      clear rc k2 k3 k3' sv s7 s8 gX fin h s2 s3 k4 w5
      refine RN_fr hRN (fun c j hc => ?_)
      rcases hc with hc | ⟨rfl, rfl⟩ | hc
      · rw [cls c j (by omega), zB c j (by omega), gB c j (by omega)]
      · rw [fZ 439 114 (by omega), w5' 439 114 (by omega), fX 439 114 (by omega), ez 439 114 (by omega)]
      · rw [fZ c j (by omega), w5' c j (by omega), fX c j (by omega), ez c j (by omega)]
end
