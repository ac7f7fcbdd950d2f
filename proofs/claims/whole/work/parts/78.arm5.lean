/-! THE ARM would, worked out. -/
section
variable {M N : em_M}
/-- would, when it comes to an end -/
theorem would_ok {B M1 M2 : em_M} {t p L : Int} (h : Rel M) (t0 : 0 ≤ t) (t1 : t ≤ 100000) (p0 : 0 ≤ p) (p1 : p < M 6 0) (c2 : M 11 p = -1) (c3 : ¬ t < M 136 1) (c5 : M 10 p ≤ t) (hk : kTab B t) (h25 : B 25 2 = t) (gB : ∀ c j, ¬ ((c = 25 ∧ 2 ≤ j ∧ j ≤ 4) ∨ (27 ≤ c ∧ c ≤ 50) ∨ c = 135 ∨ (c = 126 ∧ (j = 5 ∨ j = 6))) → B c j = M c j) (v1 : ∀ x, 0 ≤ x → x < 30 → B 135 x = M 12 x) (v2 : B 126 5 = M 136 2 ∧ B 126 6 = M 136 3) (zB : fCw 354 B M1) (hL : mk L (fun x => ((x < M 6 0 ∧ M 10 x ≤ t) ∧ ¬ (¬ M 11 x = -1 ∧ M 11 x ≤ t)) ∧ ¬ x = p)) (w : f_Settlement_workOut (B 0 11) p t L 354 B = some (1, M1)) (y1 : ∀ j, 0 ≤ j → j < 9 → M2 360 j = M1 354 j) (y2 : ∀ c j, 1 ≤ c → c ≤ 5 → 0 ≤ j → j < 30 → M2 (360 + c) j = M1 (354 + c) j) (y3 : ∀ c j, ¬ (360 ≤ c ∧ c ≤ 365) → M2 c j = M1 c j) : ∃ Z, f_Model_would p t M2 = some (0, Z) ∧ Scr M2 Z ∧ Rel Z := by
  have hn := h.2.1.2.2.1
  have n0 := h.2.1.2.1
  have hw := h.2.2.2.2.2.2.1.1
  have hs17 := h.2.2.2.2.2.2.1.2.2.1
  have hK20 := h.2.2.2.2.2.2.1.2.2.2.1
  have ez : ∀ c j, 439 ≤ c → M2 c j = M c j := fun c j hc => by rw [y3 c j (by omega), zB c j (by omega), gB c j (by omega)]
  have hE : isE 354 := ⟨30, by omega, by omega, by omega⟩
  have B6 : B 6 0 = M 6 0 := gB _ _ (by omega)
  have zF1 : zF B M2 := fun c j hc => by rw [y3 c j (by omega), zB c j (by omega)]
  obtain ⟨N1, s1, ⟨s2, s3, s4, s5, s6⟩, s7, s8, s9⟩ := would_state h t0 t1 p0 p1 hk gB v1 v2 zF1 hL
  have e2 := would_open h ez p0 p1 c2 c3 (by omega) c5
  rw [s1] at e2
  simp only [Option.bind_some] at e2
  generalize hX : xup (xup (xup N1 439 44 0) 439 75 t) 472 p t = X at e2 s2 s3 s4 s5 s6
  have fX : ∀ c j, ¬ (((c = 518 ∨ c = 519) ∧ 960 ≤ j ∧ j < 992) ∨ (c = 439 ∧ (j = 44 ∨ j = 75)) ∨ (c = 472 ∧ j = p)) → X c j = M2 c j := fun c j hc => by rw [← hX, xup_ne (by omega), xup_ne (by omega), xup_ne (by omega), s9 c j (by omega)]
  have gX : ∀ c j, c = 518 ∨ c = 519 → X c j = N1 c j := fun c j hc => by rw [← hX, xup_ne (by omega), xup_ne (by omega), xup_ne (by omega)]
  rcases work_both hE s2 s3 p0 (by omega) s4 s5 s6 with ⟨A, Nf, w1, w2, w3, w4, w4', -, w5⟩ | ⟨A, Nf, w1, -⟩
  case inr =>
    rw [w] at w1
    cases w1
  rw [w] at w1
  have eA : M1 = A := by
    cases w1
    rfl
  subst eA
  rw [w2] at e2
  simp only [Option.bind_some] at e2
  have w5' := w5
  unfold fM at w5'
  have g : ∀ c j, 439 ≤ c → ¬ (((c = 518 ∨ c = 519) ∧ 960 ≤ j ∧ j < 992) ∨ (c = 472 ∧ j = p) ∨ (c = 439 ∧ ((44 ≤ j ∧ j ≤ 46) ∨ (74 ≤ j ∧ j ≤ 101))) ∨ c = 474 ∨ c = 475 ∨ (487 ≤ c ∧ c ≤ 505)) → (xup Nf 472 p (-1)) c j = M c j := fun c j c0 hc => by
    rw [xup_ne (by omega), w5' c j (by omega), fX c j (by omega), ez c j c0]
  have z44 : (xup Nf 472 p (-1)) 439 44 = 0 := by rw [xup_ne (by omega)]; exact w3
  rw [z44, if_neg (by omega)] at e2
  have M16 : M1 6 0 = M 6 0 := by rw [zB 6 0 (by omega), B6]
  have M1b : ∀ c j, ¬ ((c = 25 ∧ 2 ≤ j ∧ j ≤ 4) ∨ (27 ≤ c ∧ c ≤ 50) ∨ (126 ≤ c ∧ c ≤ 135) ∨ (354 ≤ c ∧ c ≤ 359)) → M1 c j = M c j := fun c j hc => by rw [zB c j (by omega), gB c j (by omega)]
  have m17 := M1b 439 17 (by omega)
  have m011 := M1b 0 11 (by omega)
  obtain ⟨N3, k1, k2, k3⟩ := keeps_both (e := 30) (eR_fr w4' (N' := xup Nf 472 p (-1)) (fun c j hc => xup_ne (by omega))) p0 (by omega) (by omega) (by omega) (by omega) (by omega) (by rw [g 439 47 (by omega) (by omega), M16]; exact h.2.1.1) (by rw [m17]; exact hs17) (by rw [g 439 17 (by omega) (by omega), m17]) (by rw [g 447 _ (by omega) (by omega), m17, m011, M1b (M 0 11) 0 (by omega)]; exact hK20.1) (by rw [m011, M1b (M 0 11) 0 (by omega)]; exact hK20.2.2)
  rw [k1] at e2
  simp only [Option.bind_some] at e2
  unfold kF at k3
  obtain ⟨N4, i1, i2, i3, i4, i5, i6⟩ := m_copies (M := N3) (e := 30) (by omega) (by omega)
  rw [i1] at e2
  simp only [Option.bind_some] at e2
  generalize hY : xup N4 439 114 1 = Y at e2
  have fY : ∀ c j, ¬ ((c = 439 ∧ j = 114) ∨ (507 ≤ c ∧ c ≤ 510 ∧ j = 31) ∨ (c = 511 ∧ 310 ≤ j) ∨ (c = 512 ∧ 5580 ≤ j) ∨ (513 ≤ c ∧ c ≤ 514 ∧ 930 ≤ j)) → Y c j = N3 c j := fun c j hc => by rw [← hY, xup_ne (by omega), i6 c j (by omega)]
  have vY : Y 439 114 = 1 := by rw [← hY, xup_eq]
  have nY : ∀ c j, ¬ c = 439 → Y c j = N4 c j := fun c j hc => by rw [← hY, xup_ne (by omega)]
  rw [q_Model_would_99] at e2
  have f47 : Y 439 47 = M 6 0 := by rw [fY _ _ (by omega), k3 _ _ (by omega), g 439 47 (by omega) (by omega)]; exact h.2.1.1
  obtain ⟨Z, l1, l2, l3, l4⟩ := m_takesBack' (M := Y) (t := 30) (m := M 6 0) (by omega) (by omega) n0 hn
  rw [f47, l1] at e2
  simp only [Option.bind_some, em_cd] at e2
  rw [l4 439 44 (by omega), fY 439 44 (by omega), k3 439 44 (by omega), z44, if_pos rfl] at e2
  have sv : ∀ c j, c = 518 ∨ c = 519 → Y c j = N1 c j := fun c j hc => by rw [fY c j (by omega), k3 c j (by omega), xup_ne (by omega), w5' c j (by omega), gX c j hc]
  have cls : ∀ c j, c ≤ 438 → Z c j = M2 c j := fun c j hc => by rw [l4 c j (by omega), fY c j (by omega), k3 c j (by omega), xup_ne (by omega), w5' c j (by omega), fX c j (by omega)]
  have l3' : Z 487 0 = Y 518 990 ∧ Z 488 0 = Y 519 990 ∧ Z 487 1 = Y 518 991 ∧ Z 488 1 = Y 519 991 := l3
  rw [sv 518 _ (Or.inl rfl), sv 519 _ (Or.inr rfl), sv 518 _ (Or.inl rfl), sv 519 _ (Or.inr rfl), s8.1, s8.2.1, s8.2.2.1, s8.2.2.2] at l3'
  have zN3 : ∀ c j, 439 ≤ c → ¬ ((c = 439 ∧ j = 114) ∨ (507 ≤ c ∧ c ≤ 510 ∧ j = 31) ∨ (c = 511 ∧ 310 ≤ j) ∨ (c = 512 ∧ 5580 ≤ j) ∨ (513 ≤ c ∧ c ≤ 514 ∧ 930 ≤ j) ∨ (474 ≤ c ∧ c ≤ 475) ∨ (487 ≤ c ∧ c ≤ 488)) → Z c j = N3 c j := fun c j c0 hc => by rw [l4 c j (by omega), fY c j (by omega)]
  have nf : ∀ c j, 439 ≤ c → ¬ ((507 ≤ c ∧ c ≤ 510 ∧ j = 30) ∨ (c = 511 ∧ 300 ≤ j ∧ j < 310) ∨ (c = 512 ∧ 5400 ≤ j ∧ j < 5580) ∨ (513 ≤ c ∧ c ≤ 514 ∧ 900 ≤ j ∧ j < 930) ∨ (c = 472 ∧ j = p)) → N3 c j = Nf c j := fun c j c0 hc => by rw [k3 c j (by omega), xup_ne (by omega)]
  have rc : ∀ c j, 439 ≤ c → ¬ ((c = 439 ∧ ((44 ≤ j ∧ j ≤ 46) ∨ (74 ≤ j ∧ j ≤ 101) ∨ j = 114)) ∨ (489 ≤ c ∧ c ≤ 505) ∨ (507 ≤ c ∧ c ≤ 510 ∧ 30 ≤ j) ∨ (c = 511 ∧ 300 ≤ j) ∨ (c = 512 ∧ 5400 ≤ j) ∨ (513 ≤ c ∧ c ≤ 514 ∧ 900 ≤ j) ∨ ((c = 518 ∨ c = 519) ∧ 960 ≤ j) ∨ (c = 472 ∧ j = p) ∨ (474 ≤ c ∧ c ≤ 475) ∨ (487 ≤ c ∧ c ≤ 488)) → Z c j = M c j := by
    refine ref_chain (p := p) ez fX w5 (fun c j c0 hc => ?_)
    clear ez fX gX sv cls w5 w5' l2 l3 l3' s7 s8 s9 s2 s3 fY k3 nY l4 g
    rw [zN3 c j c0 (by omega), nf c j c0 (by omega)]
  have fin : aF M Z := by
    refine aF_of (p := p) gB (fun c j c0 hc => ?_) rc ?_ (fun j j0 j1 => ?_) ⟨⟨l3'.1, l3'.2.1⟩, l3'.2.2.1, l3'.2.2.2⟩
    · rw [cls c j c0]
      clear cls sv gX fX ez rc s9 w5 w5' fY k3 nY l4 g zN3 nf
      rw [y3 c j (by omega), zB c j (by omega)]
    · rw [l4 472 p (by omega), fY 472 p (by omega), k3 472 p (by omega), xup_eq, (h.2.2.1.2 p p0 p1).1.1.1, c2]
    · have hk2 := l2 j j0 j1
      have hs7 := s7 j j0 (by omega)
      rw [hk2.1, hk2.2, sv 518 _ (Or.inl rfl), sv 519 _ (Or.inr rfl), show 32 * 30 + j = 960 + j by omega]
      exact hs7
  have hRE : RE Z 360 31 := by
    have hre := (k2.fr (M' := fun c j => if c ≤ 438 then M1 c j else N3 c j) (N' := fun c j => if c ≤ 438 then M1 c j else N3 c j) (fun c j c0 c1 => if_pos (by omega)) (fun c j c0 c1 => if_neg (by omega))).re
    refine RE_copy hre (by omega) (fun j j0 j1 => ?_) (fun c j c0 c1 j0 j1 => ?_) ?_ (fun k k0 k1 => ?_) (fun k k0 k1 => ?_) (fun k k0 k1 => ?_)
    · rw [cls 360 j (by omega), if_pos (by omega)]; exact y1 j j0 j1
    · rw [cls (360 + c) j (by omega), if_pos (by omega)]; exact y2 c j c0 c1 j0 j1
    · rw [if_neg (by omega), if_neg (by omega), if_neg (by omega), if_neg (by omega), l4 507 31 (by omega), l4 508 31 (by omega), l4 509 31 (by omega), l4 510 31 (by omega), nY _ _ (by omega), nY _ _ (by omega), nY _ _ (by omega), nY _ _ (by omega)]
      exact i2
    · rw [if_neg (by omega), l4 511 _ (by omega), nY _ _ (by omega)]
      exact i3 k k0 k1
    · rw [if_neg (by omega), l4 512 _ (by omega), nY _ _ (by omega)]
      exact i4 k k0 k1
    · rw [if_neg (by omega), if_neg (by omega), l4 513 _ (by omega), l4 514 _ (by omega), nY _ _ (by omega), nY _ _ (by omega)]
      exact i5 k k0 k1
  refine ⟨Z, e2, ⟨fun j => cls _ _ (by omega), cls _ _ (by omega)⟩, fin.rel h t0 t1 (kTab_fr hk ?_ ?_ (fun c j hc => ?_)) ?_ (Or.inr ⟨?_, hRE⟩)⟩
  · rw [gB 0 11 (by omega)]; exact hw
  · rw [gB 0 11 (by omega), gB (M 0 11) 0 (by omega)]; exact hK20.2.2
  · rw [cls c j (by omega), zF1 c j (by omega)]
  · rw [cls 25 2 (by omega), zF1 25 2 (by omega)]; exact h25
  · rw [l4 439 114 (by omega)]; exact vY
end
