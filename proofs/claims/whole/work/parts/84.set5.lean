/-! THE ARM settle, worked out. -/
section
variable {M N C : em_M}
/-- the relation after a settlement -/
theorem settle_rel {B C' A X R' Z : em_M} {t d : Int} (h : Rel M) (t0 : 0 ≤ t) (hdu : duS M t) (hd : M 136 0 = d) (d1 : d < 30) (hk : kTab B t) (h25 : B 25 2 = t) (gB : ∀ c j, ¬ ((c = 25 ∧ 2 ≤ j ∧ j ≤ 4) ∨ (27 ≤ c ∧ c ≤ 50) ∨ c = 135 ∨ (c = 126 ∧ (j = 5 ∨ j = 6))) → B c j = M c j) (cF : clF (M 6 1) 0 (M 6 0) B C')
    (a2 : A 137 d = M 6 1 ∧ A 138 d = C' 6 0 ∧ A 139 d = C' 136 1 ∧ A 140 d = C' 136 2 ∧ A 141 d = C' 136 3) (a3 : ∀ x, 0 ≤ x → x < 30 → A (143 + d) x = C' 12 x) (a4 : A 136 0 = d + 1 ∧ A 136 1 = t ∧ A 6 1 = 0) (a5 : ∀ x, 0 ≤ x → x < C' 6 0 → A 11 x = if tb (M 6 1) x = true then t else C' 11 x) (a6 : A 136 2 = C' 126 5 ∧ A 136 3 = C' 126 6) (a7 : ∀ x, 0 ≤ x → x < 30 → A 12 x = C' 135 x) (a8 : ∀ c j, ¬ ((c = 6 ∧ j = 1) ∨ (c = 11 ∧ 0 ≤ j ∧ j < C' 6 0) ∨ (c = 12 ∧ 0 ≤ j ∧ j < 30) ∨ (c = 136 ∧ 0 ≤ j ∧ j ≤ 3) ∨ (137 ≤ c ∧ c ≤ 141 ∧ j = d) ∨ (c = 143 + d ∧ 0 ≤ j ∧ j < 30)) → A c j = C' c j)
    (s6 : ∀ x, 0 ≤ x → x < M 6 0 → X 473 x = b2 (tb (M 6 1) x = true) ∧ (tb (M 6 1) x = true → ¬ lvs X t x)) (s7 : ∀ x, 0 ≤ x → x < 30 → X 518 (32 * d + x) = M 474 x ∧ X 519 (32 * d + x) = M 475 x) (s8 : X 518 (32 * d + 30) = M 487 0 ∧ X 519 (32 * d + 30) = M 488 0 ∧ X 518 (32 * d + 31) = M 487 1 ∧ X 519 (32 * d + 31) = M 488 1) (s9 : ∀ x, 0 ≤ x → x < M 6 0 → X 472 x = if tb (M 6 1) x = true then t else M 11 x) (s10 : ∀ c j, ¬ (((c = 518 ∨ c = 519) ∧ 32 * d ≤ j ∧ j < 32 * d + 32) ∨ (c = 439 ∧ (j = 44 ∨ j = 75)) ∨ (c = 472 ∧ 0 ≤ j ∧ j < M 6 0)) → X c j = A c j)
    (q4 : uR C' R') (q5 : ∀ x, 0 ≤ x → x < M 6 0 → tb (M 6 1) x = true → REn C' R' (174 + 6 * x) x) (q7 : rfF (M 6 1) 0 (M 6 0) X R')
    (k2 : ∀ x, 0 ≤ x → x < M 6 0 → (¬ R' 473 x = 0 → Z 473 x = 0 ∧ Z 506 x = 1 ∧ Z 517 x = d) ∧ (R' 473 x = 0 → Z 473 x = 0 ∧ Z 506 x = R' 506 x ∧ Z 517 x = R' 517 x)) (k3 : Z 515 d = R' 439 72 ∧ Z 516 d = M 6 0 ∧ Z 439 72 = t ∧ Z 439 115 = d + 1) (k4 : ∀ c j, ¬ (((c = 473 ∨ c = 506 ∨ c = 517) ∧ 0 ≤ j ∧ j < M 6 0) ∨ ((c = 515 ∨ c = 516) ∧ j = d) ∨ (c = 439 ∧ (j = 72 ∨ j = 115))) → Z c j = R' c j) : Scr A Z ∧ Rel Z := by
  obtain ⟨hT, hP, hD, hM, hO, hL', hW, hK, hH, hS, hN, hF⟩ := id h
  have hn := hP.2.2.1
  have n0 := hP.2.1
  have d0 : 0 ≤ d := by rw [← hd]; exact hH.1.2.1
  have t1 : t ≤ 100000 := by have := hdu.2.2.1; omega
  have cM : ∀ c j, ¬ ((c = 25 ∧ 2 ≤ j ∧ j ≤ 4) ∨ (27 ≤ c ∧ c ≤ 50) ∨ (126 ≤ c ∧ c ≤ 135) ∨ (174 ≤ c ∧ c ≤ 353)) → C' c j = M c j := fun c j hc => by rw [cF.1 c j (by omega), gB c j (by omega)]
  have c60 : C' 6 0 = M 6 0 := cM _ _ (by omega)
  rw [c60] at a2 a5 a8
  have zA : ∀ c j, c ≤ 438 → Z c j = A c j := fun c j hc => by rw [k4 c j (by omega), q7.1 c j (by omega), s10 c j (by omega)]
  have zC : ∀ c j, c ≤ 438 → ¬ ((c = 6 ∧ j = 1) ∨ (c = 11 ∧ 0 ≤ j ∧ j < M 6 0) ∨ (c = 12 ∧ 0 ≤ j ∧ j < 30) ∨ (c = 136 ∧ 0 ≤ j ∧ j ≤ 3) ∨ (137 ≤ c ∧ c ≤ 141 ∧ j = d) ∨ (c = 143 + d ∧ 0 ≤ j ∧ j < 30)) → Z c j = C' c j := fun c j c0 hc => by rw [zA c j c0, a8 c j hc]
  have zM : ∀ c j, c ≤ 438 → ¬ ((c = 6 ∧ j = 1) ∨ (c = 11 ∧ 0 ≤ j ∧ j < M 6 0) ∨ (c = 12 ∧ 0 ≤ j ∧ j < 30) ∨ (c = 136 ∧ 0 ≤ j ∧ j ≤ 3) ∨ (137 ≤ c ∧ c ≤ 141 ∧ j = d) ∨ (c = 143 + d ∧ 0 ≤ j ∧ j < 30) ∨ (c = 25 ∧ 2 ≤ j ∧ j ≤ 4) ∨ (27 ≤ c ∧ c ≤ 50) ∨ (126 ≤ c ∧ c ≤ 135) ∨ (174 ≤ c ∧ c ≤ 353)) → Z c j = M c j := fun c j c0 hc => by rw [zC c j c0 (by omega), cM c j (by omega)]
  have aM : ∀ c j, 439 ≤ c → A c j = M c j := fun c j hc => by rw [a8 c j (by omega), cM c j (by omega)]
  have rM' : ∀ c j, 439 ≤ c → ¬ ((c = 439 ∧ ((44 ≤ j ∧ j ≤ 46) ∨ (74 ≤ j ∧ j ≤ 101))) ∨ c = 472 ∨ c = 474 ∨ c = 475 ∨ (487 ≤ c ∧ c ≤ 505) ∨ (507 ≤ c ∧ c ≤ 514) ∨ ((c = 518 ∨ c = 519) ∧ 32 * d ≤ j ∧ j < 32 * d + 32)) → R' c j = M c j := fun c j c0 hc => by rw [q7.1 c j (by omega), s10 c j (by omega), aM c j c0]
  have zr : ∀ c j, 439 ≤ c → ¬ ((c = 439 ∧ ((44 ≤ j ∧ j ≤ 46) ∨ (74 ≤ j ∧ j ≤ 101) ∨ j = 72 ∨ j = 115)) ∨ (472 ≤ c ∧ c ≤ 475) ∨ (487 ≤ c ∧ c ≤ 507) ∨ (507 ≤ c ∧ c ≤ 514) ∨ ((c = 515 ∨ c = 516) ∧ j = d) ∨ c = 517 ∨ ((c = 518 ∨ c = 519) ∧ 32 * d ≤ j ∧ j < 32 * d + 32)) → Z c j = M c j := fun c j c0 hc => by rw [k4 c j (by omega), rM' c j c0 (by omega)]
  have z60 : Z 6 0 = M 6 0 := zM _ _ (by omega) (by omega)
  have z61 : Z 6 1 = 0 := by rw [zA _ _ (by omega)]; exact a4.2.2
  have r473 : ∀ x, 0 ≤ x → x < M 6 0 → R' 473 x = b2 (tb (M 6 1) x = true) := fun x x0 x1 => by rw [q7.1 473 x (by omega)]; exact (s6 x x0 x1).1
  have z11 : ∀ x, 0 ≤ x → x < M 6 0 → Z 11 x = if tb (M 6 1) x = true then t else M 11 x := fun x x0 x1 => by rw [zA 11 x (by omega), a5 x x0 x1, cM 11 x (by omega)]
  have z472 : ∀ x, 0 ≤ x → x < M 6 0 → Z 472 x = if tb (M 6 1) x = true then t else M 11 x := fun x x0 x1 => by rw [k4 472 x (by omega), q7.1 472 x (by omega)]; exact s9 x x0 x1
  have hx1 : ∀ x, 0 ≤ x → x < M 6 0 → tb (M 6 1) x = true → Z 11 x = t ∧ Z 517 x = d ∧ Z 506 x = 1 ∧ Z 473 x = 0 ∧ M 11 x = -1 := fun x x0 x1 hx => by
    have hk2 := (k2 x x0 x1).1 (by rw [r473 x x0 x1, b2_t hx]; omega)
    rw [z11 x x0 x1, if_pos hx]
    exact ⟨rfl, hk2.2.2, hk2.2.1, hk2.1, (hD.2 x x0 x1).1.2.1.2 hx⟩
  have hx2 : ∀ x, 0 ≤ x → x < M 6 0 → ¬ tb (M 6 1) x = true → Z 11 x = M 11 x ∧ Z 517 x = M 517 x ∧ Z 506 x = M 506 x ∧ Z 473 x = 0 := fun x x0 x1 hx => by
    have hk2 := (k2 x x0 x1).2 (by rw [r473 x x0 x1, b2_f hx])
    rw [z11 x x0 x1, if_neg hx, hk2.2.2, hk2.2.1, rM' 517 x (by omega) (by omega), rM' 506 x (by omega) (by omega)]
    exact ⟨rfl, rfl, rfl, hk2.1⟩
  have kB : kTab Z t := kTab_fr hk (by rw [gB 0 11 (by omega)]; exact hW.1) (by rw [gB 0 11 (by omega), gB (M 0 11) 0 (by have := hW.1; omega)]; exact hW.2.2.2.1.2.2) (fun c j hc => by rw [zC c j (by omega) (by omega), cF.1 c j (by omega)])
  have gB' : ∀ c j, 174 ≤ c → B c j = M c j := fun c j hc => gB c j (by omega)
  have fA : ∀ c j, 174 ≤ c → A c j = C' c j := fun c j hc => a8 c j (by omega)
  refine ⟨⟨fun j => zA _ _ (by omega), zA _ _ (by omega)⟩, RT_fr hT (fun c j hc => ?_), RP_fr hP (fun c j hc => ?_), ⟨?_, fun p p0 p1 => ?_⟩, RM_fr hM (fun c j hc => ?_), RO_fr hO (fun c j hc => ?_), RL_fr hL' (fun c j hc => ?_), RW_fr hW (fun c j hc => ?_), Or.inr ⟨?_, ?_, ?_⟩, ⟨?_, ?_, ?_, ?_, fun j j0 j1 => ?_, fun p p0 p1 p2 => ?_⟩, fun p p0 p1 p2 => ?_, ?_, RF_fr hF (fun c j hc => ?_)⟩
  · by_cases c0 : c ≤ 438
    · exact zM c j c0 (by omega)
    · exact zr c j (by omega) (by omega)
  · by_cases c0 : c ≤ 438
    · exact zM c j c0 (by omega)
    · exact zr c j (by omega) (by omega)
  · rw [z61]
    exact mk_0.cong (fun x _ _ => ⟨fun z => z.elim, fun z => by rw [tb_0] at z; exact absurd z.2 (by simp)⟩)
  · rw [z60] at p1
    have hq := (hD.2 p p0 p1).1
    refine ⟨?_, ?_⟩
    · unfold RDp
      rw [z61, tb_0, z472 p p0 p1]
      by_cases c : tb (M 6 1) p = true
      · obtain ⟨y1, y2, y3, y4, y5⟩ := hx1 p p0 p1 c
        rw [if_pos c, y1, y3, y4]
        refine ⟨⟨rfl, by omega, t1⟩, ⟨(b2_f (by simp)).symm, fun z => absurd z (by simp)⟩, (b2_t (by omega)).symm⟩
      · obtain ⟨y1, y2, y3, y4⟩ := hx2 p p0 p1 c
        rw [if_neg c, y1, y3, y4]
        exact ⟨⟨rfl, hq.1.2⟩, ⟨(b2_f (by simp)).symm, fun z => absurd z (by simp)⟩, hq.2.2⟩
    · unfold RWp
      rw [zA 12 p (by omega), a7 p p0 (by omega), k4 474 p (by omega), k4 475 p (by omega)]
      exact q4.1 p p0 (by rw [c60]; exact p1)
  · by_cases c0 : c ≤ 438
    · exact zM c j c0 (by omega)
    · exact zr c j (by omega) (by omega)
  · by_cases c0 : c ≤ 438
    · exact zM c j c0 (by omega)
    · exact zr c j (by omega) (by omega)
  · by_cases c0 : c ≤ 438
    · exact zM c j c0 (by omega)
    · exact zr c j (by omega) (by omega)
  · by_cases c0 : c ≤ 438
    · exact zM c j c0 (by omega)
    · exact zr c j (by omega) (by omega)
  · rw [zC 25 2 (by omega) (by omega), cF.1 25 2 (by omega), h25]; exact t0
  · rw [zC 25 2 (by omega) (by omega), cF.1 25 2 (by omega), h25]; exact t1
  · rw [zC 25 2 (by omega) (by omega), cF.1 25 2 (by omega), h25]; exact kB
  · rw [k3.2.2.2, zA 136 0 (by omega), a4.1]
    exact ⟨rfl, by omega, by omega⟩
  · rw [k3.2.2.1, zA 136 1 (by omega), a4.2.1]
    exact ⟨rfl, t0, t1⟩
  · rw [zA 136 2 (by omega), a6.1, k4 487 0 (by omega), k4 488 0 (by omega)]
    exact q4.2.1
  · rw [zA 136 3 (by omega), a6.2, k4 487 1 (by omega), k4 488 1 (by omega)]
    exact q4.2.2
  · rw [zA 136 0 (by omega), a4.1] at j1
    by_cases jd : j = d
    · subst jd
      refine ⟨?_, ?_, ?_, ?_, ?_, ?_, fun p p0 p1 => ?_⟩
      · rw [zA 137 j (by omega), a2.1, z60]
        refine hD.1.cong (fun x x0 x1 => ⟨fun ⟨y1, y2⟩ => ?_, fun ⟨y1, y2, y3⟩ => ⟨y1, ?_⟩⟩)
        · obtain ⟨w1, w2, -⟩ := hx1 x x0 y1 y2
          exact ⟨y1, by rw [w1]; omega, w2⟩
        · refine Classical.byContradiction (fun z => ?_)
          obtain ⟨w1, w2, -⟩ := hx2 x x0 y1 z
          rw [w1] at y2
          rw [w2] at y3
          have := (hH.2.2.2.2.2 x x0 y1 y2).2
          omega
      · have hne := hdu.1
        have : ¬ ∀ x, 0 ≤ x → x < 30 → ¬ (x < M 6 0 ∧ tb (M 6 1) x = true) := fun z => hne (hD.1.zero.mpr z)
        refine Classical.byContradiction (fun z => this (fun x x0 x1 y => z ⟨x, x0, by rw [z60]; exact y.1, ?_⟩))
        obtain ⟨w1, w2, -⟩ := hx1 x x0 y.1 y.2
        exact ⟨by rw [w1]; omega, w2⟩
      · rw [k3.2.1, zA 138 j (by omega), a2.2.1, z60]
        exact ⟨rfl, n0, Int.le_refl _⟩
      · rw [k3.1, zA 139 j (by omega), a2.2.2.1, cM 136 1 (by omega), rM' 439 72 (by omega) (by omega)]
        exact hH.2.1
      · rw [zA 140 j (by omega), a2.2.2.2.1, cM 136 2 (by omega), k4 518 _ (by omega), k4 519 _ (by omega), q7.1 518 _ (by omega), q7.1 519 _ (by omega), s8.1, s8.2.1]
        exact hH.2.2.1
      · rw [zA 141 j (by omega), a2.2.2.2.2, cM 136 3 (by omega), k4 518 _ (by omega), k4 519 _ (by omega), q7.1 518 _ (by omega), q7.1 519 _ (by omega), s8.2.2.1, s8.2.2.2]
        exact hH.2.2.2.1
      · rw [zA 138 j (by omega), a2.2.1] at p1
        rw [zA (143 + j) p (by omega), a3 p p0 (by omega), cM 12 p (by omega), k4 518 _ (by omega), k4 519 _ (by omega), q7.1 518 _ (by omega), q7.1 519 _ (by omega), (s7 p p0 (by omega)).1, (s7 p p0 (by omega)).2]
        exact (hD.2 p p0 p1).2
    · obtain ⟨r1, ⟨x, x0, x1, x2, x3⟩, r3, r4, r5, r6, r7⟩ := hH.2.2.2.2.1 j j0 (by omega)
      refine ⟨?_, ⟨x, x0, by rw [z60]; exact x1, ?_⟩, ?_, ?_, ?_, ?_, fun p p0 p1 => ?_⟩
      · rw [zM 137 j (by omega) (by omega), z60]
        refine r1.cong (fun y y0 y1 => and_congr_right (fun yn => ?_))
        by_cases c : tb (M 6 1) y = true
        · obtain ⟨w1, w2, -, -, w3⟩ := hx1 y y0 yn c
          rw [w2, w3]
          exact ⟨fun z => absurd rfl z.1, fun z => by omega⟩
        · obtain ⟨w1, w2, -⟩ := hx2 y y0 yn c
          rw [w1, w2]
      · have c : ¬ tb (M 6 1) x = true := fun c => x2 ((hD.2 x x0 x1).1.2.1.2 c)
        obtain ⟨w1, w2, -⟩ := hx2 x x0 x1 c
        rw [w1, w2]
        exact ⟨x2, x3⟩
      · rw [zr 516 j (by omega) (by omega), zM 138 j (by omega) (by omega), z60]; exact r3
      · rw [zr 515 j (by omega) (by omega), zM 139 j (by omega) (by omega)]; exact r4
      · rw [zM 140 j (by omega) (by omega), zr 518 _ (by omega) (by omega), zr 519 _ (by omega) (by omega)]; exact r5
      · rw [zM 141 j (by omega) (by omega), zr 518 _ (by omega) (by omega), zr 519 _ (by omega) (by omega)]; exact r6
      · rw [zM 138 j (by omega) (by omega)] at p1
        rw [zM (143 + j) p (by omega) (by omega), zr 518 _ (by omega) (by omega), zr 519 _ (by omega) (by omega)]
        exact r7 p p0 p1
  · rw [z60] at p1
    rw [zA 136 0 (by omega), a4.1]
    by_cases c : tb (M 6 1) p = true
    · obtain ⟨w1, w2, -⟩ := hx1 p p0 p1 c
      rw [w2]
      omega
    · obtain ⟨w1, w2, -⟩ := hx2 p p0 p1 c
      rw [w1] at p2
      rw [w2]
      have := hH.2.2.2.2.2 p p0 p1 p2
      omega
  · rw [z60] at p1
    by_cases c : tb (M 6 1) p = true
    · refine ((q5 p p0 p1 c).fr2 (M' := Z) (N' := Z) (fun c j c0 c1 => ?_) (fun c j hr => ?_)).re
      · exact zC c j (by omega) (by omega)
      · unfold rowOf at hr
        exact k4 c j (by omega)
    · obtain ⟨w1, w2, -⟩ := hx2 p p0 p1 c
      rw [w1] at p2
      exact rows_keep (A := A) (X := X) (R' := R') p0 p1 hn c (hS p p0 p1 p2) gB' cF fA (fun c j c0 c1 => s10 c j (by omega)) q7 zA (fun c j c0 c1 => k4 c j (by omega))
  · exact hand_keep (A := A) (X := X) (R' := R') hn hN gB' cF fA (fun c j hc => s10 c j (by omega)) q7 zA (fun c j hc => k4 c j (by omega))
  · by_cases c0 : c ≤ 438
    · exact zM c j c0 (by omega)
    · exact zr c j (by omega) (by omega)
end
