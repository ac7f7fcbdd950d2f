/-! THE ARM would. -/
section
variable {M N : em_M}
theorem eR_fr {N' : em_M} {E p t : Int} (h : eR M N E p t) (e : ∀ c j, ¬ c = 472 → N' c j = N c j) : eR M N' E p t := by
  obtain ⟨⟨a1, a2, a3, a4⟩, ⟨b1, b2'⟩, ⟨c1, c2, c3, c4, c5⟩, d, U, u1, u2, u3⟩ := h
  have g : ∀ j, N' 439 j = N 439 j := fun j => e _ _ (by omega)
  refine ⟨⟨a1, a2, a3, by rw [g]; exact a4⟩, ⟨by rw [g]; exact b1, by rw [g]; exact b2'⟩, ⟨by rw [g, g]; exact c1, by rw [g, g]; exact c2, by rw [g, g]; exact c3, by rw [g, g]; exact c4, by rw [g, g, g]; exact c5⟩, fun q q0 q1 => ?_, U, u1.cong (fun x _ _ => ?_), fun k k0 k1 => ?_, fun x x0 x1 => ?_⟩
  · rw [e 497 q (by omega), e 498 q (by omega), e 499 q (by omega), e 500 q (by omega), e 501 q (by omega), e 502 q (by omega)]
    exact d q q0 q1
  · exact ⟨fun ⟨k, i0, i1, i2⟩ => ⟨k, i0, i1, by rw [e 491 k (by omega)]; exact i2⟩, fun ⟨k, i0, i1, i2⟩ => ⟨k, i0, i1, by rw [e 491 k (by omega)] at i2; exact i2⟩⟩
  · rw [e 491 k (by omega)]; exact u2 k k0 k1
  · have h := u3 x x0 x1
    unfold rM uM at h ⊢
    rw [e 497 x (by omega), g, e 493 x (by omega), e 494 x (by omega), e 492 x (by omega)]
    exact h
theorem REn.fr {N' : em_M} {M' : em_M} {E e : Int} (h : REn M N E e) (e1 : ∀ c j, E ≤ c → c ≤ E + 5 → M' c j = M c j) (e2 : ∀ c j, 507 ≤ c → c ≤ 514 → N' c j = N c j) : REn M' N' E e := by
  obtain ⟨⟨a1, a2⟩, a3, ⟨a4, a5⟩, a6, ⟨b1, b2', b3, b4, b5⟩, c⟩ := h
  have g : ∀ j, M' E j = M E j := fun j => e1 _ _ (by omega) (by omega)
  refine ⟨⟨by rw [g, e2 508 _ (by omega) (by omega)]; exact a1, by rw [g]; exact a2⟩, by rw [g, e2 507 _ (by omega) (by omega)]; exact a3, ⟨by rw [g, e2 509 _ (by omega) (by omega)]; exact a4, by rw [g]; exact a5⟩, by rw [g, e2 510 _ (by omega) (by omega)]; exact a6, ⟨?_, ?_, ?_, ?_, ?_⟩, fun q q0 q1 => ?_⟩
  · rw [g, e2 511 _ (by omega) (by omega), e2 511 _ (by omega) (by omega)]; exact b1
  · rw [g, e2 511 _ (by omega) (by omega), e2 511 _ (by omega) (by omega)]; exact b2'
  · rw [g, e2 511 _ (by omega) (by omega), e2 511 _ (by omega) (by omega)]; exact b3
  · rw [g, e2 511 _ (by omega) (by omega), e2 511 _ (by omega) (by omega)]; exact b4
  · rw [g, e2 511 _ (by omega) (by omega), e2 511 _ (by omega) (by omega)]; exact b5
  · rw [g] at q1
    rw [e1 (E + 1) q (by omega) (by omega), e1 (E + 2) q (by omega) (by omega), e1 (E + 3) q (by omega) (by omega), e1 (E + 4) q (by omega) (by omega), e1 (E + 5) q (by omega) (by omega), e2 512 _ (by omega) (by omega), e2 512 _ (by omega) (by omega), e2 512 _ (by omega) (by omega), e2 512 _ (by omega) (by omega), e2 512 _ (by omega) (by omega), e2 512 _ (by omega) (by omega), e2 513 _ (by omega) (by omega), e2 514 _ (by omega) (by omega)]
    exact c q q0 q1
/-- what an arm of the settlement may change at all -/
def aF (M M' : em_M) : Prop := (∀ c j, c ≤ 438 → ¬ ((c = 25 ∧ 2 ≤ j ∧ j ≤ 4) ∨ (27 ≤ c ∧ c ≤ 50) ∨ (126 ≤ c ∧ c ≤ 135) ∨ (354 ≤ c ∧ c ≤ 365)) → M' c j = M c j) ∧ ∀ c j, 439 ≤ c → ¬ ((c = 439 ∧ ((44 ≤ j ∧ j ≤ 46) ∨ (74 ≤ j ∧ j ≤ 101) ∨ j = 114)) ∨ (489 ≤ c ∧ c ≤ 505) ∨ (507 ≤ c ∧ c ≤ 510 ∧ 30 ≤ j) ∨ (c = 511 ∧ 300 ≤ j) ∨ (c = 512 ∧ 5400 ≤ j) ∨ (513 ≤ c ∧ c ≤ 514 ∧ 900 ≤ j) ∨ ((c = 518 ∨ c = 519) ∧ 960 ≤ j) ∨ ((c = 474 ∨ c = 475) ∧ ¬ (0 ≤ j ∧ j < M 6 0)) ∨ ((c = 487 ∨ c = 488) ∧ ¬ (j = 0 ∨ j = 1))) → M' c j = M c j
theorem aF.all {M' : em_M} (e : aF M M') : ∀ c j, ¬ ((c = 25 ∧ 2 ≤ j ∧ j ≤ 4) ∨ (27 ≤ c ∧ c ≤ 50) ∨ (126 ≤ c ∧ c ≤ 135) ∨ (354 ≤ c ∧ c ≤ 365) ∨ (c = 439 ∧ ((44 ≤ j ∧ j ≤ 46) ∨ (74 ≤ j ∧ j ≤ 101) ∨ j = 114)) ∨ (489 ≤ c ∧ c ≤ 505) ∨ (507 ≤ c ∧ c ≤ 510 ∧ 30 ≤ j) ∨ (c = 511 ∧ 300 ≤ j) ∨ (c = 512 ∧ 5400 ≤ j) ∨ (513 ≤ c ∧ c ≤ 514 ∧ 900 ≤ j) ∨ ((c = 518 ∨ c = 519) ∧ 960 ≤ j) ∨ ((c = 474 ∨ c = 475) ∧ ¬ (0 ≤ j ∧ j < M 6 0)) ∨ ((c = 487 ∨ c = 488) ∧ ¬ (j = 0 ∨ j = 1))) → M' c j = M c j := fun c j hc => by
  by_cases k : c ≤ 438
  · exact e.1 c j k (fun z => hc (z.elim (fun z => Or.inl z) (fun z => Or.inr (z.elim (fun z => Or.inl z) (fun z => Or.inr (z.elim (fun z => Or.inl z) (fun z => Or.inr (Or.inl z))))))))
  · exact e.2 c j (by omega) (fun z => hc (Or.inr (Or.inr (Or.inr (Or.inr z)))))
theorem aF.rel {M' : em_M} {t : Int} (h : Rel M) (e : aF M M') (t0 : 0 ≤ t) (t1 : t ≤ 100000) (hk : kTab M' t) (h25 : M' 25 2 = t) (hN' : RN M') : Rel M' := by
  have e := e.all
  obtain ⟨hT, hP, hD, hM, hO, hL, hW, hK, hH, hS, hN, hF⟩ := id h
  have hn := hP.2.2.1
  have e60 : M' 6 0 = M 6 0 := e _ _ (by omega)
  refine ⟨RT_fr hT (fun c j hc => e c j (by omega)), RP_fr hP (fun c j hc => e c j (by omega)), ⟨?_, fun p p0 p1 => ?_⟩, RM_fr hM (fun c j hc => e c j (by omega)), RO_fr hO (fun c j hc => e c j (by omega)), RL_fr hL (fun c j hc => e c j (by omega)), RW_fr hW (fun c j hc => e c j (by omega)), Or.inr ⟨by omega, by omega, by rw [h25]; exact hk⟩, ?_, fun p p0 p1 p2 => ?_, hN', RF_fr hF (fun c j hc => e c j (by omega))⟩
  · rw [e 6 1 (by omega), e60]; exact hD.1
  · rw [e60] at p1
    have hq := hD.2 p p0 p1
    unfold RDp RWp at hq ⊢
    rw [e 472 p (by omega), e 11 p (by omega), e 473 p (by omega), e 6 1 (by omega), e 506 p (by omega), e 12 p (by omega), e 474 p (by omega), e 475 p (by omega)]
    exact hq
  · obtain ⟨⟨q1, q2⟩, ⟨q3, q4⟩, q5, q6, q7, q8⟩ := hH
    refine ⟨⟨by rw [e 439 115 (by omega), e 136 0 (by omega)]; exact q1, by rw [e 136 0 (by omega)]; exact q2⟩, ⟨by rw [e 439 72 (by omega), e 136 1 (by omega)]; exact q3, by rw [e 136 1 (by omega)]; exact q4⟩, by rw [e 136 2 (by omega), e 487 0 (by omega), e 488 0 (by omega)]; exact q5, by rw [e 136 3 (by omega), e 487 1 (by omega), e 488 1 (by omega)]; exact q6, fun j j0 j1 => ?_, fun p p0 p1 p2 => ?_⟩
    · rw [e 136 0 (by omega)] at j1
      have hq := q7 j j0 j1
      obtain ⟨r1, ⟨x, x0, x1, x2, x3⟩, r3, r4, r5, r6, r7⟩ := hq
      refine ⟨?_, ⟨x, x0, by rw [e60]; exact x1, by rw [e 11 x (by omega)]; exact x2, by rw [e 517 x (by omega)]; exact x3⟩, ?_, ?_, ?_, ?_, fun p p0 p1 => ?_⟩
      · rw [e 137 j (by omega), e60]
        refine r1.cong (fun x _ _ => ?_)
        rw [e 11 x (by omega), e 517 x (by omega)]
      · rw [e 516 j (by omega), e 138 j (by omega), e60]; exact r3
      · rw [e 515 j (by omega), e 139 j (by omega)]; exact r4
      · rw [e 140 j (by omega), e 518 _ (by omega), e 519 _ (by omega)]; exact r5
      · rw [e 141 j (by omega), e 518 _ (by omega), e 519 _ (by omega)]; exact r6
      · rw [e 138 j (by omega)] at p1
        rw [e (143 + j) p (by omega), e 518 _ (by omega), e 519 _ (by omega)]
        exact r7 p p0 p1
    · rw [e60] at p1
      rw [e 11 p (by omega)] at p2
      rw [e 517 p (by omega), e 136 0 (by omega)]
      exact q8 p p0 p1 p2
  · rw [e60] at p1
    rw [e 11 p (by omega)] at p2
    exact RE_fr2 (hS p p0 p1 p2) (fun c j hc => e c j (by omega))
theorem aF_of {Z B : em_M} {p : Int} (gB : ∀ c j, ¬ ((c = 25 ∧ 2 ≤ j ∧ j ≤ 4) ∨ (27 ≤ c ∧ c ≤ 50) ∨ c = 135 ∨ (c = 126 ∧ (j = 5 ∨ j = 6))) → B c j = M c j) (cls : ∀ c j, c ≤ 438 → ¬ ((126 ≤ c ∧ c ≤ 135) ∨ (354 ≤ c ∧ c ≤ 365)) → Z c j = B c j) (ref : ∀ c j, 439 ≤ c → ¬ ((c = 439 ∧ ((44 ≤ j ∧ j ≤ 46) ∨ (74 ≤ j ∧ j ≤ 101) ∨ j = 114)) ∨ (489 ≤ c ∧ c ≤ 505) ∨ (507 ≤ c ∧ c ≤ 510 ∧ 30 ≤ j) ∨ (c = 511 ∧ 300 ≤ j) ∨ (c = 512 ∧ 5400 ≤ j) ∨ (513 ≤ c ∧ c ≤ 514 ∧ 900 ≤ j) ∨ ((c = 518 ∨ c = 519) ∧ 960 ≤ j) ∨ (c = 472 ∧ j = p) ∨ (474 ≤ c ∧ c ≤ 475) ∨ (487 ≤ c ∧ c ≤ 488)) → Z c j = M c j) (r2 : Z 472 p = M 472 p) (r4 : ∀ j, 0 ≤ j → j < M 6 0 → Z 474 j = M 474 j ∧ Z 475 j = M 475 j) (r7 : (Z 487 0 = M 487 0 ∧ Z 488 0 = M 488 0) ∧ Z 487 1 = M 487 1 ∧ Z 488 1 = M 488 1) : aF M Z := by
  refine ⟨fun c j c0 hc => ?_, fun c j c0 hc => ?_⟩
  · rw [cls c j c0 (by omega), gB c j (by omega)]
  · by_cases a1 : c = 474
    · subst a1
      by_cases hj : 0 ≤ j ∧ j < M 6 0
      · exact (r4 j hj.1 hj.2).1
      · exact absurd (Or.inr (Or.inr (Or.inr (Or.inr (Or.inr (Or.inr (Or.inr (Or.inl ⟨Or.inl rfl, hj⟩)))))))) hc
    · by_cases a2 : c = 475
      · subst a2
        by_cases hj : 0 ≤ j ∧ j < M 6 0
        · exact (r4 j hj.1 hj.2).2
        · exact absurd (Or.inr (Or.inr (Or.inr (Or.inr (Or.inr (Or.inr (Or.inr (Or.inl ⟨Or.inr rfl, hj⟩)))))))) hc
      · by_cases a3 : c = 487
        · subst a3
          by_cases hj : j = 0 ∨ j = 1
          · rcases hj with rfl | rfl
            · exact r7.1.1
            · exact r7.2.1
          · exact absurd (Or.inr (Or.inr (Or.inr (Or.inr (Or.inr (Or.inr (Or.inr (Or.inr ⟨Or.inl rfl, hj⟩)))))))) hc
        · by_cases a4 : c = 488
          · subst a4
            by_cases hj : j = 0 ∨ j = 1
            · rcases hj with rfl | rfl
              · exact r7.1.2
              · exact r7.2.2
            · exact absurd (Or.inr (Or.inr (Or.inr (Or.inr (Or.inr (Or.inr (Or.inr (Or.inr ⟨Or.inr rfl, hj⟩)))))))) hc
          · by_cases a5 : c = 472 ∧ j = p
            · rw [a5.1, a5.2]; exact r2
            · refine ref c j c0 (fun z => hc ?_)
              rcases z with z | z | z | z | z | z | z | z | z | z
              · exact Or.inl z
              · exact Or.inr (Or.inl z)
              · exact Or.inr (Or.inr (Or.inl z))
              · exact Or.inr (Or.inr (Or.inr (Or.inl z)))
              · exact Or.inr (Or.inr (Or.inr (Or.inr (Or.inl z))))
              · exact Or.inr (Or.inr (Or.inr (Or.inr (Or.inr (Or.inl z)))))
              · exact Or.inr (Or.inr (Or.inr (Or.inr (Or.inr (Or.inr (Or.inl z))))))
              · exact absurd z a5
              · omega
              · omega
/-- the chain of the reference's steps, the cells aside that it may change -/
theorem ref_chain {M1 X Nf Z : em_M} {p : Int} (ez : ∀ c j, 439 ≤ c → M1 c j = M c j) (fX : ∀ c j, ¬ (((c = 518 ∨ c = 519) ∧ 960 ≤ j ∧ j < 992) ∨ (c = 439 ∧ (j = 44 ∨ j = 75)) ∨ (c = 472 ∧ j = p)) → X c j = M1 c j) (w5 : fM X Nf) (fZ : ∀ c j, 439 ≤ c → ¬ ((c = 439 ∧ ((44 ≤ j ∧ j ≤ 46) ∨ (74 ≤ j ∧ j ≤ 101) ∨ j = 114)) ∨ (489 ≤ c ∧ c ≤ 505) ∨ (507 ≤ c ∧ c ≤ 510 ∧ 30 ≤ j) ∨ (c = 511 ∧ 300 ≤ j) ∨ (c = 512 ∧ 5400 ≤ j) ∨ (513 ≤ c ∧ c ≤ 514 ∧ 900 ≤ j) ∨ ((c = 518 ∨ c = 519) ∧ 960 ≤ j) ∨ (c = 472 ∧ j = p) ∨ (474 ≤ c ∧ c ≤ 475) ∨ (487 ≤ c ∧ c ≤ 488)) → Z c j = Nf c j) : ∀ c j, 439 ≤ c → ¬ ((c = 439 ∧ ((44 ≤ j ∧ j ≤ 46) ∨ (74 ≤ j ∧ j ≤ 101) ∨ j = 114)) ∨ (489 ≤ c ∧ c ≤ 505) ∨ (507 ≤ c ∧ c ≤ 510 ∧ 30 ≤ j) ∨ (c = 511 ∧ 300 ≤ j) ∨ (c = 512 ∧ 5400 ≤ j) ∨ (513 ≤ c ∧ c ≤ 514 ∧ 900 ≤ j) ∨ ((c = 518 ∨ c = 519) ∧ 960 ≤ j) ∨ (c = 472 ∧ j = p) ∨ (474 ≤ c ∧ c ≤ 475) ∨ (487 ≤ c ∧ c ≤ 488)) → Z c j = M c j := fun c j c0 hc => by
  rw [fZ c j c0 hc]
  unfold fM at w5
  clear fZ
  have h1 : ¬ ((c = 439 ∧ ((44 ≤ j ∧ j ≤ 46) ∨ (74 ≤ j ∧ j ≤ 101))) ∨ c = 474 ∨ c = 475 ∨ (487 ≤ c ∧ c ≤ 505)) := by omega
  have h2 : ¬ (((c = 518 ∨ c = 519) ∧ 960 ≤ j ∧ j < 992) ∨ (c = 439 ∧ (j = 44 ∨ j = 75)) ∨ (c = 472 ∧ j = p)) := by omega
  rw [w5 c j h1, fX c j h2, ez c j c0]
end
