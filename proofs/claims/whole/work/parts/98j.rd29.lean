/-! Arm read. -/
section
variable {M M' C R : em_M} {n m t w s : Int}
/-- the law on the other side stays -/
theorem RLaw_fr3 {s' : Int} (hs : (s = 0 ∧ s' = 1) ∨ (s = 1 ∧ s' = 0)) (hw : w = 53 ∨ w = 366) (h : RLaw M w s) (e : ∀ c j, w ≤ c ∧ c ≤ w + 72 → M' c j = M c j) (g : ∀ c j, 447 ≤ c → c ≤ 467 → ¬ gRx s' c j → M' c j = M c j) : RLaw M' w s := by
  obtain ⟨h1, h2, h3, h4, h5, h6⟩ := h
  have gg : ∀ c j, 447 ≤ c → c ≤ 467 → ¬ (((c = 447 ∨ c = 454 ∨ c = 466 ∨ c = 467) ∧ j = s') ∨ ((c = 448 ∨ c = 449) ∧ 20 * s' ≤ j ∧ j < 20 * s' + 20) ∨ (c = 450 ∧ 21 * s' ≤ j ∧ j < 21 * s' + 21) ∨ (c = 451 ∧ 701 * s' ≤ j ∧ j < 701 * s' + 701) ∨ ((c = 452 ∨ c = 453) ∧ 700 * s' ≤ j ∧ j < 700 * s' + 700) ∨ (455 ≤ c ∧ c ≤ 463 ∧ 30 * s' ≤ j ∧ j < 30 * s' + 30) ∨ ((c = 464 ∨ c = 465) ∧ 240 * s' ≤ j ∧ j < 240 * s' + 240)) → M' c j = M c j := fun c j c0 c1 hc => g c j c0 c1 (fun z => by
    unfold gRx at z
    rcases z with z | z
    · omega
    · exact hc z)
  clear g
  refine ⟨?_, ?_, fun k k0 k1 => ?_, fun k k0 k1 => ?_, ?_, fun r r0 r1 => ?_⟩
  · rw [gg 447 s (by omega) (by omega) (by omega), e w 0 (by omega)]; exact h1
  · rw [gg 454 s (by omega) (by omega) (by omega), e w 4 (by omega)]; exact h2
  · rw [e w 0 (by omega)] at k1
    have hk := h3 k k0 k1
    have hk2 := hk
    obtain ⟨⟨u1, u2, u3⟩, ⟨u4, u5, u6⟩, -⟩ := hk2
    exact RKin_fr2 hk (by
      unfold lw_from
      by_cases z : k = 0
      · rw [if_pos z, if_pos z]
      · rw [if_neg z, if_neg z, e (w + 1) k (by omega)]) (e (w + 1) (k + 1) (by omega)) (fun c j c0 c1 j0 j1 => e c j (by omega)) ⟨gg 450 _ (by omega) (by omega) (by omega), gg 450 _ (by omega) (by omega) (by omega)⟩ (fun p p0 p1 => gg 451 _ (by omega) (by omega) (by omega)) (fun c j c0 c1 j0 j1 => gg c _ (by omega) (by omega) (by omega))
  · rw [gg 449 _ (by omega) (by omega) (by omega), e w 2 (by omega)]; exact h4 k k0 k1
  · rw [e w 3 (by omega), gg 466 s (by omega) (by omega) (by omega), gg 467 s (by omega) (by omega) (by omega)]; exact h5
  · rw [e w 4 (by omega)] at r1
    exact RRule_fr2 (h6 r r0 r1) r0 (fun c c0 c1 => e c r (by omega)) (fun j j0 j1 => ⟨e _ _ (by omega), e _ _ (by omega)⟩) (fun c c0 c1 => gg c _ (by omega) (by omega) (by omega)) (fun i i0 i1 => ⟨gg 464 _ (by omega) (by omega) (by omega), gg 465 _ (by omega) (by omega) (by omega)⟩) (by rw [e w 0 (by omega)]; omega)
theorem kTab_fr3 {t : Int} (h : kTab M t) (hw : M 0 11 = 53 ∨ M 0 11 = 366) (hk : M (M 0 11) 0 ≤ 20) (e : ∀ c j, (c = 6 ∧ (j = 0 ∨ j = 2)) ∨ (7 ≤ c ∧ c ≤ 10) ∨ (13 ≤ c ∧ c ≤ 16) ∨ (c = 0 ∧ j = 11) ∨ (c = 25 ∧ 3 ≤ j) ∨ (27 ≤ c ∧ c ≤ 50) ∨ (M 0 11 ≤ c ∧ c ≤ M 0 11 + 72) → M' c j = M c j) : kTab M' t := by
  obtain ⟨h1, h2, h3, h4⟩ := h
  refine ⟨fun d d0 d1 => ?_, ?_, ?_, fun k k0 k1 d d0 d1 => ?_⟩
  · rw [e 6 0 (by omega)] at d1
    rw [kBorn_fr (fun c j hc => e c j (by omega)), kLead_fr (fun c j hc => e c j (by omega)), e 27 d (by omega), e 28 d (by omega), e 29 d (by omega), e 30 d (by omega)]
    exact h1 d d0 d1
  · simp (disch := omega) only [e]; exact h2
  · simp (disch := omega) only [e]; exact h3
  · rw [e 0 11 (by omega), e (M 0 11) 0 (by omega)] at k1
    rw [e 6 0 (by omega)] at d1
    rw [e 0 11 (by omega), kOf_fr (fun c j hc => e c j (by omega)), e (31 + k) d (by omega), kT_fr (fun c j hc => e c j (by omega))]
    exact h4 k k0 k1 d d0 d1
theorem Scr_of {A B : em_M} (h : ∀ c j, c < 0 → B c j = A c j) : Scr A B := ⟨fun j => h (-1) j (by omega), h (-2) 0 (by omega)⟩
theorem arm_read (h : Rel M) : Arm f_EstateOffice_read f_Model_read M := by
  obtain ⟨hT, hP, hD, hM, hO, hL, hW, hK, hH, hS, hN, hF⟩ := id h
  obtain ⟨t1, t2, t3, t4⟩ := id hT
  obtain ⟨w1, w2, w3, w4⟩ := id hW
  have wl : ∃ w, w = 419 - M 0 11 := ⟨_, rfl⟩
  obtain ⟨w, hw⟩ := wl
  have w53 : w = 53 ∨ w = 366 := by omega
  have sl : ∃ s, s = 1 - M 439 17 := ⟨_, rfl⟩
  obtain ⟨s, hs⟩ := sl
  have hB : TB (fun i => if 0 ≤ i ∧ i < M 1 1 then M 2 i else 0) (M 1 1) := by
    refine ⟨⟨t2, t3⟩, fun i => ?_, fun i hi => if_neg (by omega)⟩
    show -128 ≤ (if 0 ≤ i ∧ i < M 1 1 then M 2 i else 0) ∧ (if 0 ≤ i ∧ i < M 1 1 then M 2 i else 0) ≤ 127
    by_cases z : 0 ≤ i ∧ i < M 1 1
    · rw [if_pos z]
      exact (t4 i z.1 z.2).2
    · rw [if_neg z]; omega
  have hC : TC (fun i => if 0 ≤ i ∧ i < M 1 1 then M 2 i else 0) (M 1 1) M := ⟨rfl, fun i i0 i1 => (if_pos ⟨i0, i1⟩).symm⟩
  have h40 : ∀ i, 0 ≤ i → i < M 1 1 → M 440 i = (fun i => if 0 ≤ i ∧ i < M 1 1 then M 2 i else 0) i := fun i i0 i1 => by
    show _ = (if 0 ≤ i ∧ i < M 1 1 then M 2 i else 0)
    rw [if_pos ⟨i0, i1⟩]
    exact (t4 i i0 i1).1
  obtain ⟨v, C1, R0, a1, -, -, -, -, a6, -⟩ := read_both (R := M) (w := w) (s := s) hB hC w53 (by rw [w2, hw]) t1 h40 hF.2 w3 hs
  -- the class's memory behind the call
  have hcall : ∃ M1, f_EstateOffice_read M = some (v, M1) ∧ (∀ c j, ¬ ((c = 1 ∧ j = 1) ∨ (v = 0 ∧ ((c = 51 ∧ j = 2) ∨ (c = 0 ∧ j = 11) ∨ (c = 25 ∧ j = 2)))) → M1 c j = C1 c j) ∧ M1 1 1 = 0 ∧ (v = 0 → M1 51 2 = M 0 11 ∧ M1 0 11 = w ∧ M1 25 2 = -1) := by
    have e := q_EstateOffice_read M
    rw [a1] at e
    simp only [Option.bind_some, em_cd] at e
    by_cases z : v = 0
    · rw [if_neg (fun y => y z), q_Reader_exchange] at e
      have x11 : C1 0 11 = M 0 11 := a6 0 11 (by omega)
      have x51 : C1 51 2 = w := by rw [a6 51 2 (by omega), w2, hw]
      simp (disch := omega) only [xup_ne, x11, x51, isO_law w1, cond_true, Option.bind_some, isO_law w53, q_Kinship_forget] at e
      refine ⟨_, e, fun c j hc => ?_, ?_, fun _ => ?_⟩
      · rw [xup_ne (by omega), xup_ne (by omega), xup_ne (by omega), xup_ne (by omega)]
      · simp (disch := omega) only [xup_ne, xup_eq]
      · simp (disch := omega) only [xup_ne, xup_eq, and_self]
    · rw [if_pos z] at e
      exact ⟨_, e, fun c j hc => xup_ne (by omega), xup_eq _ _ _ _, fun y => absurd y z⟩
  obtain ⟨M1, b1, b2', b3, b4⟩ := hcall
  have fM1 : ∀ c j, 439 ≤ c → M1 c j = M c j := fun c j hc => by rw [b2' c j (by omega), a6 c j (by omega)]
  obtain ⟨v', C1', M2, c1, c2, ⟨c3, c3'⟩, c4, c5, -, c7⟩ := read_both (R := M1) (w := w) (s := s) hB hC w53 (by rw [w2, hw]) (by rw [fM1 439 2 (by omega)]; exact t1) (fun i i0 i1 => by rw [fM1 440 i (by omega)]; exact h40 i i0 i1) (fun k h0 h1 => by rw [fM1 446 k (by omega)]; exact hF.2 k h0 h1) (by rw [fM1 439 17 (by omega)]; exact w3) (by rw [fM1 439 17 (by omega)]; exact hs)
  rw [a1] at c1
  cases c1
  -- all that changes
  have lo : ∀ c j, c ≤ 438 → M2 c j = M1 c j := fun c j hc => c7 c j (fun z => by
    rcases z with z | z | z
    · omega
    · omega
    · unfold gRx at z; omega)
  have fr : ∀ c j, ¬ ((c = 1 ∧ (j = 1 ∨ j = 2)) ∨ (v = 0 ∧ ((c = 0 ∧ j = 11) ∨ (c = 25 ∧ j = 2))) ∨ (3 ≤ c ∧ c ≤ 5) ∨ (c = 51 ∧ 2 ≤ j) ∨ c = 52 ∨ (w ≤ c ∧ c ≤ w + 72) ∨ (441 ≤ c ∧ c ≤ 445) ∨ (c = 439 ∧ (j = 2 ∨ j = 4 ∨ (10 ≤ j ∧ j ≤ 18) ∨ j = 26 ∨ j = 27 ∨ j = 42 ∨ j = 43)) ∨ gRx s c j) → M2 c j = M c j := fun c j hc => by
    rw [c7 c j (fun z => hc (by
      rcases z with z | z | z
      · exact Or.inr (Or.inr (Or.inr (Or.inr (Or.inr (Or.inr (Or.inl z))))))
      · exact Or.inr (Or.inr (Or.inr (Or.inr (Or.inr (Or.inr (Or.inr (Or.inl z)))))))
      · exact Or.inr (Or.inr (Or.inr (Or.inr (Or.inr (Or.inr (Or.inr (Or.inr z)))))))))]
    rw [b2' c j (by omega), a6 c j (by omega)]
  have fr2 : ∀ c j, ¬ ((c = 1 ∧ (j = 1 ∨ j = 2)) ∨ (c = 0 ∧ j = 11) ∨ (c = 25 ∧ j = 2) ∨ (3 ≤ c ∧ c ≤ 5) ∨ (c = 51 ∧ 2 ≤ j) ∨ (52 ≤ c ∧ c ≤ 125) ∨ (366 ≤ c ∧ c ≤ 438) ∨ (441 ≤ c ∧ c ≤ 445) ∨ (447 ≤ c ∧ c ≤ 467) ∨ (c = 439 ∧ (j = 2 ∨ j = 4 ∨ (10 ≤ j ∧ j ≤ 18) ∨ j = 26 ∨ j = 27 ∨ j = 42 ∨ j = 43))) → M2 c j = M c j := fun c j hc => fr c j (fun z => by
    rcases z with z | z | z | z | z | z | z | z | z
    · omega
    · omega
    · omega
    · omega
    · omega
    · omega
    · omega
    · omega
    · unfold gRx at z; omega)
  have scr : ∀ c j, c < 0 → M2 c j = M c j := fun c j hc => fr2 c j (by omega)
  refine ⟨v, M1, M2, b1, Scr_of (fun c j hc => by rw [b2' c j (by omega), a6 c j (by omega)]), c2, Scr_of scr, ?_⟩
  have m11 : M2 1 1 = 0 := by rw [lo 1 1 (by omega)]; exact b3
  refine ⟨⟨by rw [c3', m11], by omega, by omega, fun i i0 i1 => by omega⟩, RP_fr hP (fun c j hc => fr2 c j (by omega)), RD_fr hD (fun c j hc => fr2 c j (by omega)), RM_fr hM (fun c j hc => fr2 c j (by omega)), RO_fr hO (fun c j hc => fr2 c j (by omega)), RL_fr hL (fun c j hc => fr2 c j (by omega)), ?_, ?_, RH_fr hH (fun c j hc => fr2 c j (by omega)), RS_fr hS (hP.2.2.1) (fun c j hc => fr2 c j (by omega)), RN_fr hN (fun c j hc => fr2 c j (by omega)), ?_⟩
  · by_cases z : v = 0
    · obtain ⟨x1, x2⟩ := c4 z
      obtain ⟨y1, y2, y3⟩ := b4 z
      have z11 : M2 0 11 = w := by rw [lo 0 11 (by omega)]; exact y2
      refine ⟨by rw [z11]; exact w53, ?_, by rw [x1]; omega, ?_⟩
      · rw [z11, lo 51 2 (by omega), y1]; omega
      · rw [z11, x1]
        exact RLaw_fr x2 (fun c j hc => by rw [lo c j (by omega), b2' c j (by omega), mx_c (by omega)]) (fun c j hc => (mx_r (by omega)).symm)
    · have z11 : M2 0 11 = M 0 11 := by rw [lo 0 11 (by omega), b2' 0 11 (by omega), a6 0 11 (by omega)]
      have z17 : M2 439 17 = M 439 17 := by rw [c5 z, fM1 439 17 (by omega)]
      refine ⟨by rw [z11]; exact w1, ?_, by rw [z17]; exact w3, ?_⟩
      · rw [z11, lo 51 2 (by omega), b2' 51 2 (by omega), a6 51 2 (by omega)]; exact w2
      · rw [z11, z17]
        exact RLaw_fr3 (s' := s) (by omega) w1 w4 (fun c j hc => by rw [lo c j (by omega), b2' c j (by omega), a6 c j (by omega)]) (fun c j c0 c1 hc => by
          rw [c7 c j (fun y => by
            rcases y with y | y | y
            · omega
            · omega
            · exact hc y), fM1 c j (by omega)])
  · by_cases z : v = 0
    · exact Or.inl (by rw [lo 25 2 (by omega)]; exact (b4 z).2.2)
    · have z25 : M2 25 2 = M 25 2 := by rw [lo 25 2 (by omega), b2' 25 2 (by omega), a6 25 2 (by omega)]
      rcases hK with k | ⟨k1, k2, k3⟩
      · exact Or.inl (by rw [z25]; exact k)
      · refine Or.inr ⟨by rw [z25]; exact k1, by rw [z25]; exact k2, ?_⟩
        rw [z25]
        have h20 := w4.1.2.2
        exact kTab_fr3 k3 w1 h20 (fun c j hc => by rw [lo c j (by omega), b2' c j (by omega), a6 c j (by omega)])
  · refine ⟨?_, fun k h0 h1 => by rw [fr2 446 k (by omega)]; exact hF.2 k h0 h1⟩
    rw [← c3, lo 51 7 (by omega), b2' 51 7 (by omega)]
end
