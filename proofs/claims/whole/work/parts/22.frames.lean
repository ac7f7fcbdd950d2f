/-! What the parts of the relation look at. -/
theorem xcpy_ne {M : em_M} {s sp d dp n b j : Int} (h : ¬ (b = d ∧ dp ≤ j ∧ j < dp + n)) : xcpy M s sp d dp n b j = M b j := if_neg h
section FR
variable {M M' : em_M}
theorem RT_fr (h : RT M) (e : ∀ c j, (c = 1 ∧ j = 1) ∨ c = 2 ∨ (c = 439 ∧ j = 2) ∨ c = 440 → M' c j = M c j) : RT M' := by
  unfold RT at *
  simp (disch := omega) only [e]
  exact h
theorem RPp_fr {p : Int} (h : RPp M p) (e : ∀ c, (7 ≤ c ∧ c ≤ 10) ∨ (468 ≤ c ∧ c ≤ 471) → M' c p = M c p) : RPp M' p := by
  unfold RPp at *
  simp (disch := omega) only [e]
  exact h
theorem RP_fr (h : RP M) (e : ∀ c j, (c = 6 ∧ j = 0) ∨ (7 ≤ c ∧ c ≤ 10) ∨ (c = 439 ∧ j = 47) ∨ (468 ≤ c ∧ c ≤ 471) → M' c j = M c j) : RP M' := by
  obtain ⟨h1, h2, h3, h4⟩ := h
  refine ⟨?_, ?_, ?_, fun p p0 p1 => ?_⟩
  · rw [e 439 47 (by omega), e 6 0 (by omega)]; exact h1
  · rw [e 6 0 (by omega)]; exact h2
  · rw [e 6 0 (by omega)]; exact h3
  · rw [e 6 0 (by omega)] at p1
    exact RPp_fr (h4 p p0 p1) (fun c hc => e c p (by omega))
theorem RDp_fr {p : Int} (h : RDp M p) (e : ∀ c j, (c = 6 ∧ j = 1) ∨ (c = 11 ∧ j = p) ∨ (c = 472 ∧ j = p) ∨ (c = 473 ∧ j = p) ∨ (c = 506 ∧ j = p) → M' c j = M c j) : RDp M' p := by
  unfold RDp at *
  simp (disch := omega) only [e]
  exact h
theorem RWp_fr {p : Int} (h : RWp M p) (e : ∀ c, c = 12 ∨ c = 474 ∨ c = 475 → M' c p = M c p) : RWp M' p := by
  unfold RWp at *
  simp (disch := omega) only [e]
  exact h
theorem RD_fr (h : RD M) (e : ∀ c j, (c = 6 ∧ (j = 0 ∨ j = 1)) ∨ c = 11 ∨ c = 12 ∨ (472 ≤ c ∧ c ≤ 475) ∨ c = 506 → M' c j = M c j) : RD M' := by
  obtain ⟨h1, h2⟩ := h
  refine ⟨?_, fun p p0 p1 => ?_⟩
  · rw [e 6 1 (by omega), e 6 0 (by omega)]; exact h1
  · rw [e 6 0 (by omega)] at p1
    exact ⟨RDp_fr (h2 p p0 p1).1 (fun c j hc => e c j (by omega)), RWp_fr (h2 p p0 p1).2 (fun c hc => e c p (by omega))⟩
theorem RMp_fr {i : Int} (h : RMp M i) (e : ∀ c j, (c = 6 ∧ j = 0) ∨ (13 ≤ c ∧ c ≤ 16 ∧ j = i) ∨ (476 ≤ c ∧ c ≤ 479 ∧ j = i) → M' c j = M c j) : RMp M' i := by
  unfold RMp at *
  simp (disch := omega) only [e]
  exact h
theorem RM_fr (h : RM M) (e : ∀ c j, (c = 6 ∧ (j = 0 ∨ j = 2)) ∨ (13 ≤ c ∧ c ≤ 16) ∨ (c = 439 ∧ j = 56) ∨ (476 ≤ c ∧ c ≤ 479) → M' c j = M c j) : RM M' := by
  obtain ⟨h1, h2, h3, h4⟩ := h
  refine ⟨?_, ?_, ?_, fun p p0 p1 => ?_⟩
  · rw [e 439 56 (by omega), e 6 2 (by omega)]; exact h1
  · rw [e 6 2 (by omega)]; exact h2
  · rw [e 6 2 (by omega)]; exact h3
  · rw [e 6 2 (by omega)] at p1
    exact RMp_fr (h4 p p0 p1) (fun c j hc => e c j (by omega))
theorem ROp_fr {i : Int} (h : ROp M i) (e : ∀ c j, (c = 6 ∧ j = 0) ∨ (18 ≤ c ∧ c ≤ 20 ∧ j = i) ∨ (480 ≤ c ∧ c ≤ 482 ∧ j = i) → M' c j = M c j) : ROp M' i := by
  unfold ROp at *
  simp (disch := omega) only [e]
  exact h
theorem RO_fr (h : RO M) (e : ∀ c j, (c = 6 ∧ j = 0) ∨ (c = 17 ∧ j = 0) ∨ (18 ≤ c ∧ c ≤ 20) ∨ (c = 439 ∧ j = 61) ∨ (480 ≤ c ∧ c ≤ 482) → M' c j = M c j) : RO M' := by
  obtain ⟨h1, h2, h3, h4⟩ := h
  refine ⟨?_, ?_, ?_, fun p p0 p1 => ?_⟩
  · rw [e 439 61 (by omega), e 17 0 (by omega)]; exact h1
  · rw [e 17 0 (by omega)]; exact h2
  · rw [e 17 0 (by omega)]; exact h3
  · rw [e 17 0 (by omega)] at p1
    exact ROp_fr (h4 p p0 p1) (fun c j hc => e c j (by omega))
theorem RLp_fr {i : Int} (h : RLp M i) (e : ∀ c j, (c = 6 ∧ j = 0) ∨ (22 ≤ c ∧ c ≤ 24 ∧ j = i) ∨ (483 ≤ c ∧ c ≤ 486 ∧ j = i) → M' c j = M c j) : RLp M' i := by
  unfold RLp at *
  simp (disch := omega) only [e]
  exact h
theorem RL_fr (h : RL M) (e : ∀ c j, (c = 6 ∧ j = 0) ∨ (c = 21 ∧ j = 0) ∨ (22 ≤ c ∧ c ≤ 24) ∨ (c = 439 ∧ j = 65) ∨ (483 ≤ c ∧ c ≤ 486) → M' c j = M c j) : RL M' := by
  obtain ⟨h1, h2, h3, h4⟩ := h
  refine ⟨?_, ?_, ?_, fun p p0 p1 => ?_⟩
  · rw [e 439 65 (by omega), e 21 0 (by omega)]; exact h1
  · rw [e 21 0 (by omega)]; exact h2
  · rw [e 21 0 (by omega)]; exact h3
  · rw [e 21 0 (by omega)] at p1
    exact RLp_fr (h4 p p0 p1) (fun c j hc => e c j (by omega))
theorem lw_from_fr {w k : Int} (e : ∀ c j, w ≤ c ∧ c ≤ w + 72 → M' c j = M c j) : lw_from M' w k = lw_from M w k := by
  unfold lw_from
  rw [e (w + 1) k (by omega)]
theorem RKin_fr {w s k : Int} (h : RKin M w s k) (e : ∀ c j, w ≤ c ∧ c ≤ w + 72 → M' c j = M c j) (g : ∀ c j, 450 ≤ c ∧ c ≤ 453 → M' c j = M c j) : RKin M' w s k := by
  unfold RKin at *
  simp (disch := omega) only [lw_from_fr e, e, g]
  exact h
theorem RLaw_fr {w s : Int} (h : RLaw M w s) (e : ∀ c j, w ≤ c ∧ c ≤ w + 72 → M' c j = M c j) (g : ∀ c j, 447 ≤ c ∧ c ≤ 467 → M' c j = M c j) : RLaw M' w s := by
  obtain ⟨h1, h2, h3, h4, h5, h6⟩ := h
  refine ⟨?_, ?_, fun k k0 k1 => ?_, fun k k0 k1 => ?_, ?_, fun r r0 r1 => ?_⟩
  · simp (disch := omega) only [e, g]; exact h1
  · simp (disch := omega) only [e, g]; exact h2
  · rw [e w 0 (by omega)] at k1
    exact RKin_fr (h3 k k0 k1) e (fun c j hc => g c j (by omega))
  · simp (disch := omega) only [e, g]; exact h4 k k0 k1
  · simp (disch := omega) only [e, g]; exact h5
  · rw [e w 4 (by omega)] at r1
    have h7 := h6 r r0 r1
    unfold RRule RFix RBar RList at *
    simp (disch := omega) only [e, g]
    exact h7
theorem RW_fr (h : RW M) (e : ∀ c j, (c = 0 ∧ j = 11) ∨ (c = 51 ∧ j = 2) ∨ (53 ≤ c ∧ c ≤ 125) ∨ (366 ≤ c ∧ c ≤ 438) ∨ (c = 439 ∧ j = 17) ∨ (447 ≤ c ∧ c ≤ 467) → M' c j = M c j) : RW M' := by
  obtain ⟨h1, h2, h3, h4⟩ := h
  refine ⟨?_, ?_, ?_, ?_⟩
  · rw [e 0 11 (by omega)]; exact h1
  · rw [e 0 11 (by omega), e 51 2 (by omega)]; exact h2
  · rw [e 439 17 (by omega)]; exact h3
  · rw [e 0 11 (by omega), e 439 17 (by omega)]
    exact RLaw_fr h4 (fun c j hc => e c j (by omega)) (fun c j hc => e c j (by omega))
theorem kBorn_fr {t : Int} (e : ∀ c j, (c = 6 ∧ j = 0) ∨ c = 10 → M' c j = M c j) : kBorn M' t = kBorn M t := by
  funext x
  unfold kBorn
  simp (disch := omega) only [e]
theorem kLead_fr {t : Int} {T : Int → Int → Int} (e : ∀ c j, (c = 6 ∧ j = 2) ∨ c = 8 ∨ c = 9 ∨ (13 ≤ c ∧ c ≤ 16) → M' c j = M c j) : kLead M' t T = kLead M t T := by
  funext r d x
  unfold kLead kMate
  simp (disch := omega) only [e]
theorem kNext_fr {t : Int} {T : Int → Int → Int} (e : ∀ c j, (c = 6 ∧ (j = 0 ∨ j = 2)) ∨ (7 ≤ c ∧ c ≤ 10) ∨ (13 ≤ c ∧ c ≤ 16) → M' c j = M c j) : kNext M' t T = kNext M t T := by
  funext r sx S x
  unfold kNext
  rw [kBorn_fr (fun c j hc => e c j (by omega)), kLead_fr (fun c j hc => e c j (by omega))]
  simp (disch := omega) only [e]
theorem kWalk_fr {t w d : Int} {T : Int → Int → Int} (e : ∀ c j, (c = 6 ∧ (j = 0 ∨ j = 2)) ∨ (7 ≤ c ∧ c ≤ 10) ∨ (13 ≤ c ∧ c ≤ 16) ∨ (w ≤ c ∧ c ≤ w + 72) → M' c j = M c j) : ∀ (n : Nat) (j : Int) (A S : Int → Prop), kWalk M' t w T d n j A S = kWalk M t w T d n j A S
  | 0, _, _, _ => rfl
  | n + 1, j, A, S => by
    unfold kWalk
    rw [kNext_fr (fun c j hc => e c j (by omega))]
    simp (disch := omega) only [e, kWalk_fr e n]
theorem kOf_fr {t w : Int} {T : Int → Int → Int} (e : ∀ c j, (c = 6 ∧ (j = 0 ∨ j = 2)) ∨ (7 ≤ c ∧ c ≤ 10) ∨ (13 ≤ c ∧ c ≤ 16) ∨ (w ≤ c ∧ c ≤ w + 72) → M' c j = M c j) : kOf M' t w T = kOf M t w T := by
  funext k d x
  unfold kOf
  rw [lw_from_fr (fun c j hc => e c j (by omega)), e (w + 1) (k + 1) (by omega), kWalk_fr e]
theorem kT_fr (e : ∀ c j, 31 ≤ c ∧ c ≤ 50 → M' c j = M c j) : kT M' = kT M := by
  funext k d
  unfold kT
  by_cases h : 0 ≤ k ∧ k < 20
  · rw [if_pos h, if_pos h, e (31 + k) d (by omega)]
  · rw [if_neg h, if_neg h]
theorem kTab_fr {t : Int} (h : kTab M t) (hw : M 0 11 = 53 ∨ M 0 11 = 366) (hk : M (M 0 11) 0 ≤ 20) (e : ∀ c j, (c = 6 ∧ (j = 0 ∨ j = 2)) ∨ (7 ≤ c ∧ c ≤ 10) ∨ (13 ≤ c ∧ c ≤ 16) ∨ (c = 0 ∧ j = 11) ∨ (c = 25 ∧ 3 ≤ j) ∨ (27 ≤ c ∧ c ≤ 50) ∨ (53 ≤ c ∧ c ≤ 125) ∨ (366 ≤ c ∧ c ≤ 438) → M' c j = M c j) : kTab M' t := by
  obtain ⟨h1, h2, h3, h4⟩ := h
  refine ⟨fun d d0 d1 => ?_, ?_, ?_, fun k k0 k1 d d0 d1 => ?_⟩
  · rw [e 6 0 (by omega)] at d1
    rw [kBorn_fr (fun c j hc => e c j (by omega)), kLead_fr (fun c j hc => e c j (by omega)), e 27 d (by omega), e 28 d (by omega), e 29 d (by omega), e 30 d (by omega)]
    exact h1 d d0 d1
  · simp (disch := omega) only [e]; exact h2
  · simp (disch := omega) only [e]; exact h3
  · rw [e 0 11 (by omega), e (M 0 11) 0 (by omega)] at k1
    rw [e 6 0 (by omega)] at d1
    rw [e 0 11 (by omega), kOf_fr (fun c j hc => e c j (by omega)), e (31 + k) d (by omega), kT_fr (fun c j hc => e c j (by omega))]
    refine (h4 k k0 k1 d d0 d1)
theorem RHj_fr {j : Int} (h : RHj M j) (h0 : 0 ≤ j) (h1 : j < 30) (e : ∀ c i, (c = 6 ∧ i = 0) ∨ c = 11 ∨ (136 ≤ c ∧ c ≤ 172) ∨ (515 ≤ c ∧ c ≤ 519) → M' c i = M c i) : RHj M' j := by
  unfold RHj fr_is at *
  simp (disch := omega) only [e]
  exact h
theorem RH_fr (h : RH M) (e : ∀ c i, (c = 6 ∧ i = 0) ∨ c = 11 ∨ (136 ≤ c ∧ c ≤ 172) ∨ (c = 439 ∧ (i = 72 ∨ i = 115)) ∨ c = 487 ∨ c = 488 ∨ (515 ≤ c ∧ c ≤ 519) → M' c i = M c i) : RH M' := by
  obtain ⟨h1, h2, h3, h4, h5, h6⟩ := h
  refine ⟨?_, ?_, ?_, ?_, fun j j0 j1 => ?_, ?_⟩
  · simp (disch := omega) only [e]; exact h1
  · simp (disch := omega) only [e]; exact h2
  · unfold fr_is at *; simp (disch := omega) only [e]; exact h3
  · unfold fr_is at *; simp (disch := omega) only [e]; exact h4
  · rw [e 136 0 (by omega)] at j1
    exact RHj_fr (h5 j j0 j1) j0 (by omega) (fun c i hc => e c i (by omega))
  · simp (disch := omega) only [e]; exact h6
theorem RE_fr {E i : Int} (h : RE M E i) (e : ∀ c j, (E ≤ c ∧ c ≤ E + 5) ∨ (507 ≤ c ∧ c ≤ 514) → M' c j = M c j) : RE M' E i := by
  unfold RE fr_is at *
  simp (disch := omega) only [e]
  exact h
theorem RS_fr (h : RS M) (hn : M 6 0 ≤ 30) (e : ∀ c j, (c = 6 ∧ j = 0) ∨ c = 11 ∨ (174 ≤ c ∧ c ≤ 353) ∨ (507 ≤ c ∧ c ≤ 514) → M' c j = M c j) : RS M' := by
  intro p p0 p1 pd
  rw [e 6 0 (by omega)] at p1
  rw [e 11 p (by omega)] at pd
  exact RE_fr (h p p0 p1 pd) (fun c j hc => e c j (by omega))
theorem RN_fr (h : RN M) (e : ∀ c j, (360 ≤ c ∧ c ≤ 365) ∨ (c = 439 ∧ j = 114) ∨ (507 ≤ c ∧ c ≤ 514) → M' c j = M c j) : RN M' := by
  rcases h with ⟨h1, h2⟩ | ⟨h1, h2⟩
  · exact Or.inl ⟨by rw [e 439 114 (by omega)]; exact h1, by rw [e 360 0 (by omega)]; exact h2⟩
  · exact Or.inr ⟨by rw [e 439 114 (by omega)]; exact h1, RE_fr h2 (fun c j hc => e c j (by omega))⟩
theorem RF_fr (h : RF M) (e : ∀ c j, (c = 51 ∧ j = 7) ∨ (c = 439 ∧ j = 16) ∨ c = 446 → M' c j = M c j) : RF M' := by
  obtain ⟨h1, h2⟩ := h
  refine ⟨?_, fun k k0 k1 => ?_⟩
  · rw [e 439 16 (by omega), e 51 7 (by omega)]; exact h1
  · rw [e 446 k (by omega)]; exact h2 k k0 k1
end FR
