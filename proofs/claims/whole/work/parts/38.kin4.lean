/-! KIN: refresh of the class. -/
section
variable {M : em_M}
theorem kBase_fr {M' : em_M} {t : Int} (h : kBase M t) (e : ∀ c j, (c = 6 ∧ (j = 0 ∨ j = 2)) ∨ (7 ≤ c ∧ c ≤ 10) ∨ (13 ≤ c ∧ c ≤ 16) ∨ (c = 25 ∧ 3 ≤ j) ∨ (27 ≤ c ∧ c ≤ 30) → M' c j = M c j) : kBase M' t := by
  obtain ⟨h1, h2, h3⟩ := h
  refine ⟨fun d d0 d1 => ?_, ?_, ?_⟩
  · rw [e 6 0 (by omega)] at d1
    rw [kBorn_fr (fun c j hc => e c j (by omega)), kLead_fr (fun c j hc => e c j (by omega)), e 27 d (by omega), e 28 d (by omega), e 29 d (by omega), e 30 d (by omega)]
    exact h1 d d0 d1
  · simp (disch := omega) only [e]; exact h2
  · simp (disch := omega) only [e]; exact h3
/-- k kin are in the table, of the next one those of the persons below i -/
def kI (M0 : em_M) (t w s k i : Int) (M : em_M) : Prop := (∀ c j, ¬ (31 ≤ c ∧ c ≤ 50) → M c j = M0 c j) ∧ (∀ k', 0 ≤ k' → k' < k → ∀ d, 0 ≤ d → d < M 6 0 → mk (M (31 + k') d) (kOf M t w (kT M) k' d)) ∧ ∀ d, 0 ≤ d → d < i → mk (M (31 + k) d) (kOf M t w (kT M) k d)
theorem kI_step {M0 : em_M} {t w s k i v : Int} (hw : w = 53 ∨ w = 366) (hR : ∀ k', 0 ≤ k' → k' ≤ k → RKin M w s k') (k0 : 0 ≤ k) (k1 : k < 20) (i0 : 0 ≤ i) (hv : mk v (kOf M t w (kT M) k i)) (h : kI M0 t w s k i M) : kI M0 t w s k (i + 1) (xup M (31 + k) i v) := by
  obtain ⟨h1, h2, h3⟩ := h
  have eO : kOf (xup M (31 + k) i v) t w = kOf M t w := by
    funext T
    exact kOf_fr (fun c j hc => xup_ne (by omega))
  have eT : ∀ k' d, 0 ≤ k' → k' < k → kT (xup M (31 + k) i v) k' d = kT M k' d := fun k' d q0 q1 => by
    unfold kT
    rw [if_pos (by omega), if_pos (by omega), xup_ne (by omega)]
  have eK : ∀ k' d, 0 ≤ k' → k' ≤ k → kOf M t w (kT (xup M (31 + k) i v)) k' d = kOf M t w (kT M) k' d := fun k' d q0 q1 => kOf_cg (hR k' q0 q1) (fun k'' d z0 z1 _ _ => eT k'' d z0 (by omega))
  refine ⟨fun c j hc => by rw [xup_ne (by omega)]; exact h1 c j hc, fun k' q0 q1 d d0 d1 => ?_, fun d d0 d1 => ?_⟩
  · rw [xup_ne (by omega)] at d1
    rw [eO, eK k' d q0 (by omega), xup_ne (by omega)]
    exact h2 k' q0 q1 d d0 d1
  · rw [eO, eK k d k0 (Int.le_refl _)]
    by_cases q : d = i
    · rw [q, xup_eq]; exact hv
    · rw [xup_ne (by omega)]
      exact h3 d d0 (by omega)
theorem f_ref82 {M0 : em_M} {t w s k : Int} (hw : w = 53 ∨ w = 366) (k0 : 0 ≤ k) (k1 : k < 20) : ∀ (n : Nat) (M : em_M) (i : Int), M 6 0 ≤ 30 → kBase M t → (∀ k', 0 ≤ k' → k' ≤ k → RKin M w s k') → 0 ≤ i → i ≤ M 6 0 → M 6 0 - i ≤ n → kI M0 t w s k i M → ∃ M', f_Kinship_refresh_82 w k i M = f_Kinship_refresh_63 w (k + 1) M' ∧ kI M0 t w s (k + 1) 0 M' ∧ ∀ c j, ¬ (c = 31 + k) → M' c j = M c j := by
  intro n
  induction n with
  | zero =>
    intro M i hn hb hR i0 i1 hk h
    refine ⟨M, ?_, ⟨h.1, fun k' q0 q1 d d0 d1 => ?_, fun d d0 d1 => absurd d1 (by omega)⟩, fun _ _ _ => rfl⟩
    · rw [q_Kinship_refresh_82, em_cd, if_pos (by omega), x32_s (by omega) (by omega)]
    · by_cases q : k' = k
      · rw [q]
        exact h.2.2 d d0 (by omega)
      · exact h.2.1 k' q0 (by omega) d d0 d1
  | succ n ih =>
    intro M i hn hb hR i0 i1 hk h
    by_cases q : M 6 0 ≤ i
    · refine ⟨M, ?_, ⟨h.1, fun k' q0 q1 d d0 d1 => ?_, fun d d0 d1 => absurd d1 (by omega)⟩, fun _ _ _ => rfl⟩
      · rw [q_Kinship_refresh_82, em_cd, if_pos (by omega), x32_s (by omega) (by omega)]
      · by_cases q : k' = k
        · rw [q]
          exact h.2.2 d d0 (by omega)
        · exact h.2.1 k' q0 (by omega) d d0 d1
    · obtain ⟨v, f1, f2⟩ := f_follow hn hw hb (hR k k0 (Int.le_refl _)) k0 k1 h.2.1 i0 (by omega)
      have e := q_Kinship_refresh_82 w k i M
      rw [f1] at e
      simp only [em_cd, Option.bind_some, Int.reduceAdd, Int.mul_one] at e
      rw [if_neg (by omega), if_neg (by omega), x32_s (x := 4 + k) (by omega) (by omega), if_pos (by omega), kRow_in (by omega) (by omega) i0 (by omega), cond_true, x32_s (by omega) (by omega), show 27 + (4 + k) = 31 + k by omega] at e
      obtain ⟨M', g1, g2, g3⟩ := ih (xup M (31 + k) i v) (i + 1) (by rw [xup_ne (by omega)]; exact hn) (kBase_fr hb (fun c j hc => xup_ne (by omega))) (fun k' q0 q1 => RKin_fr (hR k' q0 q1) (fun c j hc => xup_ne (by omega)) (fun c j hc => xup_ne (by omega))) (by omega) (by rw [xup_ne (by omega)]; omega) (by rw [xup_ne (by omega)]; omega) (kI_step hw hR k0 k1 i0 f2 h)
      refine ⟨M', e.trans g1, g2, fun c j hc => ?_⟩
      rw [g3 c j hc, xup_ne (by omega)]
theorem f_ref63 {M0 : em_M} {t w s : Int} (hw : w = 53 ∨ w = 366) : ∀ (n : Nat) (M : em_M) (k : Int), 0 ≤ M 6 0 → M 6 0 ≤ 30 → kBase M t → RLaw M w s → 0 ≤ k → k ≤ M w 0 → M w 0 - k ≤ n → kI M0 t w s k 0 M → ∃ M', f_Kinship_refresh_63 w k M = some (0, M') ∧ kI M0 t w s (M w 0) 0 M' ∧ ∀ c j, ¬ (31 ≤ c ∧ c ≤ 50) → M' c j = M c j := by
  intro n
  induction n with
  | zero =>
    intro M k h0 hn hb hR k0 k1 hk h
    refine ⟨M, ?_, by rw [show M w 0 = k by omega]; exact h, fun _ _ _ => rfl⟩
    rw [q_Kinship_refresh_63, isO_law hw, cond_true, em_cd, if_pos (by omega)]
  | succ n ih =>
    intro M k h0 hn hb hR k0 k1 hk h
    by_cases q : M w 0 ≤ k
    · refine ⟨M, ?_, by rw [show M w 0 = k by omega]; exact h, fun _ _ _ => rfl⟩
      rw [q_Kinship_refresh_63, isO_law hw, cond_true, em_cd, if_pos (by omega)]
    · have hk20 := hR.1.2.2
      obtain ⟨A, a1, a2, a3⟩ := f_ref82 (M0 := M0) (t := t) (s := s) hw k0 (by omega) 30 M 0 hn hb (fun k' q0 q1 => hR.2.2.1 k' q0 (by omega)) (by omega) h0 (by omega) h
      have ew : A w 0 = M w 0 := a3 _ _ (by omega)
      have e6 : A 6 0 = M 6 0 := a3 _ _ (by omega)
      obtain ⟨B, g1, g2, g3⟩ := ih A (k + 1) (by omega) (by omega) (kBase_fr hb (fun c j hc => a3 c j (by omega))) (RLaw_fr hR (fun c j hc => a3 c j (by omega)) (fun c j hc => a3 c j (by omega))) (by omega) (by omega) (by omega) a2
      refine ⟨B, ?_, by rw [← ew]; exact g2, fun c j hc => by rw [g3 c j hc, a3 c j (by omega)]⟩
      rw [q_Kinship_refresh_63, isO_law hw, cond_true, em_cd, if_neg q, em_cd, if_neg (by omega), a1]
      exact g1
theorem f_refresh {t : Int} (hP : RP M) (hM : RM M) (hW : RW M) (hK : RK M) (t0 : 0 ≤ t) (t1 : t ≤ 100000) : ∃ M', f_Kinship_refresh (M 0 11) t M = some (0, M') ∧ M' 25 2 = t ∧ kTab M' t ∧ ∀ c j, ¬ ((c = 25 ∧ 2 ≤ j ∧ j ≤ 4) ∨ (27 ≤ c ∧ c ≤ 50)) → M' c j = M c j := by
  by_cases q : M 25 2 = t
  · refine ⟨M, ?_, q, ?_, fun _ _ _ => rfl⟩
    · rw [q_Kinship_refresh, em_cd, if_neg (fun z => z q)]
    · rcases hK with k | ⟨k1, k2, k3⟩
      · omega
      · rw [← q]; exact k3
  · have hn := hP.2.2.1
    -- ofSex, twice; bornBy
    obtain ⟨v0, a1, a2⟩ := f_ofSex (M := xup M 25 2 t) (by rw [xup_ne (by omega)]; exact hn) 0
    obtain ⟨v1, b1, b2'⟩ := f_ofSex (M := xup (xup M 25 2 t) 25 3 v0) (by simp (disch := omega) only [xup_ne]; exact hn) 1
    obtain ⟨b, c1, c2⟩ := f_bornBy (M := xup (xup (xup M 25 2 t) 25 3 v0) 25 4 v1) (by simp (disch := omega) only [xup_ne]; exact hn) t
    generalize hA : xup (xup (xup M 25 2 t) 25 3 v0) 25 4 v1 = A at c1 c2
    have eA : ∀ c j, ¬ (c = 25 ∧ 2 ≤ j ∧ j ≤ 4) → A c j = M c j := fun c j hc => by
      rw [← hA]
      simp (disch := omega) only [xup_ne]
    have eA2 : A 25 2 = t ∧ A 25 3 = v0 ∧ A 25 4 = v1 := by
      rw [← hA]
      simp (disch := omega) only [xup_ne, xup_eq, and_self]
    simp (disch := omega) only [xup_ne] at a2 b2'
    obtain ⟨B, d1, d2, d3, d4⟩ := f_parents (RP_fr hP (fun c j hc => eA c j (by omega))) c2
    have eB : ∀ c j, ¬ (c = 25 ∧ 2 ≤ j ∧ j ≤ 4) → ¬ (27 ≤ c ∧ c ≤ 29) → B c j = M c j := fun c j h1 h2 => by rw [d2 c j h2, eA c j h1]
    have c3 : mk b (fun x => x < B 6 0 ∧ B 10 x ≤ t) := by
      simp (disch := omega) only [d2]
      exact c2
    obtain ⟨D, g1, g2, g3⟩ := f_setMates (M := B) (RP_fr hP (fun c j hc => eB c j (by omega) (by omega))) (RM_fr hM (fun c j hc => eB c j (by omega) (by omega))) c3
    have eD : ∀ c j, ¬ (c = 25 ∧ 2 ≤ j ∧ j ≤ 4) → ¬ (27 ≤ c ∧ c ≤ 30) → D c j = M c j := fun c j h1 h2 => by rw [g2 c j (by omega), eB c j h1 (by omega)]
    have eDB : kBorn D t = kBorn M t := kBorn_fr (fun c j hc => eD c j (by omega) (by omega))
    have eDL : kLead D t = kLead M t := by
      funext T
      exact kLead_fr (fun c j hc => eD c j (by omega) (by omega))
    have eAB : kBorn A t = kBorn M t := kBorn_fr (fun c j hc => eA c j (by omega))
    have eBB : kBorn B t = kBorn M t := kBorn_fr (fun c j hc => eB c j (by omega) (by omega))
    have hbase : kBase D t := by
      refine ⟨fun d d0 d1' => ?_, ?_, ?_⟩
      · rw [eD 6 0 (by omega) (by omega)] at d1'
        rw [eDB, eDL]
        have h27 := d3 d d0 (by rw [eA 6 0 (by omega)]; exact d1')
        have h28 := d4 d d0 (by rw [eA 6 0 (by omega)]; exact d1')
        have h30 := g3 d d0 (by rw [eB 6 0 (by omega) (by omega)]; exact d1')
        rw [eAB] at h27 h28
        rw [eBB] at h30
        rw [g2 27 d (by omega), g2 28 d (by omega), g2 29 d (by omega)]
        refine ⟨h27.cong (fun x x0 x1 => ?_), h28.1.cong (fun x x0 x1 => ?_), h28.2.cong (fun x x0 x1 => ?_), h30.cong (fun x x0 x1 => ?_)⟩
        · rw [eA 8 x (by omega), eA 9 x (by omega), eA 6 0 (by omega)]
          unfold kLead
          rw [if_pos rfl]
          exact ⟨fun z => z.2, fun z => ⟨z.1.2.1, z⟩⟩
        · rw [eA 8 d (by omega)]
          exact Iff.rfl
        · rw [eA 9 d (by omega)]
          exact Iff.rfl
        · have e1 : ∀ c j, (13 ≤ c ∧ c ≤ 16) → B c j = M c j := fun c j hc => eB c j (by omega) (by omega)
          have e2 : B 6 2 = M 6 2 := eB _ _ (by omega) (by omega)
          simp (disch := omega) only [e1, e2]
          exact Iff.rfl
      · rw [g2 25 3 (by omega), d2 25 3 (by omega), eA2.2.1, eD 6 0 (by omega) (by omega)]
        refine a2.cong (fun x x0 x1 => ?_)
        rw [eD 7 x (by omega) (by omega)]
      · rw [g2 25 4 (by omega), d2 25 4 (by omega), eA2.2.2, eD 6 0 (by omega) (by omega)]
        refine b2'.cong (fun x x0 x1 => ?_)
        rw [eD 7 x (by omega) (by omega)]
    have hWD := RW_fr hW (fun c j hc => eD c j (by omega) (by omega))
    have e11 : D 0 11 = M 0 11 := eD _ _ (by omega) (by omega)
    have hLD := hWD.2.2.2
    rw [e11] at hLD
    have hI : kI D t (M 0 11) (D 439 17) 0 0 D := ⟨fun _ _ _ => rfl, fun k' q0 q1 => absurd q1 (by omega), fun d d0 d1 => absurd d1 (by omega)⟩
    have e60 : D 6 0 = M 6 0 := eD _ _ (by omega) (by omega)
    obtain ⟨E, k1, k2, k3⟩ := f_ref63 (M0 := D) (s := D 439 17) hW.1 20 D 0 (by rw [e60]; exact hP.2.1) (by rw [e60]; exact hn) hbase hLD (Int.le_refl _) hLD.1.2.1 (by have := hLD.1.2.2; omega) hI
    refine ⟨E, ?_, ?_, ?_, fun c j hc => by rw [k3 c j (by omega), eD c j (by omega) (by omega)]⟩
    · rw [q_Kinship_refresh, em_cd, if_pos q, a1]
      simp only [Option.bind_some]
      rw [b1]
      simp only [Option.bind_some]
      rw [hA, c1]
      simp only [Option.bind_some]
      rw [d1]
      simp only [Option.bind_some]
      rw [x32_s (by omega) (by omega), g1]
      exact k1
    · rw [k3 25 2 (by omega), g2 25 2 (by omega), d2 25 2 (by omega)]
      exact eA2.1
    · have hbE := kBase_fr hbase (fun c j hc => k3 c j (by omega))
      have e3 : E 0 11 = M 0 11 := by rw [k3 _ _ (by omega)]; exact e11
      have e4 : E (M 0 11) 0 = D (M 0 11) 0 := k3 _ _ (by have := hW.1; omega)
      refine ⟨hbE.1, hbE.2.1, hbE.2.2, fun k q0 q1 d d0 d1 => ?_⟩
      rw [e3, e4] at q1
      rw [e3]
      exact k2.2.1 k q0 q1 d d0 d1
end
