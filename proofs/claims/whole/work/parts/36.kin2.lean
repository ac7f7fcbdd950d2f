/-! KIN: the tables of parents and mates; a step from a set. -/
section
variable {M : em_M}
theorem paO_ne {A : em_M} {m v c j : Int} (h : ¬ (c = 27 ∧ j = m)) : paO A m v c j = A c j := by
  unfold paO
  by_cases q : 0 ≤ m ∧ m < A 6 0
  · rw [if_pos q, xup_ne h]
  · rw [if_neg q]
theorem paO_mk {A : em_M} {m v d : Int} {S V : Int → Prop} (d0 : 0 ≤ d) (d1 : d < A 6 0) (hS : mk (A 27 d) S) (hV : mk v V) : mk (paO A m v 27 d) (fun x => S x ∨ (m = d ∧ V x)) := by
  unfold paO
  by_cases q : m = d
  · subst q
    rw [if_pos ⟨d0, d1⟩, xup_eq]
    exact (hS.or hV).cong (fun x _ _ => ⟨fun z => z.elim Or.inl (fun z => Or.inr ⟨rfl, z⟩), fun z => z.elim Or.inl (fun z => Or.inr z.2)⟩)
  · have : mk (A 27 d) (fun x => S x ∨ (m = d ∧ V x)) := hS.cong (fun x _ _ => ⟨Or.inl, fun z => z.elim id (fun z => absurd z.1 q)⟩)
    by_cases r : 0 ≤ m ∧ m < A 6 0
    · rw [if_pos r, xup_ne (by omega)]; exact this
    · rw [if_neg r]; exact this
/-- the parents' table of those below i -/
def paI (M0 : em_M) (t i : Int) (M : em_M) : Prop := (∀ c j, ¬ (27 ≤ c ∧ c ≤ 29) → M c j = M0 c j) ∧ (∀ d, 0 ≤ d → d < M0 6 0 → mk (M 27 d) (fun x => x < i ∧ kBorn M0 t x ∧ (M0 8 x = d ∨ M0 9 x = d))) ∧ ∀ d, 0 ≤ d → d < i → mk (M 28 d) (fun x => kBorn M0 t x ∧ M0 8 d = x) ∧ mk (M 29 d) (fun x => kBorn M0 t x ∧ M0 9 d = x)
theorem paW_mk {b m t : Int} (hn : M 6 0 ≤ 30) (hb : mk b (fun x => x < M 6 0 ∧ M 10 x ≤ t)) (h1 : -1 ≤ m) (h2 : m < M 6 0) : mk (paW M b m) (fun x => kBorn M t x ∧ m = x) := by
  unfold paW
  by_cases q : 0 ≤ m ∧ m < M 6 0
  · rw [if_pos q]
    refine ((mk_bit q.1 (by omega)).and hb).cong (fun x x0 _ => ?_)
    unfold kBorn
    omega
  · rw [if_neg q]
    exact mk_0.cong (fun x x0 _ => ⟨fun z => z.elim, fun z => absurd z.2 (by omega)⟩)
theorem paI_step {M0 : em_M} {t i b : Int} (hP : RP M0) (hb : mk b (fun x => x < M0 6 0 ∧ M0 10 x ≤ t)) (i0 : 0 ≤ i) (i1 : i < M0 6 0) (h : paI M0 t i M) : paI M0 t (i + 1) (paM M b i) := by
  obtain ⟨h1, h2, h3⟩ := h
  obtain ⟨p1, p2, p3, p4⟩ := hP
  obtain ⟨-, ⟨-, m1, m2⟩, ⟨-, f1, f2⟩, -⟩ := p4 i i0 i1
  have e60 : M 6 0 = M0 6 0 := h1 _ _ (by omega)
  have e8 : M 8 i = M0 8 i := h1 _ _ (by omega)
  have e9 : M 9 i = M0 9 i := h1 _ _ (by omega)
  have hw : ∀ m, paW M b m = paW M0 b m := fun m => by unfold paW; rw [e60]
  have hit : mk (x_and (x_shl 1 i) b) (fun x => x = i ∧ kBorn M0 t x) := ((mk_bit i0 (by omega)).and hb).cong (fun x x0 _ => by unfold kBorn; omega)
  have a60 : paA M b i 6 0 = M0 6 0 := by
    unfold paA
    rw [xup_ne (by omega), xup_ne (by omega)]; exact e60
  refine ⟨fun c j hc => ?_, fun d d0 d1 => ?_, fun d d0 d1 => ?_⟩
  · unfold paM paA
    rw [paO_ne (by omega), paO_ne (by omega), xup_ne (by omega), xup_ne (by omega)]
    exact h1 c j hc
  · unfold paM
    have hA : mk (paA M b i 27 d) (fun x => x < i ∧ kBorn M0 t x ∧ (M0 8 x = d ∨ M0 9 x = d)) := by
      unfold paA
      rw [xup_ne (by omega), xup_ne (by omega)]
      exact h2 d d0 d1
    refine (paO_mk d0 (by rw [paO_ne (by omega), a60]; exact d1) (paO_mk (m := M 8 i) d0 (by rw [a60]; exact d1) hA hit) hit).cong (fun x x0 _ => ?_)
    rw [e8, e9]
    constructor
    · rintro ((z | z) | z)
      · exact ⟨by omega, z.2⟩
      · exact ⟨by omega, z.2.2, Or.inl (by rw [z.2.1]; exact z.1)⟩
      · exact ⟨by omega, z.2.2, Or.inr (by rw [z.2.1]; exact z.1)⟩
    · rintro ⟨z1, z2, z3⟩
      by_cases q : x = i
      · rcases z3 with z3 | z3
        · exact Or.inl (Or.inr ⟨by rw [← q]; exact z3, q, z2⟩)
        · exact Or.inr ⟨by rw [← q]; exact z3, q, z2⟩
      · exact Or.inl (Or.inl ⟨by omega, z2, z3⟩)
  · unfold paM paA
    rw [paO_ne (by omega), paO_ne (by omega), paO_ne (by omega), paO_ne (by omega)]
    by_cases q : d = i
    · subst q
      rw [xup_ne (by omega), xup_eq, xup_eq, hw, hw, e8, e9]
      exact ⟨paW_mk p3 hb m1 (by omega), paW_mk p3 hb f1 (by omega)⟩
    · rw [xup_ne (by omega), xup_ne (by omega), xup_ne (by omega), xup_ne (by omega)]
      exact h3 d d0 (by omega)
theorem f_parents_i {M0 : em_M} {t b : Int} (hP : RP M0) (hb : mk b (fun x => x < M0 6 0 ∧ M0 10 x ≤ t)) : ∀ (k : Nat) (M : em_M) (i : Int), 0 ≤ i → i ≤ M0 6 0 → M0 6 0 - i ≤ k → paI M0 t i M → ∃ M', f_Kinship_setParents_12 b i M = some (0, M') ∧ paI M0 t (M0 6 0) M' := by
  intro k
  induction k with
  | zero =>
    intro M i i0 i1 hk h
    have e60 : M 6 0 = M0 6 0 := h.1 _ _ (by omega)
    refine ⟨M, by rw [q_Kinship_setParents_12, em_cd, if_pos (by omega)], ?_⟩
    rw [show M0 6 0 = i by omega]; exact h
  | succ k ih =>
    intro M i i0 i1 hk h
    have e60 : M 6 0 = M0 6 0 := h.1 _ _ (by omega)
    by_cases q : M0 6 0 ≤ i
    · refine ⟨M, by rw [q_Kinship_setParents_12, em_cd, if_pos (by omega)], ?_⟩
      rw [show M0 6 0 = i by omega]; exact h
    · rw [f_par12 (by rw [e60]; exact hP.2.2.1) i0 (by omega)]
      exact ih _ (i + 1) (by omega) (by omega) (by omega) (paI_step hP hb i0 (by omega) h)
theorem f_parents {t b : Int} (hP : RP M) (hb : mk b (fun x => x < M 6 0 ∧ M 10 x ≤ t)) : ∃ M', f_Kinship_setParents b M = some (0, M') ∧ paI M t (M 6 0) M' := by
  have hk := kRow_at (j := 27) (by omega) (by omega)
  have h0 : paI M t 0 (flM M 27 0 0) := by
    refine ⟨fun c j hc => flM_ne (by omega), fun d d0 d1 => ?_, fun d d0 d1 => absurd d1 (by omega)⟩
    have := hP.2.2.1
    rw [flM_in d0 (by omega)]
    exact mk_0.cong (fun x x0 _ => ⟨fun z => z.elim, fun z => absurd z.1 (by omega)⟩)
  obtain ⟨M', h1, h2⟩ := f_parents_i hP hb 30 (flM M 27 0 0) 0 (by omega) hP.2.1 (by have := hP.2.2.1; omega) h0
  refine ⟨M', ?_, h2⟩
  rw [q_Kinship_setParents]
  simp only [Int.reduceMul, Int.reduceAdd]
  rw [f_fill hk.1 hk.2]
  exact h1
/-! mates -/
theorem f_areMates (i t : Int) (hm : M 6 2 ≤ 60) : f_Register_areMates i t M = some (b2 (0 ≤ i ∧ i < M 6 2 ∧ M 15 i ≤ t ∧ (M 16 i = -1 ∨ t < M 16 i)), M) := by
  rw [q_Register_areMates]
  simp only [em_cd, b2]
  repeat' split
  all_goals first | rfl | omega
def maI (M0 : em_M) (t i : Int) (M : em_M) : Prop := (∀ c j, ¬ (c = 30) → M c j = M0 c j) ∧ ∀ d, 0 ≤ d → d < M0 6 0 → mk (M 30 d) (fun x => kBorn M0 t x ∧ ∃ q, 0 ≤ q ∧ q < i ∧ (M0 15 q ≤ t - 1 ∧ (M0 16 q = -1 ∨ t - 1 < M0 16 q)) ∧ ((M0 13 q = d ∧ M0 14 q = x) ∨ (M0 14 q = d ∧ M0 13 q = x)))
theorem f_mates_i {M0 : em_M} {t b : Int} (hP : RP M0) (hM : RM M0) (hb : mk b (fun x => x < M0 6 0 ∧ M0 10 x ≤ t)) : ∀ (k : Nat) (M : em_M) (i : Int), 0 ≤ i → i ≤ M0 6 2 → M0 6 2 - i ≤ k → maI M0 t i M → ∃ M', f_Kinship_setMates_12 b (t - 1) i M = some (0, M') ∧ maI M0 t (M0 6 2) M' := by
  obtain ⟨p1, p2, p3, p4⟩ := hP
  obtain ⟨m1, m2, m3, m4⟩ := hM
  intro k
  induction k with
  | zero =>
    intro M i i0 i1 hk h
    have e62 : M 6 2 = M0 6 2 := h.1 _ _ (by omega)
    refine ⟨M, by rw [q_Kinship_setMates_12, em_cd, if_pos (by omega)], ?_⟩
    rw [show M0 6 2 = i by omega]; exact h
  | succ k ih =>
    intro M i i0 i1 hk h
    have e62 : M 6 2 = M0 6 2 := h.1 _ _ (by omega)
    have e60 : M 6 0 = M0 6 0 := h.1 _ _ (by omega)
    by_cases q : M0 6 2 ≤ i
    · refine ⟨M, by rw [q_Kinship_setMates_12, em_cd, if_pos (by omega)], ?_⟩
      rw [show M0 6 2 = i by omega]; exact h
    · obtain ⟨⟨-, a1, a2⟩, ⟨-, b1, b2'⟩, -, -⟩ := m4 i i0 (by omega)
      obtain ⟨h1, h2⟩ := h
      have e13 : M 13 i = M0 13 i := h1 _ _ (by omega)
      have e14 : M 14 i = M0 14 i := h1 _ _ (by omega)
      have e15 : M 15 i = M0 15 i := h1 _ _ (by omega)
      have e16 : M 16 i = M0 16 i := h1 _ _ (by omega)
      have e := q_Kinship_setMates_12 b (t - 1) i M
      rw [f_areMates i (t - 1) (by omega)] at e
      simp only [em_cd, Option.bind_some, b2_z, Int.reduceMul, Int.reduceAdd, f_has30 (show M 6 0 ≤ 30 by omega)] at e
      rw [if_neg (by omega), if_neg (by omega), if_pos (by omega), if_pos (by omega), x32_s (by omega) (by omega), e13, e14, e15, e16, e62] at e
      by_cases hc : M0 15 i ≤ t - 1 ∧ (M0 16 i = -1 ∨ t - 1 < M0 16 i)
      · rw [if_neg (fun z => z ⟨i0, by omega, hc⟩), if_neg (fun z => z ⟨a1, by omega⟩), if_neg (fun z => z ⟨b1, by omega⟩), kRow_in (j := 30) (by omega) (by omega) a1 (by omega), kRow_in (j := 30) (by omega) (by omega) b1 (by omega)] at e
        simp only [cond_true] at e
        generalize hX : xup (xup M 30 (M0 13 i) (x_or (M 30 (M0 13 i)) (x_and (x_shl 1 (M0 14 i)) b))) 30 (M0 14 i) (x_or (xup M 30 (M0 13 i) (x_or (M 30 (M0 13 i)) (x_and (x_shl 1 (M0 14 i)) b)) 30 (M0 14 i)) (x_and (x_shl 1 (M0 13 i)) b)) = X at e
        have hX1 : ∀ c j, ¬ (c = 30) → X c j = M0 c j := fun c j hc => by
          rw [← hX, xup_ne (by omega), xup_ne (by omega)]; exact h1 c j hc
        have hbit : ∀ m, 0 ≤ m → m < M0 6 0 → mk (x_and (x_shl 1 m) b) (fun x => x = m ∧ kBorn M0 t x) := fun m q0 q1 => ((mk_bit q0 (by omega)).and hb).cong (fun x x0 _ => by unfold kBorn; omega)
        have hX2 : maI M0 t (i + 1) X := by
          refine ⟨hX1, fun d d0 d1 => ?_⟩
          have s0 := h2 d d0 d1
          have step1 : mk (xup M 30 (M0 13 i) (x_or (M 30 (M0 13 i)) (x_and (x_shl 1 (M0 14 i)) b)) 30 d) (fun x => (kBorn M0 t x ∧ ∃ q, 0 ≤ q ∧ q < i ∧ (M0 15 q ≤ t - 1 ∧ (M0 16 q = -1 ∨ t - 1 < M0 16 q)) ∧ ((M0 13 q = d ∧ M0 14 q = x) ∨ (M0 14 q = d ∧ M0 13 q = x))) ∨ (M0 13 i = d ∧ x = M0 14 i ∧ kBorn M0 t x)) := by
            by_cases r : d = M0 13 i
            · rw [← r, xup_eq]
              exact (s0.or (hbit _ b1 b2')).cong (fun x _ _ => ⟨fun z => z.elim Or.inl (fun z => Or.inr ⟨rfl, z⟩), fun z => z.elim Or.inl (fun z => Or.inr z.2)⟩)
            · rw [xup_ne (by omega)]
              exact s0.cong (fun x _ _ => ⟨Or.inl, fun z => z.elim id (fun z => absurd z.1.symm r)⟩)
          have step2 : mk (X 30 d) (fun x => ((kBorn M0 t x ∧ ∃ q, 0 ≤ q ∧ q < i ∧ (M0 15 q ≤ t - 1 ∧ (M0 16 q = -1 ∨ t - 1 < M0 16 q)) ∧ ((M0 13 q = d ∧ M0 14 q = x) ∨ (M0 14 q = d ∧ M0 13 q = x))) ∨ (M0 13 i = d ∧ x = M0 14 i ∧ kBorn M0 t x)) ∨ (M0 14 i = d ∧ x = M0 13 i ∧ kBorn M0 t x)) := by
            rw [← hX]
            by_cases r : d = M0 14 i
            · rw [← r, xup_eq]
              rw [← r] at step1
              exact (step1.or (hbit _ a1 a2)).cong (fun x _ _ => ⟨fun z => z.elim Or.inl (fun z => Or.inr ⟨rfl, z⟩), fun z => z.elim Or.inl (fun z => Or.inr z.2)⟩)
            · rw [xup_ne (by omega)]
              exact step1.cong (fun x _ _ => ⟨Or.inl, fun z => z.elim id (fun z => absurd z.1.symm r)⟩)
          refine step2.cong (fun x x0 _ => ?_)
          constructor
          · rintro ((⟨z1, q', z2, z3, z4⟩ | z) | z)
            · exact ⟨z1, q', z2, by omega, z4⟩
            · exact ⟨z.2.2, i, i0, by omega, hc, Or.inl ⟨z.1, z.2.1.symm⟩⟩
            · exact ⟨z.2.2, i, i0, by omega, hc, Or.inr ⟨z.1, z.2.1.symm⟩⟩
          · rintro ⟨z1, q', z2, z3, z4, z5⟩
            by_cases r : q' = i
            · subst r
              rcases z5 with z5 | z5
              · exact Or.inl (Or.inr ⟨z5.1, z5.2.symm, z1⟩)
              · exact Or.inr ⟨z5.1, z5.2.symm, z1⟩
            · exact Or.inl (Or.inl ⟨z1, q', z2, by omega, z4, z5⟩)
        obtain ⟨M', g1, g2⟩ := ih X (i + 1) (by omega) (by omega) (by omega) hX2
        exact ⟨M', e.trans g1, g2⟩
      · rw [if_pos (fun z => hc z.2.2)] at e
        have h3 : maI M0 t (i + 1) M := by
          refine ⟨h1, fun d d0 d1 => (h2 d d0 d1).cong (fun x x0 _ => ?_)⟩
          constructor
          · rintro ⟨z1, q', z2, z3, z4⟩
            exact ⟨z1, q', z2, by omega, z4⟩
          · rintro ⟨z1, q', z2, z3, z4, z5⟩
            have : ¬ q' = i := fun r => hc (by rw [← r]; exact z4)
            exact ⟨z1, q', z2, by omega, z4, z5⟩
        obtain ⟨M', g1, g2⟩ := ih M (i + 1) (by omega) (by omega) (by omega) h3
        exact ⟨M', e.trans g1, g2⟩
theorem f_setMates {t b : Int} (hP : RP M) (hM : RM M) (hb : mk b (fun x => x < M 6 0 ∧ M 10 x ≤ t)) : ∃ M', f_Kinship_setMates b (t - 1) M = some (0, M') ∧ maI M t (M 6 2) M' := by
  have hk := kRow_at (j := 30) (by omega) (by omega)
  have h0 : maI M t 0 (flM M 30 0 0) := by
    refine ⟨fun c j hc => flM_ne (by omega), fun d d0 d1 => ?_⟩
    have := hP.2.2.1
    rw [flM_in d0 (by omega)]
    refine mk_0.cong (fun x x0 _ => ⟨fun z => z.elim, ?_⟩)
    rintro ⟨-, q, z1, z2, -⟩
    omega
  obtain ⟨M', h1, h2⟩ := f_mates_i hP hM hb 60 (flM M 30 0 0) 0 (by omega) hM.2.1 (by have := hM.2.2.1; omega) h0
  refine ⟨M', ?_, h2⟩
  rw [q_Kinship_setMates]
  simp only [Int.reduceMul, Int.reduceAdd]
  rw [f_fill hk.1 hk.2]
  exact h1
/-! a step from a set -/
theorem f_reach {r d : Int} (hn : M 6 0 ≤ 30) (r0 : 0 ≤ r) (r1 : r < 24) (d0 : 0 ≤ d) (d1 : d < M 6 0) : f_Kinship_reach r d M = some (M (27 + r) d, M) := by
  rw [q_Kinship_reach, f_has30 hn]
  simp only [em_cd, Option.bind_some, b2_z, Int.reduceAdd, Int.mul_one]
  rw [if_neg (by omega), if_neg (by omega), if_neg (fun z => z ⟨d0, d1⟩), if_pos (by omega), kRow_in (by omega) (by omega) d0 (by omega), cond_true]
theorem mk.shr {v i : Int} {S : Int → Prop} (h : mk v S) (i0 : 0 ≤ i) (i1 : i < 32) : mk (x_shr v i) (fun x => x + i < 30 ∧ S (x + i)) := ⟨x32_of _, fun x h1 h2 => by
  have e : Int32.ofInt i = nI i.toNat := by
    apply Int32.toBitVec_inj.mp
    show BitVec.ofInt 32 i = BitVec.ofNat 32 i.toNat
    have : ((i.toNat : Nat) : Int) = i := by omega
    rw [← BitVec.ofInt_natCast, this]
  have e2 : tb (x_shr v i) x = if i.toNat + x.toNat < 32 then bt (Int32.ofInt v) (i.toNat + x.toNat) else bt (Int32.ofInt v) 31 := by
    unfold tb x_shr
    rw [Int32.ofInt_toInt, e]
    exact b_sshr i.toNat (by omega) _ (by omega)
  rw [e2]
  by_cases q : i.toNat + x.toNat < 32
  · rw [if_pos q]
    have h3 := h.2 (x + i) (by omega) (by omega)
    unfold tb at h3
    rw [show (x + i).toNat = i.toNat + x.toNat by omega] at h3
    rw [h3]
    exact ⟨fun z => ⟨by omega, z.1, z.2⟩, fun z => z.2⟩
  · rw [if_neg q]
    have h3 := h.2 31 (by omega) (by omega)
    unfold tb at h3
    rw [show (31 : Int).toNat = 31 from rfl] at h3
    rw [h3]
    exact ⟨fun z => absurd z.1 (by omega), fun z => absurd z.2.1 (by omega)⟩⟩
theorem f_step_i {r set : Int} {S : Int → Prop} {R : Int → Int → Prop} (hn : M 6 0 ≤ 30) (r0 : 0 ≤ r) (r1 : r < 24) (hs : mk set S) (hS : ∀ x, S x → x < M 6 0) (hR : ∀ d, 0 ≤ d → d < M 6 0 → mk (M (27 + r) d) (R d)) : ∀ (k : Nat) (acc i : Int) (A : Int → Prop), mk acc A → 0 ≤ i → 30 - i ≤ k → ∃ v, f_Kinship_stepFrom_25 set (27 + r) acc i M = some (v, M) ∧ mk v (fun x => A x ∨ ∃ d, i ≤ d ∧ d < M 6 0 ∧ S d ∧ R d x) := by
  intro k
  induction k with
  | zero =>
    intro acc i A hA i0 hk
    refine ⟨acc, by rw [q_Kinship_stepFrom_25, em_cd, if_pos (by omega)], hA.cong (fun x _ _ => ⟨Or.inl, fun z => z.elim id (fun ⟨d, z1, z2, _⟩ => by omega)⟩)⟩
  | succ k ih =>
    intro acc i A hA i0 hk
    by_cases q : 30 ≤ i
    · refine ⟨acc, by rw [q_Kinship_stepFrom_25, em_cd, if_pos (by omega)], hA.cong (fun x _ _ => ⟨Or.inl, fun z => z.elim id (fun ⟨d, z1, z2, _⟩ => by omega)⟩)⟩
    · have hz := (hs.shr i0 (by omega)).zero
      have e := q_Kinship_stepFrom_25 set (27 + r) acc i M
      simp only [em_cd] at e
      rw [if_neg q] at e
      by_cases z0 : x_shr set i = 0
      · rw [if_pos z0] at e
        refine ⟨acc, e, hA.cong (fun x _ _ => ⟨Or.inl, fun z => z.elim id (fun ⟨d, z1, z2, z3, _⟩ => ?_)⟩)⟩
        refine absurd ⟨?_, ?_⟩ (hz.mp z0 (d - i) (by omega) (by omega))
        · omega
        · rw [show d - i + i = d by omega]
          exact z3
      · rw [if_neg z0, x_bit i0 (by omega)] at e
        simp only [b2_z] at e
        by_cases hb : S i
        · have hi := hS i hb
          rw [if_neg (show ¬ ¬ (tb set i = true) from fun z => z ((hs.at_ i0 (by omega)).mpr hb)), kRow_in (by omega) (by omega) i0 (by omega), cond_true, x32_s (by omega) (by omega)] at e
          obtain ⟨v, h1, h2⟩ := ih _ (i + 1) _ (hA.or (hR i i0 hi)) (by omega) (by omega)
          refine ⟨v, e.trans h1, h2.cong (fun x _ _ => ?_)⟩
          constructor
          · rintro ((z | z) | ⟨d, z1, z2⟩)
            · exact Or.inl z
            · exact Or.inr ⟨i, by omega, by omega, hb, z⟩
            · exact Or.inr ⟨d, by omega, z2⟩
          · rintro (z | ⟨d, z1, z2, z3, z4⟩)
            · exact Or.inl (Or.inl z)
            · by_cases w : d = i
              · rw [w] at z4
                exact Or.inl (Or.inr z4)
              · exact Or.inr ⟨d, by omega, z2, z3, z4⟩
        · rw [if_pos (show ¬ (tb set i = true) from fun z => hb ((hs.at_ i0 (by omega)).mp z)), x32_s (by omega) (by omega)] at e
          obtain ⟨v, h1, h2⟩ := ih _ (i + 1) _ (hA.or mk_0) (by omega) (by omega)
          refine ⟨v, e.trans h1, h2.cong (fun x _ _ => ?_)⟩
          constructor
          · rintro ((z | z) | ⟨d, z1, z2⟩)
            · exact Or.inl z
            · exact z.elim
            · exact Or.inr ⟨d, by omega, z2⟩
          · rintro (z | ⟨d, z1, z2, z3, z4⟩)
            · exact Or.inl (Or.inl z)
            · have : ¬ d = i := fun w => hb (by rw [← w]; exact z3)
              exact Or.inr ⟨d, by omega, z2, z3, z4⟩
theorem f_step {r set : Int} {S : Int → Prop} {R : Int → Int → Prop} (hn : M 6 0 ≤ 30) (r0 : 0 ≤ r) (r1 : r < 24) (hs : mk set S) (hS : ∀ x, S x → x < M 6 0) (hR : ∀ d, 0 ≤ d → d < M 6 0 → mk (M (27 + r) d) (R d)) : ∃ v, f_Kinship_stepFrom r set M = some (v, M) ∧ mk v (fun x => ∃ d, 0 ≤ d ∧ d < M 6 0 ∧ S d ∧ R d x) := by
  obtain ⟨v, h1, h2⟩ := f_step_i hn r0 r1 hs hS hR 30 0 0 _ mk_0 (by omega) (by omega)
  refine ⟨v, ?_, h2.cong (fun x _ _ => ⟨fun z => z.elim (fun z => z.elim) id, Or.inr⟩)⟩
  rw [q_Kinship_stepFrom]
  simp only [em_cd, Int.reduceAdd, Int.mul_one]
  rw [if_neg (by omega), if_pos r1, if_pos ⟨r0, r1⟩]
  exact h1
theorem mk.m1 {v : Int} {S : Int → Prop} (h : mk v S) : mk (x_and v (-1)) S := ⟨x32_of _, fun x h1 h2 => by rw [tb_and, tb_m1 h1 h2, Bool.and_true]; exact h.2 x h1 h2⟩
end
