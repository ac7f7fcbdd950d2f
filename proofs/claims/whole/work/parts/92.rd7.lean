/-! read: what is noted; the kin of a name. -/
section
variable {C R M : em_M} {n m t w s u k0 : Int}
/-- the same is noted; what is noted stands ahead of u -/
def gN (m u : Int) (C R : em_M) : Prop := (C 51 8 = 0 ∧ R 439 14 = 0) ∨ (C 51 8 = R 439 14 ∧ (1 ≤ C 51 8 ∧ C 51 8 ≤ 5) ∧ (0 ≤ C 51 9 ∧ C 51 9 < u ∧ C 51 9 < m) ∧ R 439 15 = C 4 (C 51 9))
theorem gN.fr {C' R' : em_M} (h : gN m u C R) (e1 : ∀ c j, (c = 51 ∧ (j = 8 ∨ j = 9)) ∨ c = 4 → C' c j = C c j) (e2 : ∀ c j, c = 439 ∧ (j = 14 ∨ j = 15) → R' c j = R c j) : gN m u C' R' := by
  unfold gN at h ⊢
  rw [e1 51 8 (by omega), e1 51 9 (by omega), e1 4 _ (by omega), e2 439 14 (by omega), e2 439 15 (by omega)]
  exact h
theorem gN.up {u' : Int} (h : gN m u C R) (hu : u ≤ u') : gN m u' C R := h.imp id (fun ⟨a, b, ⟨c, d, e⟩, f⟩ => ⟨a, b, ⟨c, by omega, e⟩, f⟩)
theorem gN.nz (h : gN m u C R) (z : R 439 14 = 0) : C 51 8 = 0 := by
  rcases h with ⟨a, b⟩ | ⟨a, b, -⟩ <;> omega
/-- note and wrong -/
theorem nt_pair {k tok : Int} (hS : gST n m w s C R) (hf : R 439 12 = 0) (hN : gN m u C R) (hu : u ≤ tok + 1) (t0 : 0 ≤ tok) (t1 : tok < m) (k1 : 1 ≤ k) (k5 : k ≤ 5) (hk : C 51 8 = 0 ∨ C 51 9 < tok ∨ C 51 8 ≤ k) : ∃ C' R', f_Reader_note k tok C = some (0, C') ∧ f_Model_wrong k tok R = some (0, R') ∧ gN m (tok + 1) C' R' ∧ ¬ C' 51 8 = 0 ∧ (∀ c j, ¬ (c = 51 ∧ (j = 8 ∨ j = 9)) → C' c j = C c j) ∧ ∀ c j, ¬ (c = 439 ∧ (j = 14 ∨ j = 15)) → R' c j = R c j := by
  have m6 := hS.1.1.2.1.2
  have hpl := (hS.1.1.2.2.1 tok t0 t1).1.2
  have e1 := q_Reader_note k tok C
  have e2 := q_Model_wrong k tok R
  simp only [em_cd, if_pos (show 0 ≤ tok ∧ tok < 603 by omega), if_neg (show ¬ 0 < R 439 12 by omega), hpl] at e1 e2
  by_cases c : C 51 8 = 0
  · have c2 : R 439 14 = 0 := by
      rcases hN with ⟨a, b⟩ | ⟨a, b, -⟩ <;> omega
    rw [if_neg (fun z => z c)] at e1
    rw [if_pos c2] at e2
    refine ⟨_, _, e1, e2, Or.inr ?_, ?_, fun c j hc => by rw [xup_ne (by omega), xup_ne (by omega)], fun c j hc => by rw [xup_ne (by omega), xup_ne (by omega)]⟩
    · simp (disch := omega) only [xup_ne, xup_eq]
      exact ⟨trivial, ⟨k1, k5⟩, ⟨t0, by omega, t1⟩, trivial⟩
    · simp (disch := omega) only [xup_ne, xup_eq]
      omega
  · obtain ⟨a1, a2, ⟨a3, a4, a5⟩, a6⟩ := hN.resolve_left (fun z => c z.1)
    rw [if_pos c] at e1
    rw [if_neg (by omega), a6] at e2
    have e3 : f_Model_wrong k tok R = some (0, R) := by
      by_cases q : C 51 9 = tok
      · rw [q] at e2
        rw [if_neg (by omega), if_neg (fun z => z rfl), if_neg (by omega)] at e2
        exact e2
      · have := hS.1.1.2.2.2.1 (C 51 9) tok a3 (by omega) t1
        rw [if_pos this] at e2
        exact e2
    exact ⟨C, R, e1, e3, Or.inr ⟨a1, a2, ⟨a3, by omega, a5⟩, a6⟩, c, fun _ _ _ => rfl, fun _ _ _ => rfl⟩
/-- the kin told so far, by their names -/
def gNm (w s k0 : Int) (C R : em_M) : Prop := (C w 0 = k0 ∧ R 447 s = k0 ∧ 0 ≤ k0 ∧ k0 ≤ 20) ∧ ∀ k, 0 ≤ k → k < k0 → C 52 k = R 448 (20 * s + k)
theorem gNm.fr {C' R' : em_M} (h : gNm w s k0 C R) (e1 : ∀ c j, (c = w ∧ j = 0) ∨ c = 52 → C' c j = C c j) (e2 : ∀ c j, c = 447 ∨ c = 448 → R' c j = R c j) : gNm w s k0 C' R' := by
  obtain ⟨⟨a, b, c⟩, d⟩ := h
  exact ⟨⟨by rw [e1 w 0 (by omega)]; exact a, by rw [e2 447 s (by omega)]; exact b, c⟩, fun k h0 h1 => by rw [e1 52 k (by omega), e2 448 _ (by omega)]; exact d k h0 h1⟩
/-- q is the first kin of the name v -/
def isKin (C : em_M) (k0 v q : Int) : Prop := (0 ≤ q ∧ q < k0 ∧ C 52 q = v ∧ ∀ y, 0 ≤ y → y < q → ¬ C 52 y = v) ∨ (q = -1 ∧ ∀ y, 0 ≤ y → y < k0 → ¬ C 52 y = v)
theorem isKin.same {v q q' : Int} (h : isKin C k0 v q) (h' : isKin C k0 v q') : q = q' := by
  rcases h with ⟨a1, a2, a3, a4⟩ | ⟨a1, a2⟩
  · rcases h' with ⟨b1, b2', b3, b4⟩ | ⟨b1, b2'⟩
    · by_cases c : q < q'
      · exact absurd a3 (b4 q a1 c)
      · by_cases c2 : q' < q
        · exact absurd b3 (a4 q' b1 c2)
        · omega
    · exact absurd a3 (b2' q a1 a2)
  · rcases h' with ⟨b1, b2', b3, b4⟩ | ⟨b1, b2'⟩
    · exact absurd b3 (a2 q' b1 b2')
    · omega
theorem kn_pair {v tok : Int} (hS : gST n m w s C R) (hK : gNm w s k0 C R) (hv : R 445 tok = v) (t0 : 0 ≤ tok) (t1 : tok ≤ 602) : ∀ (f : Nat) (x : Int), 0 ≤ x → x + f = k0 → (∀ y, 0 ≤ y → y < x → ¬ C 52 y = v) → ∃ q, isKin C k0 v q ∧ f_Reader_kinNamed_2 v x C = some (q, C) ∧ (¬ q = -1 → f_Model_kinOf_2 tok k0 x R = some (q, R)) ∧ (q = -1 → f_Model_kinOf_2 tok k0 x R = (f_Model_wrong 4 tok R).bind fun r => some (-1, r.2)) := by
  obtain ⟨-, ⟨w1, w2⟩, s1, s2⟩ := id hS
  obtain ⟨⟨a1, a2, a3, a4⟩, a5⟩ := id hK
  intro f
  induction f with
  | zero =>
    intro x x0 hx hy
    have e1 := q_Reader_kinNamed_2 v x C
    have e2 := q_Model_kinOf_2 tok k0 x R
    simp only [w1, isO_law w2, em_cd, a1, if_pos (show k0 ≤ x by omega), cond_true] at e1 e2
    exact ⟨-1, Or.inr ⟨rfl, fun y y0 y1 => hy y y0 (by omega)⟩, e1, fun z => absurd rfl z, fun _ => e2⟩
  | succ f ih =>
    intro x x0 hx hy
    have e1 := q_Reader_kinNamed_2 v x C
    have e2 := q_Model_kinOf_2 tok k0 x R
    simp only [w1, isO_law w2, em_cd, a1, if_neg (show ¬ k0 ≤ x by omega), if_neg (show ¬ 20 ≤ x by omega), if_pos (show 0 ≤ x ∧ x < 20 by omega), cond_true, x_cmp_eq, s1, hv, if_pos (show 0 ≤ tok ∧ tok < 603 by omega), x32_s (show -1000000 ≤ x + 1 by omega) (show x + 1 ≤ 1000000 by omega)] at e1 e2
    rw [x32_s (x := 20 * s) (by omega) (by omega), x32_s (x := 20 * s + x) (by omega) (by omega), if_pos (by omega), ← a5 x x0 (by omega)] at e2
    by_cases c : C 52 x = v
    · rw [if_neg (fun z => z c)] at e1 e2
      exact ⟨x, Or.inl ⟨x0, by omega, c, hy⟩, e1, fun _ => e2, fun z => by omega⟩
    · rw [if_pos c] at e1 e2
      obtain ⟨q, k1, k2, k3, k4⟩ := ih (x + 1) (by omega) (by omega) (fun y y0 y1 => by
        by_cases z : y = x
        · subst z
          exact c
        · exact hy y y0 (by omega))
      exact ⟨q, k1, e1.trans k2, fun z => e2.trans (k3 z), fun z => e2.trans (k4 z)⟩
theorem m_mustf (ρ : Int) (hf : 0 < R 439 12) : f_Model_must ρ R = some (0, R) := by
  rw [q_Model_must, m_isf ρ (by omega)]
  simp only [Option.bind_some, em_cd]
  rw [if_pos trivial, m_failf 1 hf]
  rfl
theorem m_namef (hf : 0 < R 439 12) : f_Model_name R = some (0, R) := by
  rw [q_Model_name, m_isNf (by omega)]
  simp only [Option.bind_some, em_cd]
  rw [if_pos trivial, m_failf 1 hf]
  rfl
theorem m_namedf (hf : 0 < R 439 12) : f_Model_namedKin R = some (-1, R) := by
  rw [q_Model_namedKin, m_namef hf]
  simp only [Option.bind_some, em_cd]
  rw [if_neg (by omega)]
theorem m_wrongf {k tok : Int} (hf : 0 < R 439 12) (t0 : 0 ≤ tok) (t1 : tok ≤ 602) : f_Model_wrong k tok R = some (0, R) := by
  rw [q_Model_wrong]
  simp only [em_cd, if_pos (show 0 ≤ tok ∧ tok < 603 by omega), if_pos hf]
theorem m_partf (hf : 0 < R 439 12) : f_Model_part R = some (0, R) := by
  rw [q_Model_part, m_mustf 2 hf]
  simp only [Option.bind_some]
  rw [m_mustf 9 hf]
  simp only [Option.bind_some]
  rw [m_mustf 2 hf]
  simp only [Option.bind_some, em_cd]
  rw [if_neg (by omega)]
theorem gBd.pos (h : gBd n m C R) : 0 < R 439 12 := by have := h.1.2; omega
/-- the class finds the kin; the reference, one token further, too -/
theorem fd_pair (hS : gST n m w s C R) (hQ : gQ n m t C R) (hN : gN m t C R) (hK : gNm w s k0 C R) (h14 : C 51 4 = 14) : ∃ q C', f_Reader_findTold C = some (0, C') ∧ C' 51 10 = q ∧ isKin C k0 (C 51 5) q ∧ (∀ R1, (∀ c j, ¬ (c = 439 ∧ j = 11) → R1 c j = R c j) → ∃ R', f_Model_kinOf t k0 R1 = some (q, R') ∧ gN m (t + 1) C' R' ∧ ∀ c j, ¬ (c = 439 ∧ (j = 14 ∨ j = 15)) → R' c j = R1 c j) ∧ (q = -1 → ¬ C' 51 8 = 0) ∧ (¬ C 51 8 = 0 → ¬ C' 51 8 = 0) ∧ ∀ c j, ¬ (c = 51 ∧ 8 ≤ j ∧ j ≤ 10) → C' c j = C c j := by
  obtain ⟨⟨q1, q2, q3⟩, ⟨q4, q5⟩, ⟨q6, q7⟩, q8, q9, q10⟩ := id hQ
  have htm : t < m := by
    refine Classical.byContradiction (fun z => ?_)
    have := (q9 (by omega)).1
    omega
  have hnm := (kd_nm hS hQ h14).1
  obtain ⟨q, k1, k2, k3, k4⟩ := kn_pair hS hK hnm.symm q1 (by omega) k0.toNat 0 (by omega) (by have := hK.1.2.2.1; omega) (fun y y0 y1 => by omega)
  have e := q_Reader_findTold C
  rw [q_Reader_kinNamed, k2] at e
  simp only [Option.bind_some, em_cd, xup_eq] at e
  rw [xup_ne (by omega), q4] at e
  have hSX : gST n m w s (xup C 51 10 q) R := hS.fx (fnC.wd (fun c j hc => xup_ne (by omega))) (fxR.rf _ _)
  have hNX : gN m t (xup C 51 10 q) R := hN.fr (fun c j hc => xup_ne (by omega)) (fun _ _ _ => rfl)
  have hfr1 : ∀ R1 : em_M, (∀ c j, ¬ (c = 439 ∧ j = 11) → R1 c j = R c j) → gST n m w s C R1 ∧ gNm w s k0 C R1 := fun R1 h1 => ⟨hS.fx (fxC.rf _ _) (fnR.wd (fun c j hc => h1 c j (by omega))), hK.fr (fun _ _ _ => rfl) (fun c j hc => h1 c j (by omega))⟩
  by_cases c : q = -1
  · rw [if_neg (fun z => z c)] at e
    obtain ⟨C', R0, n1, -, -, n4, n5, -⟩ := nt_pair (k := 4) (tok := t) hSX q7 hNX (by omega) q1 htm (by omega) (by omega) (by
      rcases hNX with ⟨a, b⟩ | ⟨a, b, ⟨c1, c2, c3⟩, d⟩
      · exact Or.inl a
      · exact Or.inr (Or.inl c2))
    rw [n1] at e
    simp only [Option.bind_some] at e
    refine ⟨q, C', e, by rw [n5 _ _ (by omega), xup_eq], k1, fun R1 h1 => ?_, fun _ => n4, fun _ => n4, fun c j hc => by rw [n5 c j (by omega), xup_ne (by omega)]⟩
    obtain ⟨hS1, hK1⟩ := hfr1 R1 h1
    obtain ⟨q', g1, g2, g3, g4⟩ := kn_pair (v := C 51 5) (tok := t) hS1 hK1 (by rw [h1 445 t (by omega)]; exact hnm.symm) q1 (by omega) k0.toNat 0 (by omega) (by have := hK.1.2.2.1; omega) (fun y y0 y1 => by omega)
    have : q' = q := g1.same k1
    subst this
    have e4 := g4 c
    have hSX1 : gST n m w s (xup C 51 10 q') R1 := hS1.fx (fnC.wd (fun c j hc => xup_ne (by omega))) (fxR.rf _ _)
    have hNX1 : gN m t (xup C 51 10 q') R1 := hNX.fr (fun _ _ _ => rfl) (fun c j hc => h1 c j (by omega))
    obtain ⟨C2, R', p1, p2, p3, p4, p5, p6⟩ := nt_pair (k := 4) (tok := t) hSX1 (by rw [h1 439 12 (by omega)]; exact q7) hNX1 (by omega) q1 htm (by omega) (by omega) (by
      rcases hNX with ⟨a, b⟩ | ⟨a, b, ⟨c1, c2, c3⟩, d⟩
      · exact Or.inl a
      · exact Or.inr (Or.inl c2))
    rw [n1] at p1
    have eC : C' = C2 := by
      cases p1
      rfl
    subst eC
    rw [p2] at e4
    refine ⟨R', ?_, p3, p6⟩
    rw [q_Model_kinOf, e4, c]
    rfl
  · rw [if_pos c] at e
    refine ⟨q, _, e, xup_eq _ _ _ _, k1, fun R1 h1 => ?_, fun z => absurd z c, fun z => by rw [xup_ne (by omega)]; exact z, fun c j hc => xup_ne (by omega)⟩
    obtain ⟨hS1, hK1⟩ := hfr1 R1 h1
    obtain ⟨q', g1, g2, g3, g4⟩ := kn_pair (v := C 51 5) (tok := t) hS1 hK1 (by rw [h1 445 t (by omega)]; exact hnm.symm) q1 (by omega) k0.toNat 0 (by omega) (by have := hK.1.2.2.1; omega) (fun y y0 y1 => by omega)
    have : q' = q := g1.same k1
    subst this
    exact ⟨R1, by rw [q_Model_kinOf]; exact g3 c, (hNX.up (by omega)).fr (fun _ _ _ => rfl) (fun c j hc => h1 c j (by omega)), fun _ _ _ => rfl⟩
/-- takeTold and namedKin -/
theorem told_pair (hS : gST n m w s C R) (hQ : gQ n m t C R) (hN : gN m t C R) (hK : gNm w s k0 C R) : (∃ q C' R', f_Reader_takeTold C = some (1, C') ∧ f_Model_namedKin R = some (q, R') ∧ (C 51 4 = 14 ∧ C' 51 10 = q ∧ isKin C k0 (C 51 5) q ∧ (q = -1 → ¬ C' 51 8 = 0)) ∧ gQ n m (t + 1) C' R' ∧ gN m (t + 1) C' R' ∧ (¬ C 51 8 = 0 → ¬ C' 51 8 = 0) ∧ (fnC C C' ∧ C' 51 11 = C 51 11) ∧ fnR R R') ∨ (∃ C' R', f_Reader_takeTold C = some (0, C') ∧ f_Model_namedKin R = some (-1, R') ∧ gBd n m C' R' ∧ fnC C C' ∧ fnR R R') := by
  obtain ⟨⟨q1, q2, q3⟩, ⟨q4, q5⟩, ⟨q6, q7⟩, q8, q9, q10⟩ := id hQ
  obtain ⟨-, ⟨w1, w2⟩, s1, s2⟩ := id hS
  have e1 := q_Reader_takeTold C
  have e2 := q_Model_namedKin R
  simp only [em_cd] at e1 e2
  rcases tk_name hS hQ with ⟨c, t6, -, d2, -⟩ | ⟨C1, R1, d1, d2, d3, d4, d5⟩
  · rw [if_neg (fun z => z c)] at e1
    obtain ⟨q, C', f1, f2, f3, f4, f5, f6, f7⟩ := fd_pair hS hQ hN hK c
    rw [f1] at e1
    simp only [Option.bind_some] at e1
    have fC : fnC C C' := fun c j hc => f7 c j (by omega)
    have hS' : gST n m w s C' R := hS.fx fC.wd (fxR.rf _ _)
    have hQ' : gQ n m t C' R := hQ.fr (fun c j hc => f7 c j (by omega)) (fun _ _ _ => rfl)
    have g1 := c_take1 (C := C') (d := 14) (by rw [f7 51 3 (by omega)]; exact q4) (by rw [f7 51 4 (by omega)]; exact c) q1 t6
    rw [g1] at e1
    simp only [Option.bind_some] at e1
    rw [if_pos (by simp)] at e1
    obtain ⟨R', r1, r2, r3⟩ := f4 (xup R 439 11 (t + 1)) (fun c j hc => xup_ne (by omega))
    rw [d2] at e2
    simp only [Option.bind_some] at e2
    have x12 : xup R 439 11 (t + 1) 439 12 = 0 := by rw [xup_ne (by omega)]; exact q7
    have x18 : xup R 439 11 (t + 1) 439 18 = s := by rw [xup_ne (by omega)]; exact s1
    have x447 : xup R 439 11 (t + 1) 447 s = k0 := by rw [xup_ne (by omega)]; exact hK.1.2.1
    rw [x12, x18, if_pos (by omega), if_pos (by omega), q5, x447, r1] at e2
    simp only [Option.bind_some] at e2
    have hQ2 := gQ_go hS' hQ' (by rw [f7 51 4 (by omega)]; omega) (by rw [f7 51 4 (by omega)]; omega) t6
    refine Or.inl ⟨q, goC C' t, R', e1, e2, ⟨c, by rw [goC_ne (by omega)]; exact f2, f3, fun z => by rw [goC_ne (by omega)]; exact f5 z⟩, hQ2.fr (fun _ _ _ => rfl) (fun c j hc => r3 c j (by omega)), r2.fr (fun c j hc => goC_ne (by omega)) (fun _ _ _ => rfl), fun z => by rw [goC_ne (by omega)]; exact f6 z, ⟨fC.tr fnC_go, by rw [goC_ne (by omega), f7 _ _ (by omega)]⟩, (fnR_go (R := R) (t + 1)).tr (fun c j hc => r3 c j (by omega))⟩
  · rw [d2] at e2
    simp only [Option.bind_some] at e2
    have hp := d3.pos
    rw [if_neg (by omega)] at e2
    by_cases c : C 51 4 = 14
    · rw [if_neg (fun z => z c)] at e1
      obtain ⟨q, C', f1, f2, f3, f4, f5, f6, f7⟩ := fd_pair hS hQ hN hK c
      rw [f1] at e1
      simp only [Option.bind_some] at e1
      have fC : fnC C C' := fun c j hc => f7 c j (by omega)
      have hS' : gST n m w s C' R := hS.fx fC.wd (fxR.rf _ _)
      have hQ' : gQ n m t C' R := hQ.fr (fun c j hc => f7 c j (by omega)) (fun _ _ _ => rfl)
      rcases tk_name hS' hQ' with ⟨-, t6, -, x2, -⟩ | ⟨C2, R2, x1, x2, x3, x4, x5⟩
      · rw [d2] at x2
        cases x2
        have : (xup R 439 11 (t + 1)) 439 12 = 0 := by rw [xup_ne (by omega)]; exact q7
        omega
      · rw [x1] at e1
        simp only [Option.bind_some] at e1
        rw [if_pos (by simp)] at e1
        rw [d2] at x2
        have eR : R1 = R2 := by
          cases x2
          rfl
        subst eR
        exact Or.inr ⟨C2, R1, e1, e2, x3, fC.tr x4, d5⟩
    · rw [if_pos c, d1] at e1
      simp only [Option.bind_some] at e1
      rw [if_pos (by simp)] at e1
      exact Or.inr ⟨C1, R1, e1, e2, d3, d4, d5⟩
end
