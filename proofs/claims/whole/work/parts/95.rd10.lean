/-! read: the law that is written, in both; steps and will. -/
section
variable {C R M : em_M} {n m t w s k0 S P r0 : Int}
/-- one memory of the two -/
def mx (C R : em_M) : em_M := fun c j => if c ≤ 438 then C c j else R c j
theorem mx_c {c j : Int} (h : c ≤ 438) : mx C R c j = C c j := if_pos h
theorem mx_r {c j : Int} (h : 439 ≤ c) : mx C R c j = R c j := if_neg (by omega)
theorem RKin_fr2 {M' : em_M} {k : Int} (h : RKin M w s k) (e0 : lw_from M' w k = lw_from M w k) (e1 : M' (w + 1) (k + 1) = M (w + 1) (k + 1)) (e2 : ∀ c j, w + 2 ≤ c → c ≤ w + 4 → 0 ≤ j → j < M (w + 1) (k + 1) → M' c j = M c j) (g0 : M' 450 (21 * s + k) = M 450 (21 * s + k) ∧ M' 450 (21 * s + k + 1) = M 450 (21 * s + k + 1)) (g1 : ∀ p, 0 ≤ p → p ≤ M 450 (21 * s + k + 1) → M' 451 (701 * s + p) = M 451 (701 * s + p)) (g2 : ∀ c j, 452 ≤ c → c ≤ 453 → 0 ≤ j → j < M (w + 1) (k + 1) → M' c (700 * s + j) = M c (700 * s + j)) : RKin M' w s k := by
  obtain ⟨⟨a1, a2, a3⟩, ⟨b1, b2', b3⟩, ⟨c1, c2⟩, d, f⟩ := h
  have g1' : ∀ p, 0 ≤ p → p < M 450 (21 * s + k + 1) → M' 451 (701 * s + p + 1) = M 451 (701 * s + p + 1) := fun p p0 p1 => by
    rw [show 701 * s + p + 1 = 701 * s + (p + 1) by omega]
    exact g1 (p + 1) (by omega) (by omega)
  refine ⟨?_, ?_, ?_, fun p p0 p1 => ?_, fun j j0 j1 => ?_⟩
  · rw [e0, e1]; exact ⟨a1, a2, a3⟩
  · rw [g0.1, g0.2]; exact ⟨b1, b2', b3⟩
  · rw [g0.1, g0.2, e0, e1, g1 _ b1 (by omega), g1 _ (by omega) (Int.le_refl _)]; exact ⟨c1, c2⟩
  · rw [g0.1] at p0
    rw [g0.2] at p1
    obtain ⟨x1, x2, x3, x4, x5⟩ := d p p0 p1
    rw [e0, e1, g1 p (by omega) (by omega), g1' p (by omega) p1, e2 (w + 4) _ (by omega) (by omega) (by omega) (by omega)]
    exact ⟨x1, x2, x3, x4, fun j j0 j1 => by rw [e2 (w + 4) j (by omega) (by omega) (by omega) (by omega)]; exact x5 j j0 j1⟩
  · rw [e0] at j0
    rw [e1] at j1
    have := f j j0 j1
    rw [g2 452 j (by omega) (by omega) (by omega) j1, g2 453 j (by omega) (by omega) (by omega) j1, e2 (w + 2) j (by omega) (by omega) (by omega) j1, e2 (w + 3) j (by omega) (by omega) (by omega) j1, e2 (w + 4) j (by omega) (by omega) (by omega) j1]
    exact this
theorem RRule_fr2 {M' : em_M} {r : Int} (h : RRule M w s r) (r0' : 0 ≤ r) (e : ∀ c, w + 5 ≤ c → c ≤ w + 10 → M' c r = M c r) (e2 : ∀ j, 0 ≤ j → j < 8 → M' (w + 12 + r) j = M (w + 12 + r) j ∧ M' (w + 43 + r) j = M (w + 43 + r) j) (g : ∀ c, 455 ≤ c → c ≤ 463 → M' c (30 * s + r) = M c (30 * s + r)) (g2 : ∀ i, 0 ≤ i → i < 8 → M' 464 (8 * (30 * s + r) + i) = M 464 (8 * (30 * s + r) + i) ∧ M' 465 (8 * (30 * s + r) + i) = M 465 (8 * (30 * s + r) + i)) (k : M w 0 ≤ M' w 0) : RRule M' w s r := by
  have hl : RList M w s r → RList M' w s r := fun h => by
    obtain ⟨⟨a1, a2, a3⟩, b⟩ := h
    refine ⟨by rw [g 463 (by omega) (by omega), e (w + 10) (by omega) (by omega)]; exact ⟨a1, a2, a3⟩, fun i i0 i1 => ?_⟩
    rw [e (w + 10) (by omega) (by omega)] at i1
    obtain ⟨⟨x1, x2, x3⟩, y⟩ := b i i0 i1
    rw [(g2 i i0 (by omega)).1, (g2 i i0 (by omega)).2, (e2 i i0 (by omega)).1, (e2 i i0 (by omega)).2, e (w + 5) (by omega) (by omega)]
    exact ⟨⟨x1, x2, by omega⟩, y⟩
  unfold RRule at h ⊢
  rw [g 455 (by omega) (by omega), e (w + 5) (by omega) (by omega)]
  rcases h with ⟨z1, z2, a1, ⟨a2, a3, a4⟩, a5, a6, ⟨a7, a8, a9⟩, b1, b2', b3⟩ | ⟨z1, z2, a1, ⟨a2, a3, a4⟩, a5, a6, a7⟩ | ⟨z1, z2, z3⟩ | ⟨z1, z2, z3⟩
  · refine Or.inl ⟨z1, z2, ?_⟩
    unfold RFix
    rw [e (w + 10) (by omega) (by omega), e (w + 6) (by omega) (by omega), e (w + 7) (by omega) (by omega), e (w + 8) (by omega) (by omega), e (w + 9) (by omega) (by omega), (e2 0 (by omega) (by omega)).1, g 456 (by omega) (by omega), g 458 (by omega) (by omega), g 459 (by omega) (by omega), g 460 (by omega) (by omega), g 461 (by omega) (by omega), g 462 (by omega) (by omega)]
    exact ⟨a1, ⟨a2, a3, by omega⟩, a5, a6, ⟨a7, a8, by omega⟩, b1, b2', by omega⟩
  · refine Or.inr (Or.inl ⟨z1, z2, ?_⟩)
    unfold RBar
    rw [e (w + 10) (by omega) (by omega), (e2 0 (by omega) (by omega)).1, (e2 1 (by omega) (by omega)).1, g 456 (by omega) (by omega), g 457 (by omega) (by omega)]
    exact ⟨a1, ⟨a2, a3, by omega⟩, a5, a6, by omega⟩
  · exact Or.inr (Or.inr (Or.inl ⟨z1, z2, hl z3⟩))
  · exact Or.inr (Or.inr (Or.inr ⟨z1, z2, hl z3⟩))
/-- kin and steps; P paths -/
def LK (w s k0 S P t : Int) (C R : em_M) : Prop := (C w 1 = S ∧ R 439 27 = S ∧ R 439 26 = P) ∧ (0 ≤ P ∧ P ≤ S ∧ S ≤ t) ∧ (lw_from C w k0 = S ∧ (k0 = 0 → P = 0) ∧ (0 < k0 → R 450 (21 * s + k0) = P ∧ R 451 (701 * s + P) = S)) ∧ (C 51 8 = 0 → ∀ k, 0 ≤ k → k < k0 → RKin (mx C R) w s k ∧ R 450 (21 * s + k + 1) ≤ P ∧ C (w + 1) (k + 1) ≤ S)
/-- the rules ahead of r0 -/
def LRo (w s r0 : Int) (C R : em_M) : Prop := C 51 8 = 0 → ∀ r, 0 ≤ r → r < r0 → RRule (mx C R) w s r
def LB (w s : Int) (C R : em_M) : Prop := ∀ k, 0 ≤ k → k < 20 → R 449 (20 * s + k) = b2 (tb (C w 2) k = true)
def LW (w s : Int) (C R : em_M) : Prop := C 51 8 = 0 → C w 3 = fr_of (R 466 s) (R 467 s) ∧ 0 ≤ R 466 s ∧ R 466 s ≤ R 467 s ∧ 1 ≤ R 467 s ∧ R 467 s ≤ 999
theorem LK.fr {C' R' : em_M} {t' : Int} (hw : w = 53 ∨ w = 366) (h : LK w s k0 S P t C R) (e1 : ∀ c j, (c = w ∧ j = 1) ∨ (w + 1 ≤ c ∧ c ≤ w + 4) → C' c j = C c j) (e2 : ∀ c j, (450 ≤ c ∧ c ≤ 453) ∨ (c = 439 ∧ (j = 26 ∨ j = 27)) → R' c j = R c j) (mono : ¬ C 51 8 = 0 → ¬ C' 51 8 = 0) (ht : t ≤ t') : LK w s k0 S P t' C' R' := by
  obtain ⟨⟨a1, a2, a3⟩, ⟨b1, b2', b3⟩, ⟨c1, c2, c3⟩, d⟩ := h
  have el : ∀ k, lw_from C' w k = lw_from C w k := fun k => by unfold lw_from; rw [e1 (w + 1) k (by omega)]
  refine ⟨⟨by rw [e1 w 1 (by omega)]; exact a1, by rw [e2 439 27 (by omega)]; exact a2, by rw [e2 439 26 (by omega)]; exact a3⟩, ⟨b1, b2', by omega⟩, ⟨by rw [el]; exact c1, c2, fun z => by rw [e2 450 _ (by omega), e2 451 _ (by omega)]; exact c3 z⟩, fun z k h0 h1 => ?_⟩
  obtain ⟨x1, x2, x3⟩ := d (Classical.byContradiction (fun y => mono y z)) k h0 h1
  rw [e2 450 _ (by omega), e1 (w + 1) _ (by omega)]
  refine ⟨RKin_fr2 x1 ?_ ?_ (fun c j c0 c1 j0 j1 => ?_) ⟨?_, ?_⟩ (fun p p0 p1 => ?_) (fun c j c0 c1 j0 j1 => ?_), x2, x3⟩
  · unfold lw_from
    rw [mx_c (by omega), mx_c (by omega), e1 (w + 1) k (by omega)]
  · rw [mx_c (by omega), mx_c (by omega), e1 (w + 1) _ (by omega)]
  · rw [mx_c (by omega), mx_c (by omega), e1 c _ (by omega)]
  · rw [mx_r (by omega), mx_r (by omega), e2 450 _ (by omega)]
  · rw [mx_r (by omega), mx_r (by omega), e2 450 _ (by omega)]
  · rw [mx_r (by omega), mx_r (by omega), e2 451 _ (by omega)]
  · rw [mx_r (by omega), mx_r (by omega), e2 c _ (by omega)]
theorem LRo.fr {C' R' : em_M} (hw : w = 53 ∨ w = 366) (hr : r0 ≤ 30) (h : LRo w s r0 C R) (e1 : ∀ c j, (w + 5 ≤ c ∧ c ≤ w + 10 ∧ 0 ≤ j ∧ j < r0) ∨ (w + 12 ≤ c ∧ c < w + 12 + r0) ∨ (w + 43 ≤ c ∧ c < w + 43 + r0) → C' c j = C c j) (e2 : ∀ c j, (455 ≤ c ∧ c ≤ 463 ∧ 30 * s ≤ j ∧ j < 30 * s + r0) ∨ (464 ≤ c ∧ c ≤ 465 ∧ 240 * s ≤ j ∧ j < 240 * s + 8 * r0) → R' c j = R c j) (hk : C w 0 ≤ C' w 0) (mono : ¬ C 51 8 = 0 → ¬ C' 51 8 = 0) : LRo w s r0 C' R' := fun z r h0 h1 => by
  have x1 := h (Classical.byContradiction (fun y => mono y z)) r h0 h1
  refine RRule_fr2 x1 h0 (fun c c0 c1 => ?_) (fun j j0 j1 => ⟨?_, ?_⟩) (fun c c0 c1 => ?_) (fun i i0 i1 => ⟨?_, ?_⟩) ?_
  · rw [mx_c (by omega), mx_c (by omega), e1 c r (by omega)]
  · rw [mx_c (by omega), mx_c (by omega), e1 _ j (by omega)]
  · rw [mx_c (by omega), mx_c (by omega), e1 _ j (by omega)]
  · rw [mx_r (by omega), mx_r (by omega), e2 c _ (by omega)]
  · rw [mx_r (by omega), mx_r (by omega), e2 464 _ (by omega)]
  · rw [mx_r (by omega), mx_r (by omega), e2 465 _ (by omega)]
  · rw [mx_c (by omega), mx_c (by omega)]; exact hk
theorem LB.fr {C' R' : em_M} (h : LB w s C R) (e1 : C' w 2 = C w 2) (e2 : ∀ j, R' 449 j = R 449 j) : LB w s C' R' := fun k h0 h1 => by rw [e1, e2]; exact h k h0 h1
theorem LW.fr {C' R' : em_M} (h : LW w s C R) (e1 : C' w 3 = C w 3) (e2 : ∀ c j, c = 466 ∨ c = 467 → R' c j = R c j) (mono : ¬ C 51 8 = 0 → ¬ C' 51 8 = 0) : LW w s C' R' := fun z => by
  rw [e1, e2 466 s (by omega), e2 467 s (by omega)]
  exact h (Classical.byContradiction (fun y => mono y z))
def gLL (w s t k0 S P r0 : Int) (C R : em_M) : Prop := gNm w s k0 C R ∧ LK w s k0 S P t C R ∧ (C w 4 = r0 ∧ R 454 s = r0 ∧ 0 ≤ r0 ∧ r0 ≤ 30) ∧ LRo w s r0 C R ∧ LB w s C R ∧ LW w s C R
/-- the outcome of a tell -/
def TRo (n m w s t : Int) (C R : em_M) (fC fR : em_M → Option (Int × em_M)) : Prop := (∃ C' R' t' k' S' P' r', fC C = some (1, C') ∧ fR R = some (0, R') ∧ t < t' ∧ (gQ n m t' C' R' ∧ gN m t' C' R' ∧ gLL w s t' k' S' P' r' C' R') ∧ fxC w C C' ∧ fxR s R R') ∨ (∃ C' R', fC C = some (0, C') ∧ fR R = some (0, R') ∧ gBd n m C' R' ∧ fxC w C C' ∧ fxR s R R')
theorem gBd.fr {C' R' : em_M} (h : gBd n m C R) (e1 : ∀ c j, (c = 51 ∧ (j = 3 ∨ j = 6)) ∨ c = 4 → C' c j = C c j) (e2 : R' 439 12 = R 439 12 ∧ R' 439 13 = R 439 13) : gBd n m C' R' := by
  unfold gBd at h ⊢
  rw [e1 51 3 (by omega), e1 51 6 (by omega), e1 4 _ (by omega), e2.1, e2.2]
  exact h
theorem xor_bit {q k a : Int} (q0 : 0 ≤ q) (q1 : q < 20) (h0 : 0 ≤ k) (h1 : k < 20) : (tb (x_or a (x_shl 1 q)) k = true) ↔ (tb a k = true ∨ k = q) := by
  rw [tb_or, Bool.or_eq_true, tb_shl1 q0 (by omega) h0 (by omega), decide_eq_true_eq]
/-- steps -/
theorem steps_pair (hS : gST n m w s C R) (hQ : gQ n m t C R) (hN : gN m t C R) (hL : gLL w s t k0 S P r0 C R) (h8 : C 51 4 = 8) : TRo n m w s t C R f_Reader_takeSteps f_Model_tell := by
  obtain ⟨⟨q1, q2, q3⟩, ⟨q4, q5⟩, ⟨q6, q7⟩, -⟩ := id hQ
  obtain ⟨-, ⟨w1, w2⟩, s1, s2⟩ := id hS
  obtain ⟨l1, l2, l3, l4, l5, l6⟩ := hL
  have hρ : R 442 t = 25 := (kd_word hS hQ (d := 8) (by omega) (by omega)).mp h8
  have e1 := q_Reader_takeSteps C
  have e2 := q_Model_tell R
  simp only [em_cd, q5, if_pos (show 0 ≤ t ∧ t < 603 by omega), hρ] at e1 e2
  rw [if_neg (by omega), if_neg (by omega), if_neg (by omega), if_neg (by omega), if_neg (by omega), if_pos trivial] at e2
  rcases tk_next hS hQ h8 (by omega) (by omega) with ⟨t6, d1, d2, hQ1⟩ | ⟨t6, d1, d2, d3⟩
  case inr =>
    rw [d1] at e1
    rw [d2] at e2
    simp only [Option.bind_some] at e1 e2
    rw [if_pos trivial] at e1
    rw [m_namedf d3.pos] at e2
    simp only [Option.bind_some] at e2
    rw [m_mustf 8 d3.pos] at e2
    simp only [Option.bind_some] at e2
    have := d3.pos
    rw [if_pos (by omega)] at e2
    exact Or.inr ⟨_, _, e1, e2, d3, (fnC_6 _).wd, (fnR_fl _ _).wd⟩
  rw [d1] at e1
  rw [d2] at e2
  simp only [Option.bind_some] at e1 e2
  rw [if_neg (by omega)] at e1
  have fC1 : fnC C (goC C t) := fnC_go
  have fR1 : fnR R (xup R 439 11 (t + 1)) := fnR_go _
  have hS1 : gST n m w s (goC C t) (xup R 439 11 (t + 1)) := hS.fx fC1.wd fR1.wd
  have hN1 : gN m (t + 1) (goC C t) (xup R 439 11 (t + 1)) := (hN.up (by omega)).fr (fun c j hc => goC_ne (by omega)) (fun c j hc => xup_ne (by omega))
  have hK1 : gNm w s k0 (goC C t) (xup R 439 11 (t + 1)) := l1.fr (fun c j hc => goC_ne (by omega)) (fun c j hc => xup_ne (by omega))
  have z8 : goC C t 51 8 = C 51 8 := goC_ne (by omega)
  generalize goC C t = C1 at e1 hQ1 hS1 fC1 hN1 hK1 z8
  generalize xup R 439 11 (t + 1) = R1 at e2 hQ1 hS1 fR1 hN1 hK1
  rcases told_pair hS1 hQ1 hN1 hK1 with ⟨q, C2, R2, d1, d2, ⟨-, f2, f3, f4⟩, hQ2, hN2, mono2, ⟨fC2, -⟩, fR2⟩ | ⟨C2, R2, d1, d2, d3, d4, d5⟩
  case inr =>
    rw [d1] at e1
    rw [d2] at e2
    simp only [Option.bind_some] at e1 e2
    rw [if_neg (fun z => z trivial)] at e1
    rw [m_mustf 8 d3.pos] at e2
    simp only [Option.bind_some] at e2
    have := d3.pos
    rw [if_pos (by omega)] at e2
    exact Or.inr ⟨C2, R2, e1, e2, d3, (fC1.tr d4).wd, (fR1.tr d5).wd⟩
  rw [d1] at e1
  rw [d2] at e2
  simp only [Option.bind_some] at e1 e2
  have hS2 : gST n m w s C2 R2 := hS1.fx fC2.wd fR2.wd
  have qr : -1 ≤ q ∧ q < 20 := by
    have := l1.1.2.2
    rcases f3 with ⟨x1, x2, -⟩ | ⟨x1, -⟩ <;> omega
  have w2' : C2 51 2 = w := hS2.2.1.1
  rw [if_pos (by omega), w2', f2] at e1
  simp only [isO_law w2, Bool.and_self, cond_true, f_setBySteps w2 qr.1 qr.2, Option.bind_some] at e1
  have fX : ∀ c j, ¬ (c = w ∧ j = 2) → (if q = -1 then C2 else xup C2 w 2 (x_or (C2 w 2) (x_shl 1 q))) c j = C2 c j := fun c j hc => by
    by_cases z : q = -1
    · rw [if_pos z]
    · rw [if_neg z, xup_ne hc]
  have vX : (if q = -1 then C2 else xup C2 w 2 (x_or (C2 w 2) (x_shl 1 q))) w 2 = if q = -1 then C2 w 2 else x_or (C2 w 2) (x_shl 1 q) := by
    by_cases z : q = -1
    · rw [if_pos z, if_pos z]
    · rw [if_neg z, if_neg z, xup_eq]
  generalize (if q = -1 then C2 else xup C2 w 2 (x_or (C2 w 2) (x_shl 1 q))) = X at e1 fX vX
  have fxX : fxC w C2 X := fun c j hc => fX c j (by omega)
  have hSX : gST n m w s X R2 := hS2.fx fxX (fxR.rf _ _)
  have hQX : gQ n m (t + 1 + 1) X R2 := hQ2.fr (fun c j hc => fX c j (by omega)) (fun _ _ _ => rfl)
  rcases tk_must (d := 59) (ρ := 8) hSX hQX (kd_sign hSX hQX (by omega)) (by omega) (by omega) with ⟨c59, t7, d1, d2, hQ3⟩ | ⟨C3, R3, d1, d2, d3, d4, d5⟩
  case inr =>
    rw [d1] at e1
    rw [d2] at e2
    simp only [Option.bind_some] at e1 e2
    rw [if_pos (by simp)] at e1
    have := d3.pos
    rw [if_pos (by omega)] at e2
    exact Or.inr ⟨C3, R3, e1, e2, d3, ((fC1.tr fC2).wd.tr fxX).tr d4.wd, (fR1.tr (fR2.tr d5)).wd⟩
  rw [d1] at e1
  rw [d2] at e2
  simp only [Option.bind_some] at e1 e2
  rw [if_pos (by simp)] at e1
  have r12 : xup R2 439 11 (t + 1 + 1 + 1) 439 12 = 0 := by rw [xup_ne (by omega)]; exact hQ2.2.2.1.2
  have r18 : xup R2 439 11 (t + 1 + 1 + 1) 439 18 = s := by rw [xup_ne (by omega)]; exact hS2.2.2.1
  rw [if_neg (fun z => z r12), r18, x32_s (x := 20 * s) (by omega) (by omega), x32_s (x := 20 * s + q) (by omega) (by omega)] at e2
  have e3 : f_Model_tell R = some (0, if q = -1 then xup R2 439 11 (t + 1 + 1 + 1) else xup (xup R2 439 11 (t + 1 + 1 + 1)) 449 (20 * s + q) 1) := by
    rw [e2]
    by_cases z : q = -1
    · rw [if_pos z, if_pos z]
    · rw [if_neg z, if_pos (by omega), if_neg z]
  have fY : ∀ c j, ¬ ((c = 439 ∧ j = 11) ∨ (c = 449 ∧ j = 20 * s + q ∧ ¬ q = -1)) → (if q = -1 then xup R2 439 11 (t + 1 + 1 + 1) else xup (xup R2 439 11 (t + 1 + 1 + 1)) 449 (20 * s + q) 1) c j = R2 c j := fun c j hc => by
    by_cases z : q = -1
    · rw [if_pos z, xup_ne (by omega)]
    · rw [if_neg z, xup_ne (by omega), xup_ne (by omega)]
  have vY : ¬ q = -1 → (if q = -1 then xup R2 439 11 (t + 1 + 1 + 1) else xup (xup R2 439 11 (t + 1 + 1 + 1)) 449 (20 * s + q) 1) 449 (20 * s + q) = 1 := fun z => by rw [if_neg z, xup_eq]
  have uY : ∀ c j, ¬ c = 449 → (if q = -1 then xup R2 439 11 (t + 1 + 1 + 1) else xup (xup R2 439 11 (t + 1 + 1 + 1)) 449 (20 * s + q) 1) c j = xup R2 439 11 (t + 1 + 1 + 1) c j := fun c j hc => by
    by_cases z : q = -1
    · rw [if_pos z]
    · rw [if_neg z, xup_ne (by omega)]
  generalize (if q = -1 then xup R2 439 11 (t + 1 + 1 + 1) else xup (xup R2 439 11 (t + 1 + 1 + 1)) 449 (20 * s + q) 1) = Y at e3 fY vY uY
  have fnA : ∀ c j, ¬ ((c = 51 ∧ 3 ≤ j ∧ j ≤ 11 ∧ ¬ j = 7) ∨ (c = w ∧ j = 2)) → goC X (t + 1 + 1) c j = C c j := fun c j hc => by
    rw [goC_ne (by omega), fX c j (by omega), fC2 c j (by omega), fC1 c j (by omega)]
  have fnB : ∀ c j, ¬ ((c = 439 ∧ ((11 ≤ j ∧ j ≤ 15) ∨ j = 42 ∨ j = 43)) ∨ (c = 449 ∧ j = 20 * s + q ∧ ¬ q = -1)) → Y c j = R c j := fun c j hc => by
    rw [fY c j (by omega), fR2 c j (by omega), fR1 c j (by omega)]
  have mono : ¬ C 51 8 = 0 → ¬ goC X (t + 1 + 1) 51 8 = 0 := fun z => by
    rw [goC_ne (by omega), fX 51 8 (by omega)]
    exact mono2 (by rw [z8]; exact z)
  refine Or.inl ⟨goC X (t + 1 + 1), Y, t + 1 + 1 + 1, k0, S, P, r0, e1, e3, by omega, ⟨hQ3.fr (fun _ _ _ => rfl) (fun c j hc => uY c j (by omega)), ((hN2.up (by omega)).fr (fun c j hc => ?_) (fun c j hc => ?_)), l1.fr (fun c j hc => fnA c j (by omega)) (fun c j hc => fnB c j (by omega)), l2.fr w2 (fun c j hc => fnA c j (by omega)) (fun c j hc => fnB c j (by omega)) mono (by omega), ⟨by rw [fnA w 4 (by omega)]; exact l3.1, by rw [fnB 454 s (by omega)]; exact l3.2.1, l3.2.2⟩, l4.fr w2 l3.2.2.2 (fun c j hc => fnA c j (by omega)) (fun c j hc => fnB c j (by omega)) (by rw [fnA w 0 (by omega)]; exact Int.le_refl _) mono, fun k h0 h1 => ?_, l6.fr (fnA w 3 (by omega)) (fun c j hc => fnB c j (by omega)) mono⟩, fun c j hc => fnA c j (by omega), fun c j hc => fnB c j (by unfold gRx at hc; omega)⟩
  · rw [goC_ne (by omega), fX c j (by omega)]
  · exact fY c j (by omega)
  · have h5 := l5 k h0 h1
    rw [goC_ne (by omega), vX, fC2 w 2 (by omega), fC1 w 2 (by omega)]
    by_cases z : q = -1
    · rw [if_pos z, fnB 449 _ (by omega)]; exact h5
    · rw [if_neg z]
      by_cases y : k = q
      · subst y
        rw [vY z, b2_t ((xor_bit (by omega) (by omega) h0 h1).mpr (Or.inr rfl))]
      · rw [fnB 449 _ (by omega), h5]
        exact b2_cong ((xor_bit (by omega) (by omega) h0 h1).trans ⟨fun x => x.elim id (fun x => absurd x y), Or.inl⟩).symm
end
