/-! read: kin, what stands while it is told. -/
section
variable {C R M : em_M} {n m t w s k0 S0 P0 S P b r0 v1 : Int}
/-- the paths and steps of the kin that is being told -/
def KI (w s k0 S0 P0 S P b : Int) (C R : em_M) : Prop := ((C w 1 = S ∧ R 439 27 = S ∧ R 439 26 = P) ∧ (0 ≤ S0 ∧ S0 ≤ b ∧ b ≤ S) ∧ (0 ≤ P0 ∧ P0 ≤ P ∧ P ≤ b)) ∧ (R 451 (701 * s + P) = b ∧ R 451 (701 * s + P0) = S0) ∧ (∀ p, P0 ≤ p → p < P → S0 ≤ R 451 (701 * s + p) ∧ R 451 (701 * s + p) < R 451 (701 * s + p + 1) ∧ R 451 (701 * s + p + 1) ≤ b ∧ C (w + 4) (R 451 (701 * s + p)) = 1 ∧ ∀ j, R 451 (701 * s + p) < j → j < R 451 (701 * s + p + 1) → C (w + 4) j = 0) ∧ ((b < S → C (w + 4) b = 1) ∧ (∀ j, b < j → j < S → C (w + 4) j = 0)) ∧ (∀ j, S0 ≤ j → j < S → C (w + 4) j = 0 ∨ C (w + 4) j = 1) ∧ (C 51 8 = 0 → ∀ j, S0 ≤ j → j < S → (R 452 (700 * s + j) = C (w + 2) j ∧ 0 ≤ C (w + 2) j ∧ C (w + 2) j < 4 + k0) ∧ (R 453 (700 * s + j) = C (w + 3) j ∧ -1 ≤ C (w + 3) j ∧ C (w + 3) j ≤ 1))
/-- the rest of the law then; v1 the token of the new name -/
def KR (w s k0 S0 P0 r0 v1 : Int) (C R : em_M) : Prop := ((C w 0 = k0 ∧ R 447 s = k0 ∧ 0 ≤ k0 ∧ k0 < 20) ∧ (∀ k, 0 ≤ k → k < k0 → C 52 k = R 448 (20 * s + k)) ∧ C 52 k0 = R 445 v1) ∧ (C 51 8 = 0 → ∀ k, 0 ≤ k → k < k0 → RKin (mx C R) w s k ∧ R 450 (21 * s + k + 1) ≤ P0 ∧ C (w + 1) (k + 1) ≤ S0) ∧ (lw_from C w k0 = S0 ∧ R 450 (21 * s + k0) = P0) ∧ (C w 4 = r0 ∧ R 454 s = r0 ∧ 0 ≤ r0 ∧ r0 ≤ 30) ∧ LRo w s r0 C R ∧ LB w s C R ∧ LW w s C R
def kiC (w S : Int) (C C' : em_M) : Prop := ∀ c j, ¬ ((c = 51 ∧ 3 ≤ j ∧ j ≤ 11 ∧ ¬ j = 7) ∨ (c = w ∧ j = 1) ∨ (w + 2 ≤ c ∧ c ≤ w + 4 ∧ S ≤ j)) → C' c j = C c j
def kiR (s P S : Int) (R R' : em_M) : Prop := ∀ c j, ¬ ((c = 439 ∧ ((11 ≤ j ∧ j ≤ 15) ∨ j = 26 ∨ j = 27 ∨ j = 42 ∨ j = 43)) ∨ (c = 451 ∧ 701 * s + P < j ∧ j < 701 * s + 701) ∨ (452 ≤ c ∧ c ≤ 453 ∧ 700 * s + S ≤ j ∧ j < 700 * s + 700)) → R' c j = R c j
theorem kiC.rf (w S : Int) (C : em_M) : kiC w S C C := fun _ _ _ => rfl
theorem kiR.rf (s P S : Int) (R : em_M) : kiR s P S R R := fun _ _ _ => rfl
theorem kiC.tr {A B D : em_M} (h : kiC w S A B) (k : kiC w S B D) : kiC w S A D := fun c j hc => (k c j hc).trans (h c j hc)
theorem kiR.tr {A B D : em_M} (h : kiR s P S A B) (k : kiR s P S B D) : kiR s P S A D := fun c j hc => (k c j hc).trans (h c j hc)
theorem fnC.kiC {A B : em_M} (h : fnC A B) : kiC w S A B := fun c j hc => h c j (fun z => hc (Or.inl z))
theorem fnR.kiR {A B : em_M} (h : fnR A B) : kiR s P S A B := fun c j hc => h c j (fun z => hc (Or.inl ⟨z.1, by omega⟩))
theorem kiC.fx {A B : em_M} (h : kiC w S A B) : fxC w A B := fun c j hc => h c j (fun z => hc (z.imp id (fun z => Or.inr (by omega))))
theorem kiR.fx {A B : em_M} (h : kiR s P S A B) (P0 : 0 ≤ P) (S0 : 0 ≤ S) : fxR s A B := fun c j hc => h c j (fun z => hc (by
  unfold gRx
  rcases z with z | z | z
  · exact Or.inl ⟨z.1, by omega⟩
  · exact Or.inr (Or.inr (Or.inr (Or.inr (Or.inl ⟨z.1, by omega, z.2.2⟩))))
  · exact Or.inr (Or.inr (Or.inr (Or.inr (Or.inr (Or.inl ⟨by omega, by omega, by omega⟩)))))))
theorem kiC.less {A B : em_M} {S' : Int} (h : kiC w S' A B) (hs : S ≤ S') : kiC w S A B := fun c j hc => h c j (by omega)
theorem kiR.less {A B : em_M} {S' P' : Int} (h : kiR s P' S' A B) (hp : P ≤ P') (hs : S ≤ S') : kiR s P S A B := fun c j hc => h c j (by omega)
theorem KR.fr {C' R' : em_M} (hw : w = 53 ∨ w = 366) (h : KR w s k0 S0 P0 r0 v1 C R) (hC : kiC w S0 C C') (hR : kiR s P0 S0 R R') (mono : ¬ C 51 8 = 0 → ¬ C' 51 8 = 0) : KR w s k0 S0 P0 r0 v1 C' R' := by
  obtain ⟨⟨⟨a1, a2, a3⟩, a4, a5⟩, d, ⟨e1, e2⟩, ⟨f1, f2, f3⟩, g1, g2, g3⟩ := h
  have cC : ∀ c j, c = 52 ∨ (c = w ∧ ¬ j = 1) ∨ c = w + 1 ∨ (w + 5 ≤ c ∧ c ≤ w + 72) → C' c j = C c j := fun c j hc => hC c j (by omega)
  have cR : ∀ c j, (445 ≤ c ∧ c ≤ 450) ∨ (454 ≤ c ∧ c ≤ 467) → R' c j = R c j := fun c j hc => hR c j (by omega)
  have el : ∀ k, lw_from C' w k = lw_from C w k := fun k => by unfold lw_from; rw [cC (w + 1) k (by omega)]
  refine ⟨⟨⟨by rw [cC w 0 (by omega)]; exact a1, by rw [cR 447 s (by omega)]; exact a2, a3⟩, fun k h0 h1 => by rw [cC 52 k (by omega), cR 448 _ (by omega)]; exact a4 k h0 h1, by rw [cC 52 _ (by omega), cR 445 _ (by omega)]; exact a5⟩, fun z k h0 h1 => ?_, ⟨by rw [el]; exact e1, by rw [cR 450 _ (by omega)]; exact e2⟩, ⟨by rw [cC w 4 (by omega)]; exact f1, by rw [cR 454 s (by omega)]; exact f2, f3⟩, g1.fr hw f3.2 (fun c j hc => cC c j (by omega)) (fun c j hc => cR c j (by omega)) (by rw [cC w 0 (by omega)]; exact Int.le_refl _) mono, g2.fr (cC w 2 (by omega)) (fun j => cR 449 j (by omega)), g3.fr (cC w 3 (by omega)) (fun c j hc => cR c j (by omega)) mono⟩
  obtain ⟨x1, x2, x3⟩ := d (Classical.byContradiction (fun y => mono y z)) k h0 h1
  have e1' : mx C R (w + 1) (k + 1) = C (w + 1) (k + 1) := mx_c (by omega)
  have e2' : mx C R 450 (21 * s + k + 1) = R 450 (21 * s + k + 1) := mx_r (by omega)
  rw [cR 450 _ (by omega), cC (w + 1) _ (by omega)]
  refine ⟨RKin_fr2 x1 ?_ ?_ (fun c j c0 c1 j0 j1 => ?_) ⟨?_, ?_⟩ (fun p p0 p1 => ?_) (fun c j c0 c1 j0 j1 => ?_), x2, x3⟩
  · unfold lw_from
    rw [mx_c (by omega), mx_c (by omega), cC (w + 1) k (by omega)]
  · rw [mx_c (by omega), mx_c (by omega), cC (w + 1) _ (by omega)]
  · rw [e1'] at j1
    rw [mx_c (by omega), mx_c (by omega), hC c j (by omega)]
  · rw [mx_r (by omega), mx_r (by omega), cR 450 _ (by omega)]
  · rw [mx_r (by omega), mx_r (by omega), cR 450 _ (by omega)]
  · rw [e2'] at p1
    rw [mx_r (by omega), mx_r (by omega), hR 451 _ (by omega)]
  · rw [e1'] at j1
    rw [mx_r (by omega), mx_r (by omega), hR c _ (by omega)]
theorem KR.gNm (h : KR w s k0 S0 P0 r0 v1 C R) : gNm w s k0 C R := ⟨⟨h.1.1.1, h.1.1.2.1, h.1.1.2.2.1, by have := h.1.1.2.2.2; omega⟩, h.1.2.1⟩
/-- the readers go on, the paths stay -/
theorem KI.fn {C' R' : em_M} (hw : 53 ≤ w) (h : KI w s k0 S0 P0 S P b C R) (hC : fnC C C') (hR : fnR R R') (mono : ¬ C 51 8 = 0 → ¬ C' 51 8 = 0) : KI w s k0 S0 P0 S P b C' R' := by
  have g : ∀ c j, w ≤ c → C' c j = C c j := fun c j hc => hC c j (by omega)
  have gr : ∀ c j, 440 ≤ c → R' c j = R c j := fun c j hc => hR c j (by omega)
  obtain ⟨⟨⟨a1, a2, a3⟩, a4⟩, ⟨b1, b2'⟩, c, ⟨d1, d2⟩, e, f⟩ := h
  refine ⟨⟨⟨by rw [g _ _ (by omega)]; exact a1, by rw [hR 439 27 (by omega)]; exact a2, by rw [hR 439 26 (by omega)]; exact a3⟩, a4⟩, ⟨by rw [gr _ _ (by omega)]; exact b1, by rw [gr _ _ (by omega)]; exact b2'⟩, fun p p0 p1 => ?_, ⟨fun z => by rw [g _ _ (by omega)]; exact d1 z, fun j j0 j1 => by rw [g _ _ (by omega)]; exact d2 j j0 j1⟩, fun j j0 j1 => by rw [g _ _ (by omega)]; exact e j j0 j1, fun z j j0 j1 => ?_⟩
  · rw [gr 451 _ (by omega), gr 451 _ (by omega), g (w + 4) _ (by omega)]
    obtain ⟨x1, x2, x3, x4, x5⟩ := c p p0 p1
    exact ⟨x1, x2, x3, x4, fun j j0 j1 => by rw [g _ _ (by omega)]; exact x5 j j0 j1⟩
  · rw [gr 452 _ (by omega), gr 453 _ (by omega), g (w + 2) _ (by omega), g (w + 3) _ (by omega)]
    exact f (Classical.byContradiction (fun y => mono y z)) j j0 j1
/-- a step more -/
theorem KI.step {C' R' : em_M} {row sx o : Int} (hw : 53 ≤ w) (h : KI w s k0 S0 P0 S P b C R) (hC : ∀ c j, ¬ ((w + 2 ≤ c ∧ c ≤ w + 4 ∧ j = S) ∨ (c = w ∧ j = 1)) → C' c j = C c j) (c1 : C' (w + 2) S = row ∧ C' (w + 3) S = sx ∧ C' (w + 4) S = o ∧ C' w 1 = S + 1) (hR : ∀ c j, ¬ ((452 ≤ c ∧ c ≤ 453 ∧ j = 700 * s + S) ∨ (c = 439 ∧ j = 27)) → R' c j = R c j) (d1 : R' 439 27 = S + 1) (ho : (b = S ∧ o = 1) ∨ (b < S ∧ o = 0)) (hz : C 51 8 = 0 → (R' 452 (700 * s + S) = row ∧ 0 ≤ row ∧ row < 4 + k0) ∧ (R' 453 (700 * s + S) = sx ∧ -1 ≤ sx ∧ sx ≤ 1)) : KI w s k0 S0 P0 (S + 1) P b C' R' := by
  obtain ⟨⟨⟨a1, a2, a3⟩, ⟨a4, a5, a6⟩, a7⟩, ⟨b1, b2'⟩, c, ⟨e1, e2⟩, f, g⟩ := h
  have g51 : ∀ p, R' 451 p = R 451 p := fun p => hR 451 p (by omega)
  have g4 : ∀ j, j < S → C' (w + 4) j = C (w + 4) j := fun j hj => hC _ _ (by omega)
  refine ⟨⟨⟨c1.2.2.2, d1, by rw [hR 439 26 (by omega)]; exact a3⟩, ⟨a4, a5, by omega⟩, a7⟩, ⟨by rw [g51]; exact b1, by rw [g51]; exact b2'⟩, fun p p0 p1 => ?_, ⟨fun _ => ?_, fun j j0 j1 => ?_⟩, fun j j0 j1 => ?_, fun z j j0 j1 => ?_⟩
  · obtain ⟨x1, x2, x3, x4, x5⟩ := c p p0 p1
    rw [g51, g51, g4 _ (by omega)]
    exact ⟨x1, x2, x3, x4, fun j j0 j1 => by rw [g4 _ (by omega)]; exact x5 j j0 j1⟩
  · rcases ho with ⟨z1, z2⟩ | ⟨z1, z2⟩
    · rw [z1, c1.2.2.1, z2]
    · rw [g4 _ z1]; exact e1 z1
  · by_cases y : j = S
    · subst y
      rw [c1.2.2.1]
      rcases ho with ⟨z1, z2⟩ | ⟨z1, z2⟩
      · omega
      · exact z2
    · rw [g4 _ (by omega)]; exact e2 j j0 (by omega)
  · by_cases y : j = S
    · subst y
      rw [c1.2.2.1]
      rcases ho with ⟨z1, z2⟩ | ⟨z1, z2⟩
      · exact Or.inr z2
      · exact Or.inl z2
    · rw [g4 _ (by omega)]; exact f j j0 (by omega)
  · rw [hC 51 8 (by omega)] at z
    by_cases y : j = S
    · subst y
      rw [c1.1, c1.2.1]
      exact hz z
    · rw [hR 452 _ (by omega), hR 453 _ (by omega), hC (w + 2) j (by omega), hC (w + 3) j (by omega)]
      exact g z j j0 (by omega)
/-- a path is told -/
theorem KI.path {R' : em_M} (h : KI w s k0 S0 P0 S P b C R) (hb : b < S) (hR : ∀ c j, ¬ ((c = 451 ∧ j = 701 * s + (P + 1)) ∨ (c = 439 ∧ j = 26)) → R' c j = R c j) (d1 : R' 439 26 = P + 1) (d2 : R' 451 (701 * s + (P + 1)) = S) : KI w s k0 S0 P0 S (P + 1) S C R' := by
  obtain ⟨⟨⟨a1, a2, a3⟩, ⟨a4, a5, a6⟩, a7, a8, a9⟩, ⟨b1, b2'⟩, c, ⟨e1, e2⟩, f, g⟩ := h
  refine ⟨⟨⟨a1, by rw [hR 439 27 (by omega)]; exact a2, d1⟩, ⟨a4, by omega, Int.le_refl _⟩, a7, by omega, by omega⟩, ⟨d2, by rw [hR 451 _ (by omega)]; exact b2'⟩, fun p p0 p1 => ?_, ⟨fun z => by omega, fun j j0 j1 => by omega⟩, f, fun z j j0 j1 => by rw [hR 452 _ (by omega), hR 453 _ (by omega)]; exact g z j j0 j1⟩
  by_cases y : p = P
  · subst y
    rw [show 701 * s + p + 1 = 701 * s + (p + 1) by omega, d2, hR 451 _ (by omega), b1]
    exact ⟨by omega, hb, Int.le_refl _, e1 hb, e2⟩
  · obtain ⟨x1, x2, x3, x4, x5⟩ := c p p0 (by omega)
    rw [hR 451 (701 * s + p) (by omega), hR 451 (701 * s + p + 1) (by omega)]
    exact ⟨x1, x2, by omega, x4, x5⟩
/-- a kin is told -/
theorem KI.kin {C' R' : em_M} (hw : w = 53 ∨ w = 366) (hs : s = 0 ∨ s = 1) (h : KI w s k0 S0 P0 S P S C R) (hr : KR w s k0 S0 P0 r0 v1 C R) (hP : P0 < P) (hS : S ≤ 600) (tt : S ≤ t) (hC : ∀ c j, ¬ ((c = w ∧ j = 0) ∨ (c = w + 1 ∧ j = k0 + 1)) → C' c j = C c j) (c1 : C' w 0 = k0 + 1) (c2 : C' (w + 1) (k0 + 1) = S) (hR : ∀ c j, ¬ ((c = 447 ∧ j = s) ∨ (c = 448 ∧ j = 20 * s + k0) ∨ (c = 450 ∧ j = 21 * s + k0 + 1)) → R' c j = R c j) (d1 : R' 447 s = k0 + 1) (d2 : R' 448 (20 * s + k0) = R 445 v1) (d3 : R' 450 (21 * s + k0 + 1) = P) : gLL w s t (k0 + 1) S P r0 C' R' := by
  obtain ⟨⟨⟨a1, a2, a3⟩, ⟨a4, a5, a6⟩, a7, a8, a9⟩, ⟨b1, b2'⟩, c, ⟨e1, e2⟩, f, g⟩ := h
  obtain ⟨⟨⟨x1, x2, x3, x4⟩, x5, x6⟩, d, ⟨y1, y2⟩, ⟨f1, f2, f3⟩, g1, g2, g3⟩ := hr
  have el : ∀ k, k ≤ k0 → lw_from C' w k = lw_from C w k := fun k hk => by unfold lw_from; rw [hC (w + 1) k (by omega)]
  have m8 : C' 51 8 = C 51 8 := hC _ _ (by omega)
  have mono : ¬ C 51 8 = 0 → ¬ C' 51 8 = 0 := fun z => by rw [m8]; exact z
  have cC : ∀ c j, c = 52 ∨ (c = w ∧ ¬ j = 0) ∨ (w + 2 ≤ c ∧ c ≤ w + 72) → C' c j = C c j := fun c j hc => hC c j (by omega)
  have cR : ∀ c j, c = 449 ∨ (451 ≤ c ∧ c ≤ 467) ∨ c = 439 → R' c j = R c j := fun c j hc => hR c j (by omega)
  refine ⟨⟨⟨c1, d1, by omega, by omega⟩, fun k h0 h1 => ?_⟩, ⟨⟨by rw [cC w 1 (by omega)]; exact a1, by rw [cR 439 27 (by omega)]; exact a2, by rw [cR 439 26 (by omega)]; exact a3⟩, ⟨by omega, by omega, tt⟩, ⟨?_, fun z => by omega, fun _ => ⟨?_, ?_⟩⟩, fun z k h0 h1 => ?_⟩, ⟨by rw [cC w 4 (by omega)]; exact f1, by rw [cR 454 s (by omega)]; exact f2, f3⟩, g1.fr hw f3.2 (fun c j hc => cC c j (by omega)) (fun c j hc => cR c j (by omega)) (by rw [c1, x1]; omega) mono, g2.fr (cC w 2 (by omega)) (fun j => cR 449 j (by omega)), g3.fr (cC w 3 (by omega)) (fun c j hc => cR c j (by omega)) mono⟩
  · rw [cC 52 k (by omega)]
    by_cases y : k = k0
    · subst y
      rw [d2]; exact x6
    · rw [hR 448 _ (by omega)]; exact x5 k h0 (by omega)
  · unfold lw_from
    rw [if_neg (by omega)]; exact c2
  · rw [show 21 * s + (k0 + 1) = 21 * s + k0 + 1 by omega]; exact d3
  · rw [cR 451 _ (by omega)]; exact b1
  · rw [m8] at z
    by_cases y : k = k0
    · subst y
      rw [d3, c2]
      refine ⟨?_, Int.le_refl _, Int.le_refl _⟩
      have l1 : lw_from (mx C' R') w k = S0 := by
        rw [← y1, ← el k (Int.le_refl _)]
        unfold lw_from
        rw [mx_c (by omega)]
      have l2 : mx C' R' (w + 1) (k + 1) = S := by rw [mx_c (by omega)]; exact c2
      have l3 : mx C' R' 450 (21 * s + k) = P0 := by rw [mx_r (by omega), hR 450 _ (by omega)]; exact y2
      have l4 : mx C' R' 450 (21 * s + k + 1) = P := by rw [mx_r (by omega)]; exact d3
      have l5 : ∀ p, mx C' R' 451 p = R 451 p := fun p => by rw [mx_r (by omega), cR 451 _ (by omega)]
      have l6 : ∀ j, mx C' R' (w + 4) j = C (w + 4) j := fun j => by rw [mx_c (by omega), cC (w + 4) _ (by omega)]
      have l7 : ∀ j, mx C' R' (w + 2) j = C (w + 2) j ∧ mx C' R' (w + 3) j = C (w + 3) j := fun j => ⟨by rw [mx_c (by omega), cC (w + 2) _ (by omega)], by rw [mx_c (by omega), cC (w + 3) _ (by omega)]⟩
      have l8 : ∀ j, mx C' R' 452 j = R 452 j ∧ mx C' R' 453 j = R 453 j := fun j => ⟨by rw [mx_r (by omega), cR 452 _ (by omega)], by rw [mx_r (by omega), cR 453 _ (by omega)]⟩
      unfold RKin
      simp only [l1, l2, l3, l4, l5, l6, (l7 _).1, (l7 _).2, (l8 _).1, (l8 _).2]
      exact ⟨⟨a4, by omega, hS⟩, ⟨a7, hP, by omega⟩, ⟨b2', b1⟩, c, fun j j0 j1 => ⟨(g z j j0 j1).1, (g z j j0 j1).2, f j j0 j1⟩⟩
    · obtain ⟨u1, u2, u3⟩ := d z k h0 (by omega)
      rw [hR 450 _ (by omega), hC (w + 1) (k + 1) (by omega)]
      refine ⟨RKin_fr2 u1 ?_ ?_ (fun c j c0 c1 j0 j1 => ?_) ⟨?_, ?_⟩ (fun p p0 p1 => ?_) (fun c j c0 c1 j0 j1 => ?_), by omega, by omega⟩
      · unfold lw_from
        rw [mx_c (by omega), mx_c (by omega), hC (w + 1) k (by omega)]
      · rw [mx_c (by omega), mx_c (by omega), hC (w + 1) (k + 1) (by omega)]
      · rw [mx_c (by omega), mx_c (by omega), cC c _ (by omega)]
      · rw [mx_r (by omega), mx_r (by omega), hR 450 _ (by omega)]
      · rw [mx_r (by omega), mx_r (by omega), hR 450 _ (by omega)]
      · rw [mx_r (by omega), mx_r (by omega), cR 451 _ (by omega)]
      · rw [mx_r (by omega), mx_r (by omega), cR c _ (by omega)]
end
