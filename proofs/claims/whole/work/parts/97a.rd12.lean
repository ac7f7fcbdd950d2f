/-! read: a rule's head and end. -/
section
variable {C R M : em_M} {n m t w s k0 S P r0 r : Int}
def inC (w r : Int) (C C' : em_M) : Prop := ∀ c j, ¬ ((c = 51 ∧ 3 ≤ j ∧ j ≤ 11 ∧ ¬ j = 7) ∨ (w + 6 ≤ c ∧ c ≤ w + 10 ∧ j = r) ∨ c = w + 12 + r ∨ c = w + 43 + r) → C' c j = C c j
def inR (s r : Int) (R R' : em_M) : Prop := ∀ c j, ¬ ((c = 439 ∧ ((11 ≤ j ∧ j ≤ 15) ∨ j = 42 ∨ j = 43)) ∨ (455 ≤ c ∧ c ≤ 463 ∧ j = 30 * s + r) ∨ (464 ≤ c ∧ c ≤ 465 ∧ 240 * s + 8 * r ≤ j ∧ j < 240 * s + 8 * r + 8)) → R' c j = R c j
theorem inC.rf (w r : Int) (C : em_M) : inC w r C C := fun _ _ _ => rfl
theorem inR.rf (s r : Int) (R : em_M) : inR s r R R := fun _ _ _ => rfl
theorem inC.tr {A B D : em_M} (h : inC w r A B) (k : inC w r B D) : inC w r A D := fun c j hc => (k c j hc).trans (h c j hc)
theorem inR.tr {A B D : em_M} (h : inR s r A B) (k : inR s r B D) : inR s r A D := fun c j hc => (k c j hc).trans (h c j hc)
theorem fnC.inC {A B : em_M} (h : fnC A B) : inC w r A B := fun c j hc => h c j (fun z => hc (Or.inl z))
theorem fnR.inR {A B : em_M} (h : fnR A B) : inR s r A B := fun c j hc => h c j (fun z => hc (Or.inl z))
theorem inC.fx {A B : em_M} (h : inC w r A B) (r0 : 0 ≤ r) (r1 : r < 30) : fxC w A B := fun c j hc => h c j (fun z => hc (z.imp id (fun z => Or.inr (by omega))))
theorem inR.fx {A B : em_M} (h : inR s r A B) (r0 : 0 ≤ r) (r1 : r < 30) : fxR s A B := fun c j hc => h c j (fun z => hc (by
  unfold gRx
  rcases z with z | z | z
  · exact Or.inl ⟨z.1, by omega⟩
  · exact Or.inr (Or.inr (Or.inr (Or.inr (Or.inr (Or.inr (Or.inl ⟨z.1, z.2.1, by omega, by omega⟩))))))
  · exact Or.inr (Or.inr (Or.inr (Or.inr (Or.inr (Or.inr (Or.inr ⟨by omega, by omega, by omega⟩))))))))
/-- the state inside the rule r -/
def gLo (w s t k0 S P r : Int) (C R : em_M) : Prop := gNm w s k0 C R ∧ LK w s k0 S P t C R ∧ (C w 4 = r + 1 ∧ R 454 s = r ∧ 0 ≤ r ∧ r < 30) ∧ LRo w s r C R ∧ LB w s C R ∧ LW w s C R
theorem gLo.inn {C' R' : em_M} {t' : Int} (hw : w = 53 ∨ w = 366) (h : gLo w s t k0 S P r C R) (hC : inC w r C C') (hR : inR s r R R') (mono : ¬ C 51 8 = 0 → ¬ C' 51 8 = 0) (ht : t ≤ t') : gLo w s t' k0 S P r C' R' := by
  obtain ⟨l1, l2, ⟨l3, l3', l7, l8⟩, l4, l5, l6⟩ := h
  have eC : ∀ c j, (w ≤ c ∧ c ≤ w + 5) ∨ c = 52 → C' c j = C c j := fun c j hc => hC c j (by omega)
  have eR : ∀ c j, (447 ≤ c ∧ c ≤ 454) ∨ (466 ≤ c ∧ c ≤ 467) ∨ (c = 439 ∧ (j = 26 ∨ j = 27)) → R' c j = R c j := fun c j hc => hR c j (by omega)
  refine ⟨l1.fr (fun c j hc => eC c j (by omega)) (fun c j hc => eR c j (by omega)), l2.fr hw (fun c j hc => eC c j (by omega)) (fun c j hc => eR c j (by omega)) mono ht, ⟨by rw [eC w 4 (by omega)]; exact l3, by rw [eR 454 s (by omega)]; exact l3', l7, l8⟩, ?_, l5.fr (eC w 2 (by omega)) (fun j => eR 449 j (by omega)), l6.fr (eC w 3 (by omega)) (fun c j hc => eR c j (by omega)) mono⟩
  clear eC eR l1 l2 l5 l6
  refine l4.fr hw (by omega) (fun c j hc => ?_) (fun c j hc => ?_) ?_ mono
  · exact hC c j (by omega)
  · exact hR c j (by omega)
  · rw [hC w 0 (by omega)]; exact Int.le_refl _
/-- a rule is told -/
theorem gLo.fin (hw : w = 53 ∨ w = 366) (h : gLo w s t k0 S P r C R) (hr : C 51 8 = 0 → RRule (mx C R) w s r) : gLL w s t k0 S P (r + 1) C (xup R 454 s (r + 1)) := by
  obtain ⟨l1, l2, ⟨l3, l3', l7, l8⟩, l4, l5, l6⟩ := h
  have eR : ∀ c j, ¬ (c = 454 ∧ j = s) → (xup R 454 s (r + 1)) c j = R c j := fun c j hc => xup_ne hc
  refine ⟨l1.fr (fun _ _ _ => rfl) (fun c j hc => eR c j (by omega)), l2.fr hw (fun _ _ _ => rfl) (fun c j hc => eR c j (by omega)) id (Int.le_refl _), ⟨l3, xup_eq _ _ _ _, by omega, by omega⟩, ?_, l5.fr rfl (fun j => eR 449 j (by omega)), l6.fr rfl (fun c j hc => eR c j (by omega)) id⟩
  have h4 : LRo w s (r + 1) C R := fun z x x0 x1 => by
    by_cases y : x = r
    · subst y
      exact hr z
    · exact l4 z x x0 (by omega)
  exact h4.fr hw (by omega) (fun _ _ _ => rfl) (fun c j hc => eR c j (by omega)) (Int.le_refl _) id
def soR (d : Int) : Int := if d = 1 then 0 else d - 4
theorem fuM_at {k : Int} : fuM R k t 439 12 = k ∧ fuM R k t 439 13 = R 443 t := by
  unfold fuM
  simp (disch := omega) only [xup_ne, xup_eq, and_self]
theorem fuM_ne {k c j : Int} (h : ¬ (c = 439 ∧ (j = 12 ∨ j = 13))) : fuM R k t c j = R c j := by
  unfold fuM
  rw [xup_ne (by omega), xup_ne (by omega)]
theorem head_pair {d : Int} (hS : gST n m w s C R) (hQ : gQ n m t C R) (hN : gN m t C R) (hL : gLL w s t k0 S P r0 C R) (hd : d = 1 ∨ d = 5 ∨ d = 6 ∨ d = 7) (h4 : C 51 4 = d) : (∃ C1, r0 < 30 ∧ f_Reader_takeRuleWord d C = some (1, C1) ∧ ((d = 1 → f_Model_tell R = (f_Model_tellFixed (30 * s + r0) (xup (xup R 439 11 (t + 1)) 455 (30 * s + r0) (soR d))).bind fun r1 => f_Model_tell_168 r1.2) ∧ (d = 5 → f_Model_tell R = (f_Model_tellBars (30 * s + r0) (xup (xup R 439 11 (t + 1)) 455 (30 * s + r0) (soR d))).bind fun r1 => f_Model_tell_168 r1.2) ∧ (d = 6 → f_Model_tell R = (f_Model_tellList (30 * s + r0) 1 (xup (xup R 439 11 (t + 1)) 455 (30 * s + r0) (soR d))).bind fun r1 => f_Model_tell_168 r1.2) ∧ (d = 7 → f_Model_tell R = (f_Model_tellList (30 * s + r0) 0 (xup (xup R 439 11 (t + 1)) 455 (30 * s + r0) (soR d))).bind fun r1 => f_Model_tell_168 r1.2)) ∧ (gQ n m (t + 1) C1 (xup (xup R 439 11 (t + 1)) 455 (30 * s + r0) (soR d)) ∧ gN m (t + 1) C1 (xup (xup R 439 11 (t + 1)) 455 (30 * s + r0) (soR d)) ∧ gLo w s (t + 1) k0 S P r0 C1 (xup (xup R 439 11 (t + 1)) 455 (30 * s + r0) (soR d))) ∧ (C1 (w + 5) r0 = d ∧ C1 (w + 10) r0 = 0) ∧ fxC w C C1 ∧ fxR s R (xup (xup R 439 11 (t + 1)) 455 (30 * s + r0) (soR d))) ∨ (∃ C' R', f_Reader_takeRuleWord d C = some (0, C') ∧ f_Model_tell R = some (0, R') ∧ gBd n m C' R' ∧ fxC w C C' ∧ fxR s R R') := by
  obtain ⟨⟨q1, q2, q3⟩, ⟨q4, q5⟩, ⟨q6, q7⟩, -⟩ := id hQ
  obtain ⟨-, ⟨w1, w2⟩, s1, s2⟩ := id hS
  obtain ⟨l1, l2, ⟨l3, l3', l7, l8⟩, l4, l5, l6⟩ := hL
  have hd14 : 0 ≤ d ∧ d < 14 := by omega
  have hρ : R 442 t = 21 + soR d := by
    have h := (kd_word hS hQ hd14.1 hd14.2).mp h4
    rcases hd with rfl | rfl | rfl | rfl <;> exact h
  have hso : (d = 1 ∧ soR d = 0) ∨ (d = 5 ∧ soR d = 1) ∨ (d = 6 ∧ soR d = 2) ∨ (d = 7 ∧ soR d = 3) := by
    rcases hd with rfl | rfl | rfl | rfl
    · exact Or.inl ⟨rfl, rfl⟩
    · exact Or.inr (Or.inl ⟨rfl, rfl⟩)
    · exact Or.inr (Or.inr (Or.inl ⟨rfl, rfl⟩))
    · exact Or.inr (Or.inr (Or.inr ⟨rfl, rfl⟩))
  have e1 := q_Reader_takeRuleWord d C
  have e2 := q_Model_tell R
  simp only [em_cd, q5, if_pos (show 0 ≤ t ∧ t < 603 by omega), hρ, s1, l3'] at e2
  have e3 : f_Model_tell R = if ¬ r0 = 30 then f_Model_tell_78 R else (f_Model_fail 2 R).bind fun x => f_Model_tell_78 x.2 := by
    rw [e2]
    clear e1 e2 l2 l4 l5 l6 hN hQ hS
    have hs2 : 0 ≤ s ∧ s < 2 := by omega
    rcases hso with ⟨-, z⟩ | ⟨-, z⟩ | ⟨-, z⟩ | ⟨-, z⟩ <;> rw [z]
    · rw [if_neg (by omega), if_pos (by omega), if_pos hs2]
    · rw [if_neg (by omega), if_neg (by omega), if_pos (by omega), if_pos hs2]
    · rw [if_neg (by omega), if_neg (by omega), if_neg (by omega), if_pos (by omega), if_pos hs2]
    · rw [if_neg (by omega), if_neg (by omega), if_neg (by omega), if_neg (by omega), if_pos (by omega), if_pos hs2]
  have e78 : ∀ Z : em_M, Z 439 11 = t → f_Model_tell_78 Z = (f_Model_next Z).bind fun x => if x.2 439 12 ≤ 0 then (if 0 ≤ x.2 439 18 ∧ x.2 439 18 < 2 then (if 0 ≤ x32 (x32 (30 * x.2 439 18) + x.2 454 (x.2 439 18)) ∧ x32 (x32 (30 * x.2 439 18) + x.2 454 (x.2 439 18)) < 60 then (if ¬ x32 (Z 442 t - 21) = 0 then (if ¬ x32 (Z 442 t - 21) = 1 then (if ¬ x32 (Z 442 t - 21) = 2 then (f_Model_tellList (x32 (x32 (30 * x.2 439 18) + x.2 454 (x.2 439 18))) 0 (xup x.2 455 (x32 (x32 (30 * x.2 439 18) + x.2 454 (x.2 439 18))) (x32 (Z 442 t - 21)))).bind fun r1 => f_Model_tell_168 r1.2 else (f_Model_tellList (x32 (x32 (30 * x.2 439 18) + x.2 454 (x.2 439 18))) 1 (xup x.2 455 (x32 (x32 (30 * x.2 439 18) + x.2 454 (x.2 439 18))) (x32 (Z 442 t - 21)))).bind fun r1 => f_Model_tell_168 r1.2) else (f_Model_tellBars (x32 (x32 (30 * x.2 439 18) + x.2 454 (x.2 439 18))) (xup x.2 455 (x32 (x32 (30 * x.2 439 18) + x.2 454 (x.2 439 18))) (x32 (Z 442 t - 21)))).bind fun r1 => f_Model_tell_168 r1.2) else (f_Model_tellFixed (x32 (x32 (30 * x.2 439 18) + x.2 454 (x.2 439 18))) (xup x.2 455 (x32 (x32 (30 * x.2 439 18) + x.2 454 (x.2 439 18))) (x32 (Z 442 t - 21)))).bind fun r1 => f_Model_tell_168 r1.2) else none) else none) else some (0, x.2) := fun Z hZ => by
    have e := q_Model_tell_78 Z
    simp only [em_cd, hZ, if_pos (show 0 ≤ t ∧ t < 603 by omega)] at e
    exact e
  simp only [w1, isO_law w2, em_cd, cond_true, l3, Bool.and_self] at e1
  by_cases c30 : r0 < 30
  case neg =>
    rw [if_neg c30, q_Reader_fail] at e1
    simp only [Option.bind_some] at e1
    rw [if_pos (by simp)] at e1
    rw [if_neg (by omega), m_fail0 2 q7 q5 q1 (by omega)] at e3
    simp only [Option.bind_some] at e3
    rw [e78 _ (by rw [fuM_ne (by omega)]; exact q5)] at e3
    have hb := gBd_mk (k := 2) hS hQ (by omega)
    by_cases c6 : t < 600
    · rw [m_next1 (by rw [fuM_ne (by omega)]; exact q5) q1 c6] at e3
      simp only [Option.bind_some] at e3
      rw [if_neg (by rw [xup_ne (by omega), fuM_at.1]; omega)] at e3
      exact Or.inr ⟨_, _, e1, e3, hb.fr (fun _ _ _ => rfl) ⟨xup_ne (by omega), xup_ne (by omega)⟩, (fnC_6 _).wd, ((fnR_fl _ _).tr (fnR_go _)).wd⟩
    · have e6 : f_Model_next (fuM R 2 t) = some (0, fuM R 2 t) := by
        rw [q_Model_next, m_failf 2 (by rw [fuM_at.1]; omega)]
        simp only [em_cd]
        rw [if_neg (by rw [fuM_ne (by omega), q5]; omega)]
        rfl
      rw [e6] at e3
      simp only [Option.bind_some] at e3
      rw [if_neg (by rw [fuM_at.1]; omega)] at e3
      exact Or.inr ⟨_, _, e1, e3, hb, (fnC_6 _).wd, (fnR_fl _ _).wd⟩
  rw [if_pos c30] at e1
  rw [if_pos (by omega), e78 R q5] at e3
  obtain ⟨C1, a1, ⟨a2, a3, a4⟩, a5⟩ := f_addRule (d := d) w2 l3 l7 c30
  rw [a1] at e1
  simp only [Option.bind_some] at e1
  have fC1 : fxC w C C1 := fun c j hc => a5 c j (by omega)
  have hS1 : gST n m w s C1 R := hS.fx fC1 (fxR.rf _ _)
  have hQ1 : gQ n m t C1 R := hQ.fr (fun c j hc => a5 c j (by omega)) (fun _ _ _ => rfl)
  have h41 : C1 51 4 = d := by rw [a5 51 4 (by omega)]; exact h4
  rcases tk_next hS1 hQ1 h41 (by omega) (by omega) with ⟨t6, d1, d2, hQ2⟩ | ⟨t6, d1, d2, d3⟩
  case inr =>
    rw [d1] at e1
    rw [d2] at e3
    simp only [Option.bind_some] at e1 e3
    rw [if_pos (by simp)] at e1
    have := d3.pos
    rw [if_neg (by omega)] at e3
    exact Or.inr ⟨_, _, e1, e3, d3, fC1.tr (fnC_6 _).wd, (fnR_fl _ _).wd⟩
  rw [d1] at e1
  rw [d2] at e3
  simp only [Option.bind_some] at e1 e3
  rw [if_pos (by simp)] at e1
  have y12 : xup R 439 11 (t + 1) 439 12 = 0 := by rw [xup_ne (by omega)]; exact q7
  have y18 : xup R 439 11 (t + 1) 439 18 = s := by rw [xup_ne (by omega)]; exact s1
  have y454 : xup R 439 11 (t + 1) 454 s = r0 := by rw [xup_ne (by omega)]; exact l3'
  rw [if_pos (by omega), y18, if_pos (by omega), y454, x32_s (x := 30 * s) (by omega) (by omega), x32_s (x := 30 * s + r0) (by omega) (by omega), if_pos (by omega), hρ, show 21 + soR d - 21 = soR d by omega, x32_s (x := soR d) (by omega) (by omega)] at e3
  have fY : ∀ c j, ¬ ((c = 439 ∧ j = 11) ∨ (c = 455 ∧ j = 30 * s + r0)) → xup (xup R 439 11 (t + 1)) 455 (30 * s + r0) (soR d) c j = R c j := fun c j hc => by rw [xup_ne (by omega), xup_ne (by omega)]
  refine Or.inl ⟨goC C1 t, c30, e1, ⟨fun z => ?_, fun z => ?_, fun z => ?_, fun z => ?_⟩, ⟨hQ2.fr (fun _ _ _ => rfl) (fun c j hc => xup_ne (by omega)), ?_, ?_⟩, ⟨by rw [goC_ne (by omega)]; exact a2, by rw [goC_ne (by omega)]; exact a3⟩, fC1.tr fnC_go.wd, fun c j hc => fY c j (by unfold gRx at hc; clear e1 e2 e3 hso; omega)⟩
  · rw [if_neg (by omega)] at e3
    exact e3
  · rw [if_pos (by omega), if_neg (by omega)] at e3
    exact e3
  · rw [if_pos (by omega), if_pos (by omega), if_neg (by omega)] at e3
    exact e3
  · rw [if_pos (by omega), if_pos (by omega), if_pos (by omega)] at e3
    exact e3
  · clear e1 e2 e3 hso l2 l4 l5 l6
    exact (hN.up (by omega)).fr (fun c j hc => by rw [goC_ne (by omega), a5 c j (by omega)]) (fun c j hc => fY c j (by omega))
  · clear e1 e2 e3 hso
    have gC : ∀ c j, ¬ ((c = 51 ∧ 3 ≤ j ∧ j ≤ 5) ∨ (w + 5 ≤ c ∧ c ≤ w + 10 ∧ j = r0) ∨ (c = w ∧ j = 4)) → goC C1 t c j = C c j := fun c j hc => by rw [goC_ne (by omega), a5 c j (by omega)]
    have mono : ¬ C 51 8 = 0 → ¬ goC C1 t 51 8 = 0 := fun z => by rw [gC 51 8 (by omega)]; exact z
    refine ⟨l1.fr (fun c j hc => gC c j (by omega)) (fun c j hc => fY c j (by omega)), l2.fr w2 (fun c j hc => gC c j (by omega)) (fun c j hc => fY c j (by omega)) mono (by omega), ⟨by rw [goC_ne (by omega)]; exact a4, by rw [fY 454 s (by omega)]; exact l3', l7, c30⟩, l4.fr w2 l8 (fun c j hc => gC c j (by omega)) (fun c j hc => fY c j (by omega)) (by rw [gC w 0 (by omega)]; exact Int.le_refl _) mono, l5.fr (gC w 2 (by omega)) (fun j => fY 449 j (by omega)), l6.fr (gC w 3 (by omega)) (fun c j hc => fY c j (by omega)) mono⟩
/-- the end of a rule -/
theorem end_pair (hS : gST n m w s C R) (hQ : gQ n m t C R) (hN : gN m t C R) (hL : gLo w s t k0 S P r C R) (hr : C 51 8 = 0 → RRule (mx C R) w s r) : (∃ C' R', f_Reader_take 59 C = some (1, C') ∧ f_Model_tell_168 R = some (0, R') ∧ (gQ n m (t + 1) C' R' ∧ gN m (t + 1) C' R' ∧ gLL w s (t + 1) k0 S P (r + 1) C' R') ∧ fxC w C C' ∧ fxR s R R') ∨ (∃ C' R', f_Reader_take 59 C = some (0, C') ∧ f_Model_tell_168 R = some (0, R') ∧ gBd n m C' R' ∧ fxC w C C' ∧ fxR s R R') := by
  obtain ⟨-, ⟨w1, w2⟩, s1, s2⟩ := id hS
  have e2 := q_Model_tell_168 R
  simp only [em_cd] at e2
  rcases tk_must (d := 59) (ρ := 8) hS hQ (kd_sign hS hQ (by omega)) (by omega) (by omega) with ⟨c59, t7, d1, d2, hQ3⟩ | ⟨C3, R3, d1, d2, d3, d4, d5⟩
  case inr =>
    rw [d2] at e2
    simp only [Option.bind_some] at e2
    have := d3.pos
    rw [if_pos (by omega)] at e2
    exact Or.inr ⟨C3, R3, d1, e2, d3, d4.wd, d5.wd⟩
  rw [d2] at e2
  simp only [Option.bind_some] at e2
  have y12 : xup R 439 11 (t + 1) 439 12 = 0 := by rw [xup_ne (by omega)]; exact hQ.2.2.1.2
  have y18 : xup R 439 11 (t + 1) 439 18 = s := by rw [xup_ne (by omega)]; exact s1
  have y454 : xup R 439 11 (t + 1) 454 s = r := by rw [xup_ne (by omega)]; exact hL.2.2.1.2.1
  have hr30 := hL.2.2.1.2.2
  rw [if_neg (fun z => z y12), y18, y454, if_pos (by omega), if_pos (by omega), x32_s (by omega) (by omega)] at e2
  have hL1 : gLo w s (t + 1) k0 S P r (goC C t) (xup R 439 11 (t + 1)) := hL.inn w2 fnC_go.inC (fnR_go _).inR (fun z => by rw [goC_ne (by omega)]; exact z) (by omega)
  have hL2 := hL1.fin w2 (fun z => by
    rw [goC_ne (by omega)] at z
    refine RRule_fr2 (hr z) hr30.1 (fun c c0 c1 => ?_) (fun j j0 j1 => ⟨?_, ?_⟩) (fun c c0 c1 => ?_) (fun i i0 i1 => ⟨?_, ?_⟩) ?_
    · rw [mx_c (by omega), mx_c (by omega), goC_ne (by omega)]
    · rw [mx_c (by omega), mx_c (by omega), goC_ne (by omega)]
    · rw [mx_c (by omega), mx_c (by omega), goC_ne (by omega)]
    · rw [mx_r (by omega), mx_r (by omega), xup_ne (by omega)]
    · rw [mx_r (by omega), mx_r (by omega), xup_ne (by omega)]
    · rw [mx_r (by omega), mx_r (by omega), xup_ne (by omega)]
    · rw [mx_c (by omega), mx_c (by omega), goC_ne (by omega)]; exact Int.le_refl _)
  refine Or.inl ⟨_, _, d1, e2, ⟨hQ3.fr (fun _ _ _ => rfl) (fun c j hc => xup_ne (by omega)), (hN.up (by omega)).fr (fun c j hc => goC_ne (by omega)) (fun c j hc => by rw [xup_ne (by omega), xup_ne (by omega)]), hL2⟩, fnC_go.wd, fun c j hc => ?_⟩
  unfold gRx at hc
  clear e2 hL1 hL2
  rw [xup_ne (by omega), xup_ne (by omega)]
end
