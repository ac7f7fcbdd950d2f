/-! read: the first kin of a rule. -/
section
variable {C R M : em_M} {n m t w s k0 S P r0 r : Int}
theorem m_168f (hf : 0 < R 439 12) : f_Model_tell_168 R = some (0, R) := by
  rw [q_Model_tell_168, m_mustf 8 hf]
  simp only [Option.bind_some, em_cd]
  rw [if_pos (by omega)]
theorem isKin.rng {v q : Int} (h : isKin C k0 v q) (hk : k0 ≤ 20) : -1 ≤ q ∧ q < 20 ∧ (¬ q = -1 → 0 ≤ q ∧ q < k0) := by
  rcases h with ⟨x1, x2, -⟩ | ⟨x1, -⟩
  · exact ⟨by omega, by omega, fun _ => ⟨x1, x2⟩⟩
  · exact ⟨by omega, by omega, fun z => absurd x1 z⟩
/-- only the rule's own cells -/
def ruC (w r : Int) (C C' : em_M) : Prop := ∀ c j, ¬ ((w + 6 ≤ c ∧ c ≤ w + 10 ∧ j = r) ∨ c = w + 12 + r ∨ c = w + 43 + r) → C' c j = C c j
def ruR (s r : Int) (R R' : em_M) : Prop := ∀ c j, ¬ ((455 ≤ c ∧ c ≤ 463 ∧ j = 30 * s + r) ∨ (464 ≤ c ∧ c ≤ 465 ∧ 240 * s + 8 * r ≤ j ∧ j < 240 * s + 8 * r + 8)) → R' c j = R c j
theorem ruC.inC {A B : em_M} (h : ruC w r A B) : inC w r A B := fun c j hc => h c j (fun z => hc (Or.inr z))
theorem ruR.inR {A B : em_M} (h : ruR s r A B) : inR s r A B := fun c j hc => h c j (fun z => hc (Or.inr z))
theorem ruC.rf (w r : Int) (C : em_M) : ruC w r C C := fun _ _ _ => rfl
theorem ruR.rf (s r : Int) (R : em_M) : ruR s r R R := fun _ _ _ => rfl
theorem ruC.lo {A B : em_M} (h : ruC w r A B) (hw : 53 ≤ w) (r0 : 0 ≤ r) {c j : Int} (hc : c < 53) : B c j = A c j := h c j (by omega)
theorem ruR.lo {A B : em_M} (h : ruR s r A B) {c j : Int} (hc : c < 455) : B c j = A c j := h c j (by omega)
theorem gQ.ru {C' R' : em_M} (h : gQ n m t C R) (hw : 53 ≤ w) (r0 : 0 ≤ r) (hC : ruC w r C C') (hR : ruR s r R R') : gQ n m t C' R' := h.fr (fun c j hc => hC.lo hw r0 (by omega)) (fun c j hc => hR.lo (by omega))
theorem gN.ru {C' R' : em_M} (h : gN m t C R) (hw : 53 ≤ w) (r0 : 0 ≤ r) (hC : ruC w r C C') (hR : ruR s r R R') : gN m t C' R' := h.fr (fun c j hc => hC.lo hw r0 (by omega)) (fun c j hc => hR.lo (by omega))
theorem ru_at {c v : Int} (c0 : 455 ≤ c) (c1 : c ≤ 463) : ruR s r R (xup R c (30 * s + r) v) := fun a j hc => xup_ne (fun z => hc (Or.inl ⟨by omega, by omega, z.2⟩))
theorem ru_add {C' : em_M} {a : Int} (h : ∀ c j, ¬ (((c = w + 12 + r ∨ c = w + 43 + r) ∧ j = a) ∨ (c = w + 10 ∧ j = r)) → C' c j = C c j) : ruC w r C C' := fun c j hc => h c j (by omega)
/-- the first kin of a rule: told, found, kept -/
theorem first_pair (hS : gST n m w s C R) (hQ : gQ n m t C R) (hN : gN m t C R) (hL : gLo w s t k0 S P r C R) (h10 : C (w + 10) r = 0) : (∃ q Ct C' R2, f_Reader_takeTold C = some (1, Ct) ∧ f_Law_addToList w q 0 Ct = some (0, C') ∧ (Ct 51 2 = w ∧ Ct 51 10 = q ∧ Ct 51 3 = t + 1) ∧ f_Model_namedKin R = some (q, R2) ∧ (gQ n m (t + 1) C' (xup R2 456 (30 * s + r) q) ∧ gN m (t + 1) C' (xup R2 456 (30 * s + r) q) ∧ gLo w s (t + 1) k0 S P r C' (xup R2 456 (30 * s + r) q)) ∧ (-1 ≤ q ∧ q < 20 ∧ (¬ q = -1 → 0 ≤ q ∧ q < k0)) ∧ (q = -1 → ¬ C' 51 8 = 0) ∧ (inC w r C C' ∧ inR s r R (xup R2 456 (30 * s + r) q)) ∧ (C' (w + 12 + r) 0 = q ∧ C' (w + 10) r = 1 ∧ C' (w + 5) r = C (w + 5) r) ∧ R2 455 (30 * s + r) = R 455 (30 * s + r)) ∨ (∃ C' R', f_Reader_takeTold C = some (0, C') ∧ f_Model_namedKin R = some (-1, R') ∧ gBd n m C' R' ∧ fnC C C' ∧ fnR R R') := by
  obtain ⟨-, ⟨w1, w2⟩, s1, s2⟩ := id hS
  have rr := hL.2.2.1.2.2
  have hw4 := hL.2.2.1.1
  have hk20 := hL.1.1.2.2.2
  have hw53 : 53 ≤ w := by omega
  rcases told_pair hS hQ hN hL.1 with ⟨q, C2, R2, d1, d2, ⟨-, f2, f3, f4⟩, hQ2, hN2, mono2, ⟨fC2, -⟩, fR2⟩ | h
  case inr => exact Or.inr h
  have q1r := f3.rng hk20
  obtain ⟨C', a1, ⟨a2, a3, a4⟩, a5⟩ := f_addToList (q := q) (v := 0) (a := 0) w2 (r := r) (C := C2) (by rw [fC2 w 4 (by omega)]; exact hw4) rr.1 rr.2 (by rw [fC2 (w + 10) r (by omega)]; exact h10) (by omega) (by omega)
  have uC : ruC w r C2 C' := ru_add a5
  have uR : ruR s r R2 (xup R2 456 (30 * s + r) q) := ru_at (by omega) (by omega)
  have m2 : C' 51 8 = C2 51 8 := uC.lo hw53 rr.1 (by omega)
  have iC : inC w r C C' := fC2.inC.tr uC.inC
  have iR : inR s r R (xup R2 456 (30 * s + r) q) := fR2.inR.tr uR.inR
  refine Or.inl ⟨q, C2, C', R2, d1, a1, ⟨?_, f2, hQ2.2.1.1⟩, d2, ⟨hQ2.ru hw53 rr.1 uC uR, hN2.ru hw53 rr.1 uC uR, hL.inn w2 iC iR (fun z => by rw [m2]; exact mono2 z) (by omega)⟩, q1r, fun z => by rw [m2]; exact f4 z, ⟨iC, iR⟩, ⟨a2, by rw [a4]; omega, ?_⟩, ?_⟩
  · rw [fC2 51 2 (by omega)]; exact w1
  · rw [a5 (w + 5) r (by omega), fC2 (w + 5) r (by omega)]
  · exact fR2 455 _ (by omega)
theorem bars_tail {Z : em_M} {v b y : Int} (v0 : 0 ≤ v) (v1 : v < 60) : (if 0 ≤ v ∧ v < 60 then (if ¬ xup Z 457 v b 439 12 = 0 then some ((0 : Int), xup Z 457 v b) else (if 0 ≤ v ∧ v < 60 then (if xup Z 457 v b 457 v = -1 then some (0, xup Z 457 v b) else (if 0 ≤ v ∧ v < 60 then (if 0 ≤ v ∧ v < 60 then (if ¬ xup Z 457 v b 457 v = xup Z 457 v b 456 v then some (0, xup Z 457 v b) else (f_Model_wrong 5 y (xup Z 457 v b)).bind fun r2 => some (0, r2.2)) else none) else none)) else none)) else none) = if ¬ Z 439 12 = 0 then some ((0 : Int), xup Z 457 v b) else if b = -1 then some (0, xup Z 457 v b) else if ¬ b = Z 456 v then some (0, xup Z 457 v b) else (f_Model_wrong 5 y (xup Z 457 v b)).bind fun r2 => some (0, r2.2) := by
  simp (disch := omega) only [xup_ne, xup_eq, if_pos (show 0 ≤ v ∧ v < 60 from ⟨v0, v1⟩)]
/-- the second kin of bars, and the end -/
theorem bars_second {q1 : Int} (hS : gST n m w s C R) (hQ : gQ n m t C R) (hN : gN m t C R) (hL : gLo w s t k0 S P r C R) (h12 : C (w + 12 + r) 0 = q1) (h10 : C (w + 10) r = 1) (h5 : C (w + 5) r = 5) (h456 : R 456 (30 * s + r) = q1) (h455 : R 455 (30 * s + r) = 1) (q1r : -1 ≤ q1 ∧ q1 < 20 ∧ (¬ q1 = -1 → 0 ≤ q1 ∧ q1 < k0)) (n1 : q1 = -1 → ¬ C 51 8 = 0) (T : Option (Int × em_M)) (U : Option (Int × em_M))
    (eT : T = (f_Reader_takeTold C).bind fun r3 => if ¬ r3.1 = 0 then (if ¬ r3.2 51 10 = q1 then (f_Law_addToList (r3.2 51 2) (r3.2 51 10) 0 r3.2).bind fun r4 => (f_Reader_take 59 r4.2).bind fun r5 => if r5.1 = 0 ∨ r5.1 = 1 then some (r5.1, r5.2) else none else (f_Reader_note 5 t r3.2).bind fun r4 => (f_Law_addToList w (r4.2 51 10) 0 r4.2).bind fun r5 => (f_Reader_take 59 r5.2).bind fun r6 => if r6.1 = 0 ∨ r6.1 = 1 then some (r6.1, r6.2) else none) else some (0, r3.2))
    (eU : U = ((f_Model_namedKin R).bind fun r1 => if ¬ r1.2 439 12 = 0 then some ((0 : Int), xup r1.2 457 (30 * s + r) r1.1) else if r1.1 = -1 then some (0, xup r1.2 457 (30 * s + r) r1.1) else if ¬ r1.1 = r1.2 456 (30 * s + r) then some (0, xup r1.2 457 (30 * s + r) r1.1) else (f_Model_wrong 5 t (xup r1.2 457 (30 * s + r) r1.1)).bind fun r2 => some (0, r2.2)).bind fun r => f_Model_tell_168 r.2) :
    (∃ C' R' t', T = some (1, C') ∧ U = some (0, R') ∧ t < t' ∧ (gQ n m t' C' R' ∧ gN m t' C' R' ∧ gLL w s t' k0 S P (r + 1) C' R') ∧ fxC w C C' ∧ fxR s R R') ∨ (∃ C' R', T = some (0, C') ∧ U = some (0, R') ∧ gBd n m C' R' ∧ fxC w C C' ∧ fxR s R R') := by
  obtain ⟨-, ⟨w1, w2⟩, s1, s2⟩ := id hS
  have rr := hL.2.2.1.2.2
  have hw4 := hL.2.2.1.1
  have hk20 := hL.1.1.2.2.2
  have hw53 : 53 ≤ w := by omega
  rcases told_pair hS hQ hN hL.1 with ⟨q2, C3, R3, d1, d2, ⟨g1, g2, g3, g4⟩, hQ3, hN3, mono3, ⟨fC3, -⟩, fR3⟩ | ⟨C3, R3, d1, d2, d3, d4, d5⟩
  case inr =>
    rw [d1] at eT
    rw [d2] at eU
    simp only [Option.bind_some] at eT eU
    rw [if_neg (fun z => z trivial)] at eT
    have := d3.pos
    rw [if_pos (by omega)] at eU
    simp only [Option.bind_some] at eU
    rw [m_168f (by rw [xup_ne (by omega)]; exact d3.pos)] at eU
    have u : ruR s r R3 (xup R3 457 (30 * s + r) (-1)) := ru_at (by omega) (by omega)
    exact Or.inr ⟨C3, _, eT, eU, d3.fr (fun _ _ _ => rfl) ⟨u.lo (by omega), u.lo (by omega)⟩, d4.wd, d5.wd.tr (u.inR.fx rr.1 rr.2)⟩
  rw [d1] at eT
  rw [d2] at eU
  simp only [Option.bind_some] at eT eU
  rw [if_pos (by omega)] at eT
  have hS3 : gST n m w s C3 R3 := hS.fx fC3.wd fR3.wd
  have q2r := g3.rng hk20
  have r12 : R3 439 12 = 0 := hQ3.2.2.1.2
  have r456 : R3 456 (30 * s + r) = q1 := by rw [fR3 456 _ (by omega)]; exact h456
  rw [if_neg (fun z => z r12), r456] at eU
  rw [hS3.2.1.1, g2] at eT
  have u : ruR s r R3 (xup R3 457 (30 * s + r) q2) := ru_at (by omega) (by omega)
  have hNv : gN m (t + 1) C3 (xup R3 457 (30 * s + r) q2) := hN3.ru (w := w) hw53 rr.1 (ruC.rf _ _ _) u
  have hmid : ∃ C4 R4, (T = (f_Law_addToList w q2 0 C4).bind fun r4 => (f_Reader_take 59 r4.2).bind fun r5 => if r5.1 = 0 ∨ r5.1 = 1 then some (r5.1, r5.2) else none) ∧ U = f_Model_tell_168 R4 ∧ (∀ c j, ¬ (c = 51 ∧ (j = 8 ∨ j = 9)) → C4 c j = C3 c j) ∧ (∀ c j, ¬ ((c = 439 ∧ (j = 14 ∨ j = 15)) ∨ (c = 457 ∧ j = 30 * s + r)) → R4 c j = R3 c j) ∧ R4 457 (30 * s + r) = q2 ∧ gN m (t + 1) C4 R4 ∧ (¬ C3 51 8 = 0 → ¬ C4 51 8 = 0) := by
    by_cases c1 : q2 = q1
    · rw [if_neg (fun z => z c1)] at eT
      have tm : t < m := by
        obtain ⟨y1, y2, y3', y4, y5, -⟩ := hQ
        refine Classical.byContradiction (fun z => ?_)
        have := (y5 (by omega)).1
        omega
      have hSv : gST n m w s C3 (xup R3 457 (30 * s + r) q2) := hS3.fx (fxC.rf _ _) (u.inR.fx rr.1 rr.2)
      by_cases c2 : q1 = -1
      · have n3 := mono3 (n1 c2)
        have en : f_Reader_note 5 t C3 = some (0, C3) := by
          rw [q_Reader_note, em_cd, if_pos n3]
        rw [en] at eT
        simp only [Option.bind_some] at eT
        rw [g2] at eT
        rw [if_pos (by omega)] at eU
        simp only [Option.bind_some] at eU
        exact ⟨C3, _, eT, eU, fun _ _ _ => rfl, fun c j hc => xup_ne (by omega), xup_eq _ _ _ _, hNv, id⟩
      · obtain ⟨C4, R4, n1', n2, n3, n4, n5, n6⟩ := nt_pair (k := 5) (tok := t) hSv (by rw [xup_ne (by omega)]; exact r12) hNv (by omega) hQ.1.1 tm (by omega) (by omega) (by
          rcases hNv with ⟨a, b⟩ | ⟨a, b, -⟩
          · exact Or.inl a
          · exact Or.inr (Or.inr b.2))
        rw [n1'] at eT
        simp only [Option.bind_some] at eT
        rw [n5 51 10 (by omega), g2] at eT
        rw [if_neg (by omega), if_neg (fun z => z c1), n2] at eU
        simp only [Option.bind_some] at eU
        exact ⟨C4, R4, eT, eU, n5, fun c j hc => by rw [n6 c j (by omega), xup_ne (by omega)], by rw [n6 _ _ (by omega), xup_eq], n3, fun _ => n4⟩
    · rw [if_pos c1] at eT
      have e2' : U = f_Model_tell_168 (xup R3 457 (30 * s + r) q2) := by
        rw [eU]
        by_cases c2 : q2 = -1
        · rw [if_pos c2]; rfl
        · rw [if_neg c2, if_pos c1]; rfl
      exact ⟨C3, _, eT, e2', fun _ _ _ => rfl, fun c j hc => xup_ne (by omega), xup_eq _ _ _ _, hNv, id⟩
  obtain ⟨C4, R4, h1, h2, h3, h6', h6, hN4, mono4⟩ := hmid
  clear eT eU d1 d2 u hNv
  have a10 : C4 (w + 10) r = 1 := by rw [h3 (w + 10) r (by omega), fC3 (w + 10) r (by omega)]; exact h10
  have hw44 : C4 w 4 = r + 1 := by rw [h3 w 4 (by omega), fC3 w 4 (by omega)]; exact hw4
  obtain ⟨C5, b1, ⟨b2', b3, b4⟩, b5⟩ := f_addToList (q := q2) (v := 0) (a := 1) w2 (r := r) (C := C4) hw44 rr.1 rr.2 a10 (by omega) (by omega)
  rw [b1] at h1
  simp only [Option.bind_some] at h1
  have fn34 : fnC C3 C4 := fun c j hc => h3 c j (by omega)
  have u45 : ruC w r C4 C5 := ru_add b5
  have iR34 : inR s r R3 R4 := fun c j hc => h6' c j (fun z => hc (by
    rcases z with z | z
    · exact Or.inl ⟨z.1, Or.inl (by omega)⟩
    · exact Or.inr (Or.inl ⟨by omega, by omega, z.2⟩)))
  have iC : inC w r C C5 := fC3.inC.tr (fn34.inC.tr u45.inC)
  have iR : inR s r R R4 := fR3.inR.tr iR34
  have m5 : C5 51 8 = C4 51 8 := u45.lo hw53 rr.1 (by omega)
  have mono : ¬ C 51 8 = 0 → ¬ C5 51 8 = 0 := fun z => by rw [m5]; exact mono4 (mono3 z)
  have hS5 : gST n m w s C5 R4 := hS.fx (iC.fx rr.1 rr.2) (iR.fx rr.1 rr.2)
  have hQ5 : gQ n m (t + 1) C5 R4 := (hQ3.fr (fun c j hc => h3 c j (by clear s2 w2 q1r q2r; omega)) (fun c j hc => h6' c j (by clear s2 w2 q1r q2r; omega))).ru hw53 rr.1 u45 (ruR.rf s _ _)
  have hN5 : gN m (t + 1) C5 R4 := hN4.ru hw53 rr.1 u45 (ruR.rf s _ _)
  have hL5 : gLo w s (t + 1) k0 S P r C5 R4 := hL.inn w2 iC iR mono (by omega)
  have v0 : C5 (w + 12 + r) 0 = q1 := by rw [b5 _ _ (by omega), h3 _ _ (by omega), fC3 _ _ (by omega)]; exact h12
  have v5 : C5 (w + 5) r = 5 := by rw [b5 _ _ (by omega), h3 _ _ (by omega), fC3 _ _ (by omega)]; exact h5
  have v456 : R4 456 (30 * s + r) = q1 := by rw [h6' _ _ (by omega)]; exact r456
  have v455 : R4 455 (30 * s + r) = 1 := by rw [h6' _ _ (by omega), fR3 _ _ (by omega)]; exact h455
  have hkk : C5 w 0 = k0 := hL5.1.1.1
  have hrule : C5 51 8 = 0 → RRule (mx C5 R4) w s r := fun z => by
    have z4 : C4 51 8 = 0 := by rw [← m5]; exact z
    have z3 : C3 51 8 = 0 := Classical.byContradiction (fun y => mono4 y z4)
    have z2 : C 51 8 = 0 := Classical.byContradiction (fun y => mono3 y z3)
    have n1 : ¬ q1 = -1 := fun y => n1 y z2
    have n2 : ¬ q2 = -1 := fun y => g4 y z3
    refine Or.inr (Or.inl ⟨?_, ?_, ?_⟩)
    · rw [mx_r (by omega)]; exact v455
    · rw [mx_c (by omega)]; exact v5
    · unfold RBar
      rw [mx_c (c := w + 10) (by omega), mx_c (c := w + 12 + r) (by omega), mx_c (c := w + 12 + r) (by omega), mx_c (c := w) (by omega), mx_r (c := 456) (by omega), mx_r (c := 457) (by omega), v456, h6, b4, v0, b2', hkk]
      exact ⟨by omega, ⟨rfl, q1r.2.2 n1⟩, rfl, q2r.2.2 n2⟩
  rcases end_pair hS5 hQ5 hN5 hL5 hrule with ⟨C6, R6, d1, d2, d3, d4, d5⟩ | ⟨C6, R6, d1, d2, d3, d4, d5⟩
  · rw [d1] at h1
    rw [d2] at h2
    simp only [Option.bind_some] at h1
    rw [if_pos (by simp)] at h1
    exact Or.inl ⟨C6, R6, _, h1, h2, by omega, d3, (iC.fx rr.1 rr.2).tr d4, (iR.fx rr.1 rr.2).tr d5⟩
  · rw [d1] at h1
    rw [d2] at h2
    simp only [Option.bind_some] at h1
    rw [if_pos (by simp)] at h1
    exact Or.inr ⟨C6, R6, h1, h2, d3, (iC.fx rr.1 rr.2).tr d4, (iR.fx rr.1 rr.2).tr d5⟩
theorem bars_pair (hS : gST n m w s C R) (hQ : gQ n m t C R) (hN : gN m t C R) (hL : gLL w s t k0 S P r0 C R) (h4 : C 51 4 = 5) : TRo n m w s t C R f_Reader_takeBars f_Model_tell := by
  obtain ⟨-, ⟨-, w2⟩, -, s2⟩ := id hS
  have e1 := q_Reader_takeBars C
  simp only [em_cd] at e1
  rcases head_pair hS hQ hN hL (Or.inr (Or.inl rfl)) h4 with ⟨C1, r30, d1, ⟨-, d2, -, -⟩, ⟨hQ1, hN1, hL1⟩, ⟨u1, u2⟩, fC1, fR1⟩ | ⟨C', R', d1, d2, d3, d4, d5⟩
  case inr =>
    rw [d1] at e1
    simp only [Option.bind_some] at e1
    rw [if_pos trivial] at e1
    exact Or.inr ⟨C', R', e1, d2, d3, d4, d5⟩
  have e2 := d2 rfl
  rw [d1] at e1
  simp only [Option.bind_some] at e1
  rw [if_neg (by omega)] at e1
  clear d1 d2
  have h455 : (xup (xup R 439 11 (t + 1)) 455 (30 * s + r0) (soR 5)) 455 (30 * s + r0) = 1 := by rw [xup_eq]; rfl
  generalize xup (xup R 439 11 (t + 1)) 455 (30 * s + r0) (soR 5) = X at e2 hQ1 hN1 hL1 fR1 h455
  have hS1 : gST n m w s C1 X := hS.fx fC1 fR1
  have rr := hL1.2.2.1.2.2
  rw [q_Model_tellBars] at e2
  simp only [em_cd] at e2
  rcases first_pair hS1 hQ1 hN1 hL1 u2 with ⟨q, Ct, C2, R2, d1, d2, ⟨d3, d4, d5⟩, d6, ⟨hQ2, hN2, hL2⟩, q1r, f4, ⟨iC, iR⟩, ⟨v1, v2, v3⟩, v4⟩ | ⟨C2, R2, d1, d2, d3, d4, d5⟩
  case inr =>
    rw [d1] at e1
    rw [d2] at e2
    simp only [Option.bind_some] at e1 e2
    rw [if_neg (fun z => z trivial)] at e1
    rw [if_pos (by omega), m_namedf (by rw [xup_ne (by omega)]; exact d3.pos)] at e2
    simp only [Option.bind_some] at e2
    have := d3.pos
    rw [if_pos (by omega), if_pos (by rw [xup_ne (by omega), xup_ne (by omega)]; omega)] at e2
    simp only [Option.bind_some] at e2
    rw [m_168f (by rw [xup_ne (by omega), xup_ne (by omega)]; exact d3.pos)] at e2
    have ua : ruR s r0 R2 (xup R2 456 (30 * s + r0) (-1)) := ru_at (by omega) (by omega)
    have ub : ruR s r0 (xup R2 456 (30 * s + r0) (-1)) (xup (xup R2 456 (30 * s + r0) (-1)) 457 (30 * s + r0) (-1)) := ru_at (by omega) (by omega)
    exact Or.inr ⟨C2, _, e1, e2, d3.fr (fun _ _ _ => rfl) ⟨(ub.lo (by omega)).trans (ua.lo (by omega)), (ub.lo (by omega)).trans (ua.lo (by omega))⟩, fC1.tr d4.wd, fR1.tr (d5.wd.tr ((ua.inR.tr ub.inR).fx rr.1 rr.2))⟩
  rw [d1] at e1
  rw [d6] at e2
  simp only [Option.bind_some] at e1 e2
  rw [if_pos (by omega), d3, d4, d5] at e1
  simp only [isO_law w2, Bool.and_self, cond_true, d2, Option.bind_some] at e1
  have w2' : C2 51 2 = w := (hS1.fx (iC.fx rr.1 rr.2) (iR.fx rr.1 rr.2)).2.1.1
  have hS2 := hS1.fx (iC.fx rr.1 rr.2) (iR.fx rr.1 rr.2)
  rw [if_pos (by omega), hQ2.2.1.2] at e2
  have h455' : xup R2 456 (30 * s + r0) q 455 (30 * s + r0) = 1 := by rw [xup_ne (by omega), v4]; exact h455
  have h456' : xup R2 456 (30 * s + r0) q 456 (30 * s + r0) = q := xup_eq _ _ _ _
  generalize xup R2 456 (30 * s + r0) q = Y at e2 hQ2 hN2 hL2 hS2 iR h455' h456'
  have fxA := fC1.tr (iC.fx rr.1 rr.2)
  have fxB := fR1.tr (iR.fx rr.1 rr.2)
  have hT : f_Reader_takeBars C = (f_Reader_takeTold C2).bind fun r3 => if ¬ r3.1 = 0 then (if ¬ r3.2 51 10 = q then (f_Law_addToList (r3.2 51 2) (r3.2 51 10) 0 r3.2).bind fun r4 => (f_Reader_take 59 r4.2).bind fun r5 => if r5.1 = 0 ∨ r5.1 = 1 then some (r5.1, r5.2) else none else (f_Reader_note 5 (t + 1 + 1) r3.2).bind fun r4 => (f_Law_addToList w (r4.2 51 10) 0 r4.2).bind fun r5 => (f_Reader_take 59 r5.2).bind fun r6 => if r6.1 = 0 ∨ r6.1 = 1 then some (r6.1, r6.2) else none) else some (0, r3.2) := by
    rw [e1]
    rcases told_pair hS2 hQ2 hN2 hL2.1 with ⟨q2, C3, R3, x1, -, ⟨-, x2, -⟩, -, -, -, ⟨x3, -⟩, -⟩ | ⟨C3, R3, x1, -, -, -, -⟩
    · rw [x1]
      simp only [Option.bind_some]
      have y2 : C3 51 2 = w := by rw [x3 51 2 (by omega)]; exact w2'
      rw [if_pos (show ¬ (1 : Int) = 0 by omega), if_pos (show ¬ (1 : Int) = 0 by omega)]
      by_cases c : C3 51 10 = q
      · rw [if_neg (show ¬ ¬ C3 51 10 = q from fun z => z c), if_neg (show ¬ ¬ C3 51 10 = q from fun z => z c)]
        have : ∃ C4, f_Reader_note 5 (t + 1 + 1) C3 = some (0, C4) ∧ C4 51 2 = w := by
          rw [q_Reader_note, em_cd]
          by_cases c8 : C3 51 8 = 0
          · rw [if_neg (fun z => z c8)]
            exact ⟨_, rfl, by rw [xup_ne (by omega), xup_ne (by omega)]; exact y2⟩
          · rw [if_pos c8]
            exact ⟨_, rfl, y2⟩
        obtain ⟨C4, n1, n2⟩ := this
        rw [n1]
        simp only [Option.bind_some, n2, isO_law w2, Bool.and_self, cond_true]
      · rw [if_pos (show ¬ C3 51 10 = q from c), if_pos (show ¬ C3 51 10 = q from c), y2]
        simp only [isO_law w2, Bool.and_self, cond_true]
    · rw [x1]
      simp only [Option.bind_some]
      simp only [not_true_eq_false, if_false]
  have hU : f_Model_tell R = ((f_Model_namedKin Y).bind fun r1 => if ¬ r1.2 439 12 = 0 then some ((0 : Int), xup r1.2 457 (30 * s + r0) r1.1) else if r1.1 = -1 then some (0, xup r1.2 457 (30 * s + r0) r1.1) else if ¬ r1.1 = r1.2 456 (30 * s + r0) then some (0, xup r1.2 457 (30 * s + r0) r1.1) else (f_Model_wrong 5 (t + 1 + 1) (xup r1.2 457 (30 * s + r0) r1.1)).bind fun r2 => some (0, r2.2)).bind fun r => f_Model_tell_168 r.2 := by
    rw [e2]
    congr 2
    funext x
    exact bars_tail (by omega) (by omega)
  rcases bars_second hS2 hQ2 hN2 hL2 v1 v2 (v3.trans u1) h456' h455' q1r f4 _ _ hT hU with ⟨C', R', t', y1, y2, y3, y4, y5, y6⟩ | ⟨C', R', y1, y2, y3, y4, y5⟩
  · exact Or.inl ⟨C', R', t', k0, S, P, r0 + 1, y1, y2, by omega, y4, fxA.tr y5, fxB.tr y6⟩
  · exact Or.inr ⟨C', R', y1, y2, y3, fxA.tr y4, fxB.tr y5⟩
end
