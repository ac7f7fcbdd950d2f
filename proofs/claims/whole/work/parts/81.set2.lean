/-! THE ARM settle: the loop of both. -/
section
variable {M N : em_M}
/-- the class's loop alone -/
noncomputable def cLoop (t D L : Int) : Nat → Int → em_M → Option (Int × em_M)
  | 0, _, C => some (1, C)
  | k + 1, p, C => if tb D p = true then (f_Settlement_workOut (C 0 11) p t L (174 + 6 * p) C).bind (fun r => if r.1 = 0 then some (0, r.2) else cLoop t D L k (p + 1) r.2) else cLoop t D L k (p + 1) C
/-- the reference's row of an estate -/
def rowOf (e c j : Int) : Prop := (507 ≤ c ∧ c ≤ 510 ∧ j = e) ∨ (c = 511 ∧ 10 * e ≤ j ∧ j < 10 * e + 10) ∨ (c = 512 ∧ 180 * e ≤ j ∧ j < 180 * e + 180) ∨ (513 ≤ c ∧ c ≤ 514 ∧ 30 * e ≤ j ∧ j < 30 * e + 30)
theorem REn.fr2 {N' M' : em_M} {E e : Int} (h : REn M N E e) (e1 : ∀ c j, E ≤ c → c ≤ E + 5 → M' c j = M c j) (e2' : ∀ c j, rowOf e c j → N' c j = N c j) : REn M' N' E e := by
  obtain ⟨⟨a1, a2⟩, a3, ⟨a4, a5⟩, a6, ⟨b1, b2', b3, b4, b5⟩, c⟩ := h
  have e2 := e2'
  unfold rowOf at e2
  have g : ∀ j, M' E j = M E j := fun j => e1 _ _ (by omega) (by omega)
  refine ⟨⟨by rw [g, e2 508 _ (by omega)]; exact a1, by rw [g]; exact a2⟩, by rw [g, e2 507 _ (by omega)]; exact a3, ⟨by rw [g, e2 509 _ (by omega)]; exact a4, by rw [g]; exact a5⟩, by rw [g, e2 510 _ (by omega)]; exact a6, ⟨?_, ?_, ?_, ?_, ?_⟩, fun q q0 q1 => ?_⟩
  · rw [g, e2 511 (10 * e) (by omega), e2 511 (10 * e + 1) (by omega)]; exact b1
  · rw [g, e2 511 (10 * e + 2) (by omega), e2 511 (10 * e + 3) (by omega)]; exact b2'
  · rw [g, e2 511 (10 * e + 4) (by omega), e2 511 (10 * e + 5) (by omega)]; exact b3
  · rw [g, e2 511 (10 * e + 6) (by omega), e2 511 (10 * e + 7) (by omega)]; exact b4
  · rw [g, e2 511 (10 * e + 8) (by omega), e2 511 (10 * e + 9) (by omega)]; exact b5
  · rw [g] at q1
    have q2 : q < 30 := by omega
    rw [e1 (E + 1) q (by omega) (by omega), e1 (E + 2) q (by omega) (by omega), e1 (E + 3) q (by omega) (by omega), e1 (E + 4) q (by omega) (by omega), e1 (E + 5) q (by omega) (by omega), e2 512 (180 * e + 6 * q) (by omega), e2 512 (180 * e + 6 * q + 1) (by omega), e2 512 (180 * e + 6 * q + 2) (by omega), e2 512 (180 * e + 6 * q + 3) (by omega), e2 512 (180 * e + 6 * q + 4) (by omega), e2 512 (180 * e + 6 * q + 5) (by omega), e2 513 (30 * e + q) (by omega), e2 514 (30 * e + q) (by omega)]
    exact c q q0 q1
theorem sRel_n {N' : em_M} {t L : Int} (h : sRel M N t L) (e : ∀ c j, sStat c j ∨ c = 472 → N' c j = N c j) : sRel M N' t L := by
  obtain ⟨h1, h2, h3, h4⟩ := h
  refine ⟨h1, fun c j hc => (e c j (Or.inl hc)).trans (h2 c j hc), h3.cong (fun x _ _ => ?_), h4⟩
  unfold lvs
  rw [e 471 x (Or.inl (by unfold sStat; omega)), e 472 x (Or.inr rfl)]
theorem uR_n {N' : em_M} (h : uR M N) (e : ∀ c j, c = 474 ∨ c = 475 ∨ c = 487 ∨ c = 488 → N' c j = N c j) : uR M N' := by
  obtain ⟨h1, h2, h3⟩ := h
  refine ⟨fun x x0 x1 => ?_, ?_, ?_⟩
  · rw [e 474 x (by omega), e 475 x (by omega)]; exact h1 x x0 x1
  · rw [e 487 0 (by omega), e 488 0 (by omega)]; exact h2
  · rw [e 487 1 (by omega), e 488 1 (by omega)]; exact h3
/-- what the loop may change of the class's cells -/
def clF (D p n : Int) (C C' : em_M) : Prop := (∀ c j, ¬ ((126 ≤ c ∧ c ≤ 135) ∨ (174 ≤ c ∧ c ≤ 353)) → C' c j = C c j) ∧ ∀ x, 0 ≤ x → x < 30 → (x < p ∨ n ≤ x ∨ ¬ tb D x = true) → ∀ c j, 174 + 6 * x ≤ c → c ≤ 174 + 6 * x + 5 → C' c j = C c j
/-- what of the reference's -/
def rfF (D p n : Int) (R R' : em_M) : Prop := (∀ c j, ¬ ((c = 439 ∧ ((44 ≤ j ∧ j ≤ 46) ∨ (74 ≤ j ∧ j ≤ 101))) ∨ c = 474 ∨ c = 475 ∨ (487 ≤ c ∧ c ≤ 505) ∨ (507 ≤ c ∧ c ≤ 514)) → R' c j = R c j) ∧ ∀ x, 0 ≤ x → x < 32 → (x < p ∨ n ≤ x ∨ ¬ tb D x = true) → ∀ c j, rowOf x c j → R' c j = R c j
theorem clF.rf (D p n : Int) (C : em_M) : clF D p n C C := ⟨fun _ _ _ => rfl, fun _ _ _ _ _ _ _ _ => rfl⟩
theorem rfF.rf (D p n : Int) (R : em_M) : rfF D p n R R := ⟨fun _ _ _ => rfl, fun _ _ _ _ _ _ _ => rfl⟩
theorem clF.less {D p n : Int} {C C' : em_M} (h : clF D (p + 1) n C C') : clF D p n C C' := ⟨h.1, fun x x0 x1 hx => h.2 x x0 x1 (hx.imp (fun z => (by omega : x < p + 1)) id)⟩
theorem rfF.less {D p n : Int} {C C' : em_M} (h : rfF D (p + 1) n C C') : rfF D p n C C' := ⟨h.1, fun x x0 x1 hx => h.2 x x0 x1 (hx.imp (fun z => (by omega : x < p + 1)) id)⟩
theorem clF.step {D p n : Int} {C C1 C' : em_M} (p0 : 0 ≤ p) (p1 : p < 30) (hD : tb D p = true) (h : fCw (174 + 6 * p) C C1) (k : clF D (p + 1) n C1 C') (hpn : p < n) : clF D p n C C' := by
  refine ⟨fun c j hc => (k.1 c j hc).trans (h c j (by omega)), fun x x0 x1 hx c j c0 c1 => ?_⟩
  have hxp : ¬ x = p := fun z => by
    subst z
    rcases hx with z | z | z
    · omega
    · omega
    · exact z hD
  rw [k.2 x x0 x1 (hx.imp (fun z => (by omega : x < p + 1)) id) c j c0 c1, h c j (by omega)]
theorem rfF.step {D p n : Int} {R R1 R2 R' : em_M} (p0 : 0 ≤ p) (p1 : p < 30) (hD : tb D p = true) (h1 : fM R R1) (h2 : kF p R1 R2) (k : rfF D (p + 1) n R2 R') (hpn : p < n) : rfF D p n R R' := by
  unfold fM at h1
  unfold kF at h2
  refine ⟨fun c j hc => ?_, fun x x0 x1 hx c j hr => ?_⟩
  · rw [k.1 c j hc, h2 c j (by omega), h1 c j (by omega)]
  · have hxp : ¬ x = p := fun z => by
      subst z
      rcases hx with z | z | z
      · omega
      · omega
      · exact z hD
    rw [k.2 x x0 x1 (hx.imp (fun z => (by omega : x < p + 1)) id) c j hr]
    unfold rowOf at hr
    rw [h2 c j (by omega), h1 c j (by omega)]
theorem rfF.one {D p n : Int} {R R1 : em_M} (h1 : fM R R1) : rfF D p n R R1 := by
  unfold fM at h1
  refine ⟨fun c j hc => h1 c j (by omega), fun x x0 x1 hx c j hr => ?_⟩
  unfold rowOf at hr
  exact h1 c j (by omega)
theorem settle_pair {t D L n : Int} (hn : n ≤ 30) : ∀ (k : Nat) (p m : Int) (C R : em_M), C 6 0 = n → 0 ≤ p → p + k = n → sRel C R t L → uR C R → R 439 75 = t → R 439 44 = 0 → (∀ x, 0 ≤ x → x < n → R 473 x = b2 (tb D x = true) ∧ (tb D x = true → ¬ lvs R t x)) → m = sumI (fun x => b2 (tb D x = true)) p.toNat →
    (∃ C' R', cLoop t D L k p C = some (1, C') ∧ f_EstateOffice_settle_79 t D L p C = f_EstateOffice_settle_150 t D C' ∧ f_Model_settle_147 t m p R = f_Model_settle_265 t (sumI (fun x => b2 (tb D x = true)) n.toNat) 0 R' ∧ uR C' R' ∧ (∀ x, p ≤ x → x < n → tb D x = true → REn C' R' (174 + 6 * x) x) ∧ clF D p n C C' ∧ rfF D p n R R') ∨ (∃ C' R', cLoop t D L k p C = some (0, C') ∧ f_EstateOffice_settle_79 t D L p C = some (-2, C') ∧ f_Model_settle_147 t m p R = f_Model_settle_214 0 R' ∧ clF D p n C C' ∧ rfF D p n R R')
  | 0, p, m, C, R, h6, p0, hp, hS, hu, h75, hz, hD, hm => by
    have hpn : p = n := by omega
    subst hpn
    have f47 : R 439 47 = p := by rw [hS.2.1 _ _ (by unfold sStat; omega), hS.1.1.1]; exact h6
    have e1 := q_EstateOffice_settle_79 t D L p C
    have e2 := q_Model_settle_147 t m p R
    simp only [em_cd, h6, f47, if_pos (Int.le_refl p), hz] at e1 e2
    rw [hm] at e2
    exact Or.inl ⟨C, R, rfl, e1, by rw [hm]; exact e2, hu, fun x x0 x1 => by omega, clF.rf _ _ _ _, rfF.rf _ _ _ _⟩
  | k + 1, p, m, C, R, h6, p0, hp, hS, hu, h75, hz, hD, hm => by
    have f47 : R 439 47 = n := by rw [hS.2.1 _ _ (by unfold sStat; omega), hS.1.1.1]; exact h6
    have e1 := q_EstateOffice_settle_79 t D L p C
    have e2 := q_Model_settle_147 t m p R
    obtain ⟨d1, d2⟩ := hD p p0 (by omega)
    have hmr := sumI_rng (g := fun x => b2 (tb D x = true)) (fun x => b2_rng _) p.toNat
    rw [← hm] at hmr
    have hm1 : m + 1 ≤ 31 ∧ 0 ≤ m := by omega
    simp only [em_cd, h6, f47, if_neg (show ¬ n ≤ p by omega), if_neg (show ¬ 30 ≤ p by omega), hz, if_pos (show 0 ≤ p ∧ p < 30 from ⟨p0, by omega⟩), f_holds, Option.bind_some, b2_z, x32_s (show -1000000 ≤ p + 1 by omega) (show p + 1 ≤ 1000000 by omega), x32_s (show -1000000 ≤ m + 1 by omega) (show m + 1 ≤ 1000000 by omega)] at e1 e2
    rw [if_neg (fun z => z trivial)] at e2
    by_cases c : tb D p = true
    · rw [if_neg (fun z => z ⟨p0, by omega, c⟩), show 173 + 1 + p * 6 = 174 + 6 * p by omega] at e1
      rw [d1, b2_t c, if_pos (by omega)] at e2
      have hE : isE (174 + 6 * p) := ⟨p, p0, by omega, rfl⟩
      have cl : cLoop t D L (k + 1) p C = (f_Settlement_workOut (C 0 11) p t L (174 + 6 * p) C).bind (fun r => if r.1 = 0 then some (0, r.2) else cLoop t D L k (p + 1) r.2) := if_pos c
      rcases work_both hE hS hu p0 (by omega) (d2 c) h75 hz with ⟨C1, R1, w1, w2, w3, w4, w5, w6, w7⟩ | ⟨C1, R1, w1, w2, w3, w6, w7⟩
      · rw [w1] at e1 cl
        rw [w2] at e2
        simp only [Option.bind_some] at e1 e2 cl
        rw [if_pos (by omega)] at e1
        rw [if_neg (by omega)] at cl
        rw [if_neg (fun z => z w3)] at e2
        have S1 := hS.frw hE w6 w7
        have h61 : C1 6 0 = n := by rw [w6 6 0 (by omega)]; exact h6
        obtain ⟨⟨g1, g2, g3, g4, g5, g6⟩, g7, g8, g9⟩ := id S1
        have s17 : R1 439 17 = C1 439 17 := g7 _ _ (by unfold sStat; omega)
        obtain ⟨r1, r2, r3, ⟨r4, r5, r6⟩, -⟩ := id g5
        have n0 := g1.2.1
        obtain ⟨R2, k1, k2, k3⟩ := keeps_both (e := p) w5 p0 (by omega) p0 (by omega) n0 (by omega) (by rw [g7 439 47 (by unfold sStat; omega)]; exact g1.1) r3 s17 (by rw [g7 447 _ (by unfold sStat; omega)]; exact r4) r6
        rw [k1] at e2
        simp only [Option.bind_some] at e2
        have k3' := k3
        unfold kF at k3'
        have w7' := w7
        unfold fM at w7'
        have S2 : sRel C1 R2 t L := sRel_n S1 (fun c j hc => k3' c j (by unfold sStat at hc; omega))
        have U2 : uR C1 R2 := uR_n w4 (fun c j hc => k3' c j (by omega))
        have D2 : ∀ x, 0 ≤ x → x < n → R2 473 x = b2 (tb D x = true) ∧ (tb D x = true → ¬ lvs R2 t x) := fun x x0 x1 => by
          obtain ⟨i1, i2⟩ := hD x x0 x1
          unfold lvs at i2 ⊢
          rw [k3' 473 x (by omega), k3' 471 x (by omega), k3' 472 x (by omega), w7' 473 x (by omega), w7' 471 x (by omega), w7' 472 x (by omega)]
          exact ⟨i1, i2⟩
        have m2 : m + 1 = sumI (fun x => b2 (tb D x = true)) (p + 1).toNat := by
          rw [show (p + 1).toNat = p.toNat + 1 by omega]
          show _ = sumI _ p.toNat + b2 (tb D ((p.toNat : Nat) : Int) = true)
          rw [show ((p.toNat : Nat) : Int) = p by omega, b2_t c, hm]
        rcases settle_pair hn k (p + 1) (m + 1) C1 R2 h61 (by omega) (by omega) S2 U2 (by rw [k3' _ _ (by omega)]; exact w5.2.1.2) (by rw [k3' _ _ (by omega)]; exact w3) D2 m2 with ⟨C', R', q1, q2, q3, q4, q5, q6, q7⟩ | ⟨C', R', q1, q2, q3, q6, q7⟩
        · refine Or.inl ⟨C', R', cl.trans q1, e1.trans q2, e2.trans q3, q4, fun x x0 x1 hx => ?_, clF.step p0 (by omega) c w6 q6 (by omega), rfF.step p0 (by omega) c w7 k3 q7 (by omega)⟩
          by_cases z : x = p
          · subst z
            exact k2.fr2 (fun c j c0 c1 => q6.2 x p0 (by omega) (Or.inl (by omega)) c j c0 c1) (fun c j hr => q7.2 x p0 (by omega) (Or.inl (by omega)) c j hr)
          · exact q5 x (by omega) x1 hx
        · exact Or.inr ⟨C', R', cl.trans q1, e1.trans q2, e2.trans q3, clF.step p0 (by omega) c w6 q6 (by omega), rfF.step p0 (by omega) c w7 k3 q7 (by omega)⟩
      · rw [w1] at e1 cl
        rw [w2] at e2
        simp only [Option.bind_some] at e1 e2 cl
        rw [if_neg (fun z => z trivial)] at e1
        rw [if_pos trivial] at cl
        rw [if_pos (by omega)] at e2
        have e3 := q_Model_settle_147 t (m + 1) (p + 1) R1
        simp only [em_cd, w3, if_neg (show ¬ (1 : Int) = 0 by omega), if_pos (show ¬ (1 : Int) = 0 by omega), ite_self] at e3
        exact Or.inr ⟨C1, R1, cl, e1, e2.trans e3, clF.step p0 (by omega) c w6 (clF.rf _ _ _ _) (by omega), rfF.one w7⟩
    · rw [if_pos (fun z => c z.2.2)] at e1
      rw [d1, b2_f c, if_neg (by omega)] at e2
      have cl : cLoop t D L (k + 1) p C = cLoop t D L k (p + 1) C := if_neg c
      have m2 : m = sumI (fun x => b2 (tb D x = true)) (p + 1).toNat := by
        rw [show (p + 1).toNat = p.toNat + 1 by omega]
        show _ = sumI _ p.toNat + b2 (tb D ((p.toNat : Nat) : Int) = true)
        rw [show ((p.toNat : Nat) : Int) = p by omega, b2_f c, hm]
        omega
      rcases settle_pair hn k (p + 1) m C R h6 (by omega) (by omega) hS hu h75 hz hD m2 with ⟨C', R', q1, q2, q3, q4, q5, q6, q7⟩ | ⟨C', R', q1, q2, q3, q6, q7⟩
      · refine Or.inl ⟨C', R', cl.trans q1, e1.trans q2, e2.trans q3, q4, fun x x0 x1 hx => q5 x ?_ x1 hx, q6.less, q7.less⟩
        have : ¬ x = p := fun z => by subst z; exact c hx
        omega
      · exact Or.inr ⟨C', R', cl.trans q1, e1.trans q2, e2.trans q3, q6.less, q7.less⟩
end
