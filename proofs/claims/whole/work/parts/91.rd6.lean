/-! read: the state of the two readers; one token further. -/
section
variable {C R M : em_M} {n m t w s : Int}
/-- what reading may change -/
def fxC (w : Int) (C C' : em_M) : Prop := ∀ c j, ¬ ((c = 51 ∧ 3 ≤ j ∧ j ≤ 11 ∧ ¬ j = 7) ∨ c = 52 ∨ (w ≤ c ∧ c ≤ w + 72)) → C' c j = C c j
def gRx (s c j : Int) : Prop := (c = 439 ∧ ((11 ≤ j ∧ j ≤ 15) ∨ j = 26 ∨ j = 27 ∨ j = 42 ∨ j = 43)) ∨ ((c = 447 ∨ c = 454 ∨ c = 466 ∨ c = 467) ∧ j = s) ∨ ((c = 448 ∨ c = 449) ∧ 20 * s ≤ j ∧ j < 20 * s + 20) ∨ (c = 450 ∧ 21 * s ≤ j ∧ j < 21 * s + 21) ∨ (c = 451 ∧ 701 * s ≤ j ∧ j < 701 * s + 701) ∨ ((c = 452 ∨ c = 453) ∧ 700 * s ≤ j ∧ j < 700 * s + 700) ∨ (455 ≤ c ∧ c ≤ 463 ∧ 30 * s ≤ j ∧ j < 30 * s + 30) ∨ ((c = 464 ∨ c = 465) ∧ 240 * s ≤ j ∧ j < 240 * s + 240)
def fxR (s : Int) (R R' : em_M) : Prop := ∀ c j, ¬ gRx s c j → R' c j = R c j
/-- the narrow ones: the readers' own fields alone -/
def fnC (C C' : em_M) : Prop := ∀ c j, ¬ (c = 51 ∧ 3 ≤ j ∧ j ≤ 11 ∧ ¬ j = 7) → C' c j = C c j
def fnR (R R' : em_M) : Prop := ∀ c j, ¬ (c = 439 ∧ ((11 ≤ j ∧ j ≤ 15) ∨ j = 42 ∨ j = 43)) → R' c j = R c j
theorem fxC.rf (w : Int) (C : em_M) : fxC w C C := fun _ _ _ => rfl
theorem fxR.rf (s : Int) (R : em_M) : fxR s R R := fun _ _ _ => rfl
theorem fnC.rf (C : em_M) : fnC C C := fun _ _ _ => rfl
theorem fnR.rf (R : em_M) : fnR R R := fun _ _ _ => rfl
theorem fxC.tr {A B D : em_M} (h : fxC w A B) (k : fxC w B D) : fxC w A D := fun c j hc => (k c j hc).trans (h c j hc)
theorem fxR.tr {A B D : em_M} (h : fxR s A B) (k : fxR s B D) : fxR s A D := fun c j hc => (k c j hc).trans (h c j hc)
theorem fnC.tr {A B D : em_M} (h : fnC A B) (k : fnC B D) : fnC A D := fun c j hc => (k c j hc).trans (h c j hc)
theorem fnR.tr {A B D : em_M} (h : fnR A B) (k : fnR B D) : fnR A D := fun c j hc => (k c j hc).trans (h c j hc)
theorem fnC.wd {A B : em_M} (h : fnC A B) : fxC w A B := fun c j hc => h c j (fun z => hc (Or.inl z))
theorem fnR.wd {A B : em_M} (h : fnR A B) : fxR s A B := fun c j hc => h c j (fun z => hc (Or.inl ⟨z.1, by omega⟩))
/-- the tokens and where the law is written -/
def gST (n m w s : Int) (C R : em_M) : Prop := (tkS n m C R ∧ C 1 1 = n) ∧ (C 51 2 = w ∧ (w = 53 ∨ w = 366)) ∧ (R 439 18 = s ∧ (s = 0 ∨ s = 1))
theorem gST.fx {C' R' : em_M} (h : gST n m w s C R) (c : fxC w C C') (r : fxR s R R') : gST n m w s C' R' := by
  obtain ⟨⟨⟨a1, a2, a3, a4, a5⟩, a6⟩, ⟨b1, b2'⟩, b3, b4⟩ := h
  have hr : ∀ c j, 442 ≤ c → c ≤ 445 → R' c j = R c j := fun c j c0 c1 => r c j (by unfold gRx; omega)
  refine ⟨⟨⟨?_, a2, fun i i0 i1 => ?_, fun i j i0 ij jm => ?_, fun hm h17 => ?_⟩, ?_⟩, ⟨?_, b2'⟩, ?_, b4⟩
  · rw [c 1 2 (by omega)]; exact a1
  · obtain ⟨x1, x2, x3⟩ := a3 i i0 i1
    unfold tkOk at x1 ⊢
    rw [c 3 i (by omega), c 4 i (by omega), c 5 i (by omega), hr 442 i (by omega) (by omega), hr 443 i (by omega) (by omega), hr 444 i (by omega) (by omega), hr 445 i (by omega) (by omega)]
    exact ⟨x1, x2, x3⟩
  · rw [c 4 i (by omega), c 4 j (by omega)]; exact a4 i j i0 ij jm
  · rw [hr 442 m (by omega) (by omega), hr 443 m (by omega) (by omega)]
    exact a5 hm (fun i i0 i1 z => h17 i i0 i1 (by rw [c 3 i (by omega)]; exact z))
  · rw [c 1 1 (by omega)]; exact a6
  · rw [c 51 2 (by omega)]; exact b1
  · rw [r 439 18 (by unfold gRx; omega)]; exact b3
/-- both stand ahead of the token t -/
def gQ (n m t : Int) (C R : em_M) : Prop := (0 ≤ t ∧ t ≤ m ∧ t ≤ 600) ∧ (C 51 3 = t ∧ R 439 11 = t) ∧ (C 51 6 = 0 ∧ R 439 12 = 0) ∧ (t < m → C 51 4 = C 3 t ∧ C 51 5 = C 5 t) ∧ (t = m → C 51 4 = 16 ∧ C 51 5 = 0 ∧ R 442 t = 0 ∧ R 443 t = n) ∧ ∀ i, 0 ≤ i → i < t → ¬ C 3 i = 17
/-- both have failed, by the same fault at the same place -/
def gBd (n m : Int) (C R : em_M) : Prop := (C 51 6 = R 439 12 ∧ 1 ≤ R 439 12) ∧ (0 ≤ C 51 3 ∧ C 51 3 ≤ m ∧ C 51 3 ≤ 600) ∧ (C 51 3 < m → R 439 13 = C 4 (C 51 3)) ∧ (C 51 3 = m → R 439 13 = n)
theorem gQ.fr {C' R' : em_M} (h : gQ n m t C R) (e1 : ∀ c j, (c = 51 ∧ 3 ≤ j ∧ j ≤ 6) ∨ c = 3 ∨ c = 5 → C' c j = C c j) (e2 : ∀ c j, (c = 439 ∧ (j = 11 ∨ j = 12)) ∨ c = 442 ∨ c = 443 → R' c j = R c j) : gQ n m t C' R' := by
  obtain ⟨h1, h2, h3, h4, h5, h6⟩ := h
  refine ⟨h1, ⟨by rw [e1 51 3 (by omega)]; exact h2.1, by rw [e2 439 11 (by omega)]; exact h2.2⟩, ⟨by rw [e1 51 6 (by omega)]; exact h3.1, by rw [e2 439 12 (by omega)]; exact h3.2⟩, fun z => ?_, fun z => ?_, fun i i0 i1 => by rw [e1 3 i (by omega)]; exact h6 i i0 i1⟩
  · rw [e1 51 4 (by omega), e1 51 5 (by omega), e1 3 t (by omega), e1 5 t (by omega)]; exact h4 z
  · rw [e1 51 4 (by omega), e1 51 5 (by omega), e2 442 t (by omega), e2 443 t (by omega)]; exact h5 z
theorem gk (hS : gST n m w s C R) (hQ : gQ n m t C R) : (tkR (C 51 4) (C 51 5) (R 442 t) (R 444 t) (R 445 t) ∨ (C 51 4 = 16 ∧ R 442 t = 0)) ∧ 0 ≤ C 51 5 ∧ C 51 5 < 4808584372417849 := by
  obtain ⟨⟨q1, q2, q3⟩, -, -, q4, q5, -⟩ := hQ
  by_cases c : t < m
  · obtain ⟨x1, -⟩ := hS.1.1.2.2.1 t q1 c
    rw [(q4 c).1, (q4 c).2]
    exact ⟨Or.inl x1.1.1, x1.1.2⟩
  · obtain ⟨y1, y2, y3, -⟩ := q5 (by omega)
    exact ⟨Or.inr ⟨y1, y3⟩, by omega, by omega⟩
theorem mp_inj {x y : Int} (x0 : 0 ≤ x) (x1 : x < 14) (y0 : 0 ≤ y) (y1 : y < 14) (h : mpW x = mpW y) : x = y := by
  have k : (List.range 14).all (fun x => (List.range 14).all (fun y => decide (mpW (x : Int) = mpW (y : Int) → x = y))) = true := by decide +kernel
  have := List.all_eq_true.mp (List.all_eq_true.mp k x.toNat (List.mem_range.mpr (by omega))) y.toNat (List.mem_range.mpr (by omega))
  rw [decide_eq_true_eq, show ((x.toNat : Nat) : Int) = x by omega, show ((y.toNat : Nat) : Int) = y by omega] at this
  have := this h
  omega
theorem kd_word {d : Int} (hS : gST n m w s C R) (hQ : gQ n m t C R) (d0 : 0 ≤ d) (d1 : d < 14) : C 51 4 = d ↔ R 442 t = 20 + mpW d := by
  obtain ⟨m0, m1⟩ := mp_rng d0 d1
  rcases (gk hS hQ).1 with (⟨a1, a2, a3⟩ | ⟨a1, -, ⟨a2, -⟩ | ⟨a2, -⟩ | ⟨a2, -⟩⟩ | ⟨a1, a2, -⟩ | ⟨a1, a2⟩ | ⟨a1, a2⟩ | ⟨a1, a2⟩ | ⟨a1, a2⟩ | ⟨a1, a2⟩ | ⟨a1, a2⟩ | ⟨a1, a2⟩) | ⟨a1, a2⟩
  · exact ⟨fun z => by rw [a3, z], fun z => mp_inj a1 (by omega) d0 d1 (by omega)⟩
  all_goals (constructor <;> intro z <;> omega)
theorem kd_name (hS : gST n m w s C R) (hQ : gQ n m t C R) : C 51 4 = 14 ↔ (R 442 t = 1 ∨ R 442 t = 34 ∨ R 442 t = 35) := by
  rcases (gk hS hQ).1 with (⟨a1, a2, a3⟩ | ⟨a1, -, ⟨a2, -⟩ | ⟨a2, -⟩ | ⟨a2, -⟩⟩ | ⟨a1, a2, -⟩ | ⟨a1, a2⟩ | ⟨a1, a2⟩ | ⟨a1, a2⟩ | ⟨a1, a2⟩ | ⟨a1, a2⟩ | ⟨a1, a2⟩ | ⟨a1, a2⟩) | ⟨a1, a2⟩
  · have := mp_rng a1 (by omega)
    constructor <;> intro z <;> omega
  all_goals (constructor <;> intro z <;> omega)
theorem kd_nm (hS : gST n m w s C R) (hQ : gQ n m t C R) (h : C 51 4 = 14) : C 51 5 = R 445 t ∧ (R 442 t = 34 ↔ C 51 5 = 13) ∧ (R 442 t = 35 ↔ C 51 5 = 6) := by
  rcases (gk hS hQ).1 with (⟨a1, a2, a3⟩ | ⟨a1, a3, ⟨a2, a4⟩ | ⟨a2, a4⟩ | ⟨a2, a4, a5⟩⟩ | ⟨a1, a2, -⟩ | ⟨a1, a2⟩ | ⟨a1, a2⟩ | ⟨a1, a2⟩ | ⟨a1, a2⟩ | ⟨a1, a2⟩ | ⟨a1, a2⟩ | ⟨a1, a2⟩) | ⟨a1, a2⟩
  · omega
  · refine ⟨a3, ⟨fun z => by omega, fun z => by omega⟩, fun z => by omega, fun z => by omega⟩
  · refine ⟨a3, ⟨fun z => by omega, fun z => by omega⟩, fun z => by omega, fun z => by omega⟩
  · refine ⟨a3, ⟨fun z => by omega, fun z => by omega⟩, fun z => by omega, fun z => by omega⟩
  all_goals omega
theorem kd_int (hS : gST n m w s C R) (hQ : gQ n m t C R) : C 51 4 = 15 ↔ R 442 t = 2 := by
  rcases (gk hS hQ).1 with (⟨a1, a2, a3⟩ | ⟨a1, -, ⟨a2, -⟩ | ⟨a2, -⟩ | ⟨a2, -⟩⟩ | ⟨a1, a2, -⟩ | ⟨a1, a2⟩ | ⟨a1, a2⟩ | ⟨a1, a2⟩ | ⟨a1, a2⟩ | ⟨a1, a2⟩ | ⟨a1, a2⟩ | ⟨a1, a2⟩) | ⟨a1, a2⟩
  · have := mp_rng a1 (by omega)
    constructor <;> intro z <;> omega
  all_goals (constructor <;> intro z <;> omega)
theorem kd_iv (hS : gST n m w s C R) (hQ : gQ n m t C R) (h : C 51 4 = 15) : C 51 5 = R 444 t ∧ 0 ≤ C 51 5 ∧ C 51 5 ≤ 999 := by
  rcases (gk hS hQ).1 with (⟨a1, a2, a3⟩ | ⟨a1, a3, -⟩ | ⟨a1, a2, a3, a4⟩ | ⟨a1, a2⟩ | ⟨a1, a2⟩ | ⟨a1, a2⟩ | ⟨a1, a2⟩ | ⟨a1, a2⟩ | ⟨a1, a2⟩ | ⟨a1, a2⟩) | ⟨a1, a2⟩
  · omega
  · omega
  · exact ⟨a3, a4⟩
  all_goals omega
theorem kd_sign {d ρ : Int} (hS : gST n m w s C R) (hQ : gQ n m t C R) (h : (d = 61 ∧ ρ = 4) ∨ (d = 124 ∧ ρ = 5) ∨ (d = 46 ∧ ρ = 6) ∨ (d = 44 ∧ ρ = 7) ∨ (d = 59 ∧ ρ = 8) ∨ (d = 47 ∧ ρ = 9)) : C 51 4 = d ↔ R 442 t = ρ := by
  rcases (gk hS hQ).1 with (⟨a1, a2, a3⟩ | ⟨a1, -, ⟨a2, -⟩ | ⟨a2, -⟩ | ⟨a2, -⟩⟩ | ⟨a1, a2, -⟩ | ⟨a1, a2⟩ | ⟨a1, a2⟩ | ⟨a1, a2⟩ | ⟨a1, a2⟩ | ⟨a1, a2⟩ | ⟨a1, a2⟩ | ⟨a1, a2⟩) | ⟨a1, a2⟩
  · have := mp_rng a1 (by omega)
    rcases h with z | z | z | z | z | z <;> (constructor <;> intro y <;> omega)
  all_goals (rcases h with z | z | z | z | z | z <;> (constructor <;> intro y <;> omega))
theorem kd_end (hS : gST n m w s C R) (hQ : gQ n m t C R) : C 51 4 = 16 ↔ R 442 t = 0 := by
  rcases (gk hS hQ).1 with (⟨a1, a2, a3⟩ | ⟨a1, -, ⟨a2, -⟩ | ⟨a2, -⟩ | ⟨a2, -⟩⟩ | ⟨a1, a2, -⟩ | ⟨a1, a2⟩ | ⟨a1, a2⟩ | ⟨a1, a2⟩ | ⟨a1, a2⟩ | ⟨a1, a2⟩ | ⟨a1, a2⟩ | ⟨a1, a2⟩) | ⟨a1, a2⟩
  · have := mp_rng a1 (by omega)
    constructor <;> intro z <;> omega
  all_goals (constructor <;> intro z <;> omega)
/-! the class's steps -/
def goC (C : em_M) (t : Int) : em_M := xup (xup (xup C 51 3 (t + 1)) 51 4 (if t + 1 < C 1 2 then C 3 (t + 1) else 16)) 51 5 (if t + 1 < C 1 2 then C 5 (t + 1) else 0)
theorem goC_ne {c j : Int} (h : ¬ (c = 51 ∧ 3 ≤ j ∧ j ≤ 5)) : goC C t c j = C c j := by
  unfold goC
  rw [xup_ne (by omega), xup_ne (by omega), xup_ne (by omega)]
theorem goC_at : goC C t 51 3 = t + 1 ∧ goC C t 51 4 = (if t + 1 < C 1 2 then C 3 (t + 1) else 16) ∧ goC C t 51 5 = (if t + 1 < C 1 2 then C 5 (t + 1) else 0) := by
  unfold goC
  simp (disch := omega) only [xup_ne, xup_eq, and_self]
theorem f_goTo (t0 : 0 ≤ t) (t1 : t < 600) : f_Reader_goTo (t + 1) C = some (0, goC C t) := by
  have e := q_Reader_goTo (t + 1) C
  simp (disch := omega) only [em_cd, if_neg (show ¬ t + 1 < 0 by omega), if_neg (show ¬ 600 < t + 1 by omega), xup_ne, if_true] at e
  by_cases c : C 1 2 ≤ t + 1
  · rw [if_pos c] at e
    rw [e, q_Reader_goTo_52]
    unfold goC
    rw [if_neg (by omega), if_neg (by omega)]
    simp only [em_cd, if_true]
  · rw [if_neg c, if_neg (by omega), if_pos (by omega)] at e
    rw [e]
    simp (disch := omega) only [q_Reader_goTo_52, em_cd, xup_ne, if_pos (show 0 ≤ t + 1 ∧ t + 1 < 601 by omega), if_neg (show ¬ (1 : Int) = 0 by omega)]
    unfold goC
    rw [if_pos (show t + 1 < C 1 2 by omega), if_pos (show t + 1 < C 1 2 by omega)]
theorem c_take1 {d : Int} (h3 : C 51 3 = t) (h : C 51 4 = d) (t0 : 0 ≤ t) (t1 : t < 600) : f_Reader_take d C = some (1, goC C t) := by
  rw [q_Reader_take]
  simp only [em_cd, h, h3, if_pos t1, x32_s (show -1000000 ≤ t + 1 by omega) (show t + 1 ≤ 1000000 by omega), f_goTo t0 t1, Option.bind_some]
  simp
theorem c_take2 {d : Int} (h3 : C 51 3 = t) (h : C 51 4 = d) (t1 : ¬ t < 600) : f_Reader_take d C = some (0, xup C 51 6 2) := by
  rw [q_Reader_take]
  simp only [em_cd, h, h3, if_neg t1]
  simp
theorem c_take0 {d : Int} (h : ¬ C 51 4 = d) : f_Reader_take d C = some (0, xup C 51 6 1) := by
  rw [q_Reader_take]
  simp only [em_cd, if_pos h, if_neg h]
/-! the reference's -/
def fuM (R : em_M) (k t : Int) : em_M := xup (xup R 439 12 k) 439 13 (R 443 t)
theorem m_is1 {ρ : Int} (hf : R 439 12 = 0) (h : R 439 11 = t) (t0 : 0 ≤ t) (t1 : t ≤ 602) (hk : R 442 t = ρ) : f_Model_is ρ R = some (1, R) := by
  rw [q_Model_is]
  simp only [em_cd, hf, h, hk, if_pos (show 0 ≤ t ∧ t < 603 by omega)]
  simp
theorem m_is0 {ρ : Int} (hf : R 439 12 = 0) (h : R 439 11 = t) (t0 : 0 ≤ t) (t1 : t ≤ 602) (hk : ¬ R 442 t = ρ) : f_Model_is ρ R = some (0, R) := by
  rw [q_Model_is]
  simp only [em_cd, hf, h, if_pos hk, if_pos (show 0 ≤ t ∧ t < 603 by omega)]
  simp
theorem m_isf (ρ : Int) (hf : ¬ R 439 12 = 0) : f_Model_is ρ R = some (0, R) := by
  rw [q_Model_is]
  simp only [em_cd, if_pos hf]
theorem m_isN1 (hf : R 439 12 = 0) (h : R 439 11 = t) (t0 : 0 ≤ t) (t1 : t ≤ 602) (hk : R 442 t = 1 ∨ R 442 t = 34 ∨ R 442 t = 35) : f_Model_isName R = some (1, R) := by
  rw [q_Model_isName]
  by_cases c1 : R 442 t = 1
  · rw [m_is1 hf h t0 t1 c1]; simp
  · rw [m_is0 hf h t0 t1 c1]
    simp only [Option.bind_some]
    by_cases c2 : R 442 t = 34
    · rw [m_is1 hf h t0 t1 c2]; simp
    · rw [m_is0 hf h t0 t1 c2]
      simp only [Option.bind_some]
      rw [m_is1 hf h t0 t1 (by omega)]
      simp
theorem m_isN0 (hf : R 439 12 = 0) (h : R 439 11 = t) (t0 : 0 ≤ t) (t1 : t ≤ 602) (hk : ¬ (R 442 t = 1 ∨ R 442 t = 34 ∨ R 442 t = 35)) : f_Model_isName R = some (0, R) := by
  rw [q_Model_isName, m_is0 hf h t0 t1 (by omega)]
  simp only [Option.bind_some]
  rw [m_is0 hf h t0 t1 (by omega)]
  simp only [Option.bind_some]
  rw [m_is0 hf h t0 t1 (by omega)]
  simp
theorem m_isNf (hf : ¬ R 439 12 = 0) : f_Model_isName R = some (0, R) := by
  rw [q_Model_isName, m_isf 1 hf]
  simp only [Option.bind_some]
  rw [m_isf 34 hf]
  simp only [Option.bind_some]
  rw [m_isf 35 hf]
  simp
theorem m_fail0 (k : Int) (hf : R 439 12 = 0) (h : R 439 11 = t) (t0 : 0 ≤ t) (t1 : t ≤ 602) : f_Model_fail k R = some (0, fuM R k t) := by
  rw [q_Model_fail]
  simp (disch := omega) only [em_cd, hf, xup_ne, h, if_pos (show 0 ≤ t ∧ t < 603 by omega), Int.le_refl, if_true]
  rfl
theorem m_failf (k : Int) (hf : 0 < R 439 12) : f_Model_fail k R = some (0, R) := by
  rw [q_Model_fail, em_cd, if_neg (by omega)]
theorem m_next1 (h : R 439 11 = t) (t0 : 0 ≤ t) (t1 : t < 600) : f_Model_next R = some (0, xup R 439 11 (t + 1)) := by
  rw [q_Model_next]
  simp only [em_cd, h, if_pos (show ¬ t = 600 by omega), x32_s (show -1000000 ≤ t + 1 by omega) (show t + 1 ≤ 1000000 by omega)]
theorem m_next0 (hf : R 439 12 = 0) (h : R 439 11 = t) (t0 : 0 ≤ t) (t1 : t ≤ 600) (t2 : ¬ t < 600) : f_Model_next R = some (0, fuM R 2 t) := by
  rw [q_Model_next, m_fail0 2 hf h t0 (by omega)]
  simp only [em_cd, h, if_neg (show ¬ ¬ t = 600 by omega), Option.bind_some]
theorem fnC_go : fnC C (goC C t) := fun c j hc => goC_ne (by omega)
theorem fnR_go (v : Int) : fnR R (xup R 439 11 v) := fun c j hc => xup_ne (by omega)
theorem fnC_6 (v : Int) : fnC C (xup C 51 6 v) := fun c j hc => xup_ne (by omega)
theorem fnR_fl (k t : Int) : fnR R (fuM R k t) := fun c j hc => by unfold fuM; rw [xup_ne (by omega), xup_ne (by omega)]
/-- one token further -/
theorem gQ_go (hS : gST n m w s C R) (hQ : gQ n m t C R) (h16 : ¬ C 51 4 = 16) (h17 : ¬ C 51 4 = 17) (t6 : t < 600) : gQ n m (t + 1) (goC C t) (xup R 439 11 (t + 1)) := by
  obtain ⟨⟨q1, q2, q3⟩, ⟨q4, q5⟩, ⟨q6, q7⟩, q8, q9, q10⟩ := hQ
  have htm : t < m := by
    refine Classical.byContradiction (fun z => ?_)
    exact h16 (q9 (by omega)).1
  have hm := hS.1.1.1
  obtain ⟨g1, g2, g3⟩ := goC_at (C := C) (t := t)
  have n17 : ∀ i, 0 ≤ i → i < t + 1 → ¬ C 3 i = 17 := fun i i0 i1 z => by
    by_cases c : i = t
    · subst c
      exact h17 ((q8 htm).1.trans z)
    · exact q10 i i0 (by omega) z
  refine ⟨⟨by omega, by omega, by omega⟩, ⟨g1, xup_eq _ _ _ _⟩, ⟨by rw [goC_ne (by omega)]; exact q6, by rw [xup_ne (by omega)]; exact q7⟩, fun z => ?_, fun z => ?_, fun i i0 i1 => by rw [goC_ne (by omega)]; exact n17 i i0 i1⟩
  · rw [g2, g3, if_pos (by omega), if_pos (by omega), goC_ne (by omega), goC_ne (by omega)]
    exact ⟨rfl, rfl⟩
  · rw [g2, g3, if_neg (by omega), if_neg (by omega), xup_ne (by omega), xup_ne (by omega), z]
    have := hS.1.1.2.2.2.2 (by omega) (fun i i0 i1 => n17 i i0 (by omega))
    exact ⟨rfl, rfl, this⟩
/-- both fail -/
theorem gBd_mk {k : Int} (hS : gST n m w s C R) (hQ : gQ n m t C R) (k1 : 1 ≤ k) : gBd n m (xup C 51 6 k) (fuM R k t) := by
  obtain ⟨⟨q1, q2, q3⟩, ⟨q4, q5⟩, ⟨q6, q7⟩, q8, q9, q10⟩ := hQ
  have f1 : fuM R k t 439 12 = k ∧ fuM R k t 439 13 = R 443 t := by
    unfold fuM
    simp (disch := omega) only [xup_ne, xup_eq, and_self]
  refine ⟨⟨by rw [xup_eq, f1.1], by rw [f1.1]; exact k1⟩, ⟨?_, ?_, ?_⟩, fun z => ?_, fun z => ?_⟩
  · rw [xup_ne (by omega), q4]; exact q1
  · rw [xup_ne (by omega), q4]; exact q2
  · rw [xup_ne (by omega), q4]; exact q3
  · have e3 : xup C 51 6 k 51 3 = t := by rw [xup_ne (by omega), q4]
    rw [e3] at z ⊢
    rw [f1.2, xup_ne (by omega)]
    exact (hS.1.1.2.2.1 t q1 z).1.2
  · rw [xup_ne (by omega), q4] at z
    rw [f1.2]
    exact (q9 z).2.2.2
/-- take and must -/
theorem tk_must {d ρ : Int} (hS : gST n m w s C R) (hQ : gQ n m t C R) (hd : C 51 4 = d ↔ R 442 t = ρ) (d16 : ¬ d = 16) (d17 : ¬ d = 17) : (C 51 4 = d ∧ t < 600 ∧ f_Reader_take d C = some (1, goC C t) ∧ f_Model_must ρ R = some (0, xup R 439 11 (t + 1)) ∧ gQ n m (t + 1) (goC C t) (xup R 439 11 (t + 1))) ∨ (∃ C' R', f_Reader_take d C = some (0, C') ∧ f_Model_must ρ R = some (0, R') ∧ gBd n m C' R' ∧ fnC C C' ∧ fnR R R') := by
  obtain ⟨⟨q1, q2, q3⟩, ⟨q4, q5⟩, ⟨q6, q7⟩, -⟩ := id hQ
  have e := q_Model_must ρ R
  by_cases c : C 51 4 = d
  · rw [m_is1 q7 q5 q1 (by omega) (hd.mp c)] at e
    simp only [em_cd, Option.bind_some] at e
    rw [if_neg (by omega)] at e
    by_cases c6 : t < 600
    · rw [m_next1 q5 q1 c6] at e
      exact Or.inl ⟨c, c6, c_take1 q4 c q1 c6, e, gQ_go hS hQ (by omega) (by omega) c6⟩
    · rw [m_next0 q7 q5 q1 q3 c6] at e
      exact Or.inr ⟨_, _, c_take2 q4 c c6, e, gBd_mk hS hQ (by omega), fnC_6 _, fnR_fl _ _⟩
  · rw [m_is0 q7 q5 q1 (by omega) (fun z => c (hd.mpr z))] at e
    simp only [em_cd, Option.bind_some] at e
    rw [if_pos trivial, m_fail0 1 q7 q5 q1 (by omega)] at e
    exact Or.inr ⟨_, _, c_take0 c, e, gBd_mk hS hQ (by omega), fnC_6 _, fnR_fl _ _⟩
/-- take of a name, and name -/
theorem tk_name (hS : gST n m w s C R) (hQ : gQ n m t C R) : (C 51 4 = 14 ∧ t < 600 ∧ f_Reader_take 14 C = some (1, goC C t) ∧ f_Model_name R = some (0, xup R 439 11 (t + 1)) ∧ gQ n m (t + 1) (goC C t) (xup R 439 11 (t + 1))) ∨ (∃ C' R', f_Reader_take 14 C = some (0, C') ∧ f_Model_name R = some (0, R') ∧ gBd n m C' R' ∧ fnC C C' ∧ fnR R R') := by
  obtain ⟨⟨q1, q2, q3⟩, ⟨q4, q5⟩, ⟨q6, q7⟩, -⟩ := id hQ
  have hd := kd_name hS hQ
  have e := q_Model_name R
  by_cases c : C 51 4 = 14
  · rw [m_isN1 q7 q5 q1 (by omega) (hd.mp c)] at e
    simp only [em_cd, Option.bind_some] at e
    rw [if_neg (by omega)] at e
    by_cases c6 : t < 600
    · rw [m_next1 q5 q1 c6] at e
      exact Or.inl ⟨c, c6, c_take1 q4 c q1 c6, e, gQ_go hS hQ (by omega) (by omega) c6⟩
    · rw [m_next0 q7 q5 q1 q3 c6] at e
      exact Or.inr ⟨_, _, c_take2 q4 c c6, e, gBd_mk hS hQ (by omega), fnC_6 _, fnR_fl _ _⟩
  · rw [m_isN0 q7 q5 q1 (by omega) (fun z => c (hd.mpr z))] at e
    simp only [em_cd, Option.bind_some] at e
    rw [if_pos trivial, m_fail0 1 q7 q5 q1 (by omega)] at e
    exact Or.inr ⟨_, _, c_take0 c, e, gBd_mk hS hQ (by omega), fnC_6 _, fnR_fl _ _⟩
/-- take of what is known to stand there, and next -/
theorem tk_next {d : Int} (hS : gST n m w s C R) (hQ : gQ n m t C R) (c : C 51 4 = d) (d16 : ¬ d = 16) (d17 : ¬ d = 17) : (t < 600 ∧ f_Reader_take d C = some (1, goC C t) ∧ f_Model_next R = some (0, xup R 439 11 (t + 1)) ∧ gQ n m (t + 1) (goC C t) (xup R 439 11 (t + 1))) ∨ (t = 600 ∧ f_Reader_take d C = some (0, xup C 51 6 2) ∧ f_Model_next R = some (0, fuM R 2 t) ∧ gBd n m (xup C 51 6 2) (fuM R 2 t)) := by
  obtain ⟨⟨q1, q2, q3⟩, ⟨q4, q5⟩, ⟨q6, q7⟩, -⟩ := id hQ
  by_cases c6 : t < 600
  · exact Or.inl ⟨c6, c_take1 q4 c q1 c6, m_next1 q5 q1 c6, gQ_go hS hQ (by omega) (by omega) c6⟩
  · exact Or.inr ⟨by omega, c_take2 q4 c c6, m_next0 q7 q5 q1 q3 c6, gBd_mk hS hQ (by omega)⟩
end
