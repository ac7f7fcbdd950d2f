/-! PARTING: what is reported. -/
section
variable {M N : em_M}
def rsn (M : em_M) (p x : Int) : Int := if x = p then 6 else if ¬ tb (M 127 10) x = true then (if 0 < fr_up (M 134 x) then 5 else 0) else if tb (M 127 11) x = true then 1 else if tb (M 127 12) x = true then 2 else if tb (M 127 13) x = true then 3 else 4
def rul (M : em_M) (p x : Int) : Int := if rsn M p x = 1 then M 129 x else if rsn M p x = 2 then M 130 x else if rsn M p x = 3 then M 127 17 else -1
theorem f_reason {p x : Int} (x0 : 0 ≤ x) (x1 : x < 30) (ok : fr_ok (M 134 x)) : f_Parting_reasonOf x p M = some (rsn M p x, M) := by
  rw [q_Parting_reasonOf]
  unfold rsn
  simp only [em_cd, f_holds, Option.bind_some, b2_z, nn, f_isPositive M (fr_ok_lt ok), zzz]
  by_cases c0 : x = p
  · rw [if_neg (fun z => z c0), if_pos c0]
  · rw [if_pos c0, if_neg c0]
    by_cases c1 : tb (M 127 10) x = true
    · rw [if_pos ⟨x0, x1, c1⟩, if_neg (show ¬ ¬ tb (M 127 10) x = true from fun z => z c1)]
      by_cases c2 : tb (M 127 11) x = true
      · rw [if_neg (fun z => z ⟨x0, x1, c2⟩), if_pos c2]
      · rw [if_pos (fun z => c2 z.2.2), if_neg c2]
        by_cases c3 : tb (M 127 12) x = true
        · rw [if_neg (fun z => z ⟨x0, x1, c3⟩), if_pos c3]
        · rw [if_pos (fun z => c3 z.2.2), if_neg c3]
          by_cases c4 : tb (M 127 13) x = true
          · rw [if_neg (fun z => z ⟨x0, x1, c4⟩), if_pos c4]
          · rw [if_pos (fun z => c4 z.2.2), if_neg c4]
    · rw [if_neg (fun z => c1 z.2.2), if_pos c1, if_neg (by omega), if_neg (by omega), if_pos (by omega)]
      by_cases c2 : 0 < fr_up (M 134 x)
      · rw [if_neg (fun z => z c2), if_pos c2]
      · rw [if_pos c2, if_neg c2]
theorem rsn_fr {M' : em_M} {p x : Int} (e : ∀ c j, 127 ≤ c → c ≤ 134 → M' c j = M c j) : rsn M' p x = rsn M p x ∧ rul M' p x = rul M p x := by
  have h : rsn M' p x = rsn M p x := by
    unfold rsn
    rw [e 127 10 (by omega) (by omega), e 127 11 (by omega) (by omega), e 127 12 (by omega) (by omega), e 127 13 (by omega) (by omega), e 134 x (by omega) (by omega)]
  refine ⟨h, ?_⟩
  unfold rul
  rw [h, e 129 x (by omega) (by omega), e 130 x (by omega) (by omega), e 127 17 (by omega) (by omega)]
theorem f_report_i {E p : Int} (hE : isE E) : ∀ (m : Nat) (x : Int) (M : em_M), M E 0 = p → (∀ y, 0 ≤ y → y < 30 → fr_ok (M 134 y)) → 0 ≤ x → 30 - x ≤ m → ∃ M', f_Parting_report_26 E x M = some (0, M') ∧ (∀ y, x ≤ y → y < 30 → M' (E + 1) y = M 134 y ∧ M' (E + 4) y = rsn M p y ∧ M' (E + 5) y = rul M p y) ∧ ∀ c j, ¬ ((c = E + 1 ∨ c = E + 4 ∨ c = E + 5) ∧ x ≤ j ∧ j < 30) → M' c j = M c j := by
  have hne := hE.ne
  obtain ⟨k0, ⟨k1, k2⟩, -, -, ⟨k3, k4⟩, ⟨k5, k6⟩⟩ := hE.k
  intro m
  induction m with
  | zero =>
    intro x M h0 hp x0 hm
    exact ⟨M, by rw [q_Parting_report_26, em_cd, if_pos (by omega)], fun y y0 y1 => by omega, fun _ _ _ => rfl⟩
  | succ m ih =>
    intro x M h0 hp x0 hm
    by_cases q : 30 ≤ x
    · exact ⟨M, by rw [q_Parting_report_26, em_cd, if_pos q], fun y y0 y1 => by omega, fun _ _ _ => rfl⟩
    · have e := q_Parting_report_26 E x M
      rw [k0, h0, f_reason x0 (by omega) (hp x x0 (by omega)), k1, k2, k3, k4, k5, k6, decide_eq_true (show 0 ≤ x ∧ x < 30 by omega)] at e
      simp only [cond_true, Option.bind_some, em_cd, show (Nat.beq 101 101 && true) = true from rfl, show (Nat.beq 100 100 && true) = true from rfl] at e
      rw [if_neg q, x32_s (by omega) (by omega)] at e
      have e17 : (xup (xup M (E + 1) x (M 134 x)) (E + 4) x (rsn M p x)) 127 17 = M 127 17 := by rw [xup_ne (by omega), xup_ne (by omega)]
      have e129 : (xup (xup M (E + 1) x (M 134 x)) (E + 4) x (rsn M p x)) 129 x = M 129 x := by rw [xup_ne (by omega), xup_ne (by omega)]
      have e130 : (xup (xup M (E + 1) x (M 134 x)) (E + 4) x (rsn M p x)) 130 x = M 130 x := by rw [xup_ne (by omega), xup_ne (by omega)]
      rw [e17, e129, e130] at e
      have e2 : f_Parting_report_26 E x M = f_Parting_report_26 E (x + 1) (xup (xup (xup M (E + 1) x (M 134 x)) (E + 4) x (rsn M p x)) (E + 5) x (rul M p x)) := by
        rw [e]
        unfold rul
        by_cases c1 : rsn M p x = 1
        · rw [if_neg (fun z => z c1), if_pos c1]
        · rw [if_pos c1, if_neg c1]
          by_cases c2 : rsn M p x = 2
          · rw [if_neg (fun z => z c2), if_pos c2]
          · rw [if_pos c2, if_neg c2]
            by_cases c3 : rsn M p x = 3
            · rw [if_neg (fun z => z c3), if_pos c3]
            · rw [if_pos c3, if_neg c3]
      generalize hX : xup (xup (xup M (E + 1) x (M 134 x)) (E + 4) x (rsn M p x)) (E + 5) x (rul M p x) = X at e2
      have fX : ∀ c j, ¬ ((c = E + 1 ∨ c = E + 4 ∨ c = E + 5) ∧ j = x) → X c j = M c j := fun c j hc => by rw [← hX, xup_ne (by omega), xup_ne (by omega), xup_ne (by omega)]
      have vX : X (E + 1) x = M 134 x ∧ X (E + 4) x = rsn M p x ∧ X (E + 5) x = rul M p x := by rw [← hX]; simp (disch := omega) only [xup_ne, xup_eq, and_self]
      obtain ⟨M', h1, h2, h3⟩ := ih (x + 1) X (by rw [fX _ _ (by omega)]; exact h0) (fun y y0 y1 => by rw [fX 134 y (by omega)]; exact hp y y0 y1) (by omega) (by omega)
      refine ⟨M', e2.trans h1, fun y y0 y1 => ?_, fun c j hc => by rw [h3 c j (by omega), fX c j (by omega)]⟩
      by_cases yx : y = x
      · rw [yx, h3 (E + 1) x (by omega), h3 (E + 4) x (by omega), h3 (E + 5) x (by omega)]
        exact vX
      · obtain ⟨r1, r2, r3⟩ := h2 y (by omega) y1
        have hr := rsn_fr (M := M) (M' := X) (p := p) (x := y) (fun c j c0 c1 => fX c j (by omega))
        rw [hr.1] at r2
        rw [hr.2] at r3
        rw [fX 134 y (by omega)] at r1
        exact ⟨r1, r2, r3⟩
theorem f_report {E p : Int} (hE : isE E) (h0 : M E 0 = p) (hp : ∀ y, 0 ≤ y → y < 30 → fr_ok (M 134 y)) : ∃ M', f_Parting_report E M = some (0, M') ∧ (M' E 7 = M 127 14 ∧ M' E 8 = M 127 16 ∧ M' E 3 = M 127 17) ∧ (∀ y, 0 ≤ y → y < 30 → M' (E + 1) y = M 134 y ∧ M' (E + 4) y = rsn M p y ∧ M' (E + 5) y = rul M p y) ∧ ∀ c j, ¬ (((c = E + 1 ∨ c = E + 4 ∨ c = E + 5) ∧ 0 ≤ j ∧ j < 30) ∨ (c = E ∧ (j = 3 ∨ j = 7 ∨ j = 8))) → M' c j = M c j := by
  have hne := hE.ne
  have e := q_Parting_report E M
  rw [hE.k.1] at e
  simp only [cond_true, Bool.and_true] at e
  have e16 : (xup M E 7 (M 127 14)) 127 16 = M 127 16 := xup_ne (by omega)
  rw [e16] at e
  have e17 : (xup (xup M E 7 (M 127 14)) E 8 (M 127 16)) 127 17 = M 127 17 := by rw [xup_ne (by omega), xup_ne (by omega)]
  rw [e17] at e
  generalize hX : xup (xup (xup M E 7 (M 127 14)) E 8 (M 127 16)) E 3 (M 127 17) = X at e
  have fX : ∀ c j, ¬ (c = E ∧ (j = 3 ∨ j = 7 ∨ j = 8)) → X c j = M c j := fun c j hc => by rw [← hX, xup_ne (by omega), xup_ne (by omega), xup_ne (by omega)]
  have vX : X E 7 = M 127 14 ∧ X E 8 = M 127 16 ∧ X E 3 = M 127 17 := by rw [← hX]; simp (disch := omega) only [xup_ne, xup_eq, and_self]
  obtain ⟨M', h1, h2, h3⟩ := f_report_i (p := p) hE 30 0 X (by rw [fX _ _ (by omega)]; exact h0) (fun y y0 y1 => by rw [fX 134 y (by omega)]; exact hp y y0 y1) (by omega) (by omega)
  refine ⟨M', e.trans h1, ?_, fun y y0 y1 => ?_, fun c j hc => by rw [h3 c j (by omega), fX c j (by omega)]⟩
  · rw [h3 E 7 (by omega), h3 E 8 (by omega), h3 E 3 (by omega)]
    exact vX
  · obtain ⟨r1, r2, r3⟩ := h2 y y0 y1
    have hr := rsn_fr (M := M) (M' := X) (p := p) (x := y) (fun c j c0 c1 => fX c j (by omega))
    rw [hr.1] at r2
    rw [hr.2] at r3
    rw [fX 134 y (by omega)] at r1
    exact ⟨r1, r2, r3⟩
end
