/-! PARTING: how the class reads a law. -/
section
variable {M N : em_M}
theorem lawR (w : Int) (h : w = 53 ∨ w = 366) : (em_kd (w + 5) = 100 ∧ em_ln (w + 5) = 30) ∧ (em_kd (w + 6) = 101 ∧ em_ln (w + 6) = 30) ∧ ((em_kd (w + 7) = 102 ∨ em_kd (w + 7) = 103) ∧ em_ln (w + 7) = 30) ∧ (em_kd (w + 8) = 100 ∧ em_ln (w + 8) = 30) ∧ (em_kd (w + 9) = 100 ∧ em_ln (w + 9) = 30) ∧ (em_kd (w + 10) = 100 ∧ em_ln (w + 10) = 30) ∧ ((em_kd (w + 11) = 110 ∨ em_kd (w + 11) = 111) ∧ em_ln (w + 11) = 30) ∧ ((em_kd (w + 42) = 110 ∨ em_kd (w + 42) = 111) ∧ em_ln (w + 42) = 30) := by
  rcases h with rfl | rfl <;> decide
theorem lawKin53 : (List.range 30).all (fun k => Nat.beq (em_kd (65 + (k : Int))) 100 && decide (em_ln (65 + (k : Int)) = 8) && Nat.beq (em_kd (96 + (k : Int))) 100 && decide (em_ln (96 + (k : Int)) = 8) && Nat.beq (em_kd (378 + (k : Int))) 100 && decide (em_ln (378 + (k : Int)) = 8) && Nat.beq (em_kd (409 + (k : Int))) 100 && decide (em_ln (409 + (k : Int)) = 8)) = true := by decide +kernel
theorem lawKin {w r : Int} (h : w = 53 ∨ w = 366) (r0 : 0 ≤ r) (r1 : r < 30) : (em_kd (w + 12 + r) = 100 ∧ em_ln (w + 12 + r) = 8) ∧ (em_kd (w + 43 + r) = 100 ∧ em_ln (w + 43 + r) = 8) := by
  have k := List.all_eq_true.mp lawKin53 r.toNat (List.mem_range.mpr (by omega))
  have e : ((r.toNat : Nat) : Int) = r := by omega
  simp only [Bool.and_eq_true, e, Nat.beq_eq, decide_eq_true_eq] at k
  obtain ⟨⟨⟨⟨⟨⟨⟨k1, k2⟩, k3⟩, k4⟩, k5⟩, k6⟩, k7⟩, k8⟩ := k
  rcases h with rfl | rfl
  · exact ⟨⟨k1, k2⟩, k3, k4⟩
  · exact ⟨⟨k5, k6⟩, k7, k8⟩
theorem f_isKind {w r q : Int} (h : w = 53 ∨ w = 366) (r0 : 0 ≤ r) (r1 : r < 30) : f_Law_isKind w r q M = some (b2 (M (w + 5) r = q), M) := by
  obtain ⟨⟨k1, k2⟩, -⟩ := lawR w h
  rw [q_Law_isKind, isO_law h, k1, k2]
  simp only [em_cd, cond_true]
  rw [if_neg (by omega), if_neg (by omega), decide_eq_true ⟨r0, r1⟩]
  show (if ¬ M (w + 5) r = q then _ else _) = _
  by_cases c : M (w + 5) r = q
  · rw [if_neg (fun z => z c), b2_t c]
  · rw [if_pos c, b2_f c]
theorem f_sizeOf {w r : Int} (h : w = 53 ∨ w = 366) (r0 : 0 ≤ r) (r1 : r < 30) : f_Law_sizeOf w r M = some (M (w + 10) r, M) := by
  obtain ⟨-, -, -, -, -, ⟨k1, k2⟩, -⟩ := lawR w h
  rw [q_Law_sizeOf, isO_law h, k1, k2]
  simp only [em_cd, cond_true]
  rw [if_neg (by omega), if_neg (by omega), decide_eq_true ⟨r0, r1⟩]
  rfl
theorem f_kinIn {w r i : Int} (h : w = 53 ∨ w = 366) (r0 : 0 ≤ r) (r1 : r < 30) (i0 : 0 ≤ i) (i1 : i < 8) : f_Law_kinIn w r i M = some (if M (w + 10) r ≤ i then -1 else M (w + 12 + r) i, M) := by
  obtain ⟨-, -, -, -, -, -, ⟨k1, k2⟩, -⟩ := lawR w h
  obtain ⟨⟨k3, k4⟩, -⟩ := lawKin h r0 r1
  rw [q_Law_kinIn, isO_law h, f_sizeOf h r0 r1, k2]
  have e1 : (Nat.beq (em_kd (w + 11)) 110 || (Nat.beq (em_kd (w + 11)) 111 || Nat.beq (em_kd (w + 11)) 112)) = true := by rcases k1 with k | k <;> rw [k] <;> rfl
  have e2 : w + 11 + 1 + r * (bif Nat.beq (em_kd (w + 11)) 112 then 6 else 1) = w + 12 + r := by
    have : (bif Nat.beq (em_kd (w + 11)) 112 then (6 : Int) else 1) = 1 := by rcases k1 with k | k <;> rw [k] <;> rfl
    rw [this]
    omega
  rw [e1, e2, k3, k4]
  simp only [em_cd, cond_true, Bool.and_true, Option.bind_some, Bool.true_and]
  rw [if_neg (by omega), if_neg (by omega)]
  by_cases c : M (w + 10) r ≤ i
  · rw [if_pos c, if_pos c]
  · rw [if_neg c, if_neg c, if_pos ⟨r0, r1⟩, decide_eq_true ⟨i0, i1⟩]
    rfl
theorem f_weightIn {w r i : Int} (h : w = 53 ∨ w = 366) (r0 : 0 ≤ r) (r1 : r < 30) (i0 : 0 ≤ i) (i1 : i < 8) : f_Law_weightIn w r i M = some (if M (w + 10) r ≤ i then 0 else M (w + 43 + r) i, M) := by
  obtain ⟨-, -, -, -, -, -, -, ⟨k1, k2⟩⟩ := lawR w h
  obtain ⟨-, ⟨k3, k4⟩⟩ := lawKin h r0 r1
  rw [q_Law_weightIn, isO_law h, f_sizeOf h r0 r1, k2]
  have e1 : (Nat.beq (em_kd (w + 42)) 110 || (Nat.beq (em_kd (w + 42)) 111 || Nat.beq (em_kd (w + 42)) 112)) = true := by rcases k1 with k | k <;> rw [k] <;> rfl
  have e2 : w + 42 + 1 + r * (bif Nat.beq (em_kd (w + 42)) 112 then 6 else 1) = w + 43 + r := by
    have : (bif Nat.beq (em_kd (w + 42)) 112 then (6 : Int) else 1) = 1 := by rcases k1 with k | k <;> rw [k] <;> rfl
    rw [this]
    omega
  rw [e1, e2, k3, k4]
  simp only [em_cd, cond_true, Bool.and_true, Option.bind_some, Bool.true_and]
  rw [if_neg (by omega), if_neg (by omega)]
  by_cases c : M (w + 10) r ≤ i
  · rw [if_pos c, if_pos c]
  · rw [if_neg c, if_neg c, if_pos ⟨r0, r1⟩, decide_eq_true ⟨i0, i1⟩]
    rfl
/-! the class's lines -/
/-- what an x of the class's lines is, told by the reference's 490 -/
def lnC (M N : em_M) (t n lo : Int) : Prop := (∀ y, lo ≤ y → y < n → mk (M 132 y) (fun c => c < n ∧ lin N t y c)) ∧ mk (M 127 9) (fun y => lo ≤ y ∧ y < n ∧ ¬ lvs N t y ∧ ¬ N 490 y = 0)
theorem f_lines {t n L : Int} (n0 : 0 ≤ n) (hn : n ≤ 30) (hL : mk L (fun x => x < n ∧ lvs N t x)) (hline : ∀ y, 0 ≤ y → y < n → lnOk N t n y) (hpar : ∀ c, 0 ≤ c → c < n → N 469 c < c ∧ N 470 c < c) : ∀ (k : Nat) (i : Int) (M : em_M), M 6 0 = n → M 127 8 = L → (∀ d, 0 ≤ d → d < n → mk (M 27 d) (fun c => c < n ∧ (N 471 c ≤ t) ∧ (N 469 c = d ∨ N 470 c = d))) → -1 ≤ i → i < 30 → i + 1 ≤ k → lnC M N t n (i + 1) → ∃ M', f_Parting_findLines_8 i M = some (0, M') ∧ (∀ c j, ¬ (c = 132 ∨ (c = 127 ∧ j = 9)) → M' c j = M c j) ∧ lnC M' N t n 0 := by
  intro k
  induction k with
  | zero =>
    intro i M h6 h8 hch i0 i1 hk hC
    rw [show i + 1 = 0 by omega] at hC
    refine ⟨M, ?_, fun _ _ _ => rfl, hC⟩
    rw [q_Parting_findLines_8, em_cd, if_pos (by omega)]
  | succ k ih =>
    intro i M h6 h8 hch i0 i1 hk hC
    by_cases q : i < 0
    · rw [show i + 1 = 0 by omega] at hC
      refine ⟨M, ?_, fun _ _ _ => rfl, hC⟩
      rw [q_Parting_findLines_8, em_cd, if_pos q]
    · have e := q_Parting_findLines_8 i M
      rw [q_Kinship_childrenOf] at e
      have hreach : f_Kinship_reach 0 i M = some (if i < n then M 27 i else 0, M) := by
        by_cases c : i < n
        · rw [if_pos c, f_reach (by omega) (by omega) (by omega) (by omega) (by omega)]
          rfl
        · rw [if_neg c, q_Kinship_reach, q_Register_has]
          simp only [em_cd]
          rw [if_neg (by omega), if_neg (by omega), if_neg (by omega), if_pos (by omega)]
          simp only [Option.bind_some, if_true]
      rw [hreach] at e
      simp only [Option.bind_some, em_cd, h8] at e
      rw [if_neg q, if_pos (by omega), x32_s (x := i + -1) (by omega) (by omega)] at e
      generalize hv : x_and (if i < n then M 27 i else 0) (x_or L (M 127 9)) = v at e
      have mv : mk v (fun c => i < n ∧ c < n ∧ lin N t i c) := by
        rw [← hv]
        by_cases c : i < n
        · rw [if_pos c]
          refine ((hch i (by omega) c).and (hL.or hC.2)).cong (fun x x0 x1 => ?_)
          constructor
          · rintro ⟨⟨a1, a2, a3⟩, b | b⟩
            · exact ⟨c, a1, a3, Or.inl b.2⟩
            · exact ⟨c, a1, a3, Or.inr ⟨a2, b.2.2.2⟩⟩
          · rintro ⟨-, a1, a2, a3⟩
            rcases a3 with a3 | a3
            · exact ⟨⟨a1, a3.1, a2⟩, Or.inl ⟨a1, a3⟩⟩
            · refine ⟨⟨a1, a3.1, a2⟩, ?_⟩
              by_cases l : lvs N t x
              · exact Or.inl ⟨a1, l⟩
              · have := hpar x x0 a1
                exact Or.inr ⟨by omega, a1, l, a3.2⟩
        · rw [if_neg c]
          refine (mk_0.and (hL.or hC.2)).cong (fun x x0 x1 => ⟨fun z => z.1.elim, fun z => absurd z.1 c⟩)
      generalize hX : xup M 132 i v = X at e
      have fX : ∀ a j, ¬ (a = 132 ∧ j = i) → X a j = M a j := fun a j ha => by rw [← hX, xup_ne ha]
      have vX : X 132 i = v := by rw [← hX, xup_eq]
      rw [fX 127 8 (by omega), h8, f_holds] at e
      simp only [Option.bind_some, em_cd, b2_z, vX] at e
      have hz := mv.zero
      have hlo : ∀ (Y : em_M), (∀ a j, ¬ (a = 127 ∧ j = 9) → Y a j = X a j) → ∀ y, i ≤ y → y < n → mk (Y 132 y) (fun c => c < n ∧ lin N t y c) := fun Y hY y y0 y1 => by
        rw [hY _ _ (by omega)]
        by_cases yi : y = i
        · rw [yi, vX]
          exact mv.cong (fun x _ _ => ⟨fun z => z.2, fun z => ⟨by omega, z⟩⟩)
        · rw [fX _ _ (by omega)]
          exact hC.1 y (by omega) y1
      have fin : ∀ (Y : em_M), (∀ a j, ¬ (a = 127 ∧ j = 9) → Y a j = X a j) → mk (Y 127 9) (fun y => i ≤ y ∧ y < n ∧ ¬ lvs N t y ∧ ¬ N 490 y = 0) → f_Parting_findLines_8 i M = f_Parting_findLines_8 (i + -1) Y → ∃ M', f_Parting_findLines_8 i M = some (0, M') ∧ (∀ c j, ¬ (c = 132 ∨ (c = 127 ∧ j = 9)) → M' c j = M c j) ∧ lnC M' N t n 0 := fun Y hY h9 z => by
        obtain ⟨M', h1, h2, h3⟩ := ih (i + -1) Y (by rw [hY _ _ (by omega), fX _ _ (by omega)]; exact h6) (by rw [hY _ _ (by omega), fX _ _ (by omega)]; exact h8) (fun d d0 d1 => by rw [hY _ _ (by omega), fX _ _ (by omega)]; exact hch d d0 d1) (by omega) (by omega) (by omega) (by
          rw [show i + -1 + 1 = i by omega]
          exact ⟨hlo Y hY, h9⟩)
        exact ⟨M', z.trans h1, fun c j hc => by rw [h2 c j hc, hY c j (by omega), fX c j (by omega)], h3⟩
      have e490 : i < n → (¬ N 490 i = 0 ↔ ¬ v = 0) := fun hi => by
        rw [(hline i (by omega) hi).2]
        constructor
        · rintro ⟨c, c0, c1, c2⟩ z
          exact hz.mp z c c0 (by omega) ⟨hi, c1, c2⟩
        · intro z
          refine Classical.byContradiction (fun w => z (hz.mpr (fun x x0 x1 x2 => w ⟨x, x0, x2.2.1, x2.2.2⟩)))
      by_cases l : tb L i = true
      · rw [if_pos (fun z => z ⟨by omega, by omega, l⟩)] at e
        have hl := (hL.at_ (by omega) (by omega)).mp l
        refine fin X (fun _ _ _ => rfl) ?_ e
        rw [fX _ _ (by omega)]
        refine hC.2.cong (fun x x0 x1 => ⟨fun z => ⟨by omega, z.2⟩, fun z => ⟨?_, z.2⟩⟩)
        by_cases xi : x = i
        · rw [xi] at z
          exact absurd hl.2 z.2.2.1
        · omega
      · rw [if_neg (fun z => z (fun w => l w.2.2)), if_pos (by omega)] at e
        by_cases vz : v = 0
        · rw [if_pos vz] at e
          refine fin X (fun _ _ _ => rfl) ?_ e
          rw [fX _ _ (by omega)]
          refine hC.2.cong (fun x x0 x1 => ⟨fun z => ⟨by omega, z.2⟩, fun z => ⟨?_, z.2⟩⟩)
          by_cases xi : x = i
          · rw [xi] at z
            exact absurd vz ((e490 z.2.1).mp z.2.2.2)
          · omega
        · rw [if_neg vz] at e
          have hin : i < n := Classical.byContradiction (fun w => vz (hz.mpr (fun x x0 x1 x2 => w x2.1)))
          refine fin _ (fun a j ha => xup_ne ha) ?_ e
          rw [xup_eq, fX _ _ (by omega)]
          refine (hC.2.or (mk_bit (by omega : 0 ≤ i) (by omega))).cong (fun x x0 x1 => ?_)
          constructor
          · rintro (z | z)
            · exact ⟨by omega, z.2⟩
            · rw [z]
              exact ⟨by omega, hin, fun w => l ((hL.at_ (by omega) (by omega)).mpr ⟨hin, w⟩), (e490 hin).mpr vz⟩
          · intro z
            by_cases xi : x = i
            · exact Or.inr xi
            · exact Or.inl ⟨by omega, z.2⟩
end
