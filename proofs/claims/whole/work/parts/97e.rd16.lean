/-! read: lists, their pieces. -/
section
variable {C R M : em_M} {n m t w s k0 S P r0 r : Int}
/-- what told leaves of the notes -/
theorem told_same {C' : em_M} (hS : gST n m w s C R) (hQ : gQ n m t C R) (hK : gNm w s k0 C R) (h : f_Reader_takeTold C = some (1, C')) (hq : ¬ C' 51 10 = -1 ∨ ¬ C 51 8 = 0) : C' 51 8 = C 51 8 ∧ C' 51 9 = C 51 9 := by
  obtain ⟨⟨q1, q2, q3⟩, ⟨q4, q5⟩, ⟨q6, q7⟩, q8, q9, q10⟩ := id hQ
  have e := q_Reader_takeTold C
  simp only [em_cd] at e
  by_cases c : C 51 4 = 14
  case neg =>
    rw [if_pos c, c_take0 c] at e
    simp only [Option.bind_some] at e
    rw [if_pos (by simp), h] at e
    cases e
  rw [if_neg (fun z => z c)] at e
  obtain ⟨q, k1, k2, -⟩ := kn_pair (v := C 51 5) (tok := t) hS hK (kd_nm hS hQ c).1.symm q1 (by omega) k0.toNat 0 (by omega) (by have := hK.1.2.2.1; omega) (fun y y0 y1 => by omega)
  have ef := q_Reader_findTold C
  rw [q_Reader_kinNamed, k2] at ef
  simp only [Option.bind_some, em_cd, xup_eq] at ef
  have fin : ∀ Z : em_M, f_Reader_findTold C = some (0, Z) → (∀ c j, c = 51 → ¬ j = 10 → Z c j = C c j) → C' 51 8 = C 51 8 ∧ C' 51 9 = C 51 9 := fun Z z1 z2 => by
    rw [z1] at e
    simp only [Option.bind_some] at e
    by_cases c6 : t < 600
    · rw [c_take1 (C := Z) (t := t) (by rw [z2 51 3 rfl (by omega)]; exact q4) (by rw [z2 51 4 rfl (by omega)]; exact c) q1 c6] at e
      simp only [Option.bind_some] at e
      rw [if_pos (by simp), h] at e
      have : C' = goC Z t := by
        cases e
        rfl
      rw [this, goC_ne (by omega), goC_ne (by omega), z2 51 8 rfl (by omega), z2 51 9 rfl (by omega)]
      exact ⟨rfl, rfl⟩
    · rw [c_take2 (C := Z) (t := t) (by rw [z2 51 3 rfl (by omega)]; exact q4) (by rw [z2 51 4 rfl (by omega)]; exact c) c6] at e
      simp only [Option.bind_some] at e
      rw [if_pos (by simp), h] at e
      cases e
  by_cases cq : q = -1
  · rw [if_neg (fun z => z cq), q_Reader_note, em_cd] at ef
    by_cases c8 : C 51 8 = 0
    · -- then it was found
      exfalso
      rcases hq with hq | hq
      · rw [if_neg (by rw [xup_ne (by omega)]; exact fun z => z c8)] at ef
        simp only [Option.bind_some] at ef
        rw [ef] at e
        simp only [Option.bind_some] at e
        have g : ∀ Z : em_M, Z 51 10 = -1 → Z 51 3 = t → Z 51 4 = 14 → ((f_Reader_take 14 Z).bind fun r1 => if r1.1 = 0 ∨ r1.1 = 1 then some (r1.1, r1.2) else none) = some (1, C') → False := fun Z y1 y2 y3 y4 => by
          by_cases c6 : t < 600
          · rw [c_take1 (C := Z) (t := t) y2 y3 q1 c6] at y4
            simp only [Option.bind_some] at y4
            rw [if_pos (by simp)] at y4
            have : C' = goC Z t := by
              cases y4
              rfl
            rw [this, goC_ne (by omega)] at hq
            exact hq y1
          · rw [c_take2 (C := Z) (t := t) y2 y3 c6] at y4
            simp only [Option.bind_some] at y4
            rw [if_pos (by simp)] at y4
            cases y4
        exact g _ (by simp (disch := omega) only [xup_ne, xup_eq]; exact cq) (by simp (disch := omega) only [xup_ne]; exact q4) (by simp (disch := omega) only [xup_ne]; exact c) (e.symm.trans h)
      · exact hq c8
    · rw [if_pos (by rw [xup_ne (by omega)]; exact c8)] at ef
      simp only [Option.bind_some] at ef
      exact fin _ ef (fun c j hc hj => xup_ne (by omega))
  · rw [if_pos cq] at ef
    exact fin _ ef (fun c j hc hj => xup_ne (by omega))
theorem gN.dn {C' R' : em_M} (h : gN m (t + 1) C' R') (h0 : gN m t C R) (e : C' 51 8 = C 51 8 ∧ C' 51 9 = C 51 9) : gN m t C' R' := by
  rcases h with a | ⟨a, b, ⟨c1, c2, c3⟩, d⟩
  · exact Or.inl a
  · rcases h0 with ⟨x, -⟩ | ⟨-, -, ⟨-, x, -⟩, -⟩
    · omega
    · exact Or.inr ⟨a, b, ⟨c1, by omega, c3⟩, d⟩
/-- the reference looks for the name again -/
theorem m_again {v1 v2 v3 v5 tok v7 : Int} (t1 : tok ≤ 602) : ∀ (f : Nat) (x v8 : Int), 0 ≤ x → x + f = tok → ∃ z, f_Model_tellList_68 v1 v2 v3 v5 tok v7 v8 x R = (if z = 0 then f_Model_tellList_158 v1 v2 v3 v5 v7 R else (f_Model_wrong 3 tok R).bind fun r0 => f_Model_tellList_158 v1 v2 v3 v5 v7 r0.2) ∧ (¬ (z : Int) = 0 ↔ ¬ v8 = 0 ∨ ∃ y, x ≤ y ∧ y < tok ∧ (R 442 y = 1 ∨ R 442 y = 34 ∨ R 442 y = 35) ∧ R 445 y = R 445 tok) := by
  intro f
  induction f with
  | zero =>
    intro x v8 x0 hx
    have e := q_Model_tellList_68 v1 v2 v3 v5 tok v7 v8 x R
    simp only [em_cd, if_pos (show tok ≤ x by omega)] at e
    exact ⟨v8, e, fun z => Or.inl z, fun z => z.elim id (fun ⟨y, y0, y1, _⟩ => by omega)⟩
  | succ f ih =>
    intro x v8 x0 hx
    have e := q_Model_tellList_68 v1 v2 v3 v5 tok v7 v8 x R
    simp only [em_cd, if_neg (show ¬ tok ≤ x by omega), if_pos (show 0 ≤ x ∧ x < 603 by omega), x32_s (show -1000000 ≤ x + 1 by omega) (show x + 1 ≤ 1000000 by omega)] at e
    by_cases c8 : v8 = 0
    case neg =>
      rw [if_pos c8] at e
      obtain ⟨z, k1, k2⟩ := ih (x + 1) 1 (by omega) (by omega)
      exact ⟨z, e.trans k1, fun _ => Or.inl c8, fun _ => k2.mpr (Or.inl (by omega))⟩
    rw [if_neg (fun z => z c8)] at e
    have e115 := q_Model_tellList_115 v1 v2 v3 v5 tok v7 x R
    simp only [em_cd, if_pos (show 0 ≤ x ∧ x < 603 by omega), if_pos (show 0 ≤ tok ∧ tok < 603 by omega), x_cmp_eq, x32_s (show -1000000 ≤ x + 1 by omega) (show x + 1 ≤ 1000000 by omega)] at e115
    by_cases cn : R 442 x = 1 ∨ R 442 x = 34 ∨ R 442 x = 35
    · have e2 : f_Model_tellList_68 v1 v2 v3 v5 tok v7 v8 x R = f_Model_tellList_115 v1 v2 v3 v5 tok v7 x R := by
        rw [e]
        by_cases d1 : R 442 x = 1
        · rw [if_pos d1]
        · rw [if_neg d1]
          by_cases d2 : R 442 x = 34
          · rw [if_pos d2]
          · rw [if_neg d2, if_neg (by omega)]
      by_cases cs : R 445 x = R 445 tok
      · rw [if_neg (fun z => z cs)] at e115
        obtain ⟨z, k1, k2⟩ := ih (x + 1) 1 (by omega) (by omega)
        exact ⟨z, e2.trans (e115.trans k1), fun _ => Or.inr ⟨x, by omega, by omega, cn, cs⟩, fun _ => k2.mpr (Or.inl (by omega))⟩
      · rw [if_pos cs] at e115
        obtain ⟨z, k1, k2⟩ := ih (x + 1) 0 (by omega) (by omega)
        refine ⟨z, e2.trans (e115.trans k1), k2.trans ⟨fun y => y.elim (fun y => absurd rfl y) (fun ⟨y, y0, y1, y2, y3⟩ => Or.inr ⟨y, by omega, y1, y2, y3⟩), fun y => y.elim (fun y => absurd c8 y) (fun ⟨y, y0, y1, y2, y3⟩ => Or.inr ⟨y, ?_, y1, y2, y3⟩)⟩⟩
        by_cases yx : y = x
        · subst yx
          exact absurd y3 cs
        · omega
    · rw [if_neg (by omega), if_neg (by omega), if_pos (by omega)] at e
      obtain ⟨z, k1, k2⟩ := ih (x + 1) 0 (by omega) (by omega)
      refine ⟨z, e.trans k1, k2.trans ⟨fun y => y.elim (fun y => absurd rfl y) (fun ⟨y, y0, y1, y2, y3⟩ => Or.inr ⟨y, by omega, y1, y2, y3⟩), fun y => y.elim (fun y => absurd c8 y) (fun ⟨y, y0, y1, y2, y3⟩ => Or.inr ⟨y, ?_, y1, y2, y3⟩)⟩⟩
      by_cases yx : y = x
      · subst yx
        exact absurd y2 cn
      · omega
/-- a list in the making: d its word, a items, f0 where it begins -/
def LI (w s r k0 d a f0 t : Int) (C R : em_M) : Prop := (R 455 (30 * s + r) = d - 4 ∧ C (w + 5) r = d ∧ C (w + 10) r = a) ∧ (∀ i, 0 ≤ i → i < a → (R 464 (8 * (30 * s + r) + i) = C (w + 12 + r) i) ∧ (R 465 (8 * (30 * s + r) + i) = C (w + 43 + r) i ∧ 0 ≤ C (w + 43 + r) i ∧ C (w + 43 + r) i ≤ 999) ∧ (C 51 8 = 0 → (0 ≤ C (w + 12 + r) i ∧ C (w + 12 + r) i < k0) ∧ (d = 6 → 1 ≤ C (w + 43 + r) i)) ∧ ∃ x, f0 ≤ x ∧ x < t ∧ C 3 x = 14 ∧ isKin C k0 (C 5 x) (C (w + 12 + r) i)) ∧ ∀ x, f0 ≤ x → x < t → C 3 x = 14 → ∃ i, 0 ≤ i ∧ i < a ∧ isKin C k0 (C 5 x) (C (w + 12 + r) i)
theorem isKin.fr {C' : em_M} {v q : Int} (h : isKin C k0 v q) (e : ∀ j, C' 52 j = C 52 j) : isKin C' k0 v q := by
  unfold isKin at h ⊢
  simp only [e]
  exact h
/-- the readers go on, the list stays -/
theorem LI.fn {C' R' : em_M} {d a f0 : Int} (hw : 53 ≤ w) (rr : 0 ≤ r) (a8 : a ≤ 8) (h : LI w s r k0 d a f0 t C R) (hC : fnC C C') (hR : ∀ c j, 455 ≤ c → c ≤ 465 → R' c j = R c j) (mono : ¬ C 51 8 = 0 → ¬ C' 51 8 = 0) {t' : Int} (ht : t ≤ t') (hn : ∀ x, t ≤ x → x < t' → ¬ C 3 x = 14) : LI w s r k0 d a f0 t' C' R' := by
  obtain ⟨⟨a1, a2, a3⟩, b, c⟩ := h
  have g : ∀ c j, w ≤ c → C' c j = C c j := fun c j hc => hC c j (by omega)
  have g3 : ∀ c j, c < 51 → C' c j = C c j := fun c j hc => hC c j (by omega)
  have g52 : ∀ j, C' 52 j = C 52 j := fun j => hC 52 j (by omega)
  refine ⟨⟨by rw [hR 455 _ (by omega) (by omega)]; exact a1, by rw [g _ _ (by omega)]; exact a2, by rw [g _ _ (by omega)]; exact a3⟩, fun i i0 i1 => ?_, fun x x0 x1 x2 => ?_⟩
  · obtain ⟨y1, y2, y3, x, x0, x1, x2, x3⟩ := b i i0 i1
    rw [hR 464 _ (by omega) (by omega), hR 465 _ (by omega) (by omega), g (w + 12 + r) i (by omega), g (w + 43 + r) i (by omega)]
    refine ⟨y1, y2, fun z => y3 (Classical.byContradiction (fun y => mono y z)), x, x0, by omega, ?_, ?_⟩
    · rw [g3 3 x (by omega)]; exact x2
    · rw [g3 5 x (by omega)]; exact x3.fr g52
  · rw [g3 3 x (by omega)] at x2
    have hx : x < t := Classical.byContradiction (fun z => hn x (by omega) x1 x2)
    obtain ⟨i, i0, i1, i2⟩ := c x x0 hx x2
    rw [g3 5 x (by omega)]
    exact ⟨i, i0, i1, by rw [g (w + 12 + r) i (by omega)]; exact i2.fr g52⟩
/-- one item more: q by the name at t0 -/
theorem LI.add {C' R' : em_M} {d a f0 q v x : Int} (hw : 53 ≤ w) (rr : 0 ≤ r) (a0 : 0 ≤ a) (a8 : a < 8) (h : LI w s r k0 d a f0 t C R) (hC : ∀ c j, ¬ (((c = w + 12 + r ∨ c = w + 43 + r) ∧ j = a) ∨ (c = w + 10 ∧ j = r)) → C' c j = C c j) (c1 : C' (w + 12 + r) a = q) (c2 : C' (w + 43 + r) a = v) (c3 : C' (w + 10) r = a + 1) (hR : ∀ c j, 455 ≤ c → c ≤ 465 → ¬ ((c = 464 ∨ c = 465) ∧ j = 8 * (30 * s + r) + a) → R' c j = R c j) (d1 : R' 464 (8 * (30 * s + r) + a) = q) (d2 : R' 465 (8 * (30 * s + r) + a) = v) (v0 : 0 ≤ v ∧ v ≤ 999) (hz : C 51 8 = 0 → (0 ≤ q ∧ q < k0) ∧ (d = 6 → 1 ≤ v)) (x0 : f0 ≤ x) {t' : Int} (xt : t ≤ x) (xt' : x < t') (hx : C 3 x = 14) (hk : isKin C k0 (C 5 x) q) (hn : ∀ y, t ≤ y → y < t' → ¬ y = x → ¬ C 3 y = 14) : LI w s r k0 d (a + 1) f0 t' C' R' := by
  obtain ⟨⟨a1, a2, a3⟩, b, c⟩ := h
  have g3 : ∀ c j, c < 53 → C' c j = C c j := fun c j hc => hC c j (by omega)
  have g52 : ∀ j, C' 52 j = C 52 j := fun j => g3 52 j (by omega)
  refine ⟨⟨by rw [hR 455 _ (by omega) (by omega) (by omega)]; exact a1, by rw [hC _ _ (by omega)]; exact a2, c3⟩, fun i i0 i1 => ?_, fun y y0 y1 y2 => ?_⟩
  · by_cases ia : i = a
    · subst ia
      rw [d1, d2, c1, c2, g3 51 8 (by omega)]
      refine ⟨rfl, ⟨rfl, v0⟩, hz, x, x0, xt', ?_, ?_⟩
      · rw [g3 3 x (by omega)]; exact hx
      · rw [g3 5 x (by omega)]; exact hk.fr g52
    · obtain ⟨y1, y2, y3, x, x0, x1, x2, x3⟩ := b i i0 (by omega)
      rw [hR 464 _ (by omega) (by omega) (by omega), hR 465 _ (by omega) (by omega) (by omega), hC (w + 12 + r) i (by omega), hC (w + 43 + r) i (by omega), g3 51 8 (by omega)]
      refine ⟨y1, y2, y3, x, x0, by omega, ?_, ?_⟩
      · rw [g3 3 x (by omega)]; exact x2
      · rw [g3 5 x (by omega)]; exact x3.fr g52
  · rw [g3 3 y (by omega)] at y2
    rw [g3 5 y (by omega)]
    by_cases yx : y = x
    · subst yx
      exact ⟨a, a0, by omega, by rw [c1]; exact hk.fr g52⟩
    · have hy : y < t := Classical.byContradiction (fun z => hn y (by omega) y1 yx y2)
      obtain ⟨i, i0, i1, i2⟩ := c y y0 hy y2
      exact ⟨i, i0, by omega, by rw [hC (w + 12 + r) i (by omega)]; exact i2.fr g52⟩
end
