/-! PARTING: down the lines. -/
theorem dd152 {e : Nat} (h : e ≤ 37) : em_dd (e + 7) 152 = e + 7 := by
  unfold em_dd
  have h1 : em_lev 152 = 45 := by decide
  rw [h1]
  have h2 : Nat.blt 45 (e + 7) = false := by
    cases q : Nat.blt 45 (e + 7) with
    | false => rfl
    | true =>
      have := Nat.blt_eq.mp q
      omega
  rw [h2]
  rfl
section
variable {M N : em_M}
theorem m_ofLine {t x c : Int} (ht : N 439 75 = t) (c0 : 0 ≤ c) (c1 : c < 30) : (lin N t x c ∧ f_Model_isOfLine x c N = some (1, N)) ∨ (¬ lin N t x c ∧ f_Model_isOfLine x c N = some (0, N)) := by
  have e := q_Model_isOfLine x c N
  simp only [em_cd] at e
  rw [if_pos (by omega)] at e
  have e20 := q_Model_isOfLine_20 c N
  rw [ht] at e20
  have in20 : (N 469 c = x ∨ N 470 c = x) → f_Model_isOfLine x c N = f_Model_isOfLine_20 c N → (lin N t x c ∧ f_Model_isOfLine x c N = some (1, N)) ∨ (¬ lin N t x c ∧ f_Model_isOfLine x c N = some (0, N)) := fun z1 z2 => by
    rw [z2, e20]
    rcases m_lives (N := N) (x := c) (t := t) c0 c1 with ⟨l1, l2⟩ | ⟨l1, l2⟩
    · rw [l2]
      simp only [Option.bind_some, em_cd]
      rw [if_pos (by omega)]
      exact Or.inl ⟨⟨z1, Or.inl l1⟩, rfl⟩
    · rw [l2]
      simp only [Option.bind_some, em_cd, eq_self, not_true_eq_false, if_false, ht]
      rw [if_pos (by omega)]
      by_cases b1 : t < N 471 c
      · rw [if_pos b1]
        exact Or.inr ⟨fun z => z.2.elim l1 (fun z => by omega), rfl⟩
      · rw [if_neg b1, if_pos (by omega)]
        by_cases b2 : N 490 c = 0
        · rw [if_pos b2]
          exact Or.inr ⟨fun z => z.2.elim l1 (fun z => z.2 b2), rfl⟩
        · rw [if_neg b2]
          exact Or.inl ⟨⟨z1, Or.inr ⟨by omega, b2⟩⟩, rfl⟩
  by_cases f1 : N 469 c = x
  · rw [if_pos f1] at e
    exact in20 (Or.inl f1) e
  · rw [if_neg f1, if_pos (by omega)] at e
    by_cases f2 : N 470 c = x
    · rw [if_neg (fun z => z f2)] at e
      exact in20 (Or.inr f2) e
    · rw [if_pos f2] at e
      exact Or.inr ⟨fun z => z.1.elim f1 f2, e⟩
/-- what is static on the way down -/
def dn (M N : em_M) (t L n : Int) : Prop := (0 ≤ n ∧ n ≤ 30) ∧ (N 439 47 = n ∧ N 439 75 = t ∧ M 127 8 = L) ∧ mk L (fun x => x < n ∧ lvs N t x) ∧ (∀ y, 0 ≤ y → y < n → mk (M 132 y) (fun c => c < n ∧ lin N t y c)) ∧ (∀ c, 0 ≤ c → c < n → N 469 c < c ∧ N 470 c < c) ∧ ∀ y, 0 ≤ y → y < n → lnOk N t n y
def dF (M M' : em_M) : Prop := ∀ a j, ¬ (a = 134 ∧ 0 ≤ j ∧ j < 30) → M' a j = M a j
def dG (h : Int) (N N' : em_M) : Prop := ∀ a j, ¬ ((a = 439 ∧ 44 ≤ j ∧ j ≤ 46) ∨ a = 497 ∨ a = 498 ∨ (503 ≤ a ∧ a ≤ 505 ∧ h ≤ j)) → N' a j = N a j
theorem dn.fr {M' N' : em_M} {t L n h : Int} (k : dn M N t L n) (hC : dF M M') (hM : dG h N N') : dn M' N' t L n := by
  obtain ⟨a1, ⟨a2, a3, a4⟩, a5, a6, a7, a8⟩ := k
  unfold dF at hC
  unfold dG at hM
  have lv : ∀ x, lvs N' t x ↔ lvs N t x := fun x => by
    unfold lvs
    rw [hM 471 _ (by omega), hM 472 _ (by omega)]
  have ln : ∀ y c, lin N' t y c ↔ lin N t y c := fun y c => lin.cong (fun b q0 q1 => hM b _ (by omega)) (hM 490 _ (by omega))
  refine ⟨a1, ⟨by rw [hM _ _ (by omega)]; exact a2, by rw [hM _ _ (by omega)]; exact a3, by rw [hC _ _ (by omega)]; exact a4⟩, ?_, ?_, ?_, ?_⟩
  · exact a5.cong (fun x _ _ => ⟨fun z => ⟨z.1, (lv x).mpr z.2⟩, fun z => ⟨z.1, (lv x).mp z.2⟩⟩)
  · intro y y0 y1
    rw [hC 132 _ (by omega)]
    exact (a6 y y0 y1).cong (fun x _ _ => ⟨fun z => ⟨z.1, (ln _ _).mpr z.2⟩, fun z => ⟨z.1, (ln _ _).mp z.2⟩⟩)
  · intro c c0 c1
    rw [hM 469 _ (by omega), hM 470 _ (by omega)]
    exact a7 c c0 c1
  · intro y y0 y1
    have h := a8 y y0 y1
    unfold lnOk at h ⊢
    rw [hM 490 _ (by omega)]
    exact ⟨h.1, h.2.trans ⟨fun ⟨c, u, v, x⟩ => ⟨c, u, v, (ln _ c).mpr x⟩, fun ⟨c, u, v, x⟩ => ⟨c, u, v, (ln _ c).mp x⟩⟩⟩
/-- the shares of the two -/
def sh (M N : em_M) (n : Int) : Prop := (∀ x, 0 ≤ x → x < n → fr_is N (M 134 x) (N 497 x) (N 498 x)) ∧ ∀ x, 0 ≤ x → x < 30 → ¬ tb (M 127 8) x = true → M 134 x = 1
def onl (N : em_M) (t x : Int) : Prop := lvs N t x ∨ ¬ N 490 x = 0
/-- the reference counts those of the line -/
theorem m_94 {t x h v n : Int} (hn : n ≤ 30) (x0 : 0 ≤ x) (h47 : N 439 47 = n) (h75 : N 439 75 = t) (hv : mk v (fun c => c < n ∧ lin N t x c)) : ∀ (m : Nat) (c k : Int), x < c → c ≤ n → n - c ≤ m → 0 ≤ k → k ≤ c → f_Model_goesDown_94 h x k c N = f_Model_goesDown_94 h x (k + (cnt v n.toNat - cnt v c.toNat)) n N := by
  intro m
  induction m with
  | zero =>
    intro c k hc c1 hm k0 k1
    rw [show c = n by omega, Int.sub_self, Int.add_zero]
  | succ m ih =>
    intro c k hc c1 hm k0 k1
    by_cases q : n ≤ c
    · rw [show c = n by omega, Int.sub_self, Int.add_zero]
    · have e := q_Model_goesDown_94 h x k c N
      have hstep : cnt v (c + 1).toNat = cnt v c.toNat + b2 (tb v c = true) := by
        rw [show (c + 1).toNat = c.toNat + 1 by omega]
        show cnt v c.toNat + b2 (tb v (c.toNat : Int) = true) = _
        rw [show ((c.toNat : Nat) : Int) = c by omega]
      simp only [em_cd] at e
      rw [if_neg (by omega)] at e
      rcases m_ofLine (N := N) (x := x) h75 (by omega : 0 ≤ c) (by omega) with ⟨l1, l2⟩ | ⟨l1, l2⟩
      · rw [l2] at e
        simp only [Option.bind_some] at e
        rw [if_neg (by omega), x32_s (by omega) (by omega), x32_s (by omega) (by omega)] at e
        rw [e, ih (c + 1) (k + 1) (by omega) (by omega) (by omega) (by omega) (by omega), hstep, b2_t ((hv.at_ (by omega) (by omega)).mpr ⟨by omega, l1⟩)]
        rw [show k + 1 + (cnt v n.toNat - (cnt v c.toNat + 1)) = k + (cnt v n.toNat - cnt v c.toNat) by omega]
      · rw [l2] at e
        simp only [Option.bind_some, if_true] at e
        rw [x32_s (by omega) (by omega)] at e
        rw [e, ih (c + 1) k (by omega) (by omega) (by omega) k0 (by omega), hstep, b2_f (fun z => l1 ((hv.at_ (by omega) (by omega)).mp z).2), Int.add_zero]
theorem cnt_le (v : Int) : ∀ {a b : Nat}, a ≤ b → cnt v a ≤ cnt v b
  | a, 0, h => by rw [show a = 0 by omega]; exact Int.le_refl _
  | a, b + 1, h => by
    by_cases q : a = b + 1
    · rw [q]; exact Int.le_refl _
    · have h1 := cnt_le v (show a ≤ b by omega)
      have h2 := (b2_rng (tb v (b : Int) = true)).1
      show cnt v a ≤ cnt v b + b2 (tb v (b : Int) = true)
      omega
theorem cnt_step {v c : Int} (c0 : 0 ≤ c) : cnt v (c + 1).toNat = cnt v c.toNat + b2 (tb v c = true) := by
  rw [show (c + 1).toNat = c.toNat + 1 by omega]
  show cnt v c.toNat + b2 (tb v (c.toNat : Int) = true) = _
  rw [show ((c.toNat : Nat) : Int) = c by omega]
/-- the reference puts them on its stack, the lowest last -/
theorem m_162 {t x h v n up low : Int} (hn : n ≤ 30) (x0 : 0 ≤ x) (h75 : N 439 75 = t) (h0 : 0 ≤ h) (h1 : h ≤ 900) (hv : mk v (fun c => c < n ∧ lin N t x c)) : ∀ (m : Nat) (c : Int) (N1 : em_M), (∀ a j, ¬ (503 ≤ a ∧ a ≤ 505 ∧ h ≤ j) → N1 a j = N a j) → x ≤ c → c < n → c - x ≤ m → (∀ y, c < y → y < n → tb v y = true → N1 503 (h + (cnt v n.toNat - cnt v (y + 1).toNat)) = y ∧ N1 504 (h + (cnt v n.toNat - cnt v (y + 1).toNat)) = up ∧ N1 505 (h + (cnt v n.toNat - cnt v (y + 1).toNat)) = low) → ∃ N', f_Model_goesDown_162 (h + (cnt v n.toNat - cnt v (c + 1).toNat)) x up low c N1 = f_Model_goesDown_33 (h + (cnt v n.toNat - cnt v (x + 1).toNat)) N' ∧ (∀ a j, ¬ (503 ≤ a ∧ a ≤ 505 ∧ h ≤ j) → N' a j = N a j) ∧ ∀ y, x < y → y < n → tb v y = true → N' 503 (h + (cnt v n.toNat - cnt v (y + 1).toNat)) = y ∧ N' 504 (h + (cnt v n.toNat - cnt v (y + 1).toNat)) = up ∧ N' 505 (h + (cnt v n.toNat - cnt v (y + 1).toNat)) = low := by
  intro m
  induction m with
  | zero =>
    intro c N1 hF hc c1 hm hy
    rw [show c = x by omega] at hy ⊢
    refine ⟨N1, ?_, hF, hy⟩
    rw [q_Model_goesDown_162, em_cd, if_pos (by omega)]
  | succ m ih =>
    intro c N1 hF hc c1 hm hy
    by_cases q : c = x
    · rw [q] at hy ⊢
      refine ⟨N1, ?_, hF, hy⟩
      rw [q_Model_goesDown_162, em_cd, if_pos (by omega)]
    · have lc : lin N1 t x c ↔ lin N t x c := lin.cong (fun b b0 b1 => hF b _ (by omega)) (hF 490 _ (by omega))
      have hst := cnt_step (v := v) (show 0 ≤ c by omega)
      have hle : cnt v (c + 1).toNat ≤ cnt v n.toNat := cnt_le v (by omega)
      have hr := cnt_rng v n.toNat
      have hr2 := cnt_rng v (c + 1).toNat
      have e := q_Model_goesDown_162 (h + (cnt v n.toNat - cnt v (c + 1).toNat)) x up low c N1
      simp only [em_cd] at e
      rw [if_neg (by omega)] at e
      rcases m_ofLine (N := N1) (t := t) (x := x) (by rw [hF _ _ (by omega)]; exact h75) (by omega : 0 ≤ c) (by omega) with ⟨l1, l2⟩ | ⟨l1, l2⟩
      · have tv : tb v c = true := (hv.at_ (by omega) (by omega)).mpr ⟨c1, lc.mp l1⟩
        rw [b2_t tv] at hst
        rw [l2] at e
        simp only [Option.bind_some] at e
        rw [if_pos (by omega), if_pos (by omega), if_pos (by omega), if_pos (by omega), x32_s (by omega) (by omega), x32_s (by omega) (by omega)] at e
        rw [e, show h + (cnt v n.toNat - cnt v (c + 1).toNat) + 1 = h + (cnt v n.toNat - cnt v (c + -1 + 1).toNat) by rw [show c + -1 + 1 = c by omega]; omega]
        have hgt : ∀ y, c < y → y < n → tb v y = true → ¬ h + (cnt v n.toNat - cnt v (y + 1).toNat) = h + (cnt v n.toNat - cnt v (c + 1).toNat) := fun y y0 y1 y2 => by
          have k1 := cnt_step (v := v) (show 0 ≤ y by omega)
          rw [b2_t y2] at k1
          have k2 : cnt v (c + 1).toNat ≤ cnt v y.toNat := cnt_le v (by omega)
          omega
        refine ih (c + -1) _ (fun a j ha => ?_) (by omega) (by omega) (by omega) (fun y y0 y1 y2 => ?_)
        · rw [xup_ne (by omega), xup_ne (by omega), xup_ne (by omega)]
          exact hF a j ha
        · by_cases yc : y = c
          · rw [yc]
            simp (disch := omega) only [xup_ne, xup_eq, and_self]
          · have := hgt y (by omega) y1 y2
            rw [xup_ne (by omega), xup_ne (by omega), xup_ne (by omega), xup_ne (by omega), xup_ne (by omega), xup_ne (by omega), xup_ne (by omega), xup_ne (by omega), xup_ne (by omega)]
            exact hy y (by omega) y1 y2
      · have tv : ¬ tb v c = true := fun z => l1 (lc.mpr ((hv.at_ (by omega) (by omega)).mp z).2)
        rw [b2_f tv] at hst
        rw [l2] at e
        simp only [Option.bind_some, eq_self, not_true_eq_false, if_false] at e
        rw [x32_s (by omega) (by omega)] at e
        rw [e, show h + (cnt v n.toNat - cnt v (c + 1).toNat) = h + (cnt v n.toNat - cnt v (c + -1 + 1).toNat) by rw [show c + -1 + 1 = c by omega]; omega]
        refine ih (c + -1) N1 hF (by omega) (by omega) (by omega) (fun y y0 y1 y2 => ?_)
        by_cases yc : y = c
        · rw [yc] at y2
          exact absurd y2 tv
        · exact hy y (by omega) y1 y2
end
