/-! PARTING: fixed parts. -/
theorem sumI_zero {g : Int → Int} (hg : ∀ x, 0 ≤ g x ∧ g x ≤ 1) : ∀ n : Nat, sumI g n = 0 ↔ ∀ x : Int, 0 ≤ x → x < n → g x = 0
  | 0 => ⟨fun _ x x0 x1 => (by omega), fun _ => rfl⟩
  | n + 1 => by
    have h := sumI_zero hg n
    have h1 := sumI_rng hg n
    have h2 := hg n
    show sumI g n + g (n : Int) = 0 ↔ _
    constructor
    · intro z x x0 x1
      by_cases q : x = n
      · rw [q]; omega
      · exact h.mp (by omega) x x0 (by omega)
    · intro z
      rw [h.mpr (fun x x0 x1 => z x x0 (by omega)), z n (by omega) (by omega)]
      rfl
theorem cnt_zero {v : Int} {S : Int → Prop} (h : mk v S) : cnt v 30 = 0 ↔ v = 0 := by
  rw [cnt_sum, sumI_zero (fun x => b2_rng _)]
  have hz := h.zero
  constructor
  · intro z
    refine hz.mpr (fun x x0 x1 x2 => ?_)
    have := z x x0 (by omega)
    rw [b2_z] at this
    exact this ((h.at_ x0 x1).mpr x2)
  · intro z x x0 x1
    rw [z, tb_0]
    exact b2_f (fun z => by cases z)
section
variable {M N : em_M}
/-- what the second half of a parting may change -/
def qC (M M' : em_M) : Prop := ∀ c j, ¬ (c = 130 ∨ c = 131 ∨ c = 133 ∨ (c = 127 ∧ 12 ≤ j ∧ j ≤ 17)) → M' c j = M c j
def qM (N N' : em_M) : Prop := ∀ c j, ¬ ((c = 439 ∧ ((44 ≤ j ∧ j ≤ 46) ∨ (86 ≤ j ∧ j ≤ 91))) ∨ (493 ≤ c ∧ c ≤ 496)) → N' c j = N c j
theorem qC.rf (M : em_M) : qC M M := fun _ _ _ => rfl
theorem qM.rf (N : em_M) : qM N N := fun _ _ _ => rfl
theorem qC.tr {A B C : em_M} (h : qC A B) (k : qC B C) : qC A C := fun c j hc => (k c j hc).trans (h c j hc)
theorem qM.tr {A B C : em_M} (h : qM A B) (k : qM B C) : qM A C := fun c j hc => (k c j hc).trans (h c j hc)
/-- who is no head has no part, if he had none -/
def zC (M M' : em_M) : Prop := ∀ x, 0 ≤ x → x < 30 → M 133 x = 1 → (∀ k, 0 ≤ k → k < 20 → ¬ tb (M 128 k) x = true) → M' 133 x = 1
theorem zC.rf (M : em_M) : zC M M := fun _ _ _ h _ => h
theorem zC.tr {A B C : em_M} (h : zC A B) (q : qC A B) (k : zC B C) : zC A C := fun x x0 x1 e f => k x x0 x1 (h x x0 x1 e f) (fun j j0 j1 => by
  rw [q 128 j (by omega)]
  exact f j j0 j1)
/-- what the fixed parts leave alone -/
def xC (M N M' N' : em_M) : Prop := zC M M' ∧ (∀ j, ¬ j = 12 → ¬ j = 14 → M' 127 j = M 127 j) ∧ ∀ x, N' 494 x = N 494 x
theorem xC.rf (M N : em_M) : xC M N M N := ⟨zC.rf M, fun _ _ _ => rfl, fun _ => rfl⟩
theorem xC.tr {A B C D E F : em_M} (h : xC A D B E) (q : qC A B) (k : xC B E C F) : xC A D C F := ⟨h.1.tr q k.1, fun j j0 j1 => (k.2.1 j j0 j1).trans (h.2.1 j j0 j1), fun x => (k.2.2 x).trans (h.2.2 x)⟩
/-- what stands in the second half -/
def bR (M N : em_M) (t L p : Int) : Prop := sRel M N t L ∧ hR M N t L p ∧ (N 439 74 = p ∧ N 439 75 = t) ∧ 0 ≤ p ∧ p < M 6 0
def wC (M M' : em_M) : Prop := ∀ c j, ¬ (c = 130 ∨ c = 131 ∨ c = 133 ∨ c = 134 ∨ (c = 127 ∧ 12 ≤ j ∧ j ≤ 17)) → M' c j = M c j
def wM (N N' : em_M) : Prop := ∀ c j, ¬ ((c = 439 ∧ ((44 ≤ j ∧ j ≤ 46) ∨ (86 ≤ j ∧ j ≤ 91))) ∨ (493 ≤ c ∧ c ≤ 498) ∨ (503 ≤ c ∧ c ≤ 505)) → N' c j = N c j
theorem bR.frw {M N M' N' : em_M} {t L p : Int} (h : bR M N t L p) (hC : wC M M') (hM : wM N N') : bR M' N' t L p := by
  obtain ⟨h1, ⟨a1, ⟨a2, a3⟩, a4, ⟨a5, a6⟩, a7, ⟨a8, a9⟩, a10⟩, ⟨h3, h4⟩, h5, h6⟩ := h
  unfold wC at hC
  unfold wM at hM
  have hw := h1.1.2.2.2.2.1.1
  have hwne : 53 ≤ M 0 11 ∧ M 0 11 ≤ 366 ∧ (M 0 11 = 53 ∨ M 0 11 = 366) := by omega
  have e6 : M' 6 0 = M 6 0 := hC 6 0 (by omega)
  have e11 : M' 0 11 = M 0 11 := hC 0 11 (by omega)
  have ew : M' (M 0 11) 0 = M (M 0 11) 0 := hC _ _ (by omega)
  have e17 : M' 439 17 = M 439 17 := hC _ _ (by omega)
  have lv : ∀ x, lvs N' t x ↔ lvs N t x := fun x => by
    unfold lvs
    rw [hM 471 _ (by omega), hM 472 _ (by omega)]
  have ln : ∀ y c, lin N' t y c ↔ lin N t y c := fun y c => lin.cong (fun b q0 q1 => hM b _ (by omega)) (hM 490 _ (by omega))
  have hdE : ∀ k x, hd N' t p (M 439 17) k x ↔ hd N t p (M 439 17) k x := fun k x => by
    unfold hd lvs
    rw [hM 489 _ (by omega), hM 471 _ (by omega), hM 472 _ (by omega), hM 449 _ (by omega), hM 490 _ (by omega)]
  refine ⟨h1.fr (E := 174) ⟨0, by omega, by omega, by omega⟩ (fun c j hc => hC c j (by omega)) (fun c j hc => hM c j (by omega)), ⟨?_, ⟨?_, ?_⟩, ?_, ⟨?_, ?_⟩, ?_, ⟨?_, ?_⟩, ?_⟩, ⟨?_, ?_⟩, h5, by rw [e6]; exact h6⟩
  · rw [e6]
    intro y y0 y1
    have h := a1 y y0 y1
    unfold lnOk at h ⊢
    rw [hM 490 _ (by omega)]
    exact ⟨h.1, h.2.trans ⟨fun ⟨c, u, v, x⟩ => ⟨c, u, v, (ln _ c).mpr x⟩, fun ⟨c, u, v, x⟩ => ⟨c, u, v, (ln _ c).mp x⟩⟩⟩
  · rw [e6]
    intro y y0 y1
    rw [hC 132 _ (by omega)]
    exact (a2 y y0 y1).cong (fun x _ _ => ⟨fun z => ⟨z.1, (ln _ _).mpr z.2⟩, fun z => ⟨z.1, (ln _ _).mp z.2⟩⟩)
  · rw [e6, hC 127 9 (by omega)]
    refine a3.cong (fun x _ _ => ?_)
    rw [lv, hM 490 _ (by omega)]
  · rw [hC 127 8 (by omega)]; exact a4
  · rw [e11, ew]
    intro k k0 k1 k2
    rw [hC 128 _ (by omega), hM 491 _ (by omega)]
    exact a5 k k0 k1 k2
  · rw [e11, ew, hC 127 10 (by omega)]
    refine a6.cong (fun x _ _ => ⟨fun ⟨k, u, v, y, z⟩ => ⟨k, u, v, y, by rw [hM 491 _ (by omega)]; exact z⟩, fun ⟨k, u, v, y, z⟩ => ⟨k, u, v, y, by rw [hM 491 _ (by omega)] at z; exact z⟩⟩)
  · rw [e11, ew, e6, e17]
    intro k k0 k1
    rw [hM 491 _ (by omega)]
    exact (a7 k k0 k1).cong (fun x _ _ => ⟨fun z => ⟨z.1, (hdE _ _).mpr z.2⟩, fun z => ⟨z.1, (hdE _ _).mp z.2⟩⟩)
  · rw [hC 127 11 (by omega), hM 439 78 (by omega)]; exact a8
  · rw [e6, hM 439 78 (by omega)]
    refine a9.cong (fun x _ _ => ?_)
    rw [hM 492 _ (by omega)]
  · rw [e6]
    intro x x0 x1
    rw [hM 492 _ (by omega), hC 129 _ (by omega)]
    exact a10 x x0 x1
  · rw [hM 439 74 (by omega)]; exact h3
  · rw [hM 439 75 (by omega)]; exact h4
theorem bR.fr {M N M' N' : em_M} {t L p : Int} (h : bR M N t L p) (hC : qC M M') (hM : qM N N') : bR M' N' t L p := h.frw (fun c j hc => hC c j (by omega)) (fun c j hc => hM c j (by omega))
/-- the parts of the two, and to whom fixed parts are given -/
def pR (M N : em_M) : Prop := (∀ x, 0 ≤ x → x < M 6 0 → fr_is N (M 133 x) (N 495 x) (N 496 x)) ∧ (∀ x, M 6 0 ≤ x → x < 30 → M 133 x = 1) ∧ mk (M 127 12) (fun x => x < M 6 0 ∧ ¬ N 493 x = -1) ∧ ∀ x, 0 ≤ x → x < M 6 0 → ¬ N 493 x = -1 → M 130 x = N 493 x
theorem f_give57 {r T own : Int} : ∀ (m : Nat) (c : Int) (M : em_M), 0 ≤ c → c ≤ 30 → 30 - c ≤ m → ∃ M', f_Parting_give_57 r T own c M = some (b2 (¬ own < 0 ∧ ¬ M 127 14 < 0), M') ∧ (∀ x, c ≤ x → x < 30 → tb T x = true → M' 133 x = own ∧ M' 130 x = r) ∧ M' 127 12 = x_or (M 127 12) T ∧ ∀ a j, ¬ ((a = 130 ∨ a = 133) ∧ c ≤ j ∧ j < 30 ∧ tb T j = true) → ¬ (a = 127 ∧ j = 12) → M' a j = M a j := by
  intro m
  have fin : ∀ (c : Int) (M : em_M), 30 ≤ c → ∃ M', f_Parting_give_57 r T own c M = some (b2 (¬ own < 0 ∧ ¬ M 127 14 < 0), M') ∧ (∀ x, c ≤ x → x < 30 → tb T x = true → M' 133 x = own ∧ M' 130 x = r) ∧ M' 127 12 = x_or (M 127 12) T ∧ ∀ a j, ¬ ((a = 130 ∨ a = 133) ∧ c ≤ j ∧ j < 30 ∧ tb T j = true) → ¬ (a = 127 ∧ j = 12) → M' a j = M a j := fun c M hc => by
    refine ⟨xup M 127 12 (x_or (M 127 12) T), ?_, fun x x0 x1 => by omega, xup_eq _ _ _ _, fun a j _ hb => xup_ne hb⟩
    rw [q_Parting_give_57, f_isSpent, em_cd, if_pos hc]
    simp only [Option.bind_some, em_cd, f_isSpent, nnz, xup_ne (show ¬ ((127 : Int) = 127 ∧ (14 : Int) = 12) by omega)]
    by_cases h1 : own < 0
    · rw [if_pos h1, b2_f (fun z => z.1 h1)]
    · rw [if_neg h1]
      by_cases h2 : M 127 14 < 0
      · rw [if_pos h2, b2_f (fun z => z.2 h2)]
      · rw [if_neg h2, b2_t ⟨h1, h2⟩]
  induction m with
  | zero =>
    intro c M c0 c1 hm
    exact fin c M (by omega)
  | succ m ih =>
    intro c M c0 c1 hm
    by_cases q : 30 ≤ c
    · exact fin c M q
    · have e := q_Parting_give_57 r T own c M
      rw [f_holds] at e
      simp only [em_cd, Option.bind_some, b2_z] at e
      rw [if_neg q, x32_s (by omega) (by omega)] at e
      by_cases f : tb T c = true
      · rw [if_neg (fun z => z ⟨c0, by omega, f⟩), if_pos (by omega), if_pos (by omega)] at e
        obtain ⟨M', h1, h2, h3, h4⟩ := ih (c + 1) (xup (xup M 133 c own) 130 c r) (by omega) (by omega) (by omega)
        simp (disch := omega) only [xup_ne] at h1 h3
        refine ⟨M', e.trans h1, fun x x0 x1 x2 => ?_, h3, fun a j ha hb => ?_⟩
        · by_cases xc : x = c
          · rw [xc, h4 133 c (by omega) (by omega), h4 130 c (by omega) (by omega), xup_ne (by omega), xup_eq, xup_eq]
            exact ⟨rfl, rfl⟩
          · exact h2 x (by omega) x1 x2
        · have hj : ¬ ((a = 130 ∨ a = 133) ∧ j = c) := fun z => by
            rw [z.2] at ha
            exact ha ⟨z.1, by omega, by omega, f⟩
          rw [h4 a j (fun z => ha ⟨z.1, by omega, z.2.2⟩) hb, xup_ne (by omega), xup_ne (by omega)]
      · rw [if_pos (fun z => f z.2.2)] at e
        obtain ⟨M', h1, h2, h3, h4⟩ := ih (c + 1) M (by omega) (by omega) (by omega)
        refine ⟨M', e.trans h1, fun x x0 x1 x2 => ?_, h3, fun a j ha hb => h4 a j (fun z => ha ⟨z.1, by omega, z.2.2⟩) hb⟩
        by_cases xc : x = c
        · rw [xc] at x2
          exact absurd x2 f
        · exact h2 x (by omega) x1 x2
/-- the reference's loop over the takers -/
theorem m_265 {g r s T ct up low n : Int} (hn : n ≤ 30) (hs : s = 0 ∨ s = 1) (hr : 0 ≤ r) (hr2 : r < 30) : ∀ (m : Nat) (c : Int) (N : em_M), N 439 47 = n → N 439 17 = s → 0 ≤ c → c ≤ n → n - c ≤ m → ∃ N', f_Model_parts_265 g (30 * s + r) T ct up low c N = f_Model_parts_265 g (30 * s + r) T ct up low n N' ∧ (∀ x, c ≤ x → x < n → tb T x = true → (N' 495 x = N 439 45 ∧ N' 496 x = N 439 46) ∧ N' 493 x = r) ∧ ∀ a j, ¬ ((a = 493 ∨ a = 495 ∨ a = 496) ∧ c ≤ j ∧ j < n ∧ tb T j = true) → N' a j = N a j := by
  intro m
  induction m with
  | zero =>
    intro c N h47 h17 c0 c1 hm
    exact ⟨N, by rw [show c = n by omega], fun x x0 x1 => by omega, fun _ _ _ => rfl⟩
  | succ m ih =>
    intro c N h47 h17 c0 c1 hm
    by_cases q : n ≤ c
    · exact ⟨N, by rw [show c = n by omega], fun x x0 x1 => by omega, fun _ _ _ => rfl⟩
    · have e := q_Model_parts_265 g (30 * s + r) T ct up low c N
      rw [f_Mhas N c0 (by omega)] at e
      simp only [em_cd, Option.bind_some, b2_z, q_Model_setPart] at e
      rw [if_neg (by omega), x32_s (x := c + 1) (by omega) (by omega)] at e
      by_cases f : tb T c = true
      · rw [if_pos (fun z => z f), if_pos (by omega), if_pos (by omega)] at e
        simp only [Option.bind_some] at e
        have e17 : (xup (xup N 495 c (N 439 45)) 496 c ((xup N 495 c (N 439 45)) 439 46)) 439 17 = s := by rw [xup_ne (by omega), xup_ne (by omega)]; exact h17
        rw [if_pos (by omega), e17, x32_s (x := 30 * s) (by omega) (by omega), x32_s (by omega) (by omega), show 30 * s + r - 30 * s = r by omega, xup_ne (show ¬ ((439 : Int) = 495 ∧ (46 : Int) = c) by omega)] at e
        generalize hX : xup (xup (xup N 495 c (N 439 45)) 496 c (N 439 46)) 493 c r = X at e
        have fX : ∀ a j, ¬ ((a = 493 ∨ a = 495 ∨ a = 496) ∧ j = c) → X a j = N a j := fun a j ha => by rw [← hX, xup_ne (by omega), xup_ne (by omega), xup_ne (by omega)]
        have vX : (X 495 c = N 439 45 ∧ X 496 c = N 439 46) ∧ X 493 c = r := by rw [← hX]; simp (disch := omega) only [xup_ne, xup_eq, and_self]
        obtain ⟨N', h1, h2, h3⟩ := ih (c + 1) X (by rw [fX _ _ (by omega)]; exact h47) (by rw [fX _ _ (by omega)]; exact h17) (by omega) (by omega) (by omega)
        rw [fX 439 45 (by omega), fX 439 46 (by omega)] at h2
        refine ⟨N', e.trans h1, fun x x0 x1 x2 => ?_, fun a j ha => ?_⟩
        · by_cases xc : x = c
          · rw [xc, h3 495 c (by omega), h3 496 c (by omega), h3 493 c (by omega)]
            exact vX
          · exact h2 x (by omega) x1 x2
        · have hj : ¬ ((a = 493 ∨ a = 495 ∨ a = 496) ∧ j = c) := fun z => by
            rw [z.2] at ha
            exact ha ⟨z.1, by omega, by omega, f⟩
          rw [h3 a j (fun z => ha ⟨z.1, by omega, z.2.2⟩), fX a j hj]
      · rw [if_neg (fun z => z f)] at e
        obtain ⟨N', h1, h2, h3⟩ := ih (c + 1) N h47 h17 (by omega) (by omega) (by omega)
        refine ⟨N', e.trans h1, fun x x0 x1 x2 => ?_, fun a j ha => h3 a j (fun z => ha ⟨z.1, by omega, z.2.2⟩)⟩
        by_cases xc : x = c
        · rw [xc] at x2
          exact absurd x2 f
        · exact h2 x (by omega) x1 x2
end
