/-! KIN: a step of the reference. -/
section
variable {M : em_M}
/-- to whom the step leads, in the reference's own rows -/
def mLead (M : em_M) (t r d x : Int) : Prop :=
  if r = 0 then d < x ∧ x < M 439 47 ∧ (M 469 x = d ∨ M 470 x = d) else if r = 1 then M 469 d = x else if r = 2 then M 470 d = x else if r = 3 then ∃ q, 0 ≤ q ∧ q < M 439 56 ∧ (M 478 q ≤ t - 1 ∧ (M 479 q = -1 ∨ t - 1 < M 479 q)) ∧ ((M 476 q = d ∧ M 477 q = x) ∨ (M 477 q = d ∧ M 476 q = x)) else tb (M 489 (30 * (r - 4) + d)) x = true
theorem m_st116 {from' r sx t i : Int} (hn : M 439 47 ≤ 30) (i0 : 0 ≤ i) (i1 : i < 30) : ∀ (n : Nat) (acc c : Int) (A : Int → Prop), mk acc A → 0 ≤ c → M 439 47 - c ≤ n → ∃ acc', mk acc' (fun x => A x ∨ (c ≤ x ∧ x < M 439 47 ∧ (M 469 x = i ∨ M 470 x = i))) ∧ f_Model_steps_116 from' r sx t acc i c M = f_Model_steps_6 from' r sx t acc' (i + 1) M := by
  intro n
  induction n with
  | zero =>
    intro acc c A hA c0 hk
    refine ⟨acc, hA.cong (fun x _ _ => ⟨Or.inl, fun z => z.elim id (fun z => by omega)⟩), ?_⟩
    rw [q_Model_steps_116, em_cd, if_pos (by omega), x32_s (by omega) (by omega)]
  | succ n ih =>
    intro acc c A hA c0 hk
    by_cases q : M 439 47 ≤ c
    · refine ⟨acc, hA.cong (fun x _ _ => ⟨Or.inl, fun z => z.elim id (fun z => by omega)⟩), ?_⟩
      rw [q_Model_steps_116, em_cd, if_pos q, x32_s (by omega) (by omega)]
    · have e := q_Model_steps_116 from' r sx t acc i c M
      have add : M 469 c = i ∨ M 470 c = i → f_Model_steps_116 from' r sx t acc i c M = f_Model_steps_116 from' r sx t (x_or acc (x_shl 1 c)) i (c + 1) M → ∃ acc', mk acc' (fun x => A x ∨ (c ≤ x ∧ x < M 439 47 ∧ (M 469 x = i ∨ M 470 x = i))) ∧ f_Model_steps_116 from' r sx t acc i c M = f_Model_steps_6 from' r sx t acc' (i + 1) M := fun hc e2 => by
        obtain ⟨a', h1, h2⟩ := ih _ (c + 1) _ (hA.or (mk_bit c0 (by omega))) (by omega) (by omega)
        refine ⟨a', h1.cong (fun x _ _ => ?_), e2.trans h2⟩
        constructor
        · rintro ((z | z) | z)
          · exact Or.inl z
          · exact Or.inr ⟨by omega, by omega, by rw [z]; exact hc⟩
          · exact Or.inr ⟨by omega, z.2⟩
        · rintro (z | z)
          · exact Or.inl (Or.inl z)
          · by_cases w : x = c
            · exact Or.inl (Or.inr w)
            · exact Or.inr ⟨by omega, z.2⟩
      by_cases c1 : M 469 c = i
      · simp (disch := omega) only [em_cd, if_pos, if_neg, x32_s] at e
        exact add (Or.inl c1) e
      · by_cases c2 : M 470 c = i
        · simp (disch := omega) only [em_cd, if_pos, if_neg, x32_s] at e
          exact add (Or.inr c2) e
        · simp (disch := omega) only [em_cd, if_pos, if_neg, x32_s] at e
          obtain ⟨a', h1, h2⟩ := ih acc (c + 1) A hA (by omega) (by omega)
          refine ⟨a', h1.cong (fun x _ _ => ?_), e.trans h2⟩
          constructor
          · rintro (z | z)
            · exact Or.inl z
            · exact Or.inr ⟨by omega, z.2⟩
          · rintro (z | z)
            · exact Or.inl z
            · have : ¬ x = c := fun w => by rw [w] at z; omega
              exact Or.inr ⟨by omega, z.2⟩
theorem m_st170 {from' r sx t i : Int} (hm : M 439 56 ≤ 60) (hr : ∀ q, 0 ≤ q → q < M 439 56 → (0 ≤ M 476 q ∧ M 476 q < 30) ∧ (0 ≤ M 477 q ∧ M 477 q < 30)) (ht : x32 (t - 1) = t - 1) (i0 : 0 ≤ i) (i1 : i < 30) : ∀ (n : Nat) (acc c : Int) (A : Int → Prop), mk acc A → 0 ≤ c → M 439 56 - c ≤ n → ∃ acc', mk acc' (fun x => A x ∨ ∃ q, c ≤ q ∧ q < M 439 56 ∧ (M 478 q ≤ t - 1 ∧ (M 479 q = -1 ∨ t - 1 < M 479 q)) ∧ ((M 476 q = i ∧ M 477 q = x) ∨ (M 477 q = i ∧ M 476 q = x))) ∧ f_Model_steps_170 from' r sx t acc i c M = f_Model_steps_6 from' r sx t acc' (i + 1) M := by
  intro n
  induction n with
  | zero =>
    intro acc c A hA c0 hk
    refine ⟨acc, hA.cong (fun x _ _ => ⟨Or.inl, fun z => z.elim id (fun ⟨q, z1, z2, _⟩ => by omega)⟩), ?_⟩
    rw [q_Model_steps_170, em_cd, if_pos (by omega), x32_s (by omega) (by omega)]
  | succ n ih =>
    intro acc c A hA c0 hk
    by_cases q : M 439 56 ≤ c
    · refine ⟨acc, hA.cong (fun x _ _ => ⟨Or.inl, fun z => z.elim id (fun ⟨q, z1, z2, _⟩ => by omega)⟩), ?_⟩
      rw [q_Model_steps_170, em_cd, if_pos q, x32_s (by omega) (by omega)]
    · obtain ⟨⟨r1, r2⟩, r3, r4⟩ := hr c c0 (by omega)
      have e : f_Model_steps_170 from' r sx t acc i c M = f_Model_steps_223 from' r sx t acc i c (b2 (M 478 c ≤ t - 1 ∧ (M 479 c = -1 ∨ t - 1 < M 479 c))) M := by
        rw [q_Model_steps_170, ht]
        by_cases d1 : t - 1 < M 478 c
        · rw [b2_f (by omega)]
          simp (disch := omega) only [em_cd, if_pos, if_neg]
        · by_cases d2 : M 479 c = -1
          · rw [b2_t (by omega)]
            simp (disch := omega) only [em_cd, if_pos, if_neg]
          · by_cases d3 : M 479 c ≤ t - 1
            · rw [b2_f (by omega)]
              simp (disch := omega) only [em_cd, if_pos, if_neg]
            · rw [b2_t (by omega)]
              simp (disch := omega) only [em_cd, if_pos, if_neg]
      rw [e]
      by_cases hc : M 478 c ≤ t - 1 ∧ (M 479 c = -1 ∨ t - 1 < M 479 c)
      · rw [b2_t hc]
        -- the two halves
        have h256 : ∀ (acc : Int) (A : Int → Prop), mk acc A → ∃ acc', mk acc' (fun x => A x ∨ (M 477 c = i ∧ M 476 c = x)) ∧ f_Model_steps_256 from' r sx t acc i c 1 M = f_Model_steps_170 from' r sx t acc' i (c + 1) M := fun acc A hA => by
          have e := q_Model_steps_256 from' r sx t acc i c 1 M
          by_cases d : M 477 c = i
          · simp (disch := omega) only [em_cd, if_pos, if_neg, x32_s] at e
            exact ⟨_, (hA.or (mk_bit r1 r2)).cong (fun x _ _ => ⟨fun z => z.elim Or.inl (fun z => Or.inr ⟨d, z.symm⟩), fun z => z.elim Or.inl (fun z => Or.inr z.2.symm)⟩), e⟩
          · simp (disch := omega) only [em_cd, if_pos, if_neg, x32_s] at e
            exact ⟨_, hA.cong (fun x _ _ => ⟨Or.inl, fun z => z.elim id (fun z => absurd z.1 d)⟩), e⟩
        have h223 : ∃ acc', mk acc' (fun x => (A x ∨ (M 476 c = i ∧ M 477 c = x)) ∨ (M 477 c = i ∧ M 476 c = x)) ∧ f_Model_steps_223 from' r sx t acc i c 1 M = f_Model_steps_170 from' r sx t acc' i (c + 1) M := by
          have e := q_Model_steps_223 from' r sx t acc i c 1 M
          by_cases d : M 476 c = i
          · simp (disch := omega) only [em_cd, if_pos, if_neg] at e
            obtain ⟨a', h1, h2⟩ := h256 _ _ (hA.or (mk_bit r3 r4))
            exact ⟨a', h1.cong (fun x _ _ => or_congr_left ⟨fun z => z.elim Or.inl (fun z => Or.inr ⟨d, z.symm⟩), fun z => z.elim Or.inl (fun z => Or.inr z.2.symm)⟩), e.trans h2⟩
          · simp (disch := omega) only [em_cd, if_pos, if_neg] at e
            obtain ⟨a', h1, h2⟩ := h256 acc A hA
            exact ⟨a', h1.cong (fun x _ _ => or_congr_left ⟨Or.inl, fun z => z.elim id (fun z => absurd z.1 d)⟩), e.trans h2⟩
        obtain ⟨a1, h1, h2⟩ := h223
        obtain ⟨a2, h3, h4⟩ := ih a1 (c + 1) _ h1 (by omega) (by omega)
        refine ⟨a2, h3.cong (fun x _ _ => ?_), h2.trans h4⟩
        constructor
        · rintro (((z | z) | z) | ⟨q, z1, z2⟩)
          · exact Or.inl z
          · exact Or.inr ⟨c, by omega, by omega, hc, Or.inl z⟩
          · exact Or.inr ⟨c, by omega, by omega, hc, Or.inr z⟩
          · exact Or.inr ⟨q, by omega, z2⟩
        · rintro (z | ⟨q, z1, z2, z3, z4⟩)
          · exact Or.inl (Or.inl (Or.inl z))
          · by_cases w : q = c
            · rw [w] at z4
              rcases z4 with z4 | z4
              · exact Or.inl (Or.inl (Or.inr z4))
              · exact Or.inl (Or.inr z4)
            · exact Or.inr ⟨q, by omega, z2, z3, z4⟩
      · rw [b2_f hc]
        have e2 : f_Model_steps_223 from' r sx t acc i c 0 M = f_Model_steps_170 from' r sx t acc i (c + 1) M := by
          rw [q_Model_steps_223, em_cd, if_pos rfl, q_Model_steps_256, em_cd, if_pos rfl, x32_s (by omega) (by omega)]
        obtain ⟨a', h1, h2⟩ := ih acc (c + 1) A hA (by omega) (by omega)
        refine ⟨a', h1.cong (fun x _ _ => ?_), e2.trans h2⟩
        constructor
        · rintro (z | ⟨q, z1, z2⟩)
          · exact Or.inl z
          · exact Or.inr ⟨q, by omega, z2⟩
        · rintro (z | ⟨q, z1, z2, z3, z4⟩)
          · exact Or.inl z
          · have : ¬ q = c := fun w => hc (by rw [← w]; exact z3)
            exact Or.inr ⟨q, by omega, z2, z3, z4⟩
/-- what the reference's rows keep to -/
def mOk (M : em_M) : Prop := (0 ≤ M 439 47 ∧ M 439 47 ≤ 30) ∧ (0 ≤ M 439 56 ∧ M 439 56 ≤ 60) ∧ (∀ p, 0 ≤ p → p < M 439 47 → (-1 ≤ M 469 p ∧ M 469 p < p) ∧ (-1 ≤ M 470 p ∧ M 470 p < p)) ∧ ∀ q, 0 ≤ q → q < M 439 56 → (0 ≤ M 476 q ∧ M 476 q < 30) ∧ (0 ≤ M 477 q ∧ M 477 q < 30)
theorem m_st6 {from' r sx t : Int} {S : Int → Prop} (hO : mOk M) (ht : x32 (t - 1) = t - 1) (hs : mk from' S) (r0 : 0 ≤ r) (r1 : r < 24) (hT : 4 ≤ r → ∀ d, 0 ≤ d → d < M 439 47 → mk (M 489 (30 * (r - 4) + d)) (fun x => tb (M 489 (30 * (r - 4) + d)) x = true)) : ∀ (n : Nat) (acc i : Int) (A : Int → Prop), mk acc A → 0 ≤ i → M 439 47 - i ≤ n → ∃ acc', mk acc' (fun x => A x ∨ ∃ d, i ≤ d ∧ d < M 439 47 ∧ S d ∧ mLead M t r d x) ∧ f_Model_steps_6 from' r sx t acc i M = f_Model_steps_305 sx t acc' 0 0 M := by
  obtain ⟨⟨n0, n1⟩, ⟨m0, m1⟩, hp, hq⟩ := hO
  intro n
  induction n with
  | zero =>
    intro acc i A hA i0 hk
    refine ⟨acc, hA.cong (fun x _ _ => ⟨Or.inl, fun z => z.elim id (fun ⟨d, z1, z2, _⟩ => by omega)⟩), ?_⟩
    rw [q_Model_steps_6, em_cd, if_pos (by omega)]
  | succ n ih =>
    intro acc i A hA i0 hk
    by_cases q : M 439 47 ≤ i
    · refine ⟨acc, hA.cong (fun x _ _ => ⟨Or.inl, fun z => z.elim id (fun ⟨d, z1, z2, _⟩ => by omega)⟩), ?_⟩
      rw [q_Model_steps_6, em_cd, if_pos q]
    · have e := q_Model_steps_6 from' r sx t acc i M
      rw [x_bit i0 (by omega)] at e
      simp only [em_cd, b2_z, nn] at e
      rw [if_neg q, x32_s (x := i + 1) (by omega) (by omega)] at e
      by_cases hb : S i
      · rw [if_pos ((hs.at_ i0 (by omega)).mpr hb)] at e
        -- one more
        have one : ∃ acc', mk acc' (fun x => A x ∨ mLead M t r i x) ∧ f_Model_steps_6 from' r sx t acc i M = f_Model_steps_6 from' r sx t acc' (i + 1) M := by
          obtain ⟨⟨a1, a2⟩, b1, b2'⟩ := hp i i0 (by omega)
          have k86 : ∀ m, -1 ≤ m → m < i → ∃ acc', mk acc' (fun x => A x ∨ m = x) ∧ f_Model_steps_86 from' r sx t acc i m M = f_Model_steps_6 from' r sx t acc' (i + 1) M := fun m h0 h1 => by
            rw [q_Model_steps_86]
            simp only [em_cd]
            rw [x32_s (x := i + 1) (by omega) (by omega)]
            by_cases d : m = -1
            · rw [if_pos d]
              exact ⟨acc, hA.cong (fun x x0 _ => ⟨Or.inl, fun z => z.elim id (fun z => by omega)⟩), rfl⟩
            · rw [if_neg d]
              exact ⟨_, (hA.or (mk_bit (by omega) (by omega))).cong (fun x _ _ => ⟨fun z => z.elim Or.inl (fun z => Or.inr z.symm), fun z => z.elim Or.inl (fun z => Or.inr z.symm)⟩), rfl⟩
          by_cases hr : r < 4
          · rw [if_pos hr] at e
            have hr4 : r = 0 ∨ r = 1 ∨ r = 2 ∨ r = 3 := by omega
            rcases hr4 with rfl | rfl | rfl | rfl
            · simp (disch := omega) only [if_pos, if_neg] at e
              obtain ⟨a', h1, h2⟩ := m_st116 (from' := from') (r := 0) (sx := sx) (t := t) n1 i0 (by omega : i < 30) 30 acc (i + 1) A hA (by omega) (by omega)
              refine ⟨a', h1.cong (fun x _ _ => ?_), e.trans h2⟩
              unfold mLead
              rw [if_pos rfl]
              exact or_congr_right ⟨fun z => ⟨by omega, z.2⟩, fun z => ⟨by omega, z.2⟩⟩
            · simp (disch := omega) only [if_pos, if_neg] at e
              obtain ⟨a', h1, h2⟩ := k86 _ a1 a2
              refine ⟨a', h1.cong (fun x _ _ => ?_), e.trans h2⟩
              unfold mLead
              rw [if_neg (by omega), if_pos rfl]
            · simp (disch := omega) only [if_pos, if_neg] at e
              obtain ⟨a', h1, h2⟩ := k86 _ b1 b2'
              refine ⟨a', h1.cong (fun x _ _ => ?_), e.trans h2⟩
              unfold mLead
              rw [if_neg (by omega), if_neg (by omega), if_pos rfl]
            · simp (disch := omega) only [if_pos, if_neg] at e
              obtain ⟨a', h1, h2⟩ := m_st170 (from' := from') (r := 3) (sx := sx) (t := t) m1 hq ht i0 (by omega : i < 30) 60 acc 0 A hA (by omega) (by omega)
              refine ⟨a', h1.cong (fun x _ _ => ?_), e.trans h2⟩
              unfold mLead
              rw [if_neg (by omega), if_neg (by omega), if_neg (by omega), if_pos rfl]
          · rw [if_neg hr, x32_s (x := r - 4) (by omega) (by omega), x32_s (x := 30 * (r - 4)) (by omega) (by omega), x32_s (by omega) (by omega), if_pos (by omega)] at e
            refine ⟨_, (hA.or (hT (by omega) i i0 (by omega))).cong (fun x _ _ => ?_), e⟩
            unfold mLead
            rw [if_neg (by omega), if_neg (by omega), if_neg (by omega), if_neg (by omega)]
        obtain ⟨a1, h1, h2⟩ := one
        obtain ⟨a2, h3, h4⟩ := ih a1 (i + 1) _ h1 (by omega) (by omega)
        refine ⟨a2, h3.cong (fun x _ _ => ?_), h2.trans h4⟩
        constructor
        · rintro ((z | z) | ⟨d, z1, z2⟩)
          · exact Or.inl z
          · exact Or.inr ⟨i, by omega, by omega, hb, z⟩
          · exact Or.inr ⟨d, by omega, z2⟩
        · rintro (z | ⟨d, z1, z2, z3, z4⟩)
          · exact Or.inl (Or.inl z)
          · by_cases w : d = i
            · rw [w] at z4
              exact Or.inl (Or.inr z4)
            · exact Or.inr ⟨d, by omega, z2, z3, z4⟩
      · rw [if_neg (fun z => hb ((hs.at_ i0 (by omega)).mp z))] at e
        obtain ⟨a2, h3, h4⟩ := ih acc (i + 1) A hA (by omega) (by omega)
        refine ⟨a2, h3.cong (fun x _ _ => ?_), e.trans h4⟩
        constructor
        · rintro (z | ⟨d, z1, z2⟩)
          · exact Or.inl z
          · exact Or.inr ⟨d, by omega, z2⟩
        · rintro (z | ⟨d, z1, z2, z3, z4⟩)
          · exact Or.inl z
          · have : ¬ d = i := fun w => hb (by rw [← w]; exact z3)
            exact Or.inr ⟨d, by omega, z2, z3, z4⟩
theorem m_st305 {sx t acc : Int} {A : Int → Prop} (hn : M 439 47 ≤ 30) (hA : mk acc A) : ∃ v, f_Model_steps_305 sx t acc 0 0 M = some (v, M) ∧ mk v (fun x => x < M 439 47 ∧ (A x ∧ M 471 x ≤ t ∧ (sx = -1 ∨ M 468 x = sx))) := by
  refine mask_all (F := fun s i M => f_Model_steps_305 sx t acc s i M) hn (fun s i S hs i0 => ⟨fun hi => ?_, fun hi => ?_⟩)
  · show f_Model_steps_305 sx t acc s i M = _
    rw [q_Model_steps_305, em_cd, if_pos hi]
  · have e := q_Model_steps_305 sx t acc s i M
    rw [x_bit i0 (by omega)] at e
    simp only [em_cd, b2_1] at e
    rw [if_neg (by omega), x32_s (by omega) (by omega)] at e
    by_cases c1 : A i
    · rw [if_neg (fun z => z ((hA.at_ i0 (by omega)).mpr c1))] at e
      by_cases c2 : M 471 i ≤ t
      · by_cases c3 : sx = -1
        · simp (disch := omega) only [if_pos, if_neg] at e
          exact ⟨_, hs.add i0 (by omega) ⟨c1, c2, Or.inl c3⟩, e⟩
        · by_cases c4 : M 468 i = sx
          · simp (disch := omega) only [if_pos, if_neg] at e
            exact ⟨_, hs.add i0 (by omega) ⟨c1, c2, Or.inr c4⟩, e⟩
          · simp (disch := omega) only [if_pos, if_neg] at e
            exact ⟨_, hs.no (fun z => by omega), e⟩
      · simp (disch := omega) only [if_pos, if_neg] at e
        exact ⟨_, hs.no (fun z => c2 z.2.1), e⟩
    · rw [if_pos (fun z => c1 ((hA.at_ i0 (by omega)).mp z))] at e
      exact ⟨_, hs.no (fun z => c1 z.1), e⟩
theorem m_steps {from' r sx t : Int} {S : Int → Prop} (hO : mOk M) (ht : x32 (t - 1) = t - 1) (hs : mk from' S) (r0 : 0 ≤ r) (r1 : r < 24) (hT : 4 ≤ r → ∀ d, 0 ≤ d → d < M 439 47 → mk (M 489 (30 * (r - 4) + d)) (fun x => tb (M 489 (30 * (r - 4) + d)) x = true)) : ∃ v, f_Model_steps from' r sx t M = some (v, M) ∧ mk v (fun x => x < M 439 47 ∧ ((∃ d, 0 ≤ d ∧ d < M 439 47 ∧ S d ∧ mLead M t r d x) ∧ M 471 x ≤ t ∧ (sx = -1 ∨ M 468 x = sx))) := by
  obtain ⟨a, h1, h2⟩ := m_st6 (sx := sx) (t := t) hO ht hs r0 r1 hT 30 0 0 _ mk_0 (by omega) (by have := hO.1.2; omega)
  obtain ⟨v, h3, h4⟩ := m_st305 (sx := sx) (t := t) hO.1.2 h1
  refine ⟨v, by rw [q_Model_steps, h2]; exact h3, h4.cong (fun x _ _ => ?_)⟩
  exact and_congr_right (fun _ => and_congr_left (fun _ => ⟨fun z => z.elim (fun z => z.elim) id, Or.inr⟩))
end
