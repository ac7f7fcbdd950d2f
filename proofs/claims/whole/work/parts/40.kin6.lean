/-! KIN: all kin of the reference; they are the class's; kin of the two. -/
section
variable {M : em_M}
def mT (M : em_M) : Int → Int → Int := fun k d => M 489 (30 * k + d)
theorem mOk_of (hP : RP M) (hM : RM M) : mOk M := by
  obtain ⟨p1, p2, p3, p4⟩ := hP
  obtain ⟨m1, m2, m3, m4⟩ := hM
  refine ⟨by omega, by omega, fun p q0 q1 => ?_, fun q q0 q1 => ?_⟩
  · obtain ⟨-, h1, h2, -⟩ := p4 p q0 (by omega)
    omega
  · obtain ⟨h1, h2, -, -⟩ := m4 q q0 (by omega)
    omega
theorem mNext_eq (hP : RP M) (hM : RM M) {t r sx : Int} {S : Int → Prop} {x : Int} (x0 : 0 ≤ x) : (x < M 439 47 ∧ ((∃ d, 0 ≤ d ∧ d < M 439 47 ∧ S d ∧ mLead M t r d x) ∧ M 471 x ≤ t ∧ (sx = -1 ∨ M 468 x = sx))) ↔ kNext M t (mT M) r sx S x := by
  obtain ⟨p1, p2, p3, p4⟩ := hP
  obtain ⟨m1, m2, m3, m4⟩ := hM
  have hL : ∀ d, 0 ≤ d → d < M 6 0 → x < M 6 0 → (mLead M t r d x ↔ kLead M t (mT M) r d x) := fun d d0 d1 x1 => by
    obtain ⟨-, ⟨a1, a2, a3⟩, ⟨b1, b2', b3⟩, -⟩ := p4 x x0 x1
    obtain ⟨-, ⟨c1, c2, c3⟩, ⟨e1, e2, e3⟩, -⟩ := p4 d d0 d1
    unfold mLead kLead
    by_cases r0 : r = 0
    · rw [if_pos r0, if_pos r0]
      omega
    rw [if_neg r0, if_neg r0]
    by_cases r1 : r = 1
    · rw [if_pos r1, if_pos r1, c1]
    rw [if_neg r1, if_neg r1]
    by_cases r2 : r = 2
    · rw [if_pos r2, if_pos r2, e1]
    rw [if_neg r2, if_neg r2]
    by_cases r3 : r = 3
    · rw [if_pos r3, if_pos r3]
      unfold kMate
      rw [m1]
      constructor
      · rintro ⟨q, z1, z2, z3⟩
        obtain ⟨h1, h2, h3, h4⟩ := m4 q z1 z2
        rw [h1.1, h2.1, h3.1, h4.1] at z3
        exact ⟨q, z1, z2, z3⟩
      · rintro ⟨q, z1, z2, z3⟩
        obtain ⟨h1, h2, h3, h4⟩ := m4 q z1 z2
        refine ⟨q, z1, z2, ?_⟩
        rw [h1.1, h2.1, h3.1, h4.1]
        exact z3
    rw [if_neg r3, if_neg r3]
    rfl
  unfold kNext kBorn
  rw [p1]
  constructor
  · rintro ⟨x1, ⟨d, z1, z2, z3, z4⟩, z5, z6⟩
    obtain ⟨⟨s1, -⟩, -, -, ⟨b1, -⟩⟩ := p4 x x0 x1
    rw [b1] at z5
    rw [s1] at z6
    exact ⟨⟨x0, x1, z5⟩, z6, d, z1, z2, z3, (hL d z1 z2 x1).mp z4⟩
  · rintro ⟨⟨-, x1, z5⟩, z6, d, z1, z2, z3, z4⟩
    obtain ⟨⟨s1, -⟩, -, -, ⟨b1, -⟩⟩ := p4 x x0 x1
    rw [b1, s1]
    exact ⟨x1, ⟨d, z1, z2, z3, (hL d z1 z2 x1).mpr z4⟩, z5, z6⟩
theorem mk.self {v : Int} {S : Int → Prop} (h : mk v S) : mk v (fun x => tb v x = true) := h.cong (fun _ x0 x1 => (h.at_ x0 x1).symm)
/-- a path, n steps from the j-th on -/
def pWalk (M : em_M) (t w : Int) (T : Int → Int → Int) : Nat → Int → (Int → Prop) → Int → Prop
  | 0, _, S => S
  | n + 1, j, S => pWalk M t w T n (j + 1) (kNext M t T (M (w + 2) j) (M (w + 3) j) S)
theorem kWalk_shut {t w d : Int} {T : Int → Int → Int} {m : Nat} : ∀ (n : Nat) (j : Int) (A S : Int → Prop), (∀ i, j ≤ i → i < j + n → M (w + 4) i = 0) → kWalk M t w T d (n + m) j A S = kWalk M t w T d m (j + n) A (pWalk M t w T n j S)
  | 0, j, A, S, _ => by
    rw [Nat.zero_add, Int.natCast_zero, Int.add_zero]
    rfl
  | n + 1, j, A, S, h => by
    have h1 := h j (by omega) (by omega)
    rw [show n + 1 + m = (n + m) + 1 by omega]
    show (if M (w + 4) j = 1 then _ else _) = _
    rw [if_neg (by omega), kWalk_shut n (j + 1) _ _ (fun i i0 i1 => h i (by omega) (by omega)), show j + 1 + (n : Int) = j + ((n + 1 : Nat) : Int) by omega]
    rfl
theorem kWalk_path {t w d : Int} {T : Int → Int → Int} {n m : Nat} {j : Int} {A S : Int → Prop} (h1 : M (w + 4) j = 1) (h : ∀ i, j < i → i < j + (n + 1 : Nat) → M (w + 4) i = 0) : kWalk M t w T d (n + 1 + m) j A S = kWalk M t w T d m (j + (n + 1 : Nat)) (fun x => A x ∨ S x) (pWalk M t w T (n + 1) j (fun x => x = d)) := by
  rw [show n + 1 + m = (n + m) + 1 by omega]
  show (if M (w + 4) j = 1 then _ else _) = _
  rw [if_pos h1, kWalk_shut n (j + 1) _ _ (fun i i0 i1 => h i (by omega) (by omega)), show j + 1 + (n : Int) = j + ((n + 1 : Nat) : Int) by omega]
  rfl
/-- the kin before k are in the reference's rows -/
def mI (t w s k i : Int) (M : em_M) : Prop := (∀ k', 0 ≤ k' → k' < k → ∀ d, 0 ≤ d → d < M 6 0 → mk (M 489 (30 * k' + d)) (kOf M t w (mT M) k' d)) ∧ ∀ d, 0 ≤ d → d < i → mk (M 489 (30 * k + d)) (kOf M t w (mT M) k d)
theorem m_all88 {t w s k d acc p b : Int} (hP : RP M) (hM : RM M) (hs : M 439 17 = s) (hs2 : s = 0 ∨ s = 1) (hR : RKin M w s k) (k0 : 0 ≤ k) (k1 : k < 20) (hT : ∀ k', 0 ≤ k' → k' < k → ∀ d, 0 ≤ d → d < M 6 0 → mk (M 489 (30 * k' + d)) (kOf M t w (mT M) k' d)) (ht : x32 (t - 1) = t - 1) (hp0 : 0 ≤ p) (hp1 : p < 600) (hb : M 451 (701 * s + p + 1) = b) (hb2 : b ≤ M (w + 1) (k + 1)) : ∀ (n : Nat) (set j : Int) (S : Int → Prop), mk set S → lw_from M w k ≤ j → j + n = b → ∃ set', mk set' (pWalk M t w (mT M) n j S) ∧ f_Model_allKin_88 t k d acc p set j M = f_Model_allKin_44 t k d (x_or acc set') (p + 1) M := by
  obtain ⟨⟨g1, g2, g3⟩, -, -, -, g4⟩ := hR
  have hO := mOk_of hP hM
  intro n
  induction n with
  | zero =>
    intro set j S hS j0 j1
    refine ⟨set, hS, ?_⟩
    rw [q_Model_allKin_88, hs]
    simp (disch := omega) only [em_cd, x32_s, if_pos]
  | succ n ih =>
    intro set j S hS j0 j1
    obtain ⟨⟨r1, r2, r3⟩, ⟨s1, s2, s3⟩, -⟩ := g4 j j0 (by omega)
    obtain ⟨v, h1, h2⟩ := m_steps (sx := M 453 (700 * s + j)) (r := M 452 (700 * s + j)) hO ht hS (by omega) (by omega) (fun hr d d0 d1 => (hT (M 452 (700 * s + j) - 4) (by omega) (by omega) d d0 (by rw [hP.1] at d1; exact d1)).self)
    have h3 : mk v (kNext M t (mT M) (M (w + 2) j) (M (w + 3) j) S) := h2.cong (fun x x0 _ => by rw [r1, s1]; exact mNext_eq hP hM x0)
    obtain ⟨set', h4, h5⟩ := ih v (j + 1) _ h3 (by omega) (by omega)
    refine ⟨set', h4, ?_⟩
    rw [← h5, q_Model_allKin_88, hs]
    simp (disch := omega) only [em_cd, x32_s, if_pos, if_neg, h1, Option.bind_some]
theorem m_all44 {t w s k d : Int} (hP : RP M) (hM : RM M) (hs : M 439 17 = s) (hs2 : s = 0 ∨ s = 1) (hR : RKin M w s k) (k0 : 0 ≤ k) (k1 : k < 20) (hT : ∀ k', 0 ≤ k' → k' < k → ∀ d, 0 ≤ d → d < M 6 0 → mk (M 489 (30 * k' + d)) (kOf M t w (mT M) k' d)) (ht : x32 (t - 1) = t - 1) (d0 : 0 ≤ d) (d1 : d < 30) : ∀ (n : Nat) (acc p : Int) (A S : Int → Prop), mk acc (fun x => A x ∨ S x) → M 450 (21 * s + k) ≤ p → p + n = M 450 (21 * s + k + 1) → ∃ v, mk v (fun x => kWalk M t w (mT M) d (M (w + 1) (k + 1) - M 451 (701 * s + p)).toNat (M 451 (701 * s + p)) A S x ∧ ¬ x = d) ∧ f_Model_allKin_44 t k d acc p M = f_Model_allKin_17 t k (d + 1) (xup M 489 (30 * k + d) v) := by
  obtain ⟨⟨g1, g2, g3⟩, ⟨u1, u2, u3⟩, ⟨w1, w2⟩, g5, g4⟩ := id hR
  intro n
  induction n with
  | zero =>
    intro acc p A S hA p0 p1
    have e := q_Model_allKin_44 t k d acc p M
    rw [hs] at e
    simp (disch := omega) only [em_cd, x32_s, if_pos] at e
    refine ⟨_, ?_, e⟩
    have hp : p = M 450 (21 * s + k + 1) := by omega
    rw [hp, w2, Int.sub_self]
    exact (hA.minus (fun x x0 x1 => (mk_bit d0 d1).at_ x0 x1)).cong (fun x _ _ => Iff.rfl)
  | succ n ih =>
    intro acc p A S hA p0 p1
    obtain ⟨h1, h2, h3, h4, h5⟩ := g5 p p0 (by omega)
    generalize ha : M 451 (701 * s + p) = a at h1 h2 h4 h5
    generalize hb : M 451 (701 * s + p + 1) = b at h2 h3 h5
    obtain ⟨m, hm⟩ : ∃ m : Nat, b - a = ((m + 1 : Nat) : Int) := ⟨(b - a - 1).toNat, by omega⟩
    obtain ⟨set', s1, s2⟩ := m_all88 (d := d) (acc := acc) hP hM hs hs2 hR k0 k1 hT ht (by omega) (by omega) hb h3 (m + 1) (x_shl 1 d) a _ (mk_bit d0 d1) h1 (by omega)
    have e : f_Model_allKin_44 t k d acc p M = f_Model_allKin_88 t k d acc p (x_shl 1 d) a M := by
      rw [q_Model_allKin_44, hs]
      simp (disch := omega) only [em_cd, x32_s, if_pos, if_neg]
      rw [ha]
    obtain ⟨v, k2, k3⟩ := ih (x_or acc set') (p + 1) (fun x => A x ∨ S x) _ (hA.or s1) (by omega) (by omega)
    refine ⟨v, ?_, (e.trans s2).trans k3⟩
    rw [show 701 * s + (p + 1) = 701 * s + p + 1 by omega, hb] at k2
    have e2 : (M (w + 1) (k + 1) - a).toNat = m + 1 + (M (w + 1) (k + 1) - b).toNat := by omega
    rw [e2, kWalk_path h4 (fun i i0 i1 => h5 i i0 (by omega)), show a + ((m + 1 : Nat) : Int) = b by omega]
    exact k2
theorem mI_step {t w s k i v : Int} (hw : w = 53 ∨ w = 366) (hR : ∀ k', 0 ≤ k' → k' ≤ k → RKin M w s k') (hn : M 6 0 ≤ 30) (k0 : 0 ≤ k) (k1 : k < 20) (i0 : 0 ≤ i) (i1 : i < M 6 0) (hv : mk v (kOf M t w (mT M) k i)) (h : mI t w s k i M) : mI t w s k (i + 1) (xup M 489 (30 * k + i) v) := by
  obtain ⟨h2, h3⟩ := h
  have eO : kOf (xup M 489 (30 * k + i) v) t w = kOf M t w := by
    funext T
    exact kOf_fr (fun c j hc => xup_ne (by omega))
  have eK : ∀ k' d, 0 ≤ k' → k' ≤ k → kOf M t w (mT (xup M 489 (30 * k + i) v)) k' d = kOf M t w (mT M) k' d := fun k' d q0 q1 => kOf_cg (hR k' q0 q1) (fun k'' d z0 z1 z2 z3 => xup_ne (by omega))
  refine ⟨fun k' q0 q1 d d0 d1 => ?_, fun d d0 d1 => ?_⟩
  · rw [xup_ne (by omega)] at d1
    rw [eO, eK k' d q0 (by omega), xup_ne (by omega)]
    exact h2 k' q0 q1 d d0 d1
  · rw [eO, eK k d k0 (Int.le_refl _)]
    by_cases q : d = i
    · rw [q, xup_eq]; exact hv
    · rw [xup_ne (by omega)]
      exact h3 d d0 (by omega)
theorem m_all17 {t w s k : Int} (hw : w = 53 ∨ w = 366) (hs2 : s = 0 ∨ s = 1) (k0 : 0 ≤ k) (k1 : k < 20) (ht : x32 (t - 1) = t - 1) : ∀ (n : Nat) (M : em_M) (i : Int), RP M → RM M → M 439 17 = s → (∀ k', 0 ≤ k' → k' ≤ k → RKin M w s k') → 0 ≤ i → i ≤ M 6 0 → M 6 0 - i ≤ n → mI t w s k i M → ∃ M', f_Model_allKin_17 t k i M = f_Model_allKin_2 t (k + 1) M' ∧ mI t w s (k + 1) 0 M' ∧ ∀ c j, ¬ (c = 489) → M' c j = M c j := by
  intro n
  induction n with
  | zero =>
    intro M i hP hM hs hR i0 i1 hk h
    refine ⟨M, ?_, ⟨fun k' q0 q1 d d0 d1 => ?_, fun d d0 d1 => absurd d1 (by omega)⟩, fun _ _ _ => rfl⟩
    · have := hP.1
      rw [q_Model_allKin_17, em_cd, if_pos (by omega), x32_s (by omega) (by omega)]
    · by_cases q : k' = k
      · rw [q]
        exact h.2 d d0 (by omega)
      · exact h.1 k' q0 (by omega) d d0 d1
  | succ n ih =>
    intro M i hP hM hs hR i0 i1 hk h
    have hp1 := hP.1
    have hp3 := hP.2.2.1
    by_cases q : M 6 0 ≤ i
    · refine ⟨M, ?_, ⟨fun k' q0 q1 d d0 d1 => ?_, fun d d0 d1 => absurd d1 (by omega)⟩, fun _ _ _ => rfl⟩
      · rw [q_Model_allKin_17, em_cd, if_pos (by omega), x32_s (by omega) (by omega)]
      · by_cases q : k' = k
        · rw [q]
          exact h.2 d d0 (by omega)
        · exact h.1 k' q0 (by omega) d d0 d1
    · have hRk := hR k k0 (Int.le_refl _)
      obtain ⟨⟨g1, g2, g3⟩, ⟨u1, u2, u3⟩, ⟨w1, w2⟩, -, -⟩ := id hRk
      obtain ⟨v, f1, f2⟩ := m_all44 hP hM hs hs2 hRk k0 k1 h.1 ht i0 (by omega : i < 30) (M 450 (21 * s + k + 1) - M 450 (21 * s + k)).toNat 0 (M 450 (21 * s + k)) (fun _ => False) (fun _ => False) (mk_0.cong (fun x _ _ => ⟨fun z => z.elim, fun z => z.elim id id⟩)) (Int.le_refl _) (by omega)
      rw [w1] at f1
      have e : f_Model_allKin_17 t k i M = f_Model_allKin_44 t k i 0 (M 450 (21 * s + k)) M := by
        rw [q_Model_allKin_17, hs]
        simp (disch := omega) only [em_cd, x32_s, if_pos, if_neg]
      have fr : ∀ c j, ¬ (c = 489) → xup M 489 (30 * k + i) v c j = M c j := fun c j hc => xup_ne (by omega)
      obtain ⟨M', k2, k3, k4⟩ := ih (xup M 489 (30 * k + i) v) (i + 1) (RP_fr hP (fun c j hc => fr c j (by omega))) (RM_fr hM (fun c j hc => fr c j (by omega))) (by rw [fr _ _ (by omega)]; exact hs) (fun k' q0 q1 => RKin_fr (hR k' q0 q1) (fun c j hc => fr c j (by omega)) (fun c j hc => fr c j (by omega))) (by omega) (by rw [fr _ _ (by omega)]; omega) (by rw [fr _ _ (by omega)]; omega) (mI_step hw hR hp3 k0 k1 i0 (by omega) f1 h)
      exact ⟨M', (e.trans f2).trans k2, k3, fun c j hc => by rw [k4 c j hc, fr c j hc]⟩
theorem m_all2 {t w s : Int} (hw : w = 53 ∨ w = 366) (hs2 : s = 0 ∨ s = 1) (ht : x32 (t - 1) = t - 1) : ∀ (n : Nat) (M : em_M) (k : Int), RP M → RM M → M 439 17 = s → RLaw M w s → 0 ≤ k → k ≤ M w 0 → M w 0 - k ≤ n → mI t w s k 0 M → ∃ M', f_Model_allKin_2 t k M = some (0, M') ∧ mI t w s (M w 0) 0 M' ∧ ∀ c j, ¬ (c = 489) → M' c j = M c j := by
  intro n
  induction n with
  | zero =>
    intro M k hP hM hs hL k0 k1 hk h
    refine ⟨M, ?_, by rw [show M w 0 = k by omega]; exact h, fun _ _ _ => rfl⟩
    have := hL.1.1
    rw [q_Model_allKin_2, hs, em_cd, if_pos (by omega), em_cd, if_pos (by omega)]
  | succ n ih =>
    intro M k hP hM hs hL k0 k1 hk h
    have h1 := hL.1.1
    have h20 := hL.1.2.2
    by_cases q : M w 0 ≤ k
    · refine ⟨M, ?_, by rw [show M w 0 = k by omega]; exact h, fun _ _ _ => rfl⟩
      rw [q_Model_allKin_2, hs, em_cd, if_pos (by omega), em_cd, if_pos (by omega)]
    · obtain ⟨A, a1, a2, a3⟩ := m_all17 (t := t) hw hs2 k0 (by omega) ht 30 M 0 hP hM hs (fun k' q0 q1 => hL.2.2.1 k' q0 (by omega)) (by omega) hP.2.1 (by have := hP.2.2.1; omega) h
      have ew : A w 0 = M w 0 := a3 _ _ (by omega)
      obtain ⟨B, g1, g2, g3⟩ := ih A (k + 1) (RP_fr hP (fun c j hc => a3 c j (by omega))) (RM_fr hM (fun c j hc => a3 c j (by omega))) (by rw [a3 _ _ (by omega)]; exact hs) (RLaw_fr hL (fun c j hc => a3 c j (by omega)) (fun c j hc => a3 c j (by omega))) (by omega) (by omega) (by omega) a2
      refine ⟨B, ?_, by rw [← ew]; exact g2, fun c j hc => by rw [g3 c j hc, a3 c j hc]⟩
      rw [q_Model_allKin_2, hs, em_cd, if_pos (by omega), em_cd, if_neg (by omega), a1]
      exact g1
/-- all kin of the reference; the class's table, if it is that of the day, has the same -/
theorem m_allKin {t : Int} (hP : RP M) (hM : RM M) (hW : RW M) (hK : kTab M t) (t0 : 0 ≤ t) (t1 : t ≤ 100000) : ∃ M', f_Model_allKin t M = some (0, M') ∧ (∀ k, 0 ≤ k → k < M (M 0 11) 0 → ∀ d, 0 ≤ d → d < M 6 0 → M' 489 (30 * k + d) = M (31 + k) d) ∧ ∀ c j, ¬ (c = 489) → M' c j = M c j := by
  obtain ⟨hw, hw2, hs2, hL⟩ := hW
  have h20 := hL.1.2.2
  obtain ⟨B, g1, g2, g3⟩ := m_all2 (t := t) hw hs2 (x32_s (by omega) (by omega)) 20 M 0 hP hM rfl hL (Int.le_refl _) hL.1.2.1 (by omega) ⟨fun k' q0 q1 => absurd q1 (by omega), fun d d0 d1 => absurd d1 (by omega)⟩
  have eO : kOf B t (M 0 11) = kOf M t (M 0 11) := by
    funext T
    exact kOf_fr (fun c j hc => g3 c j (by omega))
  have eb : B 6 0 = M 6 0 := g3 _ _ (by omega)
  have key : ∀ n : Nat, ∀ k, 0 ≤ k → k < M (M 0 11) 0 → k < n → ∀ d, 0 ≤ d → d < M 6 0 → B 489 (30 * k + d) = M (31 + k) d := by
    intro n
    induction n with
    | zero => intro k k0 k1 k2; omega
    | succ n ih =>
      intro k k0 k1 k2 d d0 d1
      have h1 := g2.1 k k0 k1 d d0 (by rw [eb]; exact d1)
      rw [eO] at h1
      have h2 := hK.2.2.2 k k0 k1 d d0 d1
      have e : kOf M t (M 0 11) (mT B) k d = kOf M t (M 0 11) (kT M) k d := kOf_cg (hL.2.2.1 k k0 k1) (fun k' d' q0 q1 q2 q3 => by
        unfold mT kT
        rw [if_pos (by omega)]
        exact ih k' q0 (by omega) (by omega) d' q2 q3)
      rw [e] at h1
      exact h1.one h2
  exact ⟨B, by rw [q_Model_allKin]; exact g1, fun k k0 k1 d d0 d1 => key 20 k k0 k1 (by omega) d d0 d1, g3⟩
end
