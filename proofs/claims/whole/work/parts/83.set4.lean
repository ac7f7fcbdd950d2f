/-! THE ARM settle: how the reference begins; the relation when it is SPENT. -/
section
variable {M N C : em_M}
/-- what must hold for a settlement -/
def duS (M : em_M) (t : Int) : Prop := ¬ M 6 1 = 0 ∧ ¬ t < M 136 1 ∧ ¬ 100000 < t ∧ ∀ x, 0 ≤ x → x < M 6 0 → tb (M 6 1) x = true → M 10 x ≤ t
theorem m_settle {Z : em_M} {t : Int} (h : Rel M) (hZ : ∀ c j, 439 ≤ c → Z c j = M c j) : (duS M t → f_Model_settle t Z = (f_Model_saves (M 136 0) Z).bind (fun r => f_Model_settle_108 t 0 (xup (xup r.2 439 44 0) 439 75 t))) ∧ (¬ duS M t → f_Model_settle t Z = some (-1, Z)) := by
  obtain ⟨hT, hP, hD, hM, hO, hL', hW, hK, hH, hS, hN, hF⟩ := id h
  have hn := hP.2.2.1
  have n0 := hP.2.1
  have h47 : Z 439 47 = M 6 0 := by rw [hZ _ _ (by omega)]; exact hP.1
  have h72 : Z 439 72 = M 136 1 := by rw [hZ _ _ (by omega)]; exact hH.2.1.1
  have h115 : Z 439 115 = M 136 0 := by rw [hZ _ _ (by omega)]; exact hH.1.1
  have due : ∃ g, f_Model_isDue t Z = some (g, Z) ∧ (¬ g = 0 ↔ ¬ t < M 136 1 ∧ ¬ 100000 < t) := by
    rw [q_Model_isDue, h72]
    by_cases c1 : t < M 136 1
    · exact ⟨0, by simp only [em_cd, if_pos c1], ⟨fun z => absurd rfl z, fun z => absurd c1 z.1⟩⟩
    · by_cases c2 : 100000 < t
      · exact ⟨0, by simp only [em_cd, if_neg c1, if_pos c2], ⟨fun z => absurd rfl z, fun z => absurd c2 z.2⟩⟩
      · exact ⟨1, by simp only [em_cd, if_neg c1, if_neg c2], ⟨fun _ => ⟨c1, c2⟩, fun _ => by omega⟩⟩
  obtain ⟨g, g1, g2⟩ := due
  have e := q_Model_settle t Z
  rw [g1] at e
  simp only [Option.bind_some] at e
  obtain ⟨a1, b1, k1, k2, k3⟩ := m_11 (M := Z) (t := t) hn h47 (M 6 0).toNat 0 g 0 (by omega) (by omega)
  have e3 := q_Model_settle_11 t a1 b1 (M 6 0) Z
  rw [h47, h115] at e3
  simp only [em_cd, if_pos (Int.le_refl (M 6 0))] at e3
  have lst : ∀ x, 0 ≤ x → x < M 6 0 → (¬ Z 473 x = 0 ↔ tb (M 6 1) x = true) := fun x x0 x1 => by
    rw [hZ 473 x (by omega), (hD.2 x x0 x1).1.2.1.1, b2_z, nn]
  have q1 : ¬ a1 = 0 ↔ ¬ M 6 1 = 0 := by
    rw [k2]
    constructor
    · rintro (z | ⟨x, x0, x1, x2⟩)
      · exact absurd rfl z
      · intro z
        exact hD.1.zero.mp z x x0 (by omega) ⟨x1, (lst x x0 x1).mp x2⟩
    · intro z
      refine Or.inr (Classical.byContradiction (fun w => z (hD.1.zero.mpr (fun x x0 x1 y => w ⟨x, x0, y.1, (lst x x0 y.1).mpr y.2⟩))))
  have q2 : ¬ b1 = 0 ↔ (¬ t < M 136 1 ∧ ¬ 100000 < t) ∧ ∀ x, 0 ≤ x → x < M 6 0 → tb (M 6 1) x = true → M 10 x ≤ t := by
    rw [k3, g2]
    refine and_congr_right (fun _ => ⟨fun z x x0 x1 x2 => ?_, fun z x x0 x1 x2 => ?_⟩)
    · have := z x x0 x1 ((lst x x0 x1).mpr x2)
      rw [hZ 471 x (by omega), (hP.2.2.2 x x0 x1).2.2.2.1] at this
      exact this
    · rw [hZ 471 x (by omega), (hP.2.2.2 x x0 x1).2.2.2.1]
      exact z x x0 x1 ((lst x x0 x1).mp x2)
  constructor
  · rintro ⟨d1, d2, d3, d4⟩
    rw [if_neg (q1.mpr d1), if_pos (q2.mpr ⟨⟨d2, d3⟩, d4⟩)] at e3
    exact e.trans (k1.trans e3)
  · intro hd
    by_cases c : a1 = 0
    · rw [if_pos c] at e3
      exact e.trans (k1.trans e3)
    · rw [if_neg c, if_neg (fun z => hd ⟨q1.mp c, (q2.mp z).1.1, (q2.mp z).1.2, (q2.mp z).2⟩)] at e3
      exact e.trans (k1.trans e3)
/-- what a settlement that is SPENT may change but for the estates' rows -/
def sF (M M' : em_M) (d : Int) : Prop := ∀ c j, ¬ ((c = 25 ∧ 2 ≤ j ∧ j ≤ 4) ∨ (27 ≤ c ∧ c ≤ 50) ∨ (126 ≤ c ∧ c ≤ 135) ∨ (174 ≤ c ∧ c ≤ 353) ∨ (c = 439 ∧ ((44 ≤ j ∧ j ≤ 46) ∨ (74 ≤ j ∧ j ≤ 101))) ∨ (489 ≤ c ∧ c ≤ 505) ∨ (507 ≤ c ∧ c ≤ 514) ∨ ((c = 518 ∨ c = 519) ∧ 32 * d ≤ j ∧ j < 32 * d + 32) ∨ ((c = 472 ∨ c = 474 ∨ c = 475) ∧ ¬ (0 ≤ j ∧ j < M 6 0)) ∨ ((c = 487 ∨ c = 488) ∧ ¬ (j = 0 ∨ j = 1))) → M' c j = M c j
theorem sF.rel {M' : em_M} {t : Int} (h : Rel M) (e : sF M M' (M 136 0)) (t0 : 0 ≤ t) (t1 : t ≤ 100000) (hk : kTab M' t) (h25 : M' 25 2 = t) (hS' : RS M') (hN' : RN M') : Rel M' := by
  obtain ⟨hT, hP, hD, hM, hO, hL, hW, hK, hH, hS, hN, hF⟩ := id h
  have hn := hP.2.2.1
  unfold sF at e
  have e60 : M' 6 0 = M 6 0 := e _ _ (by omega)
  refine ⟨RT_fr hT (fun c j hc => e c j (by omega)), RP_fr hP (fun c j hc => e c j (by omega)), ⟨?_, fun p p0 p1 => ?_⟩, RM_fr hM (fun c j hc => e c j (by omega)), RO_fr hO (fun c j hc => e c j (by omega)), RL_fr hL (fun c j hc => e c j (by omega)), RW_fr hW (fun c j hc => e c j (by omega)), Or.inr ⟨by omega, by omega, by rw [h25]; exact hk⟩, ?_, hS', hN', RF_fr hF (fun c j hc => e c j (by omega))⟩
  · rw [e 6 1 (by omega), e60]; exact hD.1
  · rw [e60] at p1
    have hq := hD.2 p p0 p1
    unfold RDp RWp at hq ⊢
    rw [e 472 p (by omega), e 11 p (by omega), e 473 p (by omega), e 6 1 (by omega), e 506 p (by omega), e 12 p (by omega), e 474 p (by omega), e 475 p (by omega)]
    exact hq
  · obtain ⟨⟨q1, q2⟩, ⟨q3, q4⟩, q5, q6, q7, q8⟩ := hH
    refine ⟨⟨by rw [e 439 115 (by omega), e 136 0 (by omega)]; exact q1, by rw [e 136 0 (by omega)]; exact q2⟩, ⟨by rw [e 439 72 (by omega), e 136 1 (by omega)]; exact q3, by rw [e 136 1 (by omega)]; exact q4⟩, by rw [e 136 2 (by omega), e 487 0 (by omega), e 488 0 (by omega)]; exact q5, by rw [e 136 3 (by omega), e 487 1 (by omega), e 488 1 (by omega)]; exact q6, fun j j0 j1 => ?_, fun p p0 p1 p2 => ?_⟩
    · rw [e 136 0 (by omega)] at j1
      have hq := q7 j j0 j1
      obtain ⟨r1, ⟨x, x0, x1, x2, x3⟩, r3, r4, r5, r6, r7⟩ := hq
      refine ⟨?_, ⟨x, x0, by rw [e60]; exact x1, by rw [e 11 x (by omega)]; exact x2, by rw [e 517 x (by omega)]; exact x3⟩, ?_, ?_, ?_, ?_, fun p p0 p1 => ?_⟩
      · rw [e 137 j (by omega), e60]
        refine r1.cong (fun x _ _ => ?_)
        rw [e 11 x (by omega), e 517 x (by omega)]
      · rw [e 516 j (by omega), e 138 j (by omega), e60]; exact r3
      · rw [e 515 j (by omega), e 139 j (by omega)]; exact r4
      · rw [e 140 j (by omega), e 518 _ (by omega), e 519 _ (by omega)]; exact r5
      · rw [e 141 j (by omega), e 518 _ (by omega), e 519 _ (by omega)]; exact r6
      · rw [e 138 j (by omega)] at p1
        rw [e (143 + j) p (by omega), e 518 _ (by omega), e 519 _ (by omega)]
        exact r7 p p0 p1
    · rw [e60] at p1
      rw [e 11 p (by omega)] at p2
      rw [e 517 p (by omega), e 136 0 (by omega)]
      exact q8 p p0 p1 p2
/-- the estates' rows, those of the listed aside -/
theorem rows_keep {B C' A X R' Z : em_M} {p : Int} (p0 : 0 ≤ p) (p1 : p < M 6 0) (hn : M 6 0 ≤ 30) (hp : ¬ tb (M 6 1) p = true) (hR : RE M (174 + 6 * p) p) (gB : ∀ c j, 174 ≤ c → B c j = M c j) (cF : clF (M 6 1) 0 (M 6 0) B C') (fA : ∀ c j, 174 ≤ c → A c j = C' c j) (fX : ∀ c j, 507 ≤ c → c ≤ 514 → X c j = A c j) (rF : rfF (M 6 1) 0 (M 6 0) X R') (zc : ∀ c j, c ≤ 438 → Z c j = A c j) (zr : ∀ c j, 507 ≤ c → c ≤ 514 → Z c j = R' c j) : RE Z (174 + 6 * p) p := by
  refine RE_fr2 hR (fun c j hc => ?_)
  by_cases k : 174 + 6 * p ≤ c ∧ c ≤ 174 + 6 * p + 5
  · rw [zc c j (by omega), fA c j (by omega), cF.2 p p0 (by omega) (Or.inr (Or.inr hp)) c j k.1 k.2, gB c j (by omega)]
  · have k2 := hc.resolve_left k
    have k3 : rowOf p c j := k2
    have k4 : 507 ≤ c ∧ c ≤ 514 := by omega
    rw [zr c j k4.1 k4.2, rF.2 p p0 (by omega) (Or.inr (Or.inr hp)) c j k3, fX c j k4.1 k4.2, fA c j (by omega), cF.1 c j (by omega), gB c j (by omega)]
theorem hand_keep {B C' A X R' Z : em_M} (hn : M 6 0 ≤ 30) (hR : RN M) (gB : ∀ c j, 174 ≤ c → B c j = M c j) (cF : clF (M 6 1) 0 (M 6 0) B C') (fA : ∀ c j, 174 ≤ c → A c j = C' c j) (fX : ∀ c j, (507 ≤ c ∧ c ≤ 514) ∨ (c = 439 ∧ j = 114) → X c j = A c j) (rF : rfF (M 6 1) 0 (M 6 0) X R') (zc : ∀ c j, c ≤ 438 → Z c j = A c j) (zr : ∀ c j, (507 ≤ c ∧ c ≤ 514) ∨ (c = 439 ∧ j = 114) → Z c j = R' c j) : RN Z := by
  have z1 : ∀ c j, 360 ≤ c → c ≤ 365 → Z c j = M c j := fun c j c0 c1 => by rw [zc c j (by omega), fA c j (by omega), cF.1 c j (by omega), gB c j (by omega)]
  have z2 : Z 439 114 = M 439 114 := by rw [zr _ _ (by omega), rF.1 _ _ (by omega), fX _ _ (by omega), fA _ _ (by omega), cF.1 _ _ (by omega), gB _ _ (by omega)]
  rcases hR with ⟨h1, h2⟩ | ⟨h1, h2⟩
  · exact Or.inl ⟨by rw [z2]; exact h1, by rw [z1 360 0 (by omega) (by omega)]; exact h2⟩
  · refine Or.inr ⟨by rw [z2]; exact h1, RE_fr2 h2 (fun c j hc => ?_)⟩
    by_cases k : 360 ≤ c ∧ c ≤ 360 + 5
    · exact z1 c j (by omega) (by omega)
    · have k2 := hc.resolve_left k
      have k3 : rowOf 31 c j := k2
      have k4 : 507 ≤ c ∧ c ≤ 514 := by omega
      rw [zr c j (Or.inl k4), rF.2 31 (by omega) (by omega) (Or.inr (Or.inl (by omega))) c j k3, fX c j (Or.inl k4), fA c j (by omega), cF.1 c j (by omega), gB c j (by omega)]
/-- settle, when it is SPENT -/
theorem settle_fail {B C' : em_M} {t L : Int} (h : Rel M) (t0 : 0 ≤ t) (hdu : duS M t) (d1 : M 136 0 < 30) (hk : kTab B t) (h25 : B 25 2 = t) (gB : ∀ c j, ¬ ((c = 25 ∧ 2 ≤ j ∧ j ≤ 4) ∨ (27 ≤ c ∧ c ≤ 50) ∨ c = 135 ∨ (c = 126 ∧ (j = 5 ∨ j = 6))) → B c j = M c j) (v1 : ∀ x, 0 ≤ x → x < 30 → B 135 x = M 12 x) (v2 : B 126 5 = M 136 2 ∧ B 126 6 = M 136 3) (cF : clF (M 6 1) 0 (M 6 0) B C') (hL : mk L (fun x => ((x < M 6 0 ∧ M 10 x ≤ t) ∧ ¬ (¬ M 11 x = -1 ∧ M 11 x ≤ t)) ∧ ¬ tb (M 6 1) x = true)) (w : cLoop t (M 6 1) L (M 6 0).toNat 0 B = some (0, C')) : ∃ Z, f_Model_settle t C' = some (-2, Z) ∧ Scr C' Z ∧ Rel Z := by
  obtain ⟨hT, hP, hD, hM, hO, hL', hW, hK, hH, hS, hN, hF⟩ := id h
  have hn := hP.2.2.1
  have n0 := hP.2.1
  have d0 := hH.1.2.1
  have t1 : t ≤ 100000 := by have := hdu.2.2.1; omega
  have ez : ∀ c j, 439 ≤ c → C' c j = M c j := fun c j hc => by rw [cF.1 c j (by omega), gB c j (by omega)]
  have zF1 : zF2 B C' := fun c j hc => cF.1 c j (by omega)
  obtain ⟨X, s1, ⟨s2, s3, s4, s5, s6⟩, s7, s8, s9, s10⟩ := settle_state h t0 t1 rfl d1 hk gB v1 v2 zF1 hL
  have e2 := (m_settle h ez).1 hdu
  rw [s1] at e2
  rcases settle_pair (D := M 6 1) hn (M 6 0).toNat 0 0 B X (gB _ _ (by omega)) (by omega) (by omega) s2 s3 s4 s5 s6 rfl with ⟨C'', R', q1, -⟩ | ⟨C'', R', q1, q2, q3, q6, q7⟩
  case inl =>
    rw [w] at q1
    cases q1
  rw [w] at q1
  have eC : C' = C'' := by
    cases q1
    rfl
  subst eC
  rw [q3] at e2
  have r115 : R' 439 115 = M 136 0 := by rw [q7.1 _ _ (by omega), s10 _ _ (by omega), ez _ _ (by omega)]; exact hH.1.1
  have r47 : R' 439 47 = M 6 0 := by rw [q7.1 _ _ (by omega), s10 _ _ (by omega), ez _ _ (by omega)]; exact hP.1
  obtain ⟨R2, k1, k2, k3⟩ := m_214 hn (M 6 0).toNat R' 0 r47 r115 (by omega) (by omega)
  obtain ⟨Z, l1, l2, l3, l4⟩ := m_takesBack' (M := R2) (t := M 136 0) (m := M 6 0) d0 (by omega) n0 hn
  rw [k1, l1] at e2
  simp only [Option.bind_some] at e2
  have zR : ∀ c j, ¬ ((c = 472 ∧ 0 ≤ j ∧ j < M 6 0) ∨ ((c = 474 ∨ c = 475) ∧ 0 ≤ j ∧ j < M 6 0) ∨ ((c = 487 ∨ c = 488) ∧ (j = 0 ∨ j = 1))) → Z c j = R' c j := fun c j hc => by rw [l4 c j (by omega), k3 c j (by omega)]
  have sv : ∀ c j, c = 518 ∨ c = 519 → R2 c j = X c j := fun c j hc => by rw [k3 c j (by omega), q7.1 c j (by omega)]
  have cls : ∀ c j, c ≤ 438 → Z c j = C' c j := fun c j hc => by rw [zR c j (by omega), q7.1 c j (by omega), s10 c j (by omega)]
  have ref : ∀ c j, 439 ≤ c → ¬ ((c = 439 ∧ ((44 ≤ j ∧ j ≤ 46) ∨ (74 ≤ j ∧ j ≤ 101))) ∨ (489 ≤ c ∧ c ≤ 505) ∨ (507 ≤ c ∧ c ≤ 514) ∨ ((c = 518 ∨ c = 519) ∧ 32 * M 136 0 ≤ j ∧ j < 32 * M 136 0 + 32) ∨ c = 472 ∨ c = 474 ∨ c = 475 ∨ c = 487 ∨ c = 488) → Z c j = M c j := fun c j c0 hc => by
    rw [zR c j (by omega), q7.1 c j (by omega), s10 c j (by omega), ez c j c0]
  have r472 : ∀ x, 0 ≤ x → x < M 6 0 → Z 472 x = M 472 x := fun x x0 x1 => by
    have hq := (hD.2 x x0 x1).1
    rw [l4 472 x (by omega), k2 x x0 x1, q7.1 473 x (by omega), q7.1 472 x (by omega), (s6 x x0 x1).1, s9 x x0 x1, hq.1.1]
    by_cases c : tb (M 6 1) x = true
    · rw [if_neg (by rw [b2_t c]; omega), hq.2.1.2 c]
    · rw [if_pos (b2_f c), if_neg c]
  have r474 : ∀ x, 0 ≤ x → x < M 6 0 → Z 474 x = M 474 x ∧ Z 475 x = M 475 x := fun x x0 x1 => by
    rw [(l2 x x0 x1).1, (l2 x x0 x1).2, sv 518 _ (Or.inl rfl), sv 519 _ (Or.inr rfl)]
    exact s7 x x0 (by omega)
  rw [sv 518 _ (Or.inl rfl), sv 519 _ (Or.inr rfl), sv 518 _ (Or.inl rfl), sv 519 _ (Or.inr rfl), s8.1, s8.2.1, s8.2.2.1, s8.2.2.2] at l3
  have hsF : sF M Z (M 136 0) := fun c j hc => by
    by_cases c0 : c ≤ 438
    · rw [cls c j c0, cF.1 c j (by omega), gB c j (by omega)]
    · by_cases c1 : c = 472
      · subst c1
        exact r472 j (by omega) (by omega)
      · by_cases c2 : c = 474
        · subst c2
          exact (r474 j (by omega) (by omega)).1
        · by_cases c3 : c = 475
          · subst c3
            exact (r474 j (by omega) (by omega)).2
          · by_cases c4 : c = 487
            · subst c4
              have : j = 0 ∨ j = 1 := by omega
              rcases this with rfl | rfl
              · exact l3.1
              · exact l3.2.2.1
            · by_cases c5 : c = 488
              · subst c5
                have : j = 0 ∨ j = 1 := by omega
                rcases this with rfl | rfl
                · exact l3.2.1
                · exact l3.2.2.2
              · exact ref c j (by omega) (by omega)
  have kB : kTab Z t := kTab_fr hk (by rw [gB 0 11 (by omega)]; exact hW.1) (by rw [gB 0 11 (by omega), gB (M 0 11) 0 (by have := hW.1; omega)]; exact hW.2.2.2.1.2.2) (fun c j hc => by rw [cls c j (by omega), cF.1 c j (by omega)])
  have gB' : ∀ c j, 174 ≤ c → B c j = M c j := fun c j hc => gB c j (by omega)
  refine ⟨Z, e2, ⟨fun j => cls _ _ (by omega), cls _ _ (by omega)⟩, hsF.rel h t0 t1 kB (by rw [cls _ _ (by omega), cF.1 _ _ (by omega)]; exact h25) (fun p p0 p1 p2 => ?_) ?_⟩
  · rw [hsF 6 0 (by omega)] at p1
    rw [hsF 11 p (by omega)] at p2
    exact rows_keep (A := C') (X := X) (R' := R') p0 p1 hn (fun z => p2 ((hD.2 p p0 p1).1.2.1.2 z)) (hS p p0 p1 p2) gB' cF (fun _ _ _ => rfl) (fun c j c0 c1 => s10 c j (by omega)) q7 cls (fun c j c0 c1 => zR c j (by omega))
  · exact hand_keep (A := C') (X := X) (R' := R') hn hN gB' cF (fun _ _ _ => rfl) (fun c j hc => s10 c j (by omega)) q7 cls (fun c j hc => zR c j (by omega))
end
