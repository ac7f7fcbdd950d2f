/-! PARTING: who is barred, and all of the first half together. -/
section
variable {M N : em_M}
theorem f_barred {M0 : em_M} {w s p n K R : Int} (hn : n ≤ 30) (hw : w = 53 ∨ w = 366) (K0 : M0 w 0 = K) (K1 : K ≤ 20) (hR : M0 w 4 = R) (R1 : R ≤ 30) (h6 : M0 6 0 = n) (p0 : 0 ≤ p) (p1 : p < n) (hr : ∀ r, 0 ≤ r → r < R → RRule M0 w s r) (hN : ∀ c j, 455 ≤ c → c ≤ 457 → N c j = M0 c j) (hh : ∀ k, 0 ≤ k → k < K → M0 128 k = N 491 k ∧ mk (N 491 k) (fun x => tb (N 491 k) x = true)) (hk : ∀ k, 0 ≤ k → k < K → N 489 (30 * k + p) = M0 (31 + k) p) : ∀ (m : Nat) (r : Int) (M : em_M), (∀ a j, ¬ (a = 129 ∨ (a = 127 ∧ j = 11)) → M a j = M0 a j) → 0 ≤ r → R - r ≤ m → r ≤ R → mk (M 127 11) (fun x => tb (M 127 11) x = true) → (∀ x, 0 ≤ x → x < 30 → cb M N s p r x) → ∃ M', f_Parting_findBarred_7 w p r M = some (0, M') ∧ (∀ a j, ¬ (a = 129 ∨ (a = 127 ∧ j = 11)) → M' a j = M0 a j) ∧ mk (M' 127 11) (fun x => tb (M' 127 11) x = true) ∧ ∀ x, 0 ≤ x → x < 30 → cb M' N s p R x := by
  have hwne : ¬ w = 129 ∧ ¬ w = 127 := by omega
  intro m
  induction m with
  | zero =>
    intro r M hF r0 hm hrR h11 hx
    rw [show r = R by omega] at hx
    refine ⟨M, ?_, hF, h11, hx⟩
    rw [q_Parting_findBarred_7, isO_law hw, cond_true, em_cd, if_pos (by rw [hF w 4 (by omega)]; omega)]
  | succ m ih =>
    intro r M hF r0 hm hrR h11 hx
    by_cases q : R ≤ r
    · rw [show r = R by omega] at hx
      refine ⟨M, ?_, hF, h11, hx⟩
      rw [q_Parting_findBarred_7, isO_law hw, cond_true, em_cd, if_pos (by rw [hF w 4 (by omega)]; omega)]
    · have e := q_Parting_findBarred_7 w p r M
      rw [isO_law hw, hF w 4 (by omega), hR, f_isKind hw r0 (by omega)] at e
      simp only [em_cd, cond_true, Bool.and_true, Option.bind_some, b2_z, f_kinIn hw r0 (show r < 30 by omega) (show (0 : Int) ≤ 0 by omega) (show (0 : Int) < 8 by omega)] at e
      rw [if_neg q, hF (w + 5) r (by omega), x32_s (by omega) (by omega)] at e
      have no : ¬ M0 (w + 5) r = 5 → ¬ N 455 (30 * s + r) = 1 → ∃ M', f_Parting_findBarred_7 w p r M = some (0, M') ∧ (∀ a j, ¬ (a = 129 ∨ (a = 127 ∧ j = 11)) → M' a j = M0 a j) ∧ mk (M' 127 11) (fun x => tb (M' 127 11) x = true) ∧ ∀ x, 0 ≤ x → x < 30 → cb M' N s p R x := fun z1 z2 => by
        rw [if_pos z1] at e
        rw [e]
        exact ih (r + 1) M hF (by omega) (by omega) (by omega) h11 (fun x x0 x1 => cb_no (hx x x0 x1) (fun z => z2 z.1))
      have n455 := hN 455 (30 * s + r) (by omega) (by omega)
      rcases hr r r0 (by omega) with ⟨k1, k2, -⟩ | ⟨k1, k2, ⟨b1, ⟨b2', b3, b4⟩, ⟨b5, b6, b7⟩⟩⟩ | ⟨k1, k2, -⟩ | ⟨k1, k2, -⟩
      · exact no (by omega) (by omega)
      · rw [K0] at b4 b7
        rw [if_neg (fun z => z k2), hF (w + 10) r (by omega), hF (w + 12 + r) 0 (by omega), if_neg (by omega), f_headsOf b3 (by omega)] at e
        simp only [Option.bind_some, f_kinIn hw r0 (show r < 30 by omega) (show (0 : Int) ≤ 1 by omega) (show (1 : Int) < 8 by omega)] at e
        rw [hF (w + 10) r (by omega), hF (w + 12 + r) 1 (by omega), if_neg (by omega), f_kinOf (by rw [hF _ _ (by omega)]; omega) b6 (by omega) p0 (by rw [hF _ _ (by omega)]; omega)] at e
        simp only [Option.bind_some] at e
        rw [hF 128 _ (by omega), hF (31 + M0 (w + 12 + r) 1) p (by omega), (hh _ b3 b4).1, ← hk _ b6 b7] at e
        have n456 := hN 456 (30 * s + r) (by omega) (by omega)
        have n457 := hN 457 (30 * s + r) (by omega) (by omega)
        have hbr : ∀ x, 0 ≤ x → x < 30 → (brs N s p r x ↔ tb (N 489 (30 * M0 (w + 12 + r) 1 + p)) x = true ∧ ∃ y, 0 ≤ y ∧ y < 30 ∧ tb (N 491 (M0 (w + 12 + r) 0)) y = true ∧ ¬ y = x) := fun x x0 x1 => by
          unfold brs
          rw [n455, n456, n457, b2', b5]
          exact ⟨fun z => z.2, fun z => ⟨k1, z⟩⟩
        obtain ⟨A, a1, a2, a3, a4⟩ := f_barBy (N := N) (s := s) (p := p) (r := r) (B := N 491 (M0 (w + 12 + r) 0)) (S2 := N 489 (30 * M0 (w + 12 + r) 1 + p)) r0 (by omega) (hh _ b3 b4).2 hbr 30 0 M (by omega) (by omega) h11 (fun x x0 x1 => by rw [if_neg (by omega)]; exact hx x x0 x1)
        rw [q_Parting_barBy, a1] at e
        simp only [Option.bind_some] at e
        rw [e]
        exact ih (r + 1) A (fun a j ha => by rw [a2 a j ha, hF a j ha]) (by omega) (by omega) (by omega) a3 a4
      · exact no (by omega) (by omega)
      · exact no (by omega) (by omega)
/-- what the first half of a parting leaves -/
def hR (M N : em_M) (t L p : Int) : Prop := (∀ y, 0 ≤ y → y < M 6 0 → lnOk N t (M 6 0) y) ∧ lnC M N t (M 6 0) 0 ∧ M 127 8 = L ∧ hsC M N (M (M 0 11) 0) 20 ∧ (∀ k, 0 ≤ k → k < M (M 0 11) 0 → mk (N 491 k) (fun x => x < M 6 0 ∧ hd N t p (M 439 17) k x)) ∧ (M 127 11 = N 439 78 ∧ mk (N 439 78) (fun x => x < M 6 0 ∧ ¬ N 492 x = -1)) ∧ ∀ x, 0 ≤ x → x < M 6 0 → ¬ N 492 x = -1 → M 129 x = N 492 x
theorem heads_both {t L p E : Int} (hE : isE E) (hS : sRel M N t L) (p0 : 0 ≤ p) (p1 : p < M 6 0) (h74 : N 439 74 = p) (h75 : N 439 75 = t) (h8 : M 127 8 = L) : ∃ M' N', (∀ f : Int × em_M → Option (Int × em_M), (f_Parting_findLines M).bind (fun r0 => (f_Parting_findHeads (M 0 11) p r0.2).bind (fun r1 => (f_Parting_findBarred (M 0 11) p r1.2).bind f)) = f (0, M')) ∧ f_Model_findsHeads N = some (0, N') ∧ hR M' N' t L p ∧ (∀ c j, ¬ (c = 128 ∨ c = 129 ∨ c = 132 ∨ (c = 127 ∧ 9 ≤ j ∧ j ≤ 11)) → M' c j = M c j) ∧ ∀ c j, ¬ (c = 489 ∨ c = 490 ∨ c = 491 ∨ c = 492 ∨ (c = 439 ∧ j = 78)) → N' c j = N c j := by
  obtain ⟨⟨hP, hM, hO, hL, hW, hK⟩, hst, hl, ht⟩ := id hS
  obtain ⟨w1, w2, w3, ⟨⟨w4, w5, w6⟩, ⟨w7, w8, w9⟩, wk, wb, -, wr⟩⟩ := id hW
  have n0 := hP.2.1
  have hn := hP.2.2.1
  have st : ∀ c j, sStat c j → N c j = M c j := hst
  have f47 : N 439 47 = M 6 0 := by rw [st _ _ (by unfold sStat; omega)]; exact hP.1
  have f17 : N 439 17 = M 439 17 := st _ _ (by unfold sStat; omega)
  have par : ∀ c, 0 ≤ c → c < M 6 0 → N 469 c < c ∧ N 470 c < c := fun c c0 c1 => by
    obtain ⟨-, a, b, -⟩ := hP.2.2.2 c c0 c1
    rw [st 469 c (by unfold sStat; omega), st 470 c (by unfold sStat; omega)]
    omega
  have hPN : RP N := RP_fr hP (fun c j hc => st c j (by unfold sStat; omega))
  have hMN : RM N := RM_fr hM (fun c j hc => st c j (by unfold sStat; omega))
  have hWN : RW N := RW_fr hW (fun c j hc => st c j (by unfold sStat; omega))
  have hKN : kTab N t := kTab_fr hK w1 w6 (fun c j hc => st c j (by unfold sStat; omega))
  have s11 : N 0 11 = M 0 11 := st _ _ (by unfold sStat; omega)
  have sw : ∀ j, N (M 0 11) j = M (M 0 11) j := fun j => st _ _ (by unfold sStat; omega)
  have s6 : N 6 0 = M 6 0 := st _ _ (by unfold sStat; omega)
  obtain ⟨A, a1, a2, a3⟩ := m_allKin hPN hMN hWN hKN ht.1 ht.2
  rw [s11, sw, s6] at a2
  -- lines
  obtain ⟨B, b1, b2', b3⟩ := m_l15 (t := t) (n := M 6 0) hn 30 (M 6 0 - 1) A (by rw [a3 _ _ (by omega)]; exact f47) (by rw [a3 _ _ (by omega)]; exact h75) (fun c c0 c1 => by rw [a3 _ _ (by omega), a3 _ _ (by omega)]; exact par c c0 c1) (by omega) (by omega) (by omega) (fun y y0 y1 => by omega)
  have fB : ∀ c j, ¬ (c = 489 ∨ c = 490) → B c j = N c j := fun c j hc => by rw [b2' c j (by omega), a3 c j (by omega)]
  -- heads
  obtain ⟨C, c1, c2, c3⟩ := m_h113 (t := t) (p := p) (s := M 439 17) (n := M 6 0) (K := M (M 0 11) 0) n0 hn w3 w6 p0 (by omega) 20 0 B (by rw [fB _ _ (by omega)]; exact f47) (by rw [fB _ _ (by omega)]; exact h75) (by rw [fB _ _ (by omega)]; exact h74) (by rw [fB _ _ (by omega)]; exact f17) (by rw [fB _ _ (by omega), st _ _ (by unfold sStat; omega)]; exact w4) (by omega) (by omega) (fun k' z0 z1 => by omega)
  have fC' : ∀ c j, ¬ (c = 489 ∨ c = 490 ∨ c = 491) → C c j = N c j := fun c j hc => by rw [c2 c j (by omega), fB c j (by omega)]
  -- barred
  have fD : ∀ c j, ¬ (c = 489 ∨ c = 490 ∨ c = 491 ∨ (c = 439 ∧ j = 78)) → (xup C 439 78 0) c j = N c j := fun c j hc => by rw [xup_ne (by omega), fC' c j (by omega)]
  obtain ⟨D, d1, d2, d3⟩ := m_b235 (n := M 6 0) (s := M 439 17) (R := M (M 0 11) 4) hn w3 30 0 (xup C 439 78 0) (by rw [fD _ _ (by omega)]; exact f47) (by rw [fD _ _ (by omega)]; exact f17) (by rw [fD _ _ (by omega), st _ _ (by unfold sStat; omega)]; exact w7) w8 w9 (by omega) (by omega) (fun x x0 x1 => by omega)
  have fE : ∀ c j, ¬ (c = 489 ∨ c = 490 ∨ c = 491 ∨ c = 492 ∨ (c = 439 ∧ j = 78)) → D c j = N c j := fun c j hc => by rw [d2 c j (by omega), fD c j (by omega)]
  have g491 : ∀ j, D 491 j = C 491 j := fun j => by rw [d2 _ _ (by omega), xup_ne (by omega)]
  have hdD : ∀ k x, hd D t p (M 439 17) k x ↔ hd C t p (M 439 17) k x := fun k x => by
    unfold hd lvs
    rw [d2 489 _ (by omega), d2 471 _ (by omega), d2 472 _ (by omega), d2 449 _ (by omega), d2 490 _ (by omega)]
    simp (disch := omega) only [xup_ne]
  have hdm : ∀ k, 0 ≤ k → k < M (M 0 11) 0 → mk (D 491 k) (fun x => x < M 6 0 ∧ hd D t p (M 439 17) k x) := fun k k0 k1 => by
    rw [g491]
    exact (c3 k k0 k1).cong (fun x _ _ => ⟨fun z => ⟨z.1, (hdD _ _).mpr z.2⟩, fun z => ⟨z.1, (hdD _ _).mp z.2⟩⟩)
  have rule : ∀ r, 0 ≤ r → r < M (M 0 11) 4 → RRule M (M 0 11) (M 439 17) r := wr
  obtain ⟨F, e1, e2, e3, e4⟩ := m_b276 (N0 := D) (n := M 6 0) (s := M 439 17) (p := p) (R := M (M 0 11) 4) n0 hn w3 p0 (by omega) w9 (by rw [fE _ _ (by omega)]; exact f47) (by rw [fE _ _ (by omega)]; exact f17) (by rw [fE _ _ (by omega)]; exact h74) (fun r r0 r1 => by
    rw [fE 455 _ (by omega), fE 456 _ (by omega), fE 457 _ (by omega), st 455 _ (by unfold sStat; omega), st 456 _ (by unfold sStat; omega), st 457 _ (by unfold sStat; omega)]
    intro z
    rcases rule r r0 r1 with ⟨k1, k2, -⟩ | ⟨k1, k2, ⟨b1, ⟨b2', b3, b4⟩, ⟨b5, b6, b7⟩⟩⟩ | ⟨k1, k2, -⟩ | ⟨k1, k2, -⟩
    · omega
    · rw [b2', b5]
      exact ⟨by omega, by omega, (hdm _ b3 b4).self⟩
    · omega
    · omega) 31 (M (M 0 11) 4 - 1) D (fun _ _ _ => rfl) (by omega) (by omega) (by omega) (by
      rw [d2 _ _ (by omega), xup_eq]
      exact mk_0.cong (fun x x0 x1 => ⟨fun z => z.elim, fun z => z.2 (d3 x x0 z.1)⟩)) (fun x x0 x1 => Or.inl ⟨d3 x x0 x1, fun q q0 q1 => by omega⟩)
  have fF : ∀ c j, ¬ (c = 489 ∨ c = 490 ∨ c = 491 ∨ c = 492 ∨ (c = 439 ∧ j = 78)) → F c j = N c j := fun c j hc => by rw [e2 c j (by omega), fE c j (by omega)]
  have emod : f_Model_findsHeads N = some (0, F) := by
    rw [q_Model_findsHeads, h75, a1]
    simp only [Option.bind_some]
    rw [a3 439 47 (by omega), f47, x32_s (by omega) (by omega), b1, c1, d1]
    rw [show 30 * M 439 17 + M (M 0 11) 4 - 1 = 30 * M 439 17 + (M (M 0 11) 4 - 1) by omega]
    exact e1
  -- the lines in F
  have f490 : ∀ j, F 490 j = B 490 j := fun j => by rw [e2 490 j (by omega), d2 490 j (by omega), xup_ne (by omega), c2 490 j (by omega)]
  have f489 : ∀ j, F 489 j = A 489 j := fun j => by rw [e2 489 j (by omega), d2 489 j (by omega), xup_ne (by omega), c2 489 j (by omega), b2' 489 j (by omega)]
  have lvF : ∀ x, lvs F t x ↔ lvs N t x := fun x => by
    unfold lvs
    rw [fF 471 _ (by omega), fF 472 _ (by omega)]
  have lnF : ∀ y, 0 ≤ y → y < M 6 0 → lnOk F t (M 6 0) y := fun y y0 y1 => by
    have h := b3 y y0 y1
    have hx : ∀ c, lin F t y c ↔ lin B t y c := fun c => lin.cong (fun b q0 q1 => by rw [fF b _ (by omega), fB b _ (by omega)]) (f490 c)
    unfold lnOk at h ⊢
    rw [f490]
    exact ⟨h.1, h.2.trans ⟨fun ⟨c, u, v, x⟩ => ⟨c, u, v, (hx c).mpr x⟩, fun ⟨c, u, v, x⟩ => ⟨c, u, v, (hx c).mp x⟩⟩⟩
  -- the class
  have hLF : mk L (fun x => x < M 6 0 ∧ lvs F t x) := hl.cong (fun x _ _ => ⟨fun z => ⟨z.1, (lvF x).mpr z.2⟩, fun z => ⟨z.1, (lvF x).mp z.2⟩⟩)
  have pF : ∀ c, 0 ≤ c → c < M 6 0 → (F 469 c = M 8 c ∧ F 470 c = M 9 c) ∧ F 471 c = M 10 c := fun c c0 c1 => by
    obtain ⟨-, a, b, d⟩ := hP.2.2.2 c c0 c1
    rw [fF 469 c (by omega), fF 470 c (by omega), fF 471 c (by omega), st 469 c (by unfold sStat; omega), st 470 c (by unfold sStat; omega), st 471 c (by unfold sStat; omega)]
    exact ⟨⟨a.1, b.1⟩, d.1⟩
  obtain ⟨M1, g1, g2, g3⟩ := f_lines (N := F) (t := t) (n := M 6 0) (L := L) n0 hn hLF lnF (fun c c0 c1 => by rw [fF _ _ (by omega), fF _ _ (by omega)]; exact par c c0 c1) 30 29 (xup M 127 9 0) (by rw [xup_ne (by omega)]) (by rw [xup_ne (by omega)]; exact h8) (fun d d0 d1 => by
    rw [xup_ne (by omega)]
    refine (hK.1 d d0 d1).1.cong (fun x x0 x1 => ?_)
    unfold kBorn kLead
    rw [if_pos rfl]
    constructor
    · rintro ⟨⟨u, v, z⟩, y⟩
      rw [(pF x u v).1.1, (pF x u v).1.2, (pF x u v).2]
      exact ⟨v, z, y⟩
    · rintro ⟨v, z, y⟩
      rw [(pF x x0 v).1.1, (pF x x0 v).1.2] at y
      rw [(pF x x0 v).2] at z
      exact ⟨⟨x0, v, z⟩, y⟩) (by omega) (by omega) (by omega) ⟨fun y y0 y1 => by omega, by
    rw [xup_eq]
    exact mk_0.cong (fun x _ x1 => ⟨fun z => z.elim, fun z => by omega⟩)⟩
  have gM1 : ∀ c j, ¬ (c = 132 ∨ (c = 127 ∧ j = 9)) → M1 c j = M c j := fun c j hc => by rw [g2 c j hc, xup_ne (by omega)]
  have gM1' : ∀ c j, ¬ (c = 132 ∨ (c = 127 ∧ 9 ≤ j ∧ j ≤ 10)) → (xup M1 127 10 0) c j = M c j := fun c j hc => by rw [xup_ne (by omega), gM1 c j (by omega)]
  have hdF : ∀ k x, hd F t p (M 439 17) k x ↔ hd D t p (M 439 17) k x := fun k x => by
    unfold hd lvs
    rw [e2 489 _ (by omega), e2 471 _ (by omega), e2 472 _ (by omega), e2 449 _ (by omega), e2 490 _ (by omega)]
  have hdmF : ∀ k, 0 ≤ k → k < M (M 0 11) 0 → mk (F 491 k) (fun x => x < M 6 0 ∧ hd F t p (M 439 17) k x) := fun k k0 k1 => by
    rw [e2 491 _ (by omega)]
    exact (hdm k k0 k1).cong (fun x _ _ => ⟨fun z => ⟨z.1, (hdF _ _).mpr z.2⟩, fun z => ⟨z.1, (hdF _ _).mp z.2⟩⟩)
  obtain ⟨M2, i1, i2, i3⟩ := f_heads (N := F) (t := t) (n := M 6 0) (L := L) (p := p) (w := M 0 11) (s := M 439 17) (K := M (M 0 11) 0) hn w1 w6 p0 p1 hLF hdmF 20 0 (xup M1 127 10 0) (gM1' _ _ (by omega)) (gM1' _ _ (by omega)) (by rw [gM1' _ _ (by omega)]; exact h8) (fun k k0 k1 => by
    rw [fF 449 _ (by omega), st 449 _ (by unfold sStat; omega), gM1' (M 0 11) 2 (by omega)]
    exact wb k k0 k1) (fun k k0 k1 => by
    rw [f489, a2 k k0 k1 p p0 p1, gM1' (31 + k) p (by omega)]
    refine ⟨st _ _ (by unfold sStat; omega), (hK.2.2.2 k k0 k1 p p0 p1).self⟩) (by rw [xup_ne (by omega)]; exact g3.2) (by omega) (by omega) ⟨fun k k0 k1 => by omega, by
    rw [xup_eq]
    exact mk_0.cong (fun x _ _ => ⟨fun z => z.elim, fun ⟨k, u, v, _⟩ => by omega⟩)⟩
  have gM2 : ∀ c j, ¬ (c = 128 ∨ c = 132 ∨ (c = 127 ∧ 9 ≤ j ∧ j ≤ 10)) → M2 c j = M c j := fun c j hc => by rw [i2 c j (by omega), gM1' c j (by omega)]
  have gM3 : ∀ c j, ¬ (c = 128 ∨ c = 132 ∨ (c = 127 ∧ 9 ≤ j ∧ j ≤ 11)) → (xup M2 127 11 0) c j = M c j := fun c j hc => by rw [xup_ne (by omega), gM2 c j (by omega)]
  obtain ⟨M4, j1, j2, j3, j4⟩ := f_barred (M0 := xup M2 127 11 0) (N := F) (w := M 0 11) (s := M 439 17) (p := p) (n := M 6 0) (K := M (M 0 11) 0) (R := M (M 0 11) 4) hn w1 (gM3 _ _ (by omega)) w6 (gM3 _ _ (by omega)) w9 (gM3 _ _ (by omega)) p0 p1 (fun r r0 r1 => by
    have h := rule r r0 r1
    unfold RRule RFix RBar RList at h ⊢
    have gw : ∀ c j, M 0 11 ≤ c → c ≤ M 0 11 + 72 → (xup M2 127 11 0) c j = M c j := fun c j z0 z1 => gM3 c j (by omega)
    have gn : ∀ c j, 447 ≤ c → c ≤ 467 → (xup M2 127 11 0) c j = M c j := fun c j z0 z1 => gM3 c j (by omega)
    simp (disch := omega) only [gw, gn]
    exact h) (fun c j z0 z1 => by rw [fF c j (by omega), st c j (by unfold sStat; omega), gM3 c j (by omega)]) (fun k k0 k1 => by
      rw [xup_ne (by omega)]
      exact ⟨(i3.1 k k0 (by omega) (by omega)).1 k1, (hdmF k k0 k1).self⟩) (fun k k0 k1 => by
      rw [f489, a2 k k0 k1 p p0 p1, gM3 (31 + k) p (by omega)]
      exact st _ _ (by unfold sStat; omega)) 30 0 (xup M2 127 11 0) (fun _ _ _ => rfl) (by omega) (by omega) w8 (by
      rw [xup_eq]
      exact mk_0.self) (fun x x0 x1 => by
      unfold cb
      rw [xup_eq, tb_0]
      exact ⟨⟨fun z => (by cases z), fun ⟨q, u, v, _⟩ => (by omega)⟩, fun z => (by cases z)⟩)
  have gM4 : ∀ c j, ¬ (c = 128 ∨ c = 129 ∨ c = 132 ∨ (c = 127 ∧ 9 ≤ j ∧ j ≤ 11)) → M4 c j = M c j := fun c j hc => by rw [j2 c j (by omega), gM3 c j (by omega)]
  refine ⟨M4, F, fun f => ?_, emod, ⟨?_, ?_, ?_, ?_, ?_, ?_, ?_⟩, gM4, fF⟩
  · rw [q_Parting_findLines, g1]
    simp only [Option.bind_some]
    rw [q_Parting_findHeads, i1]
    simp only [Option.bind_some]
    rw [q_Parting_findBarred, j1]
    rfl
  · rw [gM4 6 0 (by omega)]; exact lnF
  · rw [gM4 6 0 (by omega)]
    refine ⟨fun y y0 y1 => ?_, ?_⟩
    · rw [j2 132 y (by omega), xup_ne (by omega), i2 132 y (by omega), xup_ne (by omega)]
      exact g3.1 y y0 y1
    · rw [j2 127 9 (by omega), xup_ne (by omega), i2 127 9 (by omega), xup_ne (by omega)]
      exact g3.2
  · rw [gM4 127 8 (by omega)]; exact h8
  · rw [gM4 0 11 (by omega), gM4 (M 0 11) 0 (by omega)]
    refine ⟨fun k k0 k1 k2 => ?_, ?_⟩
    · rw [j2 128 k (by omega), xup_ne (by omega)]
      exact i3.1 k k0 k1 k2
    · rw [j2 127 10 (by omega), xup_ne (by omega)]
      exact i3.2
  · rw [gM4 0 11 (by omega), gM4 (M 0 11) 0 (by omega), gM4 6 0 (by omega), gM4 439 17 (by omega)]
    exact hdmF
  · rw [gM4 6 0 (by omega)]
    refine ⟨mk.one (S := fun x => x < M 6 0 ∧ ¬ F 492 x = -1) ?_ e3, e3⟩
    refine j3.cong (fun x x0 x1 => ?_)
    have hc := (j4 x x0 x1).1
    rw [hc]
    have br : ∀ q, brs F (M 439 17) p q x ↔ brs D (M 439 17) p q x := fun q => by
      unfold brs
      rw [e2 455 _ (by omega), e2 456 _ (by omega), e2 457 _ (by omega), e2 489 _ (by omega), e2 491 _ (by omega)]
    constructor
    · rintro ⟨q, q0, q1, q2⟩
      have hx : x < M 6 0 := by
        rcases rule q q0 q1 with ⟨k1, k2, -⟩ | ⟨k1, k2, ⟨b1, ⟨b2', b3, b4⟩, ⟨b5, b6, b7⟩⟩⟩ | ⟨k1, k2, -⟩ | ⟨k1, k2, -⟩
        · have := q2.1
          rw [fF 455 _ (by omega), st 455 _ (by unfold sStat; omega)] at this
          omega
        · have := q2.2.1
          rw [fF 457 _ (by omega), st 457 _ (by unfold sStat; omega), b5, f489, a2 _ b6 b7 p p0 p1, st _ _ (by unfold sStat; omega)] at this
          exact (kOf_born (((hK.2.2.2 _ b6 b7 p p0 p1).at_ x0 x1).mp this)).2.1
        · have := q2.1
          rw [fF 455 _ (by omega), st 455 _ (by unfold sStat; omega)] at this
          omega
        · have := q2.1
          rw [fF 455 _ (by omega), st 455 _ (by unfold sStat; omega)] at this
          omega
      refine ⟨hx, fun z => ?_⟩
      rcases e4 x x0 hx with ⟨y1, y2⟩ | ⟨y1, -⟩
      · exact y2 q q0 q1 ((br q).mp q2)
      · omega
    · rintro ⟨z1, z2⟩
      rcases e4 x x0 z1 with ⟨y1, -⟩ | ⟨y1, y2, y3, -⟩
      · exact absurd y1 z2
      · exact ⟨_, y1, y2, (br _).mpr y3⟩
  · rw [gM4 6 0 (by omega)]
    intro x x0 x1 hx
    have br : ∀ q, brs F (M 439 17) p q x ↔ brs D (M 439 17) p q x := fun q => by
      unfold brs
      rw [e2 455 _ (by omega), e2 456 _ (by omega), e2 457 _ (by omega), e2 489 _ (by omega), e2 491 _ (by omega)]
    have hc := j4 x x0 (by omega)
    rcases e4 x x0 x1 with ⟨y1, -⟩ | ⟨y1, y2, y3, y4⟩
    · exact absurd y1 hx
    · obtain ⟨⟨u0, u1⟩, u2, u3⟩ := hc.2 (hc.1.mpr ⟨_, y1, y2, (br _).mpr y3⟩)
      by_cases l : M4 129 x < F 492 x
      · exact absurd ((br _).mp u2) (y4 _ u0 l)
      · by_cases l2 : F 492 x < M4 129 x
        · exact absurd ((br _).mpr y3) (u3 _ y1 l2)
        · omega
end
