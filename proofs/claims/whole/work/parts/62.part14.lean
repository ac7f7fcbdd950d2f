/-! PARTING: the rest, all of it. -/
section
variable {M N : em_M}
/-- what the rest leaves -/
def gR (M N : em_M) : Prop := pR M N ∧ M 127 17 = N 439 90 ∧ ((N 439 91 = 0 ∧ M 127 16 = 1) ∨ (N 439 91 = 1 ∧ M 127 16 = M 127 15)) ∧ mk (M 127 13) (fun x => x < M 6 0 ∧ N 493 x = -1 ∧ ¬ N 494 x = -1) ∧ ∀ x, 0 ≤ x → x < M 6 0 → N 494 x = -1 ∨ N 494 x = N 439 90
def gOk (M N M' N' : em_M) : Prop := N' 439 44 = 0 ∧ gR M' N' ∧ qC M M' ∧ qM N N' ∧ (M' 127 14 = M 127 14 ∧ M' 127 15 = M 127 15) ∧ (∀ j, 86 ≤ j → j ≤ 89 → N' 439 j = N 439 j) ∧ zC M M'
def gBad (M N M' N' : em_M) : Prop := N' 439 44 = 1 ∧ qC M M' ∧ qM N N'
/-- ahead of the rest -/
def gPre (M N : em_M) (t L p : Int) : Prop := bR M N t L p ∧ pR M N ∧ N 439 44 = 0 ∧ fr_is N (M 127 15) (N 439 88) (N 439 89) ∧ (N 439 90 = -1 ∧ N 439 91 = 0) ∧ (M 127 17 = -1 ∧ M 127 13 = 0 ∧ M 127 16 = 1) ∧ ∀ x, 0 ≤ x → x < M 6 0 → N 494 x = -1
theorem m_done {v q : Int} (hv : v = 2 ∨ v = 3) (hs : N 439 17 = 0 ∨ N 439 17 = 1) (h : ¬ N 439 90 = -1) : f_Model_goesOn_23 v q N = some (0, xup N 439 91 0) := by
  have e : f_Model_goesOn_2 (v + 1) N = some (0, xup N 439 91 0) := by
    rw [q_Model_goesOn_2]
    simp only [em_cd]
    by_cases c : 4 ≤ v + 1
    · rw [if_pos c, if_pos h]
    · rw [if_neg c, if_pos h, if_pos h]
  rw [q_Model_goesOn_23]
  simp only [em_cd]
  rw [if_pos (by omega), x32_s (x := v + 1) (by omega) (by omega), e]
  by_cases c : x32 (x32 (30 * N 439 17) + N 454 (N 439 17)) ≤ q
  · rw [if_pos c]
  · rw [if_neg c, if_pos h]
theorem bR.ls {t L p r : Int} (hb : bR M N t L p) (h : RList M (M 0 11) (M 439 17) r) (r0 : 0 ≤ r) (r1 : r < 30) : lsR M N (M 0 11) r (30 * M 439 17 + r) (M (M 0 11 + 10) r) (M (M 0 11) 0) (M 6 0) := by
  obtain ⟨nl, w1, w3, w6, w9, n17, n454⟩ := hb.laws
  obtain ⟨⟨a1, a2, a3⟩, b⟩ := h
  refine ⟨⟨rfl, by rw [nl 463 _ (by omega) (by omega)]; exact a1, a2, a3⟩, fun i i0 i1 => ?_, fun k k0 k1 => ?_⟩
  · obtain ⟨⟨b1, b2', b3⟩, ⟨b4, b5, b6, -⟩⟩ := b i i0 i1
    rw [nl 464 _ (by omega) (by omega), nl 465 _ (by omega) (by omega)]
    exact ⟨⟨b1, b2', b3⟩, b4, b5, b6⟩
  · obtain ⟨h1, h2⟩ := hb.head k0 k1
    exact ⟨h1, h2.cong (fun x x0 x1 => ⟨fun z => ⟨z.1, (h2.at_ x0 x1).mpr z⟩, fun z => (h2.at_ x0 x1).mp z.2⟩)⟩
/-- a rule of the rest that applies -/
theorem rest_rule {t L p r : Int} (hg : gPre M N t L p) (h : RList M (M 0 11) (M 439 17) r) (h1w : ∀ i, 0 ≤ i → i < M (M 0 11 + 10) r → 1 ≤ M (M 0 11 + 43 + r) i) (r0 : 0 ≤ r) (r1 : r < 30) :
    ∃ U, f_Parting_headsNamedIn (M 0 11) r M = some (U, M) ∧ ((x_and U (x_xor (M 127 11) (-1)) = 0 ∧ f_Model_restOf (30 * M 439 17 + r) N = some (0, N)) ∨ (¬ x_and U (x_xor (M 127 11) (-1)) = 0 ∧ ((∃ M' N', f_Parting_shareByWeights (M 0 11) r M = some (1, M') ∧ f_Model_restOf (30 * M 439 17 + r) N = some (1, N') ∧ gOk M N M' (xup (xup N' 439 90 r) 439 91 0)) ∨ (∃ M' N', f_Parting_shareByWeights (M 0 11) r M = some (0, M') ∧ f_Model_restOf (30 * M 439 17 + r) N = some (1, N') ∧ gBad M N M' (xup (xup N' 439 90 r) 439 91 0))))) := by
  obtain ⟨hb, hp, hz, hR, ⟨h90, h91⟩, ⟨h17, h13, h16⟩, h494⟩ := hg
  obtain ⟨nl, w1, w3, w6, w9, n17, n454⟩ := hb.laws
  have hl := hb.ls h r0 r1
  have n0 : 0 ≤ M 6 0 := hb.1.1.1.2.1
  have hn : M 6 0 ≤ 30 := hb.1.1.1.2.2.1
  have f47 : N 439 47 = M 6 0 := by rw [hb.1.2.1 _ _ (by unfold sStat; omega)]; exact hb.1.1.1.1
  obtain ⟨U, u1, u2⟩ := f_named hl w1 w6 r0 r1 8 0 0 (fun _ => False) mk_0 (by omega) (by have := hl.1; omega) (by have := hl.1; omega)
  obtain ⟨-, ⟨-, -, -, -, -, ⟨hb1, hb2⟩, -⟩, -⟩ := id hb
  have mU := u2.minus (w := M 127 11) (T := fun x => x < M 6 0 ∧ ¬ N 492 x = -1) (fun x x0 x1 => by rw [hb1]; exact hb2.at_ x0 x1)
  have hX : qC M (xup M 127 17 r) := fun c j hc => xup_ne (by omega)
  obtain ⟨V, W, M1, g1, g2, g3, g4, g5, g6, g7⟩ := rest7_both (M := xup M 127 17 r) (n := M 6 0) (hb.fr hX (qM.rf N)) (xup_ne (by omega)) (hl.fr w1 r0 r1 hX (qM.rf N)) w1 w6 r0 r1 (by omega) (by omega) (fun i i0 i1 => by
    have := h1w i i0 i1
    rw [(hl.2.1 i i0 i1).2.1]
    exact this) 8 0 0 0 (xup M 127 17 r) (fun _ _ _ => rfl) (by omega) (by have := hl.1; omega) (by have := hl.1; omega) (mk_0.cong (fun x _ _ => ⟨fun z => z.elim, fun ⟨_, j, u, v, _⟩ => by omega⟩)) (by omega) ⟨fun _ => rfl, fun _ => rfl⟩ (fun x x0 x1 x2 => by rw [tb_0] at x2; cases x2)
  have eqV : x_and U (x_xor (M 127 11) (-1)) = 0 ↔ V = 0 := by
    rw [mU.zero, g4.zero]
    constructor
    · intro z x x0 x1 x2
      obtain ⟨⟨y1, y2⟩, j, j0, j1, j2⟩ := x2
      exact z x x0 x1 ⟨Or.inr ⟨j, j0, j1, j2⟩, fun k => k.2 y2⟩
    · intro z x x0 x1 x2
      obtain ⟨y, y3⟩ := x2
      rcases y with y | ⟨j, j0, j1, j2⟩
      · exact y
      · have hx : x < M 6 0 := by
          obtain ⟨⟨c1, c2, c3⟩, -⟩ := hl.2.1 j j0 j1
          rw [← c1] at c2 c3
          exact (((hl.2.2 _ c2 c3).2.at_ x0 x1).mp j2).1
        exact z x x0 x1 ⟨⟨hx, Classical.byContradiction (fun k => y3 ⟨hx, k⟩)⟩, j, j0, j1, j2⟩
  refine ⟨U, (q_Parting_headsNamedIn _ _ _).trans u1, ?_⟩
  rw [q_Model_restOf, q_Parting_shareByWeights, g1, g2, eqV, ← g6]
  by_cases wz : W = 0
  · left
    rw [if_neg (fun z => z wz)]
    exact ⟨wz, rfl⟩
  · right
    refine ⟨wz, ?_⟩
    rw [if_pos wz]
    generalize hY : xup M1 127 13 (x_and V (x_xor ((xup M 127 17 r) 127 12) (-1))) = Y
    have fY : ∀ a j, ¬ (a = 131 ∨ (a = 127 ∧ (j = 13 ∨ j = 17))) → Y a j = M a j := fun a j ha => by rw [← hY, xup_ne (by omega), g3 a j (by omega), xup_ne (by omega)]
    have y13 : Y 127 13 = x_and V (x_xor (M 127 12) (-1)) := by rw [← hY, xup_eq, xup_ne (by omega)]
    have y17 : Y 127 17 = r := by rw [← hY, xup_ne (by omega), g3 _ _ (by omega), xup_eq]
    have qY : qC M Y := fun c j hc => fY c j (by omega)
    have hVn : ∀ x, 0 ≤ x → x < 30 → tb V x = true → x < M 6 0 ∧ (∃ j, 0 ≤ j ∧ j < N 463 (30 * M 439 17 + r) ∧ tb (N 491 (N 464 (8 * (30 * M 439 17 + r) + j))) x = true) := fun x x0 x1 x2 => by
      obtain ⟨⟨y1, y2⟩, j, j0, j1, j2⟩ := (g4.at_ x0 x1).mp x2
      exact ⟨y1, j, j0, by rw [hl.1.2.1]; exact j1, j2⟩
    have lY := hl.fr w1 r0 r1 qY (qM.rf N)
    have gE : ∀ (M' N' : em_M), (∀ a j, ¬ (a = 133 ∧ 0 ≤ j ∧ j < M 6 0 ∧ tb V j = true) → M' a j = Y a j) → wF N N' → qC M M' ∧ qM N (xup (xup N' 439 90 r) 439 91 0) := fun M' N' k1 k2 =>
      ⟨fun c j hc => by rw [k1 c j (by omega), fY c j (by omega)], fun c j hc => by rw [xup_ne (by omega), xup_ne (by omega), k2 c j (by omega)]⟩
    rcases rest_loop (q := 30 * M 439 17 + r) (W := W) (V := V) (r := r) (s := M 439 17) (R := M 127 15) n0 hn w6 w3 rfl r0 r1 (by omega) g5.2 w1 30 0 Y N lY ⟨⟨f47, n17⟩, hR, hVn⟩ (fY _ _ (by omega)) (fun y y0 y1 y2 => by
        rw [← hY, xup_ne (by omega)]
        exact g7 y y0 y1 y2) hz (fun y y0 y1 => by rw [fY _ _ (by omega)]; exact hp.1 y y0 y1) (by omega) (by omega) with ⟨M', N', s1, s2, s3, s4, s5, s6, s7, s8⟩ | ⟨M', N', s1, s2, s3, s7, s8⟩
    · left
      obtain ⟨q1, q2⟩ := gE M' N' s7 s8
      have t13 : M' 127 13 = x_and V (x_xor (M 127 12) (-1)) := by rw [s7 _ _ (by omega)]; exact y13
      have e6 : M' 6 0 = M 6 0 := q1 _ _ (by omega)
      refine ⟨M', N', s1, s2, ?_, ⟨⟨?_, ?_, ?_, ?_⟩, ?_, ?_, ?_, ?_⟩, q1, q2, ⟨?_, ?_⟩, fun j j0 j1 => ?_, fun x x0 x1 z1 z2 => ?_⟩
      rotate_right
      · rw [s7 133 x (fun z => ?_), fY 133 x (by omega)]
        · exact z1
        · obtain ⟨y1, j, j0, j1, j2⟩ := (g4.at_ x0 x1).mp z.2.2.2
          obtain ⟨⟨c1, c2, c3⟩, -⟩ := hl.2.1 j j0 j1
          rw [← c1] at c2 c3
          refine z2 _ c2 (by omega) ?_
          rw [(hl.2.2 _ c2 c3).1]
          exact j2
      · rw [xup_ne (by omega), xup_ne (by omega)]; exact s3
      · rw [e6]
        intro x x0 x1
        rw [xup_ne (by omega), xup_ne (by omega), xup_ne (by omega), xup_ne (by omega)]
        exact s4 x x0 x1
      · rw [e6]
        intro x x0 x1
        rw [s7 133 x (fun z => by omega), fY 133 x (by omega)]
        exact hp.2.1 x x0 x1
      · rw [e6, s7 127 12 (by omega), fY 127 12 (by omega)]
        refine hp.2.2.1.cong (fun x _ _ => ?_)
        rw [xup_ne (by omega), xup_ne (by omega), s8 493 x (by omega)]
      · rw [e6]
        intro x x0 x1
        rw [xup_ne (by omega), xup_ne (by omega), s8 493 x (by omega), s7 130 x (by omega), fY 130 x (by omega)]
        exact hp.2.2.2 x x0 x1
      · rw [xup_ne (by omega), xup_eq, s7 127 17 (by omega)]
        exact y17
      · left
        rw [xup_eq, s7 127 16 (by omega), fY 127 16 (by omega)]
        exact ⟨rfl, h16⟩
      · rw [t13, e6]
        have mg := g4.minus (w := M 127 12) (T := fun x => x < M 6 0 ∧ ¬ N 493 x = -1) (fun x x0 x1 => hp.2.2.1.at_ x0 x1)
        refine mg.cong (fun x x0 x1 => ?_)
        rw [xup_ne (by omega), xup_ne (by omega), xup_ne (by omega), xup_ne (by omega), s8 493 x (by omega)]
        have hv := g4.at_ x0 x1
        constructor
        · rintro ⟨y1, y2⟩
          have tv := hv.mpr y1
          refine ⟨y1.1.1, Classical.byContradiction (fun k => y2 ⟨y1.1.1, k⟩), ?_⟩
          rw [s5 x x0 y1.1.1 tv]
          omega
        · rintro ⟨y1, y2, y3⟩
          refine ⟨hv.mp (Classical.byContradiction (fun k => y3 ?_)), fun k => k.2 y2⟩
          rw [s6 x (fun z => k z.2.2)]
          exact h494 x x0 y1
      · rw [e6]
        intro x x0 x1
        rw [xup_ne (by omega), xup_ne (by omega), xup_ne (show ¬ ((439 : Int) = 439 ∧ (90 : Int) = 91) by omega), xup_eq]
        by_cases tv : tb V x = true
        · exact Or.inr (s5 x x0 x1 tv)
        · left
          rw [s6 x (fun z => tv z.2.2)]
          exact h494 x x0 x1
      · rw [s7 127 14 (by omega), fY 127 14 (by omega)]
      · rw [s7 127 15 (by omega), fY 127 15 (by omega)]
      · rw [xup_ne (by omega), xup_ne (by omega), s8 439 j (by omega)]
    · right
      obtain ⟨q1, q2⟩ := gE M' N' s7 s8
      exact ⟨M', N', s1, s2, by rw [xup_ne (by omega), xup_ne (by omega)]; exact s3, q1, q2⟩
/-- a rule of giving back -/
theorem back_rule {t L p r : Int} (hg : gPre M N t L p) (h : RList M (M 0 11) (M 439 17) r) (r0 : 0 ≤ r) (r1 : r < 30) :
    ∃ U, f_Parting_headsNamedIn (M 0 11) r M = some (U, M) ∧ ((f_Parting_hasPart U M = some (0, M) ∧ f_Model_backOf (30 * M 439 17 + r) N = some (0, N)) ∨ (f_Parting_hasPart U M = some (1, M) ∧ ((∃ M' N', f_Parting_giveBack r U M = some (1, M') ∧ f_Model_backOf (30 * M 439 17 + r) N = some (1, N') ∧ gOk M N M' (xup (xup N' 439 90 r) 439 91 0)) ∨ (∃ M' N', f_Parting_giveBack r U M = some (0, M') ∧ f_Model_backOf (30 * M 439 17 + r) N = some (1, N') ∧ gBad M N M' (xup (xup N' 439 90 r) 439 91 0))))) := by
  obtain ⟨hb, hp, hz, hR, ⟨h90, h91⟩, ⟨h17, h13, h16⟩, h494⟩ := hg
  obtain ⟨nl, w1, w3, w6, w9, n17, n454⟩ := hb.laws
  have hl := hb.ls h r0 r1
  have n0 : 0 ≤ M 6 0 := hb.1.1.1.2.1
  have hn : M 6 0 ≤ 30 := hb.1.1.1.2.2.1
  have f47 : N 439 47 = M 6 0 := by rw [hb.1.2.1 _ _ (by unfold sStat; omega)]; exact hb.1.1.1.1
  obtain ⟨U, u1, u2⟩ := f_named hl w1 w6 r0 r1 8 0 0 (fun _ => False) mk_0 (by omega) (by have := hl.1; omega) (by have := hl.1; omega)
  obtain ⟨U2, v1, v2⟩ := m_named (v3 := 0) hl w6 (show 0 ≤ 30 * M 439 17 + r by omega) (by omega) 8 0 0 (fun _ => False) mk_0 (by omega) (by have := hl.1; omega) (by have := hl.1; omega)
  rw [v2.one u2] at v1
  have okp : ∀ x, 0 ≤ x → x < 30 → fr_ok (M 133 x) := fun x x0 x1 => by
    by_cases c : x < M 6 0
    · exact (hp.1 x x0 c).1
    · rw [hp.2.1 x (by omega) x1]
      exact fr_ok_1.1
  have hUn : ∀ x, M 6 0 ≤ x → x < 30 → ¬ tb U x = true := fun x x0 x1 z => by
    rcases (u2.at_ (by omega) x1).mp z with y | ⟨j, j0, j1, j2⟩
    · exact y
    · obtain ⟨⟨c1, c2, c3⟩, -⟩ := hl.2.1 j j0 j1
      rw [← c1] at c2 c3
      have := (((hl.2.2 _ c2 c3).2.at_ (by omega) x1).mp j2).1
      omega
  refine ⟨U, (q_Parting_headsNamedIn _ _ _).trans u1, ?_⟩
  rw [q_Parting_hasPart, q_Model_backOf, v1]
  have k47 := m_47 (U := U) n0 hn f47 30 0 (by omega) (by omega)
  rcases f_hasPart (U := U) okp 30 0 (by omega) (by omega) with ⟨⟨x, x0, x1, x2, x3⟩, e1⟩ | ⟨hno, e1⟩
  · right
    have xn : x < M 6 0 := Classical.byContradiction (fun z => hUn x (by omega) x1 x2)
    have e2 : f_Model_backOf_47 U 0 0 N = f_Model_backOf_108 U 0 1 0 N := by
      rcases k47 with ⟨-, k⟩ | ⟨k, -⟩
      · exact k
      · have := k x x0 xn x2
        rw [(hp.1 x x0 xn).2.1] at this
        exact absurd x3 this
    refine ⟨e1, ?_⟩
    rw [e2, q_Parting_giveBack]
    have hX : qC M (xup M 127 17 r) := fun c j hc => xup_ne (by omega)
    obtain ⟨all, a, b, N1, g1, g2, g3, g4⟩ := back_sum (M := xup M 127 17 r) (U := U) n0 hn f47 hUn (fun y y0 y1 => by rw [xup_ne (by omega)]; exact hp.1 y y0 y1) 30 0 1 0 1 N (fun _ _ _ => rfl) hz ⟨fr_ok_1.1, fr_ok_1.2.1.symm, fr_ok_1.2.2.symm⟩ (by omega) (by omega)
    rw [g1, g2]
    have gE : ∀ (M' N' : em_M), (∀ a j, ¬ (a = 133 ∧ 0 ≤ j ∧ j < 30) → M' a j = (xup M 127 17 r) a j) → lF N1 N' → qC M M' ∧ qM N (xup (xup N' 439 90 r) 439 91 0) := fun M' N' k1 k2 =>
      ⟨fun c j hc => by rw [k1 c j (by omega), xup_ne (by omega)], fun c j hc => by rw [xup_ne (by omega), xup_ne (by omega), k2 c j (by omega), g3 c j (by omega)]⟩
    rcases g4 with ⟨z1, z2, z3⟩ | ⟨z1, z2⟩
    · have apos : 0 < fr_up all := z3 (Or.inr ⟨x, x0, xn, x2, by rw [xup_ne (by omega)]; exact x3⟩)
      rcases back_loop (n := M 6 0) (U := U) (A := all) (a := a) (b := b) (R := M 127 15) n0 hn hUn z2 apos hR.1 30 0 (xup M 127 17 r) N1 (by rw [g3 _ _ (by omega)]; exact f47) (xup_ne (by omega)) (by rw [g3 _ _ (by omega), g3 _ _ (by omega)]; exact hR) z1 (fun y y0 y1 => by
          rw [xup_ne (by omega), g3 495 y (by omega), g3 496 y (by omega)]
          exact hp.1 y y0 y1) (by omega) (by omega) with ⟨M', N', s1, s2, s3, s4, s5, s6, s7⟩ | ⟨M', N', s1, s2, s3, s5, s6⟩
      · left
        obtain ⟨q1, q2⟩ := gE M' N' (fun c j hc => s5 c j (by omega)) s6
        have e6 : M' 6 0 = M 6 0 := q1 _ _ (by omega)
        refine ⟨M', N', s1, s2, ?_, ⟨⟨?_, ?_, ?_, ?_⟩, ?_, ?_, ?_, ?_⟩, q1, q2, ⟨?_, ?_⟩, fun j j0 j1 => ?_, fun x _ _ z _ => s7 x (by rw [xup_ne (by omega)]; exact z)⟩
        · rw [xup_ne (by omega), xup_ne (by omega)]; exact s3
        · rw [e6]
          intro x x0 x1
          rw [xup_ne (by omega), xup_ne (by omega), xup_ne (by omega), xup_ne (by omega)]
          exact s4 x x0 x1
        · rw [e6]
          intro x x0 x1
          rw [s5 133 x (by omega), xup_ne (by omega)]
          exact hp.2.1 x x0 x1
        · rw [e6, s5 127 12 (by omega), xup_ne (by omega)]
          refine hp.2.2.1.cong (fun x _ _ => ?_)
          rw [xup_ne (by omega), xup_ne (by omega), s6 493 x (by omega), g3 493 x (by omega)]
        · rw [e6]
          intro x x0 x1
          rw [xup_ne (by omega), xup_ne (by omega), s6 493 x (by omega), g3 493 x (by omega), s5 130 x (by omega), xup_ne (by omega)]
          exact hp.2.2.2 x x0 x1
        · rw [xup_ne (by omega), xup_eq, s5 127 17 (by omega), xup_eq]
        · left
          rw [xup_eq, s5 127 16 (by omega), xup_ne (by omega)]
          exact ⟨rfl, h16⟩
        · rw [s5 127 13 (by omega), xup_ne (by omega), h13, e6]
          refine mk_0.cong (fun x x0 x1 => ⟨fun z => z.elim, fun z => z.2.2 ?_⟩)
          rw [xup_ne (by omega), xup_ne (by omega), s6 494 x (by omega), g3 494 x (by omega)]
          exact h494 x x0 z.1
        · rw [e6]
          intro x x0 x1
          left
          rw [xup_ne (by omega), xup_ne (by omega), s6 494 x (by omega), g3 494 x (by omega)]
          exact h494 x x0 x1
        · rw [s5 127 14 (by omega), xup_ne (by omega)]
        · rw [s5 127 15 (by omega), xup_ne (by omega)]
        · rw [xup_ne (by omega), xup_ne (by omega), s6 439 j (by omega), g3 439 j (by omega)]
      · right
        obtain ⟨q1, q2⟩ := gE M' N' (fun c j hc => s5 c j (by omega)) s6
        exact ⟨M', N', s1, s2, by rw [xup_ne (by omega), xup_ne (by omega)]; exact s3, q1, q2⟩
    · right
      rw [z2]
      obtain ⟨y, v, s1, y0, y1, y2⟩ := f_51sp (M := xup M 127 17 r) (U := U) (R := M 127 15) (xup_ne (by omega)) hR.1 (fun x x0 x1 => by rw [xup_ne (by omega)]; exact okp x x0 x1) 30 0 (by omega) (by omega) ⟨x, x0, x1, x2⟩
      obtain ⟨q1, q2⟩ := gE (xup (xup M 127 17 r) 133 y v) N1 (fun c j hc => xup_ne (by omega)) (fun _ _ _ => rfl)
      exact ⟨_, N1, s1, m_172sp z1, by rw [xup_ne (by omega), xup_ne (by omega)]; exact z1, q1, q2⟩
  · left
    refine ⟨e1, ?_⟩
    rcases k47 with ⟨⟨x, x0, x1, x2, x3⟩, -⟩ | ⟨-, k⟩
    · rw [(hp.1 x x0 x1).2.1] at x3
      exact absurd x3 (hno x x0 (by omega) x2)
    · exact k
end
