/-! PARTING: the rest by weights. -/
theorem fr_over_int {a b : Int} (ha : 0 ≤ a) (ha2 : a ≤ 1000000) (hb : 0 ≤ b) (hb2 : b ≤ 1000000) : fr_over (a * 1048576 + 1) (b * 1048576 + 1) = fr_of a b := by
  obtain ⟨o1, u1, l1⟩ := fr_ok_int (v := a) ha (by omega)
  obtain ⟨o2, u2, l2⟩ := fr_ok_int (v := b) hb (by omega)
  unfold fr_over
  rw [if_neg (by have := o1.1; have := o2.1; omega), u1, l1, u2, l2, Int.mul_one, Int.one_mul]
section
variable {M N : em_M}
theorem rest7_both {w r q sz K n p t L : Int} (hb : bR M N t L p) (hn : M 6 0 = n) (h : lsR M N w r q sz K n) (hw : w = 53 ∨ w = 366) (K1 : K ≤ 20) (r0 : 0 ≤ r) (r1 : r < 30) (q0 : 0 ≤ q) (q1 : q < 60) (h1w : ∀ i, 0 ≤ i → i < sz → 1 ≤ N 465 (8 * q + i)) : ∀ (m : Nat) (i V W : Int) (M1 : em_M), (∀ a j, ¬ a = 131 → M1 a j = M a j) → 0 ≤ i → i ≤ sz → sz - i ≤ m → mk V (fun x => (x < n ∧ N 492 x = -1) ∧ ∃ j, 0 ≤ j ∧ j < i ∧ tb (N 491 (N 464 (8 * q + j))) x = true) → (0 ≤ W ∧ W ≤ 30000 * i) → (W = 0 ↔ V = 0) → (∀ x, 0 ≤ x → x < 30 → tb V x = true → wtOf N q x (M1 131 x)) →
    ∃ V' W' M', f_Parting_shareByWeights_13 w r V W i M1 = f_Parting_shareByWeights_126 V' W' 0 (xup M' 127 13 (x_and V' (x_xor (M 127 12) (-1)))) ∧ f_Model_restOf_7 q W V i N = (if ¬ W' = 0 then f_Model_restOf_93 q W' V' 0 N else some (0, N)) ∧ (∀ a j, ¬ a = 131 → M' a j = M a j) ∧ mk V' (fun x => (x < n ∧ N 492 x = -1) ∧ ∃ j, 0 ≤ j ∧ j < sz ∧ tb (N 491 (N 464 (8 * q + j))) x = true) ∧ (0 ≤ W' ∧ W' ≤ 300000) ∧ (W' = 0 ↔ V' = 0) ∧ ∀ x, 0 ≤ x → x < 30 → tb V' x = true → wtOf N q x (M' 131 x) := by
  obtain ⟨⟨a1, a2, a3, a4⟩, b, c⟩ := id h
  obtain ⟨hS, ⟨-, -, -, -, -, ⟨hb1, hb2⟩, -⟩, -⟩ := id hb
  have n0 : 0 ≤ n := by rw [← hn]; exact hS.1.1.2.1
  have n1 : n ≤ 30 := by rw [← hn]; exact hS.1.1.2.2.1
  have f47 : N 439 47 = n := by rw [← hn, hS.2.1 _ _ (by unfold sStat; omega)]; exact hS.1.1.1
  have hwne : ¬ w + 10 = 131 ∧ ¬ w + 12 + r = 131 ∧ ¬ w + 43 + r = 131 := by omega
  intro m
  have fin : ∀ (i V W : Int) (M1 : em_M), (∀ a j, ¬ a = 131 → M1 a j = M a j) → i = sz → mk V (fun x => (x < n ∧ N 492 x = -1) ∧ ∃ j, 0 ≤ j ∧ j < i ∧ tb (N 491 (N 464 (8 * q + j))) x = true) → (0 ≤ W ∧ W ≤ 30000 * i) → (W = 0 ↔ V = 0) → (∀ x, 0 ≤ x → x < 30 → tb V x = true → wtOf N q x (M1 131 x)) → ∃ V' W' M', f_Parting_shareByWeights_13 w r V W i M1 = f_Parting_shareByWeights_126 V' W' 0 (xup M' 127 13 (x_and V' (x_xor (M 127 12) (-1)))) ∧ f_Model_restOf_7 q W V i N = (if ¬ W' = 0 then f_Model_restOf_93 q W' V' 0 N else some (0, N)) ∧ (∀ a j, ¬ a = 131 → M' a j = M a j) ∧ mk V' (fun x => (x < n ∧ N 492 x = -1) ∧ ∃ j, 0 ≤ j ∧ j < sz ∧ tb (N 491 (N 464 (8 * q + j))) x = true) ∧ (0 ≤ W' ∧ W' ≤ 300000) ∧ (W' = 0 ↔ V' = 0) ∧ ∀ x, 0 ≤ x → x < 30 → tb V' x = true → wtOf N q x (M' 131 x) := fun i V W M1 hF hi hV hW hz hx => by
    rw [hi] at hV hW
    refine ⟨V, W, M1, ?_, ?_, hF, hV, by omega, hz, hx⟩
    · rw [q_Parting_shareByWeights_13, isO_law hw, f_sizeOf hw r0 r1]
      simp only [cond_true, Bool.and_true, Option.bind_some, em_cd]
      rw [if_pos (by rw [hF _ _ hwne.1]; omega), hF 127 12 (by omega)]
    · rw [q_Model_restOf_7]
      simp only [em_cd]
      rw [if_pos (by omega), if_pos (by omega)]
  induction m with
  | zero =>
    intro i V W M1 hF i0 i1 hm hV hW hz hx
    exact fin i V W M1 hF (by omega) hV hW hz hx
  | succ m ih =>
    intro i V W M1 hF i0 i1 hm hV hW hz hx
    by_cases e0 : i = sz
    · exact fin i V W M1 hF e0 hV hW hz hx
    · clear fin
      obtain ⟨⟨b1, b2', b3⟩, ⟨b4, b5, b6⟩⟩ := b i i0 (by omega)
      obtain ⟨c1, c2⟩ := c _ b2' b3
      have e := q_Parting_shareByWeights_13 w r V W i M1
      rw [isO_law hw, f_sizeOf hw r0 r1] at e
      simp only [cond_true, Bool.and_true, Option.bind_some, em_cd, f_kinIn hw r0 r1 i0 (show i < 8 by omega)] at e
      rw [hF _ _ hwne.1, if_neg (by omega), if_neg (by omega), f_headsOf (by rw [hF _ _ hwne.2.1]; exact b2') (by rw [hF _ _ hwne.2.1]; omega)] at e
      simp only [Option.bind_some] at e
      rw [hF _ _ hwne.2.1, hF 128 _ (by omega), hF 127 11 (by omega), c1, ← b1, hb1] at e
      have eM := q_Model_restOf_7 q W V i N
      simp only [em_cd] at eM
      rw [x32_s (x := 8 * q) (by omega) (by omega), x32_s (x := 8 * q + i) (by omega) (by omega), x32_s (x := i + 1) (by omega) (by omega), if_pos (by omega), if_neg (by omega), if_pos (by omega), if_pos (by omega), if_pos (by omega)] at eM
      rw [← b1] at c2
      have mB := (c2.minus (w := N 439 78) (T := fun x => x < M 6 0 ∧ ¬ N 492 x = -1) (fun x x0 x1 => hb2.at_ x0 x1)).minus (w := V) (T := fun x => (x < n ∧ N 492 x = -1) ∧ ∃ j, 0 ≤ j ∧ j < i ∧ tb (N 491 (N 464 (8 * q + j))) x = true) (fun x x0 x1 => hV.at_ x0 x1)
      generalize hB : x_and (x_and (N 491 (N 464 (8 * q + i))) (x_xor (N 439 78) (-1))) (x_xor V (-1)) = B at e eM mB
      have mc := m_count (v := B) (M := N) n0 n1
      rw [← cnt_n mB n0 n1 (fun x z => z.1.1.1)] at mc
      have cr := cnt_rng B 30
      have cz := cnt_zero mB
      rw [f47, mc] at eM
      simp only [Option.bind_some] at eM
      have w1 := h1w i i0 (by omega)
      rw [← b4] at b5 b6
      generalize hwt : N 465 (8 * q + i) = wt at *
      have hle : 0 ≤ wt * cnt B 30 ∧ wt * cnt B 30 ≤ 30000 := by
        refine ⟨Int.mul_nonneg b5 cr.1, ?_⟩
        have h1 : wt * cnt B 30 ≤ wt * 30 := Int.mul_le_mul_of_nonneg_left cr.2 b5
        omega
      rw [x32_s (x := wt * cnt B 30) (by omega) (by omega), x32_s (by omega) (by omega)] at eM
      obtain ⟨M2, g1, g2, g3⟩ := f_50 (w := w) (r := r) (V := V) (B := B) (i := i) (wt := wt) hw r0 r1 i0 (by omega) b5 b6 30 0 W M1 (by rw [hF _ _ hwne.1]; omega) (by rw [hF _ _ hwne.2.2]; exact b4.symm) (by omega) (by omega) (by omega) hW.1 (by omega)
      rw [show cnt B 30 - cnt B (0 : Int).toNat = cnt B 30 from Int.sub_zero _] at g1
      have hF2 : ∀ a j, ¬ a = 131 → M2 a j = M a j := fun a j ha => by rw [g3 a j (fun z => ha z.1), hF a j ha]
      have mV : mk (x_or V B) (fun x => (x < n ∧ N 492 x = -1) ∧ ∃ j, 0 ≤ j ∧ j < i + 1 ∧ tb (N 491 (N 464 (8 * q + j))) x = true) := by
        refine (hV.or mB).cong (fun x x0 x1 => ?_)
        constructor
        · rintro (⟨u, j, j0, j1, j2⟩ | ⟨⟨⟨u1, u2⟩, u3⟩, u4⟩)
          · exact ⟨u, j, j0, by omega, j2⟩
          · exact ⟨⟨u1, Classical.byContradiction (fun z => u3 ⟨by omega, z⟩)⟩, i, i0, by omega, u2⟩
        · rintro ⟨u, j, j0, j1, j2⟩
          by_cases k : (x < n ∧ N 492 x = -1) ∧ ∃ j, 0 ≤ j ∧ j < i ∧ tb (N 491 (N 464 (8 * q + j))) x = true
          · exact Or.inl k
          · refine Or.inr ⟨⟨⟨u.1, ?_⟩, fun z => z.2 u.2⟩, k⟩
            by_cases ji : j = i
            · rw [ji] at j2
              exact j2
            · exact absurd ⟨u, j, j0, by omega, j2⟩ k
      have zVB : x_or V B = 0 ↔ V = 0 ∧ B = 0 := by
        have k1 := mV.zero
        have k2 := hV.zero
        have k3 := mB.zero
        constructor
        · intro z
          refine ⟨k2.mpr (fun x x0 x1 x2 => ?_), k3.mpr (fun x x0 x1 x2 => ?_)⟩
          · obtain ⟨u, j, j0, j1, j2⟩ := x2
            exact k1.mp z x x0 x1 ⟨u, j, j0, by omega, j2⟩
          · obtain ⟨⟨⟨u1, u2⟩, u3⟩, u4⟩ := x2
            exact k1.mp z x x0 x1 ⟨⟨u1, Classical.byContradiction (fun z => u3 ⟨by omega, z⟩)⟩, i, i0, by omega, u2⟩
        · rintro ⟨z1, z2⟩
          rw [z1, z2]
          rfl
      have hW0 : W + wt * cnt B 30 = 0 ↔ x_or V B = 0 := by
        rw [zVB, ← hz, ← cz]
        constructor
        · intro z
          refine ⟨by omega, ?_⟩
          have h0 : wt * cnt B 30 = 0 := by omega
          rcases Int.mul_eq_zero.mp h0 with z | z
          · omega
          · exact z
        · rintro ⟨z1, z2⟩
          rw [z1, z2, Int.mul_zero]
          rfl
      have := ih (i + 1) (x_or V B) (W + wt * cnt B 30) M2 hF2 (by omega) (by omega) (by omega) mV (by omega) hW0 (fun x x0 x1 x2 => by
        by_cases xB : tb B x = true
        · rw [g2 x x0 x1 xB]
          obtain ⟨⟨⟨u1, u2⟩, u3⟩, u4⟩ := (mB.at_ x0 x1).mp xB
          refine ⟨i, i0, by omega, u2, fun j j0 j1 z => u4 ⟨⟨u1, Classical.byContradiction (fun z => u3 ⟨by omega, z⟩)⟩, j, j0, j1, z⟩, hwt.symm⟩
        · rw [g3 131 x (fun z => xB z.2.2.2)]
          refine hx x x0 x1 ?_
          have := tb_or V B x
          rw [x2] at this
          cases hv : tb V x with
          | true => rfl
          | false =>
            rw [hv] at this
            cases hbb : tb B x with
            | true => exact absurd hbb xB
            | false => rw [hbb] at this; cases this)
      rw [e, g1, eM]
      exact this
/-- the reference finds the weight of x -/
theorem m_127 {q W V x sz K n w r : Int} (h : lsR M N w r q sz K n) (K1 : K ≤ 20) (q0 : 0 ≤ q) (q1 : q < 60) (x0 : 0 ≤ x) (x1 : x < 30) : ∀ (m : Nat) (i v5 : Int), -1 ≤ i → i < sz → i + 1 ≤ m → ∃ v, f_Model_restOf_127 q W V x v5 i N = f_Model_restOf_127 q W V x v (-1) N ∧ ((∃ j, 0 ≤ j ∧ j ≤ i ∧ tb (N 491 (N 464 (8 * q + j))) x = true) → wtOf N q x v) ∧ ((∀ j, 0 ≤ j → j ≤ i → ¬ tb (N 491 (N 464 (8 * q + j))) x = true) → v = v5) := by
  obtain ⟨⟨a1, a2, a3, a4⟩, b, c⟩ := h
  intro m
  induction m with
  | zero =>
    intro i v5 i0 i1 hm
    exact ⟨v5, by rw [show i = -1 by omega], fun ⟨j, u, v, _⟩ => by omega, fun _ => rfl⟩
  | succ m ih =>
    intro i v5 i0 i1 hm
    by_cases z : i = -1
    · exact ⟨v5, by rw [z], fun ⟨j, u, v, _⟩ => by omega, fun _ => rfl⟩
    · obtain ⟨⟨b1, b2', b3⟩, -⟩ := b i (by omega) i1
      have e := q_Model_restOf_127 q W V x v5 i N
      rw [f_Mhas N x0 (by omega)] at e
      simp only [em_cd, Option.bind_some, b2_z] at e
      rw [x32_s (x := 8 * q) (by omega) (by omega), x32_s (x := 8 * q + i) (by omega) (by omega), x32_s (x := i + -1) (by omega) (by omega), if_neg (by omega), if_pos (by omega), if_pos (by omega)] at e
      by_cases f : tb (N 491 (N 464 (8 * q + i))) x = true
      · rw [if_neg (fun y => y f), if_pos (by omega)] at e
        obtain ⟨v, k1, k2, k3⟩ := ih (i + -1) (N 465 (8 * q + i)) (by omega) (by omega) (by omega)
        refine ⟨v, e.trans k1, fun _ => ?_, fun y => absurd f (y i (by omega) (by omega))⟩
        by_cases lo : ∃ j, 0 ≤ j ∧ j ≤ i + -1 ∧ tb (N 491 (N 464 (8 * q + j))) x = true
        · exact k2 lo
        · have hv := k3 (fun j j0 j1 j2 => lo ⟨j, j0, j1, j2⟩)
          exact ⟨i, by omega, by omega, f, fun j j0 j1 j2 => lo ⟨j, j0, by omega, j2⟩, hv⟩
      · rw [if_pos f] at e
        obtain ⟨v, k1, k2, k3⟩ := ih (i + -1) v5 (by omega) (by omega) (by omega)
        refine ⟨v, e.trans k1, fun ⟨j, j0, j1, j2⟩ => k2 ⟨j, j0, ?_, j2⟩, fun y => k3 (fun j j0 j1 => y j j0 (by omega))⟩
        by_cases ji : j = i
        · rw [ji] at j2
          exact absurd j2 f
        · omega
/-- one step of the reference's rest -/
theorem m_93s {q W V x sz K n w r s wt : Int} {P R : Int} (h : lsR M N w r q sz K n) (K1 : K ≤ 20) (hs : s = 0 ∨ s = 1) (hq : q = 30 * s + r) (r0 : 0 ≤ r) (r1 : r < 30) (hn : n ≤ 30) (hsp : mSp N) (h47 : N 439 47 = n) (h17 : N 439 17 = s) (x0 : 0 ≤ x) (x1 : x < n) (hV : tb V x = true) (hk : ∃ j, 0 ≤ j ∧ j < sz ∧ tb (N 491 (N 464 (8 * q + j))) x = true) (hwt : wtOf N q x wt) (hP : fr_is N P (N 495 x) (N 496 x)) (hR : fr_is N R (N 439 88) (N 439 89)) (W1 : 1 ≤ W) (W2 : W ≤ 300000) : ∃ u1 u2 u3 s1 s2 N', f_Model_restOf_93 q W V x N = f_Model_restOf_93 q W V (x + 1) N' ∧ mSt (N 439 44) s1 (fr_of wt W) u1 ∧ mSt s1 s2 (fr_times R u1) u2 ∧ mSt s2 (N' 439 44) (fr_plus P u2) u3 ∧ (N' 495 x = fr_up u3 ∧ N' 496 x = fr_low u3) ∧ N' 494 x = r ∧ ∀ a j, ¬ ((a = 439 ∧ 44 ≤ j ∧ j ≤ 46) ∨ ((a = 494 ∨ a = 495 ∨ a = 496) ∧ j = x)) → N' a j = N a j := by
  obtain ⟨⟨a1, a2, a3, a4⟩, b, c⟩ := id h
  have e := q_Model_restOf_93 q W V x N
  rw [f_Mhas N x0 (by omega)] at e
  simp only [em_cd, Option.bind_some, b2_z] at e
  rw [if_neg (by omega), if_pos (fun y => y hV), if_pos (by omega), a2, x32_s (by omega) (by omega)] at e
  obtain ⟨v, k1, k2, -⟩ := m_127 (W := W) (V := V) h K1 (by omega : 0 ≤ q) (by omega) x0 (by omega) 8 (sz - 1) 0 (by omega) (by omega) (by omega)
  have hv : v = wt := by
    obtain ⟨j, j0, j1, j2⟩ := hk
    exact (k2 ⟨j, j0, by omega, j2⟩).one hwt
  rw [k1, hv] at e
  have wr : 0 ≤ wt ∧ wt ≤ 999 := by
    obtain ⟨i, i0, i1, -, -, i2⟩ := hwt
    obtain ⟨-, ⟨b4, b5, b6⟩⟩ := b i i0 (by omega)
    omega
  obtain ⟨ow, ow1, ow2⟩ := fr_ok_int (v := wt) wr.1 (by omega)
  obtain ⟨oW, oW1, oW2⟩ := fr_ok_int (v := W) (by omega) (by omega)
  obtain ⟨u1, A, d1, ⟨d2, d3, d4⟩⟩ := m_over' (N := N) (a := wt) (b := 1) (c := W) (d := 1) hsp ow oW (by omega) ow1.symm ow2.symm oW1.symm oW2.symm
  rw [fr_over_int wr.1 (by omega) (by omega) (by omega)] at d2
  obtain ⟨u2, B, g1, ⟨g2, g3, g4⟩⟩ := m_times' (N := A) (x := R) (y := u1) d2.sp hR.1 d2.1 ((d4 439 88 (by omega)).trans hR.2.1) ((d4 439 89 (by omega)).trans hR.2.2) d3.1 d3.2
  obtain ⟨u3, C, i1, ⟨i2, i3, i4⟩⟩ := m_plus' (N := B) (x := P) (y := u2) g2.sp hP.1 g2.1 (((g4 495 x (by omega)).trans (d4 495 x (by omega))).trans hP.2.1) (((g4 496 x (by omega)).trans (d4 496 x (by omega))).trans hP.2.2) g3.1 g3.2
  have e2 := q_Model_restOf_127 q W V x wt (-1) N
  rw [d1] at e2
  simp only [em_cd, Option.bind_some, g1, i1, q_Model_setPart] at e2
  rw [if_pos (by omega), if_pos (by omega), if_pos (by omega), if_pos (by omega), if_pos (by omega)] at e2
  simp only [Option.bind_some] at e2
  have c17 : (xup (xup C 495 x (C 439 45)) 496 x ((xup C 495 x (C 439 45)) 439 46)) 439 17 = s := by rw [xup_ne (by omega), xup_ne (by omega), i4 _ _ (by omega), g4 _ _ (by omega), d4 _ _ (by omega)]; exact h17
  rw [if_pos (by omega), c17, x32_s (x := 30 * s) (by omega) (by omega), x32_s (x := q - 30 * s) (by omega) (by omega), x32_s (by omega) (by omega), show q - 30 * s = r by omega] at e2
  refine ⟨u1, u2, u3, A 439 44, B 439 44, _, e.trans e2, d2, g2, ?_, ?_, xup_eq _ _ _ _, fun a j ha => ?_⟩
  · simp (disch := omega) only [xup_ne]
    exact i2
  · simp (disch := omega) only [xup_ne, xup_eq]
    exact i3
  · rw [xup_ne (by omega), xup_ne (by omega), xup_ne (by omega), i4 a j (by omega), g4 a j (by omega), d4 a j (by omega)]
end
