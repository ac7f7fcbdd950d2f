/-! read: lists, one item. -/
section
variable {C R M : em_M} {n m t w s k0 S P r0 r : Int}
theorem m_l11 {v1 v2 v3 v4 v5 : Int} (v0 : 0 ≤ v1) (v1' : v1 < 60) (h : v4 = 0 ∨ ¬ R 439 12 = 0) : f_Model_tellList_11 v1 v2 v3 v4 v5 R = some (0, xup R 463 v1 v3) := by
  rw [q_Model_tellList_11]
  simp only [em_cd, if_pos (show 0 ≤ v1 ∧ v1 < 60 from ⟨v0, v1'⟩)]
  by_cases c : v4 = 0
  · rw [if_pos c]
  · rw [if_neg c, if_pos (h.resolve_left c)]
/-- the end of a list -/
theorem list_end {T U : Option (Int × em_M)} {d a f0 : Int} (hS : gST n m w s C R) (hQ : gQ n m t C R) (hN : gN m t C R) (hL : gLo w s t k0 S P r C R) (hd : d = 6 ∨ d = 7) (hI : LI w s r k0 d a f0 t C R) (a1 : 1 ≤ a) (a8 : a ≤ 8) (eT : T = (f_Reader_take 59 C).bind fun r1 => if r1.1 = 0 ∨ r1.1 = 1 then some (r1.1, r1.2) else none) (eU : U = f_Model_tell_168 (xup R 463 (30 * s + r) a)) : RUo n m w s t k0 S P r C R T U := by
  obtain ⟨-, ⟨w1, w2⟩, s1, s2⟩ := id hS
  have rr := hL.2.2.1.2.2
  have hw53 : 53 ≤ w := by omega
  have ua : ruR s r R (xup R 463 (30 * s + r) a) := ru_at (by omega) (by omega)
  have ur := ruC.rf w r C
  have hL1 : gLo w s t k0 S P r C (xup R 463 (30 * s + r) a) := hL.inn w2 (inC.rf _ _ _) ua.inR id (Int.le_refl _)
  obtain ⟨⟨i1, i2, i3⟩, b, -⟩ := hI
  have hkk : C w 0 = k0 := hL.1.1.1
  have hrule : C 51 8 = 0 → RRule (mx C (xup R 463 (30 * s + r) a)) w s r := fun z => by
    have hl : RList (mx C (xup R 463 (30 * s + r) a)) w s r := by
      refine ⟨?_, fun i h0 h1 => ?_⟩
      · rw [mx_r (c := 463) (by omega), mx_c (c := w + 10) (by omega), xup_eq, i3]
        exact ⟨rfl, a1, a8⟩
      · rw [mx_c (c := w + 10) (by omega), i3] at h1
        obtain ⟨y1, ⟨y2, y3⟩, y4, -⟩ := b i h0 h1
        obtain ⟨y5, y6⟩ := y4 z
        rw [mx_r (c := 464) (by omega), mx_r (c := 465) (by omega), mx_c (c := w + 12 + r) (by omega), mx_c (c := w + 43 + r) (by omega), mx_c (c := w) (by omega), mx_c (c := w + 5) (by omega), xup_ne (by omega), xup_ne (by omega), hkk, i2]
        exact ⟨⟨y1, y5⟩, y2, y3.1, y3.2, y6⟩
    unfold RRule
    rw [mx_r (c := 455) (by omega), mx_c (c := w + 5) (by omega), xup_ne (by omega), i1, i2]
    rcases hd with rfl | rfl
    · exact Or.inr (Or.inr (Or.inl ⟨rfl, rfl, hl⟩))
    · exact Or.inr (Or.inr (Or.inr ⟨rfl, rfl, hl⟩))
  have hS1 : gST n m w s C (xup R 463 (30 * s + r) a) := hS.fx (fxC.rf _ _) (ua.inR.fx rr.1 rr.2)
  rcases end_pair hS1 (hQ.ru hw53 rr.1 ur ua) (hN.ru hw53 rr.1 ur ua) hL1 hrule with ⟨C6, R6, d1, d2, d3, d4, d5⟩ | ⟨C6, R6, d1, d2, d3, d4, d5⟩
  · rw [d1] at eT
    rw [d2] at eU
    simp only [Option.bind_some] at eT
    rw [if_pos (by simp)] at eT
    exact Or.inl ⟨C6, R6, _, eT, eU, by omega, d3, d4, (ua.inR.fx rr.1 rr.2).tr d5⟩
  · rw [d1] at eT
    rw [d2] at eU
    simp only [Option.bind_some] at eT
    rw [if_pos (by simp)] at eT
    exact Or.inr ⟨C6, R6, eT, eU, d3, d4, (ua.inR.fx rr.1 rr.2).tr d5⟩
/-- what follows a state in a list, at its next item -/
def LNx (n m w s k0 S P r d rest a f0 : Int) : Prop := ∀ (t : Int) (C R : em_M), gST n m w s C R → gQ n m t C R → gN m t C R → gLo w s t k0 S P r C R → LI w s r k0 d a f0 t C R → f0 ≤ t → RUo n m w s t k0 S P r C R (f_Reader_takeList_12 d a C) ((f_Model_tellList_11 (30 * s + r) rest a 1 f0 R).bind fun x => f_Model_tell_168 x.2)
/-- behind an item -/
theorem list_cont {T U : Option (Int × em_M)} {d a f0 rest : Int} (hS : gST n m w s C R) (hQ : gQ n m t C R) (hN : gN m t C R) (hL : gLo w s t k0 S P r C R) (hd : d = 6 ∨ d = 7) (hI : LI w s r k0 d a f0 t C R) (a1 : 1 ≤ a) (a8 : a ≤ 8) (hf : f0 ≤ t) (ih : LNx n m w s k0 S P r d rest a f0) (eT : T = if C 51 4 = 44 then (f_Reader_take 44 C).bind fun r1 => if ¬ r1.1 = 0 then f_Reader_takeList_12 d a r1.2 else some (0, r1.2) else (f_Reader_take 59 C).bind fun r1 => if r1.1 = 0 ∨ r1.1 = 1 then some (r1.1, r1.2) else none) (eU : U = ((f_Model_is 7 R).bind fun r0 => if r0.1 = 0 then f_Model_tellList_11 (30 * s + r) rest a r0.1 f0 r0.2 else (f_Model_next r0.2).bind fun r1 => f_Model_tellList_11 (30 * s + r) rest a r0.1 f0 r1.2).bind fun x => f_Model_tell_168 x.2) : RUo n m w s t k0 S P r C R T U := by
  obtain ⟨-, ⟨w1, w2⟩, s1, s2⟩ := id hS
  have rr := hL.2.2.1.2.2
  have hw53 : 53 ≤ w := by omega
  have hv : 0 ≤ 30 * s + r ∧ 30 * s + r < 60 := by omega
  obtain ⟨⟨q1, q2, q3⟩, ⟨q4, q5⟩, ⟨q6, q7⟩, q8, q9, -⟩ := id hQ
  have hkd := kd_sign (d := 44) (ρ := 7) hS hQ (by omega)
  by_cases c : C 51 4 = 44
  case neg =>
    rw [if_neg c] at eT
    rw [m_is0 q7 q5 q1 (by omega) (fun z => c (hkd.mpr z))] at eU
    simp only [Option.bind_some] at eU
    rw [if_pos trivial, m_l11 hv.1 hv.2 (Or.inl rfl)] at eU
    simp only [Option.bind_some] at eU
    exact list_end hS hQ hN hL hd hI a1 a8 eT eU
  rw [if_pos c] at eT
  rw [m_is1 q7 q5 q1 (by omega) (hkd.mp c)] at eU
  simp only [Option.bind_some] at eU
  rw [if_neg (by omega)] at eU
  rcases in_next hS hQ hN hL c (by omega) (by omega) with ⟨C1, R1, d1, d2, ⟨hS1, hQ1, hN1, hL1⟩, ⟨fC1, x11, x8⟩, fR1⟩ | ⟨C1, R1, d1, d2, d3, d4, d5⟩
  · rw [d1] at eT
    rw [d2] at eU
    simp only [Option.bind_some] at eT eU
    rw [if_pos (by omega)] at eT
    have tm : t < m := by
      refine Classical.byContradiction (fun z => ?_)
      have := (q9 (by omega)).1
      omega
    have hI1 : LI w s r k0 d a f0 (t + 1) C1 R1 := hI.fn hw53 rr.1 a8 fC1 (fun c j c0 c1 => fR1 c j (by omega)) (fun z => by rw [x8]; exact z) (by omega) (fun x x0 x1 x2 => by
      have : x = t := by omega
      subst this
      have := (q8 tm).1
      omega)
    rw [eT, eU]
    exact (ih (t + 1) C1 R1 hS1 hQ1 hN1 hL1 hI1 (by omega)).tr (by omega) fC1.wd fR1.wd
  · rw [d1] at eT
    rw [d2] at eU
    simp only [Option.bind_some] at eT eU
    rw [if_neg (fun z => z trivial)] at eT
    have hp := d3.pos
    rw [m_l11 hv.1 hv.2 (Or.inr (by omega))] at eU
    simp only [Option.bind_some] at eU
    have ua : ruR s r R1 (xup R1 463 (30 * s + r) a) := ru_at (by omega) (by omega)
    rw [m_168f (by rw [ua.lo (by omega)]; exact hp)] at eU
    exact Or.inr ⟨C1, _, eT, eU, d3.fr (fun _ _ _ => rfl) ⟨ua.lo (by omega), ua.lo (by omega)⟩, d4.wd, d5.wd.tr (ua.inR.fx rr.1 rr.2)⟩
/-- told twice, or not -/
theorem twice_pair {C1 R1 : em_M} {d a f0 rest q : Int} (hS : gST n m w s C R) (hQ : gQ n m t C R) (hN : gN m t C R) (hL : gLo w s t k0 S P r C R) (hI : LI w s r k0 d a f0 t C R) (a0 : 0 ≤ a) (a8 : a < 8) (f00 : 0 ≤ f0) (hf : f0 ≤ t) (c14 : C 51 4 = 14) (d1 : f_Reader_takeTold C = some (1, C1)) (f2 : C1 51 10 = q) (f3 : isKin C k0 (C 51 5) q) (hQ1 : gQ n m (t + 1) C1 R1) (hN1 : gN m (t + 1) C1 R1) (mono1 : ¬ C 51 8 = 0 → ¬ C1 51 8 = 0) (f4 : q = -1 → ¬ C1 51 8 = 0) (fC1 : fnC C C1) (fR1 : fnR R R1) : ∃ C2 R2, ((f_Law_lists w q C1).bind fun r1 => if r1.1 = 0 then f_Reader_takeListed_55 d r1.2 else (f_Reader_note 3 t r1.2).bind fun r2 => f_Reader_takeListed_55 d r2.2) = f_Reader_takeListed_55 d C2 ∧ f_Model_tellList_68 (30 * s + r) rest a f0 t q 0 f0 R1 = f_Model_tellList_158 (30 * s + r) rest a f0 q R2 ∧ gN m (t + 1) C2 R2 ∧ (¬ C1 51 8 = 0 → ¬ C2 51 8 = 0) ∧ (∀ c j, ¬ (c = 51 ∧ (j = 8 ∨ j = 9)) → C2 c j = C1 c j) ∧ ∀ c j, ¬ (c = 439 ∧ (j = 14 ∨ j = 15)) → R2 c j = R1 c j := by
  obtain ⟨-, ⟨w1, w2⟩, s1, s2⟩ := id hS
  have rr := hL.2.2.1.2.2
  have hw4 := hL.2.2.1.1
  have hw53 : 53 ≤ w := by omega
  obtain ⟨⟨q1, q2, q3⟩, ⟨q4, q5⟩, ⟨q6, q7⟩, q8, q9, q10⟩ := id hQ
  have tm : t < m := by
    refine Classical.byContradiction (fun z => ?_)
    have := (q9 (by omega)).1
    omega
  have hS1 : gST n m w s C1 R1 := hS.fx fC1.wd fR1.wd
  have htok : ∀ x, 0 ≤ x → x ≤ t → (C 3 x = 14 ↔ (R 442 x = 1 ∨ R 442 x = 34 ∨ R 442 x = 35)) ∧ (C 3 x = 14 → C 5 x = R 445 x) := fun x x0 x1 => by
    obtain ⟨⟨⟨y1, -⟩, -⟩, -⟩ := hS.1.1.2.2.1 x x0 (by omega)
    rcases y1 with ⟨a1, a2, a3⟩ | ⟨a1, a4, ⟨a2, -⟩ | ⟨a2, -⟩ | ⟨a2, -⟩⟩ | ⟨a1, a2, -⟩ | ⟨a1, a2⟩ | ⟨a1, a2⟩ | ⟨a1, a2⟩ | ⟨a1, a2⟩ | ⟨a1, a2⟩ | ⟨a1, a2⟩ | ⟨a1, a2⟩
    · have := mp_rng a1 (by omega)
      exact ⟨by constructor <;> intro z <;> omega, fun z => by omega⟩
    · exact ⟨by constructor <;> intro z <;> omega, fun z => a4⟩
    · exact ⟨by constructor <;> intro z <;> omega, fun z => a4⟩
    · exact ⟨by constructor <;> intro z <;> omega, fun z => a4⟩
    all_goals exact ⟨by constructor <;> intro z <;> omega, fun z => by omega⟩
  have v5 : C 51 5 = C 5 t := (q8 tm).2
  have k3 : C 3 t = 14 := by rw [← (q8 tm).1]; exact c14
  -- the class's answer, and the reference's
  obtain ⟨z, e1, e2⟩ := f_lists (q := q) (a := a) w2 (r := r) (C := C1) (by rw [fC1 w 4 (by omega)]; exact hw4) rr.1 rr.2 (by rw [fC1 (w + 10) r (by omega)]; exact hI.1.2.2) (by omega)
  obtain ⟨y, g1, g2⟩ := m_again (R := R1) (v1 := 30 * s + r) (v2 := rest) (v3 := a) (v5 := f0) (tok := t) (v7 := q) (by omega) (t - f0).toNat f0 0 f00 (by omega)
  have g3 : ¬ y = 0 ↔ ∃ x, f0 ≤ x ∧ x < t ∧ C 3 x = 14 ∧ C 5 x = C 51 5 := by
    rw [g2]
    constructor
    · rintro (h | ⟨x, x0, x1, x2, x3⟩)
      · exact absurd rfl h
      · rw [fR1 442 _ (by omega)] at x2
        rw [fR1 445 _ (by omega), fR1 445 _ (by omega)] at x3
        have h1 := htok x (by omega) (by omega)
        have h2 := htok t q1 (Int.le_refl _)
        have hx := h1.1.mpr x2
        exact ⟨x, x0, x1, hx, by rw [h1.2 hx, x3, ← h2.2 k3, v5]⟩
    · rintro ⟨x, x0, x1, x2, x3⟩
      have h1 := htok x (by omega) (by omega)
      have h2 := htok t q1 (Int.le_refl _)
      refine Or.inr ⟨x, x0, x1, ?_, ?_⟩
      · rw [fR1 442 _ (by omega)]; exact h1.1.mp x2
      · rw [fR1 445 _ (by omega), fR1 445 _ (by omega), ← h1.2 x2, ← h2.2 k3, x3, v5]
  have e3 : ¬ z = 0 ↔ ∃ i, 0 ≤ i ∧ i < a ∧ C (w + 12 + r) i = q := by
    rw [e2]
    constructor <;> rintro ⟨i, i0, i1, i2⟩
    · exact ⟨i, i0, i1, by rw [← fC1 (w + 12 + r) i (by omega)]; exact i2⟩
    · exact ⟨i, i0, i1, by rw [fC1 (w + 12 + r) i (by omega)]; exact i2⟩
  rw [e1, g1]
  simp only [Option.bind_some]
  -- again means that the kin stands there
  have ba : (∃ x, f0 ≤ x ∧ x < t ∧ C 3 x = 14 ∧ C 5 x = C 51 5) → ∃ i, 0 ≤ i ∧ i < a ∧ C (w + 12 + r) i = q := fun ⟨x, x0, x1, x2, x3⟩ => by
    obtain ⟨i, i0, i1, i2⟩ := hI.2.2 x x0 x1 x2
    rw [x3] at i2
    exact ⟨i, i0, i1, i2.same f3⟩
  by_cases cq : q = -1
  · have n1 := f4 cq
    have en : f_Reader_note 3 t C1 = some (0, C1) := by
      rw [q_Reader_note, em_cd, if_pos n1]
    have ec : (if z = 0 then f_Reader_takeListed_55 d C1 else (f_Reader_note 3 t C1).bind fun r2 => f_Reader_takeListed_55 d r2.2) = f_Reader_takeListed_55 d C1 := by
      by_cases cz : z = 0
      · rw [if_pos cz]
      · rw [if_neg cz, en]
        rfl
    rw [ec]
    by_cases cy : y = 0
    · rw [if_pos cy]
      exact ⟨C1, R1, rfl, rfl, hN1, id, fun _ _ _ => rfl, fun _ _ _ => rfl⟩
    · rw [if_neg cy]
      -- an unknown name told twice was noted before
      obtain ⟨i, i0, i1, i2⟩ := ba (g3.mp cy)
      have n0 : ¬ C 51 8 = 0 := fun z0 => by
        have := ((hI.2.1 i i0 i1).2.2.1 z0).1.1
        omega
      have hsm := told_same hS hQ hL.1 d1 (Or.inr n0)
      have hNd : gN m t C1 R1 := hN1.dn hN hsm
      obtain ⟨C2, R2, p1, p2, p3, p4, p5, p6⟩ := nt_pair (k := 3) (tok := t) hS1 hQ1.2.2.1.2 hNd (by omega) q1 tm (by omega) (by omega) (by
        rcases hNd with ⟨a, b⟩ | ⟨a, b, ⟨c1, c2, c3⟩, d⟩
        · exact Or.inl a
        · exact Or.inr (Or.inl c2))
      rw [en] at p1
      have : C1 = C2 := by
        cases p1
        rfl
      subst this
      rw [p2]
      exact ⟨C1, R2, rfl, rfl, p3, id, fun _ _ _ => rfl, p6⟩
  · have hsm := told_same hS hQ hL.1 d1 (Or.inl (by rw [f2]; exact cq))
    have hNd : gN m t C1 R1 := hN1.dn hN hsm
    have zy : z = 0 ↔ y = 0 := by
      have : ¬ z = 0 ↔ ¬ y = 0 := by
        rw [e3, g3]
        constructor
        · rintro ⟨i, i0, i1, i2⟩
          obtain ⟨-, -, -, x, x0, x1, x2, x3⟩ := hI.2.1 i i0 i1
          rw [i2] at x3
          refine ⟨x, x0, x1, x2, ?_⟩
          rcases x3 with ⟨b1, b2', b3, b4⟩ | ⟨b1, b2'⟩
          · rcases f3 with ⟨c1, c2, c3, c4⟩ | ⟨c1, -⟩
            · exact b3.symm.trans c3
            · exact absurd c1 cq
          · exact absurd b1 cq
        · exact ba
      constructor
      · intro h
        exact Classical.byContradiction (fun k => this.mpr k h)
      · intro h
        exact Classical.byContradiction (fun k => this.mp k h)
    by_cases cz : z = 0
    · rw [if_pos cz, if_pos (zy.mp cz)]
      exact ⟨C1, R1, rfl, rfl, hN1, id, fun _ _ _ => rfl, fun _ _ _ => rfl⟩
    · rw [if_neg cz, if_neg (fun k => cz (zy.mpr k))]
      obtain ⟨C2, R2, p1, p2, p3, p4, p5, p6⟩ := nt_pair (k := 3) (tok := t) hS1 hQ1.2.2.1.2 hNd (by omega) q1 tm (by omega) (by omega) (by
        rcases hNd with ⟨a, b⟩ | ⟨a, b, ⟨c1, c2, c3⟩, d⟩
        · exact Or.inl a
        · exact Or.inr (Or.inl c2))
      rw [p1, p2]
      exact ⟨C2, R2, rfl, rfl, p3, fun _ => p4, p5, p6⟩
end
