/-! read: one token of both. -/
section
variable {C R M : em_M} {b : Int → Int} {n : Int}
/-- a token of the class (kind, value) and of the reference (kind, value, name) -/
def tkR (κ v ρ tv nm : Int) : Prop := (0 ≤ κ ∧ κ ≤ 13 ∧ ρ = 20 + mpW κ) ∨ (κ = 14 ∧ v = nm ∧ ((ρ = 34 ∧ nm = 13) ∨ (ρ = 35 ∧ nm = 6) ∨ (ρ = 1 ∧ ¬ nm = 13 ∧ ¬ nm = 6))) ∨ (κ = 15 ∧ ρ = 2 ∧ v = tv ∧ 0 ≤ v ∧ v ≤ 999) ∨ (κ = 61 ∧ ρ = 4) ∨ (κ = 124 ∧ ρ = 5) ∨ (κ = 46 ∧ ρ = 6) ∨ (κ = 44 ∧ ρ = 7) ∨ (κ = 59 ∧ ρ = 8) ∨ (κ = 47 ∧ ρ = 9) ∨ (κ = 17 ∧ ρ = 3)
theorem tkR_17 {v tv nm : Int} : tkR 17 v 3 tv nm := Or.inr (Or.inr (Or.inr (Or.inr (Or.inr (Or.inr (Or.inr (Or.inr (Or.inr (⟨rfl, rfl⟩)))))))))
def tokM (R : em_M) (k ρ j tv nm : Int) : em_M := xup (xup (xup (xup (xup R 442 k ρ) 443 k j) 444 k tv) 445 k nm) 439 10 (k + 1)
theorem tokM_ne {k ρ j tv nm c i : Int} (h : ¬ ((442 ≤ c ∧ c ≤ 445 ∧ i = k) ∨ (c = 439 ∧ i = 10))) : tokM R k ρ j tv nm c i = R c i := by
  unfold tokM
  rw [xup_ne (by omega), xup_ne (by omega), xup_ne (by omega), xup_ne (by omega), xup_ne (by omega)]
theorem tokM_at {k ρ j tv nm : Int} : tokM R k ρ j tv nm 442 k = ρ ∧ tokM R k ρ j tv nm 443 k = j ∧ tokM R k ρ j tv nm 444 k = tv ∧ tokM R k ρ j tv nm 445 k = nm ∧ tokM R k ρ j tv nm 439 10 = k + 1 := by
  unfold tokM
  simp (disch := omega) only [xup_ne, xup_eq, and_self]
theorem m_token {k : Int} (ρ j tv nm : Int) (hk : R 439 10 = k) (k0 : 0 ≤ k) (k1 : k ≤ 602) : f_Model_token ρ j tv nm R = some (0, tokM R k ρ j tv nm) := by
  rw [q_Model_token]
  simp (disch := omega) only [em_cd, xup_ne, hk, if_pos (show 0 ≤ k ∧ k < 603 by omega), x32_s, q_Model_token_51]
  rfl
theorem ky_14 : kyW 14 = 13 ∧ kyW 15 = 6 := by decide +kernel
/-- the kinds of a name -/
theorem name_kinds {κ ρ N : Int} (hc : (0 ≤ κ ∧ κ < 14 ∧ N = kyW (mpW κ)) ∨ (κ = 14 ∧ ∀ x, 0 ≤ x → x < 14 → ¬ N = kyW (mpW x))) (hr : (∃ x, 0 ≤ x ∧ x < 16 ∧ kyW x = N ∧ ρ = 20 + x) ∨ (ρ = 1 ∧ ∀ x, 0 ≤ x → x < 16 → ¬ kyW x = N)) : (κ = 14 ∧ tkR 14 N ρ 0 N) ∨ (0 ≤ κ ∧ κ ≤ 13 ∧ ρ = 20 + mpW κ) := by
  obtain ⟨q1, q2⟩ := ky_14
  rcases hc with ⟨a1, a2, a3⟩ | ⟨a1, a2⟩
  · obtain ⟨m1, m2⟩ := mp_rng a1 a2
    rcases hr with ⟨x, x0, x1, x2, x3⟩ | ⟨_, x2⟩
    · have := ky_inj x0 x1 m1 (by omega) (x2.trans a3)
      exact Or.inr ⟨a1, by omega, by omega⟩
    · exact absurd a3.symm (x2 _ m1 (by omega))
  · refine Or.inl ⟨a1, Or.inr (Or.inl ⟨rfl, rfl, ?_⟩)⟩
    rcases hr with ⟨x, x0, x1, x2, x3⟩ | ⟨x1, x2⟩
    · by_cases c : x < 14
      · obtain ⟨y, y0, y1, y2⟩ := mp_onto x0 c
        exact absurd (by rw [y2]; exact x2.symm) (a2 y y0 y1)
      · by_cases c4 : x = 14
        · subst c4
          exact Or.inl ⟨x3, by omega⟩
        · have : x = 15 := by omega
          subst this
          exact Or.inr (Or.inl ⟨x3, by omega⟩)
    · refine Or.inr (Or.inr ⟨x1, fun z => x2 14 (by omega) (by omega) (by omega), fun z => x2 15 (by omega) (by omega) (by omega)⟩)
theorem tok_step {j k : Int} (hB : TB b n) (hC : TC b n C) (hR : TM b n R) (hK : ∀ k, 0 ≤ k → k < 16 → R 446 k = kyW k) (j0 : 0 ≤ j) (j1 : j < n) (hb : ¬ tk_b (b j)) (hk : R 439 10 = k) (k0 : 0 ≤ k) (k1 : k ≤ 600) :
    ∃ e κ v ρ tv nm, j < e ∧ e ≤ n ∧ (tkR κ v ρ tv nm ∧ 0 ≤ v ∧ v < 4808584372417849) ∧ (f_Text_tokenEnd j C = some (e, C) ∧ f_Text_kindOf j e C = some (κ, C) ∧ (κ = 15 → ∀ C', TC b n C' → f_Text_number j e C' = some (v, C')) ∧ (κ = 14 → ∀ C', TC b n C' → f_Text_nameNumber j e C' = some (v, C')) ∧ (¬ κ = 15 → ¬ κ = 14 → v = 0)) ∧ f_Model_cut_7 j R = f_Model_cut_7 e (tokM R k ρ j tv nm) := by
  have h2 := hB.1.2
  obtain ⟨bl1, bl2⟩ := hB.2.1 j
  obtain ⟨e, e1, e2, e3, e4, e5, e6⟩ := c_end hB hC j0 j1
  have qk := q_Text_kindOf j e C
  rw [f_at hB hC j0] at qk
  simp only [em_cd, Option.bind_some] at qk
  rw [x32_s (x := e - j) (by omega) (by omega)] at qk
  have qm := q_Model_cut_7 j R
  rw [m_at hB hR j0] at qm
  simp only [em_cd, Option.bind_some, hk, hR.1, if_neg (show ¬ 600 < k by omega), if_pos j1] at qm
  by_cases cl : tk_l (b j)
  · -- a name or a word
    obtain ⟨ha, he⟩ := e4 cl
    have ua := tk_a_ub (x := b j) (Or.inl cl)
    rw [f_L1 C cl] at qk
    simp only [Option.bind_some] at qk
    rw [if_neg (by omega)] at qk
    have cl' := cl
    unfold tk_l at cl'
    rw [ua, if_neg (by omega), if_neg (by omega), if_neg (by omega), if_pos (by omega), m_L1 R cl] at qm
    simp only [Option.bind_some] at qm
    rw [if_neg (by omega)] at qm
    obtain ⟨L, hL⟩ : ∃ L : Nat, e = j + L := ⟨(e - j).toNat, by omega⟩
    subst hL
    have m1 := m_85 hB hR j0 e3 ha he L 0 (by omega)
    have z0 : nmB b j (min 0 10) = 0 := rfl
    rw [z0] at m1
    have qm2 := qm.trans m1
    rw [q_Model_cut_148] at qm2
    simp only [em_cd] at qm2
    rw [show j + (L : Int) - j = L by omega] at qk
    by_cases cL : L ≤ 10
    · rw [if_pos (by omega)] at qk
      rw [q_Text_wordKind] at qk
      obtain ⟨κ, w1, w2⟩ := f_wordKind hB hC j0 cL e3 ha 14 0 (by omega) (by omega)
      rw [w1] at qk
      simp only [Option.bind_some] at qk
      rw [show min L 10 = L by omega, if_pos cL] at qm2
      have hw2 : (0 ≤ κ ∧ κ < 14 ∧ nmB b j L = kyW (mpW κ)) ∨ (κ = 14 ∧ ∀ x, 0 ≤ x → x < 14 → ¬ nmB b j L = kyW (mpW x)) := w2
      have hr : ∃ ρ, f_Model_cut_7 j R = (f_Model_token ρ j 0 (nmB b j L) R).bind (fun r0 => f_Model_cut_7 (x32 (j + L)) r0.2) ∧ ((∃ x, 0 ≤ x ∧ x < 16 ∧ kyW x = nmB b j L ∧ ρ = 20 + x) ∨ (ρ = 1 ∧ ∀ x, 0 ≤ x → x < 16 → ¬ kyW x = nmB b j L)) := by
        by_cases c6 : (6 : Int) < L
        · rw [if_pos c6] at qm2
          refine ⟨1, qm2, Or.inr ⟨rfl, fun x x0 x1 z => ?_⟩⟩
          have k5 := ky_max x0 x1
          have hlow := nm_low (g := fun i : Nat => sgn (b (j + i))) (L - 1) (fun i hi => sgn_rng (ha (j + i) (by omega) (by omega)))
          rw [show L - 1 + 1 = L by omega] at hlow
          have hmon := pw_mono (m := 6) (L - 1 - 6)
          rw [show 6 + (L - 1 - 6) = L - 1 by omega] at hmon
          have hp6 : pw37 6 = 2565726409 := by decide +kernel
          have hN : nmB b j L = nmG (fun i : Nat => sgn (b (j + i))) L := rfl
          omega
        · rw [if_neg c6] at qm2
          obtain ⟨ρ, r1, r2⟩ := m_159 (j := j) (v := 0) (N := nmB b j L) (L := L) hK 16 0 1 (by omega) (by omega)
          exact ⟨ρ, qm2.trans r1, r2⟩
      obtain ⟨ρ, r1, r2⟩ := hr
      rw [m_token ρ j 0 (nmB b j L) hk k0 (by omega)] at r1
      simp only [Option.bind_some] at r1
      rw [x32_s (by omega) (by omega)] at r1
      have nk := name_kinds hw2 r2
      have hbd : 0 ≤ nmB b j L ∧ nmB b j L < 4808584372417849 := nm_10 (g := fun i : Nat => sgn (b (j + i))) cL (fun i hi => sgn_rng (ha (j + i) (by omega) (by omega)))
      by_cases c14 : κ = 14
      · subst c14
        have nk2 : tkR 14 (nmB b j L) ρ 0 (nmB b j L) := nk.elim (fun z => z.2) (fun z => absurd z.2.1 (by omega))
        refine ⟨j + L, 14, nmB b j L, ρ, 0, nmB b j L, e2, e3, ⟨nk2, hbd⟩, ⟨e1, qk, fun z => by omega, fun _ C' hC' => ?_, fun _ z => absurd rfl z⟩, r1⟩
        rw [q_Text_nameNumber]
        have := c_name hB hC' j0 cL e3 ha L 0 (by omega)
        rw [show j + ((0 : Nat) : Int) = j by omega] at this
        exact this
      · have nk2 : tkR κ 0 ρ 0 (nmB b j L) := nk.elim (fun z => absurd z.1 c14) (fun z => Or.inl z)
        have c15 : ¬ κ = 15 := by
          rcases hw2 with ⟨a1, a2, a3⟩ | ⟨a1, -⟩ <;> omega
        exact ⟨j + L, κ, 0, ρ, 0, nmB b j L, e2, e3, ⟨nk2, by omega, by omega⟩, ⟨e1, qk, fun z => absurd z c15, fun z => absurd z c14, fun _ _ => rfl⟩, r1⟩
    · rw [if_neg (by omega)] at qk
      rw [if_pos (by omega), if_neg cL, m_token 3 j 0 _ hk k0 (by omega)] at qm2
      simp only [Option.bind_some] at qm2
      rw [x32_s (by omega) (by omega)] at qm2
      exact ⟨j + L, 17, 0, 3, 0, _, e2, e3, ⟨tkR_17, by omega, by omega⟩, ⟨e1, qk, fun z => by omega, fun z => by omega, fun _ _ => rfl⟩, qm2⟩
  · rw [f_L0 C cl] at qk
    simp only [Option.bind_some] at qk
    rw [if_pos trivial] at qk
    have ul : ¬ tk_l (ub (b j)) := fun z => cl ((ub_l bl1 bl2).mp z)
    have nb : ¬ ub (b j) = 9 ∧ ¬ ub (b j) = 10 ∧ ¬ ub (b j) = 13 ∧ ¬ ub (b j) = 32 := by
      unfold tk_b at hb
      unfold ub
      split <;> omega
    rw [if_neg nb.1, if_neg nb.2.1, if_neg nb.2.2.1, if_pos nb.2.2.2, m_L0 R ul] at qm
    simp only [Option.bind_some] at qm
    rw [if_pos trivial] at qm
    by_cases cd : tk_d (b j)
    · -- a number
      obtain ⟨ha, he⟩ := e5 cd
      have cd' := cd
      unfold tk_d at cd'
      rw [f_D1 C cd] at qk
      simp only [Option.bind_some] at qk
      rw [if_neg (by omega)] at qk
      rw [ub_id (by omega), m_D1 R cd] at qm
      simp only [Option.bind_some] at qm
      rw [if_neg (by omega)] at qm
      obtain ⟨L, hL⟩ : ∃ L : Nat, e = j + L := ⟨(e - j).toNat, by omega⟩
      subst hL
      have m1 := m_221 hB hR j0 e3 ha he L 0 (by omega)
      have z0 : dgB b j (min 0 3) = 0 := rfl
      rw [z0] at m1
      have qm2 := qm.trans m1
      rw [m_token _ j _ 0 hk k0 (by omega)] at qm2
      simp only [Option.bind_some] at qm2
      rw [show j + (L : Int) - j = L by omega] at qk
      by_cases cL : L ≤ 3
      · rw [if_pos (by omega)] at qk
        rw [if_pos cL, show min L 3 = L by omega] at qm2
        have h3 : 0 ≤ dgB b j L ∧ dgB b j L ≤ 999 := dg_3 cL (fun i hi => by
          have := ha (j + i) (by omega) (by omega)
          unfold tk_d at this
          show 0 ≤ b (j + i) - 48 ∧ b (j + i) - 48 ≤ 9
          omega)
        refine ⟨j + L, 15, dgB b j L, 2, dgB b j L, 0, e2, e3, ⟨Or.inr (Or.inr (Or.inl ⟨rfl, rfl, rfl, h3⟩)), by omega, by omega⟩, ⟨e1, qk, fun _ C' hC' => ?_, fun z => by omega, fun z => absurd rfl z⟩, qm2⟩
        rw [q_Text_number]
        have := c_number hB hC' j0 cL e3 ha L 0 (by omega)
        rw [show j + ((0 : Nat) : Int) = j by omega] at this
        exact this
      · rw [if_neg (by omega)] at qk
        rw [if_neg cL] at qm2
        exact ⟨j + L, 17, 0, 3, _, 0, e2, e3, ⟨tkR_17, by omega, by omega⟩, ⟨e1, qk, fun z => by omega, fun z => by omega, fun _ _ => rfl⟩, qm2⟩
    · -- a sign
      have he := e6 cl cd
      subst he
      rw [f_D0 C cd] at qk
      simp only [Option.bind_some] at qk
      rw [if_pos trivial] at qk
      rw [m_D0 R (fun z => cd ((ub_d bl1 bl2).mp z))] at qm
      simp only [Option.bind_some] at qm
      rw [if_pos trivial] at qm
      simp only [m_token _ j 0 0 hk k0 (show k ≤ 602 by omega), Option.bind_some, x32_s (show -1000000 ≤ j + 1 by omega) (show j + 1 ≤ 1000000 by omega)] at qm
      have fin : ∀ κ ρ, f_Text_kindOf j (j + 1) C = some (κ, C) → f_Model_cut_7 j R = f_Model_cut_7 (j + 1) (tokM R k ρ j 0 0) → tkR κ 0 ρ 0 0 → ¬ κ = 15 → ¬ κ = 14 → ∃ e κ v ρ tv nm, j < e ∧ e ≤ n ∧ (tkR κ v ρ tv nm ∧ 0 ≤ v ∧ v < 4808584372417849) ∧ (f_Text_tokenEnd j C = some (e, C) ∧ f_Text_kindOf j e C = some (κ, C) ∧ (κ = 15 → ∀ C', TC b n C' → f_Text_number j e C' = some (v, C')) ∧ (κ = 14 → ∀ C', TC b n C' → f_Text_nameNumber j e C' = some (v, C')) ∧ (¬ κ = 15 → ¬ κ = 14 → v = 0)) ∧ f_Model_cut_7 j R = f_Model_cut_7 e (tokM R k ρ j tv nm) := fun κ ρ z1 z2 z3 z4 z5 => ⟨j + 1, κ, 0, ρ, 0, 0, e2, e3, ⟨z3, by omega, by omega⟩, ⟨e1, z1, fun z => absurd z z4, fun z => absurd z z5, fun _ _ => rfl⟩, z2⟩
      by_cases c0 : b j ≤ 0
      · rw [if_pos c0] at qk
        have nu : ub (b j) = 0 ∨ 128 ≤ ub (b j) := by
          unfold ub
          split <;> omega
        rw [if_pos (by omega), if_pos (by omega), if_pos (by omega), if_pos (by omega), if_pos (by omega), if_pos (by omega)] at qm
        exact fin 17 3 qk qm tkR_17 (by omega) (by omega)
      · rw [if_neg c0] at qk
        rw [ub_id (by omega)] at qm
        obtain ⟨r, r1, r2⟩ := f_indexOf (x := b j) C (by omega) bl2
        rw [r1] at qk
        simp only [Option.bind_some] at qk
        by_cases cs : tk_s (b j)
        · rw [if_neg (fun z => r2.mp z cs)] at qk
          unfold tk_s at cs
          rcases cs with z | z | z | z | z | z
          · rw [if_neg (by omega)] at qm
            exact fin _ _ qk qm (Or.inr (Or.inr (Or.inr (Or.inl ⟨z, rfl⟩)))) (by omega) (by omega)
          · rw [if_pos (by omega), if_neg (by omega)] at qm
            exact fin _ _ qk qm (Or.inr (Or.inr (Or.inr (Or.inr (Or.inl ⟨z, rfl⟩))))) (by omega) (by omega)
          · rw [if_pos (by omega), if_pos (by omega), if_neg (by omega)] at qm
            exact fin _ _ qk qm (Or.inr (Or.inr (Or.inr (Or.inr (Or.inr (Or.inl ⟨z, rfl⟩)))))) (by omega) (by omega)
          · rw [if_pos (by omega), if_pos (by omega), if_pos (by omega), if_neg (by omega)] at qm
            exact fin _ _ qk qm (Or.inr (Or.inr (Or.inr (Or.inr (Or.inr (Or.inr (Or.inl ⟨z, rfl⟩))))))) (by omega) (by omega)
          · rw [if_pos (by omega), if_pos (by omega), if_pos (by omega), if_pos (by omega), if_neg (by omega)] at qm
            exact fin _ _ qk qm (Or.inr (Or.inr (Or.inr (Or.inr (Or.inr (Or.inr (Or.inr (Or.inl ⟨z, rfl⟩)))))))) (by omega) (by omega)
          · rw [if_pos (by omega), if_pos (by omega), if_pos (by omega), if_pos (by omega), if_pos (by omega), if_neg (by omega)] at qm
            exact fin _ _ qk qm (Or.inr (Or.inr (Or.inr (Or.inr (Or.inr (Or.inr (Or.inr (Or.inr (Or.inl ⟨z, rfl⟩))))))))) (by omega) (by omega)
        · rw [if_pos (r2.mpr cs)] at qk
          unfold tk_s at cs
          rw [if_pos (by omega), if_pos (by omega), if_pos (by omega), if_pos (by omega), if_pos (by omega), if_pos (by omega)] at qm
          exact fin 17 3 qk qm tkR_17 (by omega) (by omega)
end
