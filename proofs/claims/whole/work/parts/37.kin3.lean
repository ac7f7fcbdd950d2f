/-! KIN: the class's table, made anew. -/
section
variable {M : em_M}
theorem lawK (w : Int) (h : w = 53 ∨ w = 366) : (em_kd (w + 1) = 100 ∧ em_ln (w + 1) = 21) ∧ (em_kd (w + 2) = 100 ∧ em_ln (w + 2) = 600) ∧ (em_kd (w + 3) = 100 ∧ em_ln (w + 3) = 600) ∧ (em_kd (w + 4) = 103 ∧ em_ln (w + 4) = 600) := by
  rcases h with rfl | rfl <;> decide +kernel
theorem f_startOf {w k : Int} (hw : w = 53 ∨ w = 366) (k0 : 0 ≤ k) (k1 : k ≤ 20) : f_Law_startOf w k M = some (lw_from M w k, M) := by
  rw [q_Law_startOf, isO_law hw, (lawK w hw).1.1, (lawK w hw).1.2]
  unfold lw_from
  simp only [em_cd]
  by_cases q : k = 0
  · rw [if_pos (by omega), if_pos q]
  · rw [if_neg (by omega), if_neg (by omega), if_neg q, decide_eq_true (by omega)]
    rfl
/-- what the table has before its kin -/
def kBase (M : em_M) (t : Int) : Prop := (∀ d, 0 ≤ d → d < M 6 0 → mk (M 27 d) (fun x => kBorn M t x ∧ kLead M t (fun _ _ => 0) 0 d x) ∧ mk (M 28 d) (fun x => kBorn M t x ∧ kLead M t (fun _ _ => 0) 1 d x) ∧ mk (M 29 d) (fun x => kBorn M t x ∧ kLead M t (fun _ _ => 0) 2 d x) ∧ mk (M 30 d) (fun x => kBorn M t x ∧ kLead M t (fun _ _ => 0) 3 d x)) ∧ mk (M 25 3) (fun x => x < M 6 0 ∧ M 7 x = 0) ∧ mk (M 25 4) (fun x => x < M 6 0 ∧ M 7 x = 1)
theorem kLead_low {t r d x : Int} {T T' : Int → Int → Int} (h : r = 0 ∨ r = 1 ∨ r = 2 ∨ r = 3) : kLead M t T r d x ↔ kLead M t T' r d x := by
  unfold kLead
  rcases h with rfl | rfl | rfl | rfl <;> exact Iff.rfl
theorem kWalk_born {t w d : Int} {T : Int → Int → Int} : ∀ (n : Nat) (j : Int) (A S : Int → Prop), (∀ x, A x → kBorn M t x) → (∀ x, S x → kBorn M t x) → ∀ x, kWalk M t w T d n j A S x → kBorn M t x
  | 0, _, _, _, hA, hS, x, h => h.elim (hA x) (hS x)
  | n + 1, j, A, S, hA, hS, x, h => by
    unfold kWalk at h
    by_cases q : M (w + 4) j = 1
    · rw [if_pos q] at h
      exact kWalk_born n (j + 1) _ _ (fun y hy => hy.elim (hA y) (hS y)) (fun y hy => hy.1) x h
    · rw [if_neg q] at h
      exact kWalk_born n (j + 1) _ _ hA (fun y hy => hy.1) x h
theorem kOf_born {t w k d x : Int} {T : Int → Int → Int} (h : kOf M t w T k d x) : kBorn M t x := kWalk_born _ _ _ _ (fun _ z => z.elim) (fun _ z => z.elim) x h.1
/-- a row of the table, among those of the kin before k -/
theorem kRowMk {t w k r d : Int} (hb : kBase M t) (hk : ∀ k', 0 ≤ k' → k' < k → ∀ d, 0 ≤ d → d < M 6 0 → mk (M (31 + k') d) (kOf M t w (kT M) k' d)) (hk20 : k ≤ 20) (r0 : 0 ≤ r) (r1 : r < 4 + k) (d0 : 0 ≤ d) (d1 : d < M 6 0) : mk (M (27 + r) d) (fun x => kBorn M t x ∧ kLead M t (kT M) r d x) := by
  obtain ⟨b0, b1, b2', b3⟩ := hb.1 d d0 d1
  by_cases q : r < 4
  · have hr : r = 0 ∨ r = 1 ∨ r = 2 ∨ r = 3 := by omega
    have key : mk (M (27 + r) d) (fun x => kBorn M t x ∧ kLead M t (fun _ _ => 0) r d x) := by
      rcases hr with rfl | rfl | rfl | rfl
      · exact b0
      · exact b1
      · exact b2'
      · exact b3
    exact key.cong (fun x _ _ => and_congr_right (fun _ => kLead_low hr))
  · have h1 := hk (r - 4) (by omega) (by omega) d d0 d1
    rw [show 31 + (r - 4) = 27 + r by omega] at h1
    refine h1.cong (fun x x0 x1 => ?_)
    have h2 : kT M (r - 4) d = M (27 + r) d := by
      unfold kT
      rw [if_pos (by omega), show 31 + (r - 4) = 27 + r by omega]
    unfold kLead
    rw [if_neg (by omega), if_neg (by omega), if_neg (by omega), if_neg (by omega), h2, h1.at_ x0 x1]
    exact ⟨fun z => ⟨kOf_born z, z⟩, fun z => z.2⟩
theorem f_follow_i {t w s k d : Int} (hn : M 6 0 ≤ 30) (hw : w = 53 ∨ w = 366) (hb : kBase M t) (hR : RKin M w s k) (k0 : 0 ≤ k) (k1 : k < 20) (hk : ∀ k', 0 ≤ k' → k' < k → ∀ d, 0 ≤ d → d < M 6 0 → mk (M (31 + k') d) (kOf M t w (kT M) k' d)) (d0 : 0 ≤ d) (d1 : d < M 6 0) : ∀ (n : Nat) (j all here : Int) (A S : Int → Prop), mk all A → mk here S → (∀ x, S x → x < M 6 0) → lw_from M w k ≤ j → j + n = M (w + 1) (k + 1) → ∃ v, f_Kinship_follow_13 w k d all here j M = some (v, M) ∧ mk v (fun x => kWalk M t w (kT M) d n j A S x ∧ ¬ x = d) := by
  obtain ⟨⟨g1, g2, g3⟩, -, -, -, g4⟩ := hR
  obtain ⟨lk1, lk2, lk3, lk4⟩ := lawK w hw
  have hst : f_Law_startOf w (x32 (k + 1)) M = some (M (w + 1) (k + 1), M) := by
    rw [x32_s (by omega) (by omega), f_startOf hw (by omega) (by omega)]
    unfold lw_from
    rw [if_neg (by omega)]
  intro n
  induction n with
  | zero =>
    intro j all here A S hA hS hq j0 j1
    have e := q_Kinship_follow_13 w k d all here j M
    rw [isO_law hw, hst] at e
    simp only [em_cd, Option.bind_some, Bool.and_true, cond_true] at e
    rw [if_pos (by omega)] at e
    exact ⟨_, e, ((hA.or hS).minus (fun x x0 x1 => (mk_bit d0 (by omega)).at_ x0 x1)).cong (fun x _ _ => Iff.rfl)⟩
  | succ n ih =>
    intro j all here A S hA hS hq j0 j1
    obtain ⟨⟨-, r1, r2⟩, ⟨-, s1, s2⟩, o1⟩ := g4 j j0 (by omega)
    have e := q_Kinship_follow_13 w k d all here j M
    rw [isO_law hw, hst, lk4.1, lk4.2] at e
    simp only [em_cd, Option.bind_some, Bool.and_true, cond_true] at e
    rw [if_neg (by omega), if_neg (by omega), decide_eq_true (by omega)] at e
    rw [show ((Nat.beq 103 102 || Nat.beq 103 103) && true) = true from rfl, cond_true] at e
    -- a step
    have st : ∀ (all here : Int) (A S : Int → Prop), mk all A → mk here S → (∀ x, S x → x < M 6 0) → ∃ here', mk here' (kNext M t (kT M) (M (w + 2) j) (M (w + 3) j) S) ∧ f_Kinship_follow_55 w k d all here j M = f_Kinship_follow_13 w k d all here' (j + 1) M := by
      intro all here A S hA hS hq
      obtain ⟨v, h1, h2⟩ := f_step (r := M (w + 2) j) hn r1 (by omega) hS hq (fun d d0 d1 => kRowMk hb hk (by omega) r1 r2 d0 d1)
      have e := q_Kinship_follow_55 w k d all here j M
      rw [isO_law hw, lk3.1, lk3.2, lk2.1, lk2.2, decide_eq_true (by omega : 0 ≤ j ∧ j < 600), h1] at e
      rw [show (Nat.beq 100 100 && true) = true from rfl] at e
      simp only [em_cd, Option.bind_some, cond_true] at e
      rw [x32_s (by omega) (by omega)] at e
      have fin : ∀ (v' sx : Int), M (w + 3) j = sx → mk v' (fun x => (∃ d, 0 ≤ d ∧ d < M 6 0 ∧ S d ∧ kBorn M t x ∧ kLead M t (kT M) (M (w + 2) j) d x) ∧ (sx = -1 ∨ M 7 x = sx)) → mk v' (kNext M t (kT M) (M (w + 2) j) (M (w + 3) j) S) := fun v' sx hsx hm => hm.cong (fun x _ _ => by
        unfold kNext
        rw [hsx]
        constructor
        · rintro ⟨⟨d, z1, z2, z3, z4, z5⟩, z6⟩
          exact ⟨z4, z6, d, z1, z2, z3, z5⟩
        · rintro ⟨z4, z6, d, z1, z2, z3, z5⟩
          exact ⟨⟨d, z1, z2, z3, z4, z5⟩, z6⟩)
      have hsx : M (w + 3) j = 0 ∨ M (w + 3) j = 1 ∨ M (w + 3) j = -1 := by omega
      rcases hsx with hsx | hsx | hsx
      · rw [if_neg (by omega)] at e
        refine ⟨_, fin _ 0 hsx ((h2.and hb.2.1).cong (fun x x0 _ => ?_)), e⟩
        constructor
        · rintro ⟨z1, z2, z3⟩
          exact ⟨z1, Or.inr z3⟩
        · rintro ⟨z1, z2⟩
          obtain ⟨d, _, _, _, z3, _⟩ := id z1
          exact ⟨z1, z3.2.1, by omega⟩
      · rw [if_pos (by omega), if_neg (by omega)] at e
        refine ⟨_, fin _ 1 hsx ((h2.and hb.2.2).cong (fun x x0 _ => ?_)), e⟩
        constructor
        · rintro ⟨z1, z2, z3⟩
          exact ⟨z1, Or.inr z3⟩
        · rintro ⟨z1, z2⟩
          obtain ⟨d, _, _, _, z3, _⟩ := id z1
          exact ⟨z1, z3.2.1, by omega⟩
      · rw [if_pos (by omega), if_pos (by omega)] at e
        exact ⟨_, fin _ (-1) hsx (h2.m1.cong (fun x _ _ => ⟨fun z => ⟨z, Or.inl rfl⟩, fun z => z.1⟩)), e⟩
    rcases o1 with o1 | o1
    · rw [if_pos o1] at e
      obtain ⟨h', m1, e1⟩ := st all here A S hA hS hq
      obtain ⟨v, g5, g6⟩ := ih (j + 1) all h' A _ hA m1 (fun x z => z.1.2.1) (by omega) (by omega)
      refine ⟨v, (e.trans e1).trans g5, ?_⟩
      unfold kWalk
      rw [if_neg (by omega)]
      exact g6
    · rw [if_neg (by omega)] at e
      obtain ⟨h', m1, e1⟩ := st (x_or all here) (x_shl 1 d) _ _ (hA.or hS) (mk_bit d0 (by omega)) (fun x z => by rw [z]; exact d1)
      obtain ⟨v, g5, g6⟩ := ih (j + 1) _ h' _ _ (hA.or hS) m1 (fun x z => z.1.2.1) (by omega) (by omega)
      refine ⟨v, (e.trans e1).trans g5, ?_⟩
      unfold kWalk
      rw [if_pos o1]
      exact g6
theorem f_follow {t w s k d : Int} (hn : M 6 0 ≤ 30) (hw : w = 53 ∨ w = 366) (hb : kBase M t) (hR : RKin M w s k) (k0 : 0 ≤ k) (k1 : k < 20) (hk : ∀ k', 0 ≤ k' → k' < k → ∀ d, 0 ≤ d → d < M 6 0 → mk (M (31 + k') d) (kOf M t w (kT M) k' d)) (d0 : 0 ≤ d) (d1 : d < M 6 0) : ∃ v, f_Kinship_follow w k d M = some (v, M) ∧ mk v (kOf M t w (kT M) k d) := by
  have hR1 := hR.1
  obtain ⟨v, h1, h2⟩ := f_follow_i hn hw hb hR k0 k1 hk d0 d1 (M (w + 1) (k + 1) - lw_from M w k).toNat (lw_from M w k) 0 0 _ _ mk_0 mk_0 (fun x z => z.elim) (Int.le_refl _) (by omega)
  refine ⟨v, ?_, h2⟩
  rw [q_Kinship_follow, isO_law hw, f_startOf hw k0 (by omega)]
  exact h1
/-! the kin of a set of tables that agree before k -/
theorem kNext_cg {t r sx k : Int} {T T' : Int → Int → Int} (r0 : 0 ≤ r) (r1 : r < 4 + k) (hT : ∀ k' d, 0 ≤ k' → k' < k → 0 ≤ d → d < M 6 0 → T k' d = T' k' d) (S : Int → Prop) : kNext M t T r sx S = kNext M t T' r sx S := by
  funext x
  have e : ∀ d, 0 ≤ d → d < M 6 0 → (kLead M t T r d x ↔ kLead M t T' r d x) := fun d d0 d1 => by
    by_cases q : r < 4
    · exact kLead_low (by omega)
    · unfold kLead
      rw [if_neg (by omega), if_neg (by omega), if_neg (by omega), if_neg (by omega), if_neg (by omega), if_neg (by omega), if_neg (by omega), if_neg (by omega), hT (r - 4) d (by omega) (by omega) d0 d1]
  unfold kNext
  apply propext
  refine and_congr_right (fun _ => and_congr_right (fun _ => ⟨?_, ?_⟩))
  · rintro ⟨d, z1, z2, z3, z4⟩
    exact ⟨d, z1, z2, z3, (e d z1 z2).mp z4⟩
  · rintro ⟨d, z1, z2, z3, z4⟩
    exact ⟨d, z1, z2, z3, (e d z1 z2).mpr z4⟩
theorem kWalk_cg {t w k d : Int} {T T' : Int → Int → Int} (hT : ∀ k' d, 0 ≤ k' → k' < k → 0 ≤ d → d < M 6 0 → T k' d = T' k' d) : ∀ (n : Nat) (j : Int) (A S : Int → Prop), (∀ i, j ≤ i → i < j + n → 0 ≤ M (w + 2) i ∧ M (w + 2) i < 4 + k) → kWalk M t w T d n j A S = kWalk M t w T' d n j A S
  | 0, _, _, _, _ => rfl
  | n + 1, j, A, S, h => by
    have hj := h j (by omega) (by omega)
    unfold kWalk
    rw [kNext_cg hj.1 hj.2 hT, kNext_cg hj.1 hj.2 hT S, kWalk_cg hT n (j + 1) _ _ (fun i i0 i1 => h i (by omega) (by omega)), kWalk_cg hT n (j + 1) _ _ (fun i i0 i1 => h i (by omega) (by omega))]
theorem kOf_cg {t w s k d : Int} {T T' : Int → Int → Int} (hR : RKin M w s k) (hT : ∀ k' d, 0 ≤ k' → k' < k → 0 ≤ d → d < M 6 0 → T k' d = T' k' d) : kOf M t w T k d = kOf M t w T' k d := by
  funext x
  unfold kOf
  obtain ⟨⟨g1, g2, g3⟩, -, -, -, g4⟩ := hR
  rw [kWalk_cg hT _ _ _ _ (fun i i0 i1 => ⟨(g4 i i0 (by omega)).1.2.1, (g4 i i0 (by omega)).1.2.2⟩)]
end
