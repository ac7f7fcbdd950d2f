/-! KIN: sets of the register; parents and mates in the class's table. -/
theorem mask_loop {F : Int → Int → em_M → Option (Int × em_M)} {P : Int → Prop} {n : Int} {M : em_M} (hn : n ≤ 30) (hF : ∀ s i S, mk s S → 0 ≤ i → (n ≤ i → F s i M = some (s, M)) ∧ (i < n → ∃ s', mk s' (fun x => S x ∨ (x = i ∧ P i)) ∧ F s i M = F s' (i + 1) M)) : ∀ (k : Nat) (s i : Int) (S : Int → Prop), mk s S → 0 ≤ i → n - i ≤ k → ∃ v, F s i M = some (v, M) ∧ mk v (fun x => S x ∨ (i ≤ x ∧ x < n ∧ P x)) := by
  intro k
  induction k with
  | zero =>
    intro s i S hs i0 hk
    exact ⟨s, (hF s i S hs i0).1 (by omega), hs.cong (fun x _ _ => ⟨Or.inl, fun z => z.elim id (fun z => by omega)⟩)⟩
  | succ k ih =>
    intro s i S hs i0 hk
    by_cases q : n ≤ i
    · exact ⟨s, (hF s i S hs i0).1 q, hs.cong (fun x _ _ => ⟨Or.inl, fun z => z.elim id (fun z => by omega)⟩)⟩
    · obtain ⟨s', h1, h2⟩ := (hF s i S hs i0).2 (by omega)
      obtain ⟨v, h3, h4⟩ := ih s' (i + 1) _ h1 (by omega) (by omega)
      refine ⟨v, h2.trans h3, h4.cong (fun x _ _ => ?_)⟩
      constructor
      · rintro ((z | z) | z)
        · exact Or.inl z
        · refine Or.inr ⟨by omega, by omega, ?_⟩
          rw [z.1]; exact z.2
        · exact Or.inr ⟨by omega, z.2⟩
      · rintro (z | z)
        · exact Or.inl (Or.inl z)
        · by_cases r : x = i
          · refine Or.inl (Or.inr ⟨r, ?_⟩)
            rw [← r]; exact z.2.2
          · exact Or.inr ⟨by omega, z.2⟩
theorem mask_all {F : Int → Int → em_M → Option (Int × em_M)} {P : Int → Prop} {n : Int} {M : em_M} (hn : n ≤ 30) (hF : ∀ s i S, mk s S → 0 ≤ i → (n ≤ i → F s i M = some (s, M)) ∧ (i < n → ∃ s', mk s' (fun x => S x ∨ (x = i ∧ P i)) ∧ F s i M = F s' (i + 1) M)) : ∃ v, F 0 0 M = some (v, M) ∧ mk v (fun x => x < n ∧ P x) := by
  obtain ⟨v, h1, h2⟩ := mask_loop hn hF n.toNat 0 0 _ mk_0 (by omega) (by omega)
  exact ⟨v, h1, h2.cong (fun x x0 _ => ⟨fun z => z.elim (fun z => z.elim) (fun z => z.2), fun z => Or.inr ⟨x0, z⟩⟩)⟩
theorem mk.add {s i : Int} {S : Int → Prop} (h : mk s S) (i0 : 0 ≤ i) (i1 : i < 30) {P : Prop} (hp : P) : mk (x_or s (x_shl 1 i)) (fun x => S x ∨ (x = i ∧ P)) := (h.or (mk_bit i0 i1)).cong (fun x _ _ => ⟨fun z => z.elim Or.inl (fun z => Or.inr ⟨z, hp⟩), fun z => z.elim Or.inl (fun z => Or.inr z.1)⟩)
theorem mk.or0 {s i : Int} {S : Int → Prop} (h : mk s S) {P : Prop} (hp : ¬ P) : mk (x_or s 0) (fun x => S x ∨ (x = i ∧ P)) := (h.or mk_0).cong (fun x _ _ => ⟨fun z => z.elim Or.inl (fun z => z.elim), fun z => z.elim Or.inl (fun z => absurd z.2 hp)⟩)
theorem mk.no {s i : Int} {S : Int → Prop} (h : mk s S) {P : Prop} (hp : ¬ P) : mk s (fun x => S x ∨ (x = i ∧ P)) := h.cong (fun x _ _ => ⟨Or.inl, fun z => z.elim id (fun z => absurd z.2 hp)⟩)
theorem mk.iff {v : Int} {S T : Int → Prop} (h : mk v S) (k : ∀ x, 0 ≤ x → x < 30 → (S x ↔ T x)) : mk v T := h.cong k
section
variable {M : em_M}
theorem f_bornBy (hn : M 6 0 ≤ 30) (t : Int) : ∃ v, f_Register_bornBy t M = some (v, M) ∧ mk v (fun x => x < M 6 0 ∧ M 10 x ≤ t) := by
  rw [q_Register_bornBy]
  refine mask_all (F := fun s i M => f_Register_bornBy_4 t s i M) hn (fun s i S hs i0 => ⟨fun hi => ?_, fun hi => ?_⟩)
  · show f_Register_bornBy_4 t s i M = _
    rw [q_Register_bornBy_4, em_cd, if_pos hi]
  · have e := q_Register_bornBy_4 t s i M
    simp only [em_cd] at e
    rw [if_neg (by omega), if_neg (by omega), if_pos (by omega), x32_s (by omega) (by omega)] at e
    by_cases q : M 10 i ≤ t
    · rw [if_neg (by omega)] at e
      exact ⟨_, hs.add i0 (by omega) q, e⟩
    · rw [if_pos (by omega)] at e
      exact ⟨_, hs.or0 q, e⟩
theorem f_ofSex (hn : M 6 0 ≤ 30) (t : Int) : ∃ v, f_Register_ofSex t M = some (v, M) ∧ mk v (fun x => x < M 6 0 ∧ M 7 x = t) := by
  rw [q_Register_ofSex]
  refine mask_all (F := fun s i M => f_Register_ofSex_4 t s i M) hn (fun s i S hs i0 => ⟨fun hi => ?_, fun hi => ?_⟩)
  · show f_Register_ofSex_4 t s i M = _
    rw [q_Register_ofSex_4, em_cd, if_pos hi]
  · have e := q_Register_ofSex_4 t s i M
    simp only [em_cd] at e
    rw [if_neg (by omega), if_neg (by omega), if_pos (by omega), x32_s (by omega) (by omega)] at e
    by_cases q : M 7 i = t
    · rw [if_neg (by omega)] at e
      exact ⟨_, hs.add i0 (by omega) q, e⟩
    · rw [if_pos (by omega)] at e
      exact ⟨_, hs.or0 q, e⟩
theorem f_living_i {t : Int} (hn : M 6 0 ≤ 30) : ∀ (k : Nat) (s i : Int) (S : Int → Prop), mk s S → 0 ≤ i → M 6 0 - i ≤ k → ∃ v, f_Register_livingOn_8 t s i M = some (v, M) ∧ mk v (fun x => S x ∧ ¬ (i ≤ x ∧ x < M 6 0 ∧ ¬ M 11 x = -1 ∧ M 11 x ≤ t)) := by
  intro k
  induction k with
  | zero =>
    intro s i S hs i0 hk
    refine ⟨s, ?_, hs.cong (fun x _ _ => ⟨fun z => ⟨z, by omega⟩, fun z => z.1⟩)⟩
    rw [q_Register_livingOn_8, em_cd, if_pos (by omega)]
  | succ k ih =>
    intro s i S hs i0 hk
    by_cases q : M 6 0 ≤ i
    · refine ⟨s, ?_, hs.cong (fun x _ _ => ⟨fun z => ⟨z, by omega⟩, fun z => z.1⟩)⟩
      rw [q_Register_livingOn_8, em_cd, if_pos (by omega)]
    · have e := q_Register_livingOn_8 t s i M
      simp only [em_cd] at e
      rw [if_neg (by omega), if_neg (by omega), if_pos (by omega), x32_s (by omega) (by omega)] at e
      have skip : ¬ (¬ M 11 i = -1 ∧ M 11 i ≤ t) → f_Register_livingOn_8 t s i M = f_Register_livingOn_8 t s (i + 1) M → ∃ v, f_Register_livingOn_8 t s i M = some (v, M) ∧ mk v (fun x => S x ∧ ¬ (i ≤ x ∧ x < M 6 0 ∧ ¬ M 11 x = -1 ∧ M 11 x ≤ t)) := fun hc e2 => by
        obtain ⟨v, h1, h2⟩ := ih s (i + 1) S hs (by omega) (by omega)
        refine ⟨v, e2.trans h1, h2.cong (fun x _ _ => ⟨fun z => ⟨z.1, fun w => z.2 ⟨?_, w.2⟩⟩, fun z => ⟨z.1, fun w => z.2 ⟨by omega, w.2⟩⟩⟩)⟩
        have : ¬ x = i := fun r => hc (by rw [← r]; exact w.2.2)
        omega
      by_cases c1 : M 11 i = -1
      · rw [if_pos c1] at e
        exact skip (fun z => z.1 c1) e
      · rw [if_neg c1, if_pos (by omega)] at e
        by_cases c2 : t < M 11 i
        · rw [if_pos c2] at e
          exact skip (fun z => by omega) e
        · rw [if_neg c2] at e
          have hm := hs.minus (w := x_shl 1 i) (T := fun x => x = i) (fun x x0 x1 => (mk_bit i0 (by omega)).at_ x0 x1)
          obtain ⟨v, h1, h2⟩ := ih _ (i + 1) _ hm (by omega) (by omega)
          refine ⟨v, e.trans h1, h2.cong (fun x _ _ => ⟨fun z => ⟨z.1.1, fun w => z.2 ⟨?_, w.2⟩⟩, fun z => ⟨⟨z.1, fun r => z.2 ?_⟩, fun w => z.2 ⟨by omega, w.2⟩⟩⟩)⟩
          · have := z.1.2
            omega
          · rw [r]
            exact ⟨by omega, by omega, c1, by omega⟩
theorem f_livingOn (hn : M 6 0 ≤ 30) (t : Int) : ∃ v, f_Register_livingOn t M = some (v, M) ∧ mk v (fun x => (x < M 6 0 ∧ M 10 x ≤ t) ∧ ¬ (¬ M 11 x = -1 ∧ M 11 x ≤ t)) := by
  obtain ⟨b, h1, h2⟩ := f_bornBy hn t
  obtain ⟨v, h3, h4⟩ := f_living_i (t := t) hn 30 b 0 _ h2 (by omega) (by omega)
  refine ⟨v, ?_, h4.cong (fun x x0 _ => ⟨fun z => ⟨z.1, fun w => z.2 ⟨x0, z.1.1, w⟩⟩, fun z => ⟨z.1, fun w => z.2 w.2.2⟩⟩)⟩
  rw [q_Register_livingOn, h1]
  exact h3
/-! rows of the table -/
theorem kRow : (List.range 24).all (fun k => Nat.beq (em_kd (27 + (k : Int))) 100 && decide (em_ln (27 + (k : Int)) = 30)) = true := by decide +kernel
theorem kRow_at {j : Int} (h : 27 ≤ j) (h2 : j < 51) : em_kd j = 100 ∧ em_ln j = 30 := by
  have := List.all_eq_true.mp kRow (j - 27).toNat (List.mem_range.mpr (by omega))
  rw [show (((j - 27).toNat : Nat) : Int) = j - 27 by omega, show 27 + (j - 27) = j by omega, Bool.and_eq_true, decide_eq_true_eq] at this
  exact ⟨Nat.eq_of_beq_eq_true this.1, this.2⟩
theorem kRow_in {j p : Int} (h : 27 ≤ j) (h2 : j < 51) (p0 : 0 ≤ p) (p1 : p < 30) : (Nat.beq (em_kd j) 100 && decide (0 ≤ p ∧ p < em_ln j)) = true := by
  rw [(kRow_at h h2).1, (kRow_at h h2).2, decide_eq_true ⟨p0, p1⟩]
  rfl
def flM (M : em_M) (a i v : Int) : em_M := fun c j => if c = a ∧ i ≤ j ∧ j < 30 then v else M c j
theorem f_fill_i {a v : Int} (ha : em_kd a = 100) (hl : em_ln a = 30) : ∀ (k : Nat) (M : em_M) (i : Int), 0 ≤ i → 30 - i ≤ k → f_Arrays_fill_5 a v i 30 M = some (0, flM M a i v) := by
  intro k
  induction k with
  | zero =>
    intro M i i0 hk
    rw [q_Arrays_fill_5, em_cd, if_pos (by omega)]
    congr 2
    funext c j
    unfold flM
    rw [if_neg (by omega)]
  | succ k ih =>
    intro M i i0 hk
    rw [q_Arrays_fill_5]
    by_cases q : 30 ≤ i
    · rw [em_cd, if_pos q]
      congr 2
      funext c j
      unfold flM
      rw [if_neg (by omega)]
    · rw [em_cd, if_neg q, ha, hl, decide_eq_true (by omega)]
      rw [show (Nat.beq 100 100 && true) = true from rfl, cond_true, x32_s (by omega) (by omega), ih _ _ (by omega) (by omega)]
      congr 2
      funext c j
      unfold flM
      by_cases r : c = a ∧ i + 1 ≤ j ∧ j < 30
      · rw [if_pos r, if_pos (by omega)]
      · rw [if_neg r]
        by_cases t : c = a ∧ j = i
        · rw [t.1, t.2, xup_eq, if_pos (by omega)]
        · rw [xup_ne t, if_neg (by omega)]
theorem f_fill {a v : Int} (ha : em_kd a = 100) (hl : em_ln a = 30) : f_Arrays_fill a v M = some (0, flM M a 0 v) := by
  rw [q_Arrays_fill, ha, hl, show (Nat.ble 100 100 && Nat.blt 100 200) = true from rfl, cond_true]
  exact f_fill_i ha hl 30 M 0 (by omega) (by omega)
theorem flM_in {a i v j : Int} (h : i ≤ j) (h2 : j < 30) : flM M a i v a j = v := if_pos ⟨rfl, h, h2⟩
theorem flM_ne {a i v c j : Int} (h : ¬ (c = a ∧ i ≤ j ∧ j < 30)) : flM M a i v c j = M c j := if_neg h
/-! parents -/
def paW (M : em_M) (b m : Int) : Int := if 0 ≤ m ∧ m < M 6 0 then x_and (x_shl 1 m) b else 0
def paA (M : em_M) (b i : Int) : em_M := xup (xup M 28 i (paW M b (M 8 i))) 29 i (paW M b (M 9 i))
def paO (A : em_M) (m v : Int) : em_M := if 0 ≤ m ∧ m < A 6 0 then xup A 27 m (x_or (A 27 m) v) else A
def paM (M : em_M) (b i : Int) : em_M := paO (paO (paA M b i) (M 8 i) (x_and (x_shl 1 i) b)) (M 9 i) (x_and (x_shl 1 i) b)
theorem f_par139 {b i m v : Int} (hn : M 6 0 ≤ 30) (i0 : 0 ≤ i) (i1 : i < 30) : f_Kinship_setParents_139 b i m v M = f_Kinship_setParents_12 b (i + 1) (paO M m v) := by
  rw [q_Kinship_setParents_139, f_has30 hn]
  simp only [Option.bind_some, em_cd, b2_z, Int.reduceMul, Int.reduceAdd]
  unfold paO
  by_cases h : 0 ≤ m ∧ m < M 6 0
  · rw [if_neg (fun z => z h), if_pos h, kRow_in (by omega) (by omega) (by omega) (by omega), x32_s (by omega) (by omega)]
    rfl
  · rw [if_pos h, if_neg h, x32_s (by omega) (by omega)]
theorem f_par12 {b i : Int} (hn : M 6 0 ≤ 30) (i0 : 0 ≤ i) (i1 : i < M 6 0) : f_Kinship_setParents_12 b i M = f_Kinship_setParents_12 b (i + 1) (paM M b i) := by
  have k114 : ∀ (m f v w : Int) (A : em_M), A 6 0 ≤ 30 → f_Kinship_setParents_114 b i m f v 29 i w A = f_Kinship_setParents_12 b (i + 1) (paO (paO (xup A 29 i w) m v) f v) := fun m f v w A hA => by
    rw [q_Kinship_setParents_114, kRow_in (by omega) (by omega) (by omega) (by omega), cond_true, f_has30 (by rw [xup_ne (by omega)]; exact hA)]
    simp only [Option.bind_some, em_cd, b2_z, Int.reduceMul, Int.reduceAdd]
    have e60 : xup A 29 i w 6 0 = A 6 0 := xup_ne (by omega)
    have hP : ∀ X : em_M, X 6 0 = A 6 0 → X 6 0 ≤ 30 := fun X h => by omega
    by_cases h : 0 ≤ m ∧ m < xup A 29 i w 6 0
    · rw [if_neg (fun z => z h), kRow_in (by omega) (by omega) (by omega) (by omega)]
      show f_Kinship_setParents_139 b i f v (xup (xup A 29 i w) 27 m (x_or (xup A 29 i w 27 m) v)) = _
      rw [f_par139 (by rw [xup_ne (by omega)]; omega) i0 (by omega)]
      have : paO (xup A 29 i w) m v = xup (xup A 29 i w) 27 m (x_or (xup A 29 i w 27 m) v) := if_pos h
      rw [this]
    · rw [if_pos h, f_par139 (by omega) i0 (by omega)]
      have : paO (xup A 29 i w) m v = xup A 29 i w := if_neg h
      rw [this]
  have k84 : ∀ (m f v w : Int), f_Kinship_setParents_84 b i m f v 28 i w M = f_Kinship_setParents_12 b (i + 1) (paO (paO (xup (xup M 28 i w) 29 i (paW M b f)) m v) f v) := fun m f v w => by
    rw [q_Kinship_setParents_84, kRow_in (by omega) (by omega) (by omega) (by omega), cond_true, f_has30 (by rw [xup_ne (by omega)]; exact hn)]
    simp only [Option.bind_some, em_cd, b2_z, Int.reduceMul, Int.reduceAdd]
    unfold paW
    rw [show xup M 28 i w 6 0 = M 6 0 from xup_ne (by omega)]
    by_cases h : 0 ≤ f ∧ f < M 6 0
    · rw [if_neg (fun z => z h), k114 _ _ _ _ _ (by rw [xup_ne (by omega)]; exact hn), if_pos h]
    · rw [if_pos h, k114 _ _ _ _ _ (by rw [xup_ne (by omega)]; exact hn), if_neg h]
  rw [q_Kinship_setParents_12, f_has30 hn]
  simp only [Option.bind_some, em_cd, b2_z, Int.reduceMul, Int.reduceAdd]
  rw [if_neg (by omega), if_neg (by omega), if_pos (by omega), if_pos (by omega), k84, k84]
  unfold paM paA
  by_cases h : 0 ≤ M 8 i ∧ M 8 i < M 6 0
  · rw [if_neg (fun z => z h), show paW M b (M 8 i) = x_and (x_shl 1 (M 8 i)) b from if_pos h]
  · rw [if_pos h, show paW M b (M 8 i) = 0 from if_neg h]
end
