/-! MONEY: what an operation of the reference leaves; who lives; what is static in a settlement. -/
/-- s0 the flag ahead, s behind; f what was to come; u what stands there -/
def mSt (s0 s f u : Int) : Prop := fr_ok u ∧ ((s = 0 ∧ s0 = 0 ∧ f = u) ∨ (s = 1 ∧ (s0 = 1 ∨ f = -1)))
def mRes (N N' : em_M) (f u : Int) : Prop := mSt (N 439 44) (N' 439 44) f u ∧ (N' 439 45 = fr_up u ∧ N' 439 46 = fr_low u) ∧ ∀ c j, ¬ (c = 439 ∧ 44 ≤ j ∧ j ≤ 46) → N' c j = N c j
def mSp (N : em_M) : Prop := N 439 44 = 0 ∨ N 439 44 = 1
theorem mSt.sp {s0 s f u : Int} (h : mSt s0 s f u) : s = 0 ∨ s = 1 := h.2.elim (fun z => Or.inl z.1) (fun z => Or.inr z.1)
theorem mRes.sp {N N' : em_M} {f u : Int} (h : mRes N N' f u) : mSp N' := h.1.sp
section
variable {N : em_M}
theorem md_fr_res (hs : mSp N) {f : Int} (hf : fr_v f) : ∃ u, mRes N (md_fr N f) f u := by
  by_cases h : N 439 44 = 0 ∧ 0 ≤ f
  · have ho : fr_ok f := hf.resolve_left (by omega)
    refine ⟨f, ?_⟩
    unfold md_fr
    rw [if_pos h]
    unfold md_set mRes
    refine ⟨⟨ho, Or.inl ⟨by simp (disch := omega) only [xup_ne, xup_eq], h.1, rfl⟩⟩, ?_, fun c j hc => by simp (disch := omega) only [xup_ne]⟩
    simp (disch := omega) only [xup_ne, xup_eq, and_self]
  · refine ⟨1, ?_⟩
    unfold md_fr
    rw [if_neg h]
    unfold md_set mRes
    refine ⟨⟨fr_ok_1.1, Or.inr ⟨by simp (disch := omega) only [xup_ne, xup_eq], ?_⟩⟩, ?_, fun c j hc => by simp (disch := omega) only [xup_ne]⟩
    · rcases hs with z | z
      · rcases hf with y | y
        · exact Or.inr y
        · have := y.1
          omega
      · exact Or.inl z
    · rw [fr_ok_1.2.1, fr_ok_1.2.2]
      simp (disch := omega) only [xup_ne, xup_eq, and_self]
theorem fr_v_plus (x y : Int) : fr_v (fr_plus x y) := by
  unfold fr_plus
  split
  · exact Or.inl rfl
  · exact fr_of_range _ _
theorem fr_v_minus (x y : Int) : fr_v (fr_minus x y) := by
  unfold fr_minus
  split
  · exact Or.inl rfl
  · exact fr_of_range _ _
theorem fr_v_times (x y : Int) : fr_v (fr_times x y) := by
  unfold fr_times
  split
  · exact Or.inl rfl
  · exact fr_of_range _ _
theorem fr_v_over (x y : Int) : fr_v (fr_over x y) := by
  unfold fr_over
  split
  · exact Or.inl rfl
  · exact fr_of_range _ _
theorem m_plus' (hs : mSp N) {x y a b c d : Int} (ox : fr_ok x) (oy : fr_ok y) (ha : a = fr_up x) (hb : b = fr_low x) (hc : c = fr_up y) (hd : d = fr_low y) : ∃ u N', f_Model_plus a b c d N = some (0, N') ∧ mRes N N' (fr_plus x y) u := by
  subst ha hb hc hd
  obtain ⟨u, h⟩ := md_fr_res hs (fr_v_plus x y)
  exact ⟨u, _, m_plus N hs ox oy, h⟩
theorem m_minus' (hs : mSp N) {x y a b c d : Int} (ox : fr_ok x) (oy : fr_ok y) (hle : fr_up y * fr_low x ≤ fr_up x * fr_low y) (ha : a = fr_up x) (hb : b = fr_low x) (hc : c = fr_up y) (hd : d = fr_low y) : ∃ u N', f_Model_minus a b c d N = some (0, N') ∧ mRes N N' (fr_minus x y) u := by
  subst ha hb hc hd
  obtain ⟨u, h⟩ := md_fr_res hs (fr_v_minus x y)
  exact ⟨u, _, m_minus N hs ox oy hle, h⟩
theorem m_times' (hs : mSp N) {x y a b c d : Int} (ox : fr_ok x) (oy : fr_ok y) (ha : a = fr_up x) (hb : b = fr_low x) (hc : c = fr_up y) (hd : d = fr_low y) : ∃ u N', f_Model_times a b c d N = some (0, N') ∧ mRes N N' (fr_times x y) u := by
  subst ha hb hc hd
  obtain ⟨u, h⟩ := md_fr_res hs (fr_v_times x y)
  exact ⟨u, _, m_times N hs ox oy, h⟩
theorem m_over' (hs : mSp N) {x y a b c d : Int} (ox : fr_ok x) (oy : fr_ok y) (hy : 0 < fr_up y) (ha : a = fr_up x) (hb : b = fr_low x) (hc : c = fr_up y) (hd : d = fr_low y) : ∃ u N', f_Model_over a b c d N = some (0, N') ∧ mRes N N' (fr_over x y) u := by
  subst ha hb hc hd
  obtain ⟨u, h⟩ := md_fr_res hs (fr_v_over x y)
  exact ⟨u, _, m_over N hs ox oy hy, h⟩
theorem m_lowest' (hs : mSp N) {a b : Int} (ha : 0 ≤ a) (ha2 : a < 9223372036854775808) (hb : 0 < b) (hb2 : b < 9223372036854775808) : ∃ u N', f_Model_lowest a b N = some (0, N') ∧ mRes N N' (fr_of a b) u := by
  obtain ⟨u, h⟩ := md_fr_res hs (fr_of_range a b)
  exact ⟨u, _, m_lowest N hs ha ha2 hb hb2, h⟩
/-- once spent, always: the second operation's flag by the first's -/
theorem mSt.tr {s0 s1 s2 f g u v : Int} (h : mSt s0 s1 f u) (k : mSt s1 s2 g v) : (s2 = 0 ∧ s0 = 0 ∧ f = u ∧ g = v) ∨ (s2 = 1 ∧ (s0 = 1 ∨ f = -1 ∨ g = -1)) := by
  rcases k.2 with ⟨k1, k2, k3⟩ | ⟨k1, k2⟩
  · rcases h.2 with ⟨h1, h2, h3⟩ | ⟨h1, h2⟩
    · exact Or.inl ⟨k1, h2, h3, k3⟩
    · omega
  · refine Or.inr ⟨k1, ?_⟩
    rcases k2 with k2 | k2
    · rcases h.2 with ⟨h1, h2, h3⟩ | ⟨h1, h2⟩
      · omega
      · rcases h2 with h2 | h2
        · exact Or.inl h2
        · exact Or.inr (Or.inl h2)
    · exact Or.inr (Or.inr k2)
theorem fr_nn {x : Int} (h : fr_v x) : x < 0 ↔ x = -1 := by
  rcases h with h | h
  · exact ⟨fun _ => h, fun _ => by omega⟩
  · have := h.1
    exact ⟨fun z => by omega, fun z => by omega⟩
/-! who lives -/
def lvs (N : em_M) (t x : Int) : Prop := N 471 x ≤ t ∧ (N 472 x = -1 ∨ t < N 472 x)
theorem m_lives {x t : Int} (x0 : 0 ≤ x) (x1 : x < 30) : (lvs N t x ∧ f_Model_lives x t N = some (1, N)) ∨ (¬ lvs N t x ∧ f_Model_lives x t N = some (0, N)) := by
  rw [q_Model_lives]
  unfold lvs
  by_cases c1 : N 471 x ≤ t
  · by_cases c2 : N 472 x = -1
    · exact Or.inl ⟨by omega, by simp (disch := omega) only [em_cd, if_pos, if_neg]⟩
    · by_cases c3 : N 472 x ≤ t
      · exact Or.inr ⟨by omega, by simp (disch := omega) only [em_cd, if_pos, if_neg]⟩
      · exact Or.inl ⟨by omega, by simp (disch := omega) only [em_cd, if_pos, if_neg]⟩
  · exact Or.inr ⟨by omega, by simp (disch := omega) only [em_cd, if_pos, if_neg]⟩
/-! what is static in a settlement -/
def sStat (c j : Int) : Prop := c = 0 ∨ (c = 6 ∧ ¬ j = 1) ∨ (7 ≤ c ∧ c ≤ 10) ∨ (13 ≤ c ∧ c ≤ 51) ∨ (53 ≤ c ∧ c ≤ 125) ∨ (366 ≤ c ∧ c ≤ 438) ∨ (c = 439 ∧ (j = 17 ∨ j = 47 ∨ j = 56 ∨ j = 61 ∨ j = 65)) ∨ (447 ≤ c ∧ c ≤ 471) ∨ (476 ≤ c ∧ c ≤ 486)
/-- M: where the class works; N: where the reference works -/
def sRel (M N : em_M) (t L : Int) : Prop := (RP M ∧ RM M ∧ RO M ∧ RL M ∧ RW M ∧ kTab M t) ∧ (∀ c j, sStat c j → N c j = M c j) ∧ mk L (fun x => x < M 6 0 ∧ lvs N t x) ∧ (0 ≤ t ∧ t ≤ 100000)
/-- what the class may change in a settlement (E: the estate's cell), what the reference -/
def fC (E : Int) (M M' : em_M) : Prop := ∀ c j, ¬ ((126 ≤ c ∧ c ≤ 135) ∨ (c = E ∧ 3 ≤ j) ∨ (E + 1 ≤ c ∧ c ≤ E + 5)) → M' c j = M c j
/-- the same with the owner, the day and the persons -/
def fCw (E : Int) (M M' : em_M) : Prop := ∀ c j, ¬ ((126 ≤ c ∧ c ≤ 135) ∨ (E ≤ c ∧ c ≤ E + 5)) → M' c j = M c j
theorem fC.w {E : Int} {M M' : em_M} (h : fC E M M') : fCw E M M' := fun c j hc => h c j (by omega)
theorem fCw.tr {E : Int} {A B C : em_M} (h : fCw E A B) (k : fCw E B C) : fCw E A C := fun c j hc => (k c j hc).trans (h c j hc)
def fM (N N' : em_M) : Prop := ∀ c j, ¬ ((c = 439 ∧ ((44 ≤ j ∧ j ≤ 46) ∨ (74 ≤ j ∧ j ≤ 101))) ∨ c = 474 ∨ c = 475 ∨ (487 ≤ c ∧ c ≤ 505)) → N' c j = N c j
theorem fC.rf (E : Int) (M : em_M) : fC E M M := fun _ _ _ => rfl
theorem fM.rf (N : em_M) : fM N N := fun _ _ _ => rfl
theorem fC.tr {E : Int} {A B C : em_M} (h : fC E A B) (k : fC E B C) : fC E A C := fun c j hc => (k c j hc).trans (h c j hc)
theorem fM.tr {A B C : em_M} (h : fM A B) (k : fM B C) : fM A C := fun c j hc => (k c j hc).trans (h c j hc)
theorem sRel.frw {M N M' N' : em_M} {t L E : Int} (h : sRel M N t L) (hE : isE E) (hC : fCw E M M') (hM : fM N N') : sRel M' N' t L := by
  obtain ⟨⟨h1, h2, h3, h4, h5, h6⟩, h7, h8, h9⟩ := h
  obtain ⟨k, k0, k1, rfl⟩ := hE
  unfold fCw at hC
  unfold fM at hM
  refine ⟨⟨RP_fr h1 (fun c j hc => hC c j (by omega)), RM_fr h2 (fun c j hc => hC c j (by omega)), RO_fr h3 (fun c j hc => hC c j (by omega)), RL_fr h4 (fun c j hc => hC c j (by omega)), RW_fr h5 (fun c j hc => hC c j (by omega)), kTab_fr h6 h5.1 h5.2.2.2.1.2.2 (fun c j hc => hC c j (by omega))⟩, fun c j hc => ?_, ?_, h9⟩
  · have hs := h7 c j hc
    unfold sStat at hc
    rw [hM c j (by omega), hC c j (by omega)]
    exact hs
  · rw [hC 6 0 (by omega)]
    refine h8.cong (fun x _ _ => ?_)
    unfold lvs
    rw [hM 471 x (by omega), hM 472 x (by omega)]
theorem sRel.fr {M N M' N' : em_M} {t L E : Int} (h : sRel M N t L) (hE : isE E) (hC : fC E M M') (hM : fM N N') : sRel M' N' t L := h.frw hE hC.w hM
end
