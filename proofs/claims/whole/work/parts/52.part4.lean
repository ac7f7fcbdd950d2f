/-! PARTING: the class's heads and who is barred, with the reference's. -/
section
variable {M N : em_M}
theorem f_headsOf {k : Int} (k0 : 0 ≤ k) (k1 : k < 20) : f_Parting_headsOf k M = some (M 128 k, M) := by
  rw [q_Parting_headsOf]
  simp only [em_cd]
  rw [if_neg (by omega), if_neg (by omega), if_pos (by omega)]
def hsC (M N : em_M) (K i : Int) : Prop := (∀ k, 0 ≤ k → k < i → k < 20 → (k < K → M 128 k = N 491 k) ∧ (K ≤ k → M 128 k = 0)) ∧ mk (M 127 10) (fun x => ∃ k, 0 ≤ k ∧ k < i ∧ k < K ∧ tb (N 491 k) x = true)
theorem f_heads {t n L p w s K : Int} (hn : n ≤ 30) (hw : w = 53 ∨ w = 366) (K1 : K ≤ 20) (p0 : 0 ≤ p) (p1 : p < n) (hL : mk L (fun x => x < n ∧ lvs N t x)) (hN : ∀ k, 0 ≤ k → k < K → mk (N 491 k) (fun x => x < n ∧ hd N t p s k x)) : ∀ (m : Nat) (i : Int) (M : em_M), M 6 0 = n → M w 0 = K → M 127 8 = L → (∀ k, 0 ≤ k → k < 20 → N 449 (20 * s + k) = b2 (tb (M w 2) k = true)) → (∀ k, 0 ≤ k → k < K → N 489 (30 * k + p) = M (31 + k) p ∧ mk (M (31 + k) p) (fun x => tb (M (31 + k) p) x = true)) → mk (M 127 9) (fun y => 0 ≤ y ∧ y < n ∧ ¬ lvs N t y ∧ ¬ N 490 y = 0) → 0 ≤ i → 20 - i ≤ m → hsC M N K i → ∃ M', f_Parting_findHeads_7 w p i M = some (0, M') ∧ (∀ c j, ¬ (c = 128 ∨ (c = 127 ∧ j = 10)) → M' c j = M c j) ∧ hsC M' N K 20 := by
  intro m
  induction m with
  | zero =>
    intro i M h6 hK h8 h449 h489 h9 i0 hm hC
    refine ⟨M, ?_, fun _ _ _ => rfl, fun k k0 k1 k2 => hC.1 k k0 (by omega) k2, hC.2.cong (fun x _ _ => ⟨fun ⟨k, a, b, c, d⟩ => ⟨k, a, by omega, c, d⟩, fun ⟨k, a, b, c, d⟩ => ⟨k, a, by omega, c, d⟩⟩)⟩
    rw [q_Parting_findHeads_7, em_cd, if_pos (by omega)]
  | succ m ih =>
    intro i M h6 hK h8 h449 h489 h9 i0 hm hC
    by_cases q : 20 ≤ i
    · refine ⟨M, ?_, fun _ _ _ => rfl, fun k k0 k1 k2 => hC.1 k k0 (by omega) k2, hC.2.cong (fun x _ _ => ⟨fun ⟨k, a, b, c, d⟩ => ⟨k, a, by omega, c, d⟩, fun ⟨k, a, b, c, d⟩ => ⟨k, a, by omega, c, d⟩⟩)⟩
      rw [q_Parting_findHeads_7, em_cd, if_pos q]
    · have e := q_Parting_findHeads_7 w p i M
      rw [isO_law hw, x_bit (by omega) (by omega)] at e
      simp only [em_cd, cond_true, b2_z, h8] at e
      rw [if_neg q, if_pos True.intro] at e
      have e2 : f_Parting_findHeads_7 w p i M = f_Parting_findHeads_52 w p i (if tb (M w 2) i = true then x_or L (M 127 9) else L) M := by
        by_cases c : tb (M w 2) i = true
        · rw [e, if_neg (fun z => z c), if_pos c, if_neg (by omega)]
        · rw [e, if_pos c, if_neg c]
      generalize hq : (if tb (M w 2) i = true then x_or L (M 127 9) else L) = sL at e2
      have e3 := q_Parting_findHeads_52 w p i sL M
      rw [isO_law hw] at e3
      simp only [em_cd, cond_true, hK] at e3
      rw [x32_s (x := i + 1) (by omega) (by omega)] at e3
      have fin : ∀ v, ((i < K → v = N 491 i) ∧ (K ≤ i → v = 0)) → f_Parting_findHeads_7 w p i M = f_Parting_findHeads_7 w p (i + 1) (xup (xup M 128 i v) 127 10 (x_or ((xup M 128 i v) 127 10) ((xup M 128 i v) 128 i))) → ∃ M', f_Parting_findHeads_7 w p i M = some (0, M') ∧ (∀ c j, ¬ (c = 128 ∨ (c = 127 ∧ j = 10)) → M' c j = M c j) ∧ hsC M' N K 20 := fun v hv z => by
        rw [xup_eq, xup_ne (show ¬ ((127 : Int) = 128 ∧ (10 : Int) = i) by omega)] at z
        generalize hX : xup (xup M 128 i v) 127 10 (x_or (M 127 10) v) = X at z
        have fX : ∀ a j, ¬ ((a = 128 ∧ j = i) ∨ (a = 127 ∧ j = 10)) → X a j = M a j := fun a j ha => by rw [← hX, xup_ne (by omega), xup_ne (by omega)]
        have vX : X 128 i = v ∧ X 127 10 = x_or (M 127 10) v := by rw [← hX, xup_eq, xup_ne (by omega), xup_eq]; exact ⟨rfl, rfl⟩
        have hwne : ¬ w = 128 ∧ ¬ w = 127 := by omega
        obtain ⟨M', h1, h2, h3⟩ := ih (i + 1) X (by rw [fX _ _ (by omega)]; exact h6) (by rw [fX _ _ (by omega)]; exact hK) (by rw [fX _ _ (by omega)]; exact h8) (fun k k0 k1 => by rw [fX w 2 (by omega)]; exact h449 k k0 k1) (fun k k0 k1 => by rw [fX (31 + k) p (by omega)]; exact h489 k k0 k1) (by rw [fX _ _ (by omega)]; exact h9) (by omega) (by omega) ⟨fun k k0 k1 k2 => by
          by_cases ki : k = i
          · rw [ki, vX.1]; exact hv
          · rw [fX _ _ (by omega)]; exact hC.1 k k0 (by omega) k2, by
          rw [vX.2]
          have mv : mk v (fun x => i < K ∧ tb (N 491 i) x = true) := by
            by_cases c : i < K
            · rw [hv.1 c]
              exact (hN i i0 c).self.cong (fun x _ _ => ⟨fun z => ⟨c, z⟩, fun z => z.2⟩)
            · rw [hv.2 (by omega)]
              exact mk_0.cong (fun x _ _ => ⟨fun z => z.elim, fun z => c z.1⟩)
          refine (hC.2.or mv).cong (fun x _ _ => ?_)
          constructor
          · rintro (⟨k, a, b, c, d⟩ | ⟨c, d⟩)
            · exact ⟨k, a, by omega, c, d⟩
            · exact ⟨i, i0, by omega, c, d⟩
          · rintro ⟨k, a, b, c, d⟩
            by_cases ki : k = i
            · rw [ki] at c d
              exact Or.inr ⟨c, d⟩
            · exact Or.inl ⟨k, a, by omega, c, d⟩⟩
        exact ⟨M', z.trans h1, fun c j hc => by rw [h2 c j hc, fX c j (by omega)], h3⟩
      by_cases c : K ≤ i
      · rw [if_pos c, if_pos (by omega), if_pos (by omega)] at e3
        exact fin 0 ⟨fun z => by omega, fun _ => rfl⟩ (e2.trans e3)
      · rw [if_neg c, f_kinOf (by omega) i0 (by omega) p0 (by omega)] at e3
        simp only [Option.bind_some] at e3
        rw [if_pos (by omega), if_pos (by omega)] at e3
        refine fin _ ⟨fun _ => ?_, fun z => by omega⟩ (e2.trans e3)
        obtain ⟨g1, g2⟩ := h489 i i0 (by omega)
        have g3 := h449 i i0 (by omega)
        refine mk.one (S := fun x => x < n ∧ hd N t p s i x) ?_ (hN i i0 (by omega))
        unfold hd
        rw [g1, g3, ← hq]
        by_cases b : tb (M w 2) i = true
        · rw [if_pos b]
          refine (g2.and (hL.or h9)).cong (fun x x0 x1 => ?_)
          rw [b2_t b]
          constructor
          · rintro ⟨a, c | c⟩
            · exact ⟨c.1, a, Or.inl c.2⟩
            · exact ⟨c.2.1, a, Or.inr ⟨by omega, c.2.2.2⟩⟩
          · rintro ⟨a, b, c⟩
            refine ⟨b, ?_⟩
            by_cases l : lvs N t x
            · exact Or.inl ⟨a, l⟩
            · rcases c with c | c
              · exact absurd c l
              · exact Or.inr ⟨x0, a, l, c.2⟩
        · rw [if_neg b]
          refine (g2.and hL).cong (fun x x0 x1 => ?_)
          rw [b2_f b]
          constructor
          · rintro ⟨a, c⟩
            exact ⟨c.1, a, Or.inl c.2⟩
          · rintro ⟨a, b, c⟩
            rcases c with c | c
            · exact ⟨b, a, c⟩
            · exact absurd rfl c.1
/-! barred -/
/-- what stands for x when the rules below r are done -/
def cb (M N : em_M) (s p r x : Int) : Prop := (tb (M 127 11) x = true ↔ ∃ q, 0 ≤ q ∧ q < r ∧ brs N s p q x) ∧ (tb (M 127 11) x = true → (0 ≤ M 129 x ∧ M 129 x < r) ∧ brs N s p (M 129 x) x ∧ ∀ q, 0 ≤ q → q < M 129 x → ¬ brs N s p q x)
theorem cb_no {s p r x : Int} (h : cb M N s p r x) (hn : ¬ brs N s p r x) : cb M N s p (r + 1) x := by
  refine ⟨h.1.trans ⟨fun ⟨q, a, b, c⟩ => ⟨q, a, by omega, c⟩, fun ⟨q, a, b, c⟩ => ⟨q, a, ?_, c⟩⟩, fun z => ?_⟩
  · by_cases qr : q = r
    · rw [qr] at c
      exact absurd c hn
    · omega
  · obtain ⟨⟨a, b⟩, c, d⟩ := h.2 z
    exact ⟨⟨a, by omega⟩, c, d⟩
theorem f_barBy {s p r B S2 : Int} (r0 : 0 ≤ r) (r1 : r < 30) (hB : mk B (fun x => tb B x = true)) (hbr : ∀ x, 0 ≤ x → x < 30 → (brs N s p r x ↔ tb S2 x = true ∧ ∃ y, 0 ≤ y ∧ y < 30 ∧ tb B y = true ∧ ¬ y = x)) : ∀ (m : Nat) (c : Int) (M : em_M), 0 ≤ c → 30 - c ≤ m → mk (M 127 11) (fun x => tb (M 127 11) x = true) → (∀ x, 0 ≤ x → x < 30 → cb M N s p (if x < c then r + 1 else r) x) → ∃ M', f_Parting_barBy_3 r B S2 c M = some (0, M') ∧ (∀ a j, ¬ (a = 129 ∨ (a = 127 ∧ j = 11)) → M' a j = M a j) ∧ mk (M' 127 11) (fun x => tb (M' 127 11) x = true) ∧ ∀ x, 0 ≤ x → x < 30 → cb M' N s p (r + 1) x := by
  intro m
  induction m with
  | zero =>
    intro c M c0 hm h11 hx
    refine ⟨M, ?_, fun _ _ _ => rfl, h11, fun x x0 x1 => by have := hx x x0 x1; rw [if_pos (by omega)] at this; exact this⟩
    rw [q_Parting_barBy_3, em_cd, if_pos (by omega)]
  | succ m ih =>
    intro c M c0 hm h11 hx
    by_cases q : 30 ≤ c
    · refine ⟨M, ?_, fun _ _ _ => rfl, h11, fun x x0 x1 => by have := hx x x0 x1; rw [if_pos (by omega)] at this; exact this⟩
      rw [q_Parting_barBy_3, em_cd, if_pos q]
    · have hm1 := hB.minus (w := x_shl 1 c) (T := fun x => x = c) (fun x x0 x1 => by rw [tb_shl1 c0 (by omega) x0 (by omega), decide_eq_true_eq])
      have hz := hm1.zero
      have hxc := hx c c0 (by omega)
      rw [if_neg (by omega)] at hxc
      have e := q_Parting_barBy_3 r B S2 c M
      simp only [em_cd] at e
      rw [if_neg q] at e
      have e26 := q_Parting_barBy_26 r B S2 c 1 M
      rw [f_holds] at e26
      simp only [em_cd, Option.bind_some, b2_z, f_holds] at e26
      rw [if_neg (show ¬ (1 : Int) = 0 by omega), x32_s (by omega) (by omega)] at e26
      have e26b := q_Parting_barBy_26 r B S2 c 0 M
      simp only [em_cd, if_true] at e26b
      rw [x32_s (by omega) (by omega)] at e26b
      have same : cb M N s p (r + 1) c → f_Parting_barBy_3 r B S2 c M = f_Parting_barBy_3 r B S2 (c + 1) M → ∃ M', f_Parting_barBy_3 r B S2 c M = some (0, M') ∧ (∀ a j, ¬ (a = 129 ∨ (a = 127 ∧ j = 11)) → M' a j = M a j) ∧ mk (M' 127 11) (fun x => tb (M' 127 11) x = true) ∧ ∀ x, 0 ≤ x → x < 30 → cb M' N s p (r + 1) x := fun z1 z2 => by
        obtain ⟨M', h1, h2, h3, h4⟩ := ih (c + 1) M (by omega) (by omega) h11 (fun x x0 x1 => by
          by_cases xc : x = c
          · rw [xc, if_pos (by omega)]; exact z1
          · have hxx := hx x x0 x1
            by_cases xl : x < c
            · rw [if_pos xl] at hxx
              rw [if_pos (by omega)]
              exact hxx
            · rw [if_neg xl] at hxx
              rw [if_neg (by omega)]
              exact hxx)
        exact ⟨M', z2.trans h1, h2, h3, h4⟩
      by_cases f1 : x_and B (x_xor (x_shl 1 c) (-1)) = 0
      · rw [if_pos f1, e26b] at e
        refine same (cb_no hxc (fun z => ?_)) e
        obtain ⟨-, y, y0, y1, y2, y3⟩ := (hbr c c0 (by omega)).mp z
        exact hz.mp f1 y y0 y1 ⟨y2, y3⟩
      · rw [if_neg f1, e26] at e
        by_cases f2 : tb S2 c = true
        · rw [if_neg (fun z => z ⟨c0, by omega, f2⟩)] at e
          have hb : brs N s p r c := (hbr c c0 (by omega)).mpr ⟨f2, Classical.byContradiction (fun w => f1 (hz.mpr (fun y y0 y1 y2 => w ⟨y, y0, y1, y2.1, y2.2⟩)))⟩
          by_cases f3 : tb (M 127 11) c = true
          · rw [if_pos (fun z => z ⟨c0, by omega, f3⟩)] at e
            refine same ⟨hxc.1.trans ⟨fun ⟨q, a, b, d⟩ => ⟨q, a, by omega, d⟩, fun _ => hxc.1.mp f3⟩, fun z => ?_⟩ e
            obtain ⟨⟨a, b⟩, d, g⟩ := hxc.2 z
            exact ⟨⟨a, by omega⟩, d, g⟩
          · rw [if_neg (fun z => z (fun w => f3 w.2.2)), if_pos (by omega)] at e
            generalize hX : xup (xup M 127 11 (x_or (M 127 11) (x_shl 1 c))) 129 c r = X at e
            have fX : ∀ a j, ¬ ((a = 127 ∧ j = 11) ∨ (a = 129 ∧ j = c)) → X a j = M a j := fun a j ha => by rw [← hX, xup_ne (by omega), xup_ne (by omega)]
            have vX : X 127 11 = x_or (M 127 11) (x_shl 1 c) ∧ X 129 c = r := by rw [← hX, xup_ne (by omega), xup_eq, xup_eq]; exact ⟨rfl, rfl⟩
            have m11 : mk (X 127 11) (fun x => tb (M 127 11) x = true ∨ x = c) := by rw [vX.1]; exact h11.or (mk_bit c0 (by omega))
            obtain ⟨M', h1, h2, h3, h4⟩ := ih (c + 1) X (by omega) (by omega) m11.self (fun x x0 x1 => by
              have t1 := m11.at_ x0 x1
              by_cases xc : x = c
              · rw [xc, if_pos (by omega)]
                rw [xc] at t1
                have t2 : tb (X 127 11) c = true := t1.mpr (Or.inr rfl)
                refine ⟨⟨fun _ => ⟨r, r0, by omega, hb⟩, fun _ => t2⟩, fun _ => ?_⟩
                rw [vX.2]
                exact ⟨⟨r0, by omega⟩, hb, fun q q0 q1 z => f3 (hxc.1.mpr ⟨q, q0, q1, z⟩)⟩
              · have hxx := hx x x0 x1
                have t3 : tb (X 127 11) x = true ↔ tb (M 127 11) x = true := t1.trans ⟨fun z => z.elim id (fun z => absurd z xc), Or.inl⟩
                unfold cb at hxx ⊢
                rw [t3, fX 129 x (by omega)]
                by_cases xl : x < c
                · rw [if_pos xl] at hxx
                  rw [if_pos (by omega)]
                  exact hxx
                · rw [if_neg xl] at hxx
                  rw [if_neg (by omega)]
                  exact hxx)
            exact ⟨M', e.trans h1, fun a j ha => by rw [h2 a j ha, fX a j (by omega)], h3, h4⟩
        · rw [if_pos (fun z => f2 z.2.2)] at e
          exact same (cb_no hxc (fun z => f2 ((hbr c c0 (by omega)).mp z).1)) e
end
