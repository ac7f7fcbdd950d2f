/-! PARTING: the reference's heads, and who is barred. -/
section
variable {M N : em_M}
/-- x is a head of the kin k of p -/
def hd (N : em_M) (t p s k x : Int) : Prop := tb (N 489 (30 * k + p)) x = true ∧ (lvs N t x ∨ (¬ N 449 (20 * s + k) = 0 ∧ ¬ N 490 x = 0))
theorem m_h150 {t p s n k : Int} (hn : n ≤ 30) (hs : s = 0 ∨ s = 1) (k0 : 0 ≤ k) (k1 : k < 20) : ∀ (m : Nat) (c : Int) (N : em_M) (S : Int → Prop), N 439 47 = n → N 439 75 = t → N 439 17 = s → mk (N 491 k) S → 0 ≤ c → n - c ≤ m → ∃ N', f_Model_findsHeads_150 k (N 489 (30 * k + p)) c N = f_Model_findsHeads_113 (k + 1) N' ∧ (∀ a j, ¬ (a = 491 ∧ j = k) → N' a j = N a j) ∧ mk (N' 491 k) (fun x => S x ∨ (c ≤ x ∧ x < n ∧ hd N t p s k x)) := by
  intro m
  induction m with
  | zero =>
    intro c N S h47 ht h17 hS c0 hm
    refine ⟨N, ?_, fun _ _ _ => rfl, hS.cong (fun x _ _ => ⟨Or.inl, fun z => z.elim id (fun z => by omega)⟩)⟩
    rw [q_Model_findsHeads_150, em_cd, if_pos (by omega), x32_s (by omega) (by omega)]
  | succ m ih =>
    intro c N S h47 ht h17 hS c0 hm
    by_cases q : n ≤ c
    · refine ⟨N, ?_, fun _ _ _ => rfl, hS.cong (fun x _ _ => ⟨Or.inl, fun z => z.elim id (fun z => by omega)⟩)⟩
      rw [q_Model_findsHeads_150, em_cd, if_pos (by omega), x32_s (by omega) (by omega)]
    · have e := q_Model_findsHeads_150 k (N 489 (30 * k + p)) c N
      rw [f_Mhas N c0 (by omega)] at e
      simp only [em_cd, Option.bind_some, b2_z] at e
      rw [if_neg (by omega), x32_s (x := c + 1) (by omega) (by omega)] at e
      have no : ¬ hd N t p s k c → f_Model_findsHeads_150 k (N 489 (30 * k + p)) c N = f_Model_findsHeads_150 k (N 489 (30 * k + p)) (c + 1) N → ∃ N', f_Model_findsHeads_150 k (N 489 (30 * k + p)) c N = f_Model_findsHeads_113 (k + 1) N' ∧ (∀ a j, ¬ (a = 491 ∧ j = k) → N' a j = N a j) ∧ mk (N' 491 k) (fun x => S x ∨ (c ≤ x ∧ x < n ∧ hd N t p s k x)) := fun z1 z2 => by
        obtain ⟨N', h1, h2, h3⟩ := ih (c + 1) N S h47 ht h17 hS (by omega) (by omega)
        refine ⟨N', z2.trans h1, h2, h3.cong (fun x _ _ => ⟨fun z => z.imp id (fun ⟨x0, x2⟩ => ⟨by omega, x2⟩), fun z => z.imp id (fun ⟨x0, x1, x2⟩ => ⟨?_, x1, x2⟩)⟩)⟩
        by_cases xc : x = c
        · rw [xc] at x2
          exact absurd x2 z1
        · omega
      have yes : hd N t p s k c → f_Model_findsHeads_150 k (N 489 (30 * k + p)) c N = f_Model_findsHeads_150 k (N 489 (30 * k + p)) (c + 1) (xup N 491 k (x_or (N 491 k) (x_shl 1 c))) → ∃ N', f_Model_findsHeads_150 k (N 489 (30 * k + p)) c N = f_Model_findsHeads_113 (k + 1) N' ∧ (∀ a j, ¬ (a = 491 ∧ j = k) → N' a j = N a j) ∧ mk (N' 491 k) (fun x => S x ∨ (c ≤ x ∧ x < n ∧ hd N t p s k x)) := fun z1 z2 => by
        generalize hX : xup N 491 k (x_or (N 491 k) (x_shl 1 c)) = X at z2
        have fX : ∀ a j, ¬ (a = 491 ∧ j = k) → X a j = N a j := fun a j ha => by rw [← hX, xup_ne ha]
        have vX : X 491 k = x_or (N 491 k) (x_shl 1 c) := by rw [← hX, xup_eq]
        obtain ⟨N', h1, h2, h3⟩ := ih (c + 1) X (fun x => S x ∨ x = c) (by rw [fX _ _ (by omega)]; exact h47) (by rw [fX _ _ (by omega)]; exact ht) (by rw [fX _ _ (by omega)]; exact h17) (by rw [vX]; exact hS.or (mk_bit c0 (by omega))) (by omega) (by omega)
        rw [fX _ _ (by omega)] at h1
        refine ⟨N', z2.trans h1, fun a j ha => by rw [h2 a j ha, fX a j ha], h3.cong (fun x _ _ => ?_)⟩
        have hx : hd X t p s k x ↔ hd N t p s k x := by
          unfold hd lvs
          rw [fX 489 _ (by omega), fX 471 _ (by omega), fX 472 _ (by omega), fX 449 _ (by omega), fX 490 _ (by omega)]
        rw [hx]
        constructor
        · rintro ((z | z) | z)
          · exact Or.inl z
          · refine Or.inr ⟨by omega, by omega, ?_⟩
            rw [z]; exact z1
          · exact Or.inr ⟨by omega, z.2⟩
        · rintro (z | z)
          · exact Or.inl (Or.inl z)
          · by_cases r : x = c
            · exact Or.inl (Or.inr r)
            · exact Or.inr ⟨by omega, z.2⟩
      by_cases f1 : tb (N 489 (30 * k + p)) c = true
      · rw [if_neg (fun z => z f1)] at e
        rcases m_lives (N := N) (x := c) (t := t) c0 (by omega) with ⟨l1, l2⟩ | ⟨l1, l2⟩
        · rw [ht, l2] at e
          simp only [Option.bind_some] at e
          rw [if_pos (by omega), if_pos (by omega), if_pos (by omega)] at e
          exact yes ⟨f1, Or.inl l1⟩ e
        · rw [ht, l2] at e
          simp only [Option.bind_some, eq_self, not_true_eq_false, if_false, h17] at e
          rw [x32_s (x := 20 * s) (by omega) (by omega), x32_s (by omega) (by omega), if_pos (by omega)] at e
          by_cases b1 : N 449 (20 * s + k) = 0
          · rw [if_pos b1] at e
            exact no (fun z => z.2.elim l1 (fun z => z.1 b1)) e
          · rw [if_neg b1, if_pos (by omega)] at e
            by_cases b2 : N 490 c = 0
            · rw [if_pos b2] at e
              exact no (fun z => z.2.elim l1 (fun z => z.2 b2)) e
            · rw [if_neg b2, if_pos (by omega), if_pos (by omega)] at e
              exact yes ⟨f1, Or.inr ⟨b1, b2⟩⟩ e
      · rw [if_pos f1] at e
        exact no (fun z => f1 z.1) e
theorem m_h113 {t p s n K : Int} (n0 : 0 ≤ n) (hn : n ≤ 30) (hs : s = 0 ∨ s = 1) (K1 : K ≤ 20) (p0 : 0 ≤ p) (p1 : p < 30) : ∀ (m : Nat) (k : Int) (N : em_M), N 439 47 = n → N 439 75 = t → N 439 74 = p → N 439 17 = s → N 447 s = K → 0 ≤ k → K - k ≤ m → (∀ k', 0 ≤ k' → k' < k → k' < K → mk (N 491 k') (fun x => x < n ∧ hd N t p s k' x)) → ∃ N', f_Model_findsHeads_113 k N = f_Model_findsHeads_235 0 (xup N' 439 78 0) ∧ (∀ a j, ¬ a = 491 → N' a j = N a j) ∧ ∀ k', 0 ≤ k' → k' < K → mk (N' 491 k') (fun x => x < n ∧ hd N' t p s k' x) := by
  intro m
  induction m with
  | zero =>
    intro k N h47 ht hp h17 hK k0 hm hh
    refine ⟨N, ?_, fun _ _ _ => rfl, fun k' z0 z1 => hh k' z0 (by omega) z1⟩
    rw [q_Model_findsHeads_113]
    simp only [em_cd, h17, hK]
    rw [if_pos (by omega), if_pos (by omega)]
  | succ m ih =>
    intro k N h47 ht hp h17 hK k0 hm hh
    have e := q_Model_findsHeads_113 k N
    simp only [em_cd, h17, hK, hp] at e
    rw [if_pos (by omega)] at e
    by_cases q : K ≤ k
    · rw [if_pos q] at e
      exact ⟨N, e, fun _ _ _ => rfl, fun k' z0 z1 => hh k' z0 (by omega) z1⟩
    · rw [if_neg q, x32_s (x := 30 * k) (by omega) (by omega), x32_s (by omega) (by omega), if_pos (by omega), if_pos (by omega)] at e
      generalize hX : xup N 491 k 0 = X at e
      have fX : ∀ a j, ¬ (a = 491 ∧ j = k) → X a j = N a j := fun a j ha => by rw [← hX, xup_ne ha]
      have vX : X 491 k = 0 := by rw [← hX, xup_eq]
      obtain ⟨A, a1, a2, a3⟩ := m_h150 (t := t) (p := p) (s := s) (n := n) hn hs k0 (by omega) 30 0 X (fun _ => False) (by rw [fX _ _ (by omega)]; exact h47) (by rw [fX _ _ (by omega)]; exact ht) (by rw [fX _ _ (by omega)]; exact h17) (by rw [vX]; exact mk_0) (by omega) (by omega)
      rw [fX 489 _ (by omega)] at a1
      have fA : ∀ a j, ¬ (a = 491 ∧ j = k) → A a j = N a j := fun a j ha => by rw [a2 a j ha, fX a j ha]
      have hx : ∀ k' x, hd A t p s k' x ↔ hd N t p s k' x := fun k' x => by
        unfold hd lvs
        rw [fA 489 _ (by omega), fA 471 _ (by omega), fA 472 _ (by omega), fA 449 _ (by omega), fA 490 _ (by omega)]
      have hx2 : ∀ k' x, hd X t p s k' x ↔ hd N t p s k' x := fun k' x => by
        unfold hd lvs
        rw [fX 489 _ (by omega), fX 471 _ (by omega), fX 472 _ (by omega), fX 449 _ (by omega), fX 490 _ (by omega)]
      obtain ⟨N', h1, h2, h3⟩ := ih (k + 1) A (by rw [fA _ _ (by omega)]; exact h47) (by rw [fA _ _ (by omega)]; exact ht) (by rw [fA _ _ (by omega)]; exact hp) (by rw [fA _ _ (by omega)]; exact h17) (by rw [fA _ _ (by omega)]; exact hK) (by omega) (by omega) (fun k' z0 z1 z2 => by
        by_cases kk : k' = k
        · rw [kk]
          exact a3.cong (fun x x0 _ => ⟨fun z => z.elim (fun z => z.elim) (fun z => ⟨z.2.1, (hx _ _).mpr ((hx2 _ _).mp z.2.2)⟩), fun z => Or.inr ⟨x0, z.1, (hx2 _ _).mpr ((hx _ _).mp z.2)⟩⟩)
        · rw [fA 491 k' (by omega)]
          exact (hh k' z0 (by omega) z2).cong (fun x _ _ => ⟨fun z => ⟨z.1, (hx _ _).mpr z.2⟩, fun z => ⟨z.1, (hx _ _).mp z.2⟩⟩))
      exact ⟨N', e.trans (a1.trans h1), fun a j ha => by rw [h2 a j ha, fA a j (by omega)], h3⟩
/-- by the rule r, x is barred -/
def brs (N : em_M) (s p r x : Int) : Prop := N 455 (30 * s + r) = 1 ∧ tb (N 489 (30 * N 457 (30 * s + r) + p)) x = true ∧ ∃ y, 0 ≤ y ∧ y < 30 ∧ tb (N 491 (N 456 (30 * s + r))) y = true ∧ ¬ y = x
/-- what stands for x when the rules from lo on are done -/
def bx (N0 N : em_M) (s p R lo x : Int) : Prop := (N 492 x = -1 ∧ ∀ q, lo ≤ q → q < R → ¬ brs N0 s p q x) ∨ (lo ≤ N 492 x ∧ N 492 x < R ∧ brs N0 s p (N 492 x) x ∧ ∀ q, lo ≤ q → q < N 492 x → ¬ brs N0 s p q x)
def bF (N0 N : em_M) : Prop := ∀ a j, ¬ (a = 492 ∨ (a = 439 ∧ j = 78)) → N a j = N0 a j
theorem m_b235 {n s R : Int} (hn : n ≤ 30) (hs : s = 0 ∨ s = 1) : ∀ (m : Nat) (c : Int) (N : em_M), N 439 47 = n → N 439 17 = s → N 454 s = R → 0 ≤ R → R ≤ 30 → 0 ≤ c → n - c ≤ m → (∀ x, 0 ≤ x → x < c → x < n → N 492 x = -1) → ∃ N', f_Model_findsHeads_235 c N = f_Model_findsHeads_276 (30 * s + R - 1) N' ∧ (∀ a j, ¬ a = 492 → N' a j = N a j) ∧ ∀ x, 0 ≤ x → x < n → N' 492 x = -1 := by
  intro m
  induction m with
  | zero =>
    intro c N h47 h17 hR R0 R1 c0 hm hx
    refine ⟨N, ?_, fun _ _ _ => rfl, fun x x0 x1 => hx x x0 (by omega) x1⟩
    rw [q_Model_findsHeads_235]
    simp only [em_cd, h17, hR]
    rw [if_pos (by omega), if_pos (by omega), x32_s (x := 30 * s) (by omega) (by omega), x32_s (x := 30 * s + R) (by omega) (by omega), x32_s (by omega) (by omega)]
  | succ m ih =>
    intro c N h47 h17 hR R0 R1 c0 hm hx
    have e := q_Model_findsHeads_235 c N
    simp only [em_cd, h17, hR] at e
    by_cases q : n ≤ c
    · refine ⟨N, ?_, fun _ _ _ => rfl, fun x x0 x1 => hx x x0 (by omega) x1⟩
      rw [e, if_pos (by omega), if_pos (by omega), x32_s (x := 30 * s) (by omega) (by omega), x32_s (x := 30 * s + R) (by omega) (by omega), x32_s (by omega) (by omega)]
    · rw [if_neg (by omega), if_pos (by omega), x32_s (by omega) (by omega)] at e
      obtain ⟨N', h1, h2, h3⟩ := ih (c + 1) (xup N 492 c (-1)) (by rw [xup_ne (by omega)]; exact h47) (by rw [xup_ne (by omega)]; exact h17) (by rw [xup_ne (by omega)]; exact hR) R0 R1 (by omega) (by omega) (fun x x0 x1 x2 => by
        by_cases xc : x = c
        · rw [xc, xup_eq]
        · rw [xup_ne (by omega)]
          exact hx x x0 (by omega) x2)
      exact ⟨N', e.trans h1, fun a j ha => by rw [h2 a j ha, xup_ne (by omega)], h3⟩
theorem m_b302 {N0 : em_M} {n s p R r : Int} (hn : n ≤ 30) (hs : s = 0 ∨ s = 1) (p0 : 0 ≤ p) (p1 : p < 30) (r0 : 0 ≤ r) (r1 : r < R) (R1 : R ≤ 30) (h47 : N0 439 47 = n) (h17 : N0 439 17 = s) (hp : N0 439 74 = p) (hk : N0 455 (30 * s + r) = 1) (h6 : 0 ≤ N0 456 (30 * s + r) ∧ N0 456 (30 * s + r) < 20) (h7 : 0 ≤ N0 457 (30 * s + r) ∧ N0 457 (30 * s + r) < 20) (hh : mk (N0 491 (N0 456 (30 * s + r))) (fun x => tb (N0 491 (N0 456 (30 * s + r))) x = true)) : ∀ (m : Nat) (c : Int) (N : em_M), bF N0 N → 0 ≤ c → n - c ≤ m → mk (N 439 78) (fun x => x < n ∧ ¬ N 492 x = -1) → (∀ x, 0 ≤ x → x < n → bx N0 N s p R (if x < c then r else r + 1) x) → ∃ N', f_Model_findsHeads_302 (30 * s + r) c N = f_Model_findsHeads_276 (30 * s + r - 1) N' ∧ bF N0 N' ∧ mk (N' 439 78) (fun x => x < n ∧ ¬ N' 492 x = -1) ∧ ∀ x, 0 ≤ x → x < n → bx N0 N' s p R r x := by
  intro m
  induction m with
  | zero =>
    intro c N hF c0 hm h78 hx
    refine ⟨N, ?_, hF, h78, fun x x0 x1 => by have := hx x x0 x1; rw [if_pos (by omega)] at this; exact this⟩
    rw [q_Model_findsHeads_302, em_cd, if_pos (by rw [hF _ _ (by omega)]; omega), x32_s (by omega) (by omega), Int.sub_eq_add_neg]
  | succ m ih =>
    intro c N hF c0 hm h78 hx
    have e := q_Model_findsHeads_302 (30 * s + r) c N
    rw [hF 439 47 (by omega), hF 457 _ (by omega), hF 489 _ (by omega), hF 439 74 (by omega), hp, h47] at e
    by_cases q : n ≤ c
    · refine ⟨N, ?_, hF, h78, fun x x0 x1 => by have := hx x x0 x1; rw [if_pos (by omega)] at this; exact this⟩
      rw [e, em_cd, if_pos (by omega), x32_s (by omega) (by omega), Int.sub_eq_add_neg]
    · rw [x32_s (x := 30 * N0 457 (30 * s + r)) (by omega) (by omega), x32_s (x := 30 * N0 457 (30 * s + r) + p) (by omega) (by omega), x32_s (x := c + 1) (by omega) (by omega), f_Mhas N c0 (by omega)] at e
      simp only [em_cd, Option.bind_some, b2_z, hF 456 _ (show ¬ ((456 : Int) = 492 ∨ ((456 : Int) = 439 ∧ (30 * s + r) = 78)) by omega)] at e
      rw [hF 491 _ (by omega)] at e
      rw [if_neg (by omega), if_pos (by omega), if_pos (by omega)] at e
      have hm1 := hh.minus (w := x_shl 1 c) (T := fun x => x = c) (fun x x0 x1 => by rw [tb_shl1 c0 (by omega) x0 (by omega), decide_eq_true_eq])
      have hz := hm1.zero
      have br : brs N0 s p r c ↔ tb (N0 489 (30 * N0 457 (30 * s + r) + p)) c = true ∧ ¬ x_and (N0 491 (N0 456 (30 * s + r))) (x_xor (x_shl 1 c) (-1)) = 0 := by
        unfold brs
        constructor
        · rintro ⟨-, b, y, y0, y1, y2, y3⟩
          exact ⟨b, fun z => (hz.mp z) y y0 y1 ⟨y2, y3⟩⟩
        · rintro ⟨b, z⟩
          refine ⟨hk, b, ?_⟩
          refine Classical.byContradiction (fun w => z (hz.mpr (fun y y0 y1 y2 => w ⟨y, y0, y1, y2.1, y2.2⟩)))
      have no : ¬ brs N0 s p r c → f_Model_findsHeads_302 (30 * s + r) c N = f_Model_findsHeads_302 (30 * s + r) (c + 1) N → ∃ N', f_Model_findsHeads_302 (30 * s + r) c N = f_Model_findsHeads_276 (30 * s + r - 1) N' ∧ bF N0 N' ∧ mk (N' 439 78) (fun x => x < n ∧ ¬ N' 492 x = -1) ∧ ∀ x, 0 ≤ x → x < n → bx N0 N' s p R r x := fun z1 z2 => by
        obtain ⟨N', h1, h2, h3, h4⟩ := ih (c + 1) N hF (by omega) (by omega) h78 (fun x x0 x1 => by
          have hxx := hx x x0 x1
          by_cases xc : x = c
          · rw [if_neg (by omega)] at hxx
            rw [if_pos (by omega)]
            rw [← xc] at z1
            rcases hxx with ⟨y1, y2⟩ | ⟨y1, y2, y3, y4⟩
            · refine Or.inl ⟨y1, fun q q0 q1 => ?_⟩
              by_cases qr : q = r
              · rw [qr]; exact z1
              · exact y2 q (by omega) q1
            · refine Or.inr ⟨by omega, y2, y3, fun q q0 q1 => ?_⟩
              by_cases qr : q = r
              · rw [qr]; exact z1
              · exact y4 q (by omega) q1
          · by_cases xl : x < c
            · rw [if_pos xl] at hxx
              rw [if_pos (by omega)]
              exact hxx
            · rw [if_neg xl] at hxx
              rw [if_neg (by omega)]
              exact hxx)
        exact ⟨N', z2.trans h1, h2, h3, h4⟩
      by_cases f1 : tb (N0 489 (30 * N0 457 (30 * s + r) + p)) c = true
      · rw [if_neg (fun z => z f1), if_pos (by omega), if_pos (by omega)] at e
        by_cases f2 : x_and (N0 491 (N0 456 (30 * s + r))) (x_xor (x_shl 1 c) (-1)) = 0
        · rw [if_neg (fun z => z f2)] at e
          exact no (fun z => (br.mp z).2 f2) e
        · rw [if_pos f2, if_pos (by omega)] at e
          have hbr : brs N0 s p r c := br.mpr ⟨f1, f2⟩
          have e17 : (xup N 439 78 (x_or (N 439 78) (x_shl 1 c))) 439 17 = s := by rw [xup_ne (by omega), hF _ _ (by omega)]; exact h17
          rw [e17, x32_s (x := 30 * s) (by omega) (by omega), x32_s (by omega) (by omega), show 30 * s + r - 30 * s = r by omega] at e
          generalize hX : xup (xup N 439 78 (x_or (N 439 78) (x_shl 1 c))) 492 c r = X at e
          have fX : ∀ a j, ¬ ((a = 439 ∧ j = 78) ∨ (a = 492 ∧ j = c)) → X a j = N a j := fun a j ha => by rw [← hX, xup_ne (by omega), xup_ne (by omega)]
          have vX : X 439 78 = x_or (N 439 78) (x_shl 1 c) ∧ X 492 c = r := by rw [← hX, xup_ne (by omega), xup_eq, xup_eq]; exact ⟨rfl, rfl⟩
          obtain ⟨N', h1, h2, h3, h4⟩ := ih (c + 1) X (fun a j ha => by rw [fX a j (by omega), hF a j ha]) (by omega) (by omega) (by
            rw [vX.1]
            refine (h78.or (mk_bit c0 (by omega))).cong (fun x x0 x1 => ?_)
            by_cases xc : x = c
            · rw [xc, vX.2]
              exact ⟨fun _ => ⟨by omega, by omega⟩, fun _ => Or.inr rfl⟩
            · rw [fX 492 x (by omega)]
              exact ⟨fun z => z.elim id (fun z => absurd z xc), Or.inl⟩) (fun x x0 x1 => by
            have hxx := hx x x0 x1
            unfold bx at hxx ⊢
            by_cases xc : x = c
            · rw [xc, vX.2, if_pos (by omega)]
              exact Or.inr ⟨by omega, r1, hbr, fun q q0 q1 => by omega⟩
            · rw [fX 492 x (by omega)]
              by_cases xl : x < c
              · rw [if_pos xl] at hxx
                rw [if_pos (by omega)]
                exact hxx
              · rw [if_neg xl] at hxx
                rw [if_neg (by omega)]
                exact hxx)
          exact ⟨N', e.trans h1, h2, h3, h4⟩
      · rw [if_pos f1] at e
        exact no (fun z => f1 (br.mp z).1) e
theorem m_b276 {N0 : em_M} {n s p R : Int} (n0 : 0 ≤ n) (hn : n ≤ 30) (hs : s = 0 ∨ s = 1) (p0 : 0 ≤ p) (p1 : p < 30) (R1 : R ≤ 30) (h47 : N0 439 47 = n) (h17 : N0 439 17 = s) (hp : N0 439 74 = p) (hr : ∀ r, 0 ≤ r → r < R → N0 455 (30 * s + r) = 1 → (0 ≤ N0 456 (30 * s + r) ∧ N0 456 (30 * s + r) < 20) ∧ (0 ≤ N0 457 (30 * s + r) ∧ N0 457 (30 * s + r) < 20) ∧ mk (N0 491 (N0 456 (30 * s + r))) (fun x => tb (N0 491 (N0 456 (30 * s + r))) x = true)) : ∀ (m : Nat) (r : Int) (N : em_M), bF N0 N → -1 ≤ r → r < R → r + 1 ≤ m → mk (N 439 78) (fun x => x < n ∧ ¬ N 492 x = -1) → (∀ x, 0 ≤ x → x < n → bx N0 N s p R (r + 1) x) → ∃ N', f_Model_findsHeads_276 (30 * s + r) N = some (0, N') ∧ bF N0 N' ∧ mk (N' 439 78) (fun x => x < n ∧ ¬ N' 492 x = -1) ∧ ∀ x, 0 ≤ x → x < n → bx N0 N' s p R 0 x := by
  intro m
  induction m with
  | zero =>
    intro r N hF r0 r1 hm h78 hx
    refine ⟨N, ?_, hF, h78, fun x x0 x1 => by have := hx x x0 x1; rw [show r + 1 = 0 by omega] at this; exact this⟩
    rw [q_Model_findsHeads_276, hF 439 17 (by omega), h17, em_cd, x32_s (by omega) (by omega), if_pos (by omega)]
  | succ m ih =>
    intro r N hF r0 r1 hm h78 hx
    have e := q_Model_findsHeads_276 (30 * s + r) N
    rw [hF 439 17 (by omega), h17, hF 455 _ (by omega)] at e
    simp only [em_cd] at e
    rw [x32_s (x := 30 * s) (by omega) (by omega), x32_s (x := 30 * s + r + (-1)) (by omega) (by omega)] at e
    by_cases q : r < 0
    · refine ⟨N, ?_, hF, h78, fun x x0 x1 => by have := hx x x0 x1; rw [show r + 1 = 0 by omega] at this; exact this⟩
      rw [e, if_pos (by omega)]
    · rw [if_neg (by omega), if_pos (by omega)] at e
      by_cases f : N0 455 (30 * s + r) = 1
      · rw [if_pos f] at e
        obtain ⟨w1, w2, w3⟩ := hr r (by omega) r1 f
        obtain ⟨A, a1, a2, a3, a4⟩ := m_b302 (N0 := N0) (n := n) (R := R) hn hs p0 p1 (by omega : 0 ≤ r) r1 R1 h47 h17 hp f w1 w2 w3 30 0 N hF (by omega) (by omega) h78 (fun x x0 x1 => by rw [if_neg (by omega)]; exact hx x x0 x1)
        obtain ⟨N', h1, h2, h3, h4⟩ := ih (r - 1) A a2 (by omega) (by omega) (by omega) a3 (fun x x0 x1 => by rw [show r - 1 + 1 = r by omega]; exact a4 x x0 x1)
        rw [show 30 * s + r - 1 = 30 * s + (r - 1) by omega] at a1
        exact ⟨N', e.trans (a1.trans h1), h2, h3, h4⟩
      · rw [if_neg f] at e
        obtain ⟨N', h1, h2, h3, h4⟩ := ih (r - 1) N hF (by omega) (by omega) (by omega) h78 (fun x x0 x1 => by
          rw [show r - 1 + 1 = r by omega]
          have nb : ¬ brs N0 s p r x := fun z => f z.1
          rcases hx x x0 x1 with ⟨y1, y2⟩ | ⟨y1, y2, y3, y4⟩
          · refine Or.inl ⟨y1, fun q q0 q1 => ?_⟩
            by_cases qr : q = r
            · rw [qr]; exact nb
            · exact y2 q (by omega) q1
          · refine Or.inr ⟨by omega, y2, y3, fun q q0 q1 => ?_⟩
            by_cases qr : q = r
            · rw [qr]; exact nb
            · exact y4 q (by omega) q1)
        rw [show 30 * s + r + (-1) = 30 * s + (r - 1) by omega] at e
        exact ⟨N', e.trans h1, h2, h3, h4⟩
end
