/-! PARTING: down the lines, the two side by side. -/
section
variable {M N : em_M}
theorem dF.rf (M : em_M) : dF M M := fun _ _ _ => rfl
theorem dG.rf (h : Int) (N : em_M) : dG h N N := fun _ _ _ => rfl
theorem dF.tr {A B C : em_M} (h : dF A B) (k : dF B C) : dF A C := fun c j hc => (k c j hc).trans (h c j hc)
theorem dG.tr {A B C : em_M} {h : Int} (k1 : dG h A B) (k2 : dG h B C) : dG h A C := fun c j hc => (k2 c j hc).trans (k1 c j hc)
theorem dG.up {A B : em_M} {h h' : Int} (k : dG h' A B) (l : h ≤ h') : dG h A B := fun c j hc => k c j (by omega)
/-- at the place h of the stack stands x with the part P -/
def stk (N : em_M) (h x P : Int) : Prop := N 503 h = x ∧ fr_is N P (N 504 h) (N 505 h)
def pB (h : Int) (M N : em_M) (n : Int) (a b : Option (Int × em_M)) : Prop := (∃ M' N', a = some (1, M') ∧ b = f_Model_goesDown_33 h N' ∧ N' 439 44 = 0 ∧ sh M' N' n ∧ dF M M' ∧ dG h N N') ∨ (∃ M' N', a = some (0, M') ∧ b = some (0, N') ∧ N' 439 44 = 1 ∧ dF M M' ∧ dG h N N')
theorem m_33sp {h : Int} (hz : N 439 44 = 1) : f_Model_goesDown_33 h N = some (0, N) := by
  rw [q_Model_goesDown_33]
  simp only [em_cd]
  by_cases c : h ≤ 0
  · rw [if_pos c]
  · rw [if_neg c, if_pos (by omega)]
/-- the living take their share -/
theorem pass_lives {t L n x P h d : Int} {e : Nat} (k : dn M N t L n) (hs : sh M N n) (hz : N 439 44 = 0) (x0 : 0 ≤ x) (x1 : x < n) (hl : lvs N t x) (hst : stk N h x P) (h0 : 0 ≤ h) (h1 : h < 1000) (d0 : 0 ≤ d) (d1 : d ≤ 30) : pB h M N n (f_Parting_passDown (e + 8) x P d M) (f_Model_goesDown_33 (h + 1) N) := by
  obtain ⟨a1, ⟨a2, a3, a4⟩, a5, a6, a7, a8⟩ := id k
  have hx := hs.1 x x0 x1
  have tv : tb L x = true := (a5.at_ x0 (by omega)).mpr ⟨x1, hl⟩
  have e := q_Parting_passDown e x P d M
  rw [a4, f_holds] at e
  simp only [em_cd, Option.bind_some, b2_z, f_plus_eq M (Or.inr hx.1) (Or.inr hst.2.1), xup_eq, f_isSpent, nnz] at e
  rw [if_neg (by omega), if_neg (by omega), if_pos (by omega), if_neg (fun z => z ⟨x0, by omega, tv⟩), if_pos (by omega), if_pos (by omega), if_pos (by omega)] at e
  have eM := q_Model_goesDown_33 (h + 1) N
  simp only [em_cd] at eM
  rw [x32_s (by omega) (by omega), show h + 1 + -1 = h by omega, if_neg (by omega), if_neg (fun z => z hz), if_pos (by omega), hst.1, a3] at eM
  rcases m_lives (N := N) (x := x) (t := t) x0 (by omega) with ⟨l1, l2⟩ | ⟨l1, l2⟩
  · rw [l2] at eM
    simp only [Option.bind_some, q_Model_shares] at eM
    obtain ⟨u, A, g1, ⟨g2, g3, g4⟩⟩ := m_plus' (N := N) (Or.inl hz) hx.1 hst.2.1 hx.2.1 hx.2.2 hst.2.2.1 hst.2.2.2
    simp only [em_cd, g1, Option.bind_some] at eM
    rw [if_neg (by omega), if_pos (by omega), if_pos (by omega), if_pos (by omega), if_pos (by omega), if_pos (by omega), if_pos (by omega)] at eM
    simp only [Option.bind_some] at eM
    generalize hX : xup (xup A 497 x (A 439 45)) 498 x ((xup A 497 x (A 439 45)) 439 46) = X at eM
    have fX : ∀ a j, ¬ ((a = 439 ∧ 44 ≤ j ∧ j ≤ 46) ∨ ((a = 497 ∨ a = 498) ∧ j = x)) → X a j = N a j := fun a j ha => by rw [← hX, xup_ne (by omega), xup_ne (by omega), g4 a j (by omega)]
    have vX : X 497 x = fr_up u ∧ X 498 x = fr_low u := by rw [← hX, xup_ne (by omega), xup_eq, xup_eq, xup_ne (by omega)]; exact g3
    have zX : X 439 44 = A 439 44 := by rw [← hX, xup_ne (by omega), xup_ne (by omega)]
    have gX : dG h N X := fun a j ha => fX a j (by omega)
    rcases g2.zero hz with ⟨y1, y2, y3⟩ | ⟨y1, y2⟩
    · have y4 := y3.1
      rw [if_neg (by omega)] at e
      refine Or.inl ⟨_, X, e, eM, by rw [zX]; exact y1, ⟨fun y y0 yn => ?_, fun y y0 y1 y2 => by
        have yx : ¬ y = x := fun z => by
          rw [z, xup_ne (by omega), a4] at y2
          exact y2 tv
        rw [xup_ne (by omega)] at y2
        rw [xup_ne (by omega)]
        exact hs.2 y y0 y1 y2⟩, fun a j ha => xup_ne (by omega), gX⟩
      by_cases yx : y = x
      · rw [yx, xup_eq, vX.1, vX.2, y2]
        exact ⟨y3, rfl, rfl⟩
      · rw [xup_ne (by omega), fX 497 y (by omega), fX 498 y (by omega)]
        exact hs.1 y y0 yn
    · rw [if_pos (by omega)] at e
      exact Or.inr ⟨_, X, e, eM.trans (m_33sp (by rw [zX]; exact y1)), by rw [zX]; exact y1, fun a j ha => xup_ne (by omega), gX⟩
  · exact absurd hl l1
/-- the class's loop past the persons -/
theorem f_103e {d v each n : Int} {e : Nat} (hv : ∀ y, n ≤ y → y < 30 → ¬ tb v y = true) : ∀ (m : Nat) (c : Int), n ≤ c → 0 ≤ c → 30 - c ≤ m → f_Parting_passDown_103 e d v each c M = some (1, M) := by
  intro m
  induction m with
  | zero =>
    intro c hc c0 hm
    rw [q_Parting_passDown_103, em_cd, if_pos (by omega)]
  | succ m ih =>
    intro c hc c0 hm
    rw [q_Parting_passDown_103, f_holds]
    simp only [em_cd, Option.bind_some, b2_z]
    by_cases z : 30 ≤ c
    · rw [if_pos z]
    · rw [if_neg z, if_pos (fun y => hv c hc (by omega) y.2.2), x32_s (by omega) (by omega)]
      exact ih (c + 1) (by omega) (by omega) (by omega)
/-- the loop over the children, if the way down from each is known -/
theorem pass_loop {t L n x v each h d : Int} {e : Nat} (n0 : 0 ≤ n) (hn : n ≤ 30) (x0 : 0 ≤ x) (x1 : x < n) (h0 : 0 ≤ h) (h1 : h ≤ 30 * x) (d0 : 0 ≤ d) (d1 : d ≤ x) (e0 : 30 - x ≤ e) (e1 : e ≤ 37) (hvx : ∀ y, 0 ≤ y → y < 30 → tb v y = true → x < y ∧ y < n) (IH : ∀ (c h' : Int) (e' : Nat) (d' : Int) (M N : em_M), x < c → c < n → dn M N t L n → sh M N n → N 439 44 = 0 → onl N t c → stk N h' c each → 0 ≤ h' → h' ≤ 30 * c → 30 - c ≤ e' → e' ≤ 37 → 0 ≤ d' → d' ≤ c → pB h' M N n (f_Parting_passDown (e' + 8) c each d' M) (f_Model_goesDown_33 (h' + 1) N)) : ∀ (m : Nat) (c : Int) (M N : em_M), dn M N t L n → sh M N n → N 439 44 = 0 → x < c → c ≤ n → n - c ≤ m → (∀ y, c ≤ y → y < n → tb v y = true → onl N t y ∧ stk N (h + (cnt v n.toNat - cnt v (y + 1).toNat)) y each) → pB h M N n (f_Parting_passDown_103 e d v each c M) (f_Model_goesDown_33 (h + (cnt v n.toNat - cnt v c.toNat)) N) := by
  intro m
  have fin : ∀ (c : Int) (M N : em_M), sh M N n → N 439 44 = 0 → c = n → pB h M N n (f_Parting_passDown_103 e d v each c M) (f_Model_goesDown_33 (h + (cnt v n.toNat - cnt v c.toNat)) N) := fun c M N hs hz hc => by
    refine Or.inl ⟨M, N, f_103e (n := n) (fun y y0 y1 y2 => ?_) 30 c (by omega) (by omega) (by omega), ?_, hz, hs, dF.rf M, dG.rf h N⟩
    · have := hvx y (by omega) y1 y2
      omega
    · rw [hc, Int.sub_self, Int.add_zero]
  induction m with
  | zero =>
    intro c M N k hs hz c0 c1 hm hst
    exact fin c M N hs hz (by omega)
  | succ m ih =>
    intro c M N k hs hz c0 c1 hm hst
    by_cases q : c = n
    · exact fin c M N hs hz q
    · clear fin
      have hstep := cnt_step (v := v) (show 0 ≤ c by omega)
      have hle : cnt v (c + 1).toNat ≤ cnt v n.toNat := cnt_le v (by omega)
      have hr := cnt_rng v n.toNat
      have hr2 := cnt_rng v (c + 1).toNat
      have eC := q_Parting_passDown_103 e d v each c M
      rw [f_holds] at eC
      simp only [em_cd, Option.bind_some, b2_z] at eC
      rw [if_neg (by omega), x32_s (x := c + 1) (by omega) (by omega)] at eC
      by_cases f : tb v c = true
      · rw [if_neg (fun z => z ⟨by omega, by omega, f⟩), dd152 e1, x32_s (by omega) (by omega)] at eC
        rw [b2_t f] at hstep
        obtain ⟨o1, o2⟩ := hst c (by omega) (by omega) f
        obtain ⟨e', he⟩ : ∃ e', e = e' + 1 := ⟨e - 1, by omega⟩
        have hx0 : ∀ z : Nat, z = 0 → cnt v z = 0 := fun z hz => by rw [hz]; rfl
        -- at most 29 stand above
        have hab : cnt v n.toNat - cnt v (c + 1).toNat ≤ 29 := by
          have := (cnt_rng v c.toNat).1
          omega
        have res := IH c (h + (cnt v n.toNat - cnt v (c + 1).toNat)) e' (d + 1) M N c0 (by omega) k hs hz o1 o2 (by omega) (by omega) (by omega) (by omega) (by omega) (by omega)
        rw [show h + (cnt v n.toNat - cnt v (c + 1).toNat) + 1 = h + (cnt v n.toNat - cnt v c.toNat) by omega] at res
        rw [he, show e' + 1 + 7 = e' + 8 by omega] at eC
        rw [he]
        rcases res with ⟨A, B, s1, s2, s3, s4, s5, s6⟩ | ⟨A, B, s1, s2, s3, s5, s6⟩
        · rw [s1] at eC
          simp only [Option.bind_some] at eC
          rw [if_pos (by omega)] at eC
          have s6' : dG h N B := s6.up (by omega)
          have := ih (c + 1) A B (k.fr s5 s6) s4 s3 (by omega) (by omega) (by omega) (fun y y0 y1 y2 => by
            obtain ⟨p1, p2⟩ := hst y (by omega) y1 y2
            have k1 := cnt_step (v := v) (show 0 ≤ y by omega)
            rw [b2_t y2] at k1
            have k2 : cnt v (c + 1).toNat ≤ cnt v y.toNat := cnt_le v (by omega)
            refine ⟨?_, ?_⟩
            · unfold onl lvs at p1 ⊢
              rw [s6 471 _ (by omega), s6 472 _ (by omega), s6 490 _ (by omega)]
              exact p1
            · unfold stk at p2 ⊢
              rw [s6 503 _ (by omega), s6 504 _ (by omega), s6 505 _ (by omega)]
              exact p2)
          rw [he] at this
          rw [eC, s2]
          rcases this with ⟨C, D, r1, r2, r3, r4, r5, r6⟩ | ⟨C, D, r1, r2, r3, r5, r6⟩
          · exact Or.inl ⟨C, D, r1, r2, r3, r4, s5.tr r5, s6'.tr r6⟩
          · exact Or.inr ⟨C, D, r1, r2, r3, s5.tr r5, s6'.tr r6⟩
        · rw [s1] at eC
          simp only [Option.bind_some, eq_self, not_true_eq_false, if_false] at eC
          rw [eC, s2]
          exact Or.inr ⟨A, B, rfl, rfl, s3, s5, s6.up (by omega)⟩
      · rw [if_pos (fun z => f z.2.2)] at eC
        rw [b2_f f] at hstep
        have := ih (c + 1) M N k hs hz (by omega) (by omega) (by omega) (fun y y0 y1 y2 => hst y (by omega) y1 y2)
        rw [eC, show cnt v c.toNat = cnt v (c + 1).toNat by omega]
        exact this
theorem pass_both {t L n : Int} : ∀ (kk : Nat) (x : Int) (e : Nat) (d P h : Int) (M N : em_M), dn M N t L n → sh M N n → N 439 44 = 0 → 0 ≤ x → x < n → onl N t x → stk N h x P → 0 ≤ h → h ≤ 30 * x → 30 - x ≤ kk → 30 - x ≤ e → e ≤ 37 → 0 ≤ d → d ≤ x → pB h M N n (f_Parting_passDown (e + 8) x P d M) (f_Model_goesDown_33 (h + 1) N) := by
  intro kk
  induction kk with
  | zero =>
    intro x e d P h M N k hs hz x0 x1
    have := k.1
    omega
  | succ kk ihk =>
    intro x e d P h M N k hs hz x0 x1 hon hst h0 h1 hk e0 e1 d0 d1
    obtain ⟨⟨n0, hn⟩, ⟨a2, a3, a4⟩, a5, a6, a7, a8⟩ := id k
    rcases m_lives (N := N) (x := x) (t := t) x0 (by omega) with ⟨l1, l2⟩ | ⟨l1, l2⟩
    · exact pass_lives k hs hz x0 x1 l1 hst h0 (by omega) d0 (by omega)
    · have tv : ¬ tb L x = true := fun z => l1 ((a5.at_ x0 (by omega)).mp z).2
      have mv := a6 x x0 x1
      generalize hv : M 132 x = v at mv
      have hvx : ∀ y, 0 ≤ y → y < 30 → tb v y = true → x < y ∧ y < n := fun y y0 y1 y2 => by
        have h := (mv.at_ y0 y1).mp y2
        have hp := a7 y y0 h.1
        refine ⟨?_, h.1⟩
        rcases h.2.1 with z | z <;> omega
      have c30 : cnt v 30 = cnt v n.toNat := by rw [cnt_n mv n0 hn (fun y z => z.1), cnt_sum]
      have cx : cnt v (x + 1).toNat = 0 := by
        rw [cnt_sum, sumI_zero (fun y => b2_rng _)]
        intro y y0 y1
        refine b2_f (fun z => ?_)
        have := hvx y y0 (by omega) z
        omega
      have vz : ¬ v = 0 := fun z => by
        rcases hon with y | y
        · exact l1 y
        · obtain ⟨c, c0, c1, c2⟩ := (a8 x x0 x1).2.mp y
          exact (mv.zero.mp z) c c0 (by omega) ⟨c1, c2⟩
      have cz := cnt_zero mv
      have cr := cnt_rng v 30
      generalize hct : cnt v 30 = ct at cz cr c30
      obtain ⟨oC, C1, C2⟩ := fr_ok_int (v := ct) (by omega) (by omega)
      have eC := q_Parting_passDown e x P d M
      rw [a4, f_holds] at eC
      simp only [em_cd, Option.bind_some, b2_z, hv, f_bitCount mv, hct, f_of_eq M (show -9223372036854775808 ≤ ct by omega) (show ct < 9223372036854775808 by omega) (show (1 : Int) < 9223372036854775808 by omega), fr_of_1 (show 0 ≤ ct by omega) (show ct ≤ 1000000000000 by omega), f_over_eq M (Or.inr hst.2.1) (Or.inr oC), f_isSpent, zzz] at eC
      rw [if_neg (by omega), if_neg (by omega), if_pos (by omega), if_pos (fun z => tv z.2.2), if_pos (by omega), x32_s (by omega) (by omega)] at eC
      have eM := q_Model_goesDown_33 (h + 1) N
      simp only [em_cd] at eM
      rw [x32_s (by omega) (by omega), show h + 1 + -1 = h by omega, if_neg (by omega), if_neg (fun z => z hz), if_pos (by omega), hst.1, a3, l2] at eM
      simp only [Option.bind_some, if_true] at eM
      rw [x32_s (by omega) (by omega), m_94 hn x0 a2 a3 mv 30 (x + 1) 0 (by omega) (by omega) (by omega) (by omega) (by omega), cx, ← c30, Int.sub_zero, Int.zero_add, q_Model_goesDown_94] at eM
      obtain ⟨u, A, g1, ⟨g2, g3, g4⟩⟩ := m_over' (N := N) (c := ct) (d := 1) (Or.inl hz) hst.2.1 oC (by omega) hst.2.2.1 hst.2.2.2 C1.symm C2.symm
      simp only [em_cd, g1, Option.bind_some] at eM
      rw [if_pos (by omega), if_pos (by omega), if_pos (by omega), g4 439 47 (by omega), a2, x32_s (by omega) (by omega), g3.1, g3.2] at eM
      have lA : ∀ y c, lin A t y c ↔ lin N t y c := fun y c => lin.cong (fun b b0 b1 => g4 b _ (by omega)) (g4 490 _ (by omega))
      have mvA : mk v (fun c => c < n ∧ lin A t x c) := mv.cong (fun c _ _ => ⟨fun z => ⟨z.1, (lA _ _).mpr z.2⟩, fun z => ⟨z.1, (lA _ _).mp z.2⟩⟩)
      obtain ⟨B, b1, b2', b3⟩ := m_162 (N := A) (up := fr_up u) (low := fr_low u) hn x0 (by rw [g4 _ _ (by omega)]; exact a3) h0 (by omega) mvA 30 (n - 1) A (fun _ _ _ => rfl) (by omega) (by omega) (by omega) (fun y y0 y1 => by omega)
      rw [show n - 1 + 1 = n by omega, Int.sub_self, Int.add_zero] at b1
      rw [b1] at eM
      have gB : dG h N B := fun a j ha => by rw [b2' a j (by omega), g4 a j (by omega)]
      have zB : B 439 44 = A 439 44 := b2' _ _ (by omega)
      rcases g2.zero hz with ⟨y1, y2, y3⟩ | ⟨y1, y2⟩
      · have y4 := y3.1
        rw [if_pos (by omega)] at eC
        have shB : sh M B n := ⟨fun y z0 z1 => by
          rw [b2' 497 y (by omega), b2' 498 y (by omega), g4 497 y (by omega), g4 498 y (by omega)]
          exact hs.1 y z0 z1, hs.2⟩
        have dnB : dn M B t L n := k.fr (dF.rf M) gB
        have := pass_loop (t := t) (L := L) (x := x) (v := v) (each := fr_over P (ct * 1048576 + 1)) (h := h) (d := d) (e := e) n0 hn x0 x1 h0 h1 d0 d1 e0 e1 hvx (fun c h' e' d' M N c0 c1 w1 w2 w3 w4 w5 w6 w7 w8 w9 w10 w11 => ihk c e' d' _ h' M N w1 w2 w3 (by omega) c1 w4 w5 w6 w7 (by omega) w8 w9 w10 w11) 30 (x + 1) M B dnB shB (by rw [zB]; exact y1) (by omega) (by omega) (by omega) (fun y y0 y1 y2' => by
          have hl := ((mv.at_ (by omega) (by omega)).mp y2').2
          obtain ⟨q1, q2, q3⟩ := b3 y (by omega) y1 y2'
          refine ⟨?_, q1, ?_⟩
          · unfold onl lvs
            rw [gB 471 _ (by omega), gB 472 _ (by omega), gB 490 _ (by omega)]
            exact hl.2.imp id (fun z => z.2)
          · rw [q2, q3, y2]
            exact ⟨y3, rfl, rfl⟩)
        rw [eC, eM]
        rcases this with ⟨C, D, r1, r2, r3, r4, r5, r6⟩ | ⟨C, D, r1, r2, r3, r5, r6⟩
        · exact Or.inl ⟨C, D, r1, r2, r3, r4, r5, gB.tr r6⟩
        · exact Or.inr ⟨C, D, r1, r2, r3, r5, gB.tr r6⟩
      · rw [if_neg (by omega)] at eC
        rw [eC, eM]
        exact Or.inr ⟨M, B, rfl, m_33sp (by rw [zB]; exact y1), by rw [zB]; exact y1, dF.rf M, gB⟩
end
