/-! read: kin, its head. -/
section
variable {C R M : em_M} {n m t w s k0 S P r0 : Int}
/-- nothing more is noted -/
theorem wr_no {k tok u : Int} (hS : gST n m w s C R) (hf : R 439 12 = 0) (hN : gN m u C R) (t0 : 0 ≤ tok) (t1 : tok < m) (h8 : ¬ C 51 8 = 0) (hk : C 51 9 < tok ∨ (C 51 9 = tok ∧ C 51 8 ≤ k)) : f_Model_wrong k tok R = some (0, R) := by
  have m6 := hS.1.1.2.1.2
  have hpl := (hS.1.1.2.2.1 tok t0 t1).1.2
  have e2 := q_Model_wrong k tok R
  simp only [em_cd, if_pos (show 0 ≤ tok ∧ tok < 603 by omega), if_neg (show ¬ 0 < R 439 12 by omega), hpl] at e2
  obtain ⟨a1, a2, ⟨a3, a4, a5⟩, a6⟩ := hN.resolve_left (fun z => h8 z.1)
  rw [if_neg (by omega), a6] at e2
  rcases hk with q | ⟨q, q2⟩
  · have := hS.1.1.2.2.2.1 (C 51 9) tok a3 q t1
    rw [if_pos this] at e2
    exact e2
  · rw [q] at e2
    rw [if_neg (by omega), if_neg (fun z => z rfl), if_neg (by omega)] at e2
    exact e2
/-- the names told so far are looked through -/
theorem nl_loop {v1 : Int} (h18 : R 439 18 = s) (s2 : s = 0 ∨ s = 1) (hk : R 447 s = k0) (k20 : k0 ≤ 20) (v10 : 0 ≤ v1) (v11 : v1 ≤ 602) : ∀ (f : Nat) (x : Int), 0 ≤ x → x + f ≤ k0 → (∀ y, x ≤ y → y < x + f → ¬ R 448 (20 * s + y) = R 445 v1 ∨ f_Model_wrong 3 v1 R = some (0, R)) → f_Model_tellKin_54 v1 x R = f_Model_tellKin_54 v1 (x + f) R := by
  intro f
  induction f with
  | zero =>
    intro x x0 hx hy
    rw [show x + ((0 : Nat) : Int) = x by omega]
  | succ f ih =>
    intro x x0 hx hy
    have e := q_Model_tellKin_54 v1 x R
    simp only [em_cd, h18, hk, if_pos (show 0 ≤ s ∧ s < 2 by omega), if_neg (show ¬ k0 ≤ x by omega), x_cmp_eq, if_pos (show 0 ≤ v1 ∧ v1 < 603 by omega), x32_s (show -1000000 ≤ 20 * s by omega) (show 20 * s ≤ 1000000 by omega), x32_s (show -1000000 ≤ 20 * s + x by omega) (show 20 * s + x ≤ 1000000 by omega), x32_s (show -1000000 ≤ x + 1 by omega) (show x + 1 ≤ 1000000 by omega), if_pos (show 0 ≤ 20 * s + x ∧ 20 * s + x < 40 by omega)] at e
    have k := ih (x + 1) (by omega) (by omega) (fun y y0 y1 => hy y (by omega) (by omega))
    rw [show x + 1 + (f : Int) = x + ((f + 1 : Nat) : Int) by omega] at k
    rw [← k, e]
    by_cases c : R 448 (20 * s + x) = R 445 v1
    · rw [if_neg (fun z => z c), (hy x (by omega) (by omega)).resolve_left (fun z => z c)]
      rfl
    · rw [if_pos c]
/-- a new name: told already? -/
theorem nw_pair {tok v : Int} {G : em_M → Option (Int × em_M)} (hS : gST n m w s C R) (hf : R 439 12 = 0) (hN : gN m tok C R) (hK : gNm w s k0 C R) (hv : R 445 tok = v) (h3 : C 51 3 = tok) (t0 : 0 ≤ tok) (t1 : tok < m) : ∃ C2, ((f_Reader_kinNamed v C).bind fun r0 => if r0.1 = -1 then G r0.2 else (f_Reader_note 3 (r0.2 51 3) r0.2).bind fun r1 => G r1.2) = G C2 ∧ (∀ c j, ¬ (c = 51 ∧ (j = 8 ∨ j = 9)) → C2 c j = C c j) ∧ (¬ C 51 8 = 0 → ¬ C2 51 8 = 0) ∧ ∀ R1, (∀ c j, ¬ (c = 439 ∧ j = 11) → R1 c j = R c j) → ∃ R', f_Model_tellKin_54 tok 0 R1 = f_Model_tellKin_54 tok k0 R' ∧ gN m (tok + 1) C2 R' ∧ ∀ c j, ¬ (c = 439 ∧ (j = 14 ∨ j = 15)) → R' c j = R1 c j := by
  have m6 := hS.1.1.2.1.2
  obtain ⟨-, -, s1, s2⟩ := id hS
  obtain ⟨⟨a1, a2, a3, a4⟩, a5⟩ := id hK
  obtain ⟨q, k1, k2, -, -⟩ := kn_pair hS hK hv t0 (by omega) k0.toNat 0 (by omega) (by omega) (fun y y0 y1 => by omega)
  rw [q_Reader_kinNamed, k2]
  simp only [Option.bind_some, h3]
  rcases k1 with ⟨b1, b2', b3, b4⟩ | ⟨b1, b2'⟩
  · rw [if_neg (by omega)]
    have hlt : C 51 8 = 0 ∨ C 51 9 < tok := by
      rcases hN with ⟨a, b⟩ | ⟨a, b, ⟨c1, c2, c3⟩, d⟩
      · exact Or.inl a
      · exact Or.inr c2
    obtain ⟨C2, R0, n1, -, -, n4, n5, -⟩ := nt_pair (k := 3) (tok := tok) hS hf hN (by omega) t0 t1 (by omega) (by omega) (hlt.imp id Or.inl)
    have hC2 : C2 51 9 < tok ∨ (C2 51 9 = tok ∧ C2 51 8 ≤ 3) := by
      have e := q_Reader_note 3 tok C
      rw [n1, em_cd] at e
      by_cases z : C 51 8 = 0
      · rw [if_neg (fun y => y z)] at e
        cases e
        exact Or.inr ⟨xup_eq _ _ _ _, by rw [xup_ne (by omega), xup_eq]; omega⟩
      · rw [if_pos z] at e
        cases e
        exact Or.inl (hlt.resolve_left z)
    rw [n1]
    simp only [Option.bind_some]
    refine ⟨C2, rfl, n5, fun _ => n4, fun R1 h1 => ?_⟩
    have hS1 : gST n m w s C R1 := hS.fx (fxC.rf _ _) (fnR.wd (fun c j hc => h1 c j (by omega)))
    have hN1 : gN m tok C R1 := hN.fr (fun _ _ _ => rfl) (fun c j hc => h1 c j (by omega))
    obtain ⟨C3, R', p1, p2, p3, -, -, p6⟩ := nt_pair (k := 3) (tok := tok) hS1 (by rw [h1 439 12 (by omega)]; exact hf) hN1 (by omega) t0 t1 (by omega) (by omega) (hlt.imp id Or.inl)
    rw [n1] at p1
    cases p1
    have g18 : R1 439 18 = s := by rw [h1 439 18 (by omega)]; exact s1
    have g47 : R1 447 s = k0 := by rw [h1 447 s (by omega)]; exact a2
    have g45 : R1 445 tok = v := by rw [h1 445 tok (by omega)]; exact hv
    have g48 : ∀ y, 0 ≤ y → y < k0 → R1 448 (20 * s + y) = C 52 y := fun y y0 y1 => by rw [h1 448 _ (by omega), a5 y y0 y1]
    have e1 := nl_loop (v1 := tok) g18 s2 g47 a4 t0 (by omega) q.toNat 0 (by omega) (by omega) (fun y y0 y1 => Or.inl (by
      rw [g48 y y0 (by omega), g45]
      exact b4 y y0 (by omega)))
    rw [show 0 + ((q.toNat : Nat) : Int) = q by omega] at e1
    have e2 := q_Model_tellKin_54 tok q R1
    simp only [em_cd, g18, g47, g45, if_pos (show 0 ≤ s ∧ s < 2 by omega), if_neg (show ¬ k0 ≤ q by omega), x_cmp_eq, if_pos (show 0 ≤ tok ∧ tok < 603 by omega), x32_s (show -1000000 ≤ 20 * s by omega) (show 20 * s ≤ 1000000 by omega), x32_s (show -1000000 ≤ 20 * s + q by omega) (show 20 * s + q ≤ 1000000 by omega), x32_s (show -1000000 ≤ q + 1 by omega) (show q + 1 ≤ 1000000 by omega), if_pos (show 0 ≤ 20 * s + q ∧ 20 * s + q < 40 by omega)] at e2
    rw [g48 q b1 b2', if_neg (fun z => z b3), p2] at e2
    simp only [Option.bind_some] at e2
    have hS' : gST n m w s C2 R' := hS1.fx (fnC.wd (fun c j hc => n5 c j (by omega))) (fnR.wd (fun c j hc => p6 c j (by omega)))
    have hw : f_Model_wrong 3 tok R' = some (0, R') := wr_no hS' (by rw [p6 439 12 (by omega), h1 439 12 (by omega)]; exact hf) p3 t0 t1 n4 hC2
    have e3 := nl_loop (R := R') (v1 := tok) (by rw [p6 439 18 (by omega)]; exact g18) s2 (by rw [p6 447 s (by omega)]; exact g47) a4 t0 (by omega) (k0 - (q + 1)).toNat (q + 1) (by omega) (by omega) (fun y y0 y1 => Or.inr hw)
    rw [show q + 1 + (((k0 - (q + 1)).toNat : Nat) : Int) = k0 by omega] at e3
    exact ⟨R', e1.trans (e2.trans e3), p3, p6⟩
  · rw [if_pos b1]
    refine ⟨C, rfl, fun _ _ _ => rfl, id, fun R1 h1 => ⟨R1, ?_, (hN.up (by omega)).fr (fun _ _ _ => rfl) (fun c j hc => h1 c j (by omega)), fun _ _ _ => rfl⟩⟩
    have e1 := nl_loop (R := R1) (v1 := tok) (by rw [h1 439 18 (by omega)]; exact s1) s2 (by rw [h1 447 s (by omega)]; exact a2) a4 t0 (by omega) k0.toNat 0 (by omega) (by omega) (fun y y0 y1 => Or.inl (by
      rw [h1 448 _ (by omega), h1 445 tok (by omega), ← a5 y y0 (by omega), hv]
      exact b2' y y0 (by omega)))
    rw [show 0 + ((k0.toNat : Nat) : Int) = k0 by omega] at e1
    exact e1
/-- what stands when the paths begin -/
theorem KI.start {C' R' : em_M} {v1 : Int} (hw : w = 53 ∨ w = 366) (hs : s = 0 ∨ s = 1) (h : gLL w s t k0 S P r0 C R) (k20 : k0 < 20) (hC : ∀ c j, ¬ ((c = 51 ∧ 3 ≤ j ∧ j ≤ 11 ∧ ¬ j = 7) ∨ (c = 52 ∧ j = k0)) → C' c j = C c j) (c1 : C' 52 k0 = R' 445 v1) (hR : ∀ c j, ¬ ((c = 439 ∧ 11 ≤ j ∧ j ≤ 15) ∨ (c = 450 ∧ j = 21 * s + k0) ∨ (c = 451 ∧ j = 701 * s + P)) → R' c j = R c j) (d1 : R' 450 (21 * s + k0) = P) (d2 : R' 451 (701 * s + P) = S) (mono : ¬ C 51 8 = 0 → ¬ C' 51 8 = 0) : KI w s k0 S P S P S C' R' ∧ KR w s k0 S P r0 v1 C' R' := by
  obtain ⟨⟨⟨a1, a2, a3, a4⟩, a5⟩, l2, ⟨l3, l3', l7, l8⟩, l4, l5, l6⟩ := h
  obtain ⟨⟨b1, b2', b3⟩, ⟨b4, b5, b6⟩, ⟨b7, b8, b9⟩, b10⟩ := id l2
  refine ⟨⟨⟨⟨?_, ?_, ?_⟩, ⟨by omega, by omega, by omega⟩, ⟨by omega, by omega, by omega⟩⟩, ⟨d2, d2⟩, fun p p0 p1 => by omega, ⟨fun z => by omega, fun j j0 j1 => by omega⟩, fun j j0 j1 => by omega, fun _ j j0 j1 => by omega⟩, ⟨⟨?_, ?_, a3, k20⟩, fun k h0 h1 => ?_, c1⟩, fun z k h0 h1 => ?_, ⟨?_, d1⟩, ⟨?_, ?_, l7, l8⟩, ?_, ?_, ?_⟩
  · rw [hC w 1 (by omega)]; exact b1
  · rw [hR 439 27 (by omega)]; exact b2'
  · rw [hR 439 26 (by omega)]; exact b3
  · rw [hC w 0 (by omega)]; exact a1
  · rw [hR 447 s (by omega)]; exact a2
  · rw [hC 52 k (by omega), hR 448 _ (by omega)]; exact a5 k h0 h1
  · obtain ⟨g1, g2⟩ := b9 (by omega)
    have hL : LK w s k0 S P t C' R' := l2.fr hw (fun c j hc => hC c j (by omega)) (fun c j hc => by
      by_cases y1 : c = 450 ∧ j = 21 * s + k0
      · obtain ⟨rfl, rfl⟩ := y1
        rw [d1, g1]
      · by_cases y2 : c = 451 ∧ j = 701 * s + P
        · obtain ⟨rfl, rfl⟩ := y2
          rw [d2, g2]
        · exact hR c j (by omega)) mono (by omega)
    exact hL.2.2.2 z k h0 h1
  · rw [← b7]
    unfold lw_from
    by_cases y : k0 = 0
    · rw [if_pos y, if_pos y]
    · rw [if_neg y, if_neg y, hC (w + 1) k0 (by omega)]
  · rw [hC w 4 (by omega)]; exact l3
  · rw [hR 454 s (by omega)]; exact l3'
  · exact l4.fr hw l8 (fun c j hc => hC c j (by omega)) (fun c j hc => hR c j (by omega)) (by rw [hC w 0 (by omega)]; omega) mono
  · exact l5.fr (hC w 2 (by omega)) (fun j => hR 449 j (by omega))
  · exact l6.fr (hC w 3 (by omega)) (fun c j hc => hR c j (by omega)) mono
end
