/-! The two at the start of the loop. -/
section
variable {L : Nat} {xs : Nat → Int32}
theorem st_cell0 {k j v : Int} (h0 : 0 ≤ k) (h : ek_at ek_U2 k j = v) : st_M L xs k j = v := by
  rw [← h, ek_at_M]
  unfold st_M
  rw [decide_eq_false (by omega), decide_eq_false (by omega)]
  rfl
set_option maxRecDepth 100000 in
theorem st_vals : ek_at ek_U2 439 2 = 0 ∧ ek_at ek_U2 1 1 = 0 ∧ ek_at ek_U2 439 47 = 0 ∧ ek_at ek_U2 6 0 = 0 ∧ ek_at ek_U2 6 1 = 0 ∧ ek_at ek_U2 6 2 = 0 ∧ ek_at ek_U2 439 56 = 0 ∧ ek_at ek_U2 439 61 = 0 ∧ ek_at ek_U2 17 0 = 0 ∧ ek_at ek_U2 439 65 = 0 ∧ ek_at ek_U2 21 0 = 0 := by decide +kernel
set_option maxRecDepth 100000 in
theorem st_vals2 : ek_at ek_U2 0 11 = 366 ∧ ek_at ek_U2 51 2 = 53 ∧ ek_at ek_U2 439 17 = 0 ∧ ek_at ek_U2 447 0 = 0 ∧ ek_at ek_U2 366 0 = 0 ∧ ek_at ek_U2 454 0 = 0 ∧ ek_at ek_U2 366 4 = 0 ∧ ek_at ek_U2 366 2 = 0 ∧ ek_at ek_U2 366 3 = 1 ∧ ek_at ek_U2 466 0 = 0 ∧ ek_at ek_U2 467 0 = 1 ∧ ek_at ek_U2 25 2 = -1 := by decide +kernel
set_option maxRecDepth 100000 in
theorem st_vals3 : ek_at ek_U2 439 115 = 0 ∧ ek_at ek_U2 136 0 = 0 ∧ ek_at ek_U2 439 72 = 0 ∧ ek_at ek_U2 136 1 = 0 ∧ ek_at ek_U2 136 2 = 1 ∧ ek_at ek_U2 136 3 = 1 ∧ ek_at ek_U2 487 0 = 0 ∧ ek_at ek_U2 487 1 = 0 ∧ ek_at ek_U2 488 0 = 1 ∧ ek_at ek_U2 488 1 = 1 ∧ ek_at ek_U2 439 114 = 0 ∧ ek_at ek_U2 360 0 = -1 ∧ ek_at ek_U2 439 16 = -1 ∧ ek_at ek_U2 51 7 = -1 := by decide +kernel
set_option maxRecDepth 100000 in
theorem st_keys : (List.range 16).all (fun k => decide (ek_at ek_U2 446 (k : Int) = kyW (k : Int))) = true := by decide +kernel
set_option maxRecDepth 100000 in
theorem st_steps : (List.range 20).all (fun k => decide (ek_at ek_U2 449 (k : Int) = 0)) = true := by decide +kernel
theorem st_Rel : Rel (st_M L xs) := by
  obtain ⟨a1, a2, a3, a4, a5, a6, a7, a8, a9, a10, a11⟩ := st_vals
  obtain ⟨b1, b2', b3, b4, b5, b6, b7, b8, b9, b10, b11, b12⟩ := st_vals2
  obtain ⟨d1, d2, d3, d4, d5, d6, d7, d8, d9, d10, d11, d12, d13, d14⟩ := st_vals3
  have A1 : st_M L xs 439 2 = 0 := st_cell0 (by omega) a1
  have A2 : st_M L xs 1 1 = 0 := st_cell0 (by omega) a2
  have A3 : st_M L xs 439 47 = 0 := st_cell0 (by omega) a3
  have A4 : st_M L xs 6 0 = 0 := st_cell0 (by omega) a4
  have A5 : st_M L xs 6 1 = 0 := st_cell0 (by omega) a5
  have A6 : st_M L xs 6 2 = 0 := st_cell0 (by omega) a6
  have A7 : st_M L xs 439 56 = 0 := st_cell0 (by omega) a7
  have A8 : st_M L xs 439 61 = 0 := st_cell0 (by omega) a8
  have A9 : st_M L xs 17 0 = 0 := st_cell0 (by omega) a9
  have A10 : st_M L xs 439 65 = 0 := st_cell0 (by omega) a10
  have A11 : st_M L xs 21 0 = 0 := st_cell0 (by omega) a11
  have B1 : st_M L xs 0 11 = 366 := st_cell0 (by omega) b1
  have B2 : st_M L xs 51 2 = 53 := st_cell0 (by omega) b2'
  have B3 : st_M L xs 439 17 = 0 := st_cell0 (by omega) b3
  have B4 : st_M L xs 447 0 = 0 := st_cell0 (by omega) b4
  have B5 : st_M L xs 366 0 = 0 := st_cell0 (by omega) b5
  have B6 : st_M L xs 454 0 = 0 := st_cell0 (by omega) b6
  have B7 : st_M L xs 366 4 = 0 := st_cell0 (by omega) b7
  have B8 : st_M L xs 366 2 = 0 := st_cell0 (by omega) b8
  have B9 : st_M L xs 366 3 = 1 := st_cell0 (by omega) b9
  have B10 : st_M L xs 466 0 = 0 := st_cell0 (by omega) b10
  have B11 : st_M L xs 467 0 = 1 := st_cell0 (by omega) b11
  have B12 : st_M L xs 25 2 = -1 := st_cell0 (by omega) b12
  have D1 : st_M L xs 439 115 = 0 := st_cell0 (by omega) d1
  have D2 : st_M L xs 136 0 = 0 := st_cell0 (by omega) d2
  have D3 : st_M L xs 439 72 = 0 := st_cell0 (by omega) d3
  have D4 : st_M L xs 136 1 = 0 := st_cell0 (by omega) d4
  have D5 : st_M L xs 136 2 = 1 := st_cell0 (by omega) d5
  have D6 : st_M L xs 136 3 = 1 := st_cell0 (by omega) d6
  have D7 : st_M L xs 487 0 = 0 := st_cell0 (by omega) d7
  have D8 : st_M L xs 487 1 = 0 := st_cell0 (by omega) d8
  have D9 : st_M L xs 488 0 = 1 := st_cell0 (by omega) d9
  have D10 : st_M L xs 488 1 = 1 := st_cell0 (by omega) d10
  have D11 : st_M L xs 439 114 = 0 := st_cell0 (by omega) d11
  have D12 : st_M L xs 360 0 = -1 := st_cell0 (by omega) d12
  have D13 : st_M L xs 439 16 = -1 := st_cell0 (by omega) d13
  have D14 : st_M L xs 51 7 = -1 := st_cell0 (by omega) d14
  have K : ∀ k, 0 ≤ k → k < 16 → st_M L xs 446 k = kyW k := fun k h0 h1 => st_cell0 (by omega) (by
    have := List.all_eq_true.mp st_keys k.toNat (List.mem_range.mpr (by omega))
    rw [decide_eq_true_eq, show ((k.toNat : Nat) : Int) = k by omega] at this
    exact this)
  have T : ∀ k, 0 ≤ k → k < 20 → st_M L xs 449 k = 0 := fun k h0 h1 => st_cell0 (by omega) (by
    have := List.all_eq_true.mp st_steps k.toNat (List.mem_range.mpr (by omega))
    rw [decide_eq_true_eq, show ((k.toNat : Nat) : Int) = k by omega] at this
    exact this)
  have hone : fr_is (st_M L xs) 1 0 1 := ⟨by unfold fr_ok; decide +kernel, by decide +kernel, by decide +kernel⟩
  generalize st_M L xs = M at *
  refine ⟨⟨by omega, by omega, by omega, fun i i0 i1 => by omega⟩, ⟨by omega, by omega, by omega, fun i i0 i1 => by omega⟩, ⟨?_, fun i i0 i1 => by omega⟩, ⟨by omega, by omega, by omega, fun i i0 i1 => by omega⟩, ⟨by omega, by omega, by omega, fun i i0 i1 => by omega⟩, ⟨by omega, by omega, by omega, fun i i0 i1 => by omega⟩, ⟨Or.inr B1, by omega, Or.inl B3, ?_⟩, Or.inl B12, ⟨⟨by omega, by omega, by omega⟩, ⟨by omega, by omega, by omega⟩, ?_, ?_, fun i i0 i1 => by omega, fun i i0 i1 => by omega⟩, fun i i0 i1 => by omega, Or.inl ⟨D11, D12⟩, ⟨by omega, K⟩⟩
  · rw [A5]
    exact mk_0.cong (fun x x0 x1 => ⟨fun z => z.elim, fun z => by rw [tb_0] at z; cases z.2⟩)
  · rw [B1, B3]
    refine ⟨⟨by omega, by omega, by omega⟩, ⟨by omega, by omega, by omega⟩, fun k k0 k1 => by omega, fun k k0 k1 => ?_, ⟨?_, by omega, by omega, by omega, by omega⟩, fun r r0 r1 => by omega⟩
    · rw [show 20 * 0 + k = k by omega, T k k0 k1, B8, b2_f (by rw [tb_0]; exact fun z => by cases z)]
    · rw [B9, B10, B11, fr_of_01]
  · rw [D5, D7, D9]; exact hone
  · rw [D6, D8, D10]; exact hone
theorem law_comes (hL : L ≤ 3072) : ∃ M2, em_Ex 50 243 18 [(0, (5, 0)), (1, (2, 0)), (2, (2, 439)), (3, (0, 0))] [] (st_M L xs) = some (1, M2) := by
  have h := law_run hL 3072 0 (st_M L xs) st_Rel rfl (fun j => by
    show (xs j.toNat).toInt < 2147483648
    have := Int32.toInt_lt (xs j.toNat)
    omega) (by omega) (by omega)
  exact h
end
