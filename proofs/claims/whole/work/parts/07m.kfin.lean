/-! CONSTRUCTORS: behind them the world of the small machine stands. -/
def ek_finj (U : List (Int × Int × Int)) (k j : Nat) : Bool :=
  bif decide ((em_ft (em_kdn k) j).2.1 = 1) then decide ((em_ft (em_kdn k) j).1 = 2) && decide (ek_at U k j = (k : Int) + (em_ft (em_kdn k) j).2.2) && decide (0 ≤ ek_at U k j)
  else !(decide ((em_ft (em_kdn k) j).1 = 2)) || decide (0 ≤ ek_at U k j)
def ek_fin (U : List (Int × Int × Int)) (k : Nat) : Bool :=
  bif Nat.blt (em_kdn k) 12 then (List.range (em_cls (em_kdn k)).2.2).all (fun j => ek_finj U k j)
  else bif Nat.ble 110 (em_kdn k) && Nat.ble (em_kdn k) 112 then (List.range (em_lnn k)).all (fun j => decide (ek_at U k j = (k : Int) + 1 + (j : Int) * (bif Nat.beq (em_kdn k) 112 then 6 else 1)))
  else true
theorem ek_fin_cell {n0 : Nat} {tys : List (ClassId × FieldType)} {U : List (Int × Int × Int)} {M : em_M} {k : Nat} {e : va_E} (hM : ∀ j : Int, M (k : Int) j = ek_M U (k : Int) j) (h : ek_cell (fun q => n0 + q) tys (ek_M U) k e) (hf : ek_fin U k = true) : em_cell (fun q => n0 + q) tys M k e := by
  obtain ⟨h1, h2, h3, h4, h5, h6, h7, h8⟩ := h
  have hi : ∀ ty, em_ints tys (ek_M U) k e ty → em_ints tys M k e ty := fun ty ⟨cA, f, e1, t, hj⟩ => ⟨cA, f, e1, t, fun j hj' => by rw [hM]; exact hj j hj'⟩
  have hl : em_longs tys (ek_M U) k e → em_longs tys M k e := fun ⟨cA, f, e1, t, hj⟩ => ⟨cA, f, e1, t, fun j hj' => by rw [hM]; exact hj j hj'⟩
  have hblt : 110 ≤ em_kdn k → em_kdn k ≤ 112 → ∀ j, j < em_lnn k → ek_M U (k : Int) (j : Int) = (k : Int) + 1 + (j : Int) * (bif Nat.beq (em_kdn k) 112 then 6 else 1) := fun a1 a2 j hj => by
    unfold ek_fin at hf
    have b1 : Nat.blt (em_kdn k) 12 = false := by
      cases hb : Nat.blt (em_kdn k) 12 with
      | false => rfl
      | true => rw [Nat.blt_eq] at hb; omega
    rw [b1, Nat.ble_eq_true_of_le a1, Nat.ble_eq_true_of_le a2] at hf
    have h9 := of_decide_eq_true (List.all_eq_true.mp hf j (List.mem_range.mpr hj))
    rw [ek_at_M] at h9
    exact h9
  have hr : ∀ (ty : FieldType) (w : Nat), 110 ≤ em_kdn k → em_kdn k ≤ 112 → ((bif Nat.beq (em_kdn k) 112 then (6 : Int) else 1) = (w : Int)) → ek_refs (fun q => n0 + q) tys (ek_M U) k e ty → em_refs (fun q => n0 + q) tys k e ty w := fun ty w a1 a2 hw ⟨cA, f, e1, t, hj⟩ => ⟨cA, f, e1, t, fun j hj' => by
    have h9 := hblt a1 a2 j hj'
    rw [hw] at h9
    rcases hj j hj' with ⟨g1, -⟩ | ⟨q, g1, g2⟩
    · rw [h9] at g1
      have : (0 : Int) ≤ (j : Int) * (w : Int) := Int.mul_nonneg (Int.natCast_nonneg _) (Int.natCast_nonneg _)
      omega
    · rw [g2]
      rw [h9] at g1
      have : (q : Int) = ((k + 1 + j * w : Nat) : Int) := by rw [g1, Int.natCast_add, Int.natCast_mul]; rfl
      rw [Int.ofNat_inj.mp this]⟩
  refine ⟨fun q => ?_, fun q => hi _ (h2 q), fun q => hl (h3 q), fun q => hi _ (h4 q), fun q => hi _ (h5 q), fun q => hr _ 1 (by omega) (by omega) (by rw [q]; rfl) (h6 q), fun q => hr _ 1 (by omega) (by omega) (by rw [q]; rfl) (h7 q), fun q => hr _ 6 (by omega) (by omega) (by rw [q]; rfl) (h8 q)⟩
  obtain ⟨fs, e1, e2, hj⟩ := h1 q
  refine ⟨fs, e1, e2, fun j hj' => ?_⟩
  obtain ⟨v, g1, g2, g3, g4⟩ := hj j hj'
  refine ⟨v, g1, ?_⟩
  unfold ek_fin at hf
  have b1 : Nat.blt (em_kdn k) 12 = true := by rw [Nat.blt_eq]; exact q
  rw [b1, cond_true] at hf
  have h9 := List.all_eq_true.mp hf j (List.mem_range.mpr hj')
  unfold ek_finj at h9
  rw [ek_at_M] at h9
  rw [hM]
  generalize em_ft (em_kdn k) j = ft at g2 g3 g4 h9 ⊢
  refine ⟨fun hc => ?_, fun hc => ⟨g2, g3, fun ht => ?_⟩⟩
  · rw [decide_eq_true hc, cond_true, Bool.and_eq_true, Bool.and_eq_true] at h9
    obtain ⟨⟨c1, c2⟩, c3⟩ := h9
    obtain ⟨o, ho, rfl⟩ := g4 (of_decide_eq_true c1)
    have c2 := of_decide_eq_true c2
    have c3 := of_decide_eq_true c3
    rcases ho with ⟨d1, -⟩ | ⟨q2, d1, rfl⟩
    · omega
    · exact ⟨q2, by omega, rfl⟩
  · have hc1 : ¬ ft.2.1 = 1 := by omega
    rw [decide_eq_false hc1, cond_false, decide_eq_true ht] at h9
    have c3 : 0 ≤ ek_M U (k : Int) (j : Int) := of_decide_eq_true h9
    obtain ⟨o, ho, rfl⟩ := g4 ht
    rcases ho with ⟨d1, -⟩ | ⟨q2, d1, rfl⟩
    · omega
    · exact ⟨q2, d1, rfl⟩
set_option maxRecDepth 1000000 in
theorem ek_fin_all : (List.range 520).all (fun k => ek_fin ek_U2 k) = true := by decide +kernel
/-- the memory at the start of the loop -/
def st_M (L : Nat) (xs : Nat → Int32) : em_M := fun k j => bif decide (k = -1) then (xs j.toNat).toInt else bif decide (k = -2) then (L : Int) else ek_M ek_U2 k j
theorem st_M_cell {L : Nat} {xs : Nat → Int32} {k : Nat} {j : Int} : st_M L xs (k : Int) j = ek_M ek_U2 (k : Int) j := by
  unfold st_M
  rw [decide_eq_false (by omega), decide_eq_false (by omega)]
  rfl
theorem ek_to_WH {n0 L : Nat} {xs : Nat → Int32} {D : va_G} {s : State} {H : Heap} {locs : List Loc} {z : Nat} (h : ek_WH n0 D s H locs (520, z, ek_U2)) : em_WH (fun q => n0 + q) n0 L xs D s H locs (st_M L xs) := by
  obtain ⟨ws, tys, hP, hK, hS, hn, hsz, hC, hF⟩ := h
  refine ⟨ws, tys, hP, ek_D hC, hK, hS, fun k hk => ?_, fun j hj => ?_, ?_⟩
  · obtain ⟨e, g1, g2⟩ := hC.2 k hk
    exact ⟨e, g1, ek_fin_cell (fun j => st_M_cell) g2 (List.all_eq_true.mp ek_fin_all k (List.mem_range.mpr hk))⟩
  · unfold st_M
    rw [decide_eq_true (rfl : (-1 : Int) = -1), cond_true, Int.toNat_natCast]
  · rfl
