/-! CONSTRUCTORS: the cells made so far, each by its number at the heap's size of the start and its number; the rows that make or write cells. -/
def ek_ref (ad : Nat → Nat) (o : Option Nat) (m : Int) : Prop := (m = -1 ∧ o = none) ∨ ∃ q : Nat, (q : Int) = m ∧ o = some (ad q)
def ek_fv (ad : Nat → Nat) (t : Int) (v : Value) (m : Int) : Prop := (t = 0 → ∃ x : Int32, v = .int x ∧ x.toInt = m) ∧ (t = 1 → ∃ x : Int64, v = .long x ∧ x.toInt = m) ∧ (t = 2 → ∃ o : Option Nat, ek_ref ad o m ∧ v = va_rf o)
def ek_refs (ad : Nat → Nat) (tys : List (ClassId × FieldType)) (M : em_M) (k : Nat) (e : va_E) (ty : FieldType) : Prop := ∃ (cA : ClassId) (f : Nat → Option Nat), e = .inl (cA, em_lnn k, .inr (.inr (.inr (.inr f)))) ∧ (∃ t0 : Nat, tys[t0]? = some (cA, ty)) ∧ ∀ j, j < em_lnn k → ek_ref ad (f j) (M (k : Int) (j : Int))
def ek_obj (ad : Nat → Nat) (M : em_M) (k : Nat) (e : va_E) : Prop := ∃ fs : List Value, e = .inr (em_kdn k, fs) ∧ fs.length = (em_cls (em_kdn k)).2.2 ∧ ∀ j, j < (em_cls (em_kdn k)).2.2 → ∃ v, fs[j]? = some v ∧ ek_fv ad (em_ft (em_kdn k) j).1 v (M (k : Int) (j : Int))
def ek_cell (ad : Nat → Nat) (tys : List (ClassId × FieldType)) (M : em_M) (k : Nat) (e : va_E) : Prop :=
  (em_kdn k < 12 → ek_obj ad M k e) ∧ (em_kdn k = 100 → em_ints tys M k e .int) ∧ (em_kdn k = 101 → em_longs tys M k e) ∧ (em_kdn k = 102 → em_ints tys M k e .byte) ∧ (em_kdn k = 103 → em_ints tys M k e .boolean) ∧
  (em_kdn k = 110 → ek_refs ad tys M k e (.array .int)) ∧ (em_kdn k = 111 → ek_refs ad tys M k e (.array .long)) ∧ (em_kdn k = 112 → ek_refs ad tys M k e (.object "EstateOffice$Estate"))
def ek_cells (n0 : Nat) (ws : va_W) (tys : List (ClassId × FieldType)) (n : Nat) (U : List (Int × Int × Int)) : Prop := ws.length = n ∧ ∀ k : Nat, k < n → ∃ e, ws[k]? = some (n0 + k, e) ∧ ek_cell (fun q => n0 + q) tys (ek_M U) k e
def ek_fr (n : Nat) (U : List (Int × Int × Int)) : Prop := ∀ w ∈ U, w.1 < (n : Int)
def ek_WH (n0 : Nat) (D : va_G) (s : State) (H : Heap) (locs : List Loc) (S : ek_S) : Prop := ∃ ws tys, va_P D em_classes ws H ∧ va_K D em_classes tys s ∧ va_S (em_A n0) s.heap H locs ∧ n0 ≤ s.heap.size ∧ H.size = n0 + S.1 ∧ ek_cells n0 ws tys S.1 S.2.2 ∧ ek_fr S.1 S.2.2
def ek_Wd (n0 : Nat) (D : va_G) (U : State) (S : ek_S) : Prop := ∃ ws tys, va_P D em_classes ws U.heap ∧ va_K D em_classes tys U ∧ U.heap.size = n0 + S.1 ∧ ek_cells n0 ws tys S.1 S.2.2 ∧ ek_fr S.1 S.2.2
theorem ek_M_fr {n : Nat} : ∀ {U : List (Int × Int × Int)}, ek_fr n U → ∀ (k : Nat), n ≤ k → ∀ j : Int, ek_M U (k : Int) j = ek_dflt (k : Int) j
  | [], _, _, _, _ => rfl
  | w :: r, h, k, hk, j => by
    have h1 := h w List.mem_cons_self
    rw [ek_M, em_xup_ne (by omega)]
    exact ek_M_fr (fun x hx => h x (List.mem_cons_of_mem _ hx)) k hk j
theorem ek_cell_mono {ad : Nat → Nat} {tys tys2 : List (ClassId × FieldType)} {M M2 : em_M} {k : Nat} {e : va_E} (h : ek_cell ad tys M k e) (ht : ∀ (t0 : Nat) (x : ClassId × FieldType), tys[t0]? = some x → tys2[t0]? = some x) (hM : ∀ j : Int, M2 (k : Int) j = M (k : Int) j) : ek_cell ad tys2 M2 k e := by
  obtain ⟨h1, h2, h3, h4, h5, h6, h7, h8⟩ := h
  have hi : ∀ ty, em_ints tys M k e ty → em_ints tys2 M2 k e ty := fun ty ⟨cA, f, e1, ⟨t0, g⟩, hj⟩ => ⟨cA, f, e1, ⟨t0, ht _ _ g⟩, fun j hj' => by rw [hM]; exact hj j hj'⟩
  have hl : em_longs tys M k e → em_longs tys2 M2 k e := fun ⟨cA, f, e1, ⟨t0, g⟩, hj⟩ => ⟨cA, f, e1, ⟨t0, ht _ _ g⟩, fun j hj' => by rw [hM]; exact hj j hj'⟩
  have hr : ∀ ty, ek_refs ad tys M k e ty → ek_refs ad tys2 M2 k e ty := fun ty ⟨cA, f, e1, ⟨t0, g⟩, hj⟩ => ⟨cA, f, e1, ⟨t0, ht _ _ g⟩, fun j hj' => by rw [hM]; exact hj j hj'⟩
  refine ⟨fun q => ?_, fun q => hi _ (h2 q), fun q => hl (h3 q), fun q => hi _ (h4 q), fun q => hi _ (h5 q), fun q => hr _ (h6 q), fun q => hr _ (h7 q), fun q => hr _ (h8 q)⟩
  obtain ⟨fs, e1, e2, hj⟩ := h1 q
  refine ⟨fs, e1, e2, fun j hj' => ?_⟩
  obtain ⟨v, g1, g2⟩ := hj j hj'
  exact ⟨v, g1, by rw [hM]; exact g2⟩
theorem ek_cells_ty {n0 n : Nat} {ws : va_W} {tys tys2 : List (ClassId × FieldType)} {U : List (Int × Int × Int)} (h : ek_cells n0 ws tys n U) (ht : ∀ (t0 : Nat) (x : ClassId × FieldType), tys[t0]? = some x → tys2[t0]? = some x) : ek_cells n0 ws tys2 n U :=
  ⟨h.1, fun k hk => by
    obtain ⟨e, g1, g2⟩ := h.2 k hk
    exact ⟨e, g1, ek_cell_mono g2 ht (fun _ => rfl)⟩⟩
theorem ek_app_ty {tys : List (ClassId × FieldType)} {y : ClassId × FieldType} : ∀ (t0 : Nat) (x : ClassId × FieldType), tys[t0]? = some x → (tys ++ [y])[t0]? = some x := by
  intro t0 x h
  rw [List.getElem?_append_left (List.getElem?_eq_some_iff.mp h).1]
  exact h
theorem ek_cells_wr {n0 n : Nat} {ws : va_W} {tys : List (ClassId × FieldType)} {U : List (Int × Int × Int)} {a i v : Int} (h : ek_cells n0 ws tys n U) (ha : (n : Int) ≤ a) : ek_cells n0 ws tys n ((a, i, v) :: U) :=
  ⟨h.1, fun k hk => by
    obtain ⟨e, g1, g2⟩ := h.2 k hk
    exact ⟨e, g1, ek_cell_mono g2 (fun _ _ z => z) (fun j => em_xup_ne (by show (k : Int) ≠ a; omega))⟩⟩
theorem ek_cells_rows {n0 n : Nat} {ws : va_W} {tys : List (ClassId × FieldType)} {U : List (Int × Int × Int)} (h : ek_cells n0 ws tys n U) : ∀ i, ek_cells n0 ws tys n (ek_rows n i U)
  | 0 => h
  | i + 1 => ek_cells_wr (ek_cells_rows h i) (Int.le_refl _)
theorem ek_rows_at {n : Nat} {U : List (Int × Int × Int)} : ∀ (N j : Nat), j < N → ek_M (ek_rows n N U) (n : Int) (j : Int) = ((n + 1 + j : Nat) : Int)
  | 0, _, h => absurd h (Nat.not_lt_zero _)
  | N + 1, j, h => by
    rw [ek_rows, ek_M]
    by_cases hj : j = N
    · subst hj
      exact em_xup_eq
    · rw [em_xup_ne2 (by show (j : Int) ≠ (N : Int); omega)]
      exact ek_rows_at N j (by omega)
theorem ek_rows_ne {n : Nat} {U : List (Int × Int × Int)} {k : Int} (hk : k ≠ (n : Int)) : ∀ (N : Nat) (j : Int), ek_M (ek_rows n N U) k j = ek_M U k j
  | 0, _ => rfl
  | N + 1, j => by
    rw [ek_rows, ek_M, em_xup_ne hk]
    exact ek_rows_ne hk N j
theorem ek_rows_fr {n m : Nat} {U : List (Int × Int × Int)} (h : ek_fr n U) (hm : n < m) : ∀ N, ek_fr m (ek_rows n N U)
  | 0 => fun w hw => by have := h w hw; omega
  | N + 1 => fun w hw => by
    rcases List.mem_cons.mp hw with rfl | hw
    · show (n : Int) < (m : Int); omega
    · exact ek_rows_fr h hm N w hw
theorem ek_snoc {n0 n : Nat} {ws : va_W} {tys : List (ClassId × FieldType)} {U : List (Int × Int × Int)} {e : va_E} (h : ek_cells n0 ws tys n U) (he : ek_cell (fun q => n0 + q) tys (ek_M U) n e) : ek_cells n0 (ws ++ [(n0 + n, e)]) tys (n + 1) U := by
  refine ⟨by rw [List.length_append, h.1]; rfl, fun k hk => ?_⟩
  by_cases hkn : k = n
  · subst hkn
    refine ⟨e, ?_, he⟩
    rw [List.getElem?_append_right (by rw [h.1]; exact Nat.le_refl _), h.1, Nat.sub_self]
    rfl
  · obtain ⟨e1, g1, g2⟩ := h.2 k (by omega)
    exact ⟨e1, by rw [List.getElem?_append_left (by rw [h.1]; omega)]; exact g1, g2⟩
theorem ek_snocP {D : va_G} {ws : va_W} {H : Heap} {a : Nat} {e : va_E} (h : va_P D em_classes ws H) (he : va_at D em_classes (a, e) H) : va_P D em_classes (ws ++ [(a, e)]) H := by
  intro k q hq
  by_cases hk : k < ws.length
  · rw [List.getElem?_append_left hk] at hq
    exact h k q hq
  · rw [List.getElem?_append_right (by omega)] at hq
    have h0 : k - ws.length < 1 := (List.getElem?_eq_some_iff.mp hq).1
    rw [show k - ws.length = 0 by omega] at hq
    cases hq
    exact he
theorem ek_snocs {D : va_G} {n0 n : Nat} {ws : va_W} {tys : List (ClassId × FieldType)} {U : List (Int × Int × Int)} {e : va_E} {H : Heap} (hP : va_P D em_classes ws H) (h : ek_cells n0 ws tys n U) : ∀ N : Nat, (∀ j, j < N → va_at D em_classes (n0 + (n + j), e) H) → (∀ j, j < N → ek_cell (fun q => n0 + q) tys (ek_M U) (n + j) e) → ∃ ws2, va_P D em_classes ws2 H ∧ ek_cells n0 ws2 tys (n + N) U
  | 0, _, _ => ⟨ws, hP, h⟩
  | N + 1, h1, h2 => by
    obtain ⟨ws2, g1, g2⟩ := ek_snocs hP h N (fun j hj => h1 j (by omega)) (fun j hj => h2 j (by omega))
    exact ⟨ws2 ++ [(n0 + (n + N), e)], ek_snocP g1 (h1 N (Nat.lt_succ_self N)), ek_snoc g2 (h2 N (Nat.lt_succ_self N))⟩
theorem ek_set {n0 n k : Nat} {ws : va_W} {tys : List (ClassId × FieldType)} {U : List (Int × Int × Int)} {e : va_E} {i v : Int} (h : ek_cells n0 ws tys n U) (hk : k < n) (he : ek_cell (fun q => n0 + q) tys (ek_M (((k : Int), i, v) :: U)) k e) : ek_cells n0 (ws.set k (n0 + k, e)) tys n (((k : Int), i, v) :: U) := by
  refine ⟨by rw [List.length_set]; exact h.1, fun j hj => ?_⟩
  by_cases hjk : j = k
  · subst hjk
    exact ⟨e, List.getElem?_set_self (by rw [h.1]; exact hk), he⟩
  · obtain ⟨e1, g1, g2⟩ := h.2 j hj
    exact ⟨e1, by rw [List.getElem?_set_ne (Ne.symm hjk)]; exact g1, ek_cell_mono g2 (fun _ _ z => z) (fun i2 => em_xup_ne (by show (j : Int) ≠ (k : Int); omega))⟩
theorem ek_fr_cons {n k : Nat} {U : List (Int × Int × Int)} {i v : Int} (h : ek_fr n U) (hk : k < n) : ek_fr n (((k : Int), i, v) :: U) := fun w hw => by
  rcases List.mem_cons.mp hw with rfl | hw
  · show (k : Int) < (n : Int); omega
  · exact h w hw
theorem ek_D {n0 n : Nat} {ws : va_W} {tys : List (ClassId × FieldType)} {U : List (Int × Int × Int)} (h : ek_cells n0 ws tys n U) : va_D (em_A n0) ws := by
  have key : ∀ (k : Nat) (q : Nat × va_E), ws[k]? = some q → q.1 = n0 + k := fun k q hq => by
    obtain ⟨e, g1, -⟩ := h.2 k (by rw [← h.1]; exact (List.getElem?_eq_some_iff.mp hq).1)
    rw [g1] at hq
    cases hq
    rfl
  refine ⟨fun i j p q hi hj hpq => ?_, fun k q hq => ?_⟩
  · have h1 := key i p hi
    have h2 := key j q hj
    omega
  · have h1 := key k q hq
    show n0 ≤ q.1
    omega
-- what is there before anything is written
def ek_blankv (ci j : Nat) : Bool := match defaultValue (em_fty0 ci j) with
  | .int x => decide (x = 0) && decide ((em_ft ci j).1 = 0)
  | .long x => decide (x = 0) && decide ((em_ft ci j).1 = 1)
  | .null => decide ((em_ft ci j).1 = 2)
  | _ => false
theorem ek_blank_all : (List.range 12).all (fun ci => (List.range (em_cls ci).2.2).all (fun j => ek_blankv ci j)) = true := by decide +kernel
theorem ek_blank {ci j : Nat} (h : ci < 12) (hj : j < (em_cls ci).2.2) {ad : Nat → Nat} : ek_fv ad (em_ft ci j).1 (defaultValue (em_fty0 ci j)) (bif decide ((em_ft ci j).1 = 2) then -1 else 0) := by
  have h1 := List.all_eq_true.mp (List.all_eq_true.mp ek_blank_all ci (List.mem_range.mpr h)) j (List.mem_range.mpr hj)
  unfold ek_blankv at h1
  generalize defaultValue (em_fty0 ci j) = v at h1 ⊢
  generalize (em_ft ci j).1 = t at h1 ⊢
  cases v with
  | int x =>
    have h2 : (decide (x = 0) && decide (t = 0)) = true := h1
    simp only [Bool.and_eq_true, decide_eq_true_eq] at h2
    obtain ⟨rfl, rfl⟩ := h2
    exact ⟨fun _ => ⟨0, rfl, rfl⟩, fun q => absurd q (by decide), fun q => absurd q (by decide)⟩
  | long x =>
    have h2 : (decide (x = 0) && decide (t = 1)) = true := h1
    simp only [Bool.and_eq_true, decide_eq_true_eq] at h2
    obtain ⟨rfl, rfl⟩ := h2
    exact ⟨fun q => absurd q (by decide), fun _ => ⟨0, rfl, rfl⟩, fun q => absurd q (by decide)⟩
  | null =>
    have h2 : decide (t = 2) = true := h1
    have h3 := of_decide_eq_true h2
    subst h3
    exact ⟨fun q => absurd q (by decide), fun q => absurd q (by decide), fun _ => ⟨none, Or.inl ⟨rfl, rfl⟩, rfl⟩⟩
  | _ => cases h1
theorem ek_dflt_obj {k j : Nat} (h : em_kdn k < 12) : ek_dflt (k : Int) (j : Int) = bif decide ((em_ft (em_kdn k) j).1 = 2) then -1 else 0 := by
  have h1 : Nat.blt (em_kdn k) 12 = true := by rw [Nat.blt_eq]; exact h
  unfold ek_dflt
  rw [em_kd_nat, h1, cond_true]
  rfl
theorem ek_dflt_prim {k : Nat} {j : Int} (h : 100 ≤ em_kdn k ∧ em_kdn k < 110) : ek_dflt (k : Int) j = 0 := by
  have h1 : Nat.blt (em_kdn k) 12 = false := by
    cases hb : Nat.blt (em_kdn k) 12 with
    | false => rfl
    | true => rw [Nat.blt_eq] at hb; omega
  have h2 : Nat.ble 110 (em_kdn k) = false := by
    cases hb : Nat.ble 110 (em_kdn k) with
    | false => rfl
    | true => have := Nat.le_of_ble_eq_true hb; omega
  unfold ek_dflt
  rw [em_kd_nat, h1, h2]
  rfl
theorem ek_dflt_ref {k : Nat} {j : Int} (h : 110 ≤ em_kdn k ∧ em_kdn k ≤ 112) : ek_dflt (k : Int) j = -1 := by
  have h1 : Nat.blt (em_kdn k) 12 = false := by
    cases hb : Nat.blt (em_kdn k) 12 with
    | false => rfl
    | true => rw [Nat.blt_eq] at hb; omega
  unfold ek_dflt
  rw [em_kd_nat, h1, Nat.ble_eq_true_of_le h.1, Nat.ble_eq_true_of_le h.2]
  rfl
