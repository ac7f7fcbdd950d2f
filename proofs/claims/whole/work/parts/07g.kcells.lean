/-! CONSTRUCTORS: the rows that make cells. -/
section KC
variable {sa : Nat → Nat} {bs n0 : Nat} {D : va_G} {S : ek_S}
variable {p : Program} {l : Launch} {e : Env} {R : Room} {s : State} {m : MethodId} {args : Array Value} {below : List Frame} {meth : Method} {c : Code} {Q : State → Prop} {mid d pc cells slots : Nat}
variable {H : Heap} {locs : List Loc} {lsJ : Array Slot} {stJ : List Value}
theorem ek_old {D : va_G} {ws : va_W} {H H1 : Heap} (hP : va_P D em_classes ws H) (o : ∀ q, q < H.size → H1[q]? = H[q]?) : va_P D em_classes ws H1 := hP.kept (fun k x hx => o x.1 ((hP k x hx).lt))
theorem ek_S_old {A : Nat → Prop} {H0 H H1 : Heap} {locs : List Loc} (h : va_S A H0 H locs) (hz : H.size ≤ H1.size) (o : ∀ q, q < H.size → H1[q]? = H[q]?) : va_S A H0 H1 locs :=
  ⟨Nat.le_trans h.1 hz, fun x h1 h2 => (o x (Nat.lt_of_lt_of_le h1 h.1)).trans (h.2.1 x h1 h2), h.2.2⟩
theorem ek_fr_up {n m : Nat} {U : List (Int × Int × Int)} (h : ek_fr n U) (hm : n ≤ m) : ek_fr m U := fun w hw => by have := h w hw; omega
theorem kx_new {i : Nat} {ci : Nat} (C : ek_Cx p s m args c R mid d) (hdg : decode (ek_b mid) pc = .ok (.new i, 3)) (h12 : ci < 12) (w1 : (Jvm.Cond.classLink (ek_y mid).cls i (em_cls ci).1) ∈ em_tbl) (w2 : (Jvm.Cond.instantiable (em_cls ci).1 (em_cls ci).2.2) ∈ em_tbl) (w3 : (Jvm.Cond.initialized (em_cls ci).1) ∈ em_tbl)
    (hkd : em_kdn S.1 = ci) (hcells : cells + 1 ≤ R.cells) (hslots : slots + (em_cls ci).2.2 ≤ R.slots) (hW : ek_WH n0 D s H locs S)
    (K : ∀ H2 : Heap, ek_WH n0 D s H2 locs (S.1 + 1, S.2.1 + (em_cls ci).2.2, S.2.2) → W p l e R s m args below meth c H2 locs (cells + 1) (slots + (em_cls ci).2.2) Q (F0 m (pc + 3) lsJ (.ref (n0 + S.1) :: stJ))) : W p l e R s m args below meth c H locs cells slots Q (F0 m pc lsJ stJ) := by
  obtain ⟨hx, hb, hml, hown, hts, hO, hR1, hR2⟩ := C
  obtain ⟨ws, tys, hP, hK, hS, hn, hsz, hC, hF⟩ := hW
  have hKn := hK.1 ci _ (em_cls_get h12)
  refine W.newcK hx hb hown (hts _ w1) (hts _ w2) (hts _ w3) rfl hdg hcells hslots hKn.2.1 hsz fun H1 kC hkC e1 z1 o1 => ?_
  have hfs : ∀ j, j < (em_cls ci).2.2 → ((List.range (em_cls ci).2.2).map (fun j => defaultValue (em_fty0 ci j)))[j]? = some (defaultValue (em_fty0 ci j)) := fun j hj => by
    rw [List.getElem?_map, List.getElem?_range hj]
    rfl
  refine K H1 ⟨_, tys, ek_snocP (ek_old hP (fun q hq => o1 q (by omega))) (e := .inr (ci, (List.range (em_cls ci).2.2).map (fun j => defaultValue (em_fty0 ci j)))) (a := n0 + S.1) ?_, hK, ek_S_old hS (by omega) (fun q hq => o1 q (by omega)), hn, by show H1.size = n0 + (S.1 + 1); omega, ek_snoc hC ?_, ek_fr_up hF (Nat.le_succ _)⟩
  · refine ⟨_, em_cls_get h12, (u_born (em_fty0 ci) hts (em_u_in h12) hKn hkC e1 (em_fty0_ok h12)).to (fun j hj => ?_)⟩
    unfold vp_V
    rw [List.getD_eq_getElem?_getD, hfs j hj]
    rfl
  · refine ⟨fun _ => ⟨_, by rw [hkd], by rw [hkd, List.length_map, List.length_range], fun j hj => ?_⟩, fun q => by omega, fun q => by omega, fun q => by omega, fun q => by omega, fun q => by omega, fun q => by omega, fun q => by omega⟩
    rw [hkd] at hj
    refine ⟨_, hfs j hj, ?_⟩
    rw [ek_M_fr hF _ (Nat.le_refl _), ek_dflt_obj (by omega), hkd]
    exact ek_blank h12 hj
theorem ek_tys_prim {tys : List (ClassId × FieldType)} {cA : ClassId} {t : ArrayType} (hK : va_K D em_classes tys s) (h1 : ArrOfT s cA (newarray.typeOf t)) (h2 : s.vm.findClass ("[" ++ (newarray.typeOf t).toString) = some cA) : va_K D em_classes (tys ++ [(cA, newarray.typeOf t)]) s := by
  refine ⟨hK.1, fun k x hx => ?_⟩
  by_cases hl : k < tys.length
  · rw [List.getElem?_append_left hl] at hx
    exact hK.2 k x hx
  · rw [List.getElem?_append_right (by omega)] at hx
    have hz : k - tys.length < 1 := (List.getElem?_eq_some_iff.mp hx).1
    rw [show k - tys.length = 0 by omega] at hx
    cases hx
    exact ⟨h1, by cases t <;> exact h2⟩
theorem ek_tys_last {tys : List (ClassId × FieldType)} {y : ClassId × FieldType} : (tys ++ [y])[tys.length]? = some y := by
  rw [List.getElem?_append_right (Nat.le_refl _), Nat.sub_self]
  rfl
theorem kx_newa {t : ArrayType} {z : Int32} (C : ek_Cx p s m args c R mid d) (hdg : decode (ek_b mid) pc = .ok (.newarray t, 2)) (ht : ek_aty t ≠ 0) (w1 : (Jvm.Cond.arrayClass (newarray.typeOf t)) ∈ em_tbl) (hkd : em_kdn S.1 = ek_aty t) (hz : z.toInt = (em_lnn S.1 : Int)) (hlen : em_lnn S.1 < 100000)
    (hcells : cells + 1 ≤ R.cells) (hslots : slots + em_lnn S.1 ≤ R.slots) (hW : ek_WH n0 D s H locs S)
    (K : ∀ H2 : Heap, ek_WH n0 D s H2 locs (S.1 + 1, S.2.1 + em_lnn S.1, S.2.2) → W p l e R s m args below meth c H2 locs (cells + 1) (slots + em_lnn S.1) Q (F0 m (pc + 2) lsJ (.ref (n0 + S.1) :: stJ))) : W p l e R s m args below meth c H locs cells slots Q (F0 m pc lsJ (.int z :: stJ)) := by
  obtain ⟨hx, hb, hml, hown, hts, hO, hR1, hR2⟩ := C
  obtain ⟨ws, tys, hP, hK, hS, hn, hsz, hC, hF⟩ := hW
  have hz0 : ¬ z < 0 := fun q => by
    have := Int32.lt_iff_toInt_lt.mp q
    have e0 : (0 : Int32).toInt = 0 := rfl
    omega
  have hzn : z.toNatClampNeg = em_lnn S.1 := by
    show z.toInt.toNat = _
    omega
  have hbytes : em_lnn S.1 * componentBytes (newarray.typeOf t) ≤ 536870912 := by
    have : componentBytes (newarray.typeOf t) ≤ 8 := by cases t <;> decide
    have h2 := Nat.mul_le_mul (Nat.le_of_lt hlen) this
    omega
  refine va_newaK hx hb (hts _ w1) rfl hdg rfl hz0 hzn hbytes hcells hslots hsz fun H1 cA e1 z1 o1 hAr hNm => ?_
  have hM : ∀ j : Int, 100 ≤ em_kdn S.1 ∧ em_kdn S.1 < 110 → ek_M S.2.2 (S.1 : Int) j = 0 := fun j hh => by
    rw [ek_M_fr hF _ (Nat.le_refl _), ek_dflt_prim hh]
  have main : ∀ e0 : va_E, va_at D em_classes (n0 + S.1, e0) H1 → ek_cell (fun q => n0 + q) (tys ++ [(cA, newarray.typeOf t)]) (ek_M S.2.2) S.1 e0 → ek_WH n0 D s H1 locs (S.1 + 1, S.2.1 + em_lnn S.1, S.2.2) := fun e0 he hc =>
    ⟨_, tys ++ [(cA, newarray.typeOf t)], ek_snocP (ek_old hP (fun q hq => o1 q (by omega))) he, ek_tys_prim hK hAr hNm, ek_S_old hS (by omega) (fun q hq => o1 q (by omega)), hn, by show H1.size = n0 + (S.1 + 1); omega, ek_snoc (ek_cells_ty hC ek_app_ty) hc, ek_fr_up hF (Nat.le_succ _)⟩
  refine K H1 ?_
  cases t with
  | int =>
    have hk : em_kdn S.1 = 100 := hkd
    exact main (.inl (cA, em_lnn S.1, .inl (fun _ => 0))) e1 ⟨fun q => by omega, fun _ => ⟨cA, _, rfl, ⟨_, ek_tys_last⟩, fun j _ => by rw [hM _ (by omega)]; rfl⟩, fun q => by omega, fun q => by omega, fun q => by omega, fun q => by omega, fun q => by omega, fun q => by omega⟩
  | long =>
    have hk : em_kdn S.1 = 101 := hkd
    exact main (.inl (cA, em_lnn S.1, .inr (.inl (fun _ => 0)))) e1 ⟨fun q => by omega, fun q => by omega, fun _ => ⟨cA, _, rfl, ⟨_, ek_tys_last⟩, fun j _ => by rw [hM _ (by omega)]; rfl⟩, fun q => by omega, fun q => by omega, fun q => by omega, fun q => by omega, fun q => by omega⟩
  | byte =>
    have hk : em_kdn S.1 = 102 := hkd
    exact main (.inl (cA, em_lnn S.1, .inl (fun _ => 0))) e1 ⟨fun q => by omega, fun q => by omega, fun q => by omega, fun _ => ⟨cA, _, rfl, ⟨_, ek_tys_last⟩, fun j _ => by rw [hM _ (by omega)]; rfl⟩, fun q => by omega, fun q => by omega, fun q => by omega, fun q => by omega⟩
  | boolean =>
    have hk : em_kdn S.1 = 103 := hkd
    exact main (.inl (cA, em_lnn S.1, .inl (fun _ => 0))) e1 ⟨fun q => by omega, fun q => by omega, fun q => by omega, fun q => by omega, fun _ => ⟨cA, _, rfl, ⟨_, ek_tys_last⟩, fun j _ => by rw [hM _ (by omega)]; rfl⟩, fun q => by omega, fun q => by omega, fun q => by omega⟩
  | _ => exact absurd rfl ht
theorem kx_anew {i : Nat} {z : Int32} (C : ek_Cx p s m args c R mid d) (hdg : decode (ek_b mid) pc = .ok (.anewarray i, 3)) (w1 : (Jvm.Cond.classLink (ek_y mid).cls i "EstateOffice$Estate") ∈ em_tbl) (hkd : em_kdn S.1 = 112) (hz : z.toInt = (em_lnn S.1 : Int)) (hlen : em_lnn S.1 < 100000)
    (hcells : cells + 1 ≤ R.cells) (hslots : slots + em_lnn S.1 ≤ R.slots) (hW : ek_WH n0 D s H locs S)
    (K : ∀ H2 : Heap, ek_WH n0 D s H2 locs (S.1 + 1, S.2.1 + em_lnn S.1, S.2.2) → W p l e R s m args below meth c H2 locs (cells + 1) (slots + em_lnn S.1) Q (F0 m (pc + 3) lsJ (.ref (n0 + S.1) :: stJ))) : W p l e R s m args below meth c H locs cells slots Q (F0 m pc lsJ (.int z :: stJ)) := by
  obtain ⟨hx, hb, hml, hown, hts, hO, hR1, hR2⟩ := C
  obtain ⟨ws, tys, hP, hK, hS, hn, hsz, hC, hF⟩ := hW
  have hz0 : ¬ z < 0 := fun q => by
    have := Int32.lt_iff_toInt_lt.mp q
    have e0 : (0 : Int32).toInt = 0 := rfl
    omega
  have hzn : z.toNatClampNeg = em_lnn S.1 := by
    show z.toInt.toNat = _
    omega
  refine W.anew hx hb hown (hts _ w1) (va_AO.use hO.1) rfl hdg rfl hz0 (by rw [hzn]; omega) hcells (by rw [hzn]; exact hslots) fun cA kA comp f1 f2 f3 f4 => ?_
  rw [hzn]
  generalize hH1 : H.push ({ cls := cA, slots := Array.replicate (em_lnn S.1) .null, vm := .none } : Cell) = H1
  have z1 : H1.size = H.size + 1 := by rw [← hH1, Array.size_push]
  have e1 : H1[n0 + S.1]? = some (arrV cA (em_lnn S.1) (fun _ => .null)) := by rw [← hH1, ← hsz, Array.getElem?_push_size, ← arrV_new]
  have o1 : ∀ q : Nat, q < H.size → H1[q]? = H[q]? := fun q hq => by rw [← hH1, Array.getElem?_push, if_neg (Nat.ne_of_lt hq)]
  have hAr : ArrOfT s cA (.object "EstateOffice$Estate") := fun N z => ⟨(fun k h => by cases h), kA, f2, comp, f3⟩
  rw [hsz]
  refine K H1 ⟨_, tys ++ [(cA, .object "EstateOffice$Estate")], ek_snocP (ek_old hP o1) (e := .inl (cA, em_lnn S.1, .inr (.inr (.inr (.inr (fun _ => none)))))) (a := n0 + S.1) e1, ⟨hK.1, fun k x hx => ?_⟩, ek_S_old hS (by omega) o1, hn, by show H1.size = n0 + (S.1 + 1); omega, ek_snoc (ek_cells_ty hC ek_app_ty) ⟨fun q => by omega, fun q => by omega, fun q => by omega, fun q => by omega, fun q => by omega, fun q => by omega, fun q => by omega, fun _ => ⟨cA, _, rfl, ⟨_, ek_tys_last⟩, fun j _ => Or.inl ⟨?_, rfl⟩⟩⟩, ek_fr_up hF (Nat.le_succ _)⟩
  · by_cases hl : k < tys.length
    · rw [List.getElem?_append_left hl] at hx
      exact hK.2 k x hx
    · rw [List.getElem?_append_right (by omega)] at hx
      have hq : k - tys.length < 1 := (List.getElem?_eq_some_iff.mp hx).1
      rw [show k - tys.length = 0 by omega] at hx
      cases hx
      exact ⟨hAr, kA, comp, f2, f3, f4, f1⟩
  · rw [ek_M_fr hF _ (Nat.le_refl _), ek_dflt_ref (by omega)]
theorem ek_kinds_spec {en len : Nat} : ∀ (N k : Nat), ek_kinds en len k N = true → ∀ j, j < N → em_kdn (k + j) = en ∧ em_lnn (k + j) = len
  | 0, _, _, j, h => absurd h (Nat.not_lt_zero j)
  | N + 1, k, h, j, hj => by
    rw [ek_kinds, Bool.and_eq_true, Bool.and_eq_true] at h
    cases j with
    | zero => exact ⟨Nat.eq_of_beq_eq_true h.1.1, Nat.eq_of_beq_eq_true h.1.2⟩
    | succ j =>
      have := ek_kinds_spec N (k + 1) h.2 j (by omega)
      rw [show k + (j + 1) = k + 1 + j by omega]
      exact this
theorem kx_mna {i en : Nat} {z y : Int32} {K0 : Nat} (C : ek_Cx p s m args c R mid d) (hdg : decode (ek_b mid) pc = .ok (.multianewarray i 2, 4)) (hen : en = 100 ∨ en = 101) (w1 : (Jvm.Cond.classLink (ek_y mid).cls i ("[" ++ (FieldType.array (ek_ety en)).toString)) ∈ em_tbl) (w2 : (Jvm.Cond.arrayClass (ek_ety en)) ∈ em_tbl)
    (hkd : em_kdn S.1 = en + 10) (hz : z.toInt = (em_lnn S.1 : Int)) (hlen : em_lnn S.1 < 1000) (hy : y.toInt = (K0 : Int)) (hK0 : K0 < 1000) (hkk : ek_kinds en K0 (S.1 + 1) (em_lnn S.1) = true)
    (hcells : cells + (1 + em_lnn S.1) ≤ R.cells) (hslots : slots + (em_lnn S.1 + em_lnn S.1 * K0) ≤ R.slots) (hW : ek_WH n0 D s H locs S)
    (K : ∀ H2 : Heap, ek_WH n0 D s H2 locs (S.1 + 1 + em_lnn S.1, S.2.1 + em_lnn S.1 + em_lnn S.1 * K0, ek_rows S.1 (em_lnn S.1) S.2.2) → W p l e R s m args below meth c H2 locs (cells + 1 + em_lnn S.1) (slots + em_lnn S.1 + em_lnn S.1 * K0) Q (F0 m (pc + 4) lsJ (.ref (n0 + S.1) :: stJ))) : W p l e R s m args below meth c H locs cells slots Q (F0 m pc lsJ (.int y :: .int z :: stJ)) := by
  obtain ⟨hx, hb, hml, hown, hts, hO, hR1, hR2⟩ := C
  obtain ⟨ws, tys, hP, hK, hS, hn, hsz, hC, hF⟩ := hW
  have neg : ∀ (a : Int32) (k : Nat), a.toInt = (k : Int) → ¬ a < 0 ∧ a.toNatClampNeg = k := fun a k h => by
    refine ⟨fun q => ?_, ?_⟩
    · have := Int32.lt_iff_toInt_lt.mp q
      have e0 : (0 : Int32).toInt = 0 := rfl
      omega
    · show a.toInt.toNat = _
      omega
  obtain ⟨a1, a2⟩ := neg z _ hz
  obtain ⟨b1, b2⟩ := neg y _ hy
  have hover : ek_AOA (ek_ety en) s := by
    rcases hen with rfl | rfl
    · exact hO.2.1
    · exact hO.2.2.1
  have hprim : (ek_ety en = .int ∧ en = 100) ∨ (ek_ety en = .long ∧ en = 101) := by
    rcases hen with rfl | rfl
    · exact Or.inl ⟨rfl, rfl⟩
    · exact Or.inr ⟨rfl, rfl⟩
  have hbytes : K0 * componentBytes (ek_ety en) ≤ 536870912 := by
    have : componentBytes (ek_ety en) ≤ 8 := by rcases hprim with ⟨h, -⟩ | ⟨h, -⟩ <;> (rw [h]; decide)
    have h2 := Nat.mul_le_mul (Nat.le_of_lt hK0) this
    omega
  refine kw_mna hx hb hown (hts _ w1) (ek_AOA.use hover) (hts _ w2) a1 b1 a2 b2 (by omega) hbytes (by omega) (by rcases hprim with ⟨h, -⟩ | ⟨h, -⟩ <;> (rw [h]; rfl)) (by rcases hprim with ⟨h, -⟩ | ⟨h, -⟩ <;> (rw [h]; rfl)) hcells hslots hdg fun cA cy H1 fA fC z1 o1 eo ei => ?_
  -- the classes of the two kinds of arrays
  obtain ⟨comp, cA2, kA, k3, -, k1, k2, k4⟩ := arrayOverA_spec (ek_AOA.use (A := args) hover)
  cases Option.some.inj (k4.symm.trans fA)
  have hAr : ArrOfT s cA (.array (ek_ety en)) := fun N q => ⟨(fun k h => by cases h), kA, k1, comp, k2⟩
  obtain ⟨cy2, ky, compy, j1, j2, j3⟩ := Cond.arrayClass_spec (hts _ w2)
  have hcy : cy2 = cy := Option.some.inj (j1.symm.trans fC)
  subst hcy
  have hAy : ArrOfT s cy2 (ek_ety en) := fun N q => ⟨(fun k h => by cases h), ky, j2, compy, j3⟩
  have hK2 : va_K D em_classes ((tys ++ [(cA, .array (ek_ety en))]) ++ [(cy2, ek_ety en)]) s := by
    have ext : ∀ (ts : List (ClassId × FieldType)) (x0 : ClassId × FieldType), va_K D em_classes ts s → ArrOfT s x0.1 x0.2 ∧ va_RA s x0.1 x0.2 → va_K D em_classes (ts ++ [x0]) s := fun ts x0 h1 h2 => ⟨h1.1, fun k x hx => by
      by_cases hl : k < ts.length
      · rw [List.getElem?_append_left hl] at hx
        exact h1.2 k x hx
      · rw [List.getElem?_append_right (by omega)] at hx
        have hq : k - ts.length < 1 := (List.getElem?_eq_some_iff.mp hx).1
        rw [show k - ts.length = 0 by omega] at hx
        cases hx
        exact h2⟩
    refine ext _ _ (ext _ _ hK ⟨hAr, fA⟩) ⟨hAy, ?_⟩
    rcases hprim with ⟨h, -⟩ | ⟨h, -⟩ <;> (rw [h] at j1 ⊢; exact j1)
  have hC1 : ek_cells n0 ws ((tys ++ [(cA, .array (ek_ety en))]) ++ [(cy2, ek_ety en)]) S.1 (ek_rows S.1 (em_lnn S.1) S.2.2) := ek_cells_ty (ek_cells_rows hC _) (fun t0 x h => ek_app_ty t0 x (ek_app_ty t0 x h))
  have tA : ((tys ++ [(cA, FieldType.array (ek_ety en))]) ++ [(cy2, ek_ety en)])[tys.length]? = some (cA, FieldType.array (ek_ety en)) := ek_app_ty _ _ ek_tys_last
  have hr : ek_refs (fun q => n0 + q) ((tys ++ [(cA, .array (ek_ety en))]) ++ [(cy2, ek_ety en)]) (ek_M (ek_rows S.1 (em_lnn S.1) S.2.2)) S.1 (.inl (cA, em_lnn S.1, .inr (.inr (.inr (.inr (fun j => if j < em_lnn S.1 then some (n0 + S.1 + 1 + j) else none)))))) (.array (ek_ety en)) :=
    ⟨cA, _, rfl, ⟨_, tA⟩, fun j hj => Or.inr ⟨S.1 + 1 + j, (ek_rows_at _ j hj).symm, by rw [if_pos hj]; exact congrArg some (by show n0 + S.1 + 1 + j = n0 + (S.1 + 1 + j); omega)⟩⟩
  have hC2 := ek_snoc hC1 (e := .inl (cA, em_lnn S.1, .inr (.inr (.inr (.inr (fun j => if j < em_lnn S.1 then some (n0 + S.1 + 1 + j) else none)))))) (by
    rcases hprim with ⟨h, h7⟩ | ⟨h, h7⟩
    · rw [h] at hr ⊢
      exact ⟨fun q => by omega, fun q => by omega, fun q => by omega, fun q => by omega, fun q => by omega, fun _ => hr, fun q => by omega, fun q => by omega⟩
    · rw [h] at hr ⊢
      exact ⟨fun q => by omega, fun q => by omega, fun q => by omega, fun q => by omega, fun q => by omega, fun q => by omega, fun _ => hr, fun q => by omega⟩)
  have hP2 := ek_snocP (ek_old hP o1) (e := .inl (cA, em_lnn S.1, .inr (.inr (.inr (.inr (fun j => if j < em_lnn S.1 then some (n0 + S.1 + 1 + j) else none)))))) (a := n0 + S.1) (by
    show H1[n0 + S.1]? = some (vp_cell _ _)
    rw [← hsz]
    exact eo)
  have hM0 : ∀ (j : Nat) (i2 : Int), j < em_lnn S.1 → ek_M (ek_rows S.1 (em_lnn S.1) S.2.2) ((S.1 + 1 + j : Nat) : Int) i2 = 0 := fun j i2 hj => by
    have hk := (ek_kinds_spec _ _ hkk j hj).1
    rw [ek_rows_ne (by omega), ek_M_fr hF _ (by omega), ek_dflt_prim (by rcases hen with rfl | rfl <;> omega)]
  have fin : ∃ ws2, va_P D em_classes ws2 H1 ∧ ek_cells n0 ws2 ((tys ++ [(cA, .array (ek_ety en))]) ++ [(cy2, ek_ety en)]) (S.1 + 1 + em_lnn S.1) (ek_rows S.1 (em_lnn S.1) S.2.2) := by
    rcases hprim with ⟨h, h7⟩ | ⟨h, h7⟩
    · refine ek_snocs hP2 hC2 (e := .inl (cy2, K0, .inl (fun _ => 0))) (em_lnn S.1) (fun j hj => ?_) (fun j hj => ?_)
      · have := ei j hj
        rw [h] at this
        show H1[n0 + (S.1 + 1 + j)]? = some (vp_cell _ _)
        rw [show n0 + (S.1 + 1 + j) = H.size + 1 + j by omega]
        exact this
      · obtain ⟨hk, hl⟩ := ek_kinds_spec _ _ hkk j hj
        exact ⟨fun q => by omega, fun _ => ⟨cy2, fun _ => 0, by rw [hl], ⟨_, by rw [h]; exact ek_tys_last⟩, fun i2 _ => by rw [hM0 j _ hj]; rfl⟩, fun q => by omega, fun q => by omega, fun q => by omega, fun q => by omega, fun q => by omega, fun q => by omega⟩
    · refine ek_snocs hP2 hC2 (e := .inl (cy2, K0, .inr (.inl (fun _ => 0)))) (em_lnn S.1) (fun j hj => ?_) (fun j hj => ?_)
      · have := ei j hj
        rw [h] at this
        show H1[n0 + (S.1 + 1 + j)]? = some (vp_cell _ _)
        rw [show n0 + (S.1 + 1 + j) = H.size + 1 + j by omega]
        exact this
      · obtain ⟨hk, hl⟩ := ek_kinds_spec _ _ hkk j hj
        exact ⟨fun q => by omega, fun q => by omega, fun _ => ⟨cy2, fun _ => 0, by rw [hl], ⟨_, by rw [h]; exact ek_tys_last⟩, fun i2 _ => by rw [hM0 j _ hj]; rfl⟩, fun q => by omega, fun q => by omega, fun q => by omega, fun q => by omega, fun q => by omega⟩
  obtain ⟨ws2, q1, q2⟩ := fin
  rw [hsz]
  exact K H1 ⟨ws2, _, q1, hK2, ek_S_old hS (by omega) o1, hn, by show H1.size = n0 + (S.1 + 1 + em_lnn S.1); omega, q2, ek_rows_fr hF (by omega) _⟩
end KC
