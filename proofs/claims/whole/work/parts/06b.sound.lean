/-! SOUNDNESS, the memory: fields, rows of numbers, copies. Written by wip/gen/sound2.py. -/
def em_li0 : List Nat := [248, 250, 252, 254]
def em_li1 : List Nat := [573, 575, 577, 579, 581, 583, 585, 587, 589, 591, 593, 595, 597, 599]
def em_li2 : List Nat := [515, 517, 519, 521, 523, 525, 527, 529, 531, 533]
def em_li3 : List Nat := [270, 272, 274, 276, 278]
def em_li4 : List Nat := [328, 330, 332, 334, 336, 338, 340, 342, 344, 346, 348, 350, 352, 354, 356, 358, 360]
def em_li5 : List Nat := [428, 430, 432, 434, 436, 438, 440, 442, 444, 446, 448, 450, 452, 454, 456, 458, 460, 462]
def em_li6 : List Nat := [377, 379, 381, 383, 385, 387, 389, 391, 393, 395, 397, 399]
def em_li7 : List Nat := [206, 208, 210, 212, 214, 216, 218, 220, 222, 224, 226, 228, 230]
def em_li8 : List Nat := [476, 478, 480, 482, 484, 486, 488]
def em_li9 : List Nat := [152, 154, 156, 158, 160, 162]
def em_li10 : List Nat := [616, 618, 620, 622, 624, 626, 628, 630, 632, 634, 636, 638]
def em_li11 : List Nat := [1533, 1535, 1537, 1539, 1541, 1543, 1545, 1547, 1549, 1551, 1553, 1555, 1557, 1559, 1561, 1563, 1565, 1567, 1569, 1571, 1573, 1575, 1577, 1579, 1581, 1583, 1585, 1587, 1589, 1591, 1593, 1595, 1597, 1599, 1601, 1603, 1605, 1607, 1609, 1611, 1613, 1615, 1617, 1619, 1621, 1623, 1625, 1627, 1629, 1631, 1633, 1635, 1637, 1639, 1641, 1643, 1645, 1647, 1649, 1651, 1653, 1655, 1657, 1659, 1661, 1663, 1665, 1667, 1669, 1671, 1673, 1675, 1677, 1679, 1681, 1683, 1685, 1687, 1689, 1691, 1693, 1695, 1697, 1699, 1701, 1703, 1705, 1707, 1709, 1711, 1713, 1715, 1717, 1719, 1721, 1723, 1725, 1727, 1729, 1731, 1733, 1735, 1737, 1739, 1741, 1743, 1745, 1747, 1749, 1751, 1753, 1755, 1757, 1759, 1761, 1763, 1765, 1767, 1769, 1771, 1773]
def em_layok (ci : Nat) : Nat → List Nat → Bool
  | k, [] => Nat.beq k (em_cls ci).2.2
  | k, w :: r => em_wd w (u_lay (em_cls ci).1 (em_cls ci).2.1 k) && ((parseFieldDescriptor ((em_cls ci).2.1 k).2.2.1).isSome && em_layok ci (k + 1) r)
theorem em_layok_spec {ci : Nat} : ∀ (l : List Nat) (k : Nat), em_layok ci k l = true → ∀ j, k ≤ j → j < (em_cls ci).2.2 → u_lay (em_cls ci).1 (em_cls ci).2.1 j ∈ em_tbl ∧ (parseFieldDescriptor ((em_cls ci).2.1 j).2.2.1).isSome = true
  | [], k, h, j, h1, h2 => by
    have := Nat.eq_of_beq_eq_true h
    omega
  | w :: r, k, h, j, h1, h2 => by
    rw [em_layok, Bool.and_eq_true, Bool.and_eq_true] at h
    by_cases e : j = k
    · subst e
      exact ⟨em_wd_mem h.1, h.2.1⟩
    · exact em_layok_spec r (k + 1) h.2.2 j (by omega) h2
def em_names (ci : Nat) : List String := (List.range (em_cls ci).2.2).map (fun k => ((em_cls ci).2.1 k).2.1)
def em_apart : List String → Bool
  | [] => true
  | a :: r => r.all (fun x => decide (x ≠ a)) && em_apart r
theorem em_apart_spec : ∀ {l : List String}, em_apart l = true → ∀ (i j : Nat) (a c : String), l[i]? = some a → l[j]? = some c → i < j → a ≠ c
  | [], _, i, j, a, c, h, _, _ => by simp at h
  | x :: r, h, 0, j + 1, a, c, h1, h2, _ => by
    rw [em_apart, Bool.and_eq_true] at h
    rw [List.getElem?_cons_zero] at h1
    rw [List.getElem?_cons_succ] at h2
    cases h1
    have := List.all_eq_true.mp h.1 c (List.mem_of_getElem? h2)
    exact fun q => (of_decide_eq_true this) q.symm
  | x :: r, h, i + 1, j + 1, a, c, h1, h2, hij => by
    rw [em_apart, Bool.and_eq_true] at h
    rw [List.getElem?_cons_succ] at h1 h2
    exact em_apart_spec h.2 i j a c h1 h2 (by omega)
  | x :: r, h, i, 0, a, c, h1, h2, hij => absurd hij (Nat.not_lt_zero _)
def em_lis : List (List Nat) := [em_li0, em_li1, em_li2, em_li3, em_li4, em_li5, em_li6, em_li7, em_li8, em_li9, em_li10, em_li11]
set_option maxRecDepth 100000 in
theorem em_lays_all : (List.range 12).all (fun ci => em_layok ci 0 (em_nth em_lis ci [])) = true := by decide +kernel
set_option maxRecDepth 100000 in
theorem em_names_all : (List.range 12).all (fun ci => em_apart (em_names ci)) = true := by decide +kernel
theorem em_lay {ci j : Nat} (h : ci < 12) (hj : j < (em_cls ci).2.2) : u_lay (em_cls ci).1 (em_cls ci).2.1 j ∈ em_tbl ∧ (parseFieldDescriptor ((em_cls ci).2.1 j).2.2.1).isSome = true :=
  em_layok_spec _ 0 (List.all_eq_true.mp em_lays_all ci (List.mem_range.mpr h)) j (Nat.zero_le _) hj
theorem em_u_in {ci : Nat} (h : ci < 12) : ∀ w ∈ u_ws (em_cls ci).1 (em_cls ci).2.1 (em_cls ci).2.2, w ∈ em_tbl := by
  intro w hw
  obtain ⟨k, hk, rfl⟩ := List.mem_map.mp hw
  exact (em_lay h (List.mem_range.mp hk)).1
def em_fty0 (ci k : Nat) : FieldType := ((parseFieldDescriptor ((em_cls ci).2.1 k).2.2.1)).getD .int
theorem em_fty0_ok {ci : Nat} (h : ci < 12) : ∀ k, k < (em_cls ci).2.2 → parseFieldDescriptor ((em_cls ci).2.1 k).2.2.1 = some (em_fty0 ci k) := by
  intro k hk
  have h1 := (em_lay h hk).2
  unfold em_fty0
  cases hp : parseFieldDescriptor ((em_cls ci).2.1 k).2.2.1 with
  | none => rw [hp] at h1; cases h1
  | some t => rfl
theorem em_nm_ok {ci : Nat} (h : ci < 12) : ∀ a, a < (em_cls ci).2.2 → ∀ b, b < (em_cls ci).2.2 → a ≠ b → ((em_cls ci).2.1 a).2.1 ≠ ((em_cls ci).2.1 b).2.1 := by
  intro a ha b hb hab
  have h0 := List.all_eq_true.mp em_names_all ci (List.mem_range.mpr h)
  have g : ∀ k, k < (em_cls ci).2.2 → (em_names ci)[k]? = some ((em_cls ci).2.1 k).2.1 := by
    intro k hk
    unfold em_names
    rw [List.getElem?_map, List.getElem?_range hk]
    rfl
  rcases Nat.lt_or_gt_of_ne hab with q | q
  · exact em_apart_spec h0 a b _ _ (g a ha) (g b hb) q
  · exact fun z => em_apart_spec h0 b a _ _ (g b hb) (g a ha) q z.symm
theorem em_nth_get {α : Type} : ∀ (l : List α) (i : Nat) (z : α), i < l.length → l[i]? = some (em_nth l i z)
  | [], _, _, h => absurd h (Nat.not_lt_zero _)
  | a :: r, 0, _, _ => rfl
  | a :: r, i + 1, z, h => by
    rw [List.getElem?_cons_succ]
    exact em_nth_get r i z (by simpa using h)
theorem em_cls_get {ci : Nat} (h : ci < 12) : em_classes[ci]? = some ((em_cls ci).1, (em_cls ci).2.1, (em_cls ci).2.2) := em_nth_get em_classes ci _ h
theorem em_sel1 {c : Bool} {pc : Nat} (h : em_sel [(c, pc)] 999999 ≠ 999999) : c = true := by
  cases c with
  | true => rfl
  | false => exact absurd rfl h
theorem em_kdn_lt {k : Nat} (h : em_kdn k ≠ 999) : k < 520 := by
  rcases Nat.lt_or_ge k 520 with q | q
  · exact q
  · exfalso
    apply h
    have hb : ∀ c, c ≤ 520 → Nat.blt k c = false := by
      intro c hc
      cases hx : Nat.blt k c with
      | false => rfl
      | true =>
        have h2 : k < c := Nat.le_of_ble_eq_true hx
        omega
    unfold em_kdn
    simp only [hb, Nat.reduceLeDiff, cond_false]
theorem em_kd_nat (k : Nat) : em_kd (k : Int) = em_kdn k := rfl
theorem em_ln_nat (k : Nat) : em_ln (k : Int) = (em_lnn k : Int) := rfl
theorem em_isO_nat {k : Nat} {ci : Int} (h : em_isO (k : Int) ci = true) : (em_kdn k : Int) = ci := of_decide_eq_true h
theorem em_scr_up {L : Nat} {xs : Nat → Int32} {M : em_M} {a i v : Int} (h : em_scr L xs M) (ha : 0 ≤ a) : em_scr L xs (xup M a i v) := by
  refine ⟨fun j hj => ?_, ?_⟩
  · rw [h.1 j hj]
    have : ¬ ((-1 : Int) = a ∧ (j : Int) = i) := fun q => by omega
    simp only [xup, if_neg this]
  · have : ¬ ((-2 : Int) = a ∧ (0 : Int) = i) := fun q => by omega
    simp only [xup, if_neg this]
    exact h.2
theorem em_xup_ne {M : em_M} {a i v a2 i2 : Int} (h : a2 ≠ a) : xup M a i v a2 i2 = M a2 i2 := if_neg (fun q => h q.1)
theorem em_xup_ne2 {M : em_M} {a i v a2 i2 : Int} (h : i2 ≠ i) : xup M a i v a2 i2 = M a2 i2 := if_neg (fun q => h q.2)
theorem em_xup_eq {M : em_M} {a i v : Int} : xup M a i v a i = v := if_pos ⟨rfl, rfl⟩
theorem em_cell_same {ad : Nat → Nat} {tys : List (ClassId × FieldType)} {M M2 : em_M} {k : Nat} {e : va_E} (h : ∀ i : Int, M2 (k : Int) i = M (k : Int) i) (hc : em_cell ad tys M k e) : em_cell ad tys M2 k e := by
  have e1 : M2 (k : Int) = M (k : Int) := funext h
  unfold em_cell em_obj em_ints em_longs at hc ⊢
  rw [e1]
  exact hc
theorem em_cells_set {ad : Nat → Nat} {ws : va_W} {tys : List (ClassId × FieldType)} {M M2 : em_M} {k : Nat} {e e2 : va_E} (hc : em_cellsOk ad ws tys M) (he : ws[k]? = some (ad k, e)) (hn : em_cell ad tys M2 k e2) (hM : ∀ (j : Nat), j ≠ k → ∀ i : Int, M2 (j : Int) i = M (j : Int) i) : em_cellsOk ad (ws.set k (ad k, e2)) tys M2 := by
  intro j hj
  by_cases h : j = k
  · subst h
    exact ⟨e2, by rw [List.getElem?_set_self (List.getElem?_eq_some_iff.mp he).1], hn⟩
  · obtain ⟨e1, h1, h2⟩ := hc j hj
    exact ⟨e1, by rw [List.getElem?_set_ne (Ne.symm h)]; exact h1, em_cell_same (hM j h) h2⟩
theorem em_vpin {i : Int32} {n : Nat} (h : 0 ≤ i.toInt ∧ i.toInt < (n : Int)) : vp_in i n ∧ (i.toNatClampNeg : Int) = i.toInt ∧ i.toNatClampNeg < n := by
  have e : (i.toNatClampNeg : Int) = i.toInt := by
    show ((i.toInt.toNat : Nat) : Int) = i.toInt
    omega
  exact ⟨vp_in_iff.mpr h, e, by omega⟩
section SIM
variable {ad sa : Nat → Nat} {bs n0 L : Nat} {xs : Nat → Int32} {D : va_G}
variable {p : Program} {l : Launch} {e : Env} {R : Room} {s : State} {m : MethodId} {args : Array Value} {below : List Frame} {meth : Method} {c : Code} {Q : State → Prop} {mid d pc cells slots : Nat}
variable {H : Heap} {locs : List Loc} {lsJ : Array Slot} {stJ : List Value} {ls : em_L} {st : List em_V} {M : em_M} {aux : List Int} {b : List (Bool × Nat) × Nat × em_L × List em_V × em_M}

theorem w_getfield {i : Nat} {ci j t cf off : Int} (C : em_Cx sa bs n0 L xs p s m args c R mid d) (hdg : decode (em_b mid) pc = .ok (.getfield i, 3)) (hau : aux = [ci, j, t, cf, off]) (hw : (Jvm.Cond.fieldLink (em_y mid).cls i ((em_cls ci.toNat).2.1 j.toNat).1 ((em_cls ci.toNat).2.1 j.toNat).2.1 ((em_cls ci.toNat).2.1 j.toNat).2.2.1) ∈ em_tbl) (hj : j.toNat < (em_cls ci.toNat).2.2) (hft : em_ft ci.toNat j.toNat = (t, cf, off)) (h0 : 0 ≤ ci) (h1 : 0 ≤ j) (h2 : ci.toNat < 12) (h3 : 0 ≤ t ∧ t ≤ 2) (h4 : cf = 0 ∨ cf = 1) (h : em_step mid pc (.getfield i) aux ls st M = some (.inl b)) (hne : em_sel b.1 b.2.1 ≠ 999999) (hls : em_LR ad sa bs lsJ (em_mx mid) ls) (hst : em_RS ad sa bs stJ st) (hW : em_WH ad n0 L xs D s H locs M) (K : ∀ (H2 : Heap) (locs2 : List Loc) (lsJ2 : Array Slot) (stJ2 : List Value), em_LR ad sa bs lsJ2 (em_mx mid) b.2.2.1 → em_RS ad sa bs stJ2 b.2.2.2.1 → em_WH ad n0 L xs D s H2 locs2 b.2.2.2.2 → W p l e R s m args below meth c H2 locs2 cells slots Q (F0 m (em_sel b.1 b.2.1) lsJ2 stJ2)) : W p l e R s m args below meth c H locs cells slots Q (F0 m pc lsJ stJ) := by
  obtain ⟨hx, hb, hml, hown, hts, hO, hR1, hR2⟩ := C
  subst hau
  simp only [em_step] at h
  cases hg : em_p 2 st with
  | none => rw [hg] at h; cases h
  | some q =>
    rw [hg, Option.bind_some] at h
    cases h
    rw [em_p_some hg] at hst
    obtain ⟨v, r, rfl, hv, hr⟩ := em_RS_cons hst
    obtain ⟨k, rfl, hk⟩ := em_RV_r hv
    have hO2 := em_sel1 hne
    have hs : em_sel [(em_isO q.1 ci, pc + 3)] 999999 = pc + 3 := by simp only [em_sel, hO2, cond_true]
    rw [hs] at K
    rw [hk] at hO2
    have hkd := em_isO_nat hO2
    have hkd2 : em_kdn k = ci.toNat := by omega
    obtain ⟨ws, tys, hP, hD, hK, hS, hC, hX⟩ := id hW
    obtain ⟨e1, he, hcell⟩ := hC k (em_kdn_lt (by omega))
    obtain ⟨fs, rfl, hlen, hfs⟩ := hcell.1 (by omega)
    rw [hkd2] at he hlen hfs
    obtain ⟨v1, hv1, hfv⟩ := hfs j.toNat hj
    rw [hft] at hfv
    refine va_get (D := D) (cl := em_classes) (C := (em_cls ci.toNat).1) (T := (em_cls ci.toNat).2.1) (N := (em_cls ci.toNat).2.2) hx hb hts (em_u_in h2) hown hK hP k he (em_cls_get h2) j.toNat hj (hts _ hw) (fun _ z => z) hv1 hdg ?_
    refine K _ _ _ _ hls ⟨?_, hr⟩ hW
    have hjj : ((j.toNat : Nat) : Int) = j := by omega
    rcases h4 with h4 | h4
    · subst h4
      obtain ⟨f0, f1, f2⟩ := hfv.2 rfl
      have e0 : decide ((0 : Int) = 1) = false := rfl
      simp only [e0, cond_false, hk]
      rw [hjj] at f0 f1 f2
      have : t = 0 ∨ t = 1 ∨ t = 2 := by omega
      rcases this with rfl | rfl | rfl
      · obtain ⟨x, rfl, hx2⟩ := f0 rfl
        rw [← hx2]
        rfl
      · obtain ⟨x, rfl, hx2⟩ := f1 rfl
        rw [← hx2]
        rfl
      · obtain ⟨n, hn, rfl⟩ := f2 rfl
        exact Or.inl ⟨rfl, n, hn.symm, rfl⟩
    · subst h4
      obtain ⟨n, hn, rfl⟩ := hfv.1 rfl
      exact Or.inl ⟨rfl, n, by simp only [hk]; exact hn.symm, rfl⟩
theorem em_fv_i {k : Nat} {x : Int} {y : Int32} (hy : y.toInt = x) : em_fv ad (0, 0, 0) k (.int y) x := by
  unfold em_fv
  exact ⟨fun q => absurd q (by decide), fun _ => ⟨fun _ => ⟨y, rfl, hy⟩, fun q => absurd q (by decide), fun q => absurd q (by decide)⟩⟩
theorem em_fv_l {k : Nat} {x : Int} {y : Int64} (hy : y.toInt = x) : em_fv ad (1, 0, 0) k (.long y) x := by
  unfold em_fv
  exact ⟨fun q => absurd q (by decide), fun _ => ⟨fun q => absurd q (by decide), fun _ => ⟨y, rfl, hy⟩, fun q => absurd q (by decide)⟩⟩
theorem em_fv_r {k n : Nat} {x : Int} (hn : (n : Int) = x) : em_fv ad (2, 0, 0) k (.ref (ad n)) x := by
  unfold em_fv
  exact ⟨fun q => absurd q (by decide), fun _ => ⟨fun q => absurd q (by decide), fun q => absurd q (by decide), fun _ => ⟨n, hn, rfl⟩⟩⟩
theorem em_fits_i {nk x : Int} {ty : FieldType} {y : Int32} (hf : em_fty 0 nk ty = true) (hy : y.toInt = x) (hg : nk = 1 → x = 0 ∨ x = 1) : narrow ty (.int y) = .int y ∧ fits ty (.int y) = true := by
  cases ty with
  | int => exact ⟨rfl, rfl⟩
  | boolean =>
    simp only [em_fty, Bool.and_eq_true, decide_eq_true_eq] at hf
    have hz : y = 0 ∨ y = 1 := by
      rcases hg hf.2 with q | q
      · exact Or.inl (Int32.toInt_inj.mp (by rw [hy, q]; rfl))
      · exact Or.inr (Int32.toInt_inj.mp (by rw [hy, q]; rfl))
    rcases hz with rfl | rfl
    · exact ⟨rfl, rfl⟩
    · exact ⟨rfl, rfl⟩
  | long => simp [em_fty] at hf
  | object n => simp [em_fty] at hf
  | _ => cases hf
theorem em_fits_l {nk : Int} {ty : FieldType} {y : Int64} (hf : em_fty 1 nk ty = true) : narrow ty (.long y) = .long y ∧ fits ty (.long y) = true := by
  cases ty with
  | long => exact ⟨rfl, rfl⟩
  | int => simp [em_fty] at hf
  | boolean => simp [em_fty] at hf
  | object n => simp [em_fty] at hf
  | _ => cases hf
theorem em_fits_r {nk : Int} {ty : FieldType} {a : Nat} (hf : em_fty 2 nk ty = true) : narrow ty (.ref a) = .ref a ∧ fits ty (.ref a) = true := by
  cases ty with
  | object n => exact ⟨rfl, rfl⟩
  | int => simp [em_fty] at hf
  | boolean => simp [em_fty] at hf
  | long => simp [em_fty] at hf
  | _ => cases hf
theorem w_putfield {i : Nat} {ci j t nk cj : Int} {ty : FieldType} (C : em_Cx sa bs n0 L xs p s m args c R mid d) (hdg : decode (em_b mid) pc = .ok (.putfield i, 3)) (hau : aux = [ci, j, t, nk, cj]) (hw : (Jvm.Cond.fieldLink (em_y mid).cls i ((em_cls ci.toNat).2.1 j.toNat).1 ((em_cls ci.toNat).2.1 j.toNat).2.1 ((em_cls ci.toNat).2.1 j.toNat).2.2.1) ∈ em_tbl) (hj : j.toNat < (em_cls ci.toNat).2.2) (hft : em_ft ci.toNat j.toNat = (t, 0, 0)) (h0 : 0 ≤ ci) (h1 : 0 ≤ j) (h2 : ci.toNat < 12) (hfin : ((em_cls ci.toNat).2.1 j.toNat).2.2.2 = false) (hpd : parseFieldDescriptor ((em_cls ci.toNat).2.1 j.toNat).2.2.1 = some ty) (hty : em_fty t nk ty = true) (h : em_step mid pc (.putfield i) aux ls st M = some (.inl b)) (hne : em_sel b.1 b.2.1 ≠ 999999) (hls : em_LR ad sa bs lsJ (em_mx mid) ls) (hst : em_RS ad sa bs stJ st) (hW : em_WH ad n0 L xs D s H locs M) (K : ∀ (H2 : Heap) (locs2 : List Loc) (lsJ2 : Array Slot) (stJ2 : List Value), em_LR ad sa bs lsJ2 (em_mx mid) b.2.2.1 → em_RS ad sa bs stJ2 b.2.2.2.1 → em_WH ad n0 L xs D s H2 locs2 b.2.2.2.2 → W p l e R s m args below meth c H2 locs2 cells slots Q (F0 m (em_sel b.1 b.2.1) lsJ2 stJ2)) : W p l e R s m args below meth c H locs cells slots Q (F0 m pc lsJ stJ) := by
  obtain ⟨hx, hb, hml, hown, hts, hO, hR1, hR2⟩ := C
  subst hau
  simp only [em_step] at h
  obtain ⟨a1, x1, r1, rfl, h9⟩ := em_p2_some h
  clear h
  cases h9
  obtain ⟨v, t1, rfl, hv, hr⟩ := em_RS_cons hst
  obtain ⟨v2, t2, rfl, hv2, hr2⟩ := em_RS_cons hr
  obtain ⟨k, rfl, rfl⟩ := em_RV_r hv2
  have hG := em_sel1 hne
  have hs : ∀ c : Bool, c = true → em_sel [(c, pc + 3)] 999999 = pc + 3 := fun c hc => by simp only [em_sel, hc, cond_true]
  rw [hs _ hG] at K
  rw [Bool.and_eq_true] at hG
  have hkd := em_isO_nat hG.1
  have hkd2 : em_kdn k = ci.toNat := by omega
  obtain ⟨ws, tys, hP, hD, hK, hS, hC, hX⟩ := id hW
  obtain ⟨e1, he, hcell⟩ := hC k (em_kdn_lt (by omega))
  obtain ⟨fs, rfl, hlen, hfs⟩ := hcell.1 (by omega)
  rw [hkd2] at he hlen hfs
  have hjj : ((j.toNat : Nat) : Int) = j := by omega
  -- the value
  have hval : narrow ty v = v ∧ fits ty v = true ∧ em_fv ad (t, 0, 0) k v x1 := by
    have hb1 : nk = 1 → x1 = 0 ∨ x1 = 1 := fun q => by
      have h9 := hG.2
      rw [decide_eq_true q] at h9
      exact of_decide_eq_true h9
    cases ty with
    | int =>
      simp only [em_fty, Bool.and_eq_true, decide_eq_true_eq] at hty
      obtain ⟨rfl, rfl⟩ := hty
      obtain ⟨y, rfl, hy⟩ := em_RV_i hv
      exact ⟨rfl, rfl, em_fv_i hy⟩
    | boolean =>
      have hty2 := hty
      simp only [em_fty, Bool.and_eq_true, decide_eq_true_eq] at hty2
      obtain ⟨rfl, hnk⟩ := hty2
      obtain ⟨y, rfl, hy⟩ := em_RV_i hv
      obtain ⟨g1, g2⟩ := em_fits_i hty hy hb1
      exact ⟨g1, g2, em_fv_i hy⟩
    | long =>
      simp only [em_fty, Bool.and_eq_true, decide_eq_true_eq] at hty
      obtain ⟨rfl, rfl⟩ := hty
      obtain ⟨y, rfl, hy⟩ := em_RV_l hv
      exact ⟨rfl, rfl, em_fv_l hy⟩
    | object n =>
      simp only [em_fty, Bool.and_eq_true, decide_eq_true_eq] at hty
      obtain ⟨rfl, rfl⟩ := hty
      obtain ⟨n, rfl, rfl⟩ := em_RV_r hv
      exact ⟨rfl, rfl, em_fv_r rfl⟩
    | _ => cases hty
  refine va_put (D := D) (cl := em_classes) (C := (em_cls ci.toNat).1) (T := (em_cls ci.toNat).2.1) (N := (em_cls ci.toNat).2.2) hx hb hts (em_u_in h2) (em_fty0 ci.toNat) (em_fty0_ok h2) (em_nm_ok h2) hown hK hP hD hS k he (em_cls_get h2) j.toNat hj (hts _ hw) (fun _ z => z) hfin hpd hval.1 hval.2.1 (by omega) hdg (fun H1 locs1 hP1 hD1 hS1 => ?_)
  refine K _ _ _ _ hls hr2 ⟨_, tys, hP1, hD1, hK, hS1, em_cells_set hC he ?_ (fun i hi z => em_xup_ne (by omega)), em_scr_up hX (by omega)⟩
  refine ⟨fun _ => ⟨_, by rw [hkd2], by rw [List.length_set, hkd2]; exact hlen, fun i hi => ?_⟩, fun q => by omega, fun q => by omega, fun q => by omega, fun q => by omega, fun q => by omega, fun q => by omega, fun q => by omega⟩
  rw [hkd2] at hi ⊢
  by_cases hij : i = j.toNat
  · subst hij
    refine ⟨v, List.getElem?_set_self (by omega), ?_⟩
    show em_fv ad (em_ft ci.toNat j.toNat) k v (xup M (k : Int) j x1 (k : Int) ((j.toNat : Nat) : Int))
    rw [hft, hjj, em_xup_eq]
    exact hval.2.2
  · obtain ⟨v3, g1, g2⟩ := hfs i hi
    refine ⟨v3, by rw [List.getElem?_set_ne (Ne.symm hij)]; exact g1, ?_⟩
    show em_fv ad (em_ft ci.toNat i) k v3 (xup M (k : Int) j x1 (k : Int) (i : Int))
    rw [em_xup_ne2 (show (i : Int) ≠ j by omega)]
    exact g2
theorem w_getSv {i : Nat} (C : em_Cx sa bs n0 L xs p s m args c R mid d) (hdg : decode (em_b mid) pc = .ok (.getfield i, 3)) (hau : aux = [0]) (hw : (Jvm.Cond.fieldLink (em_y mid).cls i "java/lang/String" "value" "[B") ∈ em_tbl) (h : em_step mid pc (.getfield i) aux ls st M = some (.inl b)) (hne : em_sel b.1 b.2.1 ≠ 999999) (hls : em_LR ad sa bs lsJ (em_mx mid) ls) (hst : em_RS ad sa bs stJ st) (hW : em_WH ad n0 L xs D s H locs M) (K : ∀ (H2 : Heap) (locs2 : List Loc) (lsJ2 : Array Slot) (stJ2 : List Value), em_LR ad sa bs lsJ2 (em_mx mid) b.2.2.1 → em_RS ad sa bs stJ2 b.2.2.2.1 → em_WH ad n0 L xs D s H2 locs2 b.2.2.2.2 → W p l e R s m args below meth c H2 locs2 cells slots Q (F0 m (em_sel b.1 b.2.1) lsJ2 stJ2)) : W p l e R s m args below meth c H locs cells slots Q (F0 m pc lsJ stJ) := by
  obtain ⟨hx, hb, hml, hown, hts, hO, hR1, hR2⟩ := C
  subst hau
  simp only [em_step] at h
  cases hg : em_p 4 st with
  | none => rw [hg] at h; cases h
  | some q =>
    rw [hg, Option.bind_some] at h
    cases h
    rw [em_p_some hg] at hst
    obtain ⟨v, r, rfl, hv, hr⟩ := em_RS_cons hst
    obtain ⟨k, hk32, rfl, hk⟩ := em_RV_s hv
    have hG := em_sel1 hne
    have hs : ∀ c : Bool, c = true → em_sel [(c, pc + 3)] 999999 = pc + 3 := fun c hc => by simp only [em_sel, hc, cond_true]
    rw [hs _ hG] at K
    have hin := of_decide_eq_true hG
    have hk16 : k < 16 := by omega
    have hS : va_S (em_A n0) s.heap H locs := by obtain ⟨ws, tys, hP, hD, hK, hS, hC, hX⟩ := hW; exact hS
    refine vk_getf hx hb (hO.2.2.2.2.2.2.1.1 k hk16).2.2.1 hS hown (hts _ hw) (fun _ z => z) hdg ?_
    refine K _ _ _ _ hls ⟨Or.inr (Or.inl ⟨rfl, k + 16, by omega, ?_, rfl⟩), hr⟩ hW
    show q.1 + 16 = ((k + 16 : Nat) : Int)
    omega
theorem w_getSc {i : Nat} (C : em_Cx sa bs n0 L xs p s m args c R mid d) (hdg : decode (em_b mid) pc = .ok (.getfield i, 3)) (hau : aux = [1]) (hw : (Jvm.Cond.fieldLink (em_y mid).cls i "java/lang/String" "coder" "B") ∈ em_tbl) (h : em_step mid pc (.getfield i) aux ls st M = some (.inl b)) (hne : em_sel b.1 b.2.1 ≠ 999999) (hls : em_LR ad sa bs lsJ (em_mx mid) ls) (hst : em_RS ad sa bs stJ st) (hW : em_WH ad n0 L xs D s H locs M) (K : ∀ (H2 : Heap) (locs2 : List Loc) (lsJ2 : Array Slot) (stJ2 : List Value), em_LR ad sa bs lsJ2 (em_mx mid) b.2.2.1 → em_RS ad sa bs stJ2 b.2.2.2.1 → em_WH ad n0 L xs D s H2 locs2 b.2.2.2.2 → W p l e R s m args below meth c H2 locs2 cells slots Q (F0 m (em_sel b.1 b.2.1) lsJ2 stJ2)) : W p l e R s m args below meth c H locs cells slots Q (F0 m pc lsJ stJ) := by
  obtain ⟨hx, hb, hml, hown, hts, hO, hR1, hR2⟩ := C
  subst hau
  simp only [em_step] at h
  cases hg : em_p 4 st with
  | none => rw [hg] at h; cases h
  | some q =>
    rw [hg, Option.bind_some] at h
    cases h
    rw [em_p_some hg] at hst
    obtain ⟨v, r, rfl, hv, hr⟩ := em_RS_cons hst
    obtain ⟨k, hk32, rfl, hk⟩ := em_RV_s hv
    have hG := em_sel1 hne
    have hs : ∀ c : Bool, c = true → em_sel [(c, pc + 3)] 999999 = pc + 3 := fun c hc => by simp only [em_sel, hc, cond_true]
    rw [hs _ hG] at K
    have hin := of_decide_eq_true hG
    have hk16 : k < 16 := by omega
    have hS : va_S (em_A n0) s.heap H locs := by obtain ⟨ws, tys, hP, hD, hK, hS, hC, hX⟩ := hW; exact hS
    refine vk_getf hx hb (hO.2.2.2.2.2.2.1.1 k hk16).2.1 hS hown (hts _ hw) (fun _ z => z) hdg ?_
    exact K _ _ _ _ hls ⟨rfl, hr⟩ hW
theorem w_iaload  (C : em_Cx sa bs n0 L xs p s m args c R mid d) (hdg : decode (em_b mid) pc = .ok (.iaload, 1))  (h : em_step mid pc (.iaload) aux ls st M = some (.inl b)) (hne : em_sel b.1 b.2.1 ≠ 999999) (hls : em_LR ad sa bs lsJ (em_mx mid) ls) (hst : em_RS ad sa bs stJ st) (hW : em_WH ad n0 L xs D s H locs M) (K : ∀ (H2 : Heap) (locs2 : List Loc) (lsJ2 : Array Slot) (stJ2 : List Value), em_LR ad sa bs lsJ2 (em_mx mid) b.2.2.1 → em_RS ad sa bs stJ2 b.2.2.2.1 → em_WH ad n0 L xs D s H2 locs2 b.2.2.2.2 → W p l e R s m args below meth c H2 locs2 cells slots Q (F0 m (em_sel b.1 b.2.1) lsJ2 stJ2)) : W p l e R s m args below meth c H locs cells slots Q (F0 m pc lsJ stJ) := by
  obtain ⟨hx, hb, hml, hown, hts, hO, hR1, hR2⟩ := C
  simp only [em_step] at h
  cases hg : em_p 0 st with
  | none => rw [hg] at h; cases h
  | some q =>
    rw [hg, Option.bind_some] at h
    rw [em_p_some hg] at hst
    obtain ⟨x1, q2⟩ := q
    obtain ⟨v, t1, rfl, hv, hr⟩ := em_RS_cons hst
    obtain ⟨i, rfl, rfl⟩ := em_RV_i hv
    cases q2 with
    | nil => cases h
    | cons w r1 =>
      obtain ⟨wt, wx⟩ := w
      obtain ⟨v2, t2, rfl, hv2, hr2⟩ := em_RS_cons hr
      dsimp only at h
      cases h5 : Nat.beq wt 5 with
      | true =>
        rw [h5, cond_true] at h
        have e5 : wt = 5 := Nat.eq_of_beq_eq_true h5
        subst e5
        cases h
        have e2 := em_RV_x hv2
        subst e2
        have hG := em_sel1 hne
        have hs : ∀ c : Bool, c = true → em_sel [(c, pc + 1)] 999999 = pc + 1 := fun c hc => by simp only [em_sel, hc, cond_true]
        rw [hs _ hG] at K
        have hin := of_decide_eq_true hG
        obtain ⟨ws, tys, hP, hD, hK, hS, hC, hX⟩ := id hW
        rw [hX.2] at hin
        obtain ⟨g1, g2, g3⟩ := em_vpin hin
        refine va_sld hx hb hO.2.1 (Nat.lt_of_lt_of_le hO.1 hO.2.2.2.1) (fun q => absurd hO.1 (Nat.not_lt.mpr q)) hS g1 hdg ?_
        refine K _ _ _ _ hls ⟨?_, hr2⟩ hW
        have h9 := hX.1 _ g3
        rw [g2] at h9
        rw [em_RV, h9]
      | false =>
        rw [h5, cond_false] at h
        cases h6 : Nat.beq wt 2 with
        | false => rw [h6, cond_false] at h; cases h
        | true =>
          rw [h6, cond_true] at h
          have e6 : wt = 2 := Nat.eq_of_beq_eq_true h6
          subst e6
          cases h
          obtain ⟨k, rfl, rfl⟩ := em_RV_r hv2
          have hG := em_sel1 hne
          have hs : ∀ c : Bool, c = true → em_sel [(c, pc + 1)] 999999 = pc + 1 := fun c hc => by simp only [em_sel, hc, cond_true]
          rw [hs _ hG] at K
          rw [Bool.and_eq_true] at hG
          have hkd : em_kdn k = 100 := Nat.eq_of_beq_eq_true hG.1
          have hin := of_decide_eq_true hG.2
          rw [em_ln_nat] at hin
          obtain ⟨ws, tys, hP, hD, hK, hS, hC, hX⟩ := id hW
          obtain ⟨e1, he, hcell⟩ := hC k (em_kdn_lt (by omega))
          obtain ⟨cA, f, rfl, ⟨t0, ht0⟩, hf⟩ := (hcell.2.1 hkd)
          obtain ⟨g1, g2, g3⟩ := em_vpin hin
          refine va_iald hx hb hK hP k t0 he ht0 g1 hdg ?_
          refine K _ _ _ _ hls ⟨?_, hr2⟩ hW
          have h9 := hf _ g3
          rw [g2] at h9
          rw [em_RV, h9]
theorem w_laload  (C : em_Cx sa bs n0 L xs p s m args c R mid d) (hdg : decode (em_b mid) pc = .ok (.laload, 1))  (h : em_step mid pc (.laload) aux ls st M = some (.inl b)) (hne : em_sel b.1 b.2.1 ≠ 999999) (hls : em_LR ad sa bs lsJ (em_mx mid) ls) (hst : em_RS ad sa bs stJ st) (hW : em_WH ad n0 L xs D s H locs M) (K : ∀ (H2 : Heap) (locs2 : List Loc) (lsJ2 : Array Slot) (stJ2 : List Value), em_LR ad sa bs lsJ2 (em_mx mid) b.2.2.1 → em_RS ad sa bs stJ2 b.2.2.2.1 → em_WH ad n0 L xs D s H2 locs2 b.2.2.2.2 → W p l e R s m args below meth c H2 locs2 cells slots Q (F0 m (em_sel b.1 b.2.1) lsJ2 stJ2)) : W p l e R s m args below meth c H locs cells slots Q (F0 m pc lsJ stJ) := by
  obtain ⟨hx, hb, hml, hown, hts, hO, hR1, hR2⟩ := C
  simp only [em_step] at h
  obtain ⟨a1, x1, r1, rfl, h⟩ := em_p2_some h
  cases h
  obtain ⟨v, t1, rfl, hv, hr⟩ := em_RS_cons hst
  obtain ⟨v2, t2, rfl, hv2, hr2⟩ := em_RS_cons hr
  obtain ⟨i, rfl, rfl⟩ := em_RV_i hv
  obtain ⟨k, rfl, rfl⟩ := em_RV_r hv2
  have hG := em_sel1 hne
  have hs : ∀ c : Bool, c = true → em_sel [(c, pc + 1)] 999999 = pc + 1 := fun c hc => by simp only [em_sel, hc, cond_true]
  rw [hs _ hG] at K
  rw [Bool.and_eq_true] at hG
  have hkd : em_kdn k = 101 := Nat.eq_of_beq_eq_true hG.1
  have hin := of_decide_eq_true hG.2
  rw [em_ln_nat] at hin
  obtain ⟨ws, tys, hP, hD, hK, hS, hC, hX⟩ := id hW
  obtain ⟨e1, he, hcell⟩ := hC k (em_kdn_lt (by omega))
  obtain ⟨cA, f, rfl, ⟨t0, ht0⟩, hf⟩ := (hcell.2.2.1 hkd)
  obtain ⟨g1, g2, g3⟩ := em_vpin hin
  refine va_lald hx hb hK hP k t0 he ht0 g1 hdg ?_
  refine K _ _ _ _ hls ⟨?_, hr2⟩ hW
  have h9 := hf _ g3
  rw [g2] at h9
  rw [em_RV, h9]
theorem em_strs_len : em_strs.length = 16 := by decide +kernel
theorem em_slen_le : ∀ k : Nat, k < 16 → em_slen (k : Int) < 100 := by decide +kernel
theorem em_slen_nat (k : Nat) : em_slen (k : Int) = ((em_nth em_strs k []).length : Int) := by
  unfold em_slen em_str
  rw [Int.toNat_natCast]
theorem em_getD_map {α β : Type} (f : α → β) : ∀ (l : List α) (k : Nat) (z : α), k < l.length → (l.map f).getD k (f z) = f (em_nth l k z)
  | [], _, _, h => absurd h (Nat.not_lt_zero _)
  | a :: r, 0, _, _ => rfl
  | a :: r, k + 1, z, h => by
    have h1 := em_getD_map f r k z (Nat.lt_of_succ_lt_succ h)
    exact h1
theorem em_chr_ok : ∀ k : Nat, k < 16 → ∀ j : Nat, j < (em_nth em_strs k []).length → (Int32.ofInt ((em_nth em_strs k []).getD j 0)).toInt = (em_nth em_strs k []).getD j 0 := by decide +kernel
theorem em_getD_map2 (l : List Int) (j : Nat) (h : j < l.length) : (l.map Int32.ofInt).getD j 0 = Int32.ofInt (l.getD j 0) := by
  simp [List.getD_eq_getElem?_getD, h]
theorem w_baload  (C : em_Cx sa bs n0 L xs p s m args c R mid d) (hdg : decode (em_b mid) pc = .ok (.baload, 1))  (h : em_step mid pc (.baload) aux ls st M = some (.inl b)) (hne : em_sel b.1 b.2.1 ≠ 999999) (hls : em_LR ad sa bs lsJ (em_mx mid) ls) (hst : em_RS ad sa bs stJ st) (hW : em_WH ad n0 L xs D s H locs M) (K : ∀ (H2 : Heap) (locs2 : List Loc) (lsJ2 : Array Slot) (stJ2 : List Value), em_LR ad sa bs lsJ2 (em_mx mid) b.2.2.1 → em_RS ad sa bs stJ2 b.2.2.2.1 → em_WH ad n0 L xs D s H2 locs2 b.2.2.2.2 → W p l e R s m args below meth c H2 locs2 cells slots Q (F0 m (em_sel b.1 b.2.1) lsJ2 stJ2)) : W p l e R s m args below meth c H locs cells slots Q (F0 m pc lsJ stJ) := by
  obtain ⟨hx, hb, hml, hown, hts, hO, hR1, hR2⟩ := C
  simp only [em_step] at h
  cases hg : em_p 0 st with
  | none => rw [hg] at h; cases h
  | some q =>
    rw [hg, Option.bind_some] at h
    rw [em_p_some hg] at hst
    obtain ⟨x1, q2⟩ := q
    obtain ⟨v, t1, rfl, hv, hr⟩ := em_RS_cons hst
    obtain ⟨i, rfl, rfl⟩ := em_RV_i hv
    cases q2 with
    | nil => cases h
    | cons w r1 =>
      obtain ⟨wt, wx⟩ := w
      obtain ⟨v2, t2, rfl, hv2, hr2⟩ := em_RS_cons hr
      dsimp only at h
      have hs : ∀ c : Bool, c = true → em_sel [(c, pc + 1)] 999999 = pc + 1 := fun c hc => by simp only [em_sel, hc, cond_true]
      cases h5 : Nat.beq wt 4 with
      | true =>
        rw [h5, cond_true] at h
        have e5 : wt = 4 := Nat.eq_of_beq_eq_true h5
        subst e5
        cases h
        obtain ⟨k, hk32, rfl, rfl⟩ := em_RV_s hv2
        have hG := em_sel1 hne
        rw [hs _ hG] at K
        rw [Bool.and_eq_true] at hG
        have hk := of_decide_eq_true hG.1
        have hin := of_decide_eq_true hG.2
        obtain ⟨k0, rfl⟩ : ∃ k0 : Nat, k = k0 + 16 := ⟨k - 16, by omega⟩
        have hk16 : k0 < 16 := by omega
        have e16 : ((k0 + 16 : Nat) : Int) - 16 = (k0 : Int) := by omega
        rw [e16, em_slen_nat] at hin
        obtain ⟨g1, g2, g3⟩ := em_vpin hin
        have hS : va_S (em_A n0) s.heap H locs := by obtain ⟨ws, tys, hP, hD, hK, hS, hC, hX⟩ := hW; exact hS
        have hT := (hO.2.2.2.2.2.2.1.1 k0 hk16).2.2.2
        have hl1 : (em_strs.map List.length).getD k0 0 = (em_nth em_strs k0 []).length := em_getD_map List.length em_strs k0 [] (by rw [em_strs_len]; exact hk16)
        have hl2 : (em_strs.map (List.map Int32.ofInt)).getD k0 [] = (em_nth em_strs k0 []).map Int32.ofInt := em_getD_map (List.map Int32.ofInt) em_strs k0 [] (by rw [em_strs_len]; exact hk16)
        rw [hl1] at hT
        refine va_tb (v := .int (Int32.ofInt ((em_nth em_strs k0 []).getD i.toNatClampNeg 0))) hx hb hT hS g1 (by rw [hl2, em_getD_map2 _ _ g3]) hdg ?_
        refine K _ _ _ _ hls ⟨?_, hr2⟩ hW
        show (0, em_chr (((k0 + 16 : Nat) : Int) - 16) i.toInt) = _
        rw [e16]
        unfold em_chr em_str
        rw [em_chr_ok k0 hk16 _ g3, ← g2]
        rfl
      | false =>
        rw [h5, cond_false] at h
        cases h6 : Nat.beq wt 2 with
        | false => rw [h6, cond_false] at h; cases h
        | true =>
          rw [h6, cond_true] at h
          have e6 : wt = 2 := Nat.eq_of_beq_eq_true h6
          subst e6
          cases h
          obtain ⟨k, rfl, rfl⟩ := em_RV_r hv2
          have hG := em_sel1 hne
          rw [hs _ hG] at K
          rw [Bool.and_eq_true] at hG
          have hin := of_decide_eq_true hG.2
          rw [em_ln_nat] at hin
          obtain ⟨ws, tys, hP, hD, hK, hS, hC, hX⟩ := id hW
          obtain ⟨g1, g2, g3⟩ := em_vpin hin
          have hk2 : em_kdn k = 102 ∨ em_kdn k = 103 := by
            have hq := hG.1
            rw [Bool.or_eq_true] at hq
            exact hq.imp Nat.eq_of_beq_eq_true Nat.eq_of_beq_eq_true
          obtain ⟨e1, he, hcell⟩ := hC k (em_kdn_lt (by omega))
          rcases hk2 with hkd | hkd
          · obtain ⟨cA, f, rfl, ⟨t0, ht0⟩, hf⟩ := hcell.2.2.2.1 hkd
            refine va_bald hx hb hK hP k t0 he ht0 g1 hdg ?_
            refine K _ _ _ _ hls ⟨?_, hr2⟩ hW
            have h9 := hf _ g3
            rw [g2] at h9
            rw [em_RV, h9]
          · obtain ⟨cA, f, rfl, ⟨t0, ht0⟩, hf⟩ := hcell.2.2.2.2.1 hkd
            refine va_zald hx hb hK hP k t0 he ht0 g1 hdg ?_
            refine K _ _ _ _ hls ⟨?_, hr2⟩ hW
            have h9 := hf _ g3
            rw [g2] at h9
            rw [em_RV, h9]
theorem va_aldA {cc : ByteArray} {rest : List Value} {cl : List vw_C} {tys : List (ClassId × FieldType)} {ws : va_W} {a : Nat} (hexec : p.tables.exec = Jvm.exec) (hb : c.code = cc) (hK : va_K D cl tys s) (hP : va_P D cl ws H) (q0 t0 : Nat) {cA : ClassId} {ty : FieldType} (hty : ty.isReference = true) {n : Nat} {f : Nat → Option Nat} (ha : ws[q0]? = some (a, .inl (cA, n, .inr (.inr (.inr (.inr f)))))) (ht : tys[t0]? = some (cA, ty)) {i : Int32} (hin : vp_in i n) {lsx : Array Slot} (hdg : decode cc pc = .ok (.aaload, 1))
    (kk : W p l e R s m args below meth c H locs cells slots Q (F0 m (pc + 1) lsx (va_rf (f i.toNatClampNeg) :: rest))) : W p l e R s m args below meth c H locs cells slots Q (F0 m pc lsx (.int i :: .ref a :: rest)) := by
  have hlt : i.toNatClampNeg < n := Nat.not_le.mp fun q => hin (Or.inr q)
  exact W.aald (v := va_rf (f i.toNatClampNeg)) (ty := ty) hexec hb (hP q0 _ ha) ((hK.2 t0 _ ht).1 n (fun j => va_rf (f j))) hty (fun q => by cases q) (by show ¬ (i < 0 ∨ (arrV _ _ _).slots.size ≤ _); rw [arrV_size]; exact hin) (by show (arrV _ _ _).slots[_]? = _; rw [arrV_read _ _ hlt]) rfl rfl hdg kk
theorem w_aaload  (C : em_Cx sa bs n0 L xs p s m args c R mid d) (hdg : decode (em_b mid) pc = .ok (.aaload, 1))  (h : em_step mid pc (.aaload) aux ls st M = some (.inl b)) (hne : em_sel b.1 b.2.1 ≠ 999999) (hls : em_LR ad sa bs lsJ (em_mx mid) ls) (hst : em_RS ad sa bs stJ st) (hW : em_WH ad n0 L xs D s H locs M) (K : ∀ (H2 : Heap) (locs2 : List Loc) (lsJ2 : Array Slot) (stJ2 : List Value), em_LR ad sa bs lsJ2 (em_mx mid) b.2.2.1 → em_RS ad sa bs stJ2 b.2.2.2.1 → em_WH ad n0 L xs D s H2 locs2 b.2.2.2.2 → W p l e R s m args below meth c H2 locs2 cells slots Q (F0 m (em_sel b.1 b.2.1) lsJ2 stJ2)) : W p l e R s m args below meth c H locs cells slots Q (F0 m pc lsJ stJ) := by
  obtain ⟨hx, hb, hml, hown, hts, hO, hR1, hR2⟩ := C
  simp only [em_step] at h
  obtain ⟨a1, x1, r1, rfl, h9⟩ := em_p2_some h
  clear h
  cases h9
  obtain ⟨v, t1, rfl, hv, hr⟩ := em_RS_cons hst
  obtain ⟨v2, t2, rfl, hv2, hr2⟩ := em_RS_cons hr
  obtain ⟨i, rfl, rfl⟩ := em_RV_i hv
  obtain ⟨k, rfl, rfl⟩ := em_RV_r hv2
  have hG := em_sel1 hne
  have hs : ∀ c : Bool, c = true → em_sel [(c, pc + 1)] 999999 = pc + 1 := fun c hc => by simp only [em_sel, hc, cond_true]
  rw [hs _ hG] at K
  rw [Bool.and_eq_true] at hG
  have hin := of_decide_eq_true hG.2
  rw [em_ln_nat] at hin
  obtain ⟨ws, tys, hP, hD, hK, hS, hC, hX⟩ := id hW
  obtain ⟨g1, g2, g3⟩ := em_vpin hin
  have key : ∀ (ty : FieldType) (w : Nat), ty.isReference = true → (∀ e1, em_cell ad tys M k e1 → em_refs ad tys k e1 ty w) → ((bif Nat.beq (em_kd (k : Int)) 112 then 6 else 1 : Int) = (w : Int)) → em_kdn k < 200 → W p l e R s m args below meth c H locs cells slots Q (F0 m pc lsJ (.int i :: .ref (ad k) :: t2)) := by
    intro ty w hty hcl hw hlt
    obtain ⟨e1, he, hcell⟩ := hC k (em_kdn_lt (by omega))
    obtain ⟨cA, f, rfl, ⟨t0, ht0⟩, hf⟩ := hcl e1 hcell
    refine va_aldA hx hb hK hP k t0 hty he ht0 g1 hdg ?_
    rw [hf _ g3]
    refine K _ _ _ _ hls ⟨Or.inl ⟨rfl, k + 1 + i.toNatClampNeg * w, ?_, rfl⟩, hr2⟩ hW
    show (k : Int) + 1 + i.toInt * (bif Nat.beq (em_kd (k : Int)) 112 then 6 else 1) = _
    rw [hw, ← g2]
    simp
  have hq := hG.1
  rw [Bool.or_eq_true, Bool.or_eq_true] at hq
  rcases hq with hq | hq | hq
  · have hkd : em_kdn k = 110 := Nat.eq_of_beq_eq_true hq
    exact key (.array .int) 1 rfl (fun e1 h1 => h1.2.2.2.2.2.1 hkd) (by rw [em_kd_nat, hkd]; rfl) (by omega)
  · have hkd : em_kdn k = 111 := Nat.eq_of_beq_eq_true hq
    exact key (.array .long) 1 rfl (fun e1 h1 => h1.2.2.2.2.2.2.1 hkd) (by rw [em_kd_nat, hkd]; rfl) (by omega)
  · have hkd : em_kdn k = 112 := Nat.eq_of_beq_eq_true hq
    exact key (.object "EstateOffice$Estate") 6 rfl (fun e1 h1 => h1.2.2.2.2.2.2.2 hkd) (by rw [em_kd_nat, hkd]; rfl) (by omega)
theorem w_iastore  (C : em_Cx sa bs n0 L xs p s m args c R mid d) (hdg : decode (em_b mid) pc = .ok (.iastore, 1))  (h : em_step mid pc (.iastore) aux ls st M = some (.inl b)) (hne : em_sel b.1 b.2.1 ≠ 999999) (hls : em_LR ad sa bs lsJ (em_mx mid) ls) (hst : em_RS ad sa bs stJ st) (hW : em_WH ad n0 L xs D s H locs M) (K : ∀ (H2 : Heap) (locs2 : List Loc) (lsJ2 : Array Slot) (stJ2 : List Value), em_LR ad sa bs lsJ2 (em_mx mid) b.2.2.1 → em_RS ad sa bs stJ2 b.2.2.2.1 → em_WH ad n0 L xs D s H2 locs2 b.2.2.2.2 → W p l e R s m args below meth c H2 locs2 cells slots Q (F0 m (em_sel b.1 b.2.1) lsJ2 stJ2)) : W p l e R s m args below meth c H locs cells slots Q (F0 m pc lsJ stJ) := by
  obtain ⟨hx, hb, hml, hown, hts, hO, hR1, hR2⟩ := C
  simp only [em_step] at h
  cases hg : em_p 0 st with
  | none => rw [hg] at h; cases h
  | some q =>
    rw [hg, Option.bind_some] at h
    rw [em_p_some hg] at hst
    obtain ⟨x0, q2⟩ := q
    obtain ⟨v0, t0J, rfl, hv0, hr0⟩ := em_RS_cons hst
    obtain ⟨z, rfl, rfl⟩ := em_RV_i hv0
    obtain ⟨a1, x1, r1, hq2, h9⟩ := em_p2_some h
    dsimp only at hq2
    subst hq2
    clear h
    cases h9
    obtain ⟨v, t1, rfl, hv, hr⟩ := em_RS_cons hr0
    obtain ⟨v2, t2, rfl, hv2, hr2⟩ := em_RS_cons hr
    obtain ⟨i, rfl, rfl⟩ := em_RV_i hv
    obtain ⟨k, rfl, rfl⟩ := em_RV_r hv2
    have hG := em_sel1 hne
    have hs : ∀ c : Bool, c = true → em_sel [(c, pc + 1)] 999999 = pc + 1 := fun c hc => by simp only [em_sel, hc, cond_true]
    rw [hs _ hG] at K
    rw [Bool.and_eq_true] at hG
    have hkd : em_kdn k = 100 := Nat.eq_of_beq_eq_true hG.1
    have hin := of_decide_eq_true hG.2
    rw [em_ln_nat] at hin
    obtain ⟨ws, tys, hP, hD, hK, hS, hC, hX⟩ := id hW
    obtain ⟨g1, g2, g3⟩ := em_vpin hin
    obtain ⟨e1, he, hcell⟩ := hC k (em_kdn_lt (by omega))
    obtain ⟨cA, f, rfl, ⟨t0, ht0⟩, hf⟩ := hcell.2.1 hkd
    refine va_iast hx hb hK hP hD hS k t0 he ht0 g1 hdg (fun H1 locs1 hP1 hD1 hS1 => ?_)
    have hcnew : em_ints tys (xup M (k : Int) i.toInt z.toInt) k (.inl (cA, em_lnn k, .inl (upd f i.toNatClampNeg z))) .int := by
      refine ⟨cA, _, rfl, ⟨t0, ht0⟩, fun j hj => ?_⟩
      by_cases hji : j = i.toNatClampNeg
      · subst hji
        rw [g2, em_xup_eq]
        simp [upd]
      · rw [em_xup_ne2 (show (j : Int) ≠ i.toInt by omega)]
        simp only [upd, if_neg hji]
        exact hf j hj
    refine K _ _ _ _ hls hr2 ⟨_, tys, hP1, hD1, hK, hS1, em_cells_set hC he ⟨fun q => by omega, fun _ => hcnew, fun q => by omega, fun q => by omega, fun q => by omega, fun q => by omega, fun q => by omega, fun q => by omega⟩ (fun j hj z2 => em_xup_ne (by omega)), em_scr_up hX (by omega)⟩
theorem w_lastore  (C : em_Cx sa bs n0 L xs p s m args c R mid d) (hdg : decode (em_b mid) pc = .ok (.lastore, 1))  (h : em_step mid pc (.lastore) aux ls st M = some (.inl b)) (hne : em_sel b.1 b.2.1 ≠ 999999) (hls : em_LR ad sa bs lsJ (em_mx mid) ls) (hst : em_RS ad sa bs stJ st) (hW : em_WH ad n0 L xs D s H locs M) (K : ∀ (H2 : Heap) (locs2 : List Loc) (lsJ2 : Array Slot) (stJ2 : List Value), em_LR ad sa bs lsJ2 (em_mx mid) b.2.2.1 → em_RS ad sa bs stJ2 b.2.2.2.1 → em_WH ad n0 L xs D s H2 locs2 b.2.2.2.2 → W p l e R s m args below meth c H2 locs2 cells slots Q (F0 m (em_sel b.1 b.2.1) lsJ2 stJ2)) : W p l e R s m args below meth c H locs cells slots Q (F0 m pc lsJ stJ) := by
  obtain ⟨hx, hb, hml, hown, hts, hO, hR1, hR2⟩ := C
  simp only [em_step] at h
  cases hg : em_p 1 st with
  | none => rw [hg] at h; cases h
  | some q =>
    rw [hg, Option.bind_some] at h
    rw [em_p_some hg] at hst
    obtain ⟨x0, q2⟩ := q
    obtain ⟨v0, t0J, rfl, hv0, hr0⟩ := em_RS_cons hst
    obtain ⟨z, rfl, rfl⟩ := em_RV_l hv0
    obtain ⟨a1, x1, r1, hq2, h9⟩ := em_p2_some h
    dsimp only at hq2
    subst hq2
    clear h
    cases h9
    obtain ⟨v, t1, rfl, hv, hr⟩ := em_RS_cons hr0
    obtain ⟨v2, t2, rfl, hv2, hr2⟩ := em_RS_cons hr
    obtain ⟨i, rfl, rfl⟩ := em_RV_i hv
    obtain ⟨k, rfl, rfl⟩ := em_RV_r hv2
    have hG := em_sel1 hne
    have hs : ∀ c : Bool, c = true → em_sel [(c, pc + 1)] 999999 = pc + 1 := fun c hc => by simp only [em_sel, hc, cond_true]
    rw [hs _ hG] at K
    rw [Bool.and_eq_true] at hG
    have hkd : em_kdn k = 101 := Nat.eq_of_beq_eq_true hG.1
    have hin := of_decide_eq_true hG.2
    rw [em_ln_nat] at hin
    obtain ⟨ws, tys, hP, hD, hK, hS, hC, hX⟩ := id hW
    obtain ⟨g1, g2, g3⟩ := em_vpin hin
    obtain ⟨e1, he, hcell⟩ := hC k (em_kdn_lt (by omega))
    obtain ⟨cA, f, rfl, ⟨t0, ht0⟩, hf⟩ := hcell.2.2.1 hkd
    refine va_last hx hb hK hP hD hS k t0 he ht0 g1 hdg (fun H1 locs1 hP1 hD1 hS1 => ?_)
    have hcnew : em_longs tys (xup M (k : Int) i.toInt z.toInt) k (.inl (cA, em_lnn k, .inr (.inl (vp_updL f i.toNatClampNeg z)))) := by
      refine ⟨cA, _, rfl, ⟨t0, ht0⟩, fun j hj => ?_⟩
      by_cases hji : j = i.toNatClampNeg
      · subst hji
        rw [g2, em_xup_eq]
        simp [vp_updL]
      · rw [em_xup_ne2 (show (j : Int) ≠ i.toInt by omega)]
        simp only [vp_updL, if_neg hji]
        exact hf j hj
    refine K _ _ _ _ hls hr2 ⟨_, tys, hP1, hD1, hK, hS1, em_cells_set hC he ⟨fun q => by omega, fun q => by omega, fun _ => hcnew, fun q => by omega, fun q => by omega, fun q => by omega, fun q => by omega, fun q => by omega⟩ (fun j hj z2 => em_xup_ne (by omega)), em_scr_up hX (by omega)⟩
theorem em_i2b_nar (x : Int32) : x_i2b x.toInt = (vp_nar .byte x).toInt := by
  rw [x_i2b, em_oi]
  rfl
theorem em_zst_nar {x : Int32} (h : x.toInt = 0 ∨ x.toInt = 1) : x.toInt = (vp_nar .boolean x).toInt := by
  rcases h with q | q
  · have : x = 0 := Int32.toInt_inj.mp (by rw [q]; rfl)
    subst this
    rfl
  · have : x = 1 := Int32.toInt_inj.mp (by rw [q]; rfl)
    subst this
    rfl
theorem w_bastore  (C : em_Cx sa bs n0 L xs p s m args c R mid d) (hdg : decode (em_b mid) pc = .ok (.bastore, 1))  (h : em_step mid pc (.bastore) aux ls st M = some (.inl b)) (hne : em_sel b.1 b.2.1 ≠ 999999) (hls : em_LR ad sa bs lsJ (em_mx mid) ls) (hst : em_RS ad sa bs stJ st) (hW : em_WH ad n0 L xs D s H locs M) (K : ∀ (H2 : Heap) (locs2 : List Loc) (lsJ2 : Array Slot) (stJ2 : List Value), em_LR ad sa bs lsJ2 (em_mx mid) b.2.2.1 → em_RS ad sa bs stJ2 b.2.2.2.1 → em_WH ad n0 L xs D s H2 locs2 b.2.2.2.2 → W p l e R s m args below meth c H2 locs2 cells slots Q (F0 m (em_sel b.1 b.2.1) lsJ2 stJ2)) : W p l e R s m args below meth c H locs cells slots Q (F0 m pc lsJ stJ) := by
  obtain ⟨hx, hb, hml, hown, hts, hO, hR1, hR2⟩ := C
  simp only [em_step] at h
  cases hg : em_p 0 st with
  | none => rw [hg] at h; cases h
  | some q =>
    rw [hg, Option.bind_some] at h
    rw [em_p_some hg] at hst
    obtain ⟨x0, q2⟩ := q
    obtain ⟨v0, t0J, rfl, hv0, hr0⟩ := em_RS_cons hst
    obtain ⟨z, rfl, rfl⟩ := em_RV_i hv0
    obtain ⟨a1, x1, r1, hq2, h9⟩ := em_p2_some h
    dsimp only at hq2
    subst hq2
    clear h
    cases h9
    obtain ⟨v, t1, rfl, hv, hr⟩ := em_RS_cons hr0
    obtain ⟨v2, t2, rfl, hv2, hr2⟩ := em_RS_cons hr
    obtain ⟨i, rfl, rfl⟩ := em_RV_i hv
    obtain ⟨k, rfl, rfl⟩ := em_RV_r hv2
    have hG := em_sel1 hne
    have hs : ∀ c : Bool, c = true → em_sel [(c, pc + 1)] 999999 = pc + 1 := fun c hc => by simp only [em_sel, hc, cond_true]
    rw [hs _ hG] at K
    rw [Bool.and_eq_true] at hG
    have hin := of_decide_eq_true hG.2
    rw [em_ln_nat] at hin
    obtain ⟨ws, tys, hP, hD, hK, hS, hC, hX⟩ := id hW
    obtain ⟨g1, g2, g3⟩ := em_vpin hin
    have hk2 : em_kdn k = 102 ∨ (em_kdn k = 103 ∧ (z.toInt = 0 ∨ z.toInt = 1)) := by
      have hq := hG.1
      rw [Bool.or_eq_true, Bool.and_eq_true] at hq
      exact hq.imp Nat.eq_of_beq_eq_true (fun q => ⟨Nat.eq_of_beq_eq_true q.1, of_decide_eq_true q.2⟩)
    obtain ⟨e1, he, hcell⟩ := hC k (em_kdn_lt (by omega))
    rcases hk2 with hkd | ⟨hkd, hz⟩
    · obtain ⟨cA, f, rfl, ⟨t0, ht0⟩, hf⟩ := hcell.2.2.2.1 hkd
      refine va_bast hx hb hK hP hD hS k t0 he ht0 g1 hdg (fun H1 locs1 hP1 hD1 hS1 => ?_)
      have hcnew : em_ints tys (xup M (k : Int) i.toInt (vp_nar .byte z).toInt) k (.inl (cA, em_lnn k, .inl (upd f i.toNatClampNeg (vp_nar .byte z)))) .byte := by
        refine ⟨cA, _, rfl, ⟨t0, ht0⟩, fun j hj => ?_⟩
        by_cases hji : j = i.toNatClampNeg
        · subst hji
          rw [g2, em_xup_eq]
          simp [upd]
        · rw [em_xup_ne2 (show (j : Int) ≠ i.toInt by omega)]
          simp only [upd, if_neg hji]
          exact hf j hj
      have hM2 : (xup M (k : Int) i.toInt (bif Nat.beq (em_kd (k : Int)) 102 then x_i2b z.toInt else z.toInt)) = xup M (k : Int) i.toInt (vp_nar .byte z).toInt := by
        rw [em_kd_nat, hkd]
        exact congrArg _ (em_i2b_nar z)
      refine K _ _ _ _ hls hr2 ?_
      show em_WH ad n0 L xs D s H1 locs1 (xup M (k : Int) i.toInt (bif Nat.beq (em_kd (k : Int)) 102 then x_i2b z.toInt else z.toInt))
      rw [hM2]
      exact ⟨_, tys, hP1, hD1, hK, hS1, em_cells_set hC he ⟨fun q => by omega, fun q => by omega, fun q => by omega, fun _ => hcnew, fun q => by omega, fun q => by omega, fun q => by omega, fun q => by omega⟩ (fun j hj z2 => em_xup_ne (by omega)), em_scr_up hX (by omega)⟩
    · obtain ⟨cA, f, rfl, ⟨t0, ht0⟩, hf⟩ := hcell.2.2.2.2.1 hkd
      refine va_zast hx hb hK hP hD hS k t0 he ht0 g1 hdg (fun H1 locs1 hP1 hD1 hS1 => ?_)
      have hcnew : em_ints tys (xup M (k : Int) i.toInt (vp_nar .boolean z).toInt) k (.inl (cA, em_lnn k, .inl (upd f i.toNatClampNeg (vp_nar .boolean z)))) .boolean := by
        refine ⟨cA, _, rfl, ⟨t0, ht0⟩, fun j hj => ?_⟩
        by_cases hji : j = i.toNatClampNeg
        · subst hji
          rw [g2, em_xup_eq]
          simp [upd]
        · rw [em_xup_ne2 (show (j : Int) ≠ i.toInt by omega)]
          simp only [upd, if_neg hji]
          exact hf j hj
      have hM2 : (xup M (k : Int) i.toInt (bif Nat.beq (em_kd (k : Int)) 102 then x_i2b z.toInt else z.toInt)) = xup M (k : Int) i.toInt (vp_nar .boolean z).toInt := by
        rw [em_kd_nat, hkd]
        exact congrArg _ (em_zst_nar hz)
      refine K _ _ _ _ hls hr2 ?_
      show em_WH ad n0 L xs D s H1 locs1 (xup M (k : Int) i.toInt (bif Nat.beq (em_kd (k : Int)) 102 then x_i2b z.toInt else z.toInt))
      rw [hM2]
      exact ⟨_, tys, hP1, hD1, hK, hS1, em_cells_set hC he ⟨fun q => by omega, fun q => by omega, fun q => by omega, fun q => by omega, fun _ => hcnew, fun q => by omega, fun q => by omega, fun q => by omega⟩ (fun j hj z2 => em_xup_ne (by omega)), em_scr_up hX (by omega)⟩
end SIM
