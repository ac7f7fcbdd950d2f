/-! SOUNDNESS, lengths, copies, calls, answers; the walk of a method. Written by wip/gen/sound3.py. -/
theorem em_wmx1 : Jvm.Cond.static Lib.Math.max.name ∈ em_tbl := em_wd_mem (i := 781) (by decide +kernel)
theorem em_wmx2 : Jvm.Cond.initialized "java/lang/Math" ∈ em_tbl := em_wd_mem (i := 122) (by decide +kernel)
theorem em_wmx3 : Jvm.Cond.code Lib.Math.max.name Lib.Math.max.code 2 (some .int) ∈ em_tbl := em_wd_mem (i := 782) (by decide +kernel)
theorem em_wmn1 : Jvm.Cond.static Lib.Math.min.name ∈ em_tbl := em_wd_mem (i := 784) (by decide +kernel)
theorem em_wmn3 : Jvm.Cond.code Lib.Math.min.name Lib.Math.min.code 2 (some .int) ∈ em_tbl := em_wd_mem (i := 785) (by decide +kernel)
theorem em_wac1 : Jvm.Cond.static arraycopyName ∈ em_tbl := em_wd_mem (i := 1103) (by decide +kernel)
theorem em_wac2 : Jvm.Cond.native arraycopyName ∈ em_tbl := em_wd_mem (i := 1104) (by decide +kernel)
theorem em_wac3 : Jvm.Cond.initialized "java/lang/System" ∈ em_tbl := em_wd_mem (i := 126) (by decide +kernel)
theorem em_kds_all : (List.range 520).all (fun k => decide (em_lnn k < 10000) && (Nat.ble 200 (em_kdn k) || Nat.blt (em_kdn k) 12 || Nat.beq (em_kdn k) 100 || Nat.beq (em_kdn k) 101 || Nat.beq (em_kdn k) 102 || Nat.beq (em_kdn k) 103 || Nat.beq (em_kdn k) 110 || Nat.beq (em_kdn k) 111 || Nat.beq (em_kdn k) 112)) = true := by decide +kernel
theorem em_lnn_lt {k : Nat} (h : k < 520) : em_lnn k < 10000 := by
  have h1 := List.all_eq_true.mp em_kds_all k (List.mem_range.mpr h)
  rw [Bool.and_eq_true] at h1
  exact of_decide_eq_true h1.1
theorem em_kds {k : Nat} (h : k < 520) (h1 : 12 ≤ em_kdn k) (h2 : em_kdn k < 200) : em_kdn k = 100 ∨ em_kdn k = 101 ∨ em_kdn k = 102 ∨ em_kdn k = 103 ∨ em_kdn k = 110 ∨ em_kdn k = 111 ∨ em_kdn k = 112 := by
  have h3 := List.all_eq_true.mp em_kds_all k (List.mem_range.mpr h)
  rw [Bool.and_eq_true] at h3
  have h4 := h3.2
  simp only [Bool.or_eq_true] at h4
  have q1 : ¬ Nat.ble 200 (em_kdn k) = true := fun q => by have := Nat.le_of_ble_eq_true q; omega
  have q2 : ¬ Nat.blt (em_kdn k) 12 = true := fun q => by have : em_kdn k + 1 ≤ 12 := Nat.le_of_ble_eq_true q; omega
  rcases h4 with ((((((((h4 | h4) | h4) | h4) | h4) | h4) | h4) | h4) | h4)
  · exact absurd h4 q1
  · exact absurd h4 q2
  all_goals (have := Nat.eq_of_beq_eq_true h4; omega)
section SIM
variable {ad sa : Nat → Nat} {bs n0 L : Nat} {xs : Nat → Int32} {D : va_G}
variable {p : Program} {l : Launch} {e : Env} {R : Room} {s : State} {m : MethodId} {args : Array Value} {below : List Frame} {meth : Method} {c : Code} {Q : State → Prop} {mid d pc cells slots : Nat}
variable {H : Heap} {locs : List Loc} {lsJ : Array Slot} {stJ : List Value} {ls : em_L} {st : List em_V} {M : em_M} {aux : List Int} {b : List (Bool × Nat) × Nat × em_L × List em_V × em_M}

theorem w_arraylength  (C : em_Cx sa bs n0 L xs p s m args c R mid d) (hdg : decode (em_b mid) pc = .ok (.arraylength, 1))  (h : em_step mid pc (.arraylength) aux ls st M = some (.inl b)) (hne : em_sel b.1 b.2.1 ≠ 999999) (hls : em_LR ad sa bs lsJ (em_mx mid) ls) (hst : em_RS ad sa bs stJ st) (hW : em_WH ad n0 L xs D s H locs M) (K : ∀ (H2 : Heap) (locs2 : List Loc) (lsJ2 : Array Slot) (stJ2 : List Value), em_LR ad sa bs lsJ2 (em_mx mid) b.2.2.1 → em_RS ad sa bs stJ2 b.2.2.2.1 → em_WH ad n0 L xs D s H2 locs2 b.2.2.2.2 → W p l e R s m args below meth c H2 locs2 cells slots Q (F0 m (em_sel b.1 b.2.1) lsJ2 stJ2)) : W p l e R s m args below meth c H locs cells slots Q (F0 m pc lsJ stJ) := by
  obtain ⟨hx, hb, hml, hown, hts, hO, hR1, hR2⟩ := C
  cases st with
  | nil => cases h
  | cons w r1 =>
    obtain ⟨wt, wx⟩ := w
    obtain ⟨v2, t2, rfl, hv2, hr2⟩ := em_RS_cons hst
    simp only [em_step] at h
    cases h5 : Nat.beq wt 5 with
    | true =>
      rw [h5, cond_true] at h
      have e5 : wt = 5 := Nat.eq_of_beq_eq_true h5
      subst e5
      cases h
      have e2 := em_RV_x hv2
      subst e2
      obtain ⟨ws, tys, hP, hD, hK, hS, hC, hX⟩ := id hW
      refine va_slen hx hb hO.2.1 (Nat.lt_of_lt_of_le hO.1 hO.2.2.2.1) (fun q => absurd hO.1 (Nat.not_lt.mpr q)) hS hdg ?_
      refine K _ _ _ _ hls ⟨?_, hr2⟩ hW
      have h9 : (Int32.ofNat L).toInt = (L : Int) := nI_toInt (by have := hO.2.2.1; omega)
      rw [em_RV, hX.2, h9]
    | false =>
      rw [h5, cond_false] at h
      cases h4 : Nat.beq wt 4 with
      | true =>
        rw [h4, cond_true] at h
        have e4 : wt = 4 := Nat.eq_of_beq_eq_true h4
        subst e4
        cases h
        obtain ⟨k, hk32, rfl, rfl⟩ := em_RV_s hv2
        have hG := em_sel1 hne
        have hs : ∀ c : Bool, c = true → em_sel [(c, pc + 1)] 999999 = pc + 1 := fun c hc => by simp only [em_sel, hc, cond_true]
        rw [hs _ hG] at K
        have hk := of_decide_eq_true hG
        obtain ⟨k0, rfl⟩ : ∃ k0 : Nat, k = k0 + 16 := ⟨k - 16, by omega⟩
        have hk16 : k0 < 16 := by omega
        have e16 : ((k0 + 16 : Nat) : Int) - 16 = (k0 : Int) := by omega
        have hS : va_S (em_A n0) s.heap H locs := by obtain ⟨ws, tys, hP, hD, hK, hS, hC, hX⟩ := hW; exact hS
        have hT := (hO.2.2.2.2.2.2.1.1 k0 hk16).2.2.2
        have hl1 : (em_strs.map List.length).getD k0 0 = (em_nth em_strs k0 []).length := em_getD_map List.length em_strs k0 [] (by rw [em_strs_len]; exact hk16)
        rw [hl1] at hT
        refine va_tlen (v := Int32.ofNat (em_nth em_strs k0 []).length) hx hb hT hS rfl hdg ?_
        refine K _ _ _ _ hls ⟨?_, hr2⟩ hW
        have hlt := em_slen_le k0 hk16
        rw [em_slen_nat] at hlt
        have h9 : (Int32.ofNat (em_nth em_strs k0 []).length).toInt = ((em_nth em_strs k0 []).length : Int) := nI_toInt (by omega)
        show (0, em_slen (((k0 + 16 : Nat) : Int) - 16)) = _
        rw [e16, em_slen_nat, h9]
      | false =>
       rw [h4, cond_false] at h
       cases h6 : Nat.beq wt 2 with
       | false => rw [h6, cond_false] at h; cases h
       | true =>
        rw [h6, cond_true] at h
        have e6 : wt = 2 := Nat.eq_of_beq_eq_true h6
        subst e6
        cases h
        obtain ⟨k, rfl, rfl⟩ := em_RV_r hv2
        have hG := em_sel1 hne
        have hs : ∀ c : Bool, c = true → em_sel [(c, pc + 1)] 999999 = pc + 1 := fun c hc => by simp only [em_sel, hc, cond_true]
        rw [hs _ hG] at K
        rw [Bool.and_eq_true] at hG
        have hk1 : 100 ≤ em_kdn k := Nat.le_of_ble_eq_true hG.1
        have hk2 : em_kdn k < 200 := Nat.le_of_ble_eq_true hG.2
        have hk3 := em_kdn_lt (k := k) (by omega)
        obtain ⟨ws, tys, hP, hD, hK, hS, hC, hX⟩ := id hW
        obtain ⟨e1, he, hcell⟩ := hC k hk3
        have h9 : (Int32.ofNat (em_lnn k)).toInt = (em_lnn k : Int) := nI_toInt (by have := em_lnn_lt hk3; omega)
        have key : ∀ (cA : ClassId) (ty : FieldType) (x : vp_A) (t0 : Nat), x.1 = em_lnn k → e1 = .inl (cA, x) → tys[t0]? = some (cA, ty) → W p l e R s m args below meth c H locs cells slots Q (F0 m pc lsJ (.ref (ad k) :: t2)) := by
          intro cA ty x t0 hx1 hx2 hx3
          subst hx2
          refine va_alen (v := Int32.ofNat (em_lnn k)) hx hb hK hP k t0 he hx3 (by rw [hx1]) hdg ?_
          refine K _ _ _ _ hls ⟨?_, hr2⟩ hW
          rw [em_RV, h9]
          rfl
        rcases em_kds hk3 (by omega) hk2 with hkd | hkd | hkd | hkd | hkd | hkd | hkd
        · obtain ⟨cA, f, hE, ⟨t0, ht0⟩, hf⟩ := hcell.2.1 hkd
          exact key cA _ _ t0 rfl hE ht0
        · obtain ⟨cA, f, hE, ⟨t0, ht0⟩, hf⟩ := hcell.2.2.1 hkd
          exact key cA _ _ t0 rfl hE ht0
        · obtain ⟨cA, f, hE, ⟨t0, ht0⟩, hf⟩ := hcell.2.2.2.1 hkd
          exact key cA _ _ t0 rfl hE ht0
        · obtain ⟨cA, f, hE, ⟨t0, ht0⟩, hf⟩ := hcell.2.2.2.2.1 hkd
          exact key cA _ _ t0 rfl hE ht0
        · obtain ⟨cA, f, hE, ⟨t0, ht0⟩, hf⟩ := hcell.2.2.2.2.2.1 hkd
          exact key cA _ _ t0 rfl hE ht0
        · obtain ⟨cA, f, hE, ⟨t0, ht0⟩, hf⟩ := hcell.2.2.2.2.2.2.1 hkd
          exact key cA _ _ t0 rfl hE ht0
        · obtain ⟨cA, f, hE, ⟨t0, ht0⟩, hf⟩ := hcell.2.2.2.2.2.2.2 hkd
          exact key cA _ _ t0 rfl hE ht0
theorem w_max {i : Nat} (C : em_Cx sa bs n0 L xs p s m args c R mid d) (hdg : decode (em_b mid) pc = .ok (.invokestatic i, 3)) (hw : (Jvm.Cond.methodLink (em_y mid).cls i Lib.Math.max.name) ∈ em_tbl) (hcs : cells ≤ R.cells ∧ slots ≤ R.slots) (h : em_prim pc 1 ls st M = some (.inl b)) (hne : em_sel b.1 b.2.1 ≠ 999999) (hls : em_LR ad sa bs lsJ (em_mx mid) ls) (hst : em_RS ad sa bs stJ st) (hW : em_WH ad n0 L xs D s H locs M) (K : ∀ (H2 : Heap) (locs2 : List Loc) (lsJ2 : Array Slot) (stJ2 : List Value), em_LR ad sa bs lsJ2 (em_mx mid) b.2.2.1 → em_RS ad sa bs stJ2 b.2.2.2.1 → em_WH ad n0 L xs D s H2 locs2 b.2.2.2.2 → W p l e R s m args below meth c H2 locs2 cells slots Q (F0 m (em_sel b.1 b.2.1) lsJ2 stJ2)) : W p l e R s m args below meth c H locs cells slots Q (F0 m pc lsJ stJ) := by
  obtain ⟨hx, hb, hml, hown, hts, hO, hR1, hR2⟩ := C
  obtain ⟨a1, b1, r1, rfl, h9⟩ := em_p2_some (show em_p2 0 0 st (fun a b r => em_if (Nat.ble (em_cat r) 8) (pc + 3) ls ((0, max a b) :: r) M) = some (.inl b) from h)
  clear h
  cases h9
  obtain ⟨v2, t1, rfl, hv2, hr⟩ := em_RS_cons hst
  obtain ⟨v1, t2, rfl, hv1, hr2⟩ := em_RS_cons hr
  obtain ⟨y, rfl, rfl⟩ := em_RV_i hv2
  obtain ⟨x, rfl, rfl⟩ := em_RV_i hv1
  have hG := em_sel1 hne
  have hs : ∀ c : Bool, c = true → em_sel [(c, pc + 3)] 999999 = pc + 3 := fun c hc => by simp only [em_sel, hc, cond_true]
  rw [hs _ hG] at K
  have hcat : em_cat r1 ≤ 8 := Nat.le_of_ble_eq_true hG
  have hsz : c.maxLocals = lsJ.size := by obtain ⟨l0, h1, -⟩ := hls; rw [h1.1, hml]
  have hval : max x.toInt y.toInt = (if x < y then y else x).toInt := by
    by_cases q : x < y
    · rw [if_pos q]
      have := Int32.lt_iff_toInt_lt.mp q
      omega
    · rw [if_neg q]
      have : ¬ x.toInt < y.toInt := fun z => q (Int32.lt_iff_toInt_lt.mpr z)
      omega
  refine va_mmax hx hb hsz hown (hts _ hw) (hts _ em_wmx1) (hts _ em_wmx2) (hts _ em_wmx3) (by omega) (by rw [em_RS_cat hr2]; omega) hcs.1 hcs.2 hdg ?_
  exact K _ _ _ _ hls ⟨by rw [em_RV, hval], hr2⟩ hW
theorem w_min {i : Nat} (C : em_Cx sa bs n0 L xs p s m args c R mid d) (hdg : decode (em_b mid) pc = .ok (.invokestatic i, 3)) (hw : (Jvm.Cond.methodLink (em_y mid).cls i Lib.Math.min.name) ∈ em_tbl) (hcs : cells ≤ R.cells ∧ slots ≤ R.slots) (h : em_prim pc 2 ls st M = some (.inl b)) (hne : em_sel b.1 b.2.1 ≠ 999999) (hls : em_LR ad sa bs lsJ (em_mx mid) ls) (hst : em_RS ad sa bs stJ st) (hW : em_WH ad n0 L xs D s H locs M) (K : ∀ (H2 : Heap) (locs2 : List Loc) (lsJ2 : Array Slot) (stJ2 : List Value), em_LR ad sa bs lsJ2 (em_mx mid) b.2.2.1 → em_RS ad sa bs stJ2 b.2.2.2.1 → em_WH ad n0 L xs D s H2 locs2 b.2.2.2.2 → W p l e R s m args below meth c H2 locs2 cells slots Q (F0 m (em_sel b.1 b.2.1) lsJ2 stJ2)) : W p l e R s m args below meth c H locs cells slots Q (F0 m pc lsJ stJ) := by
  obtain ⟨hx, hb, hml, hown, hts, hO, hR1, hR2⟩ := C
  obtain ⟨a1, b1, r1, rfl, h9⟩ := em_p2_some (show em_p2 0 0 st (fun a b r => em_if (Nat.ble (em_cat r) 8) (pc + 3) ls ((0, min a b) :: r) M) = some (.inl b) from h)
  clear h
  cases h9
  obtain ⟨v2, t1, rfl, hv2, hr⟩ := em_RS_cons hst
  obtain ⟨v1, t2, rfl, hv1, hr2⟩ := em_RS_cons hr
  obtain ⟨y, rfl, rfl⟩ := em_RV_i hv2
  obtain ⟨x, rfl, rfl⟩ := em_RV_i hv1
  have hG := em_sel1 hne
  have hs : ∀ c : Bool, c = true → em_sel [(c, pc + 3)] 999999 = pc + 3 := fun c hc => by simp only [em_sel, hc, cond_true]
  rw [hs _ hG] at K
  have hcat : em_cat r1 ≤ 8 := Nat.le_of_ble_eq_true hG
  have hsz : c.maxLocals = lsJ.size := by obtain ⟨l0, h1, -⟩ := hls; rw [h1.1, hml]
  have hval : min x.toInt y.toInt = (if y < x then y else x).toInt := by
    by_cases q : y < x
    · rw [if_pos q]
      have := Int32.lt_iff_toInt_lt.mp q
      omega
    · rw [if_neg q]
      have : ¬ y.toInt < x.toInt := fun z => q (Int32.lt_iff_toInt_lt.mpr z)
      omega
  refine va_mmin hx hb hsz hown (hts _ hw) (hts _ em_wmn1) (hts _ em_wmx2) (hts _ em_wmn3) (by omega) (by rw [em_RS_cat hr2]; omega) hcs.1 hcs.2 hdg ?_
  exact K _ _ _ _ hls ⟨by rw [em_RV, hval], hr2⟩ hW
theorem em_n0 {z : Int32} (h : 0 ≤ z.toInt) : ¬ z < 0 ∧ (z.toNatClampNeg : Int) = z.toInt := by
  refine ⟨fun q => ?_, ?_⟩
  · have := Int32.lt_iff_toInt_lt.mp q
    have h0 : (0 : Int32).toInt = 0 := rfl
    omega
  · show ((z.toInt.toNat : Nat) : Int) = z.toInt
    omega
theorem em_nfw : nativeFrameWords "java/lang/System" "arraycopy" 5 = 7 := by decide +kernel
theorem em_xcpy_in {M : em_M} {a sp d2 dp n j : Int} (h : dp ≤ j ∧ j < dp + n) : xcpy M a sp d2 dp n d2 j = M a (sp + (j - dp)) := if_pos ⟨rfl, h⟩
theorem em_xcpy_out {M : em_M} {a sp d2 dp n j : Int} (h : ¬ (dp ≤ j ∧ j < dp + n)) : xcpy M a sp d2 dp n d2 j = M d2 j := if_neg (fun q => h q.2)
theorem em_scr_cpy {M : em_M} {a sp d2 dp n : Int} (h : em_scr L xs M) (ha : 0 ≤ d2) : em_scr L xs (xcpy M a sp d2 dp n) := by
  refine ⟨fun j hj => ?_, ?_⟩
  · rw [h.1 j hj]
    have : ¬ ((-1 : Int) = d2 ∧ dp ≤ (j : Int) ∧ (j : Int) < dp + n) := fun q => by omega
    simp only [xcpy, if_neg this]
  · have : ¬ ((-2 : Int) = d2 ∧ dp ≤ (0 : Int) ∧ (0 : Int) < dp + n) := fun q => by omega
    simp only [xcpy, if_neg this]
    exact h.2
theorem w_copy {i : Nat} (C : em_Cx sa bs n0 L xs p s m args c R mid d) (hdg : decode (em_b mid) pc = .ok (.invokestatic i, 3)) (hw : (Jvm.Cond.methodLink (em_y mid).cls i arraycopyName) ∈ em_tbl) (h : em_prim pc 3 ls st M = some (.inl b)) (hne : em_sel b.1 b.2.1 ≠ 999999) (hls : em_LR ad sa bs lsJ (em_mx mid) ls) (hst : em_RS ad sa bs stJ st) (hW : em_WH ad n0 L xs D s H locs M) (K : ∀ (H2 : Heap) (locs2 : List Loc) (lsJ2 : Array Slot) (stJ2 : List Value), em_LR ad sa bs lsJ2 (em_mx mid) b.2.2.1 → em_RS ad sa bs stJ2 b.2.2.2.1 → em_WH ad n0 L xs D s H2 locs2 b.2.2.2.2 → W p l e R s m args below meth c H2 locs2 cells slots Q (F0 m (em_sel b.1 b.2.1) lsJ2 stJ2)) : W p l e R s m args below meth c H locs cells slots Q (F0 m pc lsJ stJ) := by
  obtain ⟨hx, hb, hml, hown, hts, hO, hR1, hR2⟩ := C
  have h8 : ((em_p 0 st).bind fun n => em_p2 2 0 n.2 fun dst dp r => em_p2 2 0 r fun src sp r => em_if (Nat.beq (em_kd src) (em_kd dst) && (Nat.beq (em_kd src) 100 || Nat.beq (em_kd src) 101) && Nat.ble (em_cat r) 8 && decide (0 ≤ sp ∧ 0 ≤ dp ∧ 0 ≤ n.1 ∧ sp + n.1 ≤ em_ln src ∧ dp + n.1 ≤ em_ln dst)) (pc + 3) ls r (xcpy M src sp dst dp n.1)) = some (.inl b) := h
  clear h
  cases hg0 : em_p 0 st with
  | none => rw [hg0] at h8; cases h8
  | some q =>
    rw [hg0, Option.bind_some] at h8
    rw [em_p_some hg0] at hst
    obtain ⟨n1, q2⟩ := q
    obtain ⟨a2, x2, r2, hq2, h9⟩ := em_p2_some h8
    dsimp only at hq2
    subst hq2
    obtain ⟨a3, x3, r3, hq3, h10⟩ := em_p2_some h9
    subst hq3
    clear h8 h9
    cases h10
    obtain ⟨v1, t1J, rfl, hv1, hr1⟩ := em_RS_cons hst
    obtain ⟨v2, t2J, rfl, hv2, hr2⟩ := em_RS_cons hr1
    obtain ⟨v3, t3J, rfl, hv3, hr3⟩ := em_RS_cons hr2
    obtain ⟨v4, t4J, rfl, hv4, hr4⟩ := em_RS_cons hr3
    obtain ⟨v5, t5J, rfl, hv5, hr5⟩ := em_RS_cons hr4
    obtain ⟨n, rfl, rfl⟩ := em_RV_i hv1
    obtain ⟨dp, rfl, rfl⟩ := em_RV_i hv2
    obtain ⟨k2, rfl, rfl⟩ := em_RV_r hv3
    obtain ⟨sp, rfl, rfl⟩ := em_RV_i hv4
    obtain ⟨k1, rfl, rfl⟩ := em_RV_r hv5
    have hG := em_sel1 hne
    have hs : ∀ c : Bool, c = true → em_sel [(c, pc + 3)] 999999 = pc + 3 := fun c hc => by simp only [em_sel, hc, cond_true]
    rw [hs _ hG] at K
    rw [Bool.and_eq_true, Bool.and_eq_true, Bool.and_eq_true] at hG
    obtain ⟨⟨⟨hkk, hkk2⟩, hcat0⟩, hdec⟩ := hG
    have hcat : em_cat r3 ≤ 8 := Nat.le_of_ble_eq_true hcat0
    have hin := of_decide_eq_true hdec
    dsimp only at hin
    rw [em_ln_nat, em_ln_nat] at hin
    obtain ⟨i1, i2, i3, i4, i5⟩ := hin
    have ns := em_n0 i1
    have nd := em_n0 i2
    have nn := em_n0 i3
    have hk12 : em_kdn k1 = em_kdn k2 := Nat.eq_of_beq_eq_true hkk
    have hsz : c.maxLocals = lsJ.size := by obtain ⟨l0, h1, -⟩ := hls; rw [h1.1, hml]
    have hkd : em_kdn k1 = 100 ∨ em_kdn k1 = 101 := by
      rw [Bool.or_eq_true] at hkk2
      exact hkk2.imp Nat.eq_of_beq_eq_true Nat.eq_of_beq_eq_true
    obtain ⟨ws, tys, hP, hD, hK, hS, hC, hX⟩ := id hW
    obtain ⟨e1, he1, hcell1⟩ := hC k1 (em_kdn_lt (by omega))
    obtain ⟨e2, he2, hcell2⟩ := hC k2 (em_kdn_lt (by omega))
    rcases hkd with hkd1 | hkd1
    · obtain ⟨cA, f, rfl, ⟨t0, ht0⟩, hf⟩ := hcell1.2.1 hkd1
      obtain ⟨cB, g, rfl, ⟨t1, ht1⟩, hg⟩ := hcell2.2.1 (by omega)
      refine va_copyi (ty := .int) hx hb hsz hown (hts _ hw) (hts _ em_wac2) (hts _ em_wac1) (hts _ em_wac3) hK hP hD hS k1 k2 t0 t1 he1 he2 ht0 ht1 rfl ns.1 nd.1 nn.1 (by omega) (by omega) (fun _ _ => rfl) (by omega) (by rw [em_RS_cat hr5, em_nfw]; omega) hdg (fun H1 locs1 hP1 hD1 hS1 => ?_)
      have hcnew : em_ints tys (xcpy M (k1 : Int) sp.toInt (k2 : Int) dp.toInt n.toInt) k2 (.inl (cB, em_lnn k2, .inl (va_cpy f g sp.toNatClampNeg dp.toNatClampNeg n.toNatClampNeg))) .int := by
        refine ⟨cB, _, rfl, ⟨t1, ht1⟩, fun j hj => ?_⟩
        by_cases hji : dp.toNatClampNeg ≤ j ∧ j < dp.toNatClampNeg + n.toNatClampNeg
        · have h7 := hf (sp.toNatClampNeg + (j - dp.toNatClampNeg)) (by omega)
          rw [em_xcpy_in (by omega), pk_cpy_in hji.1 hji.2, h7]
          exact congrArg (M (k1 : Int)) (by omega)
        · rw [em_xcpy_out (by omega), pk_cpy_out (by omega)]
          exact hg j hj
      refine K _ _ _ _ hls hr5 ⟨_, tys, hP1, hD1, hK, hS1, em_cells_set hC he2 ⟨fun q => by omega, fun _ => hcnew, fun q => by omega, fun q => by omega, fun q => by omega, fun q => by omega, fun q => by omega, fun q => by omega⟩ (fun j hj z => ?_), em_scr_cpy hX (by omega)⟩
      show xcpy M (k1 : Int) sp.toInt (k2 : Int) dp.toInt n.toInt (j : Int) z = M (j : Int) z
      simp only [xcpy]
      rw [if_neg (fun q => by omega)]
    · obtain ⟨cA, f, rfl, ⟨t0, ht0⟩, hf⟩ := hcell1.2.2.1 hkd1
      obtain ⟨cB, g, rfl, ⟨t1, ht1⟩, hg⟩ := hcell2.2.2.1 (by omega)
      refine va_copyl (ty := .long) hx hb hsz hown (hts _ hw) (hts _ em_wac2) (hts _ em_wac1) (hts _ em_wac3) hK hP hD hS k1 k2 t0 t1 he1 he2 ht0 ht1 rfl ns.1 nd.1 nn.1 (by omega) (by omega) (fun _ _ => rfl) (by omega) (by rw [em_RS_cat hr5, em_nfw]; omega) hdg (fun H1 locs1 hP1 hD1 hS1 => ?_)
      have hcnew : em_longs tys (xcpy M (k1 : Int) sp.toInt (k2 : Int) dp.toInt n.toInt) k2 (.inl (cB, em_lnn k2, .inr (.inl (va_cpy f g sp.toNatClampNeg dp.toNatClampNeg n.toNatClampNeg)))) := by
        refine ⟨cB, _, rfl, ⟨t1, ht1⟩, fun j hj => ?_⟩
        by_cases hji : dp.toNatClampNeg ≤ j ∧ j < dp.toNatClampNeg + n.toNatClampNeg
        · have h7 := hf (sp.toNatClampNeg + (j - dp.toNatClampNeg)) (by omega)
          rw [em_xcpy_in (by omega), pk_cpy_in hji.1 hji.2, h7]
          exact congrArg (M (k1 : Int)) (by omega)
        · rw [em_xcpy_out (by omega), pk_cpy_out (by omega)]
          exact hg j hj
      refine K _ _ _ _ hls hr5 ⟨_, tys, hP1, hD1, hK, hS1, em_cells_set hC he2 ⟨fun q => by omega, fun q => by omega, fun _ => hcnew, fun q => by omega, fun q => by omega, fun q => by omega, fun q => by omega, fun q => by omega⟩ (fun j hj z => ?_), em_scr_cpy hX (by omega)⟩
      show xcpy M (k1 : Int) sp.toInt (k2 : Int) dp.toInt n.toInt (j : Int) z = M (j : Int) z
      simp only [xcpy]
      rw [if_neg (fun q => by omega)]
end SIM
