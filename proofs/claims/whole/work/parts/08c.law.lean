/-! THE LAW: from its entry to its loop; the loop by the small machine. Written by wip/gen/stlaw2.py. -/
theorem ls_code : ek_b 15 = code := rfl
theorem ls_code2 : em_b 243 = code := rfl
theorem ls_d0 : decode (ek_b 15) 0 = .ok (.new 7, 3) := by decide +kernel
theorem ls_d3 : decode (ek_b 15) 3 = .ok (.dup, 1) := by decide +kernel
theorem ls_d4 : decode (ek_b 15) 4 = .ok (.invokespecial 9, 3) := by decide +kernel
theorem ls_d7 : decode (ek_b 15) 7 = .ok (.astore_n 1, 1) := by decide +kernel
theorem ls_d8 : decode (ek_b 15) 8 = .ok (.new 10, 3) := by decide +kernel
theorem ls_d11 : decode (ek_b 15) 11 = .ok (.dup, 1) := by decide +kernel
theorem ls_d12 : decode (ek_b 15) 12 = .ok (.invokespecial 12, 3) := by decide +kernel
theorem ls_d15 : decode (ek_b 15) 15 = .ok (.astore_n 2, 1) := by decide +kernel
theorem ls_d16 : decode (ek_b 15) 16 = .ok (.iconst 0, 1) := by decide +kernel
theorem ls_d17 : decode (ek_b 15) 17 = .ok (.istore_n 3, 1) := by decide +kernel
theorem ls_w1 : (em_wd 128 (.classLink (ek_y 15).cls 7 (em_cls 10).1) && em_wd 129 (.instantiable (em_cls 10).1 (em_cls 10).2.2) && em_wd 106 (.initialized (em_cls 10).1)) = true := by decide +kernel
theorem ls_w2 : (em_wd 1397 (.classLink (ek_y 15).cls 10 (em_cls 11).1) && em_wd 1398 (.instantiable (em_cls 11).1 (em_cls 11).2.2) && em_wd 117 (.initialized (em_cls 11).1)) = true := by decide +kernel
set_option maxRecDepth 100000 in
theorem ls_c1 : ek_okcall (ek_y 15).cls 9 true ((10 : Nat) : Int) 1 [130, 0, 106, 132, 131] = true := by decide +kernel
set_option maxRecDepth 100000 in
theorem ls_c2a : lw_tbl[1401]? = some (Jvm.Cond.code (ek_y 11) (ek_b 11) (ek_mx 11) (ek_rt 11)) := rfl
theorem ls_c2b : em_wd 1401 (Jvm.Cond.code (ek_y 11) (ek_b 11) (ek_mx 11) (ek_rt 11)) = true := by
  unfold em_wd
  rw [ls_c2a]
  show (decide _ && true) = true
  rw [Bool.and_true]
  exact decide_eq_true rfl
set_option maxRecDepth 100000 in
theorem ls_c2 : ek_okcall (ek_y 15).cls 12 true ((11 : Nat) : Int) 1 [1399, 0, 117, 1401, 1400] = true := by
  unfold ek_okcall
  dsimp only
  rw [show (((11 : Nat) : Int)).toNat = 11 from rfl, ls_c2b]
  decide +kernel
theorem ls_pl1 : plainName (ek_y 10).cls = true := by decide +kernel
theorem ls_pl2 : plainName (ek_y 11).cls = true := by decide +kernel
theorem ls_rt : em_rt 243 = ret := rfl
theorem ls_end {pc : Nat} {aux : List Int} {ls : em_L} {st : List em_V} {M M2 : em_M} {r : Int} (h : em_step 243 pc .ireturn aux ls st M = some (.inr (.inr (true, r, M2)))) : st = [(0, r)] := by
  match st, h with
  | [], h => cases h
  | _ :: _ :: _, h => cases h
  | [q], h =>
    obtain ⟨t, x⟩ := q
    simp only [em_step] at h
    cases hq : Nat.beq t 0 && (Nat.beq (em_rk 243) 0 || (Nat.beq (em_rk 243) 5 || (Nat.beq (em_rk 243) 6 || Nat.beq (em_rk 243) 7))) with
    | false => rw [hq, cond_false] at h; cases h
    | true =>
      rw [hq, cond_true] at h
      rw [Bool.and_eq_true] at hq
      have e0 : t = 0 := Nat.eq_of_beq_eq_true hq.1
      subst e0
      unfold em_ret at h
      have h2 := Sum.inr.inj (Sum.inr.inj (Option.some.inj h))
      have h3 : x = r := (Prod.mk.inj (Prod.mk.inj h2).2).1
      rw [h3]
theorem ls_rk : em_rk 243 = 5 := by decide +kernel
theorem ls_nl {pc : Nat} {aux : List Int} {ls : em_L} {st : List em_V} {M : em_M} {v : Bool × Int × em_M} : ¬ em_step 243 pc .lreturn aux ls st M = some (.inr (.inr v)) := fun h => by
  match st, h with
  | [], h => cases h
  | _ :: _ :: _, h => cases h
  | [q], h =>
    simp only [em_step] at h
    rw [ls_rk, show Nat.beq 5 1 = false from rfl, Bool.and_false, cond_false] at h
    cases h
theorem ls_na {pc : Nat} {aux : List Int} {ls : em_L} {st : List em_V} {M : em_M} {v : Bool × Int × em_M} : ¬ em_step 243 pc .areturn aux ls st M = some (.inr (.inr v)) := fun h => by
  match st, h with
  | [], h => cases h
  | _ :: _ :: _, h => cases h
  | [q], h =>
    simp only [em_step] at h
    rw [ls_rk, show Nat.beq 5 2 = false from rfl, show Nat.beq 5 4 = false from rfl, Bool.and_false, Bool.and_false, Bool.or_false, cond_false] at h
    cases h
theorem ls_nr {pc : Nat} {aux : List Int} {ls : em_L} {st : List em_V} {M : em_M} {v : Bool × Int × em_M} : ¬ em_step 243 pc .return_ aux ls st M = some (.inr (.inr v)) := fun h => by
  match st, h with
  | _ :: _, h => cases h
  | [], h =>
    simp only [em_step] at h
    rw [ls_rk, show Nat.beq 5 3 = false from rfl, cond_false] at h
    cases h
/-- the law, if its loop comes to 1 in the small machine -/
theorem ls_start {p : Program} {e : Env} {s : State} {m : MethodId} {below : List Frame} {meth : Method} {c : Code} (l : Launch) {b L : Nat} {xs : Nat → Int32} (hL : L ≤ 3072) (hco : ∀ mid, mid < 244 → em_codeOk mid) (hrun : ∃ M2, em_Ex 50 243 18 [(0, (5, 0)), (1, (2, 0)), (2, (2, 439)), (3, (0, 0))] [] (st_M L xs) = some (1, M2)) (C0 : lw_At p s m meth c b L xs) : W p l e room_1 s m #[Value.ref b] below meth c s.heap [] 0 0 (lw_Z below #[Value.ref b] s) (entryFrame m ([Value.ref b] : List Value).toArray 4) := by
  obtain ⟨hx, hb, hret, hml, hown, hts, hX, hbl, hlocks, hgv⟩ := C0
  obtain ⟨D, hK⟩ := st_K hts
  obtain ⟨sa, hO⟩ := st_Out hts hX hbl hL hgv
  have hkO := st_kOut hts
  have hte := st_tbl hts
  have C : ek_Cx p s m #[Value.ref b] c room_1 15 50 := ⟨hx, hb.trans ls_code.symm, hml, hown, hte, hkO, by decide, by decide⟩
  have hW0 : ek_WH s.heap.size D s s.heap [] (0, 0, []) := ⟨[], [], fun k q hq => (by cases hq), hK, va_S.rf, Nat.le_refl _, rfl, ⟨rfl, fun k hk => absurd hk (Nat.not_lt_zero _)⟩, fun w hw => (by cases hw)⟩
  have hl := lv_entry [Value.ref b] (n := 4) (Nat.le_of_ble_eq_true rfl)
  rw [lg_entry_eq]
  generalize (lg_sl [Value.ref b] ++ List.replicate (4 - (lg_sl [Value.ref b]).length) Slot.unset).toArray = ls at hl ⊢
  have hl : lv_has ls 4 [(0, Value.ref b)] := hl
  have w1 := ls_w1
  have w2 := ls_w2
  rw [Bool.and_eq_true, Bool.and_eq_true] at w1 w2
  refine kx_new (ci := 10) (S := (0, 0, [])) C ls_d0 (by decide) (em_wd_mem w1.1.1) (em_wd_mem w1.1.2) (em_wd_mem w1.2) (by decide +kernel) (by decide) (by decide +kernel) hW0 (fun H1 hW1 => ?_)
  refine lv_dup hx C.2.1 ls_d3 rfl ?_
  have hM1 : Met l (ek_y 10) (ek_ws 10) (ek_rm 6 10) (ek_Pc sa b s.heap.size D [(2, 0)] (1, 12, [])) (ek_Qc s.heap.size D 10 0 (439, 17142, ek_U1)) (ek_mc 10) (ek_ms 10) (em_A s.heap.size) := ek_sound l 100000 6 10 [(2, 0)] (1, 12, []) 0 (439, 17142, ek_U1) (by decide) (by decide) ls_pl1 ek_run1
  have hLR1 : em_LR (fun q => s.heap.size + q) sa b ls (ek_mx 15) [(0, (5, 0))] := ⟨_, hl, ⟨rfl, Or.inr (Or.inr (Or.inl ⟨rfl, rfl⟩))⟩, trivial⟩
  have hRV1 : em_RV (fun q => s.heap.size + q) sa b (.ref (s.heap.size + 0)) (2, 0) := Or.inl ⟨rfl, 0, rfl, rfl⟩
  refine kx_call (m2 := 10) (d2 := 6) (spec := true) (n := 1) (as := [(2, 0)]) (rest := [(2, 0)]) (S := (1, 12, [])) (sa := sa) (bs := b) (st := [(2, 0), (2, 0)]) (ls := [(0, (5, 0))]) C ls_d4 ls_c1 (Or.inl rfl) (by decide) hM1 (by decide +kernel) rfl rfl (by decide) hLR1 ⟨hRV1, hRV1, trivial⟩ hW1 (fun H2 locs2 stJ2 hst2 hW2 => ?_)
  have hst2 : em_RS (fun q => s.heap.size + q) sa b stJ2 [(2, 0)] := hst2
  obtain ⟨v1, r1, rfl, hv1, hr1⟩ := em_RS_cons hst2
  have h0 := em_RS_nil hr1
  subst h0
  obtain ⟨a1, rfl⟩ : ∃ a1, v1 = .ref a1 := by
    obtain ⟨k, e1, -⟩ := em_RV_r hv1
    exact ⟨_, e1⟩
  refine lv_astore_n (i := 1) hx C.2.1 ls_d7 rfl hl (by decide) rfl (fun ls2 hl2 => ?_)
  have hl2 : lv_has ls2 4 [(1, Value.ref a1), (0, Value.ref b)] := hl2
  refine kx_new (ci := 11) (S := (439, 17142, ek_U1)) C ls_d8 (by decide) (em_wd_mem w2.1.1) (em_wd_mem w2.1.2) (em_wd_mem w2.2) (by decide +kernel) (by decide +kernel) (by decide +kernel) hW2 (fun H3 hW3 => ?_)
  refine lv_dup hx C.2.1 ls_d11 rfl ?_
  have hM2 : Met l (ek_y 11) (ek_ws 11) (ek_rm 6 11) (ek_Pc sa b s.heap.size D [(2, 439)] (440, 17263, ek_U1)) (ek_Qc s.heap.size D 11 0 (520, 44641, ek_U2)) (ek_mc 11) (ek_ms 11) (em_A s.heap.size) := ek_sound l 100000 6 11 [(2, 439)] (440, 17263, ek_U1) 0 (520, 44641, ek_U2) (by decide) (by decide) ls_pl2 ek_run2
  have hLR2 : em_LR (fun q => s.heap.size + q) sa b ls2 (ek_mx 15) [(1, (2, 0)), (0, (5, 0))] := ⟨_, hl2, ⟨rfl, hv1⟩, ⟨rfl, Or.inr (Or.inr (Or.inl ⟨rfl, rfl⟩))⟩, trivial⟩
  have hRV2 : em_RV (fun q => s.heap.size + q) sa b (.ref (s.heap.size + 439)) (2, 439) := Or.inl ⟨rfl, 439, rfl, rfl⟩
  refine kx_call (m2 := 11) (d2 := 6) (spec := true) (n := 1) (as := [(2, 439)]) (rest := [(2, 439)]) (S := (440, 17263, ek_U1)) (sa := sa) (bs := b) (st := [(2, 439), (2, 439)]) (ls := [(1, (2, 0)), (0, (5, 0))]) C ls_d12 ls_c2 (Or.inl rfl) (by decide) hM2 (by decide +kernel) rfl rfl (by decide) hLR2 ⟨hRV2, hRV2, trivial⟩ hW3 (fun H4 locs4 stJ4 hst4 hW4 => ?_)
  have hst4 : em_RS (fun q => s.heap.size + q) sa b stJ4 [(2, 439)] := hst4
  obtain ⟨v2, r2, rfl, hv2, hr2⟩ := em_RS_cons hst4
  have h0 := em_RS_nil hr2
  subst h0
  obtain ⟨a2, rfl⟩ : ∃ a2, v2 = .ref a2 := by
    obtain ⟨k, e1, -⟩ := em_RV_r hv2
    exact ⟨_, e1⟩
  refine lv_astore_n (i := 2) hx C.2.1 ls_d15 rfl hl2 (by decide) rfl (fun ls3 hl3 => ?_)
  have hl3 : lv_has ls3 4 [(2, Value.ref a2), (1, Value.ref a1), (0, Value.ref b)] := hl3
  refine lv_iconst (v := 0) hx C.2.1 ls_d16 rfl ?_
  refine lv_istore_n (i := 3) hx C.2.1 ls_d17 rfl hl3 (by decide) rfl (fun ls4 hl4 => ?_)
  have hl4 : lv_has ls4 4 [(3, Value.int 0), (2, Value.ref a2), (1, Value.ref a1), (0, Value.ref b)] := hl4
  have hl5 : lv_has ls4 4 [(0, Value.ref b), (1, Value.ref a1), (2, Value.ref a2), (3, Value.int 0)] := lv_sub hl4 [3, 2, 1, 0] rfl
  have hW5 := ek_to_WH (xs := xs) (L := L) hW4
  obtain ⟨M2, hrun⟩ := hrun
  obtain ⟨n, hn⟩ := em_Ex_iff.mp hrun
  have C2 : em_Cx sa b s.heap.size L xs p s m #[Value.ref b] c room_1 243 50 := ⟨hx, hb.trans ls_code2.symm, hml, hown, hte, hO, by decide, by decide⟩
  refine em_walk (N := n) (r := 1) (M2 := M2) (mid := 243) (d := 50) C2 (by decide +kernel) (hco 243 (by omega)) (fun k _ => em_sound l (fun mid h => hco mid (by omega)) k) ?_ n (Nat.le_refl n) 18 [(0, (5, 0)), (1, (2, 0)), (2, (2, 439)), (3, (0, 0))] [] (st_M L xs) H4 locs4 ls4 [] hn ⟨_, hl5, ⟨rfl, Or.inr (Or.inr (Or.inl ⟨rfl, rfl⟩))⟩, ⟨rfl, hv1⟩, ⟨rfl, hv2⟩, ⟨rfl, rfl⟩, trivial⟩ trivial hW5
  intro pc xi hh H locs lsJ stJ ls5 st M hoki hs hst hW
  obtain ⟨hdg, -⟩ := em_oki_spec hoki
  have hend2 : em_isend xi.1 = true := by
    cases hi : em_isend xi.1 with
    | true => rfl
    | false => exact absurd hs (em_step_inl hi _)
  cases hx1 : xi.1 with
  | ireturn =>
    rw [hx1] at hs hdg
    have e1 := ls_end hs
    subst e1
    obtain ⟨v0, r0, rfl, hv0, hr0⟩ := em_RS_cons hst
    have h0 := em_RS_nil hr0
    subst h0
    obtain ⟨z, rfl, hz⟩ := em_RV_i hv0
    have ez : z = 1 := Int32.toInt_inj.mp hz
    subst ez
    have hS : va_S (em_A s.heap.size) s.heap H locs := by obtain ⟨ws, tys, hP, hD, hK, hS, hC, hX⟩ := hW; exact hS
    exact va_forget (fun q hq => hS.2.2 q hq) (W.widen (by decide +kernel) (by decide +kernel) (lw_ret hx hb hret hlocks hdg))
  | lreturn => rw [hx1] at hs; exact absurd hs ls_nl
  | areturn => rw [hx1] at hs; exact absurd hs ls_na
  | return_ => rw [hx1] at hs; exact absurd hs ls_nr
  | invokevirtual i =>
    rw [hx1] at hs
    obtain ⟨mi, nn, ci, as2, rest, haux, hta, hrc, hcat, hfit2, hcc⟩ := em_call_some (show em_call pc ls5 st M xi.2.2.1 = _ from hs)
    cases hcc
  | invokestatic i =>
    rw [hx1] at hs
    obtain ⟨mi, nn, ci, as2, rest, haux, hta, hrc, hcat, hfit2, hcc⟩ := em_call_some (show em_call pc ls5 st M xi.2.2.1 = _ from hs)
    cases hcc
  | _ => rw [hx1] at hend2; cases hend2
