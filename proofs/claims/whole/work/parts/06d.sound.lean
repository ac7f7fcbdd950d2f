/-! SOUNDNESS, calls and answers. Written by wip/gen/sound4.py. -/
set_option maxRecDepth 100000 in
theorem em_room_l {a d2 d L : Nat} (h : a ≤ 45) (hd : d2 + 1 ≤ d) (hL : 64 * d + 600 ≤ L) : 8 + (a + 11) + (64 * d2 + 600) ≤ L := by omega
theorem em_room_f {d2 d L : Nat} (hd : d2 + 1 ≤ d) (hL : d + 8 ≤ L) : d2 + 8 + 1 ≤ L := by omega
def em_isobj : Option FieldType → Bool
  | some (.object _) => true
  | _ => false
set_option maxRecDepth 100000 in
theorem em_rk_all : (List.range 244).all (fun mid => match em_rk mid with
  | 0 => decide (em_rt mid = some .int)
  | 1 => decide (em_rt mid = some .long)
  | 3 => decide (em_rt mid = none)
  | 5 => decide (em_rt mid = some .boolean)
  | 2 => em_isobj (em_rt mid)
  | 4 => em_isobj (em_rt mid)
  | 6 => decide (em_rt mid = some .byte)
  | 7 => decide (em_rt mid = some .char)
  | _ => false) = true := by decide +kernel
theorem em_rk_ok {mid : Nat} (h : mid < 244) : (em_rk mid = 0 → em_rt mid = some .int) ∧ (em_rk mid = 1 → em_rt mid = some .long) ∧ (em_rk mid = 3 → em_rt mid = none) ∧ (em_rk mid = 5 → em_rt mid = some .boolean) ∧ (em_rk mid = 2 ∨ em_rk mid = 4 → ∃ n, em_rt mid = some (.object n)) ∧ (em_rk mid = 6 → em_rt mid = some .byte) ∧ (em_rk mid = 7 → em_rt mid = some .char) := by
  have h1 := List.all_eq_true.mp em_rk_all mid (List.mem_range.mpr h)
  refine ⟨fun q => ?_, fun q => ?_, fun q => ?_, fun q => ?_, fun q => ?_, fun q => ?_, fun q => ?_⟩
  · rw [q] at h1; exact of_decide_eq_true h1
  · rw [q] at h1; exact of_decide_eq_true h1
  · rw [q] at h1; exact of_decide_eq_true h1
  · rw [q] at h1; exact of_decide_eq_true h1
  · have h2 : em_isobj (em_rt mid) = true := by
      rcases q with q | q <;> (rw [q] at h1; exact h1)
    cases hz : em_rt mid with
    | none => rw [hz] at h2; cases h2
    | some t =>
      cases t with
      | object n => exact ⟨n, rfl⟩
      | _ => rw [hz] at h2; cases h2
  · rw [q] at h1; exact of_decide_eq_true h1
  · rw [q] at h1; exact of_decide_eq_true h1
section SIM
variable {ad sa : Nat → Nat} {bs n0 L : Nat} {xs : Nat → Int32} {D : va_G}
variable {p : Program} {l : Launch} {e : Env} {R : Room} {s : State} {m : MethodId} {args : Array Value} {below : List Frame} {meth : Method} {c : Code} {Q : State → Prop} {mid d pc cells slots : Nat}
variable {H : Heap} {locs : List Loc} {lsJ : Array Slot} {stJ : List Value} {ls : em_L} {st : List em_V} {M : em_M} {aux : List Int} {b : List (Bool × Nat) × Nat × em_L × List em_V × em_M}

theorem em_Out_to {U : State} (hO : em_Out sa bs n0 L xs s) (hWm : s.WarmedH U.vm) (hU : U.heap = H) (hS : va_S (em_A n0) s.heap H locs) : em_Out sa bs n0 L xs U := by
  obtain ⟨h1, h2, h3, h4, h5, h5n, h6, h7, h8⟩ := hO
  have hk : ∀ a : Nat, a < s.heap.size → ¬ em_A n0 a → H[a]? = s.heap[a]? := hS.2.1
  refine ⟨h1, ?_, h3, ?_, fun k hk2 => vk_R.warm hWm (h5 k hk2), fun q hq => va_Nw.warmM hWm (h5n q hq), ?_, ?_, ?_⟩
  · rw [hU]
    exact (h2.kept (hk bs (Nat.lt_of_lt_of_le h1 h4) (fun q => absurd h1 (Nat.not_lt.mpr q)))).moved hWm.alike
  · rw [hU]; exact Nat.le_trans h4 hS.1
  · rw [hU]
    exact (h6.kept hk).moved hWm.alike
  · rw [hU]
    exact (h7.kept hk).moved hWm.alike
  · rw [hU]
    exact (h8.kept hk).moved hWm.alike
theorem em_Wd_of {U : State} (hO : em_Out sa bs n0 L xs s) (hW : em_WH ad n0 L xs D s H locs M) (hWm : s.WarmedH U.vm) (hU : U.heap = H) : em_Wd ad sa bs n0 L xs D U M := by
  obtain ⟨ws, tys, hP, hD, hK, hS, hC, hX⟩ := hW
  exact ⟨ws, tys, by rw [hU]; exact hP, hD, va_K.moved hWm.alike hK, hC, hX, em_Out_to hO hWm hU hS⟩
theorem em_Pc_blind {as : List em_V} : FrameBlind (em_Pc ad sa bs n0 L xs D as M) := by
  intro a U g mk h
  obtain ⟨vs, h1, h2, ws, tys, hP, hD, hK, hC, hX, ⟨o1, o2, o3, o4, o5, o5n, o6, o7, o8⟩⟩ := h
  refine ⟨vs, h1, h2, ws, tys, hP, hD, va_K.moved (u := U) (U := U.calling g mk a) (Vm.Alike.refl U.vm) hK, hC, hX, o1, ?_, o3, o4, fun k hk => vk_R.same (u := U) (U := U.calling g mk a) rfl (o5 k hk), fun q hq => va_Nw.same (u := U) (U := U.calling g mk a) rfl rfl (o5n q hq), ?_, ?_, ?_⟩
  · exact va_X.moved (u := U) (U := U.calling g mk a) (Vm.Alike.refl U.vm) o2
  · exact vk_S.moved (u := U) (U := U.calling g mk a) (Vm.Alike.refl U.vm) o6
  · exact va_Z.moved (u := U) (U := U.calling g mk a) (Vm.Alike.refl U.vm) o7
  · exact va_Zq.moved (u := U) (U := U.calling g mk a) (Vm.Alike.refl U.vm) o8
/-- behind a call -/
theorem w_after {m2 : Nat} {r : Int} {M2 : em_M} {a : Array Value} {restJ : List Value} {rest : List em_V} (hr : va_Run p l e R s m args below meth c H locs cells slots 0 0 (F0 m pc lsJ stJ) restJ (em_Qc ad sa bs n0 L xs D m2 r M2 a) (em_A n0)) (hS : va_S (em_A n0) s.heap H locs) (hrest : em_RS ad sa bs restJ rest)
    (K : ∀ (H2 : Heap) (locs2 : List Loc) (stJ2 : List Value), em_RS ad sa bs stJ2 (em_push m2 r rest) → em_WH ad n0 L xs D s H2 locs2 M2 → W p l e R s m args below meth c H2 locs2 cells slots Q (F0 m (pc + 3) lsJ stJ2)) : W p l e R s m args below meth c H locs cells slots Q (F0 m pc lsJ stJ) := by
  have back : ∀ (t : State) (H1 : Heap) (locs1 : List Loc), t.heap = H1 → s.vm.Alike t.vm → em_Wd ad sa bs n0 L xs D t M2 → va_S (em_A n0) s.heap H1 locs1 → em_WH ad n0 L xs D s H1 locs1 M2 := by
    intro t H1 locs1 ht hvm hB hS1
    obtain ⟨ws, tys, hP, hD, hK, hC, hX, -⟩ := hB
    rw [ht] at hP
    exact ⟨ws, tys, hP, hD, va_K.moved hvm.symm hK, hS1, hC, hX⟩
  unfold em_Qc at hr
  unfold em_push at K
  generalize em_rk m2 = z at hr K
  match z, hr, K with
  | 0, hr, K => exact va_calli hr hS (fun _ _ h => h) (fun _ h => h) (fun r1 u t H1 locs1 ht hvm hp hB _ _ hS1 => K H1 locs1 (.int r1 :: restJ) ⟨by rw [em_RV, hp], hrest⟩ (back t H1 locs1 ht hvm hB hS1))
  | 5, hr, K => exact va_calli hr hS (fun _ _ h => h) (fun _ h => h) (fun r1 u t H1 locs1 ht hvm hp hB _ _ hS1 => K H1 locs1 (.int r1 :: restJ) ⟨by rw [em_RV, hp], hrest⟩ (back t H1 locs1 ht hvm hB hS1))
  | 6, hr, K => exact va_calli hr hS (fun _ _ h => h) (fun _ h => h) (fun r1 u t H1 locs1 ht hvm hp hB _ _ hS1 => K H1 locs1 (.int r1 :: restJ) ⟨by rw [em_RV, hp], hrest⟩ (back t H1 locs1 ht hvm hB hS1))
  | 7, hr, K => exact va_calli hr hS (fun _ _ h => h) (fun _ h => h) (fun r1 u t H1 locs1 ht hvm hp hB _ _ hS1 => K H1 locs1 (.int r1 :: restJ) ⟨by rw [em_RV, hp], hrest⟩ (back t H1 locs1 ht hvm hB hS1))
  | 1, hr, K => exact va_calll hr hS (fun _ _ h => h) (fun _ h => h) (fun r1 u t H1 locs1 ht hvm hp hB _ _ hS1 => K H1 locs1 (.long r1 :: restJ) ⟨by rw [em_RV, hp], hrest⟩ (back t H1 locs1 ht hvm hB hS1))
  | 2, hr, K => exact va_callr hr hS (fun _ _ h => h) (fun _ h => h) (fun u ra t H1 locs1 ht hvm hp hB _ _ hS1 => K H1 locs1 (.ref ra :: restJ) ⟨Or.inl ⟨rfl, hB.1⟩, hrest⟩ (back t H1 locs1 ht hvm hB.2 hS1))
  | 4, hr, K => exact va_callr hr hS (fun _ _ h => h) (fun _ h => h) (fun u ra t H1 locs1 ht hvm hp hB _ _ hS1 => K H1 locs1 (.ref ra :: restJ) ⟨Or.inr (Or.inl ⟨rfl, hB.1⟩), hrest⟩ (back t H1 locs1 ht hvm hB.2 hS1))
  | 3, hr, K => exact va_callv hr hS (fun _ _ h => h) (fun _ h => h) (fun u t H1 locs1 ht hvm hp hB _ _ hS1 => K H1 locs1 restJ hrest (back t H1 locs1 ht hvm hB hS1))
  | z + 8, hr, K => exact va_callv hr hS (fun _ _ h => h) (fun _ h => h) (fun u t H1 locs1 ht hvm hp hB _ _ hS1 => K H1 locs1 restJ hrest (back t H1 locs1 ht hvm hB hS1))
theorem em_good_ws (m2 : Nat) : ∀ w ∈ em_ws m2, ((w.onTables && w.keeps) = true ∨ ∃ ty, w = .arrayClass ty) := by
  intro w hw
  rcases List.mem_cons.mp hw with rfl | hw
  · exact good_of_word rfl
  · exact good_of_word (List.mem_filter.mp hw).2
theorem em_ws_in {m2 : Nat} (h : Jvm.Cond.code (em_y m2) (em_b m2) (em_mx m2) (em_rt m2) ∈ em_tbl) : GoodIn em_tbl (em_ws m2) := by
  intro w hw
  refine ⟨?_, em_good_ws m2 w hw⟩
  rcases List.mem_cons.mp hw with rfl | hw
  · exact h
  · exact hw
/-- what a call's links give -/
theorem w_call {i m2 d2 li nest ini cd inst sel : Nat} {virt : Bool} {n ci : Int} {as rest : List em_V} {r : Int} {M2 : em_M} (C : em_Cx sa bs n0 L xs p s m args c R mid d) (hcs : cells ≤ R.cells ∧ slots ≤ R.slots)
    (hdg : decode (em_b mid) pc = .ok (bif virt then .invokevirtual i else .invokestatic i, 3)) (hok : em_okcall (em_y mid).cls i virt (m2 : Int) n ci [li, nest, ini, cd, inst, sel] = true) (hnest : nest = 0 ∨ nest = 1) (hd : d2 + 1 ≤ d)
    (hM : Met l (em_y m2) (em_ws m2) (em_rm d2) (em_Pc ad sa bs n0 L xs D as M) (em_Qc ad sa bs n0 L xs D m2 r M2) 0 0 (em_A n0))
    (hta : em_take n.toNat st [] = some (as, rest)) (hrc : (decide (ci = -1) || em_rcv ci as) = true) (hcat : em_cat rest ≤ 8)
    (hls : em_LR ad sa bs lsJ (em_mx mid) ls) (hst : em_RS ad sa bs stJ st) (hW : em_WH ad n0 L xs D s H locs M)
    (K : ∀ (H2 : Heap) (locs2 : List Loc) (stJ2 : List Value), em_RS ad sa bs stJ2 (em_push m2 r rest) → em_WH ad n0 L xs D s H2 locs2 M2 → W p l e R s m args below meth c H2 locs2 cells slots Q (F0 m (pc + 3) lsJ stJ2)) : W p l e R s m args below meth c H locs cells slots Q (F0 m pc lsJ stJ) := by
  obtain ⟨hx, hb, hml, hown, hts, hO, hR1, hR2⟩ := C
  have hS : CallFix p m c (em_b mid) (em_mx mid) s args em_tbl (em_y mid).cls := ⟨hx, hb, hml, hown, hts⟩
  have hsz : lsJ.size = em_mx mid := by obtain ⟨l0, h1, -⟩ := hls; exact h1.1
  obtain ⟨asJ, restJ, ha, hr, hsplit, hlen⟩ := em_take_spec n.toNat (accJ := []) (acc := []) hst trivial hta
  have hlJ := em_RS_len ha
  simp only [List.reverse_nil, List.nil_append, List.length_nil, Nat.add_zero] at hsplit hlen
  unfold em_okcall at hok
  simp only [Int.toNat_natCast, Bool.and_eq_true] at hok
  obtain ⟨⟨⟨⟨⟨⟨⟨⟨k1, k2⟩, k3⟩, k4⟩, k5⟩, k6⟩, k7⟩, k8⟩, k9⟩ := hok
  have hmx : em_mx m2 ≤ 45 := Nat.le_of_ble_eq_true k5
  have hcode := em_wd_mem k4
  have hG := em_ws_in hcode
  have hcw : Jvm.Cond.code (em_y m2) (em_b m2) (em_mx m2) (em_rt m2) ∈ em_ws m2 := List.mem_cons_self
  have hy : (em_y m2).cls ≠ "java/lang/invoke/MethodHandle" ∧ (em_y m2).cls ≠ "java/lang/invoke/VarHandle" := ⟨by simpa using k6, by simpa using k7⟩
  have hfr : (em_rm d2).frames + 1 ≤ R.frames := em_room_f hd hR1
  have hlo : 8 + (em_mx m2 + 11) + (em_rm d2).locals ≤ R.locals := em_room_l hmx hd hR2
  have hpay : ∀ w ∈ em_ws m2, ∀ (a' : Array Value) (U : State), s.WarmedH U.vm → w.before a' U = true := pay_in hts hG
  have hSv : va_S (em_A n0) s.heap H locs := by obtain ⟨ws, tys, hP, hD, hK, hS, hC, hX⟩ := hW; exact hS
  have hroom : 2 * (F0 m pc lsJ stJ).monitorRoom + (restJ.map fun v => v.category).sum ≤ 8 := lv_room (by rw [em_RS_cat hr]; exact hcat)
  have hpc : ∀ (U : State), U.heap = H → s.WarmedH U.vm → em_Pc ad sa bs n0 L xs D as M asJ.toArray U := fun U hU hWm => ⟨asJ, rfl, ha, em_Wd_of hO hW hWm hU⟩
  have hlnkN : nest = 1 → (Jvm.Cond.methodLinkNest (em_y mid).cls i (em_y m2) "EstateOffice").before args s = true := fun q => by
    subst q
    have k2' : (em_nests.any (fun q => decide (q = ((em_y mid).cls, i))) && decide (em_y m2 = em_holds)) = true := k2
    rw [Bool.and_eq_true, List.any_eq_true] at k2'
    obtain ⟨⟨q, hq, hq2⟩, hy2⟩ := k2'
    have e1 : q = ((em_y mid).cls, i) := of_decide_eq_true hq2
    have h7 := hO.2.2.2.2.2.1 q hq
    rw [e1] at h7
    rw [show em_y m2 = em_holds from of_decide_eq_true hy2]
    exact va_Nw.use rfl h7
  cases virt with
  | false =>
    simp only [Bool.false_eq_true, if_false, Bool.and_eq_true] at k9
    obtain ⟨⟨j1, j2⟩, j3⟩ := k9
    have hsig : ∀ sig, parseMethodDescriptor (em_y m2).desc = some sig → asJ.length = sig.parameters.length := fun sig hq => by
      have j1' := of_decide_eq_true j1
      rw [hq] at j1'
      have := Option.some.inj j1'
      rw [hlJ, hlen]
      exact this.symm
    have hstk : (F0 m pc lsJ stJ).stack = asJ.reverse ++ restJ := hsplit
    rcases hnest with hn0 | hn0
    · subst hn0
      have cb : CallB R s args (em_y mid).cls i (em_y m2) (em_b m2) (em_mx m2) (em_rt m2) (em_ws m2) (em_rm d2) 0 0 asJ.length := ⟨rfl, rfl, hfr, hlo, hpay, hcw, hts _ hcode, hts _ (em_wd_mem k3), hy, hsig, hts _ (em_wd_mem k2)⟩
      exact w_after (va_runS hS hM ⟨cb, hts _ (em_wd_mem j2)⟩ ⟨em_Pc_blind, hpc⟩ rfl rfl hsz hstk hroom hdg ⟨hcs.1, hcs.2⟩) hSv hr K
    · have hlnk := hlnkN hn0
      subst hn0
      have cb : va_CN R s args (em_y mid).cls i (em_y m2) "EstateOffice" (em_b m2) (em_mx m2) (em_rt m2) (em_ws m2) (em_rm d2) 0 0 asJ.length := ⟨⟨rfl, rfl, hfr, hlo, hpay, hcw⟩, hts _ hcode, hts _ (em_wd_mem k3), hy, hsig, hlnk⟩
      exact w_after (va_runSN hS hM ⟨cb, hts _ (em_wd_mem j2), trivial⟩ ⟨em_Pc_blind, hpc⟩ rfl rfl hsz hstk hroom hdg ⟨hcs.1, hcs.2⟩) hSv hr K
  | true =>
    simp only [if_true, Bool.and_eq_true] at k9
    obtain ⟨⟨⟨j1, j2⟩, j3⟩, j4⟩ := k9
    have hci : ¬ ci = -1 := fun q => by
      subst q
      rcases (Bool.or_eq_true _ _).mp j4 with j4 | j4
      · have := (Bool.and_eq_true _ _ ▸ (Bool.and_eq_true _ _ ▸ j4).1).1
        exact absurd (of_decide_eq_true this) (by decide)
      · have := (Bool.and_eq_true _ _ ▸ j4).1
        exact absurd (of_decide_eq_true this) (by decide)
    rw [decide_eq_false hci, Bool.false_or] at hrc
    have hrc2 : ∃ (a0 : Nat) (asJ2 : List Value), asJ = .ref a0 :: asJ2 ∧ ∃ cellB : Cell, H[a0]? = some cellB ∧ cellB.vm.isStatics = false ∧ s.vm.findClass (em_y m2).cls = some cellB.cls := by
      cases as with
      | nil => cases hrc
      | cons q0 as2 =>
        obtain ⟨t0, x0⟩ := q0
        obtain ⟨v0, asJ2, rfl, hv0, ha2⟩ := em_RS_cons ha
        have hrc : (bif decide (ci = -2) then Nat.beq t0 4 && decide (0 ≤ x0 ∧ x0 < 16) else Nat.beq t0 2 && em_isO x0 ci) = true := hrc
        simp only [Bool.or_eq_true, Bool.and_eq_true] at j4
        rcases j4 with ⟨⟨j4, j5⟩, j6⟩ | ⟨j4, j5⟩
        · have h04 := of_decide_eq_true j4
          have hn2 : ¬ ci = -2 := fun q => by omega
          rw [decide_eq_false hn2, cond_false, Bool.and_eq_true] at hrc
          have e0 : t0 = 2 := Nat.eq_of_beq_eq_true hrc.1
          subst e0
          obtain ⟨k, rfl, hk⟩ := em_RV_r hv0
          subst hk
          have hkd := em_isO_nat hrc.2
          have hci12 : ci.toNat < 12 := Nat.le_of_ble_eq_true j6
          refine ⟨ad k, asJ2, rfl, ?_⟩
          obtain ⟨ws, tys, hP, hD, hK, hS9, hC, hX⟩ := id hW
          obtain ⟨e1, he, hcell⟩ := hC k (em_kdn_lt (by omega))
          obtain ⟨fs, rfl, -, -⟩ := hcell.1 (by omega)
          have hkd2 : em_kdn k = ci.toNat := by omega
          rw [hkd2] at he
          have h8 := va_recv hK hP (em_cls_get hci12) he
          rw [show (em_cls ci.toNat).1 = (em_y m2).cls from of_decide_eq_true j5] at h8
          exact h8
        · have h04 := of_decide_eq_true j4
          rw [decide_eq_true h04, cond_true, Bool.and_eq_true] at hrc
          have e0 : t0 = 4 := Nat.eq_of_beq_eq_true hrc.1
          subst e0
          obtain ⟨k, hk32, rfl, hk⟩ := em_RV_s hv0
          have hin := of_decide_eq_true hrc.2
          have hk16 : k < 16 := by omega
          refine ⟨sa k, asJ2, rfl, ?_⟩
          rw [show (em_y m2).cls = "java/lang/String" from of_decide_eq_true j5]
          exact vk_recv hO.2.2.2.2.2.2.1 hk16 hSv
    obtain ⟨a0, asJ2, rfl, hrecv⟩ := hrc2
    have hsig : ∀ sig, parseMethodDescriptor (em_y m2).desc = some sig → asJ2.length = sig.parameters.length := fun sig hq => by
      have j1' := of_decide_eq_true j1
      rw [hq] at j1'
      have h7 := Option.some.inj j1'
      rw [List.length_cons] at hlJ
      dsimp only at h7
      omega
    have hstk : (F0 m pc lsJ stJ).stack = asJ2.reverse ++ .ref a0 :: restJ := by
      show stJ = _
      rw [hsplit]
      simp
    rcases hnest with hn0 | hn0
    · subst hn0
      have cb : CallB R s args (em_y mid).cls i (em_y m2) (em_b m2) (em_mx m2) (em_rt m2) (em_ws m2) (em_rm d2) 0 0 asJ2.length := ⟨rfl, rfl, hfr, hlo, hpay, hcw, hts _ hcode, hts _ (em_wd_mem k3), hy, hsig, hts _ (em_wd_mem k2)⟩
      exact w_after (va_runV hS hM ⟨cb, hts _ (em_wd_mem j2), hts _ (em_wd_mem j3)⟩ ⟨em_Pc_blind, hrecv, hpc⟩ rfl rfl hsz hstk hroom hdg ⟨hcs.1, hcs.2⟩) hSv hr K
    · have hlnk := hlnkN hn0
      subst hn0
      have cb : va_CN R s args (em_y mid).cls i (em_y m2) "EstateOffice" (em_b m2) (em_mx m2) (em_rt m2) (em_ws m2) (em_rm d2) 0 0 asJ2.length := ⟨⟨rfl, rfl, hfr, hlo, hpay, hcw⟩, hts _ hcode, hts _ (em_wd_mem k3), hy, hsig, hlnk⟩
      exact w_after (va_runVN hS hM ⟨cb, hts _ (em_wd_mem j2), hts _ (em_wd_mem j3)⟩ ⟨em_Pc_blind, hrecv, hpc⟩ rfl rfl hsz hstk hroom hdg ⟨hcs.1, hcs.2⟩) hSv hr K
end SIM
