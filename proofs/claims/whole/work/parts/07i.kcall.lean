/-! CONSTRUCTORS: calls of constructors and of the static methods; what a method's contract says. -/
noncomputable def ek_ws (mid : Nat) : List Jvm.Cond := Jvm.Cond.code (ek_y mid) (ek_b mid) (ek_mx mid) (ek_rt mid) :: em_tbl
def ek_rm (d mid : Nat) : Room := { frames := d + 8, cells := ek_mc mid, slots := ek_ms mid, locals := 64 * d + 600 }
def ek_Pc (sa : Nat → Nat) (bs n0 : Nat) (D : va_G) (as : List em_V) (S : ek_S) : Array Value → State → Prop := fun v U => ∃ vs : List Value, v = vs.toArray ∧ em_RS (fun q => n0 + q) sa bs vs as ∧ ek_Wd n0 D U S ∧ ek_Out U
def ek_Qc (n0 : Nat) (D : va_G) (mid : Nat) (r : Int) (S : ek_S) : Array Value → State → Outcome → State → Prop := match ek_rk mid with
  | 1 => va_Ql (fun (x : Int64) (_ : Unit) => x.toInt = r) (fun _ t => ek_Wd n0 D t S) (em_A n0)
  | 5 => va_Qi (fun (x : Int32) (_ : Unit) => x.toInt = r) (fun _ t => ek_Wd n0 D t S) (em_A n0)
  | _ => va_Qv (fun (_ : Unit) => True) (fun _ t => ek_Wd n0 D t S) (em_A n0)
section KI
variable {sa : Nat → Nat} {bs n0 : Nat} {D : va_G} {S : ek_S}
variable {p : Program} {l : Launch} {e : Env} {R : Room} {s : State} {m : MethodId} {args : Array Value} {below : List Frame} {meth : Method} {c : Code} {Q : State → Prop} {mid d pc cells slots : Nat}
variable {H : Heap} {locs : List Loc} {lsJ : Array Slot} {stJ : List Value} {ls : em_L} {st : List em_V}
theorem ek_Out_to {U : State} (hO : ek_Out s) (hWm : s.WarmedH U.vm) : ek_Out U := ⟨va_AO.moved hWm.alike hO.1, ek_AOA.moved hWm.alike hO.2.1, ek_AOA.moved hWm.alike hO.2.2.1, fun q hq => va_Nw.warmM hWm (hO.2.2.2 q hq)⟩
theorem ek_Wd_of {U : State} (hW : ek_WH n0 D s H locs S) (hWm : s.WarmedH U.vm) (hU : U.heap = H) : ek_Wd n0 D U S := by
  obtain ⟨ws, tys, hP, hK, hS, hn, hsz, hC, hF⟩ := hW
  exact ⟨ws, tys, by rw [hU]; exact hP, va_K.moved hWm.alike hK, by rw [hU]; exact hsz, hC, hF⟩
theorem ek_Pc_blind {as : List em_V} : FrameBlind (ek_Pc sa bs n0 D as S) := by
  intro a U g mk h
  obtain ⟨vs, h1, h2, ⟨ws, tys, hP, hK, hsz, hC, hF⟩, o1, o2, o3, o4⟩ := h
  exact ⟨vs, h1, h2, ⟨ws, tys, hP, va_K.moved (u := U) (U := U.calling g mk a) (Vm.Alike.refl U.vm) hK, hsz, hC, hF⟩, va_AO.moved (u := U) (U := U.calling g mk a) (Vm.Alike.refl U.vm) o1, ek_AOA.moved (u := U) (U := U.calling g mk a) (Vm.Alike.refl U.vm) o2, ek_AOA.moved (u := U) (U := U.calling g mk a) (Vm.Alike.refl U.vm) o3, fun q hq => va_Nw.same (u := U) (U := U.calling g mk a) rfl rfl (o4 q hq)⟩
/-- behind a call -/
theorem kx_after {m2 mc ms : Nat} {r : Int} {S2 : ek_S} {a : Array Value} {restJ : List Value} {rest : List em_V} (hr : va_Run p l e R s m args below meth c H locs cells slots mc ms (F0 m pc lsJ stJ) restJ (ek_Qc n0 D m2 r S2 a) (em_A n0)) (hn : n0 ≤ s.heap.size) (hS : va_S (em_A n0) s.heap H locs) (hrest : em_RS (fun q => n0 + q) sa bs restJ rest)
    (K : ∀ (H2 : Heap) (locs2 : List Loc) (stJ2 : List Value), em_RS (fun q => n0 + q) sa bs stJ2 (ek_push m2 r rest) → ek_WH n0 D s H2 locs2 S2 → W p l e R s m args below meth c H2 locs2 (cells + mc) (slots + ms) Q (F0 m (pc + 3) lsJ stJ2)) : W p l e R s m args below meth c H locs cells slots Q (F0 m pc lsJ stJ) := by
  have back : ∀ (t : State) (H1 : Heap) (locs1 : List Loc), t.heap = H1 → s.vm.Alike t.vm → ek_Wd n0 D t S2 → va_S (em_A n0) s.heap H1 locs1 → ek_WH n0 D s H1 locs1 S2 := by
    intro t H1 locs1 ht hvm hB hS1
    obtain ⟨ws, tys, hP, hK, hsz, hC, hF⟩ := hB
    rw [ht] at hP hsz
    exact ⟨ws, tys, hP, va_K.moved hvm.symm hK, hS1, hn, hsz, hC, hF⟩
  unfold ek_Qc at hr
  unfold ek_push at K
  generalize ek_rk m2 = z at hr K
  match z, hr, K with
  | 5, hr, K => exact va_calli hr hS (fun _ _ h => h) (fun _ h => h) (fun r1 u t H1 locs1 ht hvm hp hB _ _ hS1 => K H1 locs1 (.int r1 :: restJ) ⟨by rw [em_RV, hp], hrest⟩ (back t H1 locs1 ht hvm hB hS1))
  | 1, hr, K => exact va_calll hr hS (fun _ _ h => h) (fun _ h => h) (fun r1 u t H1 locs1 ht hvm hp hB _ _ hS1 => K H1 locs1 (.long r1 :: restJ) ⟨by rw [em_RV, hp], hrest⟩ (back t H1 locs1 ht hvm hB hS1))
  | 0, hr, K => exact va_callv hr hS (fun _ _ h => h) (fun _ h => h) (fun u t H1 locs1 ht hvm hp hB _ _ hS1 => K H1 locs1 restJ hrest (back t H1 locs1 ht hvm hB hS1))
  | 2, hr, K => exact va_callv hr hS (fun _ _ h => h) (fun _ h => h) (fun u t H1 locs1 ht hvm hp hB _ _ hS1 => K H1 locs1 restJ hrest (back t H1 locs1 ht hvm hB hS1))
  | 3, hr, K => exact va_callv hr hS (fun _ _ h => h) (fun _ h => h) (fun u t H1 locs1 ht hvm hp hB _ _ hS1 => K H1 locs1 restJ hrest (back t H1 locs1 ht hvm hB hS1))
  | 4, hr, K => exact va_callv hr hS (fun _ _ h => h) (fun _ h => h) (fun u t H1 locs1 ht hvm hp hB _ _ hS1 => K H1 locs1 restJ hrest (back t H1 locs1 ht hvm hB hS1))
  | z + 6, hr, K => exact va_callv hr hS (fun _ _ h => h) (fun _ h => h) (fun u t H1 locs1 ht hvm hp hB _ _ hS1 => K H1 locs1 restJ hrest (back t H1 locs1 ht hvm hB hS1))
theorem ek_ws_in {m2 : Nat} (h : Jvm.Cond.code (ek_y m2) (ek_b m2) (ek_mx m2) (ek_rt m2) ∈ em_tbl) : GoodIn em_tbl (ek_ws m2) := by
  intro w hw
  rcases List.mem_cons.mp hw with rfl | hw
  · exact ⟨h, good_of_word rfl⟩
  · exact ⟨hw, good_of_word (List.mem_filter.mp hw).2⟩
/-- what a call's links give -/
theorem kx_call {i m2 d2 li nest ini cd inst : Nat} {spec : Bool} {n : Int} {as rest : List em_V} {r : Int} {S2 : ek_S} (C : ek_Cx p s m args c R mid d)
    (hdg : decode (ek_b mid) pc = .ok (bif spec then .invokespecial i else .invokestatic i, 3)) (hok : ek_okcall (ek_y mid).cls i spec (m2 : Int) n [li, nest, ini, cd, inst] = true) (hnest : nest = 0 ∨ nest = 1) (hd : d2 + 1 ≤ d)
    (hM : Met l (ek_y m2) (ek_ws m2) (ek_rm d2 m2) (ek_Pc sa bs n0 D as S) (ek_Qc n0 D m2 r S2) (ek_mc m2) (ek_ms m2) (em_A n0)) (hf : cells + ek_mc m2 ≤ R.cells ∧ slots + ek_ms m2 ≤ R.slots)
    (hta : em_take n.toNat st [] = some (as, rest)) (hrc : (!spec || ek_rcv as) = true) (hcat : em_cat rest ≤ 8)
    (hls : em_LR (fun q => n0 + q) sa bs lsJ (ek_mx mid) ls) (hst : em_RS (fun q => n0 + q) sa bs stJ st) (hW : ek_WH n0 D s H locs S)
    (K : ∀ (H2 : Heap) (locs2 : List Loc) (stJ2 : List Value), em_RS (fun q => n0 + q) sa bs stJ2 (ek_push m2 r rest) → ek_WH n0 D s H2 locs2 S2 → W p l e R s m args below meth c H2 locs2 (cells + ek_mc m2) (slots + ek_ms m2) Q (F0 m (pc + 3) lsJ stJ2)) : W p l e R s m args below meth c H locs cells slots Q (F0 m pc lsJ stJ) := by
  obtain ⟨hx, hb, hml, hown, hts, hO, hR1, hR2⟩ := C
  have hS : CallFix p m c (ek_b mid) (ek_mx mid) s args em_tbl (ek_y mid).cls := ⟨hx, hb, hml, hown, hts⟩
  have hsz : lsJ.size = ek_mx mid := by obtain ⟨l0, h1, -⟩ := hls; exact h1.1
  obtain ⟨asJ, restJ, ha, hr, hsplit, hlen⟩ := em_take_spec n.toNat (accJ := []) (acc := []) hst trivial hta
  have hlJ := em_RS_len ha
  simp only [List.reverse_nil, List.nil_append, List.length_nil, Nat.add_zero] at hsplit hlen
  unfold ek_okcall at hok
  simp only [Int.toNat_natCast, Bool.and_eq_true] at hok
  obtain ⟨⟨⟨⟨⟨⟨⟨⟨⟨k1, k0⟩, k2⟩, k3⟩, k4⟩, k5⟩, k6⟩, k7⟩, k8⟩, k9⟩ := hok
  have hmx : ek_mx m2 ≤ 45 := Nat.le_of_ble_eq_true k5
  have hcode := em_wd_mem k4
  have hG := ek_ws_in hcode
  have hcw : Jvm.Cond.code (ek_y m2) (ek_b m2) (ek_mx m2) (ek_rt m2) ∈ ek_ws m2 := List.mem_cons_self
  have hy : (ek_y m2).cls ≠ "java/lang/invoke/MethodHandle" ∧ (ek_y m2).cls ≠ "java/lang/invoke/VarHandle" := ⟨by simpa using k6, by simpa using k7⟩
  have hfr : (ek_rm d2 m2).frames + 1 ≤ R.frames := em_room_f hd hR1
  have hlo : 8 + (ek_mx m2 + 11) + (ek_rm d2 m2).locals ≤ R.locals := em_room_l hmx hd hR2
  have hpay : ∀ w ∈ ek_ws m2, ∀ (a' : Array Value) (U : State), s.WarmedH U.vm → w.before a' U = true := pay_in hts hG
  have hSv : va_S (em_A n0) s.heap H locs := by obtain ⟨ws, tys, hP, hK, hS, hn, hsz, hC, hF⟩ := hW; exact hS
  have hn0 : n0 ≤ s.heap.size := by obtain ⟨ws, tys, hP, hK, hS, hn, hsz, hC, hF⟩ := hW; exact hn
  have hroom : 2 * (F0 m pc lsJ stJ).monitorRoom + (restJ.map fun v => v.category).sum ≤ 8 := lv_room (by rw [em_RS_cat hr]; exact hcat)
  have hpc : ∀ (U : State), U.heap = H → s.WarmedH U.vm → ek_Pc sa bs n0 D as S asJ.toArray U := fun U hU hWm => ⟨asJ, rfl, ha, ek_Wd_of hW hWm hU, ek_Out_to hO hWm⟩
  cases spec with
  | false =>
    simp only [Bool.false_eq_true, if_false, Bool.and_eq_true] at k9
    obtain ⟨j1, j2⟩ := k9
    have hsig : ∀ sig, parseMethodDescriptor (ek_y m2).desc = some sig → asJ.length = sig.parameters.length := fun sig hq => by
      have j1' := of_decide_eq_true j1
      rw [hq] at j1'
      have := Option.some.inj j1'
      rw [hlJ, hlen]
      exact this.symm
    have hstk : (F0 m pc lsJ stJ).stack = asJ.reverse ++ restJ := hsplit
    have hk2 : em_wd li (.methodLink (ek_y mid).cls i (ek_y m2)) = true := by
      rcases hnest with rfl | rfl
      · exact k2
      · exact absurd k2 (by simp)
    have cb : CallB R s args (ek_y mid).cls i (ek_y m2) (ek_b m2) (ek_mx m2) (ek_rt m2) (ek_ws m2) (ek_rm d2 m2) (ek_mc m2) (ek_ms m2) asJ.length := ⟨rfl, rfl, hfr, hlo, hpay, hcw, hts _ hcode, hts _ (em_wd_mem k3), hy, hsig, hts _ (em_wd_mem hk2)⟩
    exact kx_after (va_runS hS hM ⟨cb, hts _ (em_wd_mem j2)⟩ ⟨ek_Pc_blind, hpc⟩ rfl rfl hsz hstk hroom hdg hf) hn0 hSv hr K
  | true =>
    simp only [if_true, Bool.and_eq_true] at k9
    obtain ⟨⟨⟨⟨j1, j2⟩, j3⟩, j4⟩, j5⟩ := k9
    have hret : ek_rt m2 = none := of_decide_eq_true j5
    have hnm : (ek_y m2).name = "<init>" := of_decide_eq_true j3
    have hrc2 : ∃ (a0 : Nat) (asJ2 : List Value), asJ = .ref a0 :: asJ2 := by
      cases as with
      | nil => cases hrc
      | cons q0 as2 =>
        obtain ⟨t0, x0⟩ := q0
        obtain ⟨v0, asJ2, rfl, hv0, ha2⟩ := em_RS_cons ha
        have hrc : Nat.beq t0 2 = true := hrc
        have e0 : t0 = 2 := Nat.eq_of_beq_eq_true hrc
        subst e0
        obtain ⟨k, rfl, hk⟩ := em_RV_r hv0
        exact ⟨_, asJ2, rfl⟩
    obtain ⟨a0, asJ2, rfl⟩ := hrc2
    have hsig : ∀ sig, parseMethodDescriptor (ek_y m2).desc = some sig → asJ2.length = sig.parameters.length := fun sig hq => by
      have j1' := of_decide_eq_true j1
      rw [hq] at j1'
      have h7 := Option.some.inj j1'
      rw [List.length_cons] at hlJ
      dsimp only at h7
      omega
    have hstk : (F0 m pc lsJ stJ).stack = asJ2.reverse ++ .ref a0 :: restJ := by
      show stJ = _
      rw [hsplit]
      simp
    rw [hret] at hcw hcode
    rcases hnest with hn1 | hn1
    · subst hn1
      have cb : CallB R s args (ek_y mid).cls i (ek_y m2) (ek_b m2) (ek_mx m2) none (ek_ws m2) (ek_rm d2 m2) (ek_mc m2) (ek_ms m2) asJ2.length := ⟨rfl, rfl, hfr, hlo, hpay, hcw, hts _ hcode, hts _ (em_wd_mem k3), hy, hsig, hts _ (em_wd_mem k2)⟩
      exact kx_after (va_runI hS hM ⟨cb, hnm, hts _ (em_wd_mem j2)⟩ ⟨ek_Pc_blind, hpc⟩ rfl rfl hsz hstk hroom hdg hf) hn0 hSv hr K
    · subst hn1
      have k2' : ek_nests.any (fun q => decide (q = ((ek_y mid).cls, i, ek_y m2))) = true := by simpa using k2
      rw [List.any_eq_true] at k2'
      obtain ⟨q, hq, hq2⟩ := k2'
      have e1 : q = ((ek_y mid).cls, i, ek_y m2) := of_decide_eq_true hq2
      have h7 := hO.2.2.2 q hq
      rw [e1] at h7
      have hlnk : (Jvm.Cond.methodLinkNest (ek_y mid).cls i (ek_y m2) "EstateOffice").before args s = true := va_Nw.use rfl h7
      have cb : va_CN R s args (ek_y mid).cls i (ek_y m2) "EstateOffice" (ek_b m2) (ek_mx m2) none (ek_ws m2) (ek_rm d2 m2) (ek_mc m2) (ek_ms m2) asJ2.length := ⟨⟨rfl, rfl, hfr, hlo, hpay, hcw⟩, hts _ hcode, hts _ (em_wd_mem k3), hy, hsig, hlnk⟩
      exact kx_after (va_runIN hS hM ⟨cb, hnm, hts _ (em_wd_mem j2)⟩ ⟨ek_Pc_blind, hpc⟩ rfl rfl hsz hstk hroom hdg hf) hn0 hSv hr K
end KI
