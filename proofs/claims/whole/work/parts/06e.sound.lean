/-! SOUNDNESS, answers; the walk of a method; every method. Written by wip/gen/sound5.py. -/
/-- not a call, not an answer -/
def em_inl (x : Option em_R) : Prop := ∀ z, x ≠ some (.inr z)
theorem em_inl_none : em_inl none := fun z h => by cases h
theorem em_inl_to {pc : Nat} {ls : em_L} {st : List em_V} {M : em_M} : em_inl (em_to pc ls st M) := fun z h => by cases h
theorem em_inl_if {cc : Bool} {pc : Nat} {ls : em_L} {st : List em_V} {M : em_M} : em_inl (em_if cc pc ls st M) := fun z h => by cases h
theorem em_inl_br {cc : Bool} {p1 p2 : Nat} {ls : em_L} {st : List em_V} {M : em_M} : em_inl (em_br cc p1 p2 ls st M) := fun z h => by cases h
theorem em_inl_some {b : List (Bool × Nat) × Nat × em_L × List em_V × em_M} : em_inl (some (.inl b)) := fun z h => by cases h
theorem em_inl_bind {α : Type} {x : Option α} {f : α → Option em_R} (h : ∀ a, em_inl (f a)) : em_inl (x.bind f) := by
  cases x with
  | none => exact em_inl_none
  | some a => exact h a
theorem em_inl_p2 {t u : Nat} {st : List em_V} {f : Int → Int → List em_V → Option em_R} (h : ∀ a b r, em_inl (f a b r)) : em_inl (em_p2 t u st f) := by
  unfold em_p2
  exact em_inl_bind fun a => em_inl_bind fun b => h _ _ _
theorem em_inl_cond {cc : Bool} {x y : Option em_R} (h1 : em_inl x) (h2 : em_inl y) : em_inl (bif cc then x else y) := by
  cases cc with
  | true => exact h1
  | false => exact h2
theorem em_inl_prim {pc : Nat} {k : Int} {ls : em_L} {st : List em_V} {M : em_M} : em_inl (em_prim pc k ls st M) := by
  unfold em_prim
  repeat' first
    | exact em_inl_none
    | exact em_inl_if
    | refine em_inl_cond ?_ ?_
    | refine em_inl_p2 (fun _ _ _ => ?_)
    | refine em_inl_bind (fun _ => ?_)
def em_isend : Instr → Bool
  | .ireturn => true
  | .lreturn => true
  | .areturn => true
  | .return_ => true
  | .invokevirtual _ => true
  | .invokestatic _ => true
  | _ => false
set_option maxHeartbeats 4000000 in
theorem em_step_inl {mid pc : Nat} {ins : Instr} {aux : List Int} {ls : em_L} {st : List em_V} {M : em_M} (h : em_isend ins = false) : em_inl (em_step mid pc ins aux ls st M) := by
  cases ins
  all_goals first
    | exact em_inl_none
    | exact em_inl_to
    | (exfalso; cases h; done)
    | (simp only [em_step]
       repeat' first
         | exact em_inl_none
         | exact em_inl_to
         | exact em_inl_if
         | exact em_inl_br
         | exact em_inl_some
         | refine em_inl_cond ?_ ?_
         | refine em_inl_p2 (fun _ _ _ => ?_)
         | refine em_inl_bind (fun _ => ?_)
         | split)
theorem em_nar_b : ∀ n : Nat, n < 128 → narrow .byte (.int (Int32.ofNat n)) = .int (Int32.ofNat n) := by decide +kernel
theorem em_nar_c : ∀ n : Nat, n < 128 → narrow .char (.int (Int32.ofNat n)) = .int (Int32.ofNat n) := by decide +kernel
theorem em_nar_small (ty : FieldType) (ht : ty = .byte ∨ ty = .char) {z : Int32} (hz : 0 ≤ z.toInt ∧ z.toInt < 128) : narrow ty (.int z) = .int z := by
  have e : z = Int32.ofNat z.toInt.toNat := by
    apply Int32.toInt_inj.mp
    rw [show Int32.ofNat z.toInt.toNat = nI z.toInt.toNat from rfl, nI_toInt (by omega)]
    omega
  rw [e]
  rcases ht with rfl | rfl
  · exact em_nar_b _ (by omega)
  · exact em_nar_c _ (by omega)
theorem em_oki_spec {mid pc : Nat} {xi : em_I} {hh : List Nat} (h : em_oki mid pc xi hh = true) : decode (em_b mid) pc = .ok (xi.1, em_ilen xi.1 xi.2.1) ∧ em_okw (em_y mid).cls (em_mx mid) pc xi.1 xi.2.2.1 hh = true := by
  unfold em_oki at h
  rw [Bool.and_eq_true] at h
  refine ⟨?_, h.2⟩
  have h1 := h.1
  cases hd : decode (em_b mid) pc with
  | error z => rw [hd] at h1; cases h1
  | ok q =>
    obtain ⟨i, l⟩ := q
    rw [hd] at h1
    have h2 : (decide (i = xi.1) && Nat.beq l (em_ilen xi.1 xi.2.1)) = true := h1
    rw [Bool.and_eq_true] at h2
    rw [show i = xi.1 from of_decide_eq_true h2.1, show l = em_ilen xi.1 xi.2.1 from Nat.eq_of_beq_eq_true h2.2]
section SIM
variable {ad sa : Nat → Nat} {bs n0 L : Nat} {xs : Nat → Int32} {D : va_G}
variable {p : Program} {l : Launch} {e : Env} {R : Room} {s : State} {m : MethodId} {args : Array Value} {below : List Frame} {meth : Method} {c : Code} {Q : State → Prop} {mid d pc cells slots : Nat}
variable {H : Heap} {locs : List Loc} {lsJ : Array Slot} {stJ : List Value} {ls : em_L} {st : List em_V} {M : em_M} {aux : List Int} {b : List (Bool × Nat) × Nat × em_L × List em_V × em_M}

theorem w_ireturn {v : Bool × Int × em_M} (C : em_Cx sa bs n0 L xs p s m args c R mid d) (hlk : meth.locks = false) (hrt : meth.sig.returnType = em_rt mid) (hmid : mid < 244) (hdg : decode (em_b mid) pc = .ok (.ireturn, 1)) (h : em_step mid pc (.ireturn) aux ls st M = some (.inr (.inr v))) (hg : v.1 = true) (hst : em_RS ad sa bs stJ st) (hW : em_WH ad n0 L xs D s H locs M) : W p l e R s m args below meth c H locs 0 0 (MQ below (em_Qc ad sa bs n0 L xs D mid v.2.1 v.2.2) args s 0 0 (em_A n0)) (F0 m pc lsJ stJ) := by
  obtain ⟨hx, hb, hml, hown, hts, hO, hR1, hR2⟩ := C
  have hS : va_S (em_A n0) s.heap H locs := by obtain ⟨ws, tys, hP, hD, hK, hS, hC, hX⟩ := hW; exact hS
  match st, h, hst with
  | [], h, _ => cases h
  | _ :: _ :: _, h, _ => cases h
  | [q], h, hst =>
    obtain ⟨t, x⟩ := q
    obtain ⟨v0, r0, rfl, hv, hr⟩ := em_RS_cons hst
    have hr0 := em_RS_nil hr
    subst hr0
    simp only [em_step] at h
    cases hq : Nat.beq t 0 && (Nat.beq (em_rk mid) 0 || (Nat.beq (em_rk mid) 5 || (Nat.beq (em_rk mid) 6 || Nat.beq (em_rk mid) 7))) with
    | false => rw [hq, cond_false] at h; cases h
    | true =>
      rw [hq, cond_true] at h
      rw [Bool.and_eq_true, Bool.or_eq_true, Bool.or_eq_true, Bool.or_eq_true] at hq
      have e0 : t = 0 := Nat.eq_of_beq_eq_true hq.1
      subst e0
      cases h
      obtain ⟨z, rfl, hz⟩ := em_RV_i hv
      rcases hq.2 with hk | hk | hk | hk
      · have hk0 : em_rk mid = 0 := Nat.eq_of_beq_eq_true hk
        have hr1 : meth.sig.returnType = some .int := by rw [hrt]; exact (em_rk_ok hmid).1 hk0
        refine W.iret hx hb hr1 (fun t ht hWm => ?_) hS.2.2 hdg
        show em_Qc ad sa bs n0 L xs D mid x M args s _ t
        unfold em_Qc
        rw [hk0]
        exact ⟨⟨z, (), rfl, hz, em_Wd_of hO hW hWm ht⟩, hS.F ht⟩
      · have hk0 : em_rk mid = 5 := Nat.eq_of_beq_eq_true hk
        have hr1 : meth.sig.returnType = some .boolean := by rw [hrt]; exact (em_rk_ok hmid).2.2.2.1 hk0
        have hg2 : (bif Nat.beq (em_rk mid) 5 then decide (x = 0 ∨ x = 1) else bif Nat.beq (em_rk mid) 6 || Nat.beq (em_rk mid) 7 then decide (0 ≤ x ∧ x < 128) else true) = true := hg
        rw [hk, cond_true] at hg2
        have hg3 := of_decide_eq_true hg2
        have hnar : narrow .boolean (.int z) = .int z := (em_fits_i (nk := 1) (ty := .boolean) rfl hz (fun _ => hg3)).1
        refine W.zret hx hb hr1 hnar (fun t ht hWm => ?_) hS.2.2 hdg
        show em_Qc ad sa bs n0 L xs D mid x M args s _ t
        unfold em_Qc
        rw [hk0]
        exact ⟨⟨z, (), rfl, hz, em_Wd_of hO hW hWm ht⟩, hS.F ht⟩
      · have hk0 : em_rk mid = 6 := Nat.eq_of_beq_eq_true hk
        have hr1 : meth.sig.returnType = some .byte := by rw [hrt]; exact (em_rk_ok hmid).2.2.2.2.2.1 hk0
        have hg2 : (bif Nat.beq (em_rk mid) 5 then decide (x = 0 ∨ x = 1) else bif Nat.beq (em_rk mid) 6 || Nat.beq (em_rk mid) 7 then decide (0 ≤ x ∧ x < 128) else true) = true := hg
        rw [hk0] at hg2
        have hg3 : 0 ≤ x ∧ x < 128 := of_decide_eq_true hg2
        have hnar : narrow .byte (.int z) = .int z := em_nar_small .byte (Or.inl rfl) (by rw [hz]; exact hg3)
        refine W.zret hx hb hr1 hnar (fun t ht hWm => ?_) hS.2.2 hdg
        show em_Qc ad sa bs n0 L xs D mid x M args s _ t
        unfold em_Qc
        rw [hk0]
        exact ⟨⟨z, (), rfl, hz, em_Wd_of hO hW hWm ht⟩, hS.F ht⟩
      · have hk0 : em_rk mid = 7 := Nat.eq_of_beq_eq_true hk
        have hr1 : meth.sig.returnType = some .char := by rw [hrt]; exact (em_rk_ok hmid).2.2.2.2.2.2 hk0
        have hg2 : (bif Nat.beq (em_rk mid) 5 then decide (x = 0 ∨ x = 1) else bif Nat.beq (em_rk mid) 6 || Nat.beq (em_rk mid) 7 then decide (0 ≤ x ∧ x < 128) else true) = true := hg
        rw [hk0] at hg2
        have hg3 : 0 ≤ x ∧ x < 128 := of_decide_eq_true hg2
        have hnar : narrow .char (.int z) = .int z := em_nar_small .char (Or.inr rfl) (by rw [hz]; exact hg3)
        refine W.zret hx hb hr1 hnar (fun t ht hWm => ?_) hS.2.2 hdg
        show em_Qc ad sa bs n0 L xs D mid x M args s _ t
        unfold em_Qc
        rw [hk0]
        exact ⟨⟨z, (), rfl, hz, em_Wd_of hO hW hWm ht⟩, hS.F ht⟩
theorem w_lreturn {v : Bool × Int × em_M} (C : em_Cx sa bs n0 L xs p s m args c R mid d) (hlk : meth.locks = false) (hrt : meth.sig.returnType = em_rt mid) (hmid : mid < 244) (hdg : decode (em_b mid) pc = .ok (.lreturn, 1)) (h : em_step mid pc (.lreturn) aux ls st M = some (.inr (.inr v))) (hg : v.1 = true) (hst : em_RS ad sa bs stJ st) (hW : em_WH ad n0 L xs D s H locs M) : W p l e R s m args below meth c H locs 0 0 (MQ below (em_Qc ad sa bs n0 L xs D mid v.2.1 v.2.2) args s 0 0 (em_A n0)) (F0 m pc lsJ stJ) := by
  obtain ⟨hx, hb, hml, hown, hts, hO, hR1, hR2⟩ := C
  have hS : va_S (em_A n0) s.heap H locs := by obtain ⟨ws, tys, hP, hD, hK, hS, hC, hX⟩ := hW; exact hS
  match st, h, hst with
  | [], h, _ => cases h
  | _ :: _ :: _, h, _ => cases h
  | [q], h, hst =>
    obtain ⟨t, x⟩ := q
    obtain ⟨v0, r0, rfl, hv, hr⟩ := em_RS_cons hst
    have hr0 := em_RS_nil hr
    subst hr0
    simp only [em_step] at h
    cases hq : Nat.beq t 1 && Nat.beq (em_rk mid) 1 with
    | false => rw [hq, cond_false] at h; cases h
    | true =>
      rw [hq, cond_true] at h
      rw [Bool.and_eq_true] at hq
      have e0 : t = 1 := Nat.eq_of_beq_eq_true hq.1
      subst e0
      cases h
      obtain ⟨z, rfl, hz⟩ := em_RV_l hv
      have hk0 : em_rk mid = 1 := Nat.eq_of_beq_eq_true hq.2
      have hr1 : meth.sig.returnType = some .long := by rw [hrt]; exact (em_rk_ok hmid).2.1 hk0
      refine W.lret hx hb hr1 (fun t ht hWm => ?_) hS.2.2 hdg
      show em_Qc ad sa bs n0 L xs D mid x M args s _ t
      unfold em_Qc
      rw [hk0]
      exact ⟨⟨z, (), rfl, hz, em_Wd_of hO hW hWm ht⟩, hS.F ht⟩
theorem w_areturn {v : Bool × Int × em_M} (C : em_Cx sa bs n0 L xs p s m args c R mid d) (hlk : meth.locks = false) (hrt : meth.sig.returnType = em_rt mid) (hmid : mid < 244) (hdg : decode (em_b mid) pc = .ok (.areturn, 1)) (h : em_step mid pc (.areturn) aux ls st M = some (.inr (.inr v))) (hg : v.1 = true) (hst : em_RS ad sa bs stJ st) (hW : em_WH ad n0 L xs D s H locs M) : W p l e R s m args below meth c H locs 0 0 (MQ below (em_Qc ad sa bs n0 L xs D mid v.2.1 v.2.2) args s 0 0 (em_A n0)) (F0 m pc lsJ stJ) := by
  obtain ⟨hx, hb, hml, hown, hts, hO, hR1, hR2⟩ := C
  have hS : va_S (em_A n0) s.heap H locs := by obtain ⟨ws, tys, hP, hD, hK, hS, hC, hX⟩ := hW; exact hS
  match st, h, hst with
  | [], h, _ => cases h
  | _ :: _ :: _, h, _ => cases h
  | [q], h, hst =>
    obtain ⟨t, x⟩ := q
    obtain ⟨v0, r0, rfl, hv, hr⟩ := em_RS_cons hst
    have hr0 := em_RS_nil hr
    subst hr0
    simp only [em_step] at h
    cases hq : (Nat.beq t 2 && Nat.beq (em_rk mid) 2) || (Nat.beq t 4 && Nat.beq (em_rk mid) 4) with
    | false => rw [hq, cond_false] at h; cases h
    | true =>
      rw [hq, cond_true] at h
      rw [Bool.or_eq_true, Bool.and_eq_true, Bool.and_eq_true] at hq
      cases h
      rcases hq with ⟨q1, q2⟩ | ⟨q1, q2⟩
      · have e0 : t = 2 := Nat.eq_of_beq_eq_true q1
        subst e0
        obtain ⟨k, rfl, hz⟩ := em_RV_r hv
        have hk0 : em_rk mid = 2 := Nat.eq_of_beq_eq_true q2
        obtain ⟨nm, hnm⟩ := (em_rk_ok hmid).2.2.2.2.1 (Or.inl hk0)
        refine W.aret hx hb (hrt.trans hnm) (Or.inl ⟨nm, rfl⟩) (Or.inr ⟨_, rfl⟩) (fun t ht hWm => ?_) hS.2.2 hdg
        show em_Qc ad sa bs n0 L xs D mid x M args s _ t
        unfold em_Qc
        rw [hk0]
        exact ⟨⟨(), _, rfl, trivial, ⟨k, hz, rfl⟩, em_Wd_of hO hW hWm ht⟩, hS.F ht⟩
      · have e0 : t = 4 := Nat.eq_of_beq_eq_true q1
        subst e0
        obtain ⟨k, hk16, rfl, hz⟩ := em_RV_s hv
        have hk0 : em_rk mid = 4 := Nat.eq_of_beq_eq_true q2
        obtain ⟨nm, hnm⟩ := (em_rk_ok hmid).2.2.2.2.1 (Or.inr hk0)
        refine W.aret hx hb (hrt.trans hnm) (Or.inl ⟨nm, rfl⟩) (Or.inr ⟨_, rfl⟩) (fun t ht hWm => ?_) hS.2.2 hdg
        show em_Qc ad sa bs n0 L xs D mid x M args s _ t
        unfold em_Qc
        rw [hk0]
        exact ⟨⟨(), _, rfl, trivial, ⟨k, hk16, hz, rfl⟩, em_Wd_of hO hW hWm ht⟩, hS.F ht⟩
theorem w_return {v : Bool × Int × em_M} (C : em_Cx sa bs n0 L xs p s m args c R mid d) (hlk : meth.locks = false) (hrt : meth.sig.returnType = em_rt mid) (hmid : mid < 244) (hdg : decode (em_b mid) pc = .ok (.return_, 1)) (h : em_step mid pc (.return_) aux ls st M = some (.inr (.inr v))) (hg : v.1 = true) (hst : em_RS ad sa bs stJ st) (hW : em_WH ad n0 L xs D s H locs M) : W p l e R s m args below meth c H locs 0 0 (MQ below (em_Qc ad sa bs n0 L xs D mid v.2.1 v.2.2) args s 0 0 (em_A n0)) (F0 m pc lsJ stJ) := by
  obtain ⟨hx, hb, hml, hown, hts, hO, hR1, hR2⟩ := C
  have hS : va_S (em_A n0) s.heap H locs := by obtain ⟨ws, tys, hP, hD, hK, hS, hC, hX⟩ := hW; exact hS
  cases st with
  | cons q r => cases h
  | nil =>
    have h0 := em_RS_nil hst
    subst h0
    simp only [em_step] at h
    cases hq : Nat.beq (em_rk mid) 3 with
    | false => rw [hq, cond_false] at h; cases h
    | true =>
      rw [hq, cond_true] at h
      cases h
      have hk0 : em_rk mid = 3 := Nat.eq_of_beq_eq_true hq
      refine W.vret hx hb (hrt.trans ((em_rk_ok hmid).2.2.1 hk0)) (fun t ht hWm => ?_) hS.2.2 hdg
      show em_Qc ad sa bs n0 L xs D mid 0 M args s _ t
      unfold em_Qc
      rw [hk0]
      exact ⟨⟨(), rfl, trivial, em_Wd_of hO hW hWm ht⟩, hS.F ht⟩
theorem em_call3 {mi n ci : Int} : ¬ em_call pc ls st M [mi, n, ci] = some (.inl b) := by
  intro h
  simp only [em_call] at h
  cases ht : em_take n.toNat st [] with
  | none => rw [ht] at h; cases h
  | some a =>
    rw [ht, Option.bind_some] at h
    generalize ((decide (ci = -1) || em_rcv ci a.1) && Nat.ble (em_cat a.2) 8 && Nat.ble (em_cat a.1) (em_mx mi.toNat)) = g at h
    cases g <;> cases h
theorem em_ret_inr {ins : Instr} (hi : ins = .ireturn ∨ ins = .lreturn ∨ ins = .areturn ∨ ins = .return_) : ¬ em_step mid pc ins aux ls st M = some (.inl b) := by
  intro h
  have key : ∀ (g : Bool) (x : Int), ¬ (bif g then em_ret mid x M else none) = some (.inl b) := fun g x h => by cases g <;> cases h
  rcases hi with rfl | rfl | rfl | rfl
  · match st, h with
    | [], h => cases h
    | [q], h => exact key _ _ h
    | _ :: _ :: _, h => cases h
  · match st, h with
    | [], h => cases h
    | [q], h => exact key _ _ h
    | _ :: _ :: _, h => cases h
  · match st, h with
    | [], h => cases h
    | [q], h => exact key _ _ h
    | _ :: _ :: _, h => cases h
  · match st, h with
    | [], h => exact key _ _ h
    | _ :: _, h => cases h
set_option maxHeartbeats 4000000 in
/-- any step that is no call and no answer -/
theorem em_sim {ins : Instr} {len : Nat} {hh : List Nat} (C : em_Cx sa bs n0 L xs p s m args c R mid d) (hcs : cells ≤ R.cells ∧ slots ≤ R.slots) (hdg : decode (em_b mid) pc = .ok (ins, em_ilen ins len)) (hok : em_okw (em_y mid).cls (em_mx mid) pc ins aux hh = true) (h : em_step mid pc ins aux ls st M = some (.inl b)) (hne : em_sel b.1 b.2.1 ≠ 999999) (hls : em_LR ad sa bs lsJ (em_mx mid) ls) (hst : em_RS ad sa bs stJ st) (hW : em_WH ad n0 L xs D s H locs M) (K : ∀ (H2 : Heap) (locs2 : List Loc) (lsJ2 : Array Slot) (stJ2 : List Value), em_LR ad sa bs lsJ2 (em_mx mid) b.2.2.1 → em_RS ad sa bs stJ2 b.2.2.2.1 → em_WH ad n0 L xs D s H2 locs2 b.2.2.2.2 → W p l e R s m args below meth c H2 locs2 cells slots Q (F0 m (em_sel b.1 b.2.1) lsJ2 stJ2)) : W p l e R s m args below meth c H locs cells slots Q (F0 m pc lsJ stJ) := by
  cases ins with
  | lconst n => exact w_lconst C hdg h hne hls hst hW K
  | iload i => exact w_iload C hdg h hne hls hst hW K
  | iload_n i => exact w_iload_n C hdg h hne hls hst hW K
  | lload i => exact w_lload C hdg h hne hls hst hW K
  | lload_n i => exact w_lload_n C hdg h hne hls hst hW K
  | aload i => exact w_aload C hdg h hne hls hst hW K
  | aload_n i => exact w_aload_n C hdg h hne hls hst hW K
  | dup  => exact w_dup C hdg h hne hls hst hW K
  | dup2  => exact w_dup2 C hdg h hne hls hst hW K
  | pop  => exact w_pop C hdg h hne hls hst hW K
  | iadd  => exact w_iadd C hdg h hne hls hst hW K
  | isub  => exact w_isub C hdg h hne hls hst hW K
  | imul  => exact w_imul C hdg h hne hls hst hW K
  | iand  => exact w_iand C hdg h hne hls hst hW K
  | ior  => exact w_ior C hdg h hne hls hst hW K
  | ixor  => exact w_ixor C hdg h hne hls hst hW K
  | ishl  => exact w_ishl C hdg h hne hls hst hW K
  | ishr  => exact w_ishr C hdg h hne hls hst hW K
  | iushr  => exact w_iushr C hdg h hne hls hst hW K
  | ladd  => exact w_ladd C hdg h hne hls hst hW K
  | lsub  => exact w_lsub C hdg h hne hls hst hW K
  | lmul  => exact w_lmul C hdg h hne hls hst hW K
  | land  => exact w_land C hdg h hne hls hst hW K
  | lor  => exact w_lor C hdg h hne hls hst hW K
  | lshl  => exact w_lshl C hdg h hne hls hst hW K
  | lshr  => exact w_lshr C hdg h hne hls hst hW K
  | ldiv  => exact w_ldiv C hdg h hne hls hst hW K
  | lrem  => exact w_lrem C hdg h hne hls hst hW K
  | lcmp  => exact w_lcmp C hdg h hne hls hst hW K
  | i2b  => exact w_i2b C hdg h hne hls hst hW K
  | i2c  => exact w_i2c C hdg h hne hls hst hW K
  | i2l  => exact w_i2l C hdg h hne hls hst hW K
  | l2i  => exact w_l2i C hdg h hne hls hst hW K
  | ifnull off => exact w_ifnull C hdg h hne hls hst hW K
  | iaload  => exact w_iaload C hdg h hne hls hst hW K
  | laload  => exact w_laload C hdg h hne hls hst hW K
  | baload  => exact w_baload C hdg h hne hls hst hW K
  | aaload  => exact w_aaload C hdg h hne hls hst hW K
  | iastore  => exact w_iastore C hdg h hne hls hst hW K
  | lastore  => exact w_lastore C hdg h hne hls hst hW K
  | bastore  => exact w_bastore C hdg h hne hls hst hW K
  | arraylength  => exact w_arraylength C hdg h hne hls hst hW K
  | iconst n => exact w_iconst C hdg (of_decide_eq_true hok) h hne hls hst hW K
  | bipush n => exact w_bipush C hdg (of_decide_eq_true hok) h hne hls hst hW K
  | sipush n => exact w_sipush C hdg (of_decide_eq_true hok) h hne hls hst hW K
  | istore i => exact w_istore C hdg (Nat.le_of_ble_eq_true hok) h hne hls hst hW K
  | astore i => exact w_astore C hdg (Nat.le_of_ble_eq_true hok) h hne hls hst hW K
  | istore_n i => exact w_istore_n C hdg (Nat.le_of_ble_eq_true hok) h hne hls hst hW K
  | astore_n i => exact w_astore_n C hdg (Nat.le_of_ble_eq_true hok) h hne hls hst hW K
  | lstore i => exact w_lstore C hdg (Nat.le_of_ble_eq_true hok) h hne hls hst hW K
  | lstore_n i => exact w_lstore_n C hdg (Nat.le_of_ble_eq_true hok) h hne hls hst hW K
  | iinc i n => exact w_iinc C hdg (Nat.le_of_ble_eq_true hok) h hne hls hst hW K
  | goto off => exact w_goto C hdg (of_decide_eq_true hok) h hne hls hst hW K
  | ifnonnull off => exact w_ifnonnull C hdg (of_decide_eq_true hok) h hne hls hst hW K
  | ifCond cnd off =>
    have ho := of_decide_eq_true hok
    cases cnd with
    | eq => exact w_if_eq C hdg ho h hne hls hst hW K
    | ne => exact w_if_ne C hdg ho h hne hls hst hW K
    | lt => exact w_if_lt C hdg ho h hne hls hst hW K
    | ge => exact w_if_ge C hdg ho h hne hls hst hW K
    | gt => exact w_if_gt C hdg ho h hne hls hst hW K
    | le => exact w_if_le C hdg ho h hne hls hst hW K
  | if_icmp cnd off =>
    have ho := of_decide_eq_true hok
    cases cnd with
    | eq => exact w_ic_eq C hdg ho h hne hls hst hW K
    | ne => exact w_ic_ne C hdg ho h hne hls hst hW K
    | lt => exact w_ic_lt C hdg ho h hne hls hst hW K
    | ge => exact w_ic_ge C hdg ho h hne hls hst hW K
    | gt => exact w_ic_gt C hdg ho h hne hls hst hW K
    | le => exact w_ic_le C hdg ho h hne hls hst hW K
  | tableswitch dflt lo hi offs =>
    have hok1 : (decide (0 ≤ (pc : Int) + dflt) && decide (hi = lo + offs.toList.length - 1) && offs.toList.all (fun o => decide (0 ≤ (pc : Int) + o))) = true := hok
    rw [Bool.and_eq_true, Bool.and_eq_true] at hok1
    exact w_switch C hdg (of_decide_eq_true hok1.1.1) (of_decide_eq_true hok1.1.2) (fun x hx => of_decide_eq_true (List.all_eq_true.mp hok1.2 x hx)) h hne hls hst hW K
  | ldc i =>
    simp only [em_okw] at hok
    split at hok
    · rw [Bool.and_eq_true] at hok
      exact w_ldc C hdg rfl (em_wd_mem hok.1) (of_decide_eq_true hok.2) h hne hls hst hW K
    · rename_i k
      rw [Bool.and_eq_true, Bool.and_eq_true] at hok
      have hk := of_decide_eq_true hok.1.2
      have e : [(1 : Int), k] = [1, ((k.toNat : Nat) : Int)] := by rw [show ((k.toNat : Nat) : Int) = k by omega]
      exact w_ldcS C hdg e (by omega) (Nat.eq_of_beq_eq_true hok.2) (of_decide_eq_true hok.1.1) h hne hls hst hW K
    · cases hok
  | ldc_w i =>
    simp only [em_okw] at hok
    split at hok
    · rw [Bool.and_eq_true] at hok
      exact w_ldcw C hdg rfl (em_wd_mem hok.1) (of_decide_eq_true hok.2) h hne hls hst hW K
    · cases hok
  | ldc2_w i =>
    simp only [em_okw] at hok
    split at hok
    · rw [Bool.and_eq_true] at hok
      exact w_ldc2 C hdg rfl (em_wd_mem hok.1) (of_decide_eq_true hok.2) h hne hls hst hW K
    · cases hok
  | getstatic i =>
    simp only [em_okw] at hok
    split at hok
    · rw [Bool.and_eq_true] at hok
      exact w_getst C hdg rfl (em_wd_mem hok.1) (of_decide_eq_true hok.2) h hne hls hst hW K
    · exact w_getstR C hdg rfl (em_wd_mem hok) h hne hls hst hW K
    · cases h
    · cases hok
  | getfield i =>
    simp only [em_okw] at hok
    split at hok
    · exact w_getSv C hdg rfl (em_wd_mem hok) h hne hls hst hW K
    · exact w_getSc C hdg rfl (em_wd_mem hok) h hne hls hst hW K
    · simp only [Bool.and_eq_true] at hok
      obtain ⟨⟨⟨⟨⟨⟨⟨q1, q2⟩, q3⟩, q4⟩, q5⟩, q6⟩, q7⟩, q8⟩ := hok
      exact w_getfield C hdg rfl (em_wd_mem q1) (Nat.le_of_ble_eq_true q2) (of_decide_eq_true q3) (of_decide_eq_true q4) (of_decide_eq_true q5) (Nat.le_of_ble_eq_true q6) (of_decide_eq_true q7) (of_decide_eq_true q8) h hne hls hst hW K
    · cases hok
  | putfield i =>
    simp only [em_okw] at hok
    split at hok
    · simp only [Bool.and_eq_true] at hok
      obtain ⟨⟨⟨⟨⟨⟨⟨q1, q2⟩, q3⟩, q4⟩, q5⟩, q6⟩, q7⟩, q8⟩ := hok
      split at q8
      · exact w_putfield C hdg rfl (em_wd_mem q1) (Nat.le_of_ble_eq_true q2) (of_decide_eq_true q3) (of_decide_eq_true q4) (of_decide_eq_true q5) (Nat.le_of_ble_eq_true q6) (of_decide_eq_true q7) (by assumption) q8 h hne hls hst hW K
      · cases q8
    · cases hok
  | invokevirtual i =>
    simp only [em_okw] at hok
    split at hok
    · exact absurd h em_call3
    · cases h
    · cases hok
  | invokestatic i =>
    simp only [em_okw] at hok
    split at hok
    · exact absurd h em_call3
    · exact w_max C hdg (em_wd_mem hok) hcs h hne hls hst hW K
    · exact w_min C hdg (em_wd_mem hok) hcs h hne hls hst hW K
    · exact w_copy C hdg (em_wd_mem hok) h hne hls hst hW K
    · cases h
    · cases hok
  | ireturn => exact absurd h (em_ret_inr (Or.inl rfl))
  | lreturn => exact absurd h (em_ret_inr (Or.inr (Or.inl rfl)))
  | areturn => exact absurd h (em_ret_inr (Or.inr (Or.inr (Or.inl rfl))))
  | return_ => exact absurd h (em_ret_inr (Or.inr (Or.inr (Or.inr rfl))))
  | _ => cases h
end SIM
