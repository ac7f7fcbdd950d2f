/-! SOUNDNESS: the walk of a method; every method. Written by wip/gen/sound6.py. -/
/-- the tables are the bytes' -/
def em_codeOk (mid : Nat) : Prop := ∀ (pc : Nat) (xi : em_I), em_code mid pc = some xi → ∃ hh, em_oki mid pc xi hh = true
theorem em_dd_le (d m2 : Nat) : em_dd d m2 ≤ d := by
  unfold em_dd
  cases h : Nat.blt (em_lev m2) d with
  | true =>
    have : em_lev m2 + 1 ≤ d := Nat.le_of_ble_eq_true h
    show em_lev m2 ≤ d
    omega
  | false => exact Nat.le_refl d
theorem em_slots {ad sa : Nat → Nat} {bs : Nat} : ∀ {vs : List Value} {qs : List em_V}, em_RS ad sa bs vs qs → (lg_sl vs).length = em_cat qs
  | [], [], _ => rfl
  | v :: vs, q :: qs, h => by
    have e : lg_sl (v :: vs) = (if v.category = 2 then [.val v, .second] else [.val v]) ++ lg_sl vs := rfl
    rw [e, List.length_append, em_slots h.2, em_cat, em_RV_cat h.1]
    cases Nat.beq q.1 1 <;> rfl
  | [], _ :: _, h => h.elim
  | _ :: _, [], h => h.elim
/-- what a run of the small machine says of a method -/
def em_Snd (ad sa : Nat → Nat) (bs n0 L : Nat) (xs : Nat → Int32) (D : va_G) (l : Launch) (n : Nat) : Prop :=
  ∀ (d mid : Nat) (as : List em_V) (M : em_M) (r : Int) (M2 : em_M), mid < 243 → em_cat as ≤ em_mx mid → plainName (em_y mid).cls = true → em_run n d mid 0 (em_args 0 as) [] M = some (r, M2) → Met l (em_y mid) (em_ws mid) (em_rm d) (em_Pc ad sa bs n0 L xs D as M) (em_Qc ad sa bs n0 L xs D mid r M2) 0 0 (em_A n0)
theorem em_call_some {pc : Nat} {ls : em_L} {st : List em_V} {M : em_M} {aux : List Int} {z : (Nat × List em_V × Nat × em_L × List em_V × em_M) ⊕ (Bool × Int × em_M)} (h : em_call pc ls st M aux = some (.inr z)) : ∃ mi n ci as rest, aux = [mi, n, ci] ∧ em_take n.toNat st [] = some (as, rest) ∧ (decide (ci = -1) || em_rcv ci as) = true ∧ em_cat rest ≤ 8 ∧ em_cat as ≤ em_mx mi.toNat ∧ z = .inl (mi.toNat, as, pc + 3, ls, rest, M) := by
  match aux, h with
  | [], h => cases h
  | [k], h => exact absurd h (em_inl_prim z)
  | [_, _], h => cases h
  | _ :: _ :: _ :: _ :: _, h => cases h
  | [mi, n, ci], h =>
    simp only [em_call] at h
    cases ht : em_take n.toNat st [] with
    | none => rw [ht] at h; cases h
    | some a =>
      rw [ht, Option.bind_some] at h
      cases hg : ((decide (ci = -1) || em_rcv ci a.1) && Nat.ble (em_cat a.2) 8 && Nat.ble (em_cat a.1) (em_mx mi.toNat)) with
      | false => rw [hg] at h; cases h
      | true =>
        rw [hg] at h
        cases h
        rw [Bool.and_eq_true, Bool.and_eq_true] at hg
        exact ⟨mi, n, ci, a.1, a.2, rfl, ht, hg.1.1, Nat.le_of_ble_eq_true hg.1.2, Nat.le_of_ble_eq_true hg.2, rfl⟩
theorem em_ret_nc {mid pc : Nat} {aux : List Int} {ls : em_L} {st : List em_V} {M : em_M} {cc : Nat × List em_V × Nat × em_L × List em_V × em_M} {ins : Instr} (hi : ins = .ireturn ∨ ins = .lreturn ∨ ins = .areturn ∨ ins = .return_) : ¬ em_step mid pc ins aux ls st M = some (.inr (.inl cc)) := by
  intro h
  have key : ∀ (g : Bool) (x : Int), ¬ (bif g then em_ret mid x M else none) = some (.inr (.inl cc)) := fun g x h => by cases g <;> cases h
  rcases hi with rfl | rfl | rfl | rfl
  · match st, h with
    | [], h => cases h
    | [q], h => exact key _ _ h
    | _ :: _ :: _, h => cases h
  · match st, h with
    | [], h => cases h
    | [q], h => exact key _ _ h
    | _ :: _ :: _, h => cases h
  · match st, h with
    | [], h => cases h
    | [q], h => exact key _ _ h
    | _ :: _ :: _, h => cases h
  · match st, h with
    | [], h => exact key _ _ h
    | _ :: _, h => cases h
section SIM
variable {ad sa : Nat → Nat} {bs n0 L : Nat} {xs : Nat → Int32} {D : va_G}
variable {p : Program} {l : Launch} {e : Env} {R : Room} {s : State} {m : MethodId} {args : Array Value} {below : List Frame} {meth : Method} {c : Code} {Q : State → Prop} {mid d pc cells slots : Nat}
variable {H : Heap} {locs : List Loc} {lsJ : Array Slot} {stJ : List Value} {ls : em_L} {st : List em_V} {M : em_M} {aux : List Int} {b : List (Bool × Nat) × Nat × em_L × List em_V × em_M}

theorem em_okcall_shape {own : String} {i : Nat} {virt : Bool} {mi n ci : Int} {hh : List Nat} (h : em_okcall own i virt mi n ci hh = true) : ∃ li nest ini cd inst sel, hh = [li, nest, ini, cd, inst, sel] := by
  match hh, h with
  | [li, nest, ini, cd, inst, sel], _ => exact ⟨li, nest, ini, cd, inst, sel, rfl⟩
  | [], h => cases h
  | [_], h => cases h
  | [_, _], h => cases h
  | [_, _, _], h => cases h
  | [_, _, _, _], h => cases h
  | [_, _, _, _, _], h => cases h
  | _ :: _ :: _ :: _ :: _ :: _ :: _ :: _, h => cases h
theorem em_okcall_nest {own : String} {i : Nat} {virt : Bool} {mi n ci : Int} {li nest ini cd inst sel : Nat} (h : em_okcall own i virt mi n ci [li, nest, ini, cd, inst, sel] = true) : ∃ nest2, (nest2 = 0 ∨ nest2 = 1) ∧ em_okcall own i virt mi n ci [li, nest2, ini, cd, inst, sel] = true := by
  cases nest with
  | zero => exact ⟨0, Or.inl rfl, h⟩
  | succ k => exact ⟨1, Or.inr rfl, h⟩
theorem em_okcall_lt {own : String} {i : Nat} {virt : Bool} {mi n ci : Int} {li nest ini cd inst sel : Nat} (h : em_okcall own i virt mi n ci [li, nest, ini, cd, inst, sel] = true) : mi.toNat < 243 ∧ plainName (em_y mi.toNat).cls = true := by
  unfold em_okcall at h
  simp only [Bool.and_eq_true] at h
  obtain ⟨⟨⟨⟨⟨⟨⟨⟨k1, k2⟩, k3⟩, k4⟩, k5⟩, k6⟩, k7⟩, k8⟩, k9⟩ := h
  exact ⟨Nat.le_of_ble_eq_true k1, k8⟩
/-- the walk of a method, from any place to its end -/
theorem em_walk {N : Nat} {r : Int} {M2 : em_M} (C : em_Cx sa bs n0 L xs p s m args c R mid d) (hcs : cells ≤ R.cells ∧ slots ≤ R.slots) (hco : em_codeOk mid) (IH : ∀ n, n < N → em_Snd ad sa bs n0 L xs D l n)
    (hend : ∀ (pc : Nat) (xi : em_I) (hh : List Nat) (H : Heap) (locs : List Loc) (lsJ : Array Slot) (stJ : List Value) (ls : em_L) (st : List em_V) (M : em_M), em_oki mid pc xi hh = true → em_step mid pc xi.1 xi.2.2.1 ls st M = some (.inr (.inr (true, r, M2))) → em_RS ad sa bs stJ st → em_WH ad n0 L xs D s H locs M → W p l e R s m args below meth c H locs cells slots Q (F0 m pc lsJ stJ)) :
    ∀ (n : Nat), n ≤ N → ∀ (pc : Nat) (ls : em_L) (st : List em_V) (M : em_M) (H : Heap) (locs : List Loc) (lsJ : Array Slot) (stJ : List Value), em_run n d mid pc ls st M = some (r, M2) → em_LR ad sa bs lsJ (em_mx mid) ls → em_RS ad sa bs stJ st → em_WH ad n0 L xs D s H locs M → W p l e R s m args below meth c H locs cells slots Q (F0 m pc lsJ stJ) := by
  intro n
  induction n with
  | zero => intro _ pc ls st M H locs lsJ stJ h; cases h
  | succ n ih =>
    intro hnN pc ls st M H locs lsJ stJ h hls hst hW
    rw [em_run] at h
    cases hc : em_code mid pc with
    | none => rw [hc] at h; cases h
    | some xi =>
      rw [hc] at h
      dsimp only at h
      obtain ⟨hh, hoki⟩ := hco pc xi hc
      obtain ⟨hdg, hokw⟩ := em_oki_spec hoki
      have hls2 := em_LR_nrm hls xi.2.2.2
      cases hs : em_step mid pc xi.1 xi.2.2.1 (em_nrm xi.2.2.2 ls) st M with
      | none => rw [hs] at h; cases h
      | some z =>
        rw [hs] at h
        rcases z with b | cc | v
        · have hrun : em_run n d mid (em_sel b.1 b.2.1) b.2.2.1 b.2.2.2.1 b.2.2.2.2 = some (r, M2) := h
          have hne : em_sel b.1 b.2.1 ≠ 999999 := by
            intro q
            rw [q] at hrun
            cases n with
            | zero => cases hrun
            | succ n => rw [em_run, em_no_bad] at hrun; cases hrun
          exact em_sim C hcs hdg hokw hs hne hls2 hst hW (fun H2 locs2 lsJ2 stJ2 g1 g2 g3 => ih (by omega) _ _ _ _ H2 locs2 lsJ2 stJ2 hrun g1 g2 g3)
        · cases d with
          | zero => cases h
          | succ d' =>
            dsimp only at h
            cases hr : em_run n (em_dd d' cc.1) cc.1 0 (em_args 0 cc.2.1) [] cc.2.2.2.2.2 with
            | none => rw [hr] at h; cases h
            | some q =>
              rw [hr] at h
              have hrun : em_run n (d' + 1) mid cc.2.2.1 cc.2.2.2.1 (em_push cc.1 q.1 cc.2.2.2.2.1) q.2 = some (r, M2) := h
              have hend2 : em_isend xi.1 = true := by
                cases hi : em_isend xi.1 with
                | true => rfl
                | false => exact absurd hs (em_step_inl hi _)
              have main : ∀ (i : Nat) (virt : Bool), xi.1 = (bif virt then .invokevirtual i else .invokestatic i) → em_call pc (em_nrm xi.2.2.2 ls) st M xi.2.2.1 = some (.inr (.inl cc)) → W p l e R s m args below meth c H locs cells slots Q (F0 m pc lsJ stJ) := by
                intro i virt hi hcall
                obtain ⟨mi, nn, ci, as, rest, haux, hta, hrc, hcat, hfit, hcc⟩ := em_call_some hcall
                cases hcc
                have hok2 : em_okcall (em_y mid).cls i virt mi nn ci hh = true := by
                  rw [haux, hi] at hokw
                  cases virt with
                  | true => exact hokw
                  | false => exact hokw
                obtain ⟨li, nest, ini, cd, inst, sel, hhs⟩ := em_okcall_shape hok2
                rw [hhs] at hok2
                obtain ⟨nest2, hn2, hok3⟩ := em_okcall_nest hok2
                obtain ⟨hlt, hpl⟩ := em_okcall_lt hok3
                have hM := IH n (by omega) (em_dd d' mi.toNat) mi.toNat as M q.1 q.2 hlt hfit hpl hr
                have hdg3 : decode (em_b mid) pc = .ok (bif virt then .invokevirtual i else .invokestatic i, 3) := by
                  rw [hdg, hi]
                  cases virt <;> rfl
                have hok4 : em_okcall (em_y mid).cls i virt ((mi.toNat : Nat) : Int) nn ci [li, nest2, ini, cd, inst, sel] = true := by
                  unfold em_okcall at hok3 ⊢
                  rw [Int.toNat_natCast]
                  exact hok3
                exact w_call C hcs hdg3 hok4 hn2 (Nat.succ_le_succ (em_dd_le d' mi.toNat)) hM hta hrc hcat hls2 hst hW (fun H2 locs2 stJ2 g2 g3 => ih (by omega) _ _ _ _ H2 locs2 lsJ stJ2 hrun hls2 g2 g3)
              cases hx : xi.1 with
              | invokevirtual i => exact main i true hx (by rw [hx] at hs; exact hs)
              | invokestatic i => exact main i false hx (by rw [hx] at hs; exact hs)
              | ireturn => rw [hx] at hs; exact absurd hs (em_ret_nc (Or.inl rfl))
              | lreturn => rw [hx] at hs; exact absurd hs (em_ret_nc (Or.inr (Or.inl rfl)))
              | areturn => rw [hx] at hs; exact absurd hs (em_ret_nc (Or.inr (Or.inr (Or.inl rfl))))
              | return_ => rw [hx] at hs; exact absurd hs (em_ret_nc (Or.inr (Or.inr (Or.inr rfl))))
              | _ => rw [hx] at hend2; cases hend2
        · have hv : (bif v.1 then some v.2 else none) = some (r, M2) := h
          obtain ⟨g, rr, MM⟩ := v
          cases g with
          | false => cases hv
          | true =>
            cases hv
            exact hend pc xi hh H locs lsJ stJ _ st M hoki hs hst hW
end SIM
/-- EVERY METHOD: what a run of the small machine says of it, the Statement's machine does -/
theorem em_sound {ad sa : Nat → Nat} {bs n0 L : Nat} {xs : Nat → Int32} {D : va_G} (l : Launch) (hco : ∀ mid, mid < 243 → em_codeOk mid) : ∀ n, em_Snd ad sa bs n0 L xs D l n := by
  intro n
  induction n using Nat.strongRecOn with
  | _ n ih =>
    intro d mid as M r M2 hmid hfit hpl hrun
    refine Met.ofW (cc := em_b mid) (maxL := em_mx mid) (ret := em_rt mid) hpl rfl ?_
    intro p e s m args below meth c s1 B hml hv
    obtain ⟨vs, rfl, hvs, hWd⟩ := hv
    have hts := atoms_spec (ws := em_ws mid) B.pre
    have hown : s.vm.findClass (em_y mid).cls = some m.cls := findClass_of_methodNamed B.named
    have hlocks : meth.locks = false := B.notSynchronized
    have C : em_Cx sa bs n0 L xs p s m vs.toArray c (headSpec (em_ws mid) (em_rm d)).room mid d := by
      obtain ⟨ws, tys, hP, hD, hK, hC, hX, hO⟩ := hWd
      exact ⟨B.exec, B.bytes, hml, hown, fun w hw => hts w (List.mem_cons_of_mem _ hw), hO, Nat.le_refl _, Nat.le_refl _⟩
    have hWH : em_WH ad n0 L xs D s s.heap [] M := by
      obtain ⟨ws, tys, hP, hD, hK, hC, hX, hO⟩ := hWd
      exact ⟨ws, tys, hP, hD, hK, va_S.rf, hC, hX⟩
    have hl := lv_entry vs (n := em_mx mid) (by rw [em_slots hvs]; exact hfit)
    rw [lg_entry_eq]
    generalize (lg_sl vs ++ List.replicate (em_mx mid - (lg_sl vs).length) Slot.unset).toArray = ls at hl ⊢
    refine em_walk (N := n) C ⟨Nat.le_refl 0, Nat.le_refl 0⟩ (hco mid hmid) (fun k hk => ih k hk) ?_ n (Nat.le_refl n) 0 (em_args 0 as) [] M s.heap [] ls [] hrun ⟨_, hl, em_RL_args 0 hvs⟩ trivial hWH
    intro pc xi hh H locs lsJ stJ ls2 st M3 hoki hs hst hW
    obtain ⟨hdg, -⟩ := em_oki_spec hoki
    have hend2 : em_isend xi.1 = true := by
      cases hi : em_isend xi.1 with
      | true => rfl
      | false => exact absurd hs (em_step_inl hi _)
    cases hx : xi.1 with
    | ireturn => rw [hx] at hs hdg; exact w_ireturn C hlocks B.returns (by omega) hdg hs rfl hst hW
    | lreturn => rw [hx] at hs hdg; exact w_lreturn C hlocks B.returns (by omega) hdg hs rfl hst hW
    | areturn => rw [hx] at hs hdg; exact w_areturn C hlocks B.returns (by omega) hdg hs rfl hst hW
    | return_ => rw [hx] at hs hdg; exact w_return C hlocks B.returns (by omega) hdg hs rfl hst hW
    | invokevirtual i =>
      rw [hx] at hs
      obtain ⟨mi, nn, ci, as2, rest, haux, hta, hrc, hcat, hfit2, hcc⟩ := em_call_some (show em_call pc ls2 st M3 xi.2.2.1 = _ from hs)
      cases hcc
    | invokestatic i =>
      rw [hx] at hs
      obtain ⟨mi, nn, ci, as2, rest, haux, hta, hrc, hcat, hfit2, hcc⟩ := em_call_some (show em_call pc ls2 st M3 xi.2.2.1 = _ from hs)
      cases hcc
    | _ => rw [hx] at hend2; cases hend2
