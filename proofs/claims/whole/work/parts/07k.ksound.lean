/-! CONSTRUCTORS: the walk; every one of them. -/
theorem ek_go_inr {g : Bool} {pc : Nat} {ls : em_L} {st : List em_V} {S : ek_S} {z : (Nat × List em_V × Nat × em_L × List em_V) ⊕ Int} : ¬ ek_go g pc ls st S = some (.inr z) := by
  intro h
  unfold ek_go at h
  cases g <;> cases h
theorem ek_call_some {spec : Bool} {pc : Nat} {ls : em_L} {st : List em_V} {aux : List Int} {z : (Nat × List em_V × Nat × em_L × List em_V) ⊕ Int} (h : ek_call spec pc ls st aux = some (.inr z)) : ∃ mi n as rest, aux = [mi, n] ∧ em_take n.toNat st [] = some (as, rest) ∧ (!spec || ek_rcv as) = true ∧ em_cat rest ≤ 8 ∧ em_cat as ≤ ek_mx mi.toNat ∧ z = .inl (mi.toNat, as, pc + 3, ls, rest) := by
  match aux, h with
  | [], h => cases h
  | [_], h => cases h
  | _ :: _ :: _ :: _, h => cases h
  | [mi, n], h =>
    simp only [ek_call] at h
    cases ht : em_take n.toNat st [] with
    | none => rw [ht] at h; cases h
    | some a =>
      rw [ht, Option.bind_some] at h
      cases hg : ((!spec || ek_rcv a.1) && Nat.ble (em_cat a.2) 8 && Nat.ble (em_cat a.1) (ek_mx mi.toNat)) with
      | false => rw [hg] at h; cases h
      | true =>
        rw [hg] at h
        cases h
        rw [Bool.and_eq_true, Bool.and_eq_true] at hg
        exact ⟨mi, n, a.1, a.2, rfl, ht, hg.1.1, Nat.le_of_ble_eq_true hg.1.2, Nat.le_of_ble_eq_true hg.2, rfl⟩
theorem ek_p_inr {t : Nat} {st : List em_V} {f : Int × List em_V → Option ek_R} {z : (Nat × List em_V × Nat × em_L × List em_V) ⊕ Int} (hf : ∀ q, ¬ f q = some (.inr z)) : ¬ (em_p t st).bind f = some (.inr z) := fun h => by
  obtain ⟨a, r, -, h2⟩ := ek_p_some h
  exact hf _ h2
theorem ek_p2_inr {t u : Nat} {st : List em_V} {f : Int → Int → List em_V → Option ek_R} {z : (Nat × List em_V × Nat × em_L × List em_V) ⊕ Int} (hf : ∀ a b r, ¬ f a b r = some (.inr z)) : ¬ ek_p2 t u st f = some (.inr z) := fun h => by
  obtain ⟨a, b, r, -, h2⟩ := ek_p2_some h
  exact hf _ _ _ h2
/-- the steps that are calls or answers -/
theorem ek_step_inr {pc rk : Nat} {ins : Instr} {aux : List Int} {ls : em_L} {st : List em_V} {S : ek_S} {z : (Nat × List em_V × Nat × em_L × List em_V) ⊕ Int} (h : ek_step pc rk ins aux ls st S = some (.inr z)) :
    (∃ i, ins = .invokespecial i ∧ ek_call true pc ls st aux = some (.inr z)) ∨ (∃ i, ins = .invokestatic i ∧ ek_call false pc ls st aux = some (.inr z)) ∨ (ins = .return_ ∧ st = [] ∧ rk = 3 ∧ z = .inr 0) ∨ (ins = .lreturn ∧ ∃ x, st = [(1, x)] ∧ rk = 1 ∧ z = .inr x) ∨ (ins = .ireturn ∧ ∃ x, st = [(0, x)] ∧ rk = 5 ∧ (x = 0 ∨ x = 1) ∧ z = .inr x) := by
  unfold ek_step at h
  cases hp : ek_pure ins with
  | true =>
    rw [hp, cond_true] at h
    exfalso
    cases hs : em_step 0 pc ins aux ls st (fun _ _ => 0) with
    | none => rw [hs] at h; cases h
    | some w =>
      rw [hs, Option.bind_some] at h
      cases w <;> cases h
  | false =>
    rw [hp, cond_false] at h
    cases ins with
    | new i =>
      exfalso
      dsimp only at h
      split at h
      · exact ek_go_inr h
      · cases h
    | newarray t =>
      exfalso
      dsimp only at h
      split at h
      · exact ek_p_inr (fun _ => ek_go_inr) h
      · cases h
    | anewarray i =>
      exfalso
      dsimp only at h
      split at h
      · exact ek_p_inr (fun _ => ek_go_inr) h
      · cases h
    | multianewarray i n =>
      exfalso
      dsimp only at h
      split at h
      · exact ek_p2_inr (fun _ _ _ => ek_go_inr) h
      · cases h
    | aastore => exact absurd h (ek_p_inr (fun _ => ek_p2_inr (fun _ _ _ => ek_go_inr)))
    | iastore => exact absurd h (ek_p_inr (fun _ => ek_p2_inr (fun _ _ _ => ek_go_inr)))
    | lastore => exact absurd h (ek_p_inr (fun _ => ek_p2_inr (fun _ _ _ => ek_go_inr)))
    | getfield i =>
      exfalso
      dsimp only at h
      split at h
      · exact ek_p_inr (fun _ => ek_go_inr) h
      · cases h
    | putfield i =>
      exfalso
      dsimp only at h
      split at h
      · exact ek_p2_inr (fun _ _ _ => ek_go_inr) h
      · cases h
    | invokespecial i =>
      dsimp only at h
      split at h
      · exact absurd h (ek_p_inr (fun _ => ek_go_inr))
      · exact Or.inl ⟨i, rfl, h⟩
    | invokestatic i => exact Or.inr (Or.inl ⟨i, rfl, h⟩)
    | return_ =>
      match st, h with
      | _ :: _, h => cases h
      | [], h =>
        dsimp only at h
        cases hr : Nat.beq rk 3 with
        | false => rw [hr] at h; cases h
        | true =>
          rw [hr] at h
          cases h
          exact Or.inr (Or.inr (Or.inl ⟨rfl, rfl, Nat.eq_of_beq_eq_true hr, rfl⟩))
    | lreturn =>
      match st, h with
      | [], h => cases h
      | _ :: _ :: _, h => cases h
      | [q], h =>
        obtain ⟨t, x⟩ := q
        dsimp only at h
        cases hr : (Nat.beq t 1 && Nat.beq rk 1) with
        | false => rw [hr] at h; cases h
        | true =>
          rw [hr] at h
          cases h
          rw [Bool.and_eq_true] at hr
          have e1 : t = 1 := Nat.eq_of_beq_eq_true hr.1
          subst e1
          exact Or.inr (Or.inr (Or.inr (Or.inl ⟨rfl, x, rfl, Nat.eq_of_beq_eq_true hr.2, rfl⟩)))
    | ireturn =>
      match st, h with
      | [], h => cases h
      | _ :: _ :: _, h => cases h
      | [q], h =>
        obtain ⟨t, x⟩ := q
        dsimp only at h
        cases hr : (Nat.beq t 0 && Nat.beq rk 5 && decide (x = 0 ∨ x = 1)) with
        | false => rw [hr] at h; cases h
        | true =>
          rw [hr] at h
          cases h
          rw [Bool.and_eq_true, Bool.and_eq_true] at hr
          have e1 : t = 0 := Nat.eq_of_beq_eq_true hr.1.1
          subst e1
          exact Or.inr (Or.inr (Or.inr (Or.inr ⟨rfl, x, rfl, Nat.eq_of_beq_eq_true hr.1.2, of_decide_eq_true hr.2, rfl⟩)))
    | _ => first | cases h | cases hp
theorem ek_oki_spec {mid pc : Nat} {xi : em_I} {hh : List Nat} (h : ek_oki mid pc xi hh = true) : decode (ek_b mid) pc = .ok (xi.1, ek_ilen xi.1 xi.2.1) ∧ ek_okw (ek_y mid).cls (ek_mx mid) pc xi.1 xi.2.2.1 hh = true ∧ (match xi.1 with
    | .putfield _ => decide ((ek_y mid).name = "<init>")
    | _ => true) = true := by
  unfold ek_oki at h
  rw [Bool.and_eq_true, Bool.and_eq_true] at h
  refine ⟨?_, h.1.2, h.2⟩
  have h1 := h.1.1
  cases hd : decode (ek_b mid) pc with
  | error z => rw [hd] at h1; cases h1
  | ok q =>
    obtain ⟨i, l⟩ := q
    rw [hd] at h1
    have h2 : (decide (i = xi.1) && Nat.beq l (ek_ilen xi.1 xi.2.1)) = true := h1
    rw [Bool.and_eq_true] at h2
    rw [show i = xi.1 from of_decide_eq_true h2.1, show l = ek_ilen xi.1 xi.2.1 from Nat.eq_of_beq_eq_true h2.2]
theorem ek_rk_all : (List.range 15).all (fun mid => match ek_rk mid with
  | 1 => decide (ek_rt mid = some .long)
  | 3 => decide (ek_rt mid = none)
  | 5 => decide (ek_rt mid = some .boolean)
  | _ => false) = true := by decide +kernel
theorem ek_rk_ok {mid : Nat} (h : mid < 15) : (ek_rk mid = 1 → ek_rt mid = some .long) ∧ (ek_rk mid = 3 → ek_rt mid = none) ∧ (ek_rk mid = 5 → ek_rt mid = some .boolean) := by
  have h1 := List.all_eq_true.mp ek_rk_all mid (List.mem_range.mpr h)
  refine ⟨fun q => ?_, fun q => ?_, fun q => ?_⟩
  · rw [q] at h1; exact of_decide_eq_true h1
  · rw [q] at h1; exact of_decide_eq_true h1
  · rw [q] at h1; exact of_decide_eq_true h1
/-- what a run says of a constructor -/
def ek_Snd (sa : Nat → Nat) (bs n0 : Nat) (D : va_G) (l : Launch) (n : Nat) : Prop :=
  ∀ (d mid : Nat) (as : List em_V) (S : ek_S) (r : Int) (S2 : ek_S), mid < 15 → em_cat as ≤ ek_mx mid → plainName (ek_y mid).cls = true → ek_run n d mid (S.1 + ek_mc mid, S.2.1 + ek_ms mid) 0 (em_args 0 as) [] S = some (r, S2) → Met l (ek_y mid) (ek_ws mid) (ek_rm d mid) (ek_Pc sa bs n0 D as S) (ek_Qc n0 D mid r S2) (ek_mc mid) (ek_ms mid) (em_A n0)
theorem ek_nobad : (List.range 15).all (fun mid => (em_look (em_nth ek_codes mid []) 999999).isNone) = true := by decide +kernel
theorem ek_in_spec {S : ek_S} {lim : Nat × Nat} (h : ek_in S lim = true) : S.1 ≤ lim.1 ∧ S.2.1 ≤ lim.2 := by
  unfold ek_in at h
  rw [Bool.and_eq_true] at h
  exact ⟨Nat.le_of_ble_eq_true h.1, Nat.le_of_ble_eq_true h.2⟩
section KK
variable {sa : Nat → Nat} {bs n0 nE zE : Nat} {D : va_G}
variable {p : Program} {l : Launch} {e : Env} {R : Room} {s : State} {m : MethodId} {args : Array Value} {below : List Frame} {meth : Method} {c : Code} {Q : State → Prop} {mid d : Nat}
theorem ek_walk {N : Nat} {r : Int} {S2 : ek_S} {lim : Nat × Nat} (C : ek_Cx p s m args c R mid d) (hmn : meth.name = (ek_y mid).name) (hmid : mid < 15) (IH : ∀ n, n < N → ek_Snd sa bs n0 D l n) (hlim : lim.1 ≤ nE + R.cells ∧ lim.2 ≤ zE + R.slots)
    (hend : ∀ (pc : Nat) (xi : em_I) (hh : List Nat) (H : Heap) (locs : List Loc) (lsJ : Array Slot) (stJ : List Value) (ls : em_L) (st : List em_V) (cells slots : Nat), ek_oki mid pc xi hh = true → ek_step pc (ek_rk mid) xi.1 xi.2.2.1 ls st S2 = some (.inr (.inr r)) → em_RS (fun q => n0 + q) sa bs stJ st → ek_WH n0 D s H locs S2 → nE + cells = lim.1 → zE + slots = lim.2 → W p l e R s m args below meth c H locs cells slots Q (F0 m pc lsJ stJ)) :
    ∀ (n : Nat), n ≤ N → ∀ (pc : Nat) (ls : em_L) (st : List em_V) (S : ek_S) (H : Heap) (locs : List Loc) (lsJ : Array Slot) (stJ : List Value) (cells slots : Nat), ek_run n d mid lim pc ls st S = some (r, S2) → nE + cells = S.1 → zE + slots = S.2.1 → em_LR (fun q => n0 + q) sa bs lsJ (ek_mx mid) ls → em_RS (fun q => n0 + q) sa bs stJ st → ek_WH n0 D s H locs S → W p l e R s m args below meth c H locs cells slots Q (F0 m pc lsJ stJ) := by
  intro n
  induction n with
  | zero => intro _ pc ls st S H locs lsJ stJ cells slots h; cases h
  | succ n ih =>
    intro hnN pc ls st S H locs lsJ stJ cells slots h hn hz hls hst hW
    rw [ek_run] at h
    cases hc : ek_code mid pc with
    | none => rw [hc] at h; cases h
    | some xi =>
      rw [hc] at h
      dsimp only at h
      obtain ⟨hh, hoki⟩ := ek_codeOk hmid hc
      obtain ⟨hdg, hokw, hpf⟩ := ek_oki_spec hoki
      cases hs : ek_step pc (ek_rk mid) xi.1 xi.2.2.1 ls st S with
      | none => rw [hs] at h; cases h
      | some z =>
        rw [hs] at h
        rcases z with b | cc | v
        · dsimp only at h
          cases hin : ek_in b.2.2.2 lim with
          | false => rw [hin] at h; cases h
          | true =>
            rw [hin, cond_true] at h
            have hin2 := ek_in_spec hin
            have hne : b.1 ≠ 999999 := by
              intro q
              rw [q] at h
              cases n with
              | zero => cases h
              | succ n =>
                rw [ek_run] at h
                have h7 := List.all_eq_true.mp ek_nobad mid (List.mem_range.mpr hmid)
                have h8 : ek_code mid 999999 = none := Option.isNone_iff_eq_none.mp h7
                rw [h8] at h
                cases h
            exact ek_stepW C hmn hpf hdg hokw hs hne hn hz ⟨by omega, by omega⟩ hls hst hW (fun H2 locs2 lsJ2 stJ2 cells2 slots2 e1 e2 g1 g2 g3 => ih (by omega) _ _ _ _ _ _ _ _ _ _ h e1 e2 g1 g2 g3)
        · cases d with
          | zero => cases h
          | succ d' =>
            dsimp only at h
            cases hin : ek_in (S.1 + ek_mc cc.1, S.2.1 + ek_ms cc.1, []) lim with
            | false => rw [hin] at h; cases h
            | true =>
              rw [hin, cond_true] at h
              have hin2 := ek_in_spec hin
              dsimp only at hin2
              cases hr : ek_run n d' cc.1 (S.1 + ek_mc cc.1, S.2.1 + ek_ms cc.1) 0 (em_args 0 cc.2.1) [] S with
              | none => rw [hr] at h; cases h
              | some q =>
                rw [hr] at h
                have hrun : ek_run n (d' + 1) mid lim cc.2.2.1 cc.2.2.2.1 (ek_push cc.1 q.1 cc.2.2.2.2) q.2 = some (r, S2) := h
                have hq : S.1 + ek_mc cc.1 = q.2.1 ∧ S.2.1 + ek_ms cc.1 = q.2.2.1 := by
                  have key : ∀ (n d mid : Nat) (lim : Nat × Nat) (pc : Nat) (ls : em_L) (st : List em_V) (S : ek_S) (r : Int × ek_S), ek_run n d mid lim pc ls st S = some r → lim.1 = r.2.1 ∧ lim.2 = r.2.2.1 := by
                    intro n
                    induction n with
                    | zero => intro d mid lim pc ls st S r h; cases h
                    | succ n ih =>
                      intro d mid lim pc ls st S r h
                      rw [ek_run] at h
                      cases hc : ek_code mid pc with
                      | none => rw [hc] at h; cases h
                      | some xi =>
                        rw [hc] at h
                        dsimp only at h
                        cases hs : ek_step pc (ek_rk mid) xi.1 xi.2.2.1 ls st S with
                        | none => rw [hs] at h; cases h
                        | some z =>
                          rw [hs] at h
                          rcases z with b | cc | v
                          · dsimp only at h
                            cases hin : ek_in b.2.2.2 lim with
                            | false => rw [hin] at h; cases h
                            | true => rw [hin, cond_true] at h; exact ih _ _ _ _ _ _ _ _ h
                          · cases d with
                            | zero => cases h
                            | succ d' =>
                              dsimp only at h
                              cases hin : ek_in (S.1 + ek_mc cc.1, S.2.1 + ek_ms cc.1, []) lim with
                              | false => rw [hin] at h; cases h
                              | true =>
                                rw [hin, cond_true] at h
                                cases hr : ek_run n d' cc.1 (S.1 + ek_mc cc.1, S.2.1 + ek_ms cc.1) 0 (em_args 0 cc.2.1) [] S with
                                | none => rw [hr] at h; cases h
                                | some q => rw [hr] at h; exact ih _ _ _ _ _ _ _ _ h
                          · dsimp only at h
                            cases hb : (Nat.beq S.1 lim.1 && Nat.beq S.2.1 lim.2) with
                            | false => rw [hb] at h; cases h
                            | true =>
                              rw [hb, cond_true] at h
                              cases h
                              rw [Bool.and_eq_true] at hb
                              exact ⟨(Nat.eq_of_beq_eq_true hb.1).symm, (Nat.eq_of_beq_eq_true hb.2).symm⟩
                  exact key _ _ _ _ _ _ _ _ _ hr
                have main : ∀ (i : Nat) (spec : Bool), xi.1 = (bif spec then .invokespecial i else .invokestatic i) → ek_call spec pc ls st xi.2.2.1 = some (.inr (.inl cc)) → W p l e R s m args below meth c H locs cells slots Q (F0 m pc lsJ stJ) := by
                  intro i spec hi hcall
                  obtain ⟨mi, nn, as, rest, haux, hta, hrc, hcat, hfit, hcc⟩ := ek_call_some hcall
                  cases hcc
                  have hok2 : ek_okcall (ek_y mid).cls i spec mi nn hh = true := by
                    rw [haux, hi] at hokw
                    cases spec with
                    | true => exact hokw
                    | false => exact hokw
                  have hshape : ∃ li nest ini cd inst, hh = [li, nest, ini, cd, inst] := by
                    match hh, hok2 with
                    | [li, nest, ini, cd, inst], _ => exact ⟨li, nest, ini, cd, inst, rfl⟩
                    | [], h => cases h
                    | [_], h => cases h
                    | [_, _], h => cases h
                    | [_, _, _], h => cases h
                    | [_, _, _, _], h => cases h
                    | _ :: _ :: _ :: _ :: _ :: _ :: _, h => cases h
                  obtain ⟨li, nest, ini, cd, inst, hhs⟩ := hshape
                  rw [hhs] at hok2
                  have hnest : ∃ nest2, (nest2 = 0 ∨ nest2 = 1) ∧ ek_okcall (ek_y mid).cls i spec mi nn [li, nest2, ini, cd, inst] = true := by
                    cases nest with
                    | zero => exact ⟨0, Or.inl rfl, hok2⟩
                    | succ k => exact ⟨1, Or.inr rfl, hok2⟩
                  obtain ⟨nest2, hn2, hok3⟩ := hnest
                  have hlt : mi.toNat < 15 ∧ plainName (ek_y mi.toNat).cls = true := by
                    unfold ek_okcall at hok3
                    simp only [Bool.and_eq_true] at hok3
                    obtain ⟨⟨⟨⟨⟨⟨⟨⟨⟨k1, k0⟩, k2⟩, k3⟩, k4⟩, k5⟩, k6⟩, k7⟩, k8⟩, k9⟩ := hok3
                    exact ⟨Nat.le_of_ble_eq_true k1, k8⟩
                  have hM := IH n (by omega) d' mi.toNat as S q.1 q.2 hlt.1 hfit hlt.2 hr
                  have hdg3 : decode (ek_b mid) pc = .ok (bif spec then .invokespecial i else .invokestatic i, 3) := by
                    rw [hdg, hi]
                    cases spec <;> rfl
                  have hok4 : ek_okcall (ek_y mid).cls i spec ((mi.toNat : Nat) : Int) nn [li, nest2, ini, cd, inst] = true := by
                    have hm0 : ((mi.toNat : Nat) : Int) = mi := by
                      unfold ek_okcall at hok3
                      simp only [Bool.and_eq_true] at hok3
                      obtain ⟨⟨⟨⟨⟨⟨⟨⟨⟨k1, k0⟩, k2⟩, k3⟩, k4⟩, k5⟩, k6⟩, k7⟩, k8⟩, k9⟩ := hok3
                      have := of_decide_eq_true k0
                      omega
                    rw [hm0]
                    exact hok3
                  dsimp only at hin2 hq hrun
                  exact kx_call C hdg3 hok4 hn2 (Nat.le_refl _) hM ⟨by omega, by omega⟩ hta hrc hcat hls hst hW (fun H2 locs2 stJ2 g2 g3 => ih (by omega) _ _ _ _ _ _ _ _ _ _ hrun (by omega) (by omega) hls g2 g3)
                rcases ek_step_inr hs with ⟨i, hx, hcall⟩ | ⟨i, hx, hcall⟩ | ⟨hx, -, -, hz⟩ | ⟨hx, x, -, -, hz⟩ | ⟨hx, x, -, -, -, hz⟩
                · exact main i true hx hcall
                · exact main i false hx hcall
                · cases hz
                · cases hz
                · cases hz
        · dsimp only at h
          cases hb : (Nat.beq S.1 lim.1 && Nat.beq S.2.1 lim.2) with
          | false => rw [hb] at h; cases h
          | true =>
            rw [hb, cond_true] at h
            cases h
            rw [Bool.and_eq_true] at hb
            exact hend pc xi hh H locs lsJ stJ ls st cells slots hoki hs hst hW (by rw [hn]; exact Nat.eq_of_beq_eq_true hb.1) (by rw [hz]; exact Nat.eq_of_beq_eq_true hb.2)
end KK
/-- EVERY CONSTRUCTOR: what a run says of it, the Statement's machine does -/
theorem ek_sound {sa : Nat → Nat} {bs n0 : Nat} {D : va_G} (l : Launch) : ∀ n, ek_Snd sa bs n0 D l n := by
  intro n
  induction n using Nat.strongRecOn with
  | _ n ih =>
    intro d mid as S r S2 hmid hfit hpl hrun
    refine Met.ofW (cc := ek_b mid) (maxL := ek_mx mid) (ret := ek_rt mid) hpl rfl ?_
    intro p e s m args below meth c s1 B hml hv
    obtain ⟨vs, rfl, hvs, hWd, hO⟩ := hv
    have hts := atoms_spec (ws := ek_ws mid) B.pre
    have hown : s.vm.findClass (ek_y mid).cls = some m.cls := findClass_of_methodNamed B.named
    have hmn : meth.name = (ek_y mid).name := (name_of_methodNamed B.named B.method).1
    have hlocks : meth.locks = false := B.notSynchronized
    have C : ek_Cx p s m vs.toArray c (headSpec (ek_ws mid) (ek_rm d mid)).room mid d := ⟨B.exec, B.bytes, hml, hown, fun w hw => hts w (List.mem_cons_of_mem _ hw), hO, Nat.le_refl _, Nat.le_refl _⟩
    have hWH : ek_WH n0 D s s.heap [] S := by
      obtain ⟨ws, tys, hP, hK, hsz, hC, hF⟩ := hWd
      exact ⟨ws, tys, hP, hK, va_S.rf, by omega, hsz, hC, hF⟩
    have hl := lv_entry vs (n := ek_mx mid) (by rw [em_slots hvs]; exact hfit)
    rw [lg_entry_eq]
    generalize (lg_sl vs ++ List.replicate (ek_mx mid - (lg_sl vs).length) Slot.unset).toArray = ls at hl ⊢
    refine ek_walk (N := n) (nE := S.1) (zE := S.2.1) C hmn hmid (fun k hk => ih k hk) ⟨Nat.le_refl _, Nat.le_refl _⟩ ?_ n (Nat.le_refl n) 0 (em_args 0 as) [] S s.heap [] ls [] 0 0 hrun rfl rfl ⟨_, hl, em_RL_args 0 hvs⟩ trivial hWH
    intro pc xi hh H locs lsJ stJ ls2 st cells slots hoki hs hst hW hc hz
    obtain ⟨hdg, -, -⟩ := ek_oki_spec hoki
    have ec : cells = ek_mc mid := by dsimp only at hc; omega
    have ez : slots = ek_ms mid := by dsimp only at hz; omega
    subst ec
    subst ez
    have hx := C.1
    have hb := C.2.1
    have hS : va_S (em_A n0) s.heap H locs := by obtain ⟨ws, tys, hP, hK, hS, hn, hsz, hC, hF⟩ := hW; exact hS
    rcases ek_step_inr hs with ⟨i, hx1, hcall⟩ | ⟨i, hx1, hcall⟩ | ⟨hx1, rfl, hr, hv⟩ | ⟨hx1, x, rfl, hr, hv⟩ | ⟨hx1, x, rfl, hr, h01, hv⟩
    · obtain ⟨mi, nn, as2, rest, -, -, -, -, -, hcc⟩ := ek_call_some hcall
      cases hcc
    · obtain ⟨mi, nn, as2, rest, -, -, -, -, -, hcc⟩ := ek_call_some hcall
      cases hcc
    · rw [hx1] at hdg
      have h0 := em_RS_nil hst
      subst h0
      refine W.vret hx hb (B.returns.trans ((ek_rk_ok hmid).2.1 hr)) (fun t ht hWm => ?_) hS.2.2 hdg
      unfold ek_Qc
      rw [hr]
      exact ⟨⟨(), rfl, trivial, ek_Wd_of hW hWm ht⟩, hS.F ht⟩
    · rw [hx1] at hdg
      cases hv
      obtain ⟨v0, r0, rfl, hv, hrr⟩ := em_RS_cons hst
      have h0 := em_RS_nil hrr
      subst h0
      obtain ⟨z, rfl, hzz⟩ := em_RV_l hv
      refine W.lret hx hb (B.returns.trans ((ek_rk_ok hmid).1 hr)) (fun t ht hWm => ?_) hS.2.2 hdg
      unfold ek_Qc
      rw [hr]
      exact ⟨⟨z, (), rfl, hzz, ek_Wd_of hW hWm ht⟩, hS.F ht⟩
    · rw [hx1] at hdg
      cases hv
      obtain ⟨v0, r0, rfl, hv, hrr⟩ := em_RS_cons hst
      have h0 := em_RS_nil hrr
      subst h0
      obtain ⟨z, rfl, hzz⟩ := em_RV_i hv
      have hnar : narrow .boolean (.int z) = .int z := (em_fits_i (nk := 1) (ty := .boolean) rfl hzz (fun _ => h01)).1
      refine W.zret hx hb (B.returns.trans ((ek_rk_ok hmid).2.2 hr)) hnar (fun t ht hWm => ?_) hS.2.2 hdg
      unfold ek_Qc
      rw [hr]
      exact ⟨⟨z, (), rfl, hzz, ek_Wd_of hW hWm ht⟩, hS.F ht⟩
