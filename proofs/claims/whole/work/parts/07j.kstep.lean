/-! CONSTRUCTORS: every step that is no call and no answer. -/
theorem ek_go_some {g : Bool} {pc : Nat} {ls : em_L} {st : List em_V} {S : ek_S} {b : Nat × em_L × List em_V × ek_S} (h : ek_go g pc ls st S = some (.inl b)) : g = true ∧ b = (pc, ls, st, S) := by
  unfold ek_go at h
  cases g with
  | false => cases h
  | true => exact ⟨rfl, (Sum.inl.inj (Option.some.inj h)).symm⟩
theorem ek_p2_some {t u : Nat} {st : List em_V} {f : Int → Int → List em_V → Option ek_R} {z : ek_R} (h : ek_p2 t u st f = some z) : ∃ a b r, st = (u, b) :: (t, a) :: r ∧ f a b r = some z := by
  unfold ek_p2 at h
  cases h1 : em_p u st with
  | none => rw [h1] at h; cases h
  | some q =>
    rw [h1, Option.bind_some] at h
    cases h2 : em_p t q.2 with
    | none => rw [h2] at h; cases h
    | some w =>
      rw [h2, Option.bind_some] at h
      refine ⟨w.1, q.1, w.2, ?_, h⟩
      rw [em_p_some h1, em_p_some h2]
theorem ek_p_some {t : Nat} {st : List em_V} {f : Int × List em_V → Option ek_R} {z : ek_R} (h : (em_p t st).bind f = some z) : ∃ a r, st = (t, a) :: r ∧ f (a, r) = some z := by
  cases h1 : em_p t st with
  | none => rw [h1] at h; cases h
  | some q =>
    rw [h1, Option.bind_some] at h
    exact ⟨q.1, q.2, em_p_some h1, h⟩
theorem ek_callnl {spec : Bool} {pc : Nat} {ls : em_L} {st : List em_V} {aux : List Int} {b : Nat × em_L × List em_V × ek_S} : ¬ ek_call spec pc ls st aux = some (.inl b) := by
  intro h
  match aux, h with
  | [], h => cases h
  | [_], h => cases h
  | _ :: _ :: _ :: _, h => cases h
  | [mid, n], h =>
    simp only [ek_call] at h
    cases ht : em_take n.toNat st [] with
    | none => rw [ht] at h; cases h
    | some a =>
      rw [ht, Option.bind_some] at h
      generalize ((!spec || ek_rcv a.1) && Nat.ble (em_cat a.2) 8 && Nat.ble (em_cat a.1) (ek_mx mid.toNat)) = g at h
      cases g <;> cases h
section KJ
variable {sa : Nat → Nat} {bs n0 nE zE : Nat} {D : va_G} {S : ek_S}
variable {p : Program} {l : Launch} {e : Env} {R : Room} {s : State} {m : MethodId} {args : Array Value} {below : List Frame} {meth : Method} {c : Code} {Q : State → Prop} {mid d pc cells slots rk : Nat}
variable {H : Heap} {locs : List Loc} {lsJ : Array Slot} {stJ : List Value} {ls : em_L} {st : List em_V} {aux : List Int} {b : Nat × em_L × List em_V × ek_S}
set_option maxHeartbeats 4000000 in
theorem ek_stepW {ins : Instr} {len : Nat} {hh : List Nat} (C : ek_Cx p s m args c R mid d) (hmn : meth.name = (ek_y mid).name)
    (hpf : (match ins with
      | .putfield _ => decide ((ek_y mid).name = "<init>")
      | _ => true) = true)
    (hdg : decode (ek_b mid) pc = .ok (ins, ek_ilen ins len)) (hok : ek_okw (ek_y mid).cls (ek_mx mid) pc ins aux hh = true) (h : ek_step pc rk ins aux ls st S = some (.inl b)) (hne : b.1 ≠ 999999)
    (hn : nE + cells = S.1) (hz : zE + slots = S.2.1) (hlim : b.2.2.2.1 ≤ nE + R.cells ∧ b.2.2.2.2.1 ≤ zE + R.slots)
    (hls : em_LR (fun q => n0 + q) sa bs lsJ (ek_mx mid) ls) (hst : em_RS (fun q => n0 + q) sa bs stJ st) (hW : ek_WH n0 D s H locs S)
    (K : ∀ (H2 : Heap) (locs2 : List Loc) (lsJ2 : Array Slot) (stJ2 : List Value) (cells2 slots2 : Nat), nE + cells2 = b.2.2.2.1 → zE + slots2 = b.2.2.2.2.1 → em_LR (fun q => n0 + q) sa bs lsJ2 (ek_mx mid) b.2.1 → em_RS (fun q => n0 + q) sa bs stJ2 b.2.2.1 → ek_WH n0 D s H2 locs2 b.2.2.2 → W p l e R s m args below meth c H2 locs2 cells2 slots2 Q (F0 m b.1 lsJ2 stJ2)) : W p l e R s m args below meth c H locs cells slots Q (F0 m pc lsJ stJ) := by
  have hsz : lsJ.size = ek_mx mid := by obtain ⟨l0, h1, -⟩ := hls; exact h1.1
  cases hp : ek_pure ins with
  | true =>
    unfold ek_step at h
    rw [hp, cond_true] at h
    cases hs : em_step 0 pc ins aux ls st (fun _ _ => 0) with
    | none => rw [hs] at h; cases h
    | some z =>
      rw [hs, Option.bind_some] at h
      rcases z with b0 | z
      · cases h
        exact ek_sim (Φ := fun H locs => ek_WH n0 D s H locs S) hp C hdg hok hs hne hls hst hW (fun H2 locs2 lsJ2 stJ2 g1 g2 g3 => K H2 locs2 lsJ2 stJ2 cells slots hn hz g1 g2 g3)
      · cases h
  | false =>
    unfold ek_step at h
    rw [hp, cond_false] at h
    cases ins with
    | new i =>
      simp only [ek_okw] at hok
      split at hok
      · rename_i ci a1 b1 c1
        simp only [Bool.and_eq_true] at hok
        obtain ⟨⟨⟨⟨k1, k2⟩, k3⟩, k4⟩, k5⟩ := hok
        dsimp only at h
        obtain ⟨hg, rfl⟩ := ek_go_some h
        rw [Bool.and_eq_true] at hg
        have hkd : em_kdn S.1 = ci.toNat := Nat.eq_of_beq_eq_true hg.1
        dsimp only at hlim K
        refine kx_new C hdg (Nat.le_of_ble_eq_true k2) (em_wd_mem k3) (em_wd_mem k4) (em_wd_mem k5) hkd (by omega) (by omega) hW (fun H2 hW2 => K H2 locs lsJ _ _ _ (by omega) (by omega) hls ⟨Or.inl ⟨rfl, S.1, rfl, rfl⟩, hst⟩ hW2)
      · cases hok
    | newarray t =>
      simp only [ek_okw] at hok
      split at hok
      · rename_i k w
        simp only [Bool.and_eq_true, Bool.not_eq_true'] at hok
        obtain ⟨⟨k1, k2⟩, k3⟩ := hok
        dsimp only at h
        obtain ⟨v, r, rfl, h9⟩ := ek_p_some h
        obtain ⟨hg, rfl⟩ := ek_go_some h9
        simp only [Bool.and_eq_true] at hg
        obtain ⟨⟨⟨g1, g2⟩, g3⟩, g4⟩ := hg
        obtain ⟨v0, r0, rfl, hv, hr⟩ := em_RS_cons hst
        obtain ⟨x, rfl, hx⟩ := em_RV_i hv
        have e1 := of_decide_eq_true k1
        have hkd : em_kdn S.1 = ek_aty t := by
          have := Nat.eq_of_beq_eq_true g1
          omega
        have hat : ek_aty t ≠ 0 := fun q => by rw [q] at k2; cases k2
        dsimp only at hlim K
        refine kx_newa C hdg hat (em_wd_mem k3) hkd (hx.trans (of_decide_eq_true g2)) (Nat.le_of_ble_eq_true g4) (by omega) (by omega) hW (fun H2 hW2 => K H2 locs lsJ _ _ _ (by omega) (by omega) hls ⟨Or.inl ⟨rfl, S.1, rfl, rfl⟩, hr⟩ hW2)
      · cases hok
    | anewarray i =>
      simp only [ek_okw] at hok
      split at hok
      · rename_i k w
        simp only [Bool.and_eq_true] at hok
        obtain ⟨k1, k3⟩ := hok
        dsimp only at h
        obtain ⟨v, r, rfl, h9⟩ := ek_p_some h
        obtain ⟨hg, rfl⟩ := ek_go_some h9
        simp only [Bool.and_eq_true] at hg
        obtain ⟨⟨⟨g1, g2⟩, g3⟩, g4⟩ := hg
        obtain ⟨v0, r0, rfl, hv, hr⟩ := em_RS_cons hst
        obtain ⟨x, rfl, hx⟩ := em_RV_i hv
        have e1 := of_decide_eq_true k1
        have hkd : em_kdn S.1 = 112 := by
          have := Nat.eq_of_beq_eq_true g1
          omega
        dsimp only at hlim K
        refine kx_anew C hdg (em_wd_mem k3) hkd (hx.trans (of_decide_eq_true g2)) (Nat.le_of_ble_eq_true g4) (by omega) (by omega) hW (fun H2 hW2 => K H2 locs lsJ _ _ _ (by omega) (by omega) hls ⟨Or.inl ⟨rfl, S.1, rfl, rfl⟩, hr⟩ hW2)
      · cases hok
    | multianewarray i nd =>
      simp only [ek_okw] at hok
      split at hok
      · rename_i k en w1 w2
        simp only [Bool.and_eq_true] at hok
        obtain ⟨⟨⟨⟨k1, k2⟩, k3⟩, k4⟩, k5⟩ := hok
        have hnd : nd = 2 := Nat.eq_of_beq_eq_true k1
        subst hnd
        dsimp only at h
        obtain ⟨v1, v2, r, rfl, h9⟩ := ek_p2_some h
        obtain ⟨hg, rfl⟩ := ek_go_some h9
        simp only [Bool.and_eq_true] at hg
        obtain ⟨⟨⟨⟨⟨g1, g2⟩, g3⟩, g4⟩, g5⟩, g6⟩ := hg
        obtain ⟨y0, r0, rfl, hv, hr⟩ := em_RS_cons hst
        obtain ⟨y, rfl, hy⟩ := em_RV_i hv
        obtain ⟨z0, r1, rfl, hv2, hr2⟩ := em_RS_cons hr
        obtain ⟨z, rfl, hzz⟩ := em_RV_i hv2
        have e2 := of_decide_eq_true k2
        have e3 := of_decide_eq_true k3
        have e5 := of_decide_eq_true g5
        have hen : en.toNat = 100 ∨ en.toNat = 101 := by omega
        have een : ((en.toNat : Nat) : Int) = en := by omega
        have hkd : em_kdn S.1 = en.toNat + 10 := by
          have := Nat.eq_of_beq_eq_true g1
          omega
        dsimp only at hlim K
        refine kx_mna (en := en.toNat) (K0 := v2.toNat) C hdg hen (by rw [een]; exact em_wd_mem k4) (by rw [een]; exact em_wd_mem k5) hkd (hzz.trans (of_decide_eq_true g2)) (Nat.le_of_ble_eq_true g4) (by omega) (by omega) g6 (by omega) (by omega) hW (fun H2 hW2 => K H2 locs lsJ _ _ _ (by omega) (by omega) hls ⟨Or.inl ⟨rfl, S.1, rfl, rfl⟩, hr2⟩ hW2)
      · cases hok
    | aastore =>
      dsimp only at h
      obtain ⟨v, r, rfl, h9⟩ := ek_p_some h
      obtain ⟨a, i, r1, h10, h11⟩ := ek_p2_some h9
      dsimp only at h10
      subst h10
      obtain ⟨hg, rfl⟩ := ek_go_some h11
      simp only [Bool.and_eq_true] at hg
      obtain ⟨⟨⟨⟨g1, g2⟩, g3⟩, g4⟩, g5⟩ := hg
      obtain ⟨x0, r0, rfl, hv, hr⟩ := em_RS_cons hst
      obtain ⟨q0, rfl, rfl⟩ := em_RV_r hv
      obtain ⟨x1, r2, rfl, hv2, hr2⟩ := em_RS_cons hr
      obtain ⟨y, rfl, rfl⟩ := em_RV_i hv2
      obtain ⟨x2, r3, rfl, hv3, hr3⟩ := em_RS_cons hr2
      obtain ⟨k, rfl, rfl⟩ := em_RV_r hv3
      have e2 := of_decide_eq_true g2
      rw [em_ln_nat] at e2
      have e4 := of_decide_eq_true g4
      have e5 := of_decide_eq_true g5
      have hk2 := em_isO_nat g3
      dsimp only at hlim K
      exact kx_aast C hdg (by omega) (Nat.eq_of_beq_eq_true g1) (by omega) (by omega) e2 hW (fun H2 locs2 hW2 => K H2 locs2 lsJ _ _ _ hn hz hls hr3 hW2)
    | iastore =>
      dsimp only at h
      obtain ⟨v, r, rfl, h9⟩ := ek_p_some h
      obtain ⟨a, i, r1, h10, h11⟩ := ek_p2_some h9
      dsimp only at h10
      subst h10
      obtain ⟨hg, rfl⟩ := ek_go_some h11
      simp only [Bool.and_eq_true] at hg
      obtain ⟨⟨g1, g2⟩, g4⟩ := hg
      obtain ⟨x0, r0, rfl, hv, hr⟩ := em_RS_cons hst
      obtain ⟨z, rfl, rfl⟩ := em_RV_i hv
      obtain ⟨x1, r2, rfl, hv2, hr2⟩ := em_RS_cons hr
      obtain ⟨y, rfl, rfl⟩ := em_RV_i hv2
      obtain ⟨x2, r3, rfl, hv3, hr3⟩ := em_RS_cons hr2
      obtain ⟨k, rfl, rfl⟩ := em_RV_r hv3
      have e2 := of_decide_eq_true g2
      rw [em_ln_nat] at e2
      have e4 := of_decide_eq_true g4
      dsimp only at hlim K
      exact kx_iast C hdg (by omega) (Nat.eq_of_beq_eq_true g1) e2 hW (fun H2 locs2 hW2 => K H2 locs2 lsJ _ _ _ hn hz hls hr3 hW2)
    | lastore =>
      dsimp only at h
      obtain ⟨v, r, rfl, h9⟩ := ek_p_some h
      obtain ⟨a, i, r1, h10, h11⟩ := ek_p2_some h9
      dsimp only at h10
      subst h10
      obtain ⟨hg, rfl⟩ := ek_go_some h11
      simp only [Bool.and_eq_true] at hg
      obtain ⟨⟨g1, g2⟩, g4⟩ := hg
      obtain ⟨x0, r0, rfl, hv, hr⟩ := em_RS_cons hst
      obtain ⟨z, rfl, rfl⟩ := em_RV_l hv
      obtain ⟨x1, r2, rfl, hv2, hr2⟩ := em_RS_cons hr
      obtain ⟨y, rfl, rfl⟩ := em_RV_i hv2
      obtain ⟨x2, r3, rfl, hv3, hr3⟩ := em_RS_cons hr2
      obtain ⟨k, rfl, rfl⟩ := em_RV_r hv3
      have e2 := of_decide_eq_true g2
      rw [em_ln_nat] at e2
      have e4 := of_decide_eq_true g4
      dsimp only at hlim K
      exact kx_last C hdg (by omega) (Nat.eq_of_beq_eq_true g1) e2 hW (fun H2 locs2 hW2 => K H2 locs2 lsJ _ _ _ hn hz hls hr3 hW2)
    | getfield i =>
      simp only [ek_okw] at hok
      split at hok
      · rename_i ci j w
        simp only [Bool.and_eq_true] at hok
        obtain ⟨⟨⟨⟨⟨k1, k2⟩, k3⟩, k4⟩, k5⟩, k6⟩ := hok
        dsimp only at h
        obtain ⟨a, r, rfl, h9⟩ := ek_p_some h
        obtain ⟨hg, rfl⟩ := ek_go_some h9
        simp only [Bool.and_eq_true] at hg
        obtain ⟨⟨g1, g2⟩, g3⟩ := hg
        obtain ⟨x0, r0, rfl, hv, hr⟩ := em_RS_cons hst
        obtain ⟨k, rfl, rfl⟩ := em_RV_r hv
        have e2 := of_decide_eq_true g2
        have e3 := of_decide_eq_true g3
        have e4 := of_decide_eq_true k4
        have e5 := of_decide_eq_true k5
        have hkd := em_isO_nat g1
        rw [ek_at_M] at e3
        have ej : ((j.toNat : Nat) : Int) = j := by omega
        dsimp only at hlim K
        refine kx_get (q := (ek_M S.2.2 (k : Int) j).toNat) C hdg (Nat.le_of_ble_eq_true k6) (Nat.le_of_ble_eq_true k2) (em_wd_mem k1) (of_decide_eq_true k3) (by omega) (by omega) (by rw [ej]; omega) hW (K H locs lsJ _ _ _ hn hz hls ⟨Or.inl ⟨rfl, (ek_M S.2.2 (k : Int) j).toNat, by rw [ek_at_M]; show ek_M S.2.2 (k : Int) j = _; omega, rfl⟩, hr⟩ hW)
      · cases hok
    | putfield i =>
      simp only [ek_okw] at hok
      split at hok
      · rename_i ci j t fin w
        simp only [Bool.and_eq_true] at hok
        obtain ⟨⟨⟨⟨⟨⟨⟨⟨k1, k2⟩, k3⟩, k4⟩, k5⟩, k6⟩, k7⟩, k8⟩, k9⟩ := hok
        dsimp only at h
        obtain ⟨a, v, r, rfl, h9⟩ := ek_p2_some h
        obtain ⟨hg, rfl⟩ := ek_go_some h9
        simp only [Bool.and_eq_true] at hg
        obtain ⟨g1, g2⟩ := hg
        obtain ⟨x0, r0, rfl, hv, hr⟩ := em_RS_cons hst
        obtain ⟨x1, r1, rfl, hv1, hr1⟩ := em_RS_cons hr
        obtain ⟨k, rfl, rfl⟩ := em_RV_r hv1
        have e2 := of_decide_eq_true g2
        have e4 := of_decide_eq_true k4
        have e5 := of_decide_eq_true k5
        have hkd := em_isO_nat g1
        have ej : ((j.toNat : Nat) : Int) = j := by omega
        have hnm : meth.name = "<init>" := hmn.trans (of_decide_eq_true hpf)
        have hv0 : ek_val (fun q => n0 + q) t x0 v := by
          have ht : t = 0 ∨ t = 1 ∨ t = 2 := by
            split at k9
            · exact Or.inl (of_decide_eq_true k9)
            · exact Or.inr (Or.inl (of_decide_eq_true k9))
            · exact Or.inr (Or.inr (of_decide_eq_true k9))
            · exact Or.inr (Or.inr (of_decide_eq_true k9))
            · cases k9
          rcases ht with rfl | rfl | rfl
          · obtain ⟨y, rfl, hy⟩ := em_RV_i hv
            exact Or.inl ⟨rfl, y, rfl, hy⟩
          · obtain ⟨y, rfl, hy⟩ := em_RV_l hv
            exact Or.inr (Or.inl ⟨rfl, y, rfl, hy⟩)
          · obtain ⟨y, rfl, hy⟩ := em_RV_r hv
            exact Or.inr (Or.inr ⟨rfl, y, rfl, hy⟩)
        have hty : ∃ ty, parseFieldDescriptor ((em_cls ci.toNat).2.1 j.toNat).2.2.1 = some ty ∧ ek_okty t ty = true := by
          cases hpd : parseFieldDescriptor ((em_cls ci.toNat).2.1 j.toNat).2.2.1 with
          | none => rw [hpd] at k9; cases k9
          | some ty =>
            rw [hpd] at k9
            refine ⟨ty, rfl, ?_⟩
            cases ty <;> first | exact k9 | cases k9
        obtain ⟨ty, hpd, hty2⟩ := hty
        dsimp only at hlim K
        refine kx_put (j := j.toNat) (x := v) C hdg (Nat.le_of_ble_eq_true k6) (Nat.le_of_ble_eq_true k2) (em_wd_mem k1) (of_decide_eq_true k3) (fun _ => hnm) (of_decide_eq_true k8) hpd hty2 (by omega) (by omega) hv0 hW (fun H2 locs2 hW2 => ?_)
        rw [ej] at hW2
        exact K H2 locs2 lsJ _ _ _ hn hz hls hr1 hW2
      · cases hok
    | invokespecial i =>
      simp only [ek_okw] at hok
      split at hok
      · exact absurd h ek_callnl
      · rename_i a1 b1 c1
        simp only [Bool.and_eq_true] at hok
        obtain ⟨⟨k1, k2⟩, k3⟩ := hok
        dsimp only at h
        obtain ⟨a, r, rfl, h9⟩ := ek_p_some h
        obtain ⟨hg, rfl⟩ := ek_go_some h9
        obtain ⟨x0, r0, rfl, hv, hr⟩ := em_RS_cons hst
        obtain ⟨k, rfl, rfl⟩ := em_RV_r hv
        dsimp only at hlim K
        refine kx_objInit C hsz hdg (em_wd_mem k1) (em_wd_mem k2) (em_wd_mem k3) ?_ (K H locs lsJ _ _ _ hn hz hls hr hW)
        rw [em_RS_cat hr]
        exact Nat.le_of_ble_eq_true hg
      · cases hok
    | invokestatic i => exact absurd h ek_callnl
    | return_ =>
      match st, h with
      | [], h => exact absurd h (by cases Nat.beq rk 3 <;> (intro q; cases q))
      | _ :: _, h => cases h
    | lreturn =>
      match st, h with
      | [], h => cases h
      | [q], h =>
        dsimp only at h
        generalize (Nat.beq q.1 1 && Nat.beq rk 1) = g at h
        cases g <;> cases h
      | _ :: _ :: _, h => cases h
    | ireturn =>
      match st, h with
      | [], h => cases h
      | [q], h =>
        dsimp only at h
        generalize (Nat.beq q.1 0 && Nat.beq rk 5 && decide (q.2 = 0 ∨ q.2 = 1)) = g at h
        cases g <;> cases h
      | _ :: _ :: _, h => cases h
    | _ => first | cases h | cases hp
end KJ
