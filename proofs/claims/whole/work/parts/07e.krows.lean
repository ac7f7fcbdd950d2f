/-! CONSTRUCTORS: the relation; the rows that touch no cell (for any relation of the heap). Written by wip/gen/ksound.py. -/
def ek_AOA (t : FieldType) (U : State) : Prop := (Cond.arrayOver (.array t)).before #[] U = true
theorem ek_AOA.moved {t : FieldType} {u U : State} (hvm : u.vm.Alike U.vm) (h : ek_AOA t u) : ek_AOA t U := Jvm.Stand.arrayOver_alikeB hvm h
theorem ek_AOA.use {t : FieldType} {A : Array Value} {U : State} (h : ek_AOA t U) : (Cond.arrayOver (.array t)).before A U = true := h
/-- what lies outside -/
def ek_Out (U : State) : Prop := va_AO "EstateOffice$Estate" U ∧ ek_AOA .int U ∧ ek_AOA .long U ∧ ∀ q ∈ ek_nests, va_Nw (.methodLinkNest q.1 q.2.1 q.2.2 "EstateOffice") U
/-- what is fixed in a walk -/
def ek_Cx (p : Program) (s : State) (m : MethodId) (args : Array Value) (c : Code) (R : Room) (mid d : Nat) : Prop :=
  p.tables.exec = Jvm.exec ∧ c.code = ek_b mid ∧ c.maxLocals = ek_mx mid ∧ s.vm.findClass (ek_y mid).cls = some m.cls ∧ (∀ w ∈ em_tbl, w.before args s = true) ∧ ek_Out s ∧ d + 8 ≤ R.frames ∧ 64 * d + 600 ≤ R.locals
section SIM
variable {ad sa : Nat → Nat} {bs : Nat} {Φ : Heap → List Loc → Prop}
variable {p : Program} {l : Launch} {e : Env} {R : Room} {s : State} {m : MethodId} {args : Array Value} {below : List Frame} {meth : Method} {c : Code} {Q : State → Prop} {mid d pc cells slots : Nat}
variable {H : Heap} {locs : List Loc} {lsJ : Array Slot} {stJ : List Value} {ls : em_L} {st : List em_V} {M : em_M} {aux : List Int} {b : List (Bool × Nat) × Nat × em_L × List em_V × em_M}

theorem kw_iconst {n : Int} (C : ek_Cx p s m args c R mid d) (hdg : decode (ek_b mid) pc = .ok (.iconst n, 1)) (hn : (Int32.ofInt n).toInt = n) (h : em_step 0 pc (.iconst n) aux ls st M = some (.inl b)) (hne : em_sel b.1 b.2.1 ≠ 999999) (hls : em_LR ad sa bs lsJ (ek_mx mid) ls) (hst : em_RS ad sa bs stJ st) (hW : Φ H locs) (K : ∀ (H2 : Heap) (locs2 : List Loc) (lsJ2 : Array Slot) (stJ2 : List Value), em_LR ad sa bs lsJ2 (ek_mx mid) b.2.2.1 → em_RS ad sa bs stJ2 b.2.2.2.1 → Φ H2 locs2 → W p l e R s m args below meth c H2 locs2 cells slots Q (F0 m (em_sel b.1 b.2.1) lsJ2 stJ2)) : W p l e R s m args below meth c H locs cells slots Q (F0 m pc lsJ stJ) := by
  obtain ⟨hx, hb, hml, hown, hts, hO, hR1, hR2⟩ := C
  cases h
  refine lv_iconst (v := Int32.ofInt n) hx hb hdg rfl ?_
  exact K _ _ _ _ hls ⟨by rw [em_RV, hn], hst⟩ hW
theorem kw_bipush {n : Int} (C : ek_Cx p s m args c R mid d) (hdg : decode (ek_b mid) pc = .ok (.bipush n, 2)) (hn : ((Int8.ofInt n).toInt32).toInt = n) (h : em_step 0 pc (.bipush n) aux ls st M = some (.inl b)) (hne : em_sel b.1 b.2.1 ≠ 999999) (hls : em_LR ad sa bs lsJ (ek_mx mid) ls) (hst : em_RS ad sa bs stJ st) (hW : Φ H locs) (K : ∀ (H2 : Heap) (locs2 : List Loc) (lsJ2 : Array Slot) (stJ2 : List Value), em_LR ad sa bs lsJ2 (ek_mx mid) b.2.2.1 → em_RS ad sa bs stJ2 b.2.2.2.1 → Φ H2 locs2 → W p l e R s m args below meth c H2 locs2 cells slots Q (F0 m (em_sel b.1 b.2.1) lsJ2 stJ2)) : W p l e R s m args below meth c H locs cells slots Q (F0 m pc lsJ stJ) := by
  obtain ⟨hx, hb, hml, hown, hts, hO, hR1, hR2⟩ := C
  cases h
  refine lv_bipush (v := (Int8.ofInt n).toInt32) hx hb hdg rfl ?_
  exact K _ _ _ _ hls ⟨by rw [em_RV, hn], hst⟩ hW
theorem kw_sipush {n : Int} (C : ek_Cx p s m args c R mid d) (hdg : decode (ek_b mid) pc = .ok (.sipush n, 3)) (hn : ((Int16.ofInt n).toInt32).toInt = n) (h : em_step 0 pc (.sipush n) aux ls st M = some (.inl b)) (hne : em_sel b.1 b.2.1 ≠ 999999) (hls : em_LR ad sa bs lsJ (ek_mx mid) ls) (hst : em_RS ad sa bs stJ st) (hW : Φ H locs) (K : ∀ (H2 : Heap) (locs2 : List Loc) (lsJ2 : Array Slot) (stJ2 : List Value), em_LR ad sa bs lsJ2 (ek_mx mid) b.2.2.1 → em_RS ad sa bs stJ2 b.2.2.2.1 → Φ H2 locs2 → W p l e R s m args below meth c H2 locs2 cells slots Q (F0 m (em_sel b.1 b.2.1) lsJ2 stJ2)) : W p l e R s m args below meth c H locs cells slots Q (F0 m pc lsJ stJ) := by
  obtain ⟨hx, hb, hml, hown, hts, hO, hR1, hR2⟩ := C
  cases h
  refine lv_sipush (v := (Int16.ofInt n).toInt32) hx hb hdg rfl ?_
  exact K _ _ _ _ hls ⟨by rw [em_RV, hn], hst⟩ hW
theorem kw_lconst {n : Fin 2} (C : ek_Cx p s m args c R mid d) (hdg : decode (ek_b mid) pc = .ok (.lconst n, 1))  (h : em_step 0 pc (.lconst n) aux ls st M = some (.inl b)) (hne : em_sel b.1 b.2.1 ≠ 999999) (hls : em_LR ad sa bs lsJ (ek_mx mid) ls) (hst : em_RS ad sa bs stJ st) (hW : Φ H locs) (K : ∀ (H2 : Heap) (locs2 : List Loc) (lsJ2 : Array Slot) (stJ2 : List Value), em_LR ad sa bs lsJ2 (ek_mx mid) b.2.2.1 → em_RS ad sa bs stJ2 b.2.2.2.1 → Φ H2 locs2 → W p l e R s m args below meth c H2 locs2 cells slots Q (F0 m (em_sel b.1 b.2.1) lsJ2 stJ2)) : W p l e R s m args below meth c H locs cells slots Q (F0 m pc lsJ stJ) := by
  obtain ⟨hx, hb, hml, hown, hts, hO, hR1, hR2⟩ := C
  cases h
  refine lv_lconst (v := Int64.ofNat (n : Nat)) hx hb hdg rfl ?_
  refine K _ _ _ _ hls ⟨?_, hst⟩ hW
  rw [em_RV]
  match n with
  | 0 => rfl
  | 1 => rfl
theorem kw_ldc2 {i : Nat} {v : Int} (C : ek_Cx p s m args c R mid d) (hdg : decode (ek_b mid) pc = .ok (.ldc2_w i, 3)) (hau : aux = [v]) (hw : (Jvm.Cond.constantLong (ek_y mid).cls i (Int64.ofInt v)) ∈ em_tbl) (hn : (Int64.ofInt v).toInt = v) (h : em_step 0 pc (.ldc2_w i) aux ls st M = some (.inl b)) (hne : em_sel b.1 b.2.1 ≠ 999999) (hls : em_LR ad sa bs lsJ (ek_mx mid) ls) (hst : em_RS ad sa bs stJ st) (hW : Φ H locs) (K : ∀ (H2 : Heap) (locs2 : List Loc) (lsJ2 : Array Slot) (stJ2 : List Value), em_LR ad sa bs lsJ2 (ek_mx mid) b.2.2.1 → em_RS ad sa bs stJ2 b.2.2.2.1 → Φ H2 locs2 → W p l e R s m args below meth c H2 locs2 cells slots Q (F0 m (em_sel b.1 b.2.1) lsJ2 stJ2)) : W p l e R s m args below meth c H locs cells slots Q (F0 m pc lsJ stJ) := by
  obtain ⟨hx, hb, hml, hown, hts, hO, hR1, hR2⟩ := C
  subst hau
  cases h
  refine lv_ldc2 (v := Int64.ofInt v) hx hb hown (hts _ hw) hdg ?_
  exact K _ _ _ _ hls ⟨by rw [em_RV, hn], hst⟩ hW
theorem kw_iload {i : Nat} (C : ek_Cx p s m args c R mid d) (hdg : decode (ek_b mid) pc = .ok (.iload i, 2))  (h : em_step 0 pc (.iload i) aux ls st M = some (.inl b)) (hne : em_sel b.1 b.2.1 ≠ 999999) (hls : em_LR ad sa bs lsJ (ek_mx mid) ls) (hst : em_RS ad sa bs stJ st) (hW : Φ H locs) (K : ∀ (H2 : Heap) (locs2 : List Loc) (lsJ2 : Array Slot) (stJ2 : List Value), em_LR ad sa bs lsJ2 (ek_mx mid) b.2.2.1 → em_RS ad sa bs stJ2 b.2.2.2.1 → Φ H2 locs2 → W p l e R s m args below meth c H2 locs2 cells slots Q (F0 m (em_sel b.1 b.2.1) lsJ2 stJ2)) : W p l e R s m args below meth c H locs cells slots Q (F0 m pc lsJ stJ) := by
  obtain ⟨hx, hb, hml, hown, hts, hO, hR1, hR2⟩ := C
  simp only [em_step] at h
  cases hg : em_get ls i with
  | none => rw [hg] at h; cases h
  | some q =>
    rw [hg, Option.bind_some] at h
    obtain ⟨t, y⟩ := q
    cases hq : Nat.beq t 0 with
    | false => simp only [hq, cond_false] at h; cases h
    | true =>
      have e : t = 0 := Nat.eq_of_beq_eq_true hq
      subst e
      cases h
      obtain ⟨v, h1, h2⟩ := em_LR_get hls hg
      obtain ⟨z, rfl, rfl⟩ := em_RV_i h2
      refine lv_iload hx hb hdg h1 ?_
      exact K _ _ _ _ hls ⟨h2, hst⟩ hW
theorem kw_iload_n {i : Fin 4} (C : ek_Cx p s m args c R mid d) (hdg : decode (ek_b mid) pc = .ok (.iload_n i, 1))  (h : em_step 0 pc (.iload_n i) aux ls st M = some (.inl b)) (hne : em_sel b.1 b.2.1 ≠ 999999) (hls : em_LR ad sa bs lsJ (ek_mx mid) ls) (hst : em_RS ad sa bs stJ st) (hW : Φ H locs) (K : ∀ (H2 : Heap) (locs2 : List Loc) (lsJ2 : Array Slot) (stJ2 : List Value), em_LR ad sa bs lsJ2 (ek_mx mid) b.2.2.1 → em_RS ad sa bs stJ2 b.2.2.2.1 → Φ H2 locs2 → W p l e R s m args below meth c H2 locs2 cells slots Q (F0 m (em_sel b.1 b.2.1) lsJ2 stJ2)) : W p l e R s m args below meth c H locs cells slots Q (F0 m pc lsJ stJ) := by
  obtain ⟨hx, hb, hml, hown, hts, hO, hR1, hR2⟩ := C
  simp only [em_step] at h
  cases hg : em_get ls (i : Nat) with
  | none => rw [hg] at h; cases h
  | some q =>
    rw [hg, Option.bind_some] at h
    obtain ⟨t, y⟩ := q
    cases hq : Nat.beq t 0 with
    | false => simp only [hq, cond_false] at h; cases h
    | true =>
      have e : t = 0 := Nat.eq_of_beq_eq_true hq
      subst e
      cases h
      obtain ⟨v, h1, h2⟩ := em_LR_get hls hg
      obtain ⟨z, rfl, rfl⟩ := em_RV_i h2
      refine lv_iload_n hx hb hdg rfl h1 ?_
      exact K _ _ _ _ hls ⟨h2, hst⟩ hW
theorem kw_lload_n {i : Fin 4} (C : ek_Cx p s m args c R mid d) (hdg : decode (ek_b mid) pc = .ok (.lload_n i, 1))  (h : em_step 0 pc (.lload_n i) aux ls st M = some (.inl b)) (hne : em_sel b.1 b.2.1 ≠ 999999) (hls : em_LR ad sa bs lsJ (ek_mx mid) ls) (hst : em_RS ad sa bs stJ st) (hW : Φ H locs) (K : ∀ (H2 : Heap) (locs2 : List Loc) (lsJ2 : Array Slot) (stJ2 : List Value), em_LR ad sa bs lsJ2 (ek_mx mid) b.2.2.1 → em_RS ad sa bs stJ2 b.2.2.2.1 → Φ H2 locs2 → W p l e R s m args below meth c H2 locs2 cells slots Q (F0 m (em_sel b.1 b.2.1) lsJ2 stJ2)) : W p l e R s m args below meth c H locs cells slots Q (F0 m pc lsJ stJ) := by
  obtain ⟨hx, hb, hml, hown, hts, hO, hR1, hR2⟩ := C
  simp only [em_step] at h
  cases hg : em_get ls (i : Nat) with
  | none => rw [hg] at h; cases h
  | some q =>
    rw [hg, Option.bind_some] at h
    obtain ⟨t, y⟩ := q
    cases hq : Nat.beq t 1 with
    | false => simp only [hq, cond_false] at h; cases h
    | true =>
      have e : t = 1 := Nat.eq_of_beq_eq_true hq
      subst e
      cases h
      obtain ⟨v, h1, h2⟩ := em_LR_get hls hg
      obtain ⟨z, rfl, rfl⟩ := em_RV_l h2
      refine lv_lload_n hx hb hdg rfl h1 ?_
      exact K _ _ _ _ hls ⟨h2, hst⟩ hW
theorem kw_aload {i : Nat} (C : ek_Cx p s m args c R mid d) (hdg : decode (ek_b mid) pc = .ok (.aload i, 2))  (h : em_step 0 pc (.aload i) aux ls st M = some (.inl b)) (hne : em_sel b.1 b.2.1 ≠ 999999) (hls : em_LR ad sa bs lsJ (ek_mx mid) ls) (hst : em_RS ad sa bs stJ st) (hW : Φ H locs) (K : ∀ (H2 : Heap) (locs2 : List Loc) (lsJ2 : Array Slot) (stJ2 : List Value), em_LR ad sa bs lsJ2 (ek_mx mid) b.2.2.1 → em_RS ad sa bs stJ2 b.2.2.2.1 → Φ H2 locs2 → W p l e R s m args below meth c H2 locs2 cells slots Q (F0 m (em_sel b.1 b.2.1) lsJ2 stJ2)) : W p l e R s m args below meth c H locs cells slots Q (F0 m pc lsJ stJ) := by
  obtain ⟨hx, hb, hml, hown, hts, hO, hR1, hR2⟩ := C
  simp only [em_step] at h
  cases hg : em_get ls i with
  | none => rw [hg] at h; cases h
  | some q =>
    rw [hg, Option.bind_some] at h
    cases hq : em_isref q.1 with
    | false => simp only [hq, cond_false] at h; cases h
    | true =>
      simp only [hq, cond_true] at h
      cases h
      obtain ⟨v, h1, h2⟩ := em_LR_get hls hg
      obtain ⟨z, rfl⟩ := em_RV_any h2 hq
      refine lv_aload hx hb hdg h1 ?_
      exact K _ _ _ _ hls ⟨h2, hst⟩ hW
theorem kw_aload_n {i : Fin 4} (C : ek_Cx p s m args c R mid d) (hdg : decode (ek_b mid) pc = .ok (.aload_n i, 1))  (h : em_step 0 pc (.aload_n i) aux ls st M = some (.inl b)) (hne : em_sel b.1 b.2.1 ≠ 999999) (hls : em_LR ad sa bs lsJ (ek_mx mid) ls) (hst : em_RS ad sa bs stJ st) (hW : Φ H locs) (K : ∀ (H2 : Heap) (locs2 : List Loc) (lsJ2 : Array Slot) (stJ2 : List Value), em_LR ad sa bs lsJ2 (ek_mx mid) b.2.2.1 → em_RS ad sa bs stJ2 b.2.2.2.1 → Φ H2 locs2 → W p l e R s m args below meth c H2 locs2 cells slots Q (F0 m (em_sel b.1 b.2.1) lsJ2 stJ2)) : W p l e R s m args below meth c H locs cells slots Q (F0 m pc lsJ stJ) := by
  obtain ⟨hx, hb, hml, hown, hts, hO, hR1, hR2⟩ := C
  simp only [em_step] at h
  cases hg : em_get ls (i : Nat) with
  | none => rw [hg] at h; cases h
  | some q =>
    rw [hg, Option.bind_some] at h
    cases hq : em_isref q.1 with
    | false => simp only [hq, cond_false] at h; cases h
    | true =>
      simp only [hq, cond_true] at h
      cases h
      obtain ⟨v, h1, h2⟩ := em_LR_get hls hg
      obtain ⟨z, rfl⟩ := em_RV_any h2 hq
      refine lv_aload_n hx hb hdg rfl h1 ?_
      exact K _ _ _ _ hls ⟨h2, hst⟩ hW
theorem kw_istore {i : Nat} (C : ek_Cx p s m args c R mid d) (hdg : decode (ek_b mid) pc = .ok (.istore i, 2)) (hi : i < ek_mx mid) (h : em_step 0 pc (.istore i) aux ls st M = some (.inl b)) (hne : em_sel b.1 b.2.1 ≠ 999999) (hls : em_LR ad sa bs lsJ (ek_mx mid) ls) (hst : em_RS ad sa bs stJ st) (hW : Φ H locs) (K : ∀ (H2 : Heap) (locs2 : List Loc) (lsJ2 : Array Slot) (stJ2 : List Value), em_LR ad sa bs lsJ2 (ek_mx mid) b.2.2.1 → em_RS ad sa bs stJ2 b.2.2.2.1 → Φ H2 locs2 → W p l e R s m args below meth c H2 locs2 cells slots Q (F0 m (em_sel b.1 b.2.1) lsJ2 stJ2)) : W p l e R s m args below meth c H locs cells slots Q (F0 m pc lsJ stJ) := by
  obtain ⟨hx, hb, hml, hown, hts, hO, hR1, hR2⟩ := C
  simp only [em_step] at h
  cases hg : em_p 0 st with
  | none => rw [hg] at h; cases h
  | some q =>
    rw [hg, Option.bind_some] at h
    cases h
    rw [em_p_some hg] at hst
    obtain ⟨v, r, rfl, hv, hr⟩ := em_RS_cons hst
    obtain ⟨z, rfl, hz⟩ := em_RV_i hv
    obtain ⟨l0, h1, h2⟩ := hls
    refine lv_istore hx hb hdg h1 hi rfl (fun ls2 hl2 => ?_)
    exact K _ _ _ _ ⟨_, hl2, em_RL_set1 h2 hv⟩ hr hW
theorem kw_istore_n {i : Fin 4} (C : ek_Cx p s m args c R mid d) (hdg : decode (ek_b mid) pc = .ok (.istore_n i, 1)) (hi : (i : Nat) < ek_mx mid) (h : em_step 0 pc (.istore_n i) aux ls st M = some (.inl b)) (hne : em_sel b.1 b.2.1 ≠ 999999) (hls : em_LR ad sa bs lsJ (ek_mx mid) ls) (hst : em_RS ad sa bs stJ st) (hW : Φ H locs) (K : ∀ (H2 : Heap) (locs2 : List Loc) (lsJ2 : Array Slot) (stJ2 : List Value), em_LR ad sa bs lsJ2 (ek_mx mid) b.2.2.1 → em_RS ad sa bs stJ2 b.2.2.2.1 → Φ H2 locs2 → W p l e R s m args below meth c H2 locs2 cells slots Q (F0 m (em_sel b.1 b.2.1) lsJ2 stJ2)) : W p l e R s m args below meth c H locs cells slots Q (F0 m pc lsJ stJ) := by
  obtain ⟨hx, hb, hml, hown, hts, hO, hR1, hR2⟩ := C
  simp only [em_step] at h
  cases hg : em_p 0 st with
  | none => rw [hg] at h; cases h
  | some q =>
    rw [hg, Option.bind_some] at h
    cases h
    rw [em_p_some hg] at hst
    obtain ⟨v, r, rfl, hv, hr⟩ := em_RS_cons hst
    obtain ⟨z, rfl, hz⟩ := em_RV_i hv
    obtain ⟨l0, h1, h2⟩ := hls
    refine lv_istore_n hx hb hdg rfl h1 hi rfl (fun ls2 hl2 => ?_)
    exact K _ _ _ _ ⟨_, hl2, em_RL_set1 h2 hv⟩ hr hW
theorem kw_astore {i : Nat} (C : ek_Cx p s m args c R mid d) (hdg : decode (ek_b mid) pc = .ok (.astore i, 2)) (hi : i < ek_mx mid) (h : em_step 0 pc (.astore i) aux ls st M = some (.inl b)) (hne : em_sel b.1 b.2.1 ≠ 999999) (hls : em_LR ad sa bs lsJ (ek_mx mid) ls) (hst : em_RS ad sa bs stJ st) (hW : Φ H locs) (K : ∀ (H2 : Heap) (locs2 : List Loc) (lsJ2 : Array Slot) (stJ2 : List Value), em_LR ad sa bs lsJ2 (ek_mx mid) b.2.2.1 → em_RS ad sa bs stJ2 b.2.2.2.1 → Φ H2 locs2 → W p l e R s m args below meth c H2 locs2 cells slots Q (F0 m (em_sel b.1 b.2.1) lsJ2 stJ2)) : W p l e R s m args below meth c H locs cells slots Q (F0 m pc lsJ stJ) := by
  obtain ⟨hx, hb, hml, hown, hts, hO, hR1, hR2⟩ := C
  cases st with
  | nil => cases h
  | cons q r =>
    simp only [em_step] at h
    cases hq : em_isref q.1 with
    | false => simp only [hq, cond_false] at h; cases h
    | true =>
      simp only [hq, cond_true] at h
      cases h
      obtain ⟨v, r2, rfl, hv, hr⟩ := em_RS_cons hst
      obtain ⟨z, rfl⟩ := em_RV_any hv hq
      obtain ⟨l0, h1, h2⟩ := hls
      refine lv_astore hx hb hdg h1 hi rfl (fun ls2 hl2 => ?_)
      exact K _ _ _ _ ⟨_, hl2, em_RL_set1 h2 hv⟩ hr hW
theorem kw_astore_n {i : Fin 4} (C : ek_Cx p s m args c R mid d) (hdg : decode (ek_b mid) pc = .ok (.astore_n i, 1)) (hi : (i : Nat) < ek_mx mid) (h : em_step 0 pc (.astore_n i) aux ls st M = some (.inl b)) (hne : em_sel b.1 b.2.1 ≠ 999999) (hls : em_LR ad sa bs lsJ (ek_mx mid) ls) (hst : em_RS ad sa bs stJ st) (hW : Φ H locs) (K : ∀ (H2 : Heap) (locs2 : List Loc) (lsJ2 : Array Slot) (stJ2 : List Value), em_LR ad sa bs lsJ2 (ek_mx mid) b.2.2.1 → em_RS ad sa bs stJ2 b.2.2.2.1 → Φ H2 locs2 → W p l e R s m args below meth c H2 locs2 cells slots Q (F0 m (em_sel b.1 b.2.1) lsJ2 stJ2)) : W p l e R s m args below meth c H locs cells slots Q (F0 m pc lsJ stJ) := by
  obtain ⟨hx, hb, hml, hown, hts, hO, hR1, hR2⟩ := C
  cases st with
  | nil => cases h
  | cons q r =>
    simp only [em_step] at h
    cases hq : em_isref q.1 with
    | false => simp only [hq, cond_false] at h; cases h
    | true =>
      simp only [hq, cond_true] at h
      cases h
      obtain ⟨v, r2, rfl, hv, hr⟩ := em_RS_cons hst
      obtain ⟨z, rfl⟩ := em_RV_any hv hq
      obtain ⟨l0, h1, h2⟩ := hls
      refine lv_astore_n hx hb hdg rfl h1 hi rfl (fun ls2 hl2 => ?_)
      exact K _ _ _ _ ⟨_, hl2, em_RL_set1 h2 hv⟩ hr hW
theorem kw_iinc {i : Nat} {n : Int} (C : ek_Cx p s m args c R mid d) (hdg : decode (ek_b mid) pc = .ok (.iinc i n, 3)) (hi : i < ek_mx mid) (h : em_step 0 pc (.iinc i n) aux ls st M = some (.inl b)) (hne : em_sel b.1 b.2.1 ≠ 999999) (hls : em_LR ad sa bs lsJ (ek_mx mid) ls) (hst : em_RS ad sa bs stJ st) (hW : Φ H locs) (K : ∀ (H2 : Heap) (locs2 : List Loc) (lsJ2 : Array Slot) (stJ2 : List Value), em_LR ad sa bs lsJ2 (ek_mx mid) b.2.2.1 → em_RS ad sa bs stJ2 b.2.2.2.1 → Φ H2 locs2 → W p l e R s m args below meth c H2 locs2 cells slots Q (F0 m (em_sel b.1 b.2.1) lsJ2 stJ2)) : W p l e R s m args below meth c H locs cells slots Q (F0 m pc lsJ stJ) := by
  obtain ⟨hx, hb, hml, hown, hts, hO, hR1, hR2⟩ := C
  simp only [em_step] at h
  cases hg : em_get ls i with
  | none => rw [hg] at h; cases h
  | some q =>
    rw [hg, Option.bind_some] at h
    obtain ⟨t, y⟩ := q
    cases hq : Nat.beq t 0 with
    | false => simp only [hq, cond_false] at h; cases h
    | true =>
      have e : t = 0 := Nat.eq_of_beq_eq_true hq
      subst e
      cases h
      obtain ⟨l0, h1, h2⟩ := hls
      obtain ⟨v, h3, h4⟩ := em_RL_get h2 hg
      obtain ⟨z, rfl, rfl⟩ := em_RV_i h4
      obtain ⟨k, hk⟩ := List.getElem?_of_mem h3
      refine lv_iinc hx hb hdg h1 hk rfl hi rfl (fun ls2 hl2 => ?_)
      exact K _ _ _ _ ⟨_, hl2, em_RL_set1 h2 (by rw [em_RV, em_addn])⟩ hst hW
theorem kw_dup  (C : ek_Cx p s m args c R mid d) (hdg : decode (ek_b mid) pc = .ok (.dup, 1))  (h : em_step 0 pc (.dup) aux ls st M = some (.inl b)) (hne : em_sel b.1 b.2.1 ≠ 999999) (hls : em_LR ad sa bs lsJ (ek_mx mid) ls) (hst : em_RS ad sa bs stJ st) (hW : Φ H locs) (K : ∀ (H2 : Heap) (locs2 : List Loc) (lsJ2 : Array Slot) (stJ2 : List Value), em_LR ad sa bs lsJ2 (ek_mx mid) b.2.2.1 → em_RS ad sa bs stJ2 b.2.2.2.1 → Φ H2 locs2 → W p l e R s m args below meth c H2 locs2 cells slots Q (F0 m (em_sel b.1 b.2.1) lsJ2 stJ2)) : W p l e R s m args below meth c H locs cells slots Q (F0 m pc lsJ stJ) := by
  obtain ⟨hx, hb, hml, hown, hts, hO, hR1, hR2⟩ := C
  cases st with
  | nil => cases h
  | cons q r =>
    simp only [em_step] at h
    cases hq : Nat.beq q.1 1 with
    | true => simp only [hq, cond_true] at h; cases h
    | false =>
      simp only [hq, cond_false] at h
      cases h
      obtain ⟨v, r2, rfl, hv, hr⟩ := em_RS_cons hst
      refine lv_dup hx hb hdg (by rw [em_RV_cat hv, hq]; rfl) ?_
      exact K _ _ _ _ hls ⟨hv, hv, hr⟩ hW
theorem kw_iadd  (C : ek_Cx p s m args c R mid d) (hdg : decode (ek_b mid) pc = .ok (.iadd, 1))  (h : em_step 0 pc (.iadd) aux ls st M = some (.inl b)) (hne : em_sel b.1 b.2.1 ≠ 999999) (hls : em_LR ad sa bs lsJ (ek_mx mid) ls) (hst : em_RS ad sa bs stJ st) (hW : Φ H locs) (K : ∀ (H2 : Heap) (locs2 : List Loc) (lsJ2 : Array Slot) (stJ2 : List Value), em_LR ad sa bs lsJ2 (ek_mx mid) b.2.2.1 → em_RS ad sa bs stJ2 b.2.2.2.1 → Φ H2 locs2 → W p l e R s m args below meth c H2 locs2 cells slots Q (F0 m (em_sel b.1 b.2.1) lsJ2 stJ2)) : W p l e R s m args below meth c H locs cells slots Q (F0 m pc lsJ stJ) := by
  obtain ⟨hx, hb, hml, hown, hts, hO, hR1, hR2⟩ := C
  simp only [em_step] at h
  obtain ⟨a1, b1, r1, rfl, h⟩ := em_p2_some h
  cases h
  obtain ⟨v2, t1, rfl, hv2, hr⟩ := em_RS_cons hst
  obtain ⟨v1, t2, rfl, hv1, hr2⟩ := em_RS_cons hr
  obtain ⟨y, rfl, rfl⟩ := em_RV_i hv2
  obtain ⟨x, rfl, rfl⟩ := em_RV_i hv1
  refine lv_iadd hx hb hdg ?_
  exact K _ _ _ _ hls ⟨by rw [em_RV]; rw [em_x32], hr2⟩ hW
theorem kw_isub  (C : ek_Cx p s m args c R mid d) (hdg : decode (ek_b mid) pc = .ok (.isub, 1))  (h : em_step 0 pc (.isub) aux ls st M = some (.inl b)) (hne : em_sel b.1 b.2.1 ≠ 999999) (hls : em_LR ad sa bs lsJ (ek_mx mid) ls) (hst : em_RS ad sa bs stJ st) (hW : Φ H locs) (K : ∀ (H2 : Heap) (locs2 : List Loc) (lsJ2 : Array Slot) (stJ2 : List Value), em_LR ad sa bs lsJ2 (ek_mx mid) b.2.2.1 → em_RS ad sa bs stJ2 b.2.2.2.1 → Φ H2 locs2 → W p l e R s m args below meth c H2 locs2 cells slots Q (F0 m (em_sel b.1 b.2.1) lsJ2 stJ2)) : W p l e R s m args below meth c H locs cells slots Q (F0 m pc lsJ stJ) := by
  obtain ⟨hx, hb, hml, hown, hts, hO, hR1, hR2⟩ := C
  simp only [em_step] at h
  obtain ⟨a1, b1, r1, rfl, h⟩ := em_p2_some h
  cases h
  obtain ⟨v2, t1, rfl, hv2, hr⟩ := em_RS_cons hst
  obtain ⟨v1, t2, rfl, hv1, hr2⟩ := em_RS_cons hr
  obtain ⟨y, rfl, rfl⟩ := em_RV_i hv2
  obtain ⟨x, rfl, rfl⟩ := em_RV_i hv1
  refine lv_isub hx hb hdg ?_
  exact K _ _ _ _ hls ⟨by rw [em_RV]; rw [em_x32s], hr2⟩ hW
theorem kw_ladd  (C : ek_Cx p s m args c R mid d) (hdg : decode (ek_b mid) pc = .ok (.ladd, 1))  (h : em_step 0 pc (.ladd) aux ls st M = some (.inl b)) (hne : em_sel b.1 b.2.1 ≠ 999999) (hls : em_LR ad sa bs lsJ (ek_mx mid) ls) (hst : em_RS ad sa bs stJ st) (hW : Φ H locs) (K : ∀ (H2 : Heap) (locs2 : List Loc) (lsJ2 : Array Slot) (stJ2 : List Value), em_LR ad sa bs lsJ2 (ek_mx mid) b.2.2.1 → em_RS ad sa bs stJ2 b.2.2.2.1 → Φ H2 locs2 → W p l e R s m args below meth c H2 locs2 cells slots Q (F0 m (em_sel b.1 b.2.1) lsJ2 stJ2)) : W p l e R s m args below meth c H locs cells slots Q (F0 m pc lsJ stJ) := by
  obtain ⟨hx, hb, hml, hown, hts, hO, hR1, hR2⟩ := C
  simp only [em_step] at h
  obtain ⟨a1, b1, r1, rfl, h⟩ := em_p2_some h
  cases h
  obtain ⟨v2, t1, rfl, hv2, hr⟩ := em_RS_cons hst
  obtain ⟨v1, t2, rfl, hv1, hr2⟩ := em_RS_cons hr
  obtain ⟨y, rfl, rfl⟩ := em_RV_l hv2
  obtain ⟨x, rfl, rfl⟩ := em_RV_l hv1
  refine lv_ladd hx hb hdg ?_
  exact K _ _ _ _ hls ⟨by rw [em_RV]; rw [em_x64], hr2⟩ hW
theorem kw_lmul  (C : ek_Cx p s m args c R mid d) (hdg : decode (ek_b mid) pc = .ok (.lmul, 1))  (h : em_step 0 pc (.lmul) aux ls st M = some (.inl b)) (hne : em_sel b.1 b.2.1 ≠ 999999) (hls : em_LR ad sa bs lsJ (ek_mx mid) ls) (hst : em_RS ad sa bs stJ st) (hW : Φ H locs) (K : ∀ (H2 : Heap) (locs2 : List Loc) (lsJ2 : Array Slot) (stJ2 : List Value), em_LR ad sa bs lsJ2 (ek_mx mid) b.2.2.1 → em_RS ad sa bs stJ2 b.2.2.2.1 → Φ H2 locs2 → W p l e R s m args below meth c H2 locs2 cells slots Q (F0 m (em_sel b.1 b.2.1) lsJ2 stJ2)) : W p l e R s m args below meth c H locs cells slots Q (F0 m pc lsJ stJ) := by
  obtain ⟨hx, hb, hml, hown, hts, hO, hR1, hR2⟩ := C
  simp only [em_step] at h
  obtain ⟨a1, b1, r1, rfl, h⟩ := em_p2_some h
  cases h
  obtain ⟨v2, t1, rfl, hv2, hr⟩ := em_RS_cons hst
  obtain ⟨v1, t2, rfl, hv1, hr2⟩ := em_RS_cons hr
  obtain ⟨y, rfl, rfl⟩ := em_RV_l hv2
  obtain ⟨x, rfl, rfl⟩ := em_RV_l hv1
  refine lv_lmul hx hb hdg ?_
  exact K _ _ _ _ hls ⟨by rw [em_RV]; rw [em_x64m], hr2⟩ hW
theorem kw_i2l  (C : ek_Cx p s m args c R mid d) (hdg : decode (ek_b mid) pc = .ok (.i2l, 1))  (h : em_step 0 pc (.i2l) aux ls st M = some (.inl b)) (hne : em_sel b.1 b.2.1 ≠ 999999) (hls : em_LR ad sa bs lsJ (ek_mx mid) ls) (hst : em_RS ad sa bs stJ st) (hW : Φ H locs) (K : ∀ (H2 : Heap) (locs2 : List Loc) (lsJ2 : Array Slot) (stJ2 : List Value), em_LR ad sa bs lsJ2 (ek_mx mid) b.2.2.1 → em_RS ad sa bs stJ2 b.2.2.2.1 → Φ H2 locs2 → W p l e R s m args below meth c H2 locs2 cells slots Q (F0 m (em_sel b.1 b.2.1) lsJ2 stJ2)) : W p l e R s m args below meth c H locs cells slots Q (F0 m pc lsJ stJ) := by
  obtain ⟨hx, hb, hml, hown, hts, hO, hR1, hR2⟩ := C
  simp only [em_step] at h
  cases hg : em_p 0 st with
  | none => rw [hg] at h; cases h
  | some q =>
    rw [hg, Option.bind_some] at h
    cases h
    rw [em_p_some hg] at hst
    obtain ⟨v, r, rfl, hv, hr⟩ := em_RS_cons hst
    obtain ⟨x, rfl, hz⟩ := em_RV_i hv
    refine lv_i2l (v := x.toInt64) hx hb hdg rfl ?_
    exact K _ _ _ _ hls ⟨by rw [em_RV, ← hz]; rw [Int32.toInt_toInt64], hr⟩ hW
theorem kw_if_eq {off : Int} (C : ek_Cx p s m args c R mid d) (hdg : decode (ek_b mid) pc = .ok (.ifCond .eq off, 3)) (ho : 0 ≤ (pc : Int) + off) (h : em_step 0 pc (.ifCond .eq off) aux ls st M = some (.inl b)) (hne : em_sel b.1 b.2.1 ≠ 999999) (hls : em_LR ad sa bs lsJ (ek_mx mid) ls) (hst : em_RS ad sa bs stJ st) (hW : Φ H locs) (K : ∀ (H2 : Heap) (locs2 : List Loc) (lsJ2 : Array Slot) (stJ2 : List Value), em_LR ad sa bs lsJ2 (ek_mx mid) b.2.2.1 → em_RS ad sa bs stJ2 b.2.2.2.1 → Φ H2 locs2 → W p l e R s m args below meth c H2 locs2 cells slots Q (F0 m (em_sel b.1 b.2.1) lsJ2 stJ2)) : W p l e R s m args below meth c H locs cells slots Q (F0 m pc lsJ stJ) := by
  obtain ⟨hx, hb, hml, hown, hts, hO, hR1, hR2⟩ := C
  simp only [em_step] at h
  cases hg : em_p 0 st with
  | none => rw [hg] at h; cases h
  | some q =>
    rw [hg, Option.bind_some] at h
    cases h
    rw [em_p_some hg] at hst
    obtain ⟨v, r, rfl, hv, hr⟩ := em_RS_cons hst
    obtain ⟨x, rfl, hz⟩ := em_RV_i hv
    have hc := em_c0_eq x
    rw [hz] at hc
    refine lv_if_eq hx hb hdg (em_tgt_eq ho) (fun q1 => ?_) (fun q1 => ?_)
    · have hs : em_sel [(em_cond .eq q.1, em_tgt pc off)] (pc + 3) = em_tgt pc off := by
        simp only [em_sel, em_cond, decide_eq_true (hc.mpr q1), cond_true]
      rw [hs] at K
      exact K _ _ _ _ hls hr hW
    · have hs : em_sel [(em_cond .eq q.1, em_tgt pc off)] (pc + 3) = pc + 3 := by
        simp only [em_sel, em_cond, decide_eq_false (fun q2 => q1 (hc.mp q2)), cond_false]
      rw [hs] at K
      exact K _ _ _ _ hls hr hW
theorem kw_if_ne {off : Int} (C : ek_Cx p s m args c R mid d) (hdg : decode (ek_b mid) pc = .ok (.ifCond .ne off, 3)) (ho : 0 ≤ (pc : Int) + off) (h : em_step 0 pc (.ifCond .ne off) aux ls st M = some (.inl b)) (hne : em_sel b.1 b.2.1 ≠ 999999) (hls : em_LR ad sa bs lsJ (ek_mx mid) ls) (hst : em_RS ad sa bs stJ st) (hW : Φ H locs) (K : ∀ (H2 : Heap) (locs2 : List Loc) (lsJ2 : Array Slot) (stJ2 : List Value), em_LR ad sa bs lsJ2 (ek_mx mid) b.2.2.1 → em_RS ad sa bs stJ2 b.2.2.2.1 → Φ H2 locs2 → W p l e R s m args below meth c H2 locs2 cells slots Q (F0 m (em_sel b.1 b.2.1) lsJ2 stJ2)) : W p l e R s m args below meth c H locs cells slots Q (F0 m pc lsJ stJ) := by
  obtain ⟨hx, hb, hml, hown, hts, hO, hR1, hR2⟩ := C
  simp only [em_step] at h
  cases hg : em_p 0 st with
  | none => rw [hg] at h; cases h
  | some q =>
    rw [hg, Option.bind_some] at h
    cases h
    rw [em_p_some hg] at hst
    obtain ⟨v, r, rfl, hv, hr⟩ := em_RS_cons hst
    obtain ⟨x, rfl, hz⟩ := em_RV_i hv
    have hc := em_c0_ne x
    rw [hz] at hc
    refine lv_if_ne hx hb hdg (em_tgt_eq ho) (fun q1 => ?_) (fun q1 => ?_)
    · have hs : em_sel [(em_cond .ne q.1, em_tgt pc off)] (pc + 3) = em_tgt pc off := by
        simp only [em_sel, em_cond, decide_eq_true (hc.mpr q1), cond_true]
      rw [hs] at K
      exact K _ _ _ _ hls hr hW
    · have hs : em_sel [(em_cond .ne q.1, em_tgt pc off)] (pc + 3) = pc + 3 := by
        simp only [em_sel, em_cond, decide_eq_false (fun q2 => (hc.mp q2) q1), cond_false]
      rw [hs] at K
      exact K _ _ _ _ hls hr hW
theorem kw_if_lt {off : Int} (C : ek_Cx p s m args c R mid d) (hdg : decode (ek_b mid) pc = .ok (.ifCond .lt off, 3)) (ho : 0 ≤ (pc : Int) + off) (h : em_step 0 pc (.ifCond .lt off) aux ls st M = some (.inl b)) (hne : em_sel b.1 b.2.1 ≠ 999999) (hls : em_LR ad sa bs lsJ (ek_mx mid) ls) (hst : em_RS ad sa bs stJ st) (hW : Φ H locs) (K : ∀ (H2 : Heap) (locs2 : List Loc) (lsJ2 : Array Slot) (stJ2 : List Value), em_LR ad sa bs lsJ2 (ek_mx mid) b.2.2.1 → em_RS ad sa bs stJ2 b.2.2.2.1 → Φ H2 locs2 → W p l e R s m args below meth c H2 locs2 cells slots Q (F0 m (em_sel b.1 b.2.1) lsJ2 stJ2)) : W p l e R s m args below meth c H locs cells slots Q (F0 m pc lsJ stJ) := by
  obtain ⟨hx, hb, hml, hown, hts, hO, hR1, hR2⟩ := C
  simp only [em_step] at h
  cases hg : em_p 0 st with
  | none => rw [hg] at h; cases h
  | some q =>
    rw [hg, Option.bind_some] at h
    cases h
    rw [em_p_some hg] at hst
    obtain ⟨v, r, rfl, hv, hr⟩ := em_RS_cons hst
    obtain ⟨x, rfl, hz⟩ := em_RV_i hv
    have hc := em_c0_lt x
    rw [hz] at hc
    refine lv_if_lt hx hb hdg (em_tgt_eq ho) (fun q1 => ?_) (fun q1 => ?_)
    · have hs : em_sel [(em_cond .lt q.1, em_tgt pc off)] (pc + 3) = em_tgt pc off := by
        simp only [em_sel, em_cond, decide_eq_true (hc.mpr q1), cond_true]
      rw [hs] at K
      exact K _ _ _ _ hls hr hW
    · have hs : em_sel [(em_cond .lt q.1, em_tgt pc off)] (pc + 3) = pc + 3 := by
        simp only [em_sel, em_cond, decide_eq_false (fun q2 => q1 (hc.mp q2)), cond_false]
      rw [hs] at K
      exact K _ _ _ _ hls hr hW
theorem kw_if_ge {off : Int} (C : ek_Cx p s m args c R mid d) (hdg : decode (ek_b mid) pc = .ok (.ifCond .ge off, 3)) (ho : 0 ≤ (pc : Int) + off) (h : em_step 0 pc (.ifCond .ge off) aux ls st M = some (.inl b)) (hne : em_sel b.1 b.2.1 ≠ 999999) (hls : em_LR ad sa bs lsJ (ek_mx mid) ls) (hst : em_RS ad sa bs stJ st) (hW : Φ H locs) (K : ∀ (H2 : Heap) (locs2 : List Loc) (lsJ2 : Array Slot) (stJ2 : List Value), em_LR ad sa bs lsJ2 (ek_mx mid) b.2.2.1 → em_RS ad sa bs stJ2 b.2.2.2.1 → Φ H2 locs2 → W p l e R s m args below meth c H2 locs2 cells slots Q (F0 m (em_sel b.1 b.2.1) lsJ2 stJ2)) : W p l e R s m args below meth c H locs cells slots Q (F0 m pc lsJ stJ) := by
  obtain ⟨hx, hb, hml, hown, hts, hO, hR1, hR2⟩ := C
  simp only [em_step] at h
  cases hg : em_p 0 st with
  | none => rw [hg] at h; cases h
  | some q =>
    rw [hg, Option.bind_some] at h
    cases h
    rw [em_p_some hg] at hst
    obtain ⟨v, r, rfl, hv, hr⟩ := em_RS_cons hst
    obtain ⟨x, rfl, hz⟩ := em_RV_i hv
    have hc := em_c0_ge x
    rw [hz] at hc
    refine lv_if_ge hx hb hdg (em_tgt_eq ho) (fun q1 => ?_) (fun q1 => ?_)
    · have hs : em_sel [(em_cond .ge q.1, em_tgt pc off)] (pc + 3) = em_tgt pc off := by
        simp only [em_sel, em_cond, decide_eq_true (hc.mpr q1), cond_true]
      rw [hs] at K
      exact K _ _ _ _ hls hr hW
    · have hs : em_sel [(em_cond .ge q.1, em_tgt pc off)] (pc + 3) = pc + 3 := by
        simp only [em_sel, em_cond, decide_eq_false (fun q2 => q1 (hc.mp q2)), cond_false]
      rw [hs] at K
      exact K _ _ _ _ hls hr hW
theorem kw_if_gt {off : Int} (C : ek_Cx p s m args c R mid d) (hdg : decode (ek_b mid) pc = .ok (.ifCond .gt off, 3)) (ho : 0 ≤ (pc : Int) + off) (h : em_step 0 pc (.ifCond .gt off) aux ls st M = some (.inl b)) (hne : em_sel b.1 b.2.1 ≠ 999999) (hls : em_LR ad sa bs lsJ (ek_mx mid) ls) (hst : em_RS ad sa bs stJ st) (hW : Φ H locs) (K : ∀ (H2 : Heap) (locs2 : List Loc) (lsJ2 : Array Slot) (stJ2 : List Value), em_LR ad sa bs lsJ2 (ek_mx mid) b.2.2.1 → em_RS ad sa bs stJ2 b.2.2.2.1 → Φ H2 locs2 → W p l e R s m args below meth c H2 locs2 cells slots Q (F0 m (em_sel b.1 b.2.1) lsJ2 stJ2)) : W p l e R s m args below meth c H locs cells slots Q (F0 m pc lsJ stJ) := by
  obtain ⟨hx, hb, hml, hown, hts, hO, hR1, hR2⟩ := C
  simp only [em_step] at h
  cases hg : em_p 0 st with
  | none => rw [hg] at h; cases h
  | some q =>
    rw [hg, Option.bind_some] at h
    cases h
    rw [em_p_some hg] at hst
    obtain ⟨v, r, rfl, hv, hr⟩ := em_RS_cons hst
    obtain ⟨x, rfl, hz⟩ := em_RV_i hv
    have hc := em_c0_gt x
    rw [hz] at hc
    refine lv_if_gt hx hb hdg (em_tgt_eq ho) (fun q1 => ?_) (fun q1 => ?_)
    · have hs : em_sel [(em_cond .gt q.1, em_tgt pc off)] (pc + 3) = em_tgt pc off := by
        simp only [em_sel, em_cond, decide_eq_true (hc.mpr q1), cond_true]
      rw [hs] at K
      exact K _ _ _ _ hls hr hW
    · have hs : em_sel [(em_cond .gt q.1, em_tgt pc off)] (pc + 3) = pc + 3 := by
        simp only [em_sel, em_cond, decide_eq_false (fun q2 => q1 (hc.mp q2)), cond_false]
      rw [hs] at K
      exact K _ _ _ _ hls hr hW
theorem kw_if_le {off : Int} (C : ek_Cx p s m args c R mid d) (hdg : decode (ek_b mid) pc = .ok (.ifCond .le off, 3)) (ho : 0 ≤ (pc : Int) + off) (h : em_step 0 pc (.ifCond .le off) aux ls st M = some (.inl b)) (hne : em_sel b.1 b.2.1 ≠ 999999) (hls : em_LR ad sa bs lsJ (ek_mx mid) ls) (hst : em_RS ad sa bs stJ st) (hW : Φ H locs) (K : ∀ (H2 : Heap) (locs2 : List Loc) (lsJ2 : Array Slot) (stJ2 : List Value), em_LR ad sa bs lsJ2 (ek_mx mid) b.2.2.1 → em_RS ad sa bs stJ2 b.2.2.2.1 → Φ H2 locs2 → W p l e R s m args below meth c H2 locs2 cells slots Q (F0 m (em_sel b.1 b.2.1) lsJ2 stJ2)) : W p l e R s m args below meth c H locs cells slots Q (F0 m pc lsJ stJ) := by
  obtain ⟨hx, hb, hml, hown, hts, hO, hR1, hR2⟩ := C
  simp only [em_step] at h
  cases hg : em_p 0 st with
  | none => rw [hg] at h; cases h
  | some q =>
    rw [hg, Option.bind_some] at h
    cases h
    rw [em_p_some hg] at hst
    obtain ⟨v, r, rfl, hv, hr⟩ := em_RS_cons hst
    obtain ⟨x, rfl, hz⟩ := em_RV_i hv
    have hc := em_c0_le x
    rw [hz] at hc
    refine lv_if_le hx hb hdg (em_tgt_eq ho) (fun q1 => ?_) (fun q1 => ?_)
    · have hs : em_sel [(em_cond .le q.1, em_tgt pc off)] (pc + 3) = em_tgt pc off := by
        simp only [em_sel, em_cond, decide_eq_true (hc.mpr q1), cond_true]
      rw [hs] at K
      exact K _ _ _ _ hls hr hW
    · have hs : em_sel [(em_cond .le q.1, em_tgt pc off)] (pc + 3) = pc + 3 := by
        simp only [em_sel, em_cond, decide_eq_false (fun q2 => q1 (hc.mp q2)), cond_false]
      rw [hs] at K
      exact K _ _ _ _ hls hr hW
theorem kw_ic_eq {off : Int} (C : ek_Cx p s m args c R mid d) (hdg : decode (ek_b mid) pc = .ok (.if_icmp .eq off, 3)) (ho : 0 ≤ (pc : Int) + off) (h : em_step 0 pc (.if_icmp .eq off) aux ls st M = some (.inl b)) (hne : em_sel b.1 b.2.1 ≠ 999999) (hls : em_LR ad sa bs lsJ (ek_mx mid) ls) (hst : em_RS ad sa bs stJ st) (hW : Φ H locs) (K : ∀ (H2 : Heap) (locs2 : List Loc) (lsJ2 : Array Slot) (stJ2 : List Value), em_LR ad sa bs lsJ2 (ek_mx mid) b.2.2.1 → em_RS ad sa bs stJ2 b.2.2.2.1 → Φ H2 locs2 → W p l e R s m args below meth c H2 locs2 cells slots Q (F0 m (em_sel b.1 b.2.1) lsJ2 stJ2)) : W p l e R s m args below meth c H locs cells slots Q (F0 m pc lsJ stJ) := by
  obtain ⟨hx, hb, hml, hown, hts, hO, hR1, hR2⟩ := C
  simp only [em_step] at h
  obtain ⟨a1, b1, r1, rfl, h⟩ := em_p2_some h
  cases h
  obtain ⟨v2, t1, rfl, hv2, hr⟩ := em_RS_cons hst
  obtain ⟨v1, t2, rfl, hv1, hr2⟩ := em_RS_cons hr
  obtain ⟨y, rfl, rfl⟩ := em_RV_i hv2
  obtain ⟨x, rfl, rfl⟩ := em_RV_i hv1
  have hc := em_ci_eq x y
  refine lv_icmp_eq hx hb hdg (em_tgt_eq ho) (fun q1 => ?_) (fun q1 => ?_)
  · have hs : em_sel [(em_icmp .eq x.toInt y.toInt, em_tgt pc off)] (pc + 3) = em_tgt pc off := by
      simp only [em_sel, em_icmp, decide_eq_true (hc.mpr q1), cond_true]
    rw [hs] at K
    exact K _ _ _ _ hls hr2 hW
  · have hs : em_sel [(em_icmp .eq x.toInt y.toInt, em_tgt pc off)] (pc + 3) = pc + 3 := by
      simp only [em_sel, em_icmp, decide_eq_false (fun q2 => q1 (hc.mp q2)), cond_false]
    rw [hs] at K
    exact K _ _ _ _ hls hr2 hW
theorem kw_ic_ne {off : Int} (C : ek_Cx p s m args c R mid d) (hdg : decode (ek_b mid) pc = .ok (.if_icmp .ne off, 3)) (ho : 0 ≤ (pc : Int) + off) (h : em_step 0 pc (.if_icmp .ne off) aux ls st M = some (.inl b)) (hne : em_sel b.1 b.2.1 ≠ 999999) (hls : em_LR ad sa bs lsJ (ek_mx mid) ls) (hst : em_RS ad sa bs stJ st) (hW : Φ H locs) (K : ∀ (H2 : Heap) (locs2 : List Loc) (lsJ2 : Array Slot) (stJ2 : List Value), em_LR ad sa bs lsJ2 (ek_mx mid) b.2.2.1 → em_RS ad sa bs stJ2 b.2.2.2.1 → Φ H2 locs2 → W p l e R s m args below meth c H2 locs2 cells slots Q (F0 m (em_sel b.1 b.2.1) lsJ2 stJ2)) : W p l e R s m args below meth c H locs cells slots Q (F0 m pc lsJ stJ) := by
  obtain ⟨hx, hb, hml, hown, hts, hO, hR1, hR2⟩ := C
  simp only [em_step] at h
  obtain ⟨a1, b1, r1, rfl, h⟩ := em_p2_some h
  cases h
  obtain ⟨v2, t1, rfl, hv2, hr⟩ := em_RS_cons hst
  obtain ⟨v1, t2, rfl, hv1, hr2⟩ := em_RS_cons hr
  obtain ⟨y, rfl, rfl⟩ := em_RV_i hv2
  obtain ⟨x, rfl, rfl⟩ := em_RV_i hv1
  have hc := em_ci_ne x y
  refine lv_icmp_ne hx hb hdg (em_tgt_eq ho) (fun q1 => ?_) (fun q1 => ?_)
  · have hs : em_sel [(em_icmp .ne x.toInt y.toInt, em_tgt pc off)] (pc + 3) = em_tgt pc off := by
      simp only [em_sel, em_icmp, decide_eq_true (hc.mpr q1), cond_true]
    rw [hs] at K
    exact K _ _ _ _ hls hr2 hW
  · have hs : em_sel [(em_icmp .ne x.toInt y.toInt, em_tgt pc off)] (pc + 3) = pc + 3 := by
      simp only [em_sel, em_icmp, decide_eq_false (fun q2 => (hc.mp q2) q1), cond_false]
    rw [hs] at K
    exact K _ _ _ _ hls hr2 hW
theorem kw_ic_lt {off : Int} (C : ek_Cx p s m args c R mid d) (hdg : decode (ek_b mid) pc = .ok (.if_icmp .lt off, 3)) (ho : 0 ≤ (pc : Int) + off) (h : em_step 0 pc (.if_icmp .lt off) aux ls st M = some (.inl b)) (hne : em_sel b.1 b.2.1 ≠ 999999) (hls : em_LR ad sa bs lsJ (ek_mx mid) ls) (hst : em_RS ad sa bs stJ st) (hW : Φ H locs) (K : ∀ (H2 : Heap) (locs2 : List Loc) (lsJ2 : Array Slot) (stJ2 : List Value), em_LR ad sa bs lsJ2 (ek_mx mid) b.2.2.1 → em_RS ad sa bs stJ2 b.2.2.2.1 → Φ H2 locs2 → W p l e R s m args below meth c H2 locs2 cells slots Q (F0 m (em_sel b.1 b.2.1) lsJ2 stJ2)) : W p l e R s m args below meth c H locs cells slots Q (F0 m pc lsJ stJ) := by
  obtain ⟨hx, hb, hml, hown, hts, hO, hR1, hR2⟩ := C
  simp only [em_step] at h
  obtain ⟨a1, b1, r1, rfl, h⟩ := em_p2_some h
  cases h
  obtain ⟨v2, t1, rfl, hv2, hr⟩ := em_RS_cons hst
  obtain ⟨v1, t2, rfl, hv1, hr2⟩ := em_RS_cons hr
  obtain ⟨y, rfl, rfl⟩ := em_RV_i hv2
  obtain ⟨x, rfl, rfl⟩ := em_RV_i hv1
  have hc := em_ci_lt x y
  refine lv_icmp_lt hx hb hdg (em_tgt_eq ho) (fun q1 => ?_) (fun q1 => ?_)
  · have hs : em_sel [(em_icmp .lt x.toInt y.toInt, em_tgt pc off)] (pc + 3) = em_tgt pc off := by
      simp only [em_sel, em_icmp, decide_eq_true (hc.mpr q1), cond_true]
    rw [hs] at K
    exact K _ _ _ _ hls hr2 hW
  · have hs : em_sel [(em_icmp .lt x.toInt y.toInt, em_tgt pc off)] (pc + 3) = pc + 3 := by
      simp only [em_sel, em_icmp, decide_eq_false (fun q2 => q1 (hc.mp q2)), cond_false]
    rw [hs] at K
    exact K _ _ _ _ hls hr2 hW
theorem kw_ic_ge {off : Int} (C : ek_Cx p s m args c R mid d) (hdg : decode (ek_b mid) pc = .ok (.if_icmp .ge off, 3)) (ho : 0 ≤ (pc : Int) + off) (h : em_step 0 pc (.if_icmp .ge off) aux ls st M = some (.inl b)) (hne : em_sel b.1 b.2.1 ≠ 999999) (hls : em_LR ad sa bs lsJ (ek_mx mid) ls) (hst : em_RS ad sa bs stJ st) (hW : Φ H locs) (K : ∀ (H2 : Heap) (locs2 : List Loc) (lsJ2 : Array Slot) (stJ2 : List Value), em_LR ad sa bs lsJ2 (ek_mx mid) b.2.2.1 → em_RS ad sa bs stJ2 b.2.2.2.1 → Φ H2 locs2 → W p l e R s m args below meth c H2 locs2 cells slots Q (F0 m (em_sel b.1 b.2.1) lsJ2 stJ2)) : W p l e R s m args below meth c H locs cells slots Q (F0 m pc lsJ stJ) := by
  obtain ⟨hx, hb, hml, hown, hts, hO, hR1, hR2⟩ := C
  simp only [em_step] at h
  obtain ⟨a1, b1, r1, rfl, h⟩ := em_p2_some h
  cases h
  obtain ⟨v2, t1, rfl, hv2, hr⟩ := em_RS_cons hst
  obtain ⟨v1, t2, rfl, hv1, hr2⟩ := em_RS_cons hr
  obtain ⟨y, rfl, rfl⟩ := em_RV_i hv2
  obtain ⟨x, rfl, rfl⟩ := em_RV_i hv1
  have hc := em_ci_ge x y
  refine lv_icmp_ge hx hb hdg (em_tgt_eq ho) (fun q1 => ?_) (fun q1 => ?_)
  · have hs : em_sel [(em_icmp .ge x.toInt y.toInt, em_tgt pc off)] (pc + 3) = em_tgt pc off := by
      simp only [em_sel, em_icmp, decide_eq_true (hc.mpr q1), cond_true]
    rw [hs] at K
    exact K _ _ _ _ hls hr2 hW
  · have hs : em_sel [(em_icmp .ge x.toInt y.toInt, em_tgt pc off)] (pc + 3) = pc + 3 := by
      simp only [em_sel, em_icmp, decide_eq_false (fun q2 => q1 (hc.mp q2)), cond_false]
    rw [hs] at K
    exact K _ _ _ _ hls hr2 hW
theorem kw_ic_gt {off : Int} (C : ek_Cx p s m args c R mid d) (hdg : decode (ek_b mid) pc = .ok (.if_icmp .gt off, 3)) (ho : 0 ≤ (pc : Int) + off) (h : em_step 0 pc (.if_icmp .gt off) aux ls st M = some (.inl b)) (hne : em_sel b.1 b.2.1 ≠ 999999) (hls : em_LR ad sa bs lsJ (ek_mx mid) ls) (hst : em_RS ad sa bs stJ st) (hW : Φ H locs) (K : ∀ (H2 : Heap) (locs2 : List Loc) (lsJ2 : Array Slot) (stJ2 : List Value), em_LR ad sa bs lsJ2 (ek_mx mid) b.2.2.1 → em_RS ad sa bs stJ2 b.2.2.2.1 → Φ H2 locs2 → W p l e R s m args below meth c H2 locs2 cells slots Q (F0 m (em_sel b.1 b.2.1) lsJ2 stJ2)) : W p l e R s m args below meth c H locs cells slots Q (F0 m pc lsJ stJ) := by
  obtain ⟨hx, hb, hml, hown, hts, hO, hR1, hR2⟩ := C
  simp only [em_step] at h
  obtain ⟨a1, b1, r1, rfl, h⟩ := em_p2_some h
  cases h
  obtain ⟨v2, t1, rfl, hv2, hr⟩ := em_RS_cons hst
  obtain ⟨v1, t2, rfl, hv1, hr2⟩ := em_RS_cons hr
  obtain ⟨y, rfl, rfl⟩ := em_RV_i hv2
  obtain ⟨x, rfl, rfl⟩ := em_RV_i hv1
  have hc := em_ci_gt x y
  refine lv_icmp_gt hx hb hdg (em_tgt_eq ho) (fun q1 => ?_) (fun q1 => ?_)
  · have hs : em_sel [(em_icmp .gt x.toInt y.toInt, em_tgt pc off)] (pc + 3) = em_tgt pc off := by
      simp only [em_sel, em_icmp, decide_eq_true (hc.mpr q1), cond_true]
    rw [hs] at K
    exact K _ _ _ _ hls hr2 hW
  · have hs : em_sel [(em_icmp .gt x.toInt y.toInt, em_tgt pc off)] (pc + 3) = pc + 3 := by
      simp only [em_sel, em_icmp, decide_eq_false (fun q2 => q1 (hc.mp q2)), cond_false]
    rw [hs] at K
    exact K _ _ _ _ hls hr2 hW
theorem kw_ic_le {off : Int} (C : ek_Cx p s m args c R mid d) (hdg : decode (ek_b mid) pc = .ok (.if_icmp .le off, 3)) (ho : 0 ≤ (pc : Int) + off) (h : em_step 0 pc (.if_icmp .le off) aux ls st M = some (.inl b)) (hne : em_sel b.1 b.2.1 ≠ 999999) (hls : em_LR ad sa bs lsJ (ek_mx mid) ls) (hst : em_RS ad sa bs stJ st) (hW : Φ H locs) (K : ∀ (H2 : Heap) (locs2 : List Loc) (lsJ2 : Array Slot) (stJ2 : List Value), em_LR ad sa bs lsJ2 (ek_mx mid) b.2.2.1 → em_RS ad sa bs stJ2 b.2.2.2.1 → Φ H2 locs2 → W p l e R s m args below meth c H2 locs2 cells slots Q (F0 m (em_sel b.1 b.2.1) lsJ2 stJ2)) : W p l e R s m args below meth c H locs cells slots Q (F0 m pc lsJ stJ) := by
  obtain ⟨hx, hb, hml, hown, hts, hO, hR1, hR2⟩ := C
  simp only [em_step] at h
  obtain ⟨a1, b1, r1, rfl, h⟩ := em_p2_some h
  cases h
  obtain ⟨v2, t1, rfl, hv2, hr⟩ := em_RS_cons hst
  obtain ⟨v1, t2, rfl, hv1, hr2⟩ := em_RS_cons hr
  obtain ⟨y, rfl, rfl⟩ := em_RV_i hv2
  obtain ⟨x, rfl, rfl⟩ := em_RV_i hv1
  have hc := em_ci_le x y
  refine lv_icmp_le hx hb hdg (em_tgt_eq ho) (fun q1 => ?_) (fun q1 => ?_)
  · have hs : em_sel [(em_icmp .le x.toInt y.toInt, em_tgt pc off)] (pc + 3) = em_tgt pc off := by
      simp only [em_sel, em_icmp, decide_eq_true (hc.mpr q1), cond_true]
    rw [hs] at K
    exact K _ _ _ _ hls hr2 hW
  · have hs : em_sel [(em_icmp .le x.toInt y.toInt, em_tgt pc off)] (pc + 3) = pc + 3 := by
      simp only [em_sel, em_icmp, decide_eq_false (fun q2 => q1 (hc.mp q2)), cond_false]
    rw [hs] at K
    exact K _ _ _ _ hls hr2 hW
theorem kw_goto {off : Int} (C : ek_Cx p s m args c R mid d) (hdg : decode (ek_b mid) pc = .ok (.goto off, 3)) (ho : 0 ≤ (pc : Int) + off) (h : em_step 0 pc (.goto off) aux ls st M = some (.inl b)) (hne : em_sel b.1 b.2.1 ≠ 999999) (hls : em_LR ad sa bs lsJ (ek_mx mid) ls) (hst : em_RS ad sa bs stJ st) (hW : Φ H locs) (K : ∀ (H2 : Heap) (locs2 : List Loc) (lsJ2 : Array Slot) (stJ2 : List Value), em_LR ad sa bs lsJ2 (ek_mx mid) b.2.2.1 → em_RS ad sa bs stJ2 b.2.2.2.1 → Φ H2 locs2 → W p l e R s m args below meth c H2 locs2 cells slots Q (F0 m (em_sel b.1 b.2.1) lsJ2 stJ2)) : W p l e R s m args below meth c H locs cells slots Q (F0 m pc lsJ stJ) := by
  obtain ⟨hx, hb, hml, hown, hts, hO, hR1, hR2⟩ := C
  cases h
  exact lv_goto hx hb hdg (em_tgt_eq ho) (K _ _ _ _ hls hst hW)
/-- any step that touches no cell -/
theorem ek_sim {ins : Instr} {len : Nat} {hh : List Nat} (hp : ek_pure ins = true) (C : ek_Cx p s m args c R mid d) (hdg : decode (ek_b mid) pc = .ok (ins, ek_ilen ins len)) (hok : ek_okw (ek_y mid).cls (ek_mx mid) pc ins aux hh = true) (h : em_step 0 pc ins aux ls st M = some (.inl b)) (hne : em_sel b.1 b.2.1 ≠ 999999) (hls : em_LR ad sa bs lsJ (ek_mx mid) ls) (hst : em_RS ad sa bs stJ st) (hW : Φ H locs) (K : ∀ (H2 : Heap) (locs2 : List Loc) (lsJ2 : Array Slot) (stJ2 : List Value), em_LR ad sa bs lsJ2 (ek_mx mid) b.2.2.1 → em_RS ad sa bs stJ2 b.2.2.2.1 → Φ H2 locs2 → W p l e R s m args below meth c H2 locs2 cells slots Q (F0 m (em_sel b.1 b.2.1) lsJ2 stJ2)) : W p l e R s m args below meth c H locs cells slots Q (F0 m pc lsJ stJ) := by
  cases ins with
  | lconst n => exact kw_lconst C hdg h hne hls hst hW K
  | iload i => exact kw_iload C hdg h hne hls hst hW K
  | iload_n i => exact kw_iload_n C hdg h hne hls hst hW K
  | lload_n i => exact kw_lload_n C hdg h hne hls hst hW K
  | aload i => exact kw_aload C hdg h hne hls hst hW K
  | aload_n i => exact kw_aload_n C hdg h hne hls hst hW K
  | dup => exact kw_dup C hdg h hne hls hst hW K
  | iadd => exact kw_iadd C hdg h hne hls hst hW K
  | isub => exact kw_isub C hdg h hne hls hst hW K
  | ladd => exact kw_ladd C hdg h hne hls hst hW K
  | lmul => exact kw_lmul C hdg h hne hls hst hW K
  | i2l => exact kw_i2l C hdg h hne hls hst hW K
  | iconst n => exact kw_iconst C hdg (of_decide_eq_true hok) h hne hls hst hW K
  | bipush n => exact kw_bipush C hdg (of_decide_eq_true hok) h hne hls hst hW K
  | sipush n => exact kw_sipush C hdg (of_decide_eq_true hok) h hne hls hst hW K
  | istore i => exact kw_istore C hdg (Nat.le_of_ble_eq_true hok) h hne hls hst hW K
  | astore i => exact kw_astore C hdg (Nat.le_of_ble_eq_true hok) h hne hls hst hW K
  | astore_n i => exact kw_astore_n C hdg (Nat.le_of_ble_eq_true hok) h hne hls hst hW K
  | iinc i n => exact kw_iinc C hdg (Nat.le_of_ble_eq_true hok) h hne hls hst hW K
  | goto off => exact kw_goto C hdg (of_decide_eq_true hok) h hne hls hst hW K
  | ifCond cnd off =>
    have ho := of_decide_eq_true hok
    cases cnd with
    | eq => exact kw_if_eq C hdg ho h hne hls hst hW K
    | ne => exact kw_if_ne C hdg ho h hne hls hst hW K
    | lt => exact kw_if_lt C hdg ho h hne hls hst hW K
    | ge => exact kw_if_ge C hdg ho h hne hls hst hW K
    | gt => exact kw_if_gt C hdg ho h hne hls hst hW K
    | le => exact kw_if_le C hdg ho h hne hls hst hW K
  | if_icmp cnd off =>
    have ho := of_decide_eq_true hok
    cases cnd with
    | eq => exact kw_ic_eq C hdg ho h hne hls hst hW K
    | ne => exact kw_ic_ne C hdg ho h hne hls hst hW K
    | lt => exact kw_ic_lt C hdg ho h hne hls hst hW K
    | ge => exact kw_ic_ge C hdg ho h hne hls hst hW K
    | gt => exact kw_ic_gt C hdg ho h hne hls hst hW K
    | le => exact kw_ic_le C hdg ho h hne hls hst hW K
  | ldc2_w i =>
    simp only [ek_okw, em_okw] at hok
    split at hok
    · rw [Bool.and_eq_true] at hok
      exact kw_ldc2 C hdg rfl (em_wd_mem hok.1) (of_decide_eq_true hok.2) h hne hls hst hW K
    · cases hok
  | _ => cases hp
end SIM
