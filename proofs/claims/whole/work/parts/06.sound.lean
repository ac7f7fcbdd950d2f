/-! SOUNDNESS: what the small machine comes to, the Statement's machine comes to. Written by wip/gen/sound.py. -/
/-- a value and its number: ad, the addresses of the cells; sa, those of the texts; bs, the script's -/
def em_RV (ad sa : Nat → Nat) (bs : Nat) (v : Value) (q : em_V) : Prop := match v with
  | .int x => q = (0, x.toInt)
  | .long x => q = (1, x.toInt)
  | .ref a => (q.1 = 2 ∧ ∃ k : Nat, q.2 = (k : Int) ∧ a = ad k) ∨ (q.1 = 4 ∧ ∃ k : Nat, k < 32 ∧ q.2 = (k : Int) ∧ a = sa k) ∨ (q.1 = 5 ∧ a = bs) ∨ q.1 = 6
  | .null => q.1 = 6
  | _ => False
def em_RS (ad sa : Nat → Nat) (bs : Nat) : List Value → List em_V → Prop
  | [], [] => True
  | v :: vs, q :: qs => em_RV ad sa bs v q ∧ em_RS ad sa bs vs qs
  | _, _ => False
def em_RL (ad sa : Nat → Nat) (bs : Nat) : List (Nat × Value) → em_L → Prop
  | [], [] => True
  | v :: vs, q :: qs => (v.1 = q.1 ∧ em_RV ad sa bs v.2 q.2) ∧ em_RL ad sa bs vs qs
  | _, _ => False
def em_LR (ad sa : Nat → Nat) (bs : Nat) (lsJ : Array Slot) (nL : Nat) (ls : em_L) : Prop := ∃ l, lv_has lsJ nL l ∧ em_RL ad sa bs l ls
/-- a field's value: a fixed cell, or what the memory holds -/
def em_fv (ad : Nat → Nat) (ft : Int × Int × Int) (k : Nat) (v : Value) (m : Int) : Prop :=
  (ft.2.1 = 1 → ∃ n : Nat, (n : Int) = (k : Int) + ft.2.2 ∧ v = .ref (ad n)) ∧ (ft.2.1 = 0 → (ft.1 = 0 → ∃ x : Int32, v = .int x ∧ x.toInt = m) ∧ (ft.1 = 1 → ∃ x : Int64, v = .long x ∧ x.toInt = m) ∧ (ft.1 = 2 → ∃ n : Nat, (n : Int) = m ∧ v = .ref (ad n)))
def em_ints (tys : List (ClassId × FieldType)) (M : em_M) (k : Nat) (e : va_E) (ty : FieldType) : Prop := ∃ (cA : ClassId) (f : Nat → Int32), e = .inl (cA, em_lnn k, .inl f) ∧ (∃ t0 : Nat, tys[t0]? = some (cA, ty)) ∧ ∀ j, j < em_lnn k → (f j).toInt = M (k : Int) (j : Int)
def em_longs (tys : List (ClassId × FieldType)) (M : em_M) (k : Nat) (e : va_E) : Prop := ∃ (cA : ClassId) (f : Nat → Int64), e = .inl (cA, em_lnn k, .inr (.inl f)) ∧ (∃ t0 : Nat, tys[t0]? = some (cA, .long)) ∧ ∀ j, j < em_lnn k → (f j).toInt = M (k : Int) (j : Int)
def em_refs (ad : Nat → Nat) (tys : List (ClassId × FieldType)) (k : Nat) (e : va_E) (ty : FieldType) (w : Nat) : Prop := ∃ (cA : ClassId) (f : Nat → Option Nat), e = .inl (cA, em_lnn k, .inr (.inr (.inr (.inr f)))) ∧ (∃ t0 : Nat, tys[t0]? = some (cA, ty)) ∧ ∀ j, j < em_lnn k → f j = some (ad (k + 1 + j * w))
def em_obj (ad : Nat → Nat) (M : em_M) (k : Nat) (e : va_E) : Prop := ∃ fs : List Value, e = .inr (em_kdn k, fs) ∧ fs.length = (em_cls (em_kdn k)).2.2 ∧ ∀ j, j < (em_cls (em_kdn k)).2.2 → ∃ v, fs[j]? = some v ∧ em_fv ad (em_ft (em_kdn k) j) k v (M (k : Int) (j : Int))
def em_cell (ad : Nat → Nat) (tys : List (ClassId × FieldType)) (M : em_M) (k : Nat) (e : va_E) : Prop :=
  (em_kdn k < 12 → em_obj ad M k e) ∧ (em_kdn k = 100 → em_ints tys M k e .int) ∧ (em_kdn k = 101 → em_longs tys M k e) ∧ (em_kdn k = 102 → em_ints tys M k e .byte) ∧ (em_kdn k = 103 → em_ints tys M k e .boolean) ∧
  (em_kdn k = 110 → em_refs ad tys k e (.array .int) 1) ∧ (em_kdn k = 111 → em_refs ad tys k e (.array .long) 1) ∧ (em_kdn k = 112 → em_refs ad tys k e (.object "EstateOffice$Estate") 6)
def em_cellsOk (ad : Nat → Nat) (ws : va_W) (tys : List (ClassId × FieldType)) (M : em_M) : Prop := ∀ k : Nat, k < 520 → ∃ e, ws[k]? = some (ad k, e) ∧ em_cell ad tys M k e
def em_scr (L : Nat) (xs : Nat → Int32) (M : em_M) : Prop := (∀ j : Nat, j < L → (xs j).toInt = M (-1) (j : Int)) ∧ M (-2) 0 = (L : Int)
def em_A (n0 : Nat) : Nat → Prop := fun q => n0 ≤ q
/-- what lies outside: the script, the texts -/
def em_Out (sa : Nat → Nat) (bs n0 L : Nat) (xs : Nat → Int32) (U : State) : Prop := bs < n0 ∧ va_X bs L xs U U.heap ∧ L ≤ 3072 ∧ n0 ≤ U.heap.size ∧ (∀ k : Nat, k < 16 → vk_R "EstateOffice$Text" (em_nth em_sxs k 0) (em_nth em_txs k "") (sa k) U) ∧ (∀ q ∈ em_nests, va_Nw (.methodLinkNest q.1 q.2 em_holds "EstateOffice") U) ∧ vk_S 16 (em_strs.map List.length) (em_strs.map (List.map Int32.ofInt)) sa (fun k => sa (k + 16)) (em_A n0) U U.heap ∧ va_Z "java/lang/String" "COMPACT_STRINGS" "Z" (.int 1) (em_A n0) U U.heap ∧ va_Zq "jdk/internal/util/Preconditions" "SIOOBE_FORMATTER" "Ljava/util/function/BiFunction;" (em_A n0) U U.heap
def em_Wd (ad sa : Nat → Nat) (bs n0 L : Nat) (xs : Nat → Int32) (D : va_G) (U : State) (M : em_M) : Prop := ∃ ws tys, va_P D em_classes ws U.heap ∧ va_D (em_A n0) ws ∧ va_K D em_classes tys U ∧ em_cellsOk ad ws tys M ∧ em_scr L xs M ∧ em_Out sa bs n0 L xs U
/-- the same within a walk -/
def em_WH (ad : Nat → Nat) (n0 L : Nat) (xs : Nat → Int32) (D : va_G) (s : State) (H : Heap) (locs : List Loc) (M : em_M) : Prop := ∃ ws tys, va_P D em_classes ws H ∧ va_D (em_A n0) ws ∧ va_K D em_classes tys s ∧ va_S (em_A n0) s.heap H locs ∧ em_cellsOk ad ws tys M ∧ em_scr L xs M
noncomputable def em_ws (mid : Nat) : List Jvm.Cond := Jvm.Cond.code (em_y mid) (em_b mid) (em_mx mid) (em_rt mid) :: em_tbl
def em_rm (d : Nat) : Room := { frames := d + 8, cells := 0, slots := 0, locals := 64 * d + 600 }
def em_Pc (ad sa : Nat → Nat) (bs n0 L : Nat) (xs : Nat → Int32) (D : va_G) (as : List em_V) (M : em_M) : Array Value → State → Prop := fun v U => ∃ vs : List Value, v = vs.toArray ∧ em_RS ad sa bs vs as ∧ em_Wd ad sa bs n0 L xs D U M
def em_Qc (ad sa : Nat → Nat) (bs n0 L : Nat) (xs : Nat → Int32) (D : va_G) (mid : Nat) (r : Int) (M : em_M) : Array Value → State → Outcome → State → Prop := match em_rk mid with
  | 0 => va_Qi (fun (x : Int32) (_ : Unit) => x.toInt = r) (fun _ t => em_Wd ad sa bs n0 L xs D t M) (em_A n0)
  | 5 => va_Qi (fun (x : Int32) (_ : Unit) => x.toInt = r) (fun _ t => em_Wd ad sa bs n0 L xs D t M) (em_A n0)
  | 6 => va_Qi (fun (x : Int32) (_ : Unit) => x.toInt = r) (fun _ t => em_Wd ad sa bs n0 L xs D t M) (em_A n0)
  | 7 => va_Qi (fun (x : Int32) (_ : Unit) => x.toInt = r) (fun _ t => em_Wd ad sa bs n0 L xs D t M) (em_A n0)
  | 1 => va_Ql (fun (x : Int64) (_ : Unit) => x.toInt = r) (fun _ t => em_Wd ad sa bs n0 L xs D t M) (em_A n0)
  | 2 => va_Qr (fun (_ : Unit) => True) (fun _ a t => (∃ k : Nat, r = (k : Int) ∧ a = ad k) ∧ em_Wd ad sa bs n0 L xs D t M) (em_A n0)
  | 4 => va_Qr (fun (_ : Unit) => True) (fun _ a t => (∃ k : Nat, k < 32 ∧ r = (k : Int) ∧ a = sa k) ∧ em_Wd ad sa bs n0 L xs D t M) (em_A n0)
  | _ => va_Qv (fun (_ : Unit) => True) (fun _ t => em_Wd ad sa bs n0 L xs D t M) (em_A n0)
/-- what is fixed in a walk -/
def em_Cx (sa : Nat → Nat) (bs n0 L : Nat) (xs : Nat → Int32) (p : Program) (s : State) (m : MethodId) (args : Array Value) (c : Code) (R : Room) (mid d : Nat) : Prop :=
  p.tables.exec = Jvm.exec ∧ c.code = em_b mid ∧ c.maxLocals = em_mx mid ∧ s.vm.findClass (em_y mid).cls = some m.cls ∧ (∀ w ∈ em_tbl, w.before args s = true) ∧ em_Out sa bs n0 L xs s ∧ d + 8 ≤ R.frames ∧ 64 * d + 600 ≤ R.locals
-- plain facts
theorem em_p_some {t : Nat} {st : List em_V} {q : Int × List em_V} (h : em_p t st = some q) : st = (t, q.1) :: q.2 := by
  cases st with
  | nil => cases h
  | cons a r =>
    rw [em_p] at h
    cases hb : Nat.beq a.1 t with
    | false => rw [hb] at h; cases h
    | true =>
      rw [hb] at h
      have e : a.1 = t := Nat.eq_of_beq_eq_true hb
      cases h
      rw [← e]
theorem em_p2_some {t u : Nat} {st : List em_V} {f : Int → Int → List em_V → Option em_R} {z : em_R} (h : em_p2 t u st f = some z) : ∃ a b r, st = (u, b) :: (t, a) :: r ∧ f a b r = some z := by
  unfold em_p2 at h
  cases h1 : em_p u st with
  | none => rw [h1] at h; cases h
  | some q =>
    rw [h1, Option.bind_some] at h
    cases h2 : em_p t q.2 with
    | none => rw [h2] at h; cases h
    | some w =>
      rw [h2, Option.bind_some] at h
      refine ⟨w.1, q.1, w.2, ?_, h⟩
      rw [em_p_some h1, em_p_some h2]
section REL
variable {ad sa : Nat → Nat} {bs : Nat}
theorem em_RS_cons {vs : List Value} {q : em_V} {qs : List em_V} (h : em_RS ad sa bs vs (q :: qs)) : ∃ v r, vs = v :: r ∧ em_RV ad sa bs v q ∧ em_RS ad sa bs r qs := by
  cases vs with
  | nil => exact h.elim
  | cons v r => exact ⟨v, r, rfl, h.1, h.2⟩
theorem em_RS_nil {vs : List Value} (h : em_RS ad sa bs vs []) : vs = [] := by
  cases vs with
  | nil => rfl
  | cons v r => exact h.elim
theorem em_RV_i {v : Value} {x : Int} (h : em_RV ad sa bs v (0, x)) : ∃ y : Int32, v = .int y ∧ y.toInt = x := by
  cases v <;> simp [em_RV] at h
  exact ⟨_, rfl, h.symm⟩
theorem em_RV_l {v : Value} {x : Int} (h : em_RV ad sa bs v (1, x)) : ∃ y : Int64, v = .long y ∧ y.toInt = x := by
  cases v <;> simp [em_RV] at h
  exact ⟨_, rfl, h.symm⟩
theorem em_RV_r {v : Value} {x : Int} (h : em_RV ad sa bs v (2, x)) : ∃ k : Nat, v = .ref (ad k) ∧ x = (k : Int) := by
  cases v <;> simp [em_RV] at h
  obtain ⟨k, h1, h2⟩ := h
  exact ⟨k, by rw [h2], h1⟩
theorem em_RV_s {v : Value} {x : Int} (h : em_RV ad sa bs v (4, x)) : ∃ k : Nat, k < 32 ∧ v = .ref (sa k) ∧ x = (k : Int) := by
  cases v <;> simp [em_RV] at h
  obtain ⟨k, h0, h1, h2⟩ := h
  exact ⟨k, h0, by rw [h2], h1⟩
theorem em_RV_x {v : Value} {x : Int} (h : em_RV ad sa bs v (5, x)) : v = .ref bs := by
  cases v <;> simp [em_RV] at h
  rw [h]
theorem em_RV_any {v : Value} {q : em_V} (h : em_RV ad sa bs v q) (ht : em_isref q.1 = true) : ∃ a, v = .ref a := by
  cases v with
  | int x => simp only [em_RV] at h; rw [h] at ht; cases ht
  | long x => simp only [em_RV] at h; rw [h] at ht; cases ht
  | ref a => exact ⟨a, rfl⟩
  | null => simp only [em_RV] at h; rw [h] at ht; cases ht
  | _ => exact h.elim
theorem em_RV_cat {v : Value} {q : em_V} (h : em_RV ad sa bs v q) : v.category = bif Nat.beq q.1 1 then 2 else 1 := by
  cases v with
  | int x => simp only [em_RV] at h; rw [h]; rfl
  | long x => simp only [em_RV] at h; rw [h]; rfl
  | ref a =>
    rcases h with ⟨h, -⟩ | ⟨h, -⟩ | ⟨h, -⟩ | h <;> (rw [h]; rfl)
  | null => simp only [em_RV] at h; rw [h]; rfl
  | _ => exact h.elim
theorem em_RS_cat : ∀ {vs : List Value} {qs : List em_V}, em_RS ad sa bs vs qs → (vs.map fun v => v.category).sum = em_cat qs
  | [], [], _ => rfl
  | v :: vs, q :: qs, h => by
    rw [List.map_cons, List.sum_cons, em_cat, em_RV_cat h.1, em_RS_cat h.2]
  | [], _ :: _, h => h.elim
  | _ :: _, [], h => h.elim
theorem em_RL_get : ∀ {l : List (Nat × Value)} {la : em_L} {i : Nat} {q : em_V}, em_RL ad sa bs l la → em_get la i = some q → ∃ v, (i, v) ∈ l ∧ em_RV ad sa bs v q
  | [], [], _, _, _, h => by cases h
  | v :: vs, a :: as, i, q, h, hg => by
    rw [em_get] at hg
    cases hb : Nat.beq a.1 i with
    | true =>
      rw [hb] at hg
      have e : a.1 = i := Nat.eq_of_beq_eq_true hb
      cases hg
      exact ⟨v.2, by rw [← e, ← h.1.1]; exact List.mem_cons_self, h.1.2⟩
    | false =>
      rw [hb] at hg
      obtain ⟨w, h1, h2⟩ := em_RL_get h.2 hg
      exact ⟨w, List.mem_cons_of_mem _ h1, h2⟩
  | [], _ :: _, _, _, h, _ => h.elim
  | _ :: _, [], _, _, h, _ => h.elim
theorem em_RL_filter {f : Nat × Value → Bool} {g : Nat × em_V → Bool} : ∀ {l : List (Nat × Value)} {la : em_L}, (∀ (v : Nat × Value) (q : Nat × em_V), v.1 = q.1 → em_RV ad sa bs v.2 q.2 → f v = g q) → em_RL ad sa bs l la → em_RL ad sa bs (l.filter f) (la.filter g)
  | [], [], _, _ => trivial
  | v :: vs, q :: qs, hf, h => by
    have e := hf v q h.1.1 h.1.2
    rw [List.filter_cons, List.filter_cons, e]
    cases g q with
    | true => exact ⟨h.1, em_RL_filter hf h.2⟩
    | false => exact em_RL_filter hf h.2
  | [], _ :: _, _, h => h.elim
  | _ :: _, [], _, h => h.elim
theorem em_beqn (a b : Nat) : (a == b) = Nat.beq a b := by
  cases h : Nat.beq a b with
  | true => rw [Nat.eq_of_beq_eq_true h]; simp
  | false =>
    have : ¬ a = b := fun q => by rw [q, Nat.beq_refl] at h; cases h
    simp [this]
theorem em_catb {v : Value} {q : em_V} (h : em_RV ad sa bs v q) : (v.category == 2) = Nat.beq q.1 1 := by
  rw [em_RV_cat h]
  cases Nat.beq q.1 1 <;> rfl
theorem em_LR_get {lsJ : Array Slot} {nL i : Nat} {ls : em_L} {q : em_V} (h : em_LR ad sa bs lsJ nL ls) (hg : em_get ls i = some q) : ∃ v, lsJ[i]? = some (.val v) ∧ em_RV ad sa bs v q := by
  obtain ⟨l, h1, h2⟩ := h
  obtain ⟨v, h3, h4⟩ := em_RL_get h2 hg
  exact ⟨v, h1.2.2 _ h3, h4⟩
theorem em_RL_set1 {l : List (Nat × Value)} {ls : em_L} {i : Nat} {v : Value} {q : em_V} (h : em_RL ad sa bs l ls) (hv : em_RV ad sa bs v q) : em_RL ad sa bs ((i, v) :: l.filter (fun q => !(q.1 == i) && !(q.1 + 1 == i && q.2.category == 2))) (em_set1 ls i q) := by
  refine ⟨⟨rfl, hv⟩, em_RL_filter (fun w x h1 h2 => ?_) h⟩
  rw [em_catb h2, em_beqn, em_beqn, h1]
theorem em_RL_set2 {l : List (Nat × Value)} {ls : em_L} {i : Nat} {v : Value} {q : em_V} (h : em_RL ad sa bs l ls) (hv : em_RV ad sa bs v q) : em_RL ad sa bs ((i, v) :: l.filter (fun q => !(q.1 == i) && (!(q.1 == i + 1) && !(q.1 + 1 == i && q.2.category == 2)))) (em_set2 ls i q) := by
  refine ⟨⟨rfl, hv⟩, em_RL_filter (fun w x h1 h2 => ?_) h⟩
  rw [em_catb h2, em_beqn, em_beqn, em_beqn, h1]
theorem em_LR_pick {lsJ : Array Slot} {nL : Nat} {ls : em_L} (h : em_LR ad sa bs lsJ nL ls) : ∀ K : List Nat, em_LR ad sa bs lsJ nL (em_pick ls K)
  | [] => by
    obtain ⟨l, h1, -⟩ := h
    exact ⟨[], ⟨h1.1, h1.2.1, fun q hq => by cases hq⟩, trivial⟩
  | a :: K => by
    obtain ⟨l, h1, h2⟩ := em_LR_pick h K
    cases hg : em_get ls a with
    | none =>
      have e : em_pick ls (a :: K) = em_pick ls K := by unfold em_pick; rw [List.filterMap_cons, hg]; rfl
      rw [e]
      exact ⟨l, h1, h2⟩
    | some q =>
      have e : em_pick ls (a :: K) = (a, q) :: em_pick ls K := by unfold em_pick; rw [List.filterMap_cons, hg]; rfl
      rw [e]
      obtain ⟨v, h3, h4⟩ := em_LR_get h hg
      exact ⟨(a, v) :: l, ⟨h1.1, h1.2.1, fun w hw => by
        rcases List.mem_cons.mp hw with rfl | hw
        · exact h3
        · exact h1.2.2 w hw⟩, ⟨rfl, h4⟩, h2⟩
theorem em_LR_nrm {lsJ : Array Slot} {nL : Nat} {ls : em_L} (h : em_LR ad sa bs lsJ nL ls) (x : Option (List Nat)) : em_LR ad sa bs lsJ nL (em_nrm x ls) := by
  cases x with
  | none => exact h
  | some K => exact em_LR_pick h K
theorem em_RL_args : ∀ {vs : List Value} {as : List em_V} (i : Nat), em_RS ad sa bs vs as → em_RL ad sa bs (lv_args i vs) (em_args i as)
  | [], [], _, _ => trivial
  | v :: vs, q :: qs, i, h => by
    refine ⟨⟨rfl, h.1⟩, ?_⟩
    have e : (if v.category = 2 then i + 2 else i + 1) = i + (bif Nat.beq q.1 1 then 2 else 1) := by
      rw [em_RV_cat h.1]
      cases Nat.beq q.1 1 <;> rfl
    rw [e]
    exact em_RL_args _ h.2
  | [], _ :: _, _, h => h.elim
  | _ :: _, [], _, h => h.elim
theorem em_RS_app : ∀ {v1 v2 : List Value} {q1 q2 : List em_V}, em_RS ad sa bs v1 q1 → em_RS ad sa bs v2 q2 → em_RS ad sa bs (v1 ++ v2) (q1 ++ q2)
  | [], _, [], _, _, h => h
  | v :: vs, _, q :: qs, _, h, h2 => ⟨h.1, em_RS_app h.2 h2⟩
  | [], _, _ :: _, _, h, _ => h.elim
  | _ :: _, _, [], _, h, _ => h.elim
/-- the arguments of a call, off the stack -/
theorem em_take_spec : ∀ (n : Nat) {stJ accJ : List Value} {st acc args rest : List em_V}, em_RS ad sa bs stJ st → em_RS ad sa bs accJ acc → em_take n st acc = some (args, rest) → ∃ argsJ restJ, em_RS ad sa bs argsJ args ∧ em_RS ad sa bs restJ rest ∧ accJ.reverse ++ stJ = argsJ.reverse ++ restJ ∧ args.length = n + acc.length
  | 0, stJ, accJ, st, acc, args, rest, h1, h2, h => by
    rw [em_take] at h
    cases h
    exact ⟨accJ, stJ, h2, h1, rfl, by omega⟩
  | n + 1, stJ, accJ, [], acc, args, rest, h1, h2, h => by cases h
  | n + 1, stJ, accJ, q :: r, acc, args, rest, h1, h2, h => by
    rw [em_take] at h
    obtain ⟨v, vs, rfl, hv, hr⟩ := em_RS_cons h1
    obtain ⟨aJ, rJ, g1, g2, g3, g4⟩ := em_take_spec n (stJ := vs) (accJ := v :: accJ) (acc := q :: acc) hr ⟨hv, h2⟩ h
    refine ⟨aJ, rJ, g1, g2, ?_, by rw [g4]; simp; omega⟩
    rw [← g3]
    simp
theorem em_RS_len : ∀ {vs : List Value} {qs : List em_V}, em_RS ad sa bs vs qs → vs.length = qs.length
  | [], [], _ => rfl
  | v :: vs, q :: qs, h => by rw [List.length_cons, List.length_cons, em_RS_len h.2]
  | [], _ :: _, h => h.elim
  | _ :: _, [], h => h.elim
end REL
theorem em_x32 (x y : Int32) : x32 (x.toInt + y.toInt) = (x + y).toInt := by rw [Int32.toInt_add]; rfl
theorem em_x32s (x y : Int32) : x32 (x.toInt - y.toInt) = (x - y).toInt := by rw [Int32.toInt_sub]; rfl
theorem em_x32m (x y : Int32) : x32 (x.toInt * y.toInt) = (x * y).toInt := by rw [Int32.toInt_mul]; rfl
theorem em_x64 (x y : Int64) : x64 (x.toInt + y.toInt) = (x + y).toInt := by rw [Int64.toInt_add]; rfl
theorem em_x64s (x y : Int64) : x64 (x.toInt - y.toInt) = (x - y).toInt := by rw [Int64.toInt_sub]; rfl
theorem em_x64m (x y : Int64) : x64 (x.toInt * y.toInt) = (x * y).toInt := by rw [Int64.toInt_mul]; rfl
theorem em_oi (x : Int32) : Int32.ofInt x.toInt = x := Int32.ofInt_toInt x
theorem em_ol (x : Int64) : Int64.ofInt x.toInt = x := Int64.ofInt_toInt x

section SIM
variable {ad sa : Nat → Nat} {bs n0 L : Nat} {xs : Nat → Int32} {D : va_G}
variable {p : Program} {l : Launch} {e : Env} {R : Room} {s : State} {m : MethodId} {args : Array Value} {below : List Frame} {meth : Method} {c : Code} {Q : State → Prop} {mid d pc cells slots : Nat}
variable {H : Heap} {locs : List Loc} {lsJ : Array Slot} {stJ : List Value} {ls : em_L} {st : List em_V} {M : em_M} {aux : List Int} {b : List (Bool × Nat) × Nat × em_L × List em_V × em_M}

theorem w_iconst {n : Int} (C : em_Cx sa bs n0 L xs p s m args c R mid d) (hdg : decode (em_b mid) pc = .ok (.iconst n, 1)) (hn : (Int32.ofInt n).toInt = n) (h : em_step mid pc (.iconst n) aux ls st M = some (.inl b)) (hne : em_sel b.1 b.2.1 ≠ 999999) (hls : em_LR ad sa bs lsJ (em_mx mid) ls) (hst : em_RS ad sa bs stJ st) (hW : em_WH ad n0 L xs D s H locs M) (K : ∀ (H2 : Heap) (locs2 : List Loc) (lsJ2 : Array Slot) (stJ2 : List Value), em_LR ad sa bs lsJ2 (em_mx mid) b.2.2.1 → em_RS ad sa bs stJ2 b.2.2.2.1 → em_WH ad n0 L xs D s H2 locs2 b.2.2.2.2 → W p l e R s m args below meth c H2 locs2 cells slots Q (F0 m (em_sel b.1 b.2.1) lsJ2 stJ2)) : W p l e R s m args below meth c H locs cells slots Q (F0 m pc lsJ stJ) := by
  obtain ⟨hx, hb, hml, hown, hts, hO, hR1, hR2⟩ := C
  cases h
  refine lv_iconst (v := Int32.ofInt n) hx hb hdg rfl ?_
  exact K _ _ _ _ hls ⟨by rw [em_RV, hn], hst⟩ hW
theorem w_bipush {n : Int} (C : em_Cx sa bs n0 L xs p s m args c R mid d) (hdg : decode (em_b mid) pc = .ok (.bipush n, 2)) (hn : ((Int8.ofInt n).toInt32).toInt = n) (h : em_step mid pc (.bipush n) aux ls st M = some (.inl b)) (hne : em_sel b.1 b.2.1 ≠ 999999) (hls : em_LR ad sa bs lsJ (em_mx mid) ls) (hst : em_RS ad sa bs stJ st) (hW : em_WH ad n0 L xs D s H locs M) (K : ∀ (H2 : Heap) (locs2 : List Loc) (lsJ2 : Array Slot) (stJ2 : List Value), em_LR ad sa bs lsJ2 (em_mx mid) b.2.2.1 → em_RS ad sa bs stJ2 b.2.2.2.1 → em_WH ad n0 L xs D s H2 locs2 b.2.2.2.2 → W p l e R s m args below meth c H2 locs2 cells slots Q (F0 m (em_sel b.1 b.2.1) lsJ2 stJ2)) : W p l e R s m args below meth c H locs cells slots Q (F0 m pc lsJ stJ) := by
  obtain ⟨hx, hb, hml, hown, hts, hO, hR1, hR2⟩ := C
  cases h
  refine lv_bipush (v := (Int8.ofInt n).toInt32) hx hb hdg rfl ?_
  exact K _ _ _ _ hls ⟨by rw [em_RV, hn], hst⟩ hW
theorem w_sipush {n : Int} (C : em_Cx sa bs n0 L xs p s m args c R mid d) (hdg : decode (em_b mid) pc = .ok (.sipush n, 3)) (hn : ((Int16.ofInt n).toInt32).toInt = n) (h : em_step mid pc (.sipush n) aux ls st M = some (.inl b)) (hne : em_sel b.1 b.2.1 ≠ 999999) (hls : em_LR ad sa bs lsJ (em_mx mid) ls) (hst : em_RS ad sa bs stJ st) (hW : em_WH ad n0 L xs D s H locs M) (K : ∀ (H2 : Heap) (locs2 : List Loc) (lsJ2 : Array Slot) (stJ2 : List Value), em_LR ad sa bs lsJ2 (em_mx mid) b.2.2.1 → em_RS ad sa bs stJ2 b.2.2.2.1 → em_WH ad n0 L xs D s H2 locs2 b.2.2.2.2 → W p l e R s m args below meth c H2 locs2 cells slots Q (F0 m (em_sel b.1 b.2.1) lsJ2 stJ2)) : W p l e R s m args below meth c H locs cells slots Q (F0 m pc lsJ stJ) := by
  obtain ⟨hx, hb, hml, hown, hts, hO, hR1, hR2⟩ := C
  cases h
  refine lv_sipush (v := (Int16.ofInt n).toInt32) hx hb hdg rfl ?_
  exact K _ _ _ _ hls ⟨by rw [em_RV, hn], hst⟩ hW
theorem w_lconst {n : Fin 2} (C : em_Cx sa bs n0 L xs p s m args c R mid d) (hdg : decode (em_b mid) pc = .ok (.lconst n, 1))  (h : em_step mid pc (.lconst n) aux ls st M = some (.inl b)) (hne : em_sel b.1 b.2.1 ≠ 999999) (hls : em_LR ad sa bs lsJ (em_mx mid) ls) (hst : em_RS ad sa bs stJ st) (hW : em_WH ad n0 L xs D s H locs M) (K : ∀ (H2 : Heap) (locs2 : List Loc) (lsJ2 : Array Slot) (stJ2 : List Value), em_LR ad sa bs lsJ2 (em_mx mid) b.2.2.1 → em_RS ad sa bs stJ2 b.2.2.2.1 → em_WH ad n0 L xs D s H2 locs2 b.2.2.2.2 → W p l e R s m args below meth c H2 locs2 cells slots Q (F0 m (em_sel b.1 b.2.1) lsJ2 stJ2)) : W p l e R s m args below meth c H locs cells slots Q (F0 m pc lsJ stJ) := by
  obtain ⟨hx, hb, hml, hown, hts, hO, hR1, hR2⟩ := C
  cases h
  refine lv_lconst (v := Int64.ofNat (n : Nat)) hx hb hdg rfl ?_
  refine K _ _ _ _ hls ⟨?_, hst⟩ hW
  rw [em_RV]
  match n with
  | 0 => rfl
  | 1 => rfl
theorem w_ldc {i : Nat} {v : Int} (C : em_Cx sa bs n0 L xs p s m args c R mid d) (hdg : decode (em_b mid) pc = .ok (.ldc i, 2)) (hau : aux = [0, v]) (hw : (Jvm.Cond.constant (em_y mid).cls i (Int32.ofInt v)) ∈ em_tbl) (hn : (Int32.ofInt v).toInt = v) (h : em_step mid pc (.ldc i) aux ls st M = some (.inl b)) (hne : em_sel b.1 b.2.1 ≠ 999999) (hls : em_LR ad sa bs lsJ (em_mx mid) ls) (hst : em_RS ad sa bs stJ st) (hW : em_WH ad n0 L xs D s H locs M) (K : ∀ (H2 : Heap) (locs2 : List Loc) (lsJ2 : Array Slot) (stJ2 : List Value), em_LR ad sa bs lsJ2 (em_mx mid) b.2.2.1 → em_RS ad sa bs stJ2 b.2.2.2.1 → em_WH ad n0 L xs D s H2 locs2 b.2.2.2.2 → W p l e R s m args below meth c H2 locs2 cells slots Q (F0 m (em_sel b.1 b.2.1) lsJ2 stJ2)) : W p l e R s m args below meth c H locs cells slots Q (F0 m pc lsJ stJ) := by
  obtain ⟨hx, hb, hml, hown, hts, hO, hR1, hR2⟩ := C
  subst hau
  cases h
  refine lv_ldc (v := Int32.ofInt v) hx hb hown (hts _ hw) hdg ?_
  exact K _ _ _ _ hls ⟨by rw [em_RV, hn], hst⟩ hW
theorem w_ldcw {i : Nat} {v : Int} (C : em_Cx sa bs n0 L xs p s m args c R mid d) (hdg : decode (em_b mid) pc = .ok (.ldc_w i, 3)) (hau : aux = [0, v]) (hw : (Jvm.Cond.constant (em_y mid).cls i (Int32.ofInt v)) ∈ em_tbl) (hn : (Int32.ofInt v).toInt = v) (h : em_step mid pc (.ldc_w i) aux ls st M = some (.inl b)) (hne : em_sel b.1 b.2.1 ≠ 999999) (hls : em_LR ad sa bs lsJ (em_mx mid) ls) (hst : em_RS ad sa bs stJ st) (hW : em_WH ad n0 L xs D s H locs M) (K : ∀ (H2 : Heap) (locs2 : List Loc) (lsJ2 : Array Slot) (stJ2 : List Value), em_LR ad sa bs lsJ2 (em_mx mid) b.2.2.1 → em_RS ad sa bs stJ2 b.2.2.2.1 → em_WH ad n0 L xs D s H2 locs2 b.2.2.2.2 → W p l e R s m args below meth c H2 locs2 cells slots Q (F0 m (em_sel b.1 b.2.1) lsJ2 stJ2)) : W p l e R s m args below meth c H locs cells slots Q (F0 m pc lsJ stJ) := by
  obtain ⟨hx, hb, hml, hown, hts, hO, hR1, hR2⟩ := C
  subst hau
  cases h
  refine lv_ldcw (v := Int32.ofInt v) hx hb hown (hts _ hw) hdg ?_
  exact K _ _ _ _ hls ⟨by rw [em_RV, hn], hst⟩ hW
theorem w_ldc2 {i : Nat} {v : Int} (C : em_Cx sa bs n0 L xs p s m args c R mid d) (hdg : decode (em_b mid) pc = .ok (.ldc2_w i, 3)) (hau : aux = [v]) (hw : (Jvm.Cond.constantLong (em_y mid).cls i (Int64.ofInt v)) ∈ em_tbl) (hn : (Int64.ofInt v).toInt = v) (h : em_step mid pc (.ldc2_w i) aux ls st M = some (.inl b)) (hne : em_sel b.1 b.2.1 ≠ 999999) (hls : em_LR ad sa bs lsJ (em_mx mid) ls) (hst : em_RS ad sa bs stJ st) (hW : em_WH ad n0 L xs D s H locs M) (K : ∀ (H2 : Heap) (locs2 : List Loc) (lsJ2 : Array Slot) (stJ2 : List Value), em_LR ad sa bs lsJ2 (em_mx mid) b.2.2.1 → em_RS ad sa bs stJ2 b.2.2.2.1 → em_WH ad n0 L xs D s H2 locs2 b.2.2.2.2 → W p l e R s m args below meth c H2 locs2 cells slots Q (F0 m (em_sel b.1 b.2.1) lsJ2 stJ2)) : W p l e R s m args below meth c H locs cells slots Q (F0 m pc lsJ stJ) := by
  obtain ⟨hx, hb, hml, hown, hts, hO, hR1, hR2⟩ := C
  subst hau
  cases h
  refine lv_ldc2 (v := Int64.ofInt v) hx hb hown (hts _ hw) hdg ?_
  exact K _ _ _ _ hls ⟨by rw [em_RV, hn], hst⟩ hW
theorem w_ldcS {i k : Nat} (C : em_Cx sa bs n0 L xs p s m args c R mid d) (hdg : decode (em_b mid) pc = .ok (.ldc i, 2)) (hau : aux = [1, (k : Int)]) (hk : k < 16) (hi : em_nth em_sxs k 0 = i) (hcl : (em_y mid).cls = "EstateOffice$Text") (h : em_step mid pc (.ldc i) aux ls st M = some (.inl b)) (hne : em_sel b.1 b.2.1 ≠ 999999) (hls : em_LR ad sa bs lsJ (em_mx mid) ls) (hst : em_RS ad sa bs stJ st) (hW : em_WH ad n0 L xs D s H locs M) (K : ∀ (H2 : Heap) (locs2 : List Loc) (lsJ2 : Array Slot) (stJ2 : List Value), em_LR ad sa bs lsJ2 (em_mx mid) b.2.2.1 → em_RS ad sa bs stJ2 b.2.2.2.1 → em_WH ad n0 L xs D s H2 locs2 b.2.2.2.2 → W p l e R s m args below meth c H2 locs2 cells slots Q (F0 m (em_sel b.1 b.2.1) lsJ2 stJ2)) : W p l e R s m args below meth c H locs cells slots Q (F0 m pc lsJ stJ) := by
  obtain ⟨hx, hb, hml, hown, hts, hO, hR1, hR2⟩ := C
  subst hau
  cases h
  have hz := hO.2.2.2.2.1 k hk
  rw [hi, ← hcl] at hz
  refine va_ldcS hx hb hown hz hdg ?_
  exact K _ _ _ _ hls ⟨Or.inr (Or.inl ⟨rfl, k, Nat.lt_of_lt_of_le hk (by decide), rfl, rfl⟩), hst⟩ hW
theorem w_getst {i : Nat} {v : Int} (C : em_Cx sa bs n0 L xs p s m args c R mid d) (hdg : decode (em_b mid) pc = .ok (.getstatic i, 3)) (hau : aux = [0, v]) (hw : (Jvm.Cond.fieldLink (em_y mid).cls i "java/lang/String" "COMPACT_STRINGS" "Z") ∈ em_tbl) (hv : v = 1) (h : em_step mid pc (.getstatic i) aux ls st M = some (.inl b)) (hne : em_sel b.1 b.2.1 ≠ 999999) (hls : em_LR ad sa bs lsJ (em_mx mid) ls) (hst : em_RS ad sa bs stJ st) (hW : em_WH ad n0 L xs D s H locs M) (K : ∀ (H2 : Heap) (locs2 : List Loc) (lsJ2 : Array Slot) (stJ2 : List Value), em_LR ad sa bs lsJ2 (em_mx mid) b.2.2.1 → em_RS ad sa bs stJ2 b.2.2.2.1 → em_WH ad n0 L xs D s H2 locs2 b.2.2.2.2 → W p l e R s m args below meth c H2 locs2 cells slots Q (F0 m (em_sel b.1 b.2.1) lsJ2 stJ2)) : W p l e R s m args below meth c H locs cells slots Q (F0 m pc lsJ stJ) := by
  obtain ⟨hx, hb, hml, hown, hts, hO, hR1, hR2⟩ := C
  subst hau
  subst hv
  cases h
  have hS : va_S (em_A n0) s.heap H locs := by obtain ⟨ws, tys, hP, hD, hK, hS, hC, hX⟩ := hW; exact hS
  refine va_gets hx hb hO.2.2.2.2.2.2.2.1 hS hown (hts _ hw) (fun _ z => z) hdg ?_
  exact K _ _ _ _ hls ⟨rfl, hst⟩ hW
theorem w_getstR {i : Nat} (C : em_Cx sa bs n0 L xs p s m args c R mid d) (hdg : decode (em_b mid) pc = .ok (.getstatic i, 3)) (hau : aux = [1]) (hw : (Jvm.Cond.fieldLink (em_y mid).cls i "jdk/internal/util/Preconditions" "SIOOBE_FORMATTER" "Ljava/util/function/BiFunction;") ∈ em_tbl) (h : em_step mid pc (.getstatic i) aux ls st M = some (.inl b)) (hne : em_sel b.1 b.2.1 ≠ 999999) (hls : em_LR ad sa bs lsJ (em_mx mid) ls) (hst : em_RS ad sa bs stJ st) (hW : em_WH ad n0 L xs D s H locs M) (K : ∀ (H2 : Heap) (locs2 : List Loc) (lsJ2 : Array Slot) (stJ2 : List Value), em_LR ad sa bs lsJ2 (em_mx mid) b.2.2.1 → em_RS ad sa bs stJ2 b.2.2.2.1 → em_WH ad n0 L xs D s H2 locs2 b.2.2.2.2 → W p l e R s m args below meth c H2 locs2 cells slots Q (F0 m (em_sel b.1 b.2.1) lsJ2 stJ2)) : W p l e R s m args below meth c H locs cells slots Q (F0 m pc lsJ stJ) := by
  obtain ⟨hx, hb, hml, hown, hts, hO, hR1, hR2⟩ := C
  subst hau
  cases h
  have hS : va_S (em_A n0) s.heap H locs := by obtain ⟨ws, tys, hP, hD, hK, hS, hC, hX⟩ := hW; exact hS
  rcases hO.2.2.2.2.2.2.2.2 with hZ | ⟨t, hZ⟩
  · refine va_gets hx hb hZ hS hown (hts _ hw) (fun _ z => z) hdg ?_
    exact K _ _ _ _ hls ⟨rfl, hst⟩ hW
  · refine va_gets hx hb hZ hS hown (hts _ hw) (fun _ z => z) hdg ?_
    exact K _ _ _ _ hls ⟨Or.inr (Or.inr (Or.inr rfl)), hst⟩ hW
theorem w_iload {i : Nat} (C : em_Cx sa bs n0 L xs p s m args c R mid d) (hdg : decode (em_b mid) pc = .ok (.iload i, 2))  (h : em_step mid pc (.iload i) aux ls st M = some (.inl b)) (hne : em_sel b.1 b.2.1 ≠ 999999) (hls : em_LR ad sa bs lsJ (em_mx mid) ls) (hst : em_RS ad sa bs stJ st) (hW : em_WH ad n0 L xs D s H locs M) (K : ∀ (H2 : Heap) (locs2 : List Loc) (lsJ2 : Array Slot) (stJ2 : List Value), em_LR ad sa bs lsJ2 (em_mx mid) b.2.2.1 → em_RS ad sa bs stJ2 b.2.2.2.1 → em_WH ad n0 L xs D s H2 locs2 b.2.2.2.2 → W p l e R s m args below meth c H2 locs2 cells slots Q (F0 m (em_sel b.1 b.2.1) lsJ2 stJ2)) : W p l e R s m args below meth c H locs cells slots Q (F0 m pc lsJ stJ) := by
  obtain ⟨hx, hb, hml, hown, hts, hO, hR1, hR2⟩ := C
  simp only [em_step] at h
  cases hg : em_get ls i with
  | none => rw [hg] at h; cases h
  | some q =>
    rw [hg, Option.bind_some] at h
    obtain ⟨t, y⟩ := q
    cases hq : Nat.beq t 0 with
    | false => simp only [hq, cond_false] at h; cases h
    | true =>
      have e : t = 0 := Nat.eq_of_beq_eq_true hq
      subst e
      cases h
      obtain ⟨v, h1, h2⟩ := em_LR_get hls hg
      obtain ⟨z, rfl, rfl⟩ := em_RV_i h2
      refine lv_iload hx hb hdg h1 ?_
      exact K _ _ _ _ hls ⟨h2, hst⟩ hW
theorem w_iload_n {i : Fin 4} (C : em_Cx sa bs n0 L xs p s m args c R mid d) (hdg : decode (em_b mid) pc = .ok (.iload_n i, 1))  (h : em_step mid pc (.iload_n i) aux ls st M = some (.inl b)) (hne : em_sel b.1 b.2.1 ≠ 999999) (hls : em_LR ad sa bs lsJ (em_mx mid) ls) (hst : em_RS ad sa bs stJ st) (hW : em_WH ad n0 L xs D s H locs M) (K : ∀ (H2 : Heap) (locs2 : List Loc) (lsJ2 : Array Slot) (stJ2 : List Value), em_LR ad sa bs lsJ2 (em_mx mid) b.2.2.1 → em_RS ad sa bs stJ2 b.2.2.2.1 → em_WH ad n0 L xs D s H2 locs2 b.2.2.2.2 → W p l e R s m args below meth c H2 locs2 cells slots Q (F0 m (em_sel b.1 b.2.1) lsJ2 stJ2)) : W p l e R s m args below meth c H locs cells slots Q (F0 m pc lsJ stJ) := by
  obtain ⟨hx, hb, hml, hown, hts, hO, hR1, hR2⟩ := C
  simp only [em_step] at h
  cases hg : em_get ls (i : Nat) with
  | none => rw [hg] at h; cases h
  | some q =>
    rw [hg, Option.bind_some] at h
    obtain ⟨t, y⟩ := q
    cases hq : Nat.beq t 0 with
    | false => simp only [hq, cond_false] at h; cases h
    | true =>
      have e : t = 0 := Nat.eq_of_beq_eq_true hq
      subst e
      cases h
      obtain ⟨v, h1, h2⟩ := em_LR_get hls hg
      obtain ⟨z, rfl, rfl⟩ := em_RV_i h2
      refine lv_iload_n hx hb hdg rfl h1 ?_
      exact K _ _ _ _ hls ⟨h2, hst⟩ hW
theorem w_lload {i : Nat} (C : em_Cx sa bs n0 L xs p s m args c R mid d) (hdg : decode (em_b mid) pc = .ok (.lload i, 2))  (h : em_step mid pc (.lload i) aux ls st M = some (.inl b)) (hne : em_sel b.1 b.2.1 ≠ 999999) (hls : em_LR ad sa bs lsJ (em_mx mid) ls) (hst : em_RS ad sa bs stJ st) (hW : em_WH ad n0 L xs D s H locs M) (K : ∀ (H2 : Heap) (locs2 : List Loc) (lsJ2 : Array Slot) (stJ2 : List Value), em_LR ad sa bs lsJ2 (em_mx mid) b.2.2.1 → em_RS ad sa bs stJ2 b.2.2.2.1 → em_WH ad n0 L xs D s H2 locs2 b.2.2.2.2 → W p l e R s m args below meth c H2 locs2 cells slots Q (F0 m (em_sel b.1 b.2.1) lsJ2 stJ2)) : W p l e R s m args below meth c H locs cells slots Q (F0 m pc lsJ stJ) := by
  obtain ⟨hx, hb, hml, hown, hts, hO, hR1, hR2⟩ := C
  simp only [em_step] at h
  cases hg : em_get ls i with
  | none => rw [hg] at h; cases h
  | some q =>
    rw [hg, Option.bind_some] at h
    obtain ⟨t, y⟩ := q
    cases hq : Nat.beq t 1 with
    | false => simp only [hq, cond_false] at h; cases h
    | true =>
      have e : t = 1 := Nat.eq_of_beq_eq_true hq
      subst e
      cases h
      obtain ⟨v, h1, h2⟩ := em_LR_get hls hg
      obtain ⟨z, rfl, rfl⟩ := em_RV_l h2
      refine lv_lload hx hb hdg h1 ?_
      exact K _ _ _ _ hls ⟨h2, hst⟩ hW
theorem w_lload_n {i : Fin 4} (C : em_Cx sa bs n0 L xs p s m args c R mid d) (hdg : decode (em_b mid) pc = .ok (.lload_n i, 1))  (h : em_step mid pc (.lload_n i) aux ls st M = some (.inl b)) (hne : em_sel b.1 b.2.1 ≠ 999999) (hls : em_LR ad sa bs lsJ (em_mx mid) ls) (hst : em_RS ad sa bs stJ st) (hW : em_WH ad n0 L xs D s H locs M) (K : ∀ (H2 : Heap) (locs2 : List Loc) (lsJ2 : Array Slot) (stJ2 : List Value), em_LR ad sa bs lsJ2 (em_mx mid) b.2.2.1 → em_RS ad sa bs stJ2 b.2.2.2.1 → em_WH ad n0 L xs D s H2 locs2 b.2.2.2.2 → W p l e R s m args below meth c H2 locs2 cells slots Q (F0 m (em_sel b.1 b.2.1) lsJ2 stJ2)) : W p l e R s m args below meth c H locs cells slots Q (F0 m pc lsJ stJ) := by
  obtain ⟨hx, hb, hml, hown, hts, hO, hR1, hR2⟩ := C
  simp only [em_step] at h
  cases hg : em_get ls (i : Nat) with
  | none => rw [hg] at h; cases h
  | some q =>
    rw [hg, Option.bind_some] at h
    obtain ⟨t, y⟩ := q
    cases hq : Nat.beq t 1 with
    | false => simp only [hq, cond_false] at h; cases h
    | true =>
      have e : t = 1 := Nat.eq_of_beq_eq_true hq
      subst e
      cases h
      obtain ⟨v, h1, h2⟩ := em_LR_get hls hg
      obtain ⟨z, rfl, rfl⟩ := em_RV_l h2
      refine lv_lload_n hx hb hdg rfl h1 ?_
      exact K _ _ _ _ hls ⟨h2, hst⟩ hW
theorem w_aload {i : Nat} (C : em_Cx sa bs n0 L xs p s m args c R mid d) (hdg : decode (em_b mid) pc = .ok (.aload i, 2))  (h : em_step mid pc (.aload i) aux ls st M = some (.inl b)) (hne : em_sel b.1 b.2.1 ≠ 999999) (hls : em_LR ad sa bs lsJ (em_mx mid) ls) (hst : em_RS ad sa bs stJ st) (hW : em_WH ad n0 L xs D s H locs M) (K : ∀ (H2 : Heap) (locs2 : List Loc) (lsJ2 : Array Slot) (stJ2 : List Value), em_LR ad sa bs lsJ2 (em_mx mid) b.2.2.1 → em_RS ad sa bs stJ2 b.2.2.2.1 → em_WH ad n0 L xs D s H2 locs2 b.2.2.2.2 → W p l e R s m args below meth c H2 locs2 cells slots Q (F0 m (em_sel b.1 b.2.1) lsJ2 stJ2)) : W p l e R s m args below meth c H locs cells slots Q (F0 m pc lsJ stJ) := by
  obtain ⟨hx, hb, hml, hown, hts, hO, hR1, hR2⟩ := C
  simp only [em_step] at h
  cases hg : em_get ls i with
  | none => rw [hg] at h; cases h
  | some q =>
    rw [hg, Option.bind_some] at h
    cases hq : em_isref q.1 with
    | false => simp only [hq, cond_false] at h; cases h
    | true =>
      simp only [hq, cond_true] at h
      cases h
      obtain ⟨v, h1, h2⟩ := em_LR_get hls hg
      obtain ⟨z, rfl⟩ := em_RV_any h2 hq
      refine lv_aload hx hb hdg h1 ?_
      exact K _ _ _ _ hls ⟨h2, hst⟩ hW
theorem w_aload_n {i : Fin 4} (C : em_Cx sa bs n0 L xs p s m args c R mid d) (hdg : decode (em_b mid) pc = .ok (.aload_n i, 1))  (h : em_step mid pc (.aload_n i) aux ls st M = some (.inl b)) (hne : em_sel b.1 b.2.1 ≠ 999999) (hls : em_LR ad sa bs lsJ (em_mx mid) ls) (hst : em_RS ad sa bs stJ st) (hW : em_WH ad n0 L xs D s H locs M) (K : ∀ (H2 : Heap) (locs2 : List Loc) (lsJ2 : Array Slot) (stJ2 : List Value), em_LR ad sa bs lsJ2 (em_mx mid) b.2.2.1 → em_RS ad sa bs stJ2 b.2.2.2.1 → em_WH ad n0 L xs D s H2 locs2 b.2.2.2.2 → W p l e R s m args below meth c H2 locs2 cells slots Q (F0 m (em_sel b.1 b.2.1) lsJ2 stJ2)) : W p l e R s m args below meth c H locs cells slots Q (F0 m pc lsJ stJ) := by
  obtain ⟨hx, hb, hml, hown, hts, hO, hR1, hR2⟩ := C
  simp only [em_step] at h
  cases hg : em_get ls (i : Nat) with
  | none => rw [hg] at h; cases h
  | some q =>
    rw [hg, Option.bind_some] at h
    cases hq : em_isref q.1 with
    | false => simp only [hq, cond_false] at h; cases h
    | true =>
      simp only [hq, cond_true] at h
      cases h
      obtain ⟨v, h1, h2⟩ := em_LR_get hls hg
      obtain ⟨z, rfl⟩ := em_RV_any h2 hq
      refine lv_aload_n hx hb hdg rfl h1 ?_
      exact K _ _ _ _ hls ⟨h2, hst⟩ hW
theorem w_istore {i : Nat} (C : em_Cx sa bs n0 L xs p s m args c R mid d) (hdg : decode (em_b mid) pc = .ok (.istore i, 2)) (hi : i < em_mx mid) (h : em_step mid pc (.istore i) aux ls st M = some (.inl b)) (hne : em_sel b.1 b.2.1 ≠ 999999) (hls : em_LR ad sa bs lsJ (em_mx mid) ls) (hst : em_RS ad sa bs stJ st) (hW : em_WH ad n0 L xs D s H locs M) (K : ∀ (H2 : Heap) (locs2 : List Loc) (lsJ2 : Array Slot) (stJ2 : List Value), em_LR ad sa bs lsJ2 (em_mx mid) b.2.2.1 → em_RS ad sa bs stJ2 b.2.2.2.1 → em_WH ad n0 L xs D s H2 locs2 b.2.2.2.2 → W p l e R s m args below meth c H2 locs2 cells slots Q (F0 m (em_sel b.1 b.2.1) lsJ2 stJ2)) : W p l e R s m args below meth c H locs cells slots Q (F0 m pc lsJ stJ) := by
  obtain ⟨hx, hb, hml, hown, hts, hO, hR1, hR2⟩ := C
  simp only [em_step] at h
  cases hg : em_p 0 st with
  | none => rw [hg] at h; cases h
  | some q =>
    rw [hg, Option.bind_some] at h
    cases h
    rw [em_p_some hg] at hst
    obtain ⟨v, r, rfl, hv, hr⟩ := em_RS_cons hst
    obtain ⟨z, rfl, hz⟩ := em_RV_i hv
    obtain ⟨l0, h1, h2⟩ := hls
    refine lv_istore hx hb hdg h1 hi rfl (fun ls2 hl2 => ?_)
    exact K _ _ _ _ ⟨_, hl2, em_RL_set1 h2 hv⟩ hr hW
theorem w_istore_n {i : Fin 4} (C : em_Cx sa bs n0 L xs p s m args c R mid d) (hdg : decode (em_b mid) pc = .ok (.istore_n i, 1)) (hi : (i : Nat) < em_mx mid) (h : em_step mid pc (.istore_n i) aux ls st M = some (.inl b)) (hne : em_sel b.1 b.2.1 ≠ 999999) (hls : em_LR ad sa bs lsJ (em_mx mid) ls) (hst : em_RS ad sa bs stJ st) (hW : em_WH ad n0 L xs D s H locs M) (K : ∀ (H2 : Heap) (locs2 : List Loc) (lsJ2 : Array Slot) (stJ2 : List Value), em_LR ad sa bs lsJ2 (em_mx mid) b.2.2.1 → em_RS ad sa bs stJ2 b.2.2.2.1 → em_WH ad n0 L xs D s H2 locs2 b.2.2.2.2 → W p l e R s m args below meth c H2 locs2 cells slots Q (F0 m (em_sel b.1 b.2.1) lsJ2 stJ2)) : W p l e R s m args below meth c H locs cells slots Q (F0 m pc lsJ stJ) := by
  obtain ⟨hx, hb, hml, hown, hts, hO, hR1, hR2⟩ := C
  simp only [em_step] at h
  cases hg : em_p 0 st with
  | none => rw [hg] at h; cases h
  | some q =>
    rw [hg, Option.bind_some] at h
    cases h
    rw [em_p_some hg] at hst
    obtain ⟨v, r, rfl, hv, hr⟩ := em_RS_cons hst
    obtain ⟨z, rfl, hz⟩ := em_RV_i hv
    obtain ⟨l0, h1, h2⟩ := hls
    refine lv_istore_n hx hb hdg rfl h1 hi rfl (fun ls2 hl2 => ?_)
    exact K _ _ _ _ ⟨_, hl2, em_RL_set1 h2 hv⟩ hr hW
theorem w_lstore {i : Nat} (C : em_Cx sa bs n0 L xs p s m args c R mid d) (hdg : decode (em_b mid) pc = .ok (.lstore i, 2)) (hi : i + 1 < em_mx mid) (h : em_step mid pc (.lstore i) aux ls st M = some (.inl b)) (hne : em_sel b.1 b.2.1 ≠ 999999) (hls : em_LR ad sa bs lsJ (em_mx mid) ls) (hst : em_RS ad sa bs stJ st) (hW : em_WH ad n0 L xs D s H locs M) (K : ∀ (H2 : Heap) (locs2 : List Loc) (lsJ2 : Array Slot) (stJ2 : List Value), em_LR ad sa bs lsJ2 (em_mx mid) b.2.2.1 → em_RS ad sa bs stJ2 b.2.2.2.1 → em_WH ad n0 L xs D s H2 locs2 b.2.2.2.2 → W p l e R s m args below meth c H2 locs2 cells slots Q (F0 m (em_sel b.1 b.2.1) lsJ2 stJ2)) : W p l e R s m args below meth c H locs cells slots Q (F0 m pc lsJ stJ) := by
  obtain ⟨hx, hb, hml, hown, hts, hO, hR1, hR2⟩ := C
  simp only [em_step] at h
  cases hg : em_p 1 st with
  | none => rw [hg] at h; cases h
  | some q =>
    rw [hg, Option.bind_some] at h
    cases h
    rw [em_p_some hg] at hst
    obtain ⟨v, r, rfl, hv, hr⟩ := em_RS_cons hst
    obtain ⟨z, rfl, hz⟩ := em_RV_l hv
    obtain ⟨l0, h1, h2⟩ := hls
    refine lv_lstore hx hb hdg h1 hi rfl (fun ls2 hl2 => ?_)
    exact K _ _ _ _ ⟨_, hl2, em_RL_set2 h2 hv⟩ hr hW
theorem w_lstore_n {i : Fin 4} (C : em_Cx sa bs n0 L xs p s m args c R mid d) (hdg : decode (em_b mid) pc = .ok (.lstore_n i, 1)) (hi : (i : Nat) + 1 < em_mx mid) (h : em_step mid pc (.lstore_n i) aux ls st M = some (.inl b)) (hne : em_sel b.1 b.2.1 ≠ 999999) (hls : em_LR ad sa bs lsJ (em_mx mid) ls) (hst : em_RS ad sa bs stJ st) (hW : em_WH ad n0 L xs D s H locs M) (K : ∀ (H2 : Heap) (locs2 : List Loc) (lsJ2 : Array Slot) (stJ2 : List Value), em_LR ad sa bs lsJ2 (em_mx mid) b.2.2.1 → em_RS ad sa bs stJ2 b.2.2.2.1 → em_WH ad n0 L xs D s H2 locs2 b.2.2.2.2 → W p l e R s m args below meth c H2 locs2 cells slots Q (F0 m (em_sel b.1 b.2.1) lsJ2 stJ2)) : W p l e R s m args below meth c H locs cells slots Q (F0 m pc lsJ stJ) := by
  obtain ⟨hx, hb, hml, hown, hts, hO, hR1, hR2⟩ := C
  simp only [em_step] at h
  cases hg : em_p 1 st with
  | none => rw [hg] at h; cases h
  | some q =>
    rw [hg, Option.bind_some] at h
    cases h
    rw [em_p_some hg] at hst
    obtain ⟨v, r, rfl, hv, hr⟩ := em_RS_cons hst
    obtain ⟨z, rfl, hz⟩ := em_RV_l hv
    obtain ⟨l0, h1, h2⟩ := hls
    refine lv_lstore_n hx hb hdg rfl h1 hi rfl (fun ls2 hl2 => ?_)
    exact K _ _ _ _ ⟨_, hl2, em_RL_set2 h2 hv⟩ hr hW
theorem w_astore {i : Nat} (C : em_Cx sa bs n0 L xs p s m args c R mid d) (hdg : decode (em_b mid) pc = .ok (.astore i, 2)) (hi : i < em_mx mid) (h : em_step mid pc (.astore i) aux ls st M = some (.inl b)) (hne : em_sel b.1 b.2.1 ≠ 999999) (hls : em_LR ad sa bs lsJ (em_mx mid) ls) (hst : em_RS ad sa bs stJ st) (hW : em_WH ad n0 L xs D s H locs M) (K : ∀ (H2 : Heap) (locs2 : List Loc) (lsJ2 : Array Slot) (stJ2 : List Value), em_LR ad sa bs lsJ2 (em_mx mid) b.2.2.1 → em_RS ad sa bs stJ2 b.2.2.2.1 → em_WH ad n0 L xs D s H2 locs2 b.2.2.2.2 → W p l e R s m args below meth c H2 locs2 cells slots Q (F0 m (em_sel b.1 b.2.1) lsJ2 stJ2)) : W p l e R s m args below meth c H locs cells slots Q (F0 m pc lsJ stJ) := by
  obtain ⟨hx, hb, hml, hown, hts, hO, hR1, hR2⟩ := C
  cases st with
  | nil => cases h
  | cons q r =>
    simp only [em_step] at h
    cases hq : em_isref q.1 with
    | false => simp only [hq, cond_false] at h; cases h
    | true =>
      simp only [hq, cond_true] at h
      cases h
      obtain ⟨v, r2, rfl, hv, hr⟩ := em_RS_cons hst
      obtain ⟨z, rfl⟩ := em_RV_any hv hq
      obtain ⟨l0, h1, h2⟩ := hls
      refine lv_astore hx hb hdg h1 hi rfl (fun ls2 hl2 => ?_)
      exact K _ _ _ _ ⟨_, hl2, em_RL_set1 h2 hv⟩ hr hW
theorem w_astore_n {i : Fin 4} (C : em_Cx sa bs n0 L xs p s m args c R mid d) (hdg : decode (em_b mid) pc = .ok (.astore_n i, 1)) (hi : (i : Nat) < em_mx mid) (h : em_step mid pc (.astore_n i) aux ls st M = some (.inl b)) (hne : em_sel b.1 b.2.1 ≠ 999999) (hls : em_LR ad sa bs lsJ (em_mx mid) ls) (hst : em_RS ad sa bs stJ st) (hW : em_WH ad n0 L xs D s H locs M) (K : ∀ (H2 : Heap) (locs2 : List Loc) (lsJ2 : Array Slot) (stJ2 : List Value), em_LR ad sa bs lsJ2 (em_mx mid) b.2.2.1 → em_RS ad sa bs stJ2 b.2.2.2.1 → em_WH ad n0 L xs D s H2 locs2 b.2.2.2.2 → W p l e R s m args below meth c H2 locs2 cells slots Q (F0 m (em_sel b.1 b.2.1) lsJ2 stJ2)) : W p l e R s m args below meth c H locs cells slots Q (F0 m pc lsJ stJ) := by
  obtain ⟨hx, hb, hml, hown, hts, hO, hR1, hR2⟩ := C
  cases st with
  | nil => cases h
  | cons q r =>
    simp only [em_step] at h
    cases hq : em_isref q.1 with
    | false => simp only [hq, cond_false] at h; cases h
    | true =>
      simp only [hq, cond_true] at h
      cases h
      obtain ⟨v, r2, rfl, hv, hr⟩ := em_RS_cons hst
      obtain ⟨z, rfl⟩ := em_RV_any hv hq
      obtain ⟨l0, h1, h2⟩ := hls
      refine lv_astore_n hx hb hdg rfl h1 hi rfl (fun ls2 hl2 => ?_)
      exact K _ _ _ _ ⟨_, hl2, em_RL_set1 h2 hv⟩ hr hW
theorem em_addn (x : Int32) (n : Int) : x32 (x.toInt + n) = (x + Int32.ofInt n).toInt := by
  rw [Int32.toInt_add, Int32.toInt_ofInt]
  show (x.toInt + n).bmod (2 ^ 32) = (x.toInt + n.bmod (2 ^ 32)).bmod (2 ^ 32)
  rw [Int.add_bmod_bmod]
theorem w_iinc {i : Nat} {n : Int} (C : em_Cx sa bs n0 L xs p s m args c R mid d) (hdg : decode (em_b mid) pc = .ok (.iinc i n, 3)) (hi : i < em_mx mid) (h : em_step mid pc (.iinc i n) aux ls st M = some (.inl b)) (hne : em_sel b.1 b.2.1 ≠ 999999) (hls : em_LR ad sa bs lsJ (em_mx mid) ls) (hst : em_RS ad sa bs stJ st) (hW : em_WH ad n0 L xs D s H locs M) (K : ∀ (H2 : Heap) (locs2 : List Loc) (lsJ2 : Array Slot) (stJ2 : List Value), em_LR ad sa bs lsJ2 (em_mx mid) b.2.2.1 → em_RS ad sa bs stJ2 b.2.2.2.1 → em_WH ad n0 L xs D s H2 locs2 b.2.2.2.2 → W p l e R s m args below meth c H2 locs2 cells slots Q (F0 m (em_sel b.1 b.2.1) lsJ2 stJ2)) : W p l e R s m args below meth c H locs cells slots Q (F0 m pc lsJ stJ) := by
  obtain ⟨hx, hb, hml, hown, hts, hO, hR1, hR2⟩ := C
  simp only [em_step] at h
  cases hg : em_get ls i with
  | none => rw [hg] at h; cases h
  | some q =>
    rw [hg, Option.bind_some] at h
    obtain ⟨t, y⟩ := q
    cases hq : Nat.beq t 0 with
    | false => simp only [hq, cond_false] at h; cases h
    | true =>
      have e : t = 0 := Nat.eq_of_beq_eq_true hq
      subst e
      cases h
      obtain ⟨l0, h1, h2⟩ := hls
      obtain ⟨v, h3, h4⟩ := em_RL_get h2 hg
      obtain ⟨z, rfl, rfl⟩ := em_RV_i h4
      obtain ⟨k, hk⟩ := List.getElem?_of_mem h3
      refine lv_iinc hx hb hdg h1 hk rfl hi rfl (fun ls2 hl2 => ?_)
      exact K _ _ _ _ ⟨_, hl2, em_RL_set1 h2 (by rw [em_RV, em_addn])⟩ hst hW
theorem w_dup  (C : em_Cx sa bs n0 L xs p s m args c R mid d) (hdg : decode (em_b mid) pc = .ok (.dup, 1))  (h : em_step mid pc (.dup) aux ls st M = some (.inl b)) (hne : em_sel b.1 b.2.1 ≠ 999999) (hls : em_LR ad sa bs lsJ (em_mx mid) ls) (hst : em_RS ad sa bs stJ st) (hW : em_WH ad n0 L xs D s H locs M) (K : ∀ (H2 : Heap) (locs2 : List Loc) (lsJ2 : Array Slot) (stJ2 : List Value), em_LR ad sa bs lsJ2 (em_mx mid) b.2.2.1 → em_RS ad sa bs stJ2 b.2.2.2.1 → em_WH ad n0 L xs D s H2 locs2 b.2.2.2.2 → W p l e R s m args below meth c H2 locs2 cells slots Q (F0 m (em_sel b.1 b.2.1) lsJ2 stJ2)) : W p l e R s m args below meth c H locs cells slots Q (F0 m pc lsJ stJ) := by
  obtain ⟨hx, hb, hml, hown, hts, hO, hR1, hR2⟩ := C
  cases st with
  | nil => cases h
  | cons q r =>
    simp only [em_step] at h
    cases hq : Nat.beq q.1 1 with
    | true => simp only [hq, cond_true] at h; cases h
    | false =>
      simp only [hq, cond_false] at h
      cases h
      obtain ⟨v, r2, rfl, hv, hr⟩ := em_RS_cons hst
      refine lv_dup hx hb hdg (by rw [em_RV_cat hv, hq]; rfl) ?_
      exact K _ _ _ _ hls ⟨hv, hv, hr⟩ hW
theorem w_pop  (C : em_Cx sa bs n0 L xs p s m args c R mid d) (hdg : decode (em_b mid) pc = .ok (.pop, 1))  (h : em_step mid pc (.pop) aux ls st M = some (.inl b)) (hne : em_sel b.1 b.2.1 ≠ 999999) (hls : em_LR ad sa bs lsJ (em_mx mid) ls) (hst : em_RS ad sa bs stJ st) (hW : em_WH ad n0 L xs D s H locs M) (K : ∀ (H2 : Heap) (locs2 : List Loc) (lsJ2 : Array Slot) (stJ2 : List Value), em_LR ad sa bs lsJ2 (em_mx mid) b.2.2.1 → em_RS ad sa bs stJ2 b.2.2.2.1 → em_WH ad n0 L xs D s H2 locs2 b.2.2.2.2 → W p l e R s m args below meth c H2 locs2 cells slots Q (F0 m (em_sel b.1 b.2.1) lsJ2 stJ2)) : W p l e R s m args below meth c H locs cells slots Q (F0 m pc lsJ stJ) := by
  obtain ⟨hx, hb, hml, hown, hts, hO, hR1, hR2⟩ := C
  cases st with
  | nil => cases h
  | cons q r =>
    simp only [em_step] at h
    cases hq : Nat.beq q.1 1 with
    | true => simp only [hq, cond_true] at h; cases h
    | false =>
      simp only [hq, cond_false] at h
      cases h
      obtain ⟨v, r2, rfl, hv, hr⟩ := em_RS_cons hst
      refine lv_pop hx hb hdg (by rw [em_RV_cat hv, hq]; rfl) ?_
      exact K _ _ _ _ hls hr hW
theorem w_dup2  (C : em_Cx sa bs n0 L xs p s m args c R mid d) (hdg : decode (em_b mid) pc = .ok (.dup2, 1))  (h : em_step mid pc (.dup2) aux ls st M = some (.inl b)) (hne : em_sel b.1 b.2.1 ≠ 999999) (hls : em_LR ad sa bs lsJ (em_mx mid) ls) (hst : em_RS ad sa bs stJ st) (hW : em_WH ad n0 L xs D s H locs M) (K : ∀ (H2 : Heap) (locs2 : List Loc) (lsJ2 : Array Slot) (stJ2 : List Value), em_LR ad sa bs lsJ2 (em_mx mid) b.2.2.1 → em_RS ad sa bs stJ2 b.2.2.2.1 → em_WH ad n0 L xs D s H2 locs2 b.2.2.2.2 → W p l e R s m args below meth c H2 locs2 cells slots Q (F0 m (em_sel b.1 b.2.1) lsJ2 stJ2)) : W p l e R s m args below meth c H locs cells slots Q (F0 m pc lsJ stJ) := by
  obtain ⟨hx, hb, hml, hown, hts, hO, hR1, hR2⟩ := C
  match st, h, hst with
  | [], h, _ => cases h
  | [_], h, _ => cases h
  | q :: w :: r, h, hst =>
    simp only [em_step] at h
    cases hq : Nat.beq q.1 1 || Nat.beq w.1 1 with
    | true => simp only [hq, cond_true] at h; cases h
    | false =>
      simp only [hq, cond_false] at h
      cases h
      rw [Bool.or_eq_false_iff] at hq
      obtain ⟨v, r2, rfl, hv, hr⟩ := em_RS_cons hst
      obtain ⟨v2, r3, rfl, hv2, hr2⟩ := em_RS_cons hr
      refine lv_dup2_11 hx hb hdg (by rw [em_RV_cat hv, hq.1]; rfl) (by rw [em_RV_cat hv2, hq.2]; rfl) ?_
      exact K _ _ _ _ hls ⟨hv, hv2, hv, hv2, hr2⟩ hW
theorem w_iadd  (C : em_Cx sa bs n0 L xs p s m args c R mid d) (hdg : decode (em_b mid) pc = .ok (.iadd, 1))  (h : em_step mid pc (.iadd) aux ls st M = some (.inl b)) (hne : em_sel b.1 b.2.1 ≠ 999999) (hls : em_LR ad sa bs lsJ (em_mx mid) ls) (hst : em_RS ad sa bs stJ st) (hW : em_WH ad n0 L xs D s H locs M) (K : ∀ (H2 : Heap) (locs2 : List Loc) (lsJ2 : Array Slot) (stJ2 : List Value), em_LR ad sa bs lsJ2 (em_mx mid) b.2.2.1 → em_RS ad sa bs stJ2 b.2.2.2.1 → em_WH ad n0 L xs D s H2 locs2 b.2.2.2.2 → W p l e R s m args below meth c H2 locs2 cells slots Q (F0 m (em_sel b.1 b.2.1) lsJ2 stJ2)) : W p l e R s m args below meth c H locs cells slots Q (F0 m pc lsJ stJ) := by
  obtain ⟨hx, hb, hml, hown, hts, hO, hR1, hR2⟩ := C
  simp only [em_step] at h
  obtain ⟨a1, b1, r1, rfl, h⟩ := em_p2_some h
  cases h
  obtain ⟨v2, t1, rfl, hv2, hr⟩ := em_RS_cons hst
  obtain ⟨v1, t2, rfl, hv1, hr2⟩ := em_RS_cons hr
  obtain ⟨y, rfl, rfl⟩ := em_RV_i hv2
  obtain ⟨x, rfl, rfl⟩ := em_RV_i hv1
  refine lv_iadd hx hb hdg ?_
  exact K _ _ _ _ hls ⟨by rw [em_RV]; rw [em_x32], hr2⟩ hW
theorem w_isub  (C : em_Cx sa bs n0 L xs p s m args c R mid d) (hdg : decode (em_b mid) pc = .ok (.isub, 1))  (h : em_step mid pc (.isub) aux ls st M = some (.inl b)) (hne : em_sel b.1 b.2.1 ≠ 999999) (hls : em_LR ad sa bs lsJ (em_mx mid) ls) (hst : em_RS ad sa bs stJ st) (hW : em_WH ad n0 L xs D s H locs M) (K : ∀ (H2 : Heap) (locs2 : List Loc) (lsJ2 : Array Slot) (stJ2 : List Value), em_LR ad sa bs lsJ2 (em_mx mid) b.2.2.1 → em_RS ad sa bs stJ2 b.2.2.2.1 → em_WH ad n0 L xs D s H2 locs2 b.2.2.2.2 → W p l e R s m args below meth c H2 locs2 cells slots Q (F0 m (em_sel b.1 b.2.1) lsJ2 stJ2)) : W p l e R s m args below meth c H locs cells slots Q (F0 m pc lsJ stJ) := by
  obtain ⟨hx, hb, hml, hown, hts, hO, hR1, hR2⟩ := C
  simp only [em_step] at h
  obtain ⟨a1, b1, r1, rfl, h⟩ := em_p2_some h
  cases h
  obtain ⟨v2, t1, rfl, hv2, hr⟩ := em_RS_cons hst
  obtain ⟨v1, t2, rfl, hv1, hr2⟩ := em_RS_cons hr
  obtain ⟨y, rfl, rfl⟩ := em_RV_i hv2
  obtain ⟨x, rfl, rfl⟩ := em_RV_i hv1
  refine lv_isub hx hb hdg ?_
  exact K _ _ _ _ hls ⟨by rw [em_RV]; rw [em_x32s], hr2⟩ hW
theorem w_imul  (C : em_Cx sa bs n0 L xs p s m args c R mid d) (hdg : decode (em_b mid) pc = .ok (.imul, 1))  (h : em_step mid pc (.imul) aux ls st M = some (.inl b)) (hne : em_sel b.1 b.2.1 ≠ 999999) (hls : em_LR ad sa bs lsJ (em_mx mid) ls) (hst : em_RS ad sa bs stJ st) (hW : em_WH ad n0 L xs D s H locs M) (K : ∀ (H2 : Heap) (locs2 : List Loc) (lsJ2 : Array Slot) (stJ2 : List Value), em_LR ad sa bs lsJ2 (em_mx mid) b.2.2.1 → em_RS ad sa bs stJ2 b.2.2.2.1 → em_WH ad n0 L xs D s H2 locs2 b.2.2.2.2 → W p l e R s m args below meth c H2 locs2 cells slots Q (F0 m (em_sel b.1 b.2.1) lsJ2 stJ2)) : W p l e R s m args below meth c H locs cells slots Q (F0 m pc lsJ stJ) := by
  obtain ⟨hx, hb, hml, hown, hts, hO, hR1, hR2⟩ := C
  simp only [em_step] at h
  obtain ⟨a1, b1, r1, rfl, h⟩ := em_p2_some h
  cases h
  obtain ⟨v2, t1, rfl, hv2, hr⟩ := em_RS_cons hst
  obtain ⟨v1, t2, rfl, hv1, hr2⟩ := em_RS_cons hr
  obtain ⟨y, rfl, rfl⟩ := em_RV_i hv2
  obtain ⟨x, rfl, rfl⟩ := em_RV_i hv1
  refine lv_imul hx hb hdg ?_
  exact K _ _ _ _ hls ⟨by rw [em_RV]; rw [em_x32m], hr2⟩ hW
theorem w_iand  (C : em_Cx sa bs n0 L xs p s m args c R mid d) (hdg : decode (em_b mid) pc = .ok (.iand, 1))  (h : em_step mid pc (.iand) aux ls st M = some (.inl b)) (hne : em_sel b.1 b.2.1 ≠ 999999) (hls : em_LR ad sa bs lsJ (em_mx mid) ls) (hst : em_RS ad sa bs stJ st) (hW : em_WH ad n0 L xs D s H locs M) (K : ∀ (H2 : Heap) (locs2 : List Loc) (lsJ2 : Array Slot) (stJ2 : List Value), em_LR ad sa bs lsJ2 (em_mx mid) b.2.2.1 → em_RS ad sa bs stJ2 b.2.2.2.1 → em_WH ad n0 L xs D s H2 locs2 b.2.2.2.2 → W p l e R s m args below meth c H2 locs2 cells slots Q (F0 m (em_sel b.1 b.2.1) lsJ2 stJ2)) : W p l e R s m args below meth c H locs cells slots Q (F0 m pc lsJ stJ) := by
  obtain ⟨hx, hb, hml, hown, hts, hO, hR1, hR2⟩ := C
  simp only [em_step] at h
  obtain ⟨a1, b1, r1, rfl, h⟩ := em_p2_some h
  cases h
  obtain ⟨v2, t1, rfl, hv2, hr⟩ := em_RS_cons hst
  obtain ⟨v1, t2, rfl, hv1, hr2⟩ := em_RS_cons hr
  obtain ⟨y, rfl, rfl⟩ := em_RV_i hv2
  obtain ⟨x, rfl, rfl⟩ := em_RV_i hv1
  refine lv_iand hx hb hdg ?_
  exact K _ _ _ _ hls ⟨by rw [em_RV]; rw [x_and, em_oi, em_oi], hr2⟩ hW
theorem w_ior  (C : em_Cx sa bs n0 L xs p s m args c R mid d) (hdg : decode (em_b mid) pc = .ok (.ior, 1))  (h : em_step mid pc (.ior) aux ls st M = some (.inl b)) (hne : em_sel b.1 b.2.1 ≠ 999999) (hls : em_LR ad sa bs lsJ (em_mx mid) ls) (hst : em_RS ad sa bs stJ st) (hW : em_WH ad n0 L xs D s H locs M) (K : ∀ (H2 : Heap) (locs2 : List Loc) (lsJ2 : Array Slot) (stJ2 : List Value), em_LR ad sa bs lsJ2 (em_mx mid) b.2.2.1 → em_RS ad sa bs stJ2 b.2.2.2.1 → em_WH ad n0 L xs D s H2 locs2 b.2.2.2.2 → W p l e R s m args below meth c H2 locs2 cells slots Q (F0 m (em_sel b.1 b.2.1) lsJ2 stJ2)) : W p l e R s m args below meth c H locs cells slots Q (F0 m pc lsJ stJ) := by
  obtain ⟨hx, hb, hml, hown, hts, hO, hR1, hR2⟩ := C
  simp only [em_step] at h
  obtain ⟨a1, b1, r1, rfl, h⟩ := em_p2_some h
  cases h
  obtain ⟨v2, t1, rfl, hv2, hr⟩ := em_RS_cons hst
  obtain ⟨v1, t2, rfl, hv1, hr2⟩ := em_RS_cons hr
  obtain ⟨y, rfl, rfl⟩ := em_RV_i hv2
  obtain ⟨x, rfl, rfl⟩ := em_RV_i hv1
  refine lv_ior hx hb hdg ?_
  exact K _ _ _ _ hls ⟨by rw [em_RV]; rw [x_or, em_oi, em_oi], hr2⟩ hW
theorem w_ixor  (C : em_Cx sa bs n0 L xs p s m args c R mid d) (hdg : decode (em_b mid) pc = .ok (.ixor, 1))  (h : em_step mid pc (.ixor) aux ls st M = some (.inl b)) (hne : em_sel b.1 b.2.1 ≠ 999999) (hls : em_LR ad sa bs lsJ (em_mx mid) ls) (hst : em_RS ad sa bs stJ st) (hW : em_WH ad n0 L xs D s H locs M) (K : ∀ (H2 : Heap) (locs2 : List Loc) (lsJ2 : Array Slot) (stJ2 : List Value), em_LR ad sa bs lsJ2 (em_mx mid) b.2.2.1 → em_RS ad sa bs stJ2 b.2.2.2.1 → em_WH ad n0 L xs D s H2 locs2 b.2.2.2.2 → W p l e R s m args below meth c H2 locs2 cells slots Q (F0 m (em_sel b.1 b.2.1) lsJ2 stJ2)) : W p l e R s m args below meth c H locs cells slots Q (F0 m pc lsJ stJ) := by
  obtain ⟨hx, hb, hml, hown, hts, hO, hR1, hR2⟩ := C
  simp only [em_step] at h
  obtain ⟨a1, b1, r1, rfl, h⟩ := em_p2_some h
  cases h
  obtain ⟨v2, t1, rfl, hv2, hr⟩ := em_RS_cons hst
  obtain ⟨v1, t2, rfl, hv1, hr2⟩ := em_RS_cons hr
  obtain ⟨y, rfl, rfl⟩ := em_RV_i hv2
  obtain ⟨x, rfl, rfl⟩ := em_RV_i hv1
  refine lv_ixor hx hb hdg ?_
  exact K _ _ _ _ hls ⟨by rw [em_RV]; rw [x_xor, em_oi, em_oi], hr2⟩ hW
theorem w_ishl  (C : em_Cx sa bs n0 L xs p s m args c R mid d) (hdg : decode (em_b mid) pc = .ok (.ishl, 1))  (h : em_step mid pc (.ishl) aux ls st M = some (.inl b)) (hne : em_sel b.1 b.2.1 ≠ 999999) (hls : em_LR ad sa bs lsJ (em_mx mid) ls) (hst : em_RS ad sa bs stJ st) (hW : em_WH ad n0 L xs D s H locs M) (K : ∀ (H2 : Heap) (locs2 : List Loc) (lsJ2 : Array Slot) (stJ2 : List Value), em_LR ad sa bs lsJ2 (em_mx mid) b.2.2.1 → em_RS ad sa bs stJ2 b.2.2.2.1 → em_WH ad n0 L xs D s H2 locs2 b.2.2.2.2 → W p l e R s m args below meth c H2 locs2 cells slots Q (F0 m (em_sel b.1 b.2.1) lsJ2 stJ2)) : W p l e R s m args below meth c H locs cells slots Q (F0 m pc lsJ stJ) := by
  obtain ⟨hx, hb, hml, hown, hts, hO, hR1, hR2⟩ := C
  simp only [em_step] at h
  obtain ⟨a1, b1, r1, rfl, h⟩ := em_p2_some h
  cases h
  obtain ⟨v2, t1, rfl, hv2, hr⟩ := em_RS_cons hst
  obtain ⟨v1, t2, rfl, hv1, hr2⟩ := em_RS_cons hr
  obtain ⟨y, rfl, rfl⟩ := em_RV_i hv2
  obtain ⟨x, rfl, rfl⟩ := em_RV_i hv1
  refine lv_ishl hx hb hdg ?_
  exact K _ _ _ _ hls ⟨by rw [em_RV]; rw [x_shl, em_oi, em_oi], hr2⟩ hW
theorem w_ishr  (C : em_Cx sa bs n0 L xs p s m args c R mid d) (hdg : decode (em_b mid) pc = .ok (.ishr, 1))  (h : em_step mid pc (.ishr) aux ls st M = some (.inl b)) (hne : em_sel b.1 b.2.1 ≠ 999999) (hls : em_LR ad sa bs lsJ (em_mx mid) ls) (hst : em_RS ad sa bs stJ st) (hW : em_WH ad n0 L xs D s H locs M) (K : ∀ (H2 : Heap) (locs2 : List Loc) (lsJ2 : Array Slot) (stJ2 : List Value), em_LR ad sa bs lsJ2 (em_mx mid) b.2.2.1 → em_RS ad sa bs stJ2 b.2.2.2.1 → em_WH ad n0 L xs D s H2 locs2 b.2.2.2.2 → W p l e R s m args below meth c H2 locs2 cells slots Q (F0 m (em_sel b.1 b.2.1) lsJ2 stJ2)) : W p l e R s m args below meth c H locs cells slots Q (F0 m pc lsJ stJ) := by
  obtain ⟨hx, hb, hml, hown, hts, hO, hR1, hR2⟩ := C
  simp only [em_step] at h
  obtain ⟨a1, b1, r1, rfl, h⟩ := em_p2_some h
  cases h
  obtain ⟨v2, t1, rfl, hv2, hr⟩ := em_RS_cons hst
  obtain ⟨v1, t2, rfl, hv1, hr2⟩ := em_RS_cons hr
  obtain ⟨y, rfl, rfl⟩ := em_RV_i hv2
  obtain ⟨x, rfl, rfl⟩ := em_RV_i hv1
  refine lv_ishr hx hb hdg ?_
  exact K _ _ _ _ hls ⟨by rw [em_RV]; rw [x_shr, em_oi, em_oi], hr2⟩ hW
theorem w_iushr  (C : em_Cx sa bs n0 L xs p s m args c R mid d) (hdg : decode (em_b mid) pc = .ok (.iushr, 1))  (h : em_step mid pc (.iushr) aux ls st M = some (.inl b)) (hne : em_sel b.1 b.2.1 ≠ 999999) (hls : em_LR ad sa bs lsJ (em_mx mid) ls) (hst : em_RS ad sa bs stJ st) (hW : em_WH ad n0 L xs D s H locs M) (K : ∀ (H2 : Heap) (locs2 : List Loc) (lsJ2 : Array Slot) (stJ2 : List Value), em_LR ad sa bs lsJ2 (em_mx mid) b.2.2.1 → em_RS ad sa bs stJ2 b.2.2.2.1 → em_WH ad n0 L xs D s H2 locs2 b.2.2.2.2 → W p l e R s m args below meth c H2 locs2 cells slots Q (F0 m (em_sel b.1 b.2.1) lsJ2 stJ2)) : W p l e R s m args below meth c H locs cells slots Q (F0 m pc lsJ stJ) := by
  obtain ⟨hx, hb, hml, hown, hts, hO, hR1, hR2⟩ := C
  simp only [em_step] at h
  obtain ⟨a1, b1, r1, rfl, h⟩ := em_p2_some h
  cases h
  obtain ⟨v2, t1, rfl, hv2, hr⟩ := em_RS_cons hst
  obtain ⟨v1, t2, rfl, hv1, hr2⟩ := em_RS_cons hr
  obtain ⟨y, rfl, rfl⟩ := em_RV_i hv2
  obtain ⟨x, rfl, rfl⟩ := em_RV_i hv1
  refine lv_iushr (v := ((x.toUInt32 >>> (y.toUInt32 &&& Int32.toUInt32 31)).toInt32)) hx hb hdg rfl ?_
  exact K _ _ _ _ hls ⟨by rw [em_RV]; rw [x_ushr, em_oi, em_oi], hr2⟩ hW
theorem w_ladd  (C : em_Cx sa bs n0 L xs p s m args c R mid d) (hdg : decode (em_b mid) pc = .ok (.ladd, 1))  (h : em_step mid pc (.ladd) aux ls st M = some (.inl b)) (hne : em_sel b.1 b.2.1 ≠ 999999) (hls : em_LR ad sa bs lsJ (em_mx mid) ls) (hst : em_RS ad sa bs stJ st) (hW : em_WH ad n0 L xs D s H locs M) (K : ∀ (H2 : Heap) (locs2 : List Loc) (lsJ2 : Array Slot) (stJ2 : List Value), em_LR ad sa bs lsJ2 (em_mx mid) b.2.2.1 → em_RS ad sa bs stJ2 b.2.2.2.1 → em_WH ad n0 L xs D s H2 locs2 b.2.2.2.2 → W p l e R s m args below meth c H2 locs2 cells slots Q (F0 m (em_sel b.1 b.2.1) lsJ2 stJ2)) : W p l e R s m args below meth c H locs cells slots Q (F0 m pc lsJ stJ) := by
  obtain ⟨hx, hb, hml, hown, hts, hO, hR1, hR2⟩ := C
  simp only [em_step] at h
  obtain ⟨a1, b1, r1, rfl, h⟩ := em_p2_some h
  cases h
  obtain ⟨v2, t1, rfl, hv2, hr⟩ := em_RS_cons hst
  obtain ⟨v1, t2, rfl, hv1, hr2⟩ := em_RS_cons hr
  obtain ⟨y, rfl, rfl⟩ := em_RV_l hv2
  obtain ⟨x, rfl, rfl⟩ := em_RV_l hv1
  refine lv_ladd hx hb hdg ?_
  exact K _ _ _ _ hls ⟨by rw [em_RV]; rw [em_x64], hr2⟩ hW
theorem w_lsub  (C : em_Cx sa bs n0 L xs p s m args c R mid d) (hdg : decode (em_b mid) pc = .ok (.lsub, 1))  (h : em_step mid pc (.lsub) aux ls st M = some (.inl b)) (hne : em_sel b.1 b.2.1 ≠ 999999) (hls : em_LR ad sa bs lsJ (em_mx mid) ls) (hst : em_RS ad sa bs stJ st) (hW : em_WH ad n0 L xs D s H locs M) (K : ∀ (H2 : Heap) (locs2 : List Loc) (lsJ2 : Array Slot) (stJ2 : List Value), em_LR ad sa bs lsJ2 (em_mx mid) b.2.2.1 → em_RS ad sa bs stJ2 b.2.2.2.1 → em_WH ad n0 L xs D s H2 locs2 b.2.2.2.2 → W p l e R s m args below meth c H2 locs2 cells slots Q (F0 m (em_sel b.1 b.2.1) lsJ2 stJ2)) : W p l e R s m args below meth c H locs cells slots Q (F0 m pc lsJ stJ) := by
  obtain ⟨hx, hb, hml, hown, hts, hO, hR1, hR2⟩ := C
  simp only [em_step] at h
  obtain ⟨a1, b1, r1, rfl, h⟩ := em_p2_some h
  cases h
  obtain ⟨v2, t1, rfl, hv2, hr⟩ := em_RS_cons hst
  obtain ⟨v1, t2, rfl, hv1, hr2⟩ := em_RS_cons hr
  obtain ⟨y, rfl, rfl⟩ := em_RV_l hv2
  obtain ⟨x, rfl, rfl⟩ := em_RV_l hv1
  refine lv_lsub hx hb hdg ?_
  exact K _ _ _ _ hls ⟨by rw [em_RV]; rw [em_x64s], hr2⟩ hW
theorem w_lmul  (C : em_Cx sa bs n0 L xs p s m args c R mid d) (hdg : decode (em_b mid) pc = .ok (.lmul, 1))  (h : em_step mid pc (.lmul) aux ls st M = some (.inl b)) (hne : em_sel b.1 b.2.1 ≠ 999999) (hls : em_LR ad sa bs lsJ (em_mx mid) ls) (hst : em_RS ad sa bs stJ st) (hW : em_WH ad n0 L xs D s H locs M) (K : ∀ (H2 : Heap) (locs2 : List Loc) (lsJ2 : Array Slot) (stJ2 : List Value), em_LR ad sa bs lsJ2 (em_mx mid) b.2.2.1 → em_RS ad sa bs stJ2 b.2.2.2.1 → em_WH ad n0 L xs D s H2 locs2 b.2.2.2.2 → W p l e R s m args below meth c H2 locs2 cells slots Q (F0 m (em_sel b.1 b.2.1) lsJ2 stJ2)) : W p l e R s m args below meth c H locs cells slots Q (F0 m pc lsJ stJ) := by
  obtain ⟨hx, hb, hml, hown, hts, hO, hR1, hR2⟩ := C
  simp only [em_step] at h
  obtain ⟨a1, b1, r1, rfl, h⟩ := em_p2_some h
  cases h
  obtain ⟨v2, t1, rfl, hv2, hr⟩ := em_RS_cons hst
  obtain ⟨v1, t2, rfl, hv1, hr2⟩ := em_RS_cons hr
  obtain ⟨y, rfl, rfl⟩ := em_RV_l hv2
  obtain ⟨x, rfl, rfl⟩ := em_RV_l hv1
  refine lv_lmul hx hb hdg ?_
  exact K _ _ _ _ hls ⟨by rw [em_RV]; rw [em_x64m], hr2⟩ hW
theorem w_land  (C : em_Cx sa bs n0 L xs p s m args c R mid d) (hdg : decode (em_b mid) pc = .ok (.land, 1))  (h : em_step mid pc (.land) aux ls st M = some (.inl b)) (hne : em_sel b.1 b.2.1 ≠ 999999) (hls : em_LR ad sa bs lsJ (em_mx mid) ls) (hst : em_RS ad sa bs stJ st) (hW : em_WH ad n0 L xs D s H locs M) (K : ∀ (H2 : Heap) (locs2 : List Loc) (lsJ2 : Array Slot) (stJ2 : List Value), em_LR ad sa bs lsJ2 (em_mx mid) b.2.2.1 → em_RS ad sa bs stJ2 b.2.2.2.1 → em_WH ad n0 L xs D s H2 locs2 b.2.2.2.2 → W p l e R s m args below meth c H2 locs2 cells slots Q (F0 m (em_sel b.1 b.2.1) lsJ2 stJ2)) : W p l e R s m args below meth c H locs cells slots Q (F0 m pc lsJ stJ) := by
  obtain ⟨hx, hb, hml, hown, hts, hO, hR1, hR2⟩ := C
  simp only [em_step] at h
  obtain ⟨a1, b1, r1, rfl, h⟩ := em_p2_some h
  cases h
  obtain ⟨v2, t1, rfl, hv2, hr⟩ := em_RS_cons hst
  obtain ⟨v1, t2, rfl, hv1, hr2⟩ := em_RS_cons hr
  obtain ⟨y, rfl, rfl⟩ := em_RV_l hv2
  obtain ⟨x, rfl, rfl⟩ := em_RV_l hv1
  refine lv_land hx hb hdg ?_
  exact K _ _ _ _ hls ⟨by rw [em_RV]; rw [x_land, em_ol, em_ol], hr2⟩ hW
theorem w_lor  (C : em_Cx sa bs n0 L xs p s m args c R mid d) (hdg : decode (em_b mid) pc = .ok (.lor, 1))  (h : em_step mid pc (.lor) aux ls st M = some (.inl b)) (hne : em_sel b.1 b.2.1 ≠ 999999) (hls : em_LR ad sa bs lsJ (em_mx mid) ls) (hst : em_RS ad sa bs stJ st) (hW : em_WH ad n0 L xs D s H locs M) (K : ∀ (H2 : Heap) (locs2 : List Loc) (lsJ2 : Array Slot) (stJ2 : List Value), em_LR ad sa bs lsJ2 (em_mx mid) b.2.2.1 → em_RS ad sa bs stJ2 b.2.2.2.1 → em_WH ad n0 L xs D s H2 locs2 b.2.2.2.2 → W p l e R s m args below meth c H2 locs2 cells slots Q (F0 m (em_sel b.1 b.2.1) lsJ2 stJ2)) : W p l e R s m args below meth c H locs cells slots Q (F0 m pc lsJ stJ) := by
  obtain ⟨hx, hb, hml, hown, hts, hO, hR1, hR2⟩ := C
  simp only [em_step] at h
  obtain ⟨a1, b1, r1, rfl, h⟩ := em_p2_some h
  cases h
  obtain ⟨v2, t1, rfl, hv2, hr⟩ := em_RS_cons hst
  obtain ⟨v1, t2, rfl, hv1, hr2⟩ := em_RS_cons hr
  obtain ⟨y, rfl, rfl⟩ := em_RV_l hv2
  obtain ⟨x, rfl, rfl⟩ := em_RV_l hv1
  refine lv_lor hx hb hdg ?_
  exact K _ _ _ _ hls ⟨by rw [em_RV]; rw [x_lor, em_ol, em_ol], hr2⟩ hW
theorem w_lshl  (C : em_Cx sa bs n0 L xs p s m args c R mid d) (hdg : decode (em_b mid) pc = .ok (.lshl, 1))  (h : em_step mid pc (.lshl) aux ls st M = some (.inl b)) (hne : em_sel b.1 b.2.1 ≠ 999999) (hls : em_LR ad sa bs lsJ (em_mx mid) ls) (hst : em_RS ad sa bs stJ st) (hW : em_WH ad n0 L xs D s H locs M) (K : ∀ (H2 : Heap) (locs2 : List Loc) (lsJ2 : Array Slot) (stJ2 : List Value), em_LR ad sa bs lsJ2 (em_mx mid) b.2.2.1 → em_RS ad sa bs stJ2 b.2.2.2.1 → em_WH ad n0 L xs D s H2 locs2 b.2.2.2.2 → W p l e R s m args below meth c H2 locs2 cells slots Q (F0 m (em_sel b.1 b.2.1) lsJ2 stJ2)) : W p l e R s m args below meth c H locs cells slots Q (F0 m pc lsJ stJ) := by
  obtain ⟨hx, hb, hml, hown, hts, hO, hR1, hR2⟩ := C
  simp only [em_step] at h
  obtain ⟨a1, b1, r1, rfl, h⟩ := em_p2_some h
  cases h
  obtain ⟨v2, t1, rfl, hv2, hr⟩ := em_RS_cons hst
  obtain ⟨v1, t2, rfl, hv1, hr2⟩ := em_RS_cons hr
  obtain ⟨y, rfl, rfl⟩ := em_RV_i hv2
  obtain ⟨x, rfl, rfl⟩ := em_RV_l hv1
  refine lv_lshl (v := x <<< (y.toInt64 &&& 63)) hx hb hdg rfl ?_
  exact K _ _ _ _ hls ⟨by rw [em_RV]; rw [x_lshl, em_ol, em_oi], hr2⟩ hW
theorem w_lshr  (C : em_Cx sa bs n0 L xs p s m args c R mid d) (hdg : decode (em_b mid) pc = .ok (.lshr, 1))  (h : em_step mid pc (.lshr) aux ls st M = some (.inl b)) (hne : em_sel b.1 b.2.1 ≠ 999999) (hls : em_LR ad sa bs lsJ (em_mx mid) ls) (hst : em_RS ad sa bs stJ st) (hW : em_WH ad n0 L xs D s H locs M) (K : ∀ (H2 : Heap) (locs2 : List Loc) (lsJ2 : Array Slot) (stJ2 : List Value), em_LR ad sa bs lsJ2 (em_mx mid) b.2.2.1 → em_RS ad sa bs stJ2 b.2.2.2.1 → em_WH ad n0 L xs D s H2 locs2 b.2.2.2.2 → W p l e R s m args below meth c H2 locs2 cells slots Q (F0 m (em_sel b.1 b.2.1) lsJ2 stJ2)) : W p l e R s m args below meth c H locs cells slots Q (F0 m pc lsJ stJ) := by
  obtain ⟨hx, hb, hml, hown, hts, hO, hR1, hR2⟩ := C
  simp only [em_step] at h
  obtain ⟨a1, b1, r1, rfl, h⟩ := em_p2_some h
  cases h
  obtain ⟨v2, t1, rfl, hv2, hr⟩ := em_RS_cons hst
  obtain ⟨v1, t2, rfl, hv1, hr2⟩ := em_RS_cons hr
  obtain ⟨y, rfl, rfl⟩ := em_RV_i hv2
  obtain ⟨x, rfl, rfl⟩ := em_RV_l hv1
  refine lv_lshr (v := x >>> (y.toInt64 &&& 63)) hx hb hdg rfl ?_
  exact K _ _ _ _ hls ⟨by rw [em_RV]; rw [x_lshr, em_ol, em_oi], hr2⟩ hW
theorem w_ldiv  (C : em_Cx sa bs n0 L xs p s m args c R mid d) (hdg : decode (em_b mid) pc = .ok (.ldiv, 1))  (h : em_step mid pc (.ldiv) aux ls st M = some (.inl b)) (hne : em_sel b.1 b.2.1 ≠ 999999) (hls : em_LR ad sa bs lsJ (em_mx mid) ls) (hst : em_RS ad sa bs stJ st) (hW : em_WH ad n0 L xs D s H locs M) (K : ∀ (H2 : Heap) (locs2 : List Loc) (lsJ2 : Array Slot) (stJ2 : List Value), em_LR ad sa bs lsJ2 (em_mx mid) b.2.2.1 → em_RS ad sa bs stJ2 b.2.2.2.1 → em_WH ad n0 L xs D s H2 locs2 b.2.2.2.2 → W p l e R s m args below meth c H2 locs2 cells slots Q (F0 m (em_sel b.1 b.2.1) lsJ2 stJ2)) : W p l e R s m args below meth c H locs cells slots Q (F0 m pc lsJ stJ) := by
  obtain ⟨hx, hb, hml, hown, hts, hO, hR1, hR2⟩ := C
  simp only [em_step] at h
  obtain ⟨a1, b1, r1, rfl, h⟩ := em_p2_some h
  cases h
  obtain ⟨v2, t1, rfl, hv2, hr⟩ := em_RS_cons hst
  obtain ⟨v1, t2, rfl, hv1, hr2⟩ := em_RS_cons hr
  obtain ⟨y, rfl, rfl⟩ := em_RV_l hv2
  obtain ⟨x, rfl, rfl⟩ := em_RV_l hv1
  have hc : ¬ (y.toInt = 0) := fun q => by simp [em_sel, q] at hne
  have hz : ¬ y = 0 := fun q => hc (by rw [q]; rfl)
  have hs : em_sel [(decide (¬ y.toInt = 0), pc + 1)] 999999 = pc + 1 := by simp [em_sel, hc]
  rw [hs] at K
  refine lv_ldiv hx hb hdg hz ?_
  exact K _ _ _ _ hls ⟨by rw [em_RV]; rw [x_ldiv, em_ol, em_ol], hr2⟩ hW
theorem w_lrem  (C : em_Cx sa bs n0 L xs p s m args c R mid d) (hdg : decode (em_b mid) pc = .ok (.lrem, 1))  (h : em_step mid pc (.lrem) aux ls st M = some (.inl b)) (hne : em_sel b.1 b.2.1 ≠ 999999) (hls : em_LR ad sa bs lsJ (em_mx mid) ls) (hst : em_RS ad sa bs stJ st) (hW : em_WH ad n0 L xs D s H locs M) (K : ∀ (H2 : Heap) (locs2 : List Loc) (lsJ2 : Array Slot) (stJ2 : List Value), em_LR ad sa bs lsJ2 (em_mx mid) b.2.2.1 → em_RS ad sa bs stJ2 b.2.2.2.1 → em_WH ad n0 L xs D s H2 locs2 b.2.2.2.2 → W p l e R s m args below meth c H2 locs2 cells slots Q (F0 m (em_sel b.1 b.2.1) lsJ2 stJ2)) : W p l e R s m args below meth c H locs cells slots Q (F0 m pc lsJ stJ) := by
  obtain ⟨hx, hb, hml, hown, hts, hO, hR1, hR2⟩ := C
  simp only [em_step] at h
  obtain ⟨a1, b1, r1, rfl, h⟩ := em_p2_some h
  cases h
  obtain ⟨v2, t1, rfl, hv2, hr⟩ := em_RS_cons hst
  obtain ⟨v1, t2, rfl, hv1, hr2⟩ := em_RS_cons hr
  obtain ⟨y, rfl, rfl⟩ := em_RV_l hv2
  obtain ⟨x, rfl, rfl⟩ := em_RV_l hv1
  have hc : ¬ (y.toInt = 0) := fun q => by simp [em_sel, q] at hne
  have hz : ¬ y = 0 := fun q => hc (by rw [q]; rfl)
  have hs : em_sel [(decide (¬ y.toInt = 0), pc + 1)] 999999 = pc + 1 := by simp [em_sel, hc]
  rw [hs] at K
  refine lv_lrem hx hb hdg hz ?_
  exact K _ _ _ _ hls ⟨by rw [em_RV]; rw [x_lrem, em_ol, em_ol], hr2⟩ hW
theorem em_cmp (x y : Int64) : x_cmp x.toInt y.toInt = (lg_cmp x y).toInt := by
  unfold x_cmp lg_cmp
  by_cases h1 : y.toInt < x.toInt
  · rw [if_pos h1, if_pos (Int64.lt_iff_toInt_lt.mpr h1)]; rfl
  · rw [if_neg h1, if_neg (fun q => h1 (Int64.lt_iff_toInt_lt.mp q))]
    by_cases h2 : x.toInt = y.toInt
    · rw [if_pos h2, if_pos (Int64.toInt_inj.mp h2)]; rfl
    · rw [if_neg h2, if_neg (fun q => h2 (by rw [q]))]; rfl
theorem w_lcmp  (C : em_Cx sa bs n0 L xs p s m args c R mid d) (hdg : decode (em_b mid) pc = .ok (.lcmp, 1))  (h : em_step mid pc (.lcmp) aux ls st M = some (.inl b)) (hne : em_sel b.1 b.2.1 ≠ 999999) (hls : em_LR ad sa bs lsJ (em_mx mid) ls) (hst : em_RS ad sa bs stJ st) (hW : em_WH ad n0 L xs D s H locs M) (K : ∀ (H2 : Heap) (locs2 : List Loc) (lsJ2 : Array Slot) (stJ2 : List Value), em_LR ad sa bs lsJ2 (em_mx mid) b.2.2.1 → em_RS ad sa bs stJ2 b.2.2.2.1 → em_WH ad n0 L xs D s H2 locs2 b.2.2.2.2 → W p l e R s m args below meth c H2 locs2 cells slots Q (F0 m (em_sel b.1 b.2.1) lsJ2 stJ2)) : W p l e R s m args below meth c H locs cells slots Q (F0 m pc lsJ stJ) := by
  obtain ⟨hx, hb, hml, hown, hts, hO, hR1, hR2⟩ := C
  simp only [em_step] at h
  obtain ⟨a1, b1, r1, rfl, h⟩ := em_p2_some h
  cases h
  obtain ⟨v2, t1, rfl, hv2, hr⟩ := em_RS_cons hst
  obtain ⟨v1, t2, rfl, hv1, hr2⟩ := em_RS_cons hr
  obtain ⟨y, rfl, rfl⟩ := em_RV_l hv2
  obtain ⟨x, rfl, rfl⟩ := em_RV_l hv1
  refine W.lcmp hx hb hdg ?_
  exact K _ _ _ _ hls ⟨by rw [em_RV]; rw [em_cmp], hr2⟩ hW
theorem w_i2b  (C : em_Cx sa bs n0 L xs p s m args c R mid d) (hdg : decode (em_b mid) pc = .ok (.i2b, 1))  (h : em_step mid pc (.i2b) aux ls st M = some (.inl b)) (hne : em_sel b.1 b.2.1 ≠ 999999) (hls : em_LR ad sa bs lsJ (em_mx mid) ls) (hst : em_RS ad sa bs stJ st) (hW : em_WH ad n0 L xs D s H locs M) (K : ∀ (H2 : Heap) (locs2 : List Loc) (lsJ2 : Array Slot) (stJ2 : List Value), em_LR ad sa bs lsJ2 (em_mx mid) b.2.2.1 → em_RS ad sa bs stJ2 b.2.2.2.1 → em_WH ad n0 L xs D s H2 locs2 b.2.2.2.2 → W p l e R s m args below meth c H2 locs2 cells slots Q (F0 m (em_sel b.1 b.2.1) lsJ2 stJ2)) : W p l e R s m args below meth c H locs cells slots Q (F0 m pc lsJ stJ) := by
  obtain ⟨hx, hb, hml, hown, hts, hO, hR1, hR2⟩ := C
  simp only [em_step] at h
  cases hg : em_p 0 st with
  | none => rw [hg] at h; cases h
  | some q =>
    rw [hg, Option.bind_some] at h
    cases h
    rw [em_p_some hg] at hst
    obtain ⟨v, r, rfl, hv, hr⟩ := em_RS_cons hst
    obtain ⟨x, rfl, hz⟩ := em_RV_i hv
    refine lv_i2b (v := x.toInt8.toInt32) hx hb hdg rfl ?_
    exact K _ _ _ _ hls ⟨by rw [em_RV, ← hz]; rw [x_i2b, em_oi], hr⟩ hW
theorem w_i2c  (C : em_Cx sa bs n0 L xs p s m args c R mid d) (hdg : decode (em_b mid) pc = .ok (.i2c, 1))  (h : em_step mid pc (.i2c) aux ls st M = some (.inl b)) (hne : em_sel b.1 b.2.1 ≠ 999999) (hls : em_LR ad sa bs lsJ (em_mx mid) ls) (hst : em_RS ad sa bs stJ st) (hW : em_WH ad n0 L xs D s H locs M) (K : ∀ (H2 : Heap) (locs2 : List Loc) (lsJ2 : Array Slot) (stJ2 : List Value), em_LR ad sa bs lsJ2 (em_mx mid) b.2.2.1 → em_RS ad sa bs stJ2 b.2.2.2.1 → em_WH ad n0 L xs D s H2 locs2 b.2.2.2.2 → W p l e R s m args below meth c H2 locs2 cells slots Q (F0 m (em_sel b.1 b.2.1) lsJ2 stJ2)) : W p l e R s m args below meth c H locs cells slots Q (F0 m pc lsJ stJ) := by
  obtain ⟨hx, hb, hml, hown, hts, hO, hR1, hR2⟩ := C
  simp only [em_step] at h
  cases hg : em_p 0 st with
  | none => rw [hg] at h; cases h
  | some q =>
    rw [hg, Option.bind_some] at h
    cases h
    rw [em_p_some hg] at hst
    obtain ⟨v, r, rfl, hv, hr⟩ := em_RS_cons hst
    obtain ⟨x, rfl, hz⟩ := em_RV_i hv
    refine lv_i2c (v := (x.toUInt32 % 65536).toInt32) hx hb hdg rfl ?_
    exact K _ _ _ _ hls ⟨by rw [em_RV, ← hz]; rw [x_i2c, em_oi], hr⟩ hW
theorem w_i2l  (C : em_Cx sa bs n0 L xs p s m args c R mid d) (hdg : decode (em_b mid) pc = .ok (.i2l, 1))  (h : em_step mid pc (.i2l) aux ls st M = some (.inl b)) (hne : em_sel b.1 b.2.1 ≠ 999999) (hls : em_LR ad sa bs lsJ (em_mx mid) ls) (hst : em_RS ad sa bs stJ st) (hW : em_WH ad n0 L xs D s H locs M) (K : ∀ (H2 : Heap) (locs2 : List Loc) (lsJ2 : Array Slot) (stJ2 : List Value), em_LR ad sa bs lsJ2 (em_mx mid) b.2.2.1 → em_RS ad sa bs stJ2 b.2.2.2.1 → em_WH ad n0 L xs D s H2 locs2 b.2.2.2.2 → W p l e R s m args below meth c H2 locs2 cells slots Q (F0 m (em_sel b.1 b.2.1) lsJ2 stJ2)) : W p l e R s m args below meth c H locs cells slots Q (F0 m pc lsJ stJ) := by
  obtain ⟨hx, hb, hml, hown, hts, hO, hR1, hR2⟩ := C
  simp only [em_step] at h
  cases hg : em_p 0 st with
  | none => rw [hg] at h; cases h
  | some q =>
    rw [hg, Option.bind_some] at h
    cases h
    rw [em_p_some hg] at hst
    obtain ⟨v, r, rfl, hv, hr⟩ := em_RS_cons hst
    obtain ⟨x, rfl, hz⟩ := em_RV_i hv
    refine lv_i2l (v := x.toInt64) hx hb hdg rfl ?_
    exact K _ _ _ _ hls ⟨by rw [em_RV, ← hz]; rw [Int32.toInt_toInt64], hr⟩ hW
theorem w_l2i  (C : em_Cx sa bs n0 L xs p s m args c R mid d) (hdg : decode (em_b mid) pc = .ok (.l2i, 1))  (h : em_step mid pc (.l2i) aux ls st M = some (.inl b)) (hne : em_sel b.1 b.2.1 ≠ 999999) (hls : em_LR ad sa bs lsJ (em_mx mid) ls) (hst : em_RS ad sa bs stJ st) (hW : em_WH ad n0 L xs D s H locs M) (K : ∀ (H2 : Heap) (locs2 : List Loc) (lsJ2 : Array Slot) (stJ2 : List Value), em_LR ad sa bs lsJ2 (em_mx mid) b.2.2.1 → em_RS ad sa bs stJ2 b.2.2.2.1 → em_WH ad n0 L xs D s H2 locs2 b.2.2.2.2 → W p l e R s m args below meth c H2 locs2 cells slots Q (F0 m (em_sel b.1 b.2.1) lsJ2 stJ2)) : W p l e R s m args below meth c H locs cells slots Q (F0 m pc lsJ stJ) := by
  obtain ⟨hx, hb, hml, hown, hts, hO, hR1, hR2⟩ := C
  simp only [em_step] at h
  cases hg : em_p 1 st with
  | none => rw [hg] at h; cases h
  | some q =>
    rw [hg, Option.bind_some] at h
    cases h
    rw [em_p_some hg] at hst
    obtain ⟨v, r, rfl, hv, hr⟩ := em_RS_cons hst
    obtain ⟨x, rfl, hz⟩ := em_RV_l hv
    refine lv_l2i (v := x.toInt32) hx hb hdg rfl ?_
    exact K _ _ _ _ hls ⟨by rw [em_RV, ← hz]; rw [Int64.toInt_toInt32]; rfl, hr⟩ hW
theorem em_tgt_eq {pc : Nat} {off : Int} (h : 0 ≤ (pc : Int) + off) : (pc : Int) + off = ((em_tgt pc off : Nat) : Int) := by
  unfold em_tgt; omega
theorem em_ci_eq (v1 v2 : Int32) : v1.toInt = v2.toInt ↔ v1 = v2 := Int32.toInt_inj
theorem em_c0_eq (v : Int32) : v.toInt = 0 ↔ v = 0 := by
  have h := em_ci_eq v 0
  exact h
theorem w_if_eq {off : Int} (C : em_Cx sa bs n0 L xs p s m args c R mid d) (hdg : decode (em_b mid) pc = .ok (.ifCond .eq off, 3)) (ho : 0 ≤ (pc : Int) + off) (h : em_step mid pc (.ifCond .eq off) aux ls st M = some (.inl b)) (hne : em_sel b.1 b.2.1 ≠ 999999) (hls : em_LR ad sa bs lsJ (em_mx mid) ls) (hst : em_RS ad sa bs stJ st) (hW : em_WH ad n0 L xs D s H locs M) (K : ∀ (H2 : Heap) (locs2 : List Loc) (lsJ2 : Array Slot) (stJ2 : List Value), em_LR ad sa bs lsJ2 (em_mx mid) b.2.2.1 → em_RS ad sa bs stJ2 b.2.2.2.1 → em_WH ad n0 L xs D s H2 locs2 b.2.2.2.2 → W p l e R s m args below meth c H2 locs2 cells slots Q (F0 m (em_sel b.1 b.2.1) lsJ2 stJ2)) : W p l e R s m args below meth c H locs cells slots Q (F0 m pc lsJ stJ) := by
  obtain ⟨hx, hb, hml, hown, hts, hO, hR1, hR2⟩ := C
  simp only [em_step] at h
  cases hg : em_p 0 st with
  | none => rw [hg] at h; cases h
  | some q =>
    rw [hg, Option.bind_some] at h
    cases h
    rw [em_p_some hg] at hst
    obtain ⟨v, r, rfl, hv, hr⟩ := em_RS_cons hst
    obtain ⟨x, rfl, hz⟩ := em_RV_i hv
    have hc := em_c0_eq x
    rw [hz] at hc
    refine lv_if_eq hx hb hdg (em_tgt_eq ho) (fun q1 => ?_) (fun q1 => ?_)
    · have hs : em_sel [(em_cond .eq q.1, em_tgt pc off)] (pc + 3) = em_tgt pc off := by
        simp only [em_sel, em_cond, decide_eq_true (hc.mpr q1), cond_true]
      rw [hs] at K
      exact K _ _ _ _ hls hr hW
    · have hs : em_sel [(em_cond .eq q.1, em_tgt pc off)] (pc + 3) = pc + 3 := by
        simp only [em_sel, em_cond, decide_eq_false (fun q2 => q1 (hc.mp q2)), cond_false]
      rw [hs] at K
      exact K _ _ _ _ hls hr hW
theorem w_ic_eq {off : Int} (C : em_Cx sa bs n0 L xs p s m args c R mid d) (hdg : decode (em_b mid) pc = .ok (.if_icmp .eq off, 3)) (ho : 0 ≤ (pc : Int) + off) (h : em_step mid pc (.if_icmp .eq off) aux ls st M = some (.inl b)) (hne : em_sel b.1 b.2.1 ≠ 999999) (hls : em_LR ad sa bs lsJ (em_mx mid) ls) (hst : em_RS ad sa bs stJ st) (hW : em_WH ad n0 L xs D s H locs M) (K : ∀ (H2 : Heap) (locs2 : List Loc) (lsJ2 : Array Slot) (stJ2 : List Value), em_LR ad sa bs lsJ2 (em_mx mid) b.2.2.1 → em_RS ad sa bs stJ2 b.2.2.2.1 → em_WH ad n0 L xs D s H2 locs2 b.2.2.2.2 → W p l e R s m args below meth c H2 locs2 cells slots Q (F0 m (em_sel b.1 b.2.1) lsJ2 stJ2)) : W p l e R s m args below meth c H locs cells slots Q (F0 m pc lsJ stJ) := by
  obtain ⟨hx, hb, hml, hown, hts, hO, hR1, hR2⟩ := C
  simp only [em_step] at h
  obtain ⟨a1, b1, r1, rfl, h⟩ := em_p2_some h
  cases h
  obtain ⟨v2, t1, rfl, hv2, hr⟩ := em_RS_cons hst
  obtain ⟨v1, t2, rfl, hv1, hr2⟩ := em_RS_cons hr
  obtain ⟨y, rfl, rfl⟩ := em_RV_i hv2
  obtain ⟨x, rfl, rfl⟩ := em_RV_i hv1
  have hc := em_ci_eq x y
  refine lv_icmp_eq hx hb hdg (em_tgt_eq ho) (fun q1 => ?_) (fun q1 => ?_)
  · have hs : em_sel [(em_icmp .eq x.toInt y.toInt, em_tgt pc off)] (pc + 3) = em_tgt pc off := by
      simp only [em_sel, em_icmp, decide_eq_true (hc.mpr q1), cond_true]
    rw [hs] at K
    exact K _ _ _ _ hls hr2 hW
  · have hs : em_sel [(em_icmp .eq x.toInt y.toInt, em_tgt pc off)] (pc + 3) = pc + 3 := by
      simp only [em_sel, em_icmp, decide_eq_false (fun q2 => q1 (hc.mp q2)), cond_false]
    rw [hs] at K
    exact K _ _ _ _ hls hr2 hW
theorem em_ci_ne (v1 v2 : Int32) : ¬ v1.toInt = v2.toInt ↔ ¬ v1 = v2 := not_congr Int32.toInt_inj
theorem em_c0_ne (v : Int32) : ¬ v.toInt = 0 ↔ ¬ v = 0 := by
  have h := em_ci_ne v 0
  exact h
theorem w_if_ne {off : Int} (C : em_Cx sa bs n0 L xs p s m args c R mid d) (hdg : decode (em_b mid) pc = .ok (.ifCond .ne off, 3)) (ho : 0 ≤ (pc : Int) + off) (h : em_step mid pc (.ifCond .ne off) aux ls st M = some (.inl b)) (hne : em_sel b.1 b.2.1 ≠ 999999) (hls : em_LR ad sa bs lsJ (em_mx mid) ls) (hst : em_RS ad sa bs stJ st) (hW : em_WH ad n0 L xs D s H locs M) (K : ∀ (H2 : Heap) (locs2 : List Loc) (lsJ2 : Array Slot) (stJ2 : List Value), em_LR ad sa bs lsJ2 (em_mx mid) b.2.2.1 → em_RS ad sa bs stJ2 b.2.2.2.1 → em_WH ad n0 L xs D s H2 locs2 b.2.2.2.2 → W p l e R s m args below meth c H2 locs2 cells slots Q (F0 m (em_sel b.1 b.2.1) lsJ2 stJ2)) : W p l e R s m args below meth c H locs cells slots Q (F0 m pc lsJ stJ) := by
  obtain ⟨hx, hb, hml, hown, hts, hO, hR1, hR2⟩ := C
  simp only [em_step] at h
  cases hg : em_p 0 st with
  | none => rw [hg] at h; cases h
  | some q =>
    rw [hg, Option.bind_some] at h
    cases h
    rw [em_p_some hg] at hst
    obtain ⟨v, r, rfl, hv, hr⟩ := em_RS_cons hst
    obtain ⟨x, rfl, hz⟩ := em_RV_i hv
    have hc := em_c0_ne x
    rw [hz] at hc
    refine lv_if_ne hx hb hdg (em_tgt_eq ho) (fun q1 => ?_) (fun q1 => ?_)
    · have hs : em_sel [(em_cond .ne q.1, em_tgt pc off)] (pc + 3) = em_tgt pc off := by
        simp only [em_sel, em_cond, decide_eq_true (hc.mpr q1), cond_true]
      rw [hs] at K
      exact K _ _ _ _ hls hr hW
    · have hs : em_sel [(em_cond .ne q.1, em_tgt pc off)] (pc + 3) = pc + 3 := by
        simp only [em_sel, em_cond, decide_eq_false (fun q2 => (hc.mp q2) q1), cond_false]
      rw [hs] at K
      exact K _ _ _ _ hls hr hW
theorem w_ic_ne {off : Int} (C : em_Cx sa bs n0 L xs p s m args c R mid d) (hdg : decode (em_b mid) pc = .ok (.if_icmp .ne off, 3)) (ho : 0 ≤ (pc : Int) + off) (h : em_step mid pc (.if_icmp .ne off) aux ls st M = some (.inl b)) (hne : em_sel b.1 b.2.1 ≠ 999999) (hls : em_LR ad sa bs lsJ (em_mx mid) ls) (hst : em_RS ad sa bs stJ st) (hW : em_WH ad n0 L xs D s H locs M) (K : ∀ (H2 : Heap) (locs2 : List Loc) (lsJ2 : Array Slot) (stJ2 : List Value), em_LR ad sa bs lsJ2 (em_mx mid) b.2.2.1 → em_RS ad sa bs stJ2 b.2.2.2.1 → em_WH ad n0 L xs D s H2 locs2 b.2.2.2.2 → W p l e R s m args below meth c H2 locs2 cells slots Q (F0 m (em_sel b.1 b.2.1) lsJ2 stJ2)) : W p l e R s m args below meth c H locs cells slots Q (F0 m pc lsJ stJ) := by
  obtain ⟨hx, hb, hml, hown, hts, hO, hR1, hR2⟩ := C
  simp only [em_step] at h
  obtain ⟨a1, b1, r1, rfl, h⟩ := em_p2_some h
  cases h
  obtain ⟨v2, t1, rfl, hv2, hr⟩ := em_RS_cons hst
  obtain ⟨v1, t2, rfl, hv1, hr2⟩ := em_RS_cons hr
  obtain ⟨y, rfl, rfl⟩ := em_RV_i hv2
  obtain ⟨x, rfl, rfl⟩ := em_RV_i hv1
  have hc := em_ci_ne x y
  refine lv_icmp_ne hx hb hdg (em_tgt_eq ho) (fun q1 => ?_) (fun q1 => ?_)
  · have hs : em_sel [(em_icmp .ne x.toInt y.toInt, em_tgt pc off)] (pc + 3) = em_tgt pc off := by
      simp only [em_sel, em_icmp, decide_eq_true (hc.mpr q1), cond_true]
    rw [hs] at K
    exact K _ _ _ _ hls hr2 hW
  · have hs : em_sel [(em_icmp .ne x.toInt y.toInt, em_tgt pc off)] (pc + 3) = pc + 3 := by
      simp only [em_sel, em_icmp, decide_eq_false (fun q2 => (hc.mp q2) q1), cond_false]
    rw [hs] at K
    exact K _ _ _ _ hls hr2 hW
theorem em_ci_lt (v1 v2 : Int32) : v1.toInt < v2.toInt ↔ v1 < v2 := Int32.lt_iff_toInt_lt.symm
theorem em_c0_lt (v : Int32) : v.toInt < 0 ↔ v < 0 := by
  have h := em_ci_lt v 0
  exact h
theorem w_if_lt {off : Int} (C : em_Cx sa bs n0 L xs p s m args c R mid d) (hdg : decode (em_b mid) pc = .ok (.ifCond .lt off, 3)) (ho : 0 ≤ (pc : Int) + off) (h : em_step mid pc (.ifCond .lt off) aux ls st M = some (.inl b)) (hne : em_sel b.1 b.2.1 ≠ 999999) (hls : em_LR ad sa bs lsJ (em_mx mid) ls) (hst : em_RS ad sa bs stJ st) (hW : em_WH ad n0 L xs D s H locs M) (K : ∀ (H2 : Heap) (locs2 : List Loc) (lsJ2 : Array Slot) (stJ2 : List Value), em_LR ad sa bs lsJ2 (em_mx mid) b.2.2.1 → em_RS ad sa bs stJ2 b.2.2.2.1 → em_WH ad n0 L xs D s H2 locs2 b.2.2.2.2 → W p l e R s m args below meth c H2 locs2 cells slots Q (F0 m (em_sel b.1 b.2.1) lsJ2 stJ2)) : W p l e R s m args below meth c H locs cells slots Q (F0 m pc lsJ stJ) := by
  obtain ⟨hx, hb, hml, hown, hts, hO, hR1, hR2⟩ := C
  simp only [em_step] at h
  cases hg : em_p 0 st with
  | none => rw [hg] at h; cases h
  | some q =>
    rw [hg, Option.bind_some] at h
    cases h
    rw [em_p_some hg] at hst
    obtain ⟨v, r, rfl, hv, hr⟩ := em_RS_cons hst
    obtain ⟨x, rfl, hz⟩ := em_RV_i hv
    have hc := em_c0_lt x
    rw [hz] at hc
    refine lv_if_lt hx hb hdg (em_tgt_eq ho) (fun q1 => ?_) (fun q1 => ?_)
    · have hs : em_sel [(em_cond .lt q.1, em_tgt pc off)] (pc + 3) = em_tgt pc off := by
        simp only [em_sel, em_cond, decide_eq_true (hc.mpr q1), cond_true]
      rw [hs] at K
      exact K _ _ _ _ hls hr hW
    · have hs : em_sel [(em_cond .lt q.1, em_tgt pc off)] (pc + 3) = pc + 3 := by
        simp only [em_sel, em_cond, decide_eq_false (fun q2 => q1 (hc.mp q2)), cond_false]
      rw [hs] at K
      exact K _ _ _ _ hls hr hW
theorem w_ic_lt {off : Int} (C : em_Cx sa bs n0 L xs p s m args c R mid d) (hdg : decode (em_b mid) pc = .ok (.if_icmp .lt off, 3)) (ho : 0 ≤ (pc : Int) + off) (h : em_step mid pc (.if_icmp .lt off) aux ls st M = some (.inl b)) (hne : em_sel b.1 b.2.1 ≠ 999999) (hls : em_LR ad sa bs lsJ (em_mx mid) ls) (hst : em_RS ad sa bs stJ st) (hW : em_WH ad n0 L xs D s H locs M) (K : ∀ (H2 : Heap) (locs2 : List Loc) (lsJ2 : Array Slot) (stJ2 : List Value), em_LR ad sa bs lsJ2 (em_mx mid) b.2.2.1 → em_RS ad sa bs stJ2 b.2.2.2.1 → em_WH ad n0 L xs D s H2 locs2 b.2.2.2.2 → W p l e R s m args below meth c H2 locs2 cells slots Q (F0 m (em_sel b.1 b.2.1) lsJ2 stJ2)) : W p l e R s m args below meth c H locs cells slots Q (F0 m pc lsJ stJ) := by
  obtain ⟨hx, hb, hml, hown, hts, hO, hR1, hR2⟩ := C
  simp only [em_step] at h
  obtain ⟨a1, b1, r1, rfl, h⟩ := em_p2_some h
  cases h
  obtain ⟨v2, t1, rfl, hv2, hr⟩ := em_RS_cons hst
  obtain ⟨v1, t2, rfl, hv1, hr2⟩ := em_RS_cons hr
  obtain ⟨y, rfl, rfl⟩ := em_RV_i hv2
  obtain ⟨x, rfl, rfl⟩ := em_RV_i hv1
  have hc := em_ci_lt x y
  refine lv_icmp_lt hx hb hdg (em_tgt_eq ho) (fun q1 => ?_) (fun q1 => ?_)
  · have hs : em_sel [(em_icmp .lt x.toInt y.toInt, em_tgt pc off)] (pc + 3) = em_tgt pc off := by
      simp only [em_sel, em_icmp, decide_eq_true (hc.mpr q1), cond_true]
    rw [hs] at K
    exact K _ _ _ _ hls hr2 hW
  · have hs : em_sel [(em_icmp .lt x.toInt y.toInt, em_tgt pc off)] (pc + 3) = pc + 3 := by
      simp only [em_sel, em_icmp, decide_eq_false (fun q2 => q1 (hc.mp q2)), cond_false]
    rw [hs] at K
    exact K _ _ _ _ hls hr2 hW
theorem em_ci_ge (v1 v2 : Int32) : v2.toInt ≤ v1.toInt ↔ v2 ≤ v1 := Int32.le_iff_toInt_le.symm
theorem em_c0_ge (v : Int32) : 0 ≤ v.toInt ↔ 0 ≤ v := by
  have h := em_ci_ge v 0
  exact h
theorem w_if_ge {off : Int} (C : em_Cx sa bs n0 L xs p s m args c R mid d) (hdg : decode (em_b mid) pc = .ok (.ifCond .ge off, 3)) (ho : 0 ≤ (pc : Int) + off) (h : em_step mid pc (.ifCond .ge off) aux ls st M = some (.inl b)) (hne : em_sel b.1 b.2.1 ≠ 999999) (hls : em_LR ad sa bs lsJ (em_mx mid) ls) (hst : em_RS ad sa bs stJ st) (hW : em_WH ad n0 L xs D s H locs M) (K : ∀ (H2 : Heap) (locs2 : List Loc) (lsJ2 : Array Slot) (stJ2 : List Value), em_LR ad sa bs lsJ2 (em_mx mid) b.2.2.1 → em_RS ad sa bs stJ2 b.2.2.2.1 → em_WH ad n0 L xs D s H2 locs2 b.2.2.2.2 → W p l e R s m args below meth c H2 locs2 cells slots Q (F0 m (em_sel b.1 b.2.1) lsJ2 stJ2)) : W p l e R s m args below meth c H locs cells slots Q (F0 m pc lsJ stJ) := by
  obtain ⟨hx, hb, hml, hown, hts, hO, hR1, hR2⟩ := C
  simp only [em_step] at h
  cases hg : em_p 0 st with
  | none => rw [hg] at h; cases h
  | some q =>
    rw [hg, Option.bind_some] at h
    cases h
    rw [em_p_some hg] at hst
    obtain ⟨v, r, rfl, hv, hr⟩ := em_RS_cons hst
    obtain ⟨x, rfl, hz⟩ := em_RV_i hv
    have hc := em_c0_ge x
    rw [hz] at hc
    refine lv_if_ge hx hb hdg (em_tgt_eq ho) (fun q1 => ?_) (fun q1 => ?_)
    · have hs : em_sel [(em_cond .ge q.1, em_tgt pc off)] (pc + 3) = em_tgt pc off := by
        simp only [em_sel, em_cond, decide_eq_true (hc.mpr q1), cond_true]
      rw [hs] at K
      exact K _ _ _ _ hls hr hW
    · have hs : em_sel [(em_cond .ge q.1, em_tgt pc off)] (pc + 3) = pc + 3 := by
        simp only [em_sel, em_cond, decide_eq_false (fun q2 => q1 (hc.mp q2)), cond_false]
      rw [hs] at K
      exact K _ _ _ _ hls hr hW
theorem w_ic_ge {off : Int} (C : em_Cx sa bs n0 L xs p s m args c R mid d) (hdg : decode (em_b mid) pc = .ok (.if_icmp .ge off, 3)) (ho : 0 ≤ (pc : Int) + off) (h : em_step mid pc (.if_icmp .ge off) aux ls st M = some (.inl b)) (hne : em_sel b.1 b.2.1 ≠ 999999) (hls : em_LR ad sa bs lsJ (em_mx mid) ls) (hst : em_RS ad sa bs stJ st) (hW : em_WH ad n0 L xs D s H locs M) (K : ∀ (H2 : Heap) (locs2 : List Loc) (lsJ2 : Array Slot) (stJ2 : List Value), em_LR ad sa bs lsJ2 (em_mx mid) b.2.2.1 → em_RS ad sa bs stJ2 b.2.2.2.1 → em_WH ad n0 L xs D s H2 locs2 b.2.2.2.2 → W p l e R s m args below meth c H2 locs2 cells slots Q (F0 m (em_sel b.1 b.2.1) lsJ2 stJ2)) : W p l e R s m args below meth c H locs cells slots Q (F0 m pc lsJ stJ) := by
  obtain ⟨hx, hb, hml, hown, hts, hO, hR1, hR2⟩ := C
  simp only [em_step] at h
  obtain ⟨a1, b1, r1, rfl, h⟩ := em_p2_some h
  cases h
  obtain ⟨v2, t1, rfl, hv2, hr⟩ := em_RS_cons hst
  obtain ⟨v1, t2, rfl, hv1, hr2⟩ := em_RS_cons hr
  obtain ⟨y, rfl, rfl⟩ := em_RV_i hv2
  obtain ⟨x, rfl, rfl⟩ := em_RV_i hv1
  have hc := em_ci_ge x y
  refine lv_icmp_ge hx hb hdg (em_tgt_eq ho) (fun q1 => ?_) (fun q1 => ?_)
  · have hs : em_sel [(em_icmp .ge x.toInt y.toInt, em_tgt pc off)] (pc + 3) = em_tgt pc off := by
      simp only [em_sel, em_icmp, decide_eq_true (hc.mpr q1), cond_true]
    rw [hs] at K
    exact K _ _ _ _ hls hr2 hW
  · have hs : em_sel [(em_icmp .ge x.toInt y.toInt, em_tgt pc off)] (pc + 3) = pc + 3 := by
      simp only [em_sel, em_icmp, decide_eq_false (fun q2 => q1 (hc.mp q2)), cond_false]
    rw [hs] at K
    exact K _ _ _ _ hls hr2 hW
theorem em_ci_gt (v1 v2 : Int32) : v2.toInt < v1.toInt ↔ v2 < v1 := Int32.lt_iff_toInt_lt.symm
theorem em_c0_gt (v : Int32) : 0 < v.toInt ↔ 0 < v := by
  have h := em_ci_gt v 0
  exact h
theorem w_if_gt {off : Int} (C : em_Cx sa bs n0 L xs p s m args c R mid d) (hdg : decode (em_b mid) pc = .ok (.ifCond .gt off, 3)) (ho : 0 ≤ (pc : Int) + off) (h : em_step mid pc (.ifCond .gt off) aux ls st M = some (.inl b)) (hne : em_sel b.1 b.2.1 ≠ 999999) (hls : em_LR ad sa bs lsJ (em_mx mid) ls) (hst : em_RS ad sa bs stJ st) (hW : em_WH ad n0 L xs D s H locs M) (K : ∀ (H2 : Heap) (locs2 : List Loc) (lsJ2 : Array Slot) (stJ2 : List Value), em_LR ad sa bs lsJ2 (em_mx mid) b.2.2.1 → em_RS ad sa bs stJ2 b.2.2.2.1 → em_WH ad n0 L xs D s H2 locs2 b.2.2.2.2 → W p l e R s m args below meth c H2 locs2 cells slots Q (F0 m (em_sel b.1 b.2.1) lsJ2 stJ2)) : W p l e R s m args below meth c H locs cells slots Q (F0 m pc lsJ stJ) := by
  obtain ⟨hx, hb, hml, hown, hts, hO, hR1, hR2⟩ := C
  simp only [em_step] at h
  cases hg : em_p 0 st with
  | none => rw [hg] at h; cases h
  | some q =>
    rw [hg, Option.bind_some] at h
    cases h
    rw [em_p_some hg] at hst
    obtain ⟨v, r, rfl, hv, hr⟩ := em_RS_cons hst
    obtain ⟨x, rfl, hz⟩ := em_RV_i hv
    have hc := em_c0_gt x
    rw [hz] at hc
    refine lv_if_gt hx hb hdg (em_tgt_eq ho) (fun q1 => ?_) (fun q1 => ?_)
    · have hs : em_sel [(em_cond .gt q.1, em_tgt pc off)] (pc + 3) = em_tgt pc off := by
        simp only [em_sel, em_cond, decide_eq_true (hc.mpr q1), cond_true]
      rw [hs] at K
      exact K _ _ _ _ hls hr hW
    · have hs : em_sel [(em_cond .gt q.1, em_tgt pc off)] (pc + 3) = pc + 3 := by
        simp only [em_sel, em_cond, decide_eq_false (fun q2 => q1 (hc.mp q2)), cond_false]
      rw [hs] at K
      exact K _ _ _ _ hls hr hW
theorem w_ic_gt {off : Int} (C : em_Cx sa bs n0 L xs p s m args c R mid d) (hdg : decode (em_b mid) pc = .ok (.if_icmp .gt off, 3)) (ho : 0 ≤ (pc : Int) + off) (h : em_step mid pc (.if_icmp .gt off) aux ls st M = some (.inl b)) (hne : em_sel b.1 b.2.1 ≠ 999999) (hls : em_LR ad sa bs lsJ (em_mx mid) ls) (hst : em_RS ad sa bs stJ st) (hW : em_WH ad n0 L xs D s H locs M) (K : ∀ (H2 : Heap) (locs2 : List Loc) (lsJ2 : Array Slot) (stJ2 : List Value), em_LR ad sa bs lsJ2 (em_mx mid) b.2.2.1 → em_RS ad sa bs stJ2 b.2.2.2.1 → em_WH ad n0 L xs D s H2 locs2 b.2.2.2.2 → W p l e R s m args below meth c H2 locs2 cells slots Q (F0 m (em_sel b.1 b.2.1) lsJ2 stJ2)) : W p l e R s m args below meth c H locs cells slots Q (F0 m pc lsJ stJ) := by
  obtain ⟨hx, hb, hml, hown, hts, hO, hR1, hR2⟩ := C
  simp only [em_step] at h
  obtain ⟨a1, b1, r1, rfl, h⟩ := em_p2_some h
  cases h
  obtain ⟨v2, t1, rfl, hv2, hr⟩ := em_RS_cons hst
  obtain ⟨v1, t2, rfl, hv1, hr2⟩ := em_RS_cons hr
  obtain ⟨y, rfl, rfl⟩ := em_RV_i hv2
  obtain ⟨x, rfl, rfl⟩ := em_RV_i hv1
  have hc := em_ci_gt x y
  refine lv_icmp_gt hx hb hdg (em_tgt_eq ho) (fun q1 => ?_) (fun q1 => ?_)
  · have hs : em_sel [(em_icmp .gt x.toInt y.toInt, em_tgt pc off)] (pc + 3) = em_tgt pc off := by
      simp only [em_sel, em_icmp, decide_eq_true (hc.mpr q1), cond_true]
    rw [hs] at K
    exact K _ _ _ _ hls hr2 hW
  · have hs : em_sel [(em_icmp .gt x.toInt y.toInt, em_tgt pc off)] (pc + 3) = pc + 3 := by
      simp only [em_sel, em_icmp, decide_eq_false (fun q2 => q1 (hc.mp q2)), cond_false]
    rw [hs] at K
    exact K _ _ _ _ hls hr2 hW
theorem em_ci_le (v1 v2 : Int32) : v1.toInt ≤ v2.toInt ↔ v1 ≤ v2 := Int32.le_iff_toInt_le.symm
theorem em_c0_le (v : Int32) : v.toInt ≤ 0 ↔ v ≤ 0 := by
  have h := em_ci_le v 0
  exact h
theorem w_if_le {off : Int} (C : em_Cx sa bs n0 L xs p s m args c R mid d) (hdg : decode (em_b mid) pc = .ok (.ifCond .le off, 3)) (ho : 0 ≤ (pc : Int) + off) (h : em_step mid pc (.ifCond .le off) aux ls st M = some (.inl b)) (hne : em_sel b.1 b.2.1 ≠ 999999) (hls : em_LR ad sa bs lsJ (em_mx mid) ls) (hst : em_RS ad sa bs stJ st) (hW : em_WH ad n0 L xs D s H locs M) (K : ∀ (H2 : Heap) (locs2 : List Loc) (lsJ2 : Array Slot) (stJ2 : List Value), em_LR ad sa bs lsJ2 (em_mx mid) b.2.2.1 → em_RS ad sa bs stJ2 b.2.2.2.1 → em_WH ad n0 L xs D s H2 locs2 b.2.2.2.2 → W p l e R s m args below meth c H2 locs2 cells slots Q (F0 m (em_sel b.1 b.2.1) lsJ2 stJ2)) : W p l e R s m args below meth c H locs cells slots Q (F0 m pc lsJ stJ) := by
  obtain ⟨hx, hb, hml, hown, hts, hO, hR1, hR2⟩ := C
  simp only [em_step] at h
  cases hg : em_p 0 st with
  | none => rw [hg] at h; cases h
  | some q =>
    rw [hg, Option.bind_some] at h
    cases h
    rw [em_p_some hg] at hst
    obtain ⟨v, r, rfl, hv, hr⟩ := em_RS_cons hst
    obtain ⟨x, rfl, hz⟩ := em_RV_i hv
    have hc := em_c0_le x
    rw [hz] at hc
    refine lv_if_le hx hb hdg (em_tgt_eq ho) (fun q1 => ?_) (fun q1 => ?_)
    · have hs : em_sel [(em_cond .le q.1, em_tgt pc off)] (pc + 3) = em_tgt pc off := by
        simp only [em_sel, em_cond, decide_eq_true (hc.mpr q1), cond_true]
      rw [hs] at K
      exact K _ _ _ _ hls hr hW
    · have hs : em_sel [(em_cond .le q.1, em_tgt pc off)] (pc + 3) = pc + 3 := by
        simp only [em_sel, em_cond, decide_eq_false (fun q2 => q1 (hc.mp q2)), cond_false]
      rw [hs] at K
      exact K _ _ _ _ hls hr hW
theorem w_ic_le {off : Int} (C : em_Cx sa bs n0 L xs p s m args c R mid d) (hdg : decode (em_b mid) pc = .ok (.if_icmp .le off, 3)) (ho : 0 ≤ (pc : Int) + off) (h : em_step mid pc (.if_icmp .le off) aux ls st M = some (.inl b)) (hne : em_sel b.1 b.2.1 ≠ 999999) (hls : em_LR ad sa bs lsJ (em_mx mid) ls) (hst : em_RS ad sa bs stJ st) (hW : em_WH ad n0 L xs D s H locs M) (K : ∀ (H2 : Heap) (locs2 : List Loc) (lsJ2 : Array Slot) (stJ2 : List Value), em_LR ad sa bs lsJ2 (em_mx mid) b.2.2.1 → em_RS ad sa bs stJ2 b.2.2.2.1 → em_WH ad n0 L xs D s H2 locs2 b.2.2.2.2 → W p l e R s m args below meth c H2 locs2 cells slots Q (F0 m (em_sel b.1 b.2.1) lsJ2 stJ2)) : W p l e R s m args below meth c H locs cells slots Q (F0 m pc lsJ stJ) := by
  obtain ⟨hx, hb, hml, hown, hts, hO, hR1, hR2⟩ := C
  simp only [em_step] at h
  obtain ⟨a1, b1, r1, rfl, h⟩ := em_p2_some h
  cases h
  obtain ⟨v2, t1, rfl, hv2, hr⟩ := em_RS_cons hst
  obtain ⟨v1, t2, rfl, hv1, hr2⟩ := em_RS_cons hr
  obtain ⟨y, rfl, rfl⟩ := em_RV_i hv2
  obtain ⟨x, rfl, rfl⟩ := em_RV_i hv1
  have hc := em_ci_le x y
  refine lv_icmp_le hx hb hdg (em_tgt_eq ho) (fun q1 => ?_) (fun q1 => ?_)
  · have hs : em_sel [(em_icmp .le x.toInt y.toInt, em_tgt pc off)] (pc + 3) = em_tgt pc off := by
      simp only [em_sel, em_icmp, decide_eq_true (hc.mpr q1), cond_true]
    rw [hs] at K
    exact K _ _ _ _ hls hr2 hW
  · have hs : em_sel [(em_icmp .le x.toInt y.toInt, em_tgt pc off)] (pc + 3) = pc + 3 := by
      simp only [em_sel, em_icmp, decide_eq_false (fun q2 => q1 (hc.mp q2)), cond_false]
    rw [hs] at K
    exact K _ _ _ _ hls hr2 hW
theorem w_goto {off : Int} (C : em_Cx sa bs n0 L xs p s m args c R mid d) (hdg : decode (em_b mid) pc = .ok (.goto off, 3)) (ho : 0 ≤ (pc : Int) + off) (h : em_step mid pc (.goto off) aux ls st M = some (.inl b)) (hne : em_sel b.1 b.2.1 ≠ 999999) (hls : em_LR ad sa bs lsJ (em_mx mid) ls) (hst : em_RS ad sa bs stJ st) (hW : em_WH ad n0 L xs D s H locs M) (K : ∀ (H2 : Heap) (locs2 : List Loc) (lsJ2 : Array Slot) (stJ2 : List Value), em_LR ad sa bs lsJ2 (em_mx mid) b.2.2.1 → em_RS ad sa bs stJ2 b.2.2.2.1 → em_WH ad n0 L xs D s H2 locs2 b.2.2.2.2 → W p l e R s m args below meth c H2 locs2 cells slots Q (F0 m (em_sel b.1 b.2.1) lsJ2 stJ2)) : W p l e R s m args below meth c H locs cells slots Q (F0 m pc lsJ stJ) := by
  obtain ⟨hx, hb, hml, hown, hts, hO, hR1, hR2⟩ := C
  cases h
  exact lv_goto hx hb hdg (em_tgt_eq ho) (K _ _ _ _ hls hst hW)
theorem w_ifnull {off : Int} (C : em_Cx sa bs n0 L xs p s m args c R mid d) (hdg : decode (em_b mid) pc = .ok (.ifnull off, 3))  (h : em_step mid pc (.ifnull off) aux ls st M = some (.inl b)) (hne : em_sel b.1 b.2.1 ≠ 999999) (hls : em_LR ad sa bs lsJ (em_mx mid) ls) (hst : em_RS ad sa bs stJ st) (hW : em_WH ad n0 L xs D s H locs M) (K : ∀ (H2 : Heap) (locs2 : List Loc) (lsJ2 : Array Slot) (stJ2 : List Value), em_LR ad sa bs lsJ2 (em_mx mid) b.2.2.1 → em_RS ad sa bs stJ2 b.2.2.2.1 → em_WH ad n0 L xs D s H2 locs2 b.2.2.2.2 → W p l e R s m args below meth c H2 locs2 cells slots Q (F0 m (em_sel b.1 b.2.1) lsJ2 stJ2)) : W p l e R s m args below meth c H locs cells slots Q (F0 m pc lsJ stJ) := by
  obtain ⟨hx, hb, hml, hown, hts, hO, hR1, hR2⟩ := C
  simp only [em_step] at h
  cases hg : em_p 2 st with
  | none => rw [hg] at h; cases h
  | some q =>
    rw [hg, Option.bind_some] at h
    cases h
    rw [em_p_some hg] at hst
    obtain ⟨v, r, rfl, hv, hr⟩ := em_RS_cons hst
    obtain ⟨k, rfl, hz⟩ := em_RV_r hv
    exact lv_ifnull hx hb hdg (K _ _ _ _ hls hr hW)
theorem w_ifnonnull {off : Int} (C : em_Cx sa bs n0 L xs p s m args c R mid d) (hdg : decode (em_b mid) pc = .ok (.ifnonnull off, 3)) (ho : 0 ≤ (pc : Int) + off) (h : em_step mid pc (.ifnonnull off) aux ls st M = some (.inl b)) (hne : em_sel b.1 b.2.1 ≠ 999999) (hls : em_LR ad sa bs lsJ (em_mx mid) ls) (hst : em_RS ad sa bs stJ st) (hW : em_WH ad n0 L xs D s H locs M) (K : ∀ (H2 : Heap) (locs2 : List Loc) (lsJ2 : Array Slot) (stJ2 : List Value), em_LR ad sa bs lsJ2 (em_mx mid) b.2.2.1 → em_RS ad sa bs stJ2 b.2.2.2.1 → em_WH ad n0 L xs D s H2 locs2 b.2.2.2.2 → W p l e R s m args below meth c H2 locs2 cells slots Q (F0 m (em_sel b.1 b.2.1) lsJ2 stJ2)) : W p l e R s m args below meth c H locs cells slots Q (F0 m pc lsJ stJ) := by
  obtain ⟨hx, hb, hml, hown, hts, hO, hR1, hR2⟩ := C
  simp only [em_step] at h
  cases hg : em_p 2 st with
  | none => rw [hg] at h; cases h
  | some q =>
    rw [hg, Option.bind_some] at h
    cases h
    rw [em_p_some hg] at hst
    obtain ⟨v, r, rfl, hv, hr⟩ := em_RS_cons hst
    obtain ⟨k, rfl, hz⟩ := em_RV_r hv
    exact lv_ifnonnull hx hb hdg (em_tgt_eq ho) (K _ _ _ _ hls hr hW)
theorem em_sw_in {pc dd : Nat} {v : Int} : ∀ (l : List Int) (lo : Int) (i : Nat), v = lo + i → i < l.length → ∃ x, l[i]? = some x ∧ em_sel (em_sw pc v lo l) dd = em_tgt pc x
  | [], _, _, _, h => absurd h (Nat.not_lt_zero _)
  | x :: r, lo, 0, hv, _ => ⟨x, rfl, by
    have e : v = lo := by omega
    simp [em_sw, em_sel, e]⟩
  | x :: r, lo, i + 1, hv, h => by
    obtain ⟨y, h1, h2⟩ := em_sw_in (pc := pc) (dd := dd) (v := v) r (lo + 1) i (by omega) (by simpa using h)
    refine ⟨y, h1, ?_⟩
    have e : ¬ v = lo := by omega
    simp only [em_sw, em_sel, decide_eq_false e, cond_false]
    exact h2
theorem em_sw_out {pc dd : Nat} {v : Int} : ∀ (l : List Int) (lo : Int), (v < lo ∨ lo + l.length ≤ v) → em_sel (em_sw pc v lo l) dd = dd
  | [], _, _ => rfl
  | x :: r, lo, h => by
    have hl : ((x :: r).length : Int) = (r.length : Int) + 1 := by simp
    have e : ¬ v = lo := by omega
    simp only [em_sw, em_sel, decide_eq_false e, cond_false]
    exact em_sw_out r (lo + 1) (by omega)
theorem w_switch {dflt lo hi : Int} {offs : Array Int} {len : Nat} (C : em_Cx sa bs n0 L xs p s m args c R mid d) (hdg : decode (em_b mid) pc = .ok (.tableswitch dflt lo hi offs, len)) (ho : 0 ≤ (pc : Int) + dflt) (hh : hi = lo + offs.toList.length - 1) (hall : ∀ x ∈ offs.toList, 0 ≤ (pc : Int) + x) (h : em_step mid pc (.tableswitch dflt lo hi offs) aux ls st M = some (.inl b)) (hne : em_sel b.1 b.2.1 ≠ 999999) (hls : em_LR ad sa bs lsJ (em_mx mid) ls) (hst : em_RS ad sa bs stJ st) (hW : em_WH ad n0 L xs D s H locs M) (K : ∀ (H2 : Heap) (locs2 : List Loc) (lsJ2 : Array Slot) (stJ2 : List Value), em_LR ad sa bs lsJ2 (em_mx mid) b.2.2.1 → em_RS ad sa bs stJ2 b.2.2.2.1 → em_WH ad n0 L xs D s H2 locs2 b.2.2.2.2 → W p l e R s m args below meth c H2 locs2 cells slots Q (F0 m (em_sel b.1 b.2.1) lsJ2 stJ2)) : W p l e R s m args below meth c H locs cells slots Q (F0 m pc lsJ stJ) := by
  obtain ⟨hx, hb, hml, hown, hts, hO, hR1, hR2⟩ := C
  simp only [em_step] at h
  cases hg : em_p 0 st with
  | none => rw [hg] at h; cases h
  | some q =>
    rw [hg, Option.bind_some] at h
    cases h
    rw [em_p_some hg] at hst
    obtain ⟨v, r, rfl, hv, hr⟩ := em_RS_cons hst
    obtain ⟨x, rfl, hz⟩ := em_RV_i hv
    by_cases h1 : x.toInt < lo ∨ hi < x.toInt
    · refine lv_tableOut hx hb hdg h1 (em_tgt_eq ho) ?_
      have e := em_sw_out (pc := pc) (dd := em_tgt pc dflt) (v := q.1) offs.toList lo (by omega)
      rw [e] at K
      exact K _ _ _ _ hls hr hW
    · obtain ⟨y, g1, g2⟩ := em_sw_in (pc := pc) (dd := em_tgt pc dflt) (v := q.1) offs.toList lo (x.toInt - lo).toNat (by omega) (by omega)
      refine lv_tableIn (off := y) hx hb hdg (by omega) (by omega) (by rw [← Array.getElem?_toList]; exact g1) (em_tgt_eq (hall y (List.mem_of_getElem? g1))) ?_
      rw [g2] at K
      exact K _ _ _ _ hls hr hW
end SIM
