/-! CONSTRUCTORS: the rows that read and write cells; the constructor of Object. -/
section KP
variable {sa : Nat → Nat} {bs n0 : Nat} {D : va_G} {S : ek_S}
variable {p : Program} {l : Launch} {e : Env} {R : Room} {s : State} {m : MethodId} {args : Array Value} {below : List Frame} {meth : Method} {c : Code} {Q : State → Prop} {mid d pc cells slots : Nat}
variable {H : Heap} {locs : List Loc} {lsJ : Array Slot} {stJ : List Value}
theorem ek_in_A (n0 k : Nat) : em_A n0 (n0 + k) := Nat.le_add_right n0 k
theorem kx_objInit {i a : Nat} (C : ek_Cx p s m args c R mid d) (hsz : lsJ.size = ek_mx mid) (hdg : decode (ek_b mid) pc = .ok (.invokespecial i, 3)) (w1 : (Jvm.Cond.methodLink (ek_y mid).cls i Lib.objectInit) ∈ em_tbl) (w2 : (Jvm.Cond.code Lib.objectInit ⟨#[0xb1]⟩ 1 none) ∈ em_tbl) (w3 : (Jvm.Cond.instanceMethod Lib.objectInit) ∈ em_tbl) (hroom : (stJ.map fun v => v.category).sum ≤ 8)
    (K : W p l e R s m args below meth c H locs cells slots Q (F0 m (pc + 3) lsJ stJ)) : W p l e R s m args below meth c H locs cells slots Q (F0 m pc lsJ (.ref a :: stJ)) := by
  obtain ⟨hx, hb, hml, hown, hts, hO, hR1, hR2⟩ := C
  exact W.objInit hx hb hown (hts _ w1) (hts _ w3) (hts _ w2) rfl (by rw [hml]; exact hsz) rfl hdg (by omega) (by show 2 * 0 + _ + 12 ≤ _; omega) K
theorem kx_get {i ci j k q : Nat} (C : ek_Cx p s m args c R mid d) (hdg : decode (ek_b mid) pc = .ok (.getfield i, 3)) (h12 : ci < 12) (hj : j < (em_cls ci).2.2) (w1 : (Jvm.Cond.fieldLink (ek_y mid).cls i ((em_cls ci).2.1 j).1 ((em_cls ci).2.1 j).2.1 ((em_cls ci).2.1 j).2.2.1) ∈ em_tbl) (hft : (em_ft ci j).1 = 2)
    (hk : k < S.1) (hkd : em_kdn k = ci) (hv : ek_M S.2.2 (k : Int) (j : Int) = (q : Int)) (hW : ek_WH n0 D s H locs S)
    (K : W p l e R s m args below meth c H locs cells slots Q (F0 m (pc + 3) lsJ (.ref (n0 + q) :: stJ))) : W p l e R s m args below meth c H locs cells slots Q (F0 m pc lsJ (.ref (n0 + k) :: stJ)) := by
  obtain ⟨hx, hb, hml, hown, hts, hO, hR1, hR2⟩ := C
  obtain ⟨ws, tys, hP, hK, hS, hn, hsz, hC, hF⟩ := hW
  obtain ⟨e1, he, hcell⟩ := hC.2 k hk
  obtain ⟨fs, rfl, hlen, hfs⟩ := hcell.1 (by omega)
  rw [hkd] at he hlen hfs
  obtain ⟨v, g1, g2⟩ := hfs j hj
  obtain ⟨o, ho, rfl⟩ := g2.2.2 hft
  have ho2 : o = some (n0 + q) := by
    rcases ho with ⟨h1, -⟩ | ⟨q2, h1, h2⟩
    · omega
    · rw [h2, show q2 = q by omega]
  subst ho2
  exact va_get hx hb hts (em_u_in h12) hown hK hP k he (em_cls_get h12) j hj (hts _ w1) (fun _ z => z) g1 hdg K
/-- a value that a field may take -/
def ek_val (ad : Nat → Nat) (t : Int) (v : Value) (x : Int) : Prop := (t = 0 ∧ ∃ y : Int32, v = .int y ∧ y.toInt = x) ∨ (t = 1 ∧ ∃ y : Int64, v = .long y ∧ y.toInt = x) ∨ (t = 2 ∧ ∃ q : Nat, v = .ref (ad q) ∧ x = (q : Int))
def ek_okty (t : Int) : FieldType → Bool
  | .int => decide (t = 0)
  | .long => decide (t = 1)
  | .object _ => decide (t = 2)
  | .array _ => decide (t = 2)
  | _ => false
theorem ek_val_fits {ad : Nat → Nat} {t x : Int} {v : Value} {ty : FieldType} (h : ek_val ad t v x) (ht : ek_okty t ty = true) : narrow ty v = v ∧ fits ty v = true ∧ ek_fv ad t v x := by
  rcases h with ⟨rfl, y, rfl, hy⟩ | ⟨rfl, y, rfl, hy⟩ | ⟨rfl, q, rfl, hq⟩
  · cases ty <;> first | exact ⟨rfl, rfl, fun _ => ⟨y, rfl, hy⟩, fun q => absurd q (by decide), fun q => absurd q (by decide)⟩ | (simp [ek_okty] at ht)
  · cases ty <;> first | exact ⟨rfl, rfl, fun q => absurd q (by decide), fun _ => ⟨y, rfl, hy⟩, fun q => absurd q (by decide)⟩ | (simp [ek_okty] at ht)
  · cases ty <;> first | exact ⟨rfl, rfl, fun q => absurd q (by decide), fun q => absurd q (by decide), fun _ => ⟨some (ad q), Or.inr ⟨q, hq.symm, rfl⟩, rfl⟩⟩ | (simp [ek_okty] at ht)
theorem kx_put {i ci j k : Nat} {t x : Int} {v : Value} {ty : FieldType} (C : ek_Cx p s m args c R mid d) (hdg : decode (ek_b mid) pc = .ok (.putfield i, 3)) (h12 : ci < 12) (hj : j < (em_cls ci).2.2) (w1 : (Jvm.Cond.fieldLink (ek_y mid).cls i ((em_cls ci).2.1 j).1 ((em_cls ci).2.1 j).2.1 ((em_cls ci).2.1 j).2.2.1) ∈ em_tbl) (hft : (em_ft ci j).1 = t)
    (hfin : ((em_cls ci).2.1 j).2.2.2 = true → meth.name = "<init>") (hdecl : ((em_cls ci).2.1 j).1 = (ek_y mid).cls) (hpd : parseFieldDescriptor ((em_cls ci).2.1 j).2.2.1 = some ty) (hty : ek_okty t ty = true)
    (hk : k < S.1) (hkd : em_kdn k = ci) (hv : ek_val (fun q => n0 + q) t v x) (hW : ek_WH n0 D s H locs S)
    (K : ∀ (H2 : Heap) (locs2 : List Loc), ek_WH n0 D s H2 locs2 (S.1, S.2.1, ((k : Int), (j : Int), x) :: S.2.2) → W p l e R s m args below meth c H2 locs2 cells slots Q (F0 m (pc + 3) lsJ stJ)) : W p l e R s m args below meth c H locs cells slots Q (F0 m pc lsJ (v :: .ref (n0 + k) :: stJ)) := by
  obtain ⟨hx, hb, hml, hown, hts, hO, hR1, hR2⟩ := C
  obtain ⟨ws, tys, hP, hK, hS, hn, hsz, hC, hF⟩ := hW
  obtain ⟨e1, he, hcell⟩ := hC.2 k hk
  obtain ⟨fs, rfl, hlen, hfs⟩ := hcell.1 (by omega)
  rw [hkd] at he hlen hfs
  obtain ⟨hnar, hfit, hfv⟩ := ek_val_fits hv hty
  have hin := em_u_in h12
  have hap := va_apart (own := (ek_y mid).cls) hts hin (em_fty0 ci) (em_fty0_ok h12) (em_nm_ok h12) hK (em_cls_get h12)
  obtain ⟨r, h1, cell, q1, q2, q3, q4⟩ := hP k _ he
  have hr : r = ((em_cls ci).1, (em_cls ci).2.1, (em_cls ci).2.2) := Option.some.inj (h1.symm.trans (em_cls_get h12))
  subst hr
  obtain ⟨hSl, hfc, kC, hkC, hkind⟩ := hK.1 ci _ (em_cls_get h12)
  obtain ⟨cf, kf, fi, f, hi, hsl⟩ := hSl j hj
  have hlay := hts _ (hin _ (u_in_lay hj))
  unfold u_lay at hlay
  have hst := (u_facts hfc hkC (u_lays hts hin hj) hi).1
  have fin : ∀ H1 : Heap, H1[n0 + k]? = some (cell.setSlot (D.2 ci j) v) → H1.size = H.size → (∀ q, q ≠ n0 + k → H1[q]? = H[q]?) → ∀ i2 : Nat, ek_WH n0 D s H1 (locs ++ [⟨n0 + k, i2⟩]) (S.1, S.2.1, ((k : Int), (j : Int), x) :: S.2.2) := fun H1 e1 e2 e3 i2 => by
    refine ⟨ws.set k (n0 + k, .inr (ci, fs.set j v)), tys, hP.set (ek_D hC) he ⟨_, em_cls_get h12, t_OB.to (V := updV (vp_V fs) j v) ⟨_, e1, q2, q3, t_set q4 hap hj v⟩ (fun j2 _ => vp_updV_set (by omega) v j2)⟩ e3, hK, hS.put e2 e3 (ek_in_A n0 k), hn, by show H1.size = n0 + S.1; omega, ek_set hC hk ?_, ek_fr_cons hF hk⟩
    refine ⟨fun _ => ⟨_, by rw [hkd], by rw [List.length_set, hkd]; exact hlen, fun i3 hi3 => ?_⟩, fun q => by omega, fun q => by omega, fun q => by omega, fun q => by omega, fun q => by omega, fun q => by omega, fun q => by omega⟩
    rw [hkd] at hi3 ⊢
    by_cases hij : i3 = j
    · subst hij
      refine ⟨v, List.getElem?_set_self (by omega), ?_⟩
      rw [ek_M]
      show ek_fv _ _ v (xup (ek_M S.2.2) (k : Int) (i3 : Int) x (k : Int) (i3 : Int))
      rw [em_xup_eq, hft]
      exact hfv
    · obtain ⟨v3, g1, g2⟩ := hfs i3 hi3
      refine ⟨v3, by rw [List.getElem?_set_ne (Ne.symm hij)]; exact g1, ?_⟩
      rw [ek_M]
      show ek_fv _ _ v3 (xup (ek_M S.2.2) (k : Int) (j : Int) x (k : Int) (i3 : Int))
      rw [em_xup_ne2 (show (i3 : Int) ≠ (j : Int) by omega)]
      exact g2
  have hcell2 : (D.2 ci j) < cell.slots.size := k2_hasslot (q4 j hj)
  cases hff : ((em_cls ci).2.1 j).2.2.2 with
  | false =>
    rw [if_neg (by rw [hff]; decide)] at hlay
    have h6 := u_store hfc hkC hkind hlay hi hpd hnar hfit
    refine W.putK hx hb (f := f) ⟨hown, hts _ w1, ⟨_, _, _, hi⟩, hst⟩ (by rw [q2]; exact h6) q1 q3 (by rw [hsl]; exact hcell2) rfl rfl hdg fun H1 e1 e2 e3 => ?_
    rw [hsl] at e1 ⊢
    exact K H1 _ (fin H1 e1 e2 e3 _)
  | true =>
    rw [if_pos hff] at hlay
    have hcf : m.cls = cf := by
      obtain ⟨_, _, c', _, _, _, -, -, hf', -, -, -, hown2, -⟩ := Cond.laysFinal_spec hlay
      have e1 : c' = cf := by have := hi.symm.trans hf'; simp at this; exact this.1.symm
      rw [hdecl] at hown2
      rw [← e1]; exact Option.some.inj (hown.symm.trans hown2)
    have h6 := u_fits hfc hkC hkind (Or.inr hlay) hi hpd hnar hfit
    refine W.putFinK hx hb hown (hts _ w1) hi hst hcf (hfin hff) (by rw [q2]; exact h6) q1 q3 (by rw [hsl]; exact hcell2) rfl rfl hdg fun H1 e1 e2 e3 => ?_
    rw [hsl] at e1 ⊢
    exact K H1 _ (fin H1 e1 e2 e3 _)
theorem kx_iast {k : Nat} {z i : Int32} (C : ek_Cx p s m args c R mid d) (hdg : decode (ek_b mid) pc = .ok (.iastore, 1)) (hk : k < S.1) (hkd : em_kdn k = 100) (hin : 0 ≤ i.toInt ∧ i.toInt < (em_lnn k : Int)) (hW : ek_WH n0 D s H locs S)
    (K : ∀ (H2 : Heap) (locs2 : List Loc), ek_WH n0 D s H2 locs2 (S.1, S.2.1, ((k : Int), i.toInt, z.toInt) :: S.2.2) → W p l e R s m args below meth c H2 locs2 cells slots Q (F0 m (pc + 1) lsJ stJ)) : W p l e R s m args below meth c H locs cells slots Q (F0 m pc lsJ (.int z :: .int i :: .ref (n0 + k) :: stJ)) := by
  obtain ⟨hx, hb, hml, hown, hts, hO, hR1, hR2⟩ := C
  obtain ⟨ws, tys, hP, hK, hS, hn, hsz, hC, hF⟩ := hW
  obtain ⟨g1, g2, g3⟩ := em_vpin hin
  obtain ⟨e1, he, hcell⟩ := hC.2 k hk
  obtain ⟨cA, f, rfl, ⟨t0, ht0⟩, hf⟩ := hcell.2.1 hkd
  refine W.iast hx hb (hP k _ he) ((hK.2 t0 _ ht0).1 (em_lnn k) (fun j => .int (f j))) (fun q => by cases q) (by show ¬ (i < 0 ∨ (arrV _ _ _).slots.size ≤ _); rw [arrV_size]; exact g1) rfl rfl hdg fun H1 e z2 oq => ?_
  refine K H1 _ ⟨ws.set k (n0 + k, .inl (cA, em_lnn k, .inl (upd f i.toNatClampNeg z))), tys, hP.set (ek_D hC) he ?_ oq, hK, hS.put z2 oq (ek_in_A n0 k), hn, by show H1.size = n0 + S.1; omega, ek_set hC hk ?_, ek_fr_cons hF hk⟩
  · show H1[n0 + k]? = some (vp_cell _ _)
    rw [e, vp_cell_i, vp_cell_i, arrV_store]
    congr 2
    funext q
    by_cases hq : q = i.toNatClampNeg
    · subst hq; simp [updV, upd]
    · simp [updV, upd, hq]
  · refine ⟨fun q => by omega, fun _ => ⟨cA, _, rfl, ⟨t0, ht0⟩, fun j hj => ?_⟩, fun q => by omega, fun q => by omega, fun q => by omega, fun q => by omega, fun q => by omega, fun q => by omega⟩
    rw [ek_M]
    show _ = xup (ek_M S.2.2) (k : Int) i.toInt z.toInt (k : Int) (j : Int)
    by_cases hji : j = i.toNatClampNeg
    · subst hji
      rw [g2, em_xup_eq]
      simp [upd]
    · rw [em_xup_ne2 (show (j : Int) ≠ i.toInt by omega)]
      simp only [upd, if_neg hji]
      exact hf j hj
theorem kx_last {k : Nat} {z : Int64} {i : Int32} (C : ek_Cx p s m args c R mid d) (hdg : decode (ek_b mid) pc = .ok (.lastore, 1)) (hk : k < S.1) (hkd : em_kdn k = 101) (hin : 0 ≤ i.toInt ∧ i.toInt < (em_lnn k : Int)) (hW : ek_WH n0 D s H locs S)
    (K : ∀ (H2 : Heap) (locs2 : List Loc), ek_WH n0 D s H2 locs2 (S.1, S.2.1, ((k : Int), i.toInt, z.toInt) :: S.2.2) → W p l e R s m args below meth c H2 locs2 cells slots Q (F0 m (pc + 1) lsJ stJ)) : W p l e R s m args below meth c H locs cells slots Q (F0 m pc lsJ (.long z :: .int i :: .ref (n0 + k) :: stJ)) := by
  obtain ⟨hx, hb, hml, hown, hts, hO, hR1, hR2⟩ := C
  obtain ⟨ws, tys, hP, hK, hS, hn, hsz, hC, hF⟩ := hW
  obtain ⟨g1, g2, g3⟩ := em_vpin hin
  obtain ⟨e1, he, hcell⟩ := hC.2 k hk
  obtain ⟨cA, f, rfl, ⟨t0, ht0⟩, hf⟩ := hcell.2.2.1 hkd
  refine W.last hx hb (hP k _ he) ((hK.2 t0 _ ht0).1 (em_lnn k) (fun j => .long (f j))) (fun q => by cases q) (by show ¬ (i < 0 ∨ (arrV _ _ _).slots.size ≤ _); rw [arrV_size]; exact g1) rfl rfl hdg fun H1 e z2 oq => ?_
  refine K H1 _ ⟨ws.set k (n0 + k, .inl (cA, em_lnn k, .inr (.inl (vp_updL f i.toNatClampNeg z)))), tys, hP.set (ek_D hC) he ?_ oq, hK, hS.put z2 oq (ek_in_A n0 k), hn, by show H1.size = n0 + S.1; omega, ek_set hC hk ?_, ek_fr_cons hF hk⟩
  · show H1[n0 + k]? = some (vp_cell _ _)
    rw [e, vp_cell_l, vp_cell_l, arrV_store]
    congr 2
    funext q
    by_cases hq : q = i.toNatClampNeg
    · subst hq; simp [updV, vp_updL]
    · simp [updV, vp_updL, hq]
  · refine ⟨fun q => by omega, fun q => by omega, fun _ => ⟨cA, _, rfl, ⟨t0, ht0⟩, fun j hj => ?_⟩, fun q => by omega, fun q => by omega, fun q => by omega, fun q => by omega, fun q => by omega⟩
    rw [ek_M]
    show _ = xup (ek_M S.2.2) (k : Int) i.toInt z.toInt (k : Int) (j : Int)
    by_cases hji : j = i.toNatClampNeg
    · subst hji
      rw [g2, em_xup_eq]
      simp [vp_updL]
    · rw [em_xup_ne2 (show (j : Int) ≠ i.toInt by omega)]
      simp only [vp_updL, if_neg hji]
      exact hf j hj
theorem kx_aast {k q0 : Nat} {i : Int32} (C : ek_Cx p s m args c R mid d) (hdg : decode (ek_b mid) pc = .ok (.aastore, 1)) (hk : k < S.1) (hkd : em_kdn k = 112) (hq : q0 < S.1) (hqd : em_kdn q0 = 1) (hin : 0 ≤ i.toInt ∧ i.toInt < (em_lnn k : Int)) (hW : ek_WH n0 D s H locs S)
    (K : ∀ (H2 : Heap) (locs2 : List Loc), ek_WH n0 D s H2 locs2 (S.1, S.2.1, ((k : Int), i.toInt, (q0 : Int)) :: S.2.2) → W p l e R s m args below meth c H2 locs2 cells slots Q (F0 m (pc + 1) lsJ stJ)) : W p l e R s m args below meth c H locs cells slots Q (F0 m pc lsJ (.ref (n0 + q0) :: .int i :: .ref (n0 + k) :: stJ)) := by
  obtain ⟨hx, hb, hml, hown, hts, hO, hR1, hR2⟩ := C
  obtain ⟨ws, tys, hP, hK, hS, hn, hsz, hC, hF⟩ := hW
  obtain ⟨g1, g2, g3⟩ := em_vpin hin
  obtain ⟨e1, he, hcell⟩ := hC.2 k hk
  obtain ⟨cA, f, rfl, ⟨t0, ht0⟩, hf⟩ := hcell.2.2.2.2.2.2.2 hkd
  obtain ⟨e2, hev, hcellv⟩ := hC.2 q0 hq
  obtain ⟨fs, rfl, -, -⟩ := hcellv.1 (by omega)
  rw [hqd] at hev
  have hlt : i.toNatClampNeg < em_lnn k := Nat.not_le.mp fun q => g1 (Or.inr q)
  have h0 : ¬ i < 0 := fun q => g1 (Or.inl q)
  obtain ⟨r', hr', cellV, v1, v2, v3, -⟩ := hP q0 _ hev
  have hcls := (hK.1 1 _ (em_cls_get (by decide))).2
  obtain ⟨kA, comp, k1, k2, k3, -⟩ := (hK.2 t0 _ ht0).2
  have hcomp : comp = D.1 1 := Option.some.inj (k3.symm.trans hcls.1)
  subst hcomp
  obtain ⟨kC, hkC, -⟩ := hcls.2
  refine W.aast hx hb (hP k _ he) (fun q h => by cases h) (fun h => by cases h) k1 k2 rfl hkC ⟨h0, by show _ < (arrV _ _ _).slots.size; rw [arrV_size]; exact hlt⟩ v1 (fun q h => by rw [v3] at h; cases h) (by rw [v2]; exact hkC) (by rw [v2]; exact va_assign hcls) rfl rfl hdg fun H1 e z2 oq => ?_
  refine K H1 _ ⟨ws.set k (n0 + k, .inl (cA, em_lnn k, .inr (.inr (.inr (.inr (va_up f i.toNatClampNeg (some (n0 + q0)))))))), tys, hP.set (ek_D hC) he ?_ oq, hK, hS.put z2 oq (ek_in_A n0 k), hn, by show H1.size = n0 + S.1; omega, ek_set hC hk ?_, ek_fr_cons hF hk⟩
  · show H1[n0 + k]? = some (vp_cell _ _)
    rw [e, vp_cell_q, vp_cell_q, arrV_store]
    congr 2
    funext q
    by_cases hq : q = i.toNatClampNeg
    · subst hq; simp [updV, va_up, va_rf]
    · simp [updV, va_up, hq]
  · refine ⟨fun q => by omega, fun q => by omega, fun q => by omega, fun q => by omega, fun q => by omega, fun q => by omega, fun q => by omega, fun _ => ⟨cA, _, rfl, ⟨t0, ht0⟩, fun j hj => ?_⟩⟩
    rw [ek_M]
    show ek_ref _ _ (xup (ek_M S.2.2) (k : Int) i.toInt (q0 : Int) (k : Int) (j : Int))
    by_cases hji : j = i.toNatClampNeg
    · subst hji
      rw [g2, em_xup_eq, va_up_self]
      exact Or.inr ⟨q0, rfl, rfl⟩
    · rw [em_xup_ne2 (show (j : Int) ≠ i.toInt by omega), va_up_ne _ _ hji]
      exact hf j hj
end KP
